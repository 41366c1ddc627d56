theorem dX7_edge_17 : decode cX7_edge 17 = .ok (.iload_n 2, 1) := by decide +kernel
theorem dX7_edge_18 : decode cX7_edge 18 = .ok (.if_icmp .eq 12, 3) := by decide +kernel
theorem dX7_edge_21 : decode cX7_edge 21 = .ok (.iload_n 3, 1) := by decide +kernel
theorem dX7_edge_22 : decode cX7_edge 22 = .ok (.iconst 0, 1) := by decide +kernel
theorem dX7_edge_23 : decode cX7_edge 23 = .ok (.iconst 4, 1) := by decide +kernel
theorem dX7_edge_24 : decode cX7_edge 24 = .ok (.invokestatic 45, 3) := by decide +kernel
theorem dX7_edge_27 : decode cX7_edge 27 = .ok (.ifCond .ne 10, 3) := by decide +kernel
theorem dX7_edge_30 : decode cX7_edge 30 = .ok (.aload_n 0, 1) := by decide +kernel
theorem dX7_edge_31 : decode cX7_edge 31 = .ok (.bipush (-100), 2) := by decide +kernel
theorem dX7_edge_33 : decode cX7_edge 33 = .ok (.invokevirtual 153, 3) := by decide +kernel
theorem dX7_edge_36 : decode cX7_edge 36 = .ok (.ireturn, 1) := by decide +kernel
theorem dX7_edge_37 : decode cX7_edge 37 = .ok (.aload_n 0, 1) := by decide +kernel
theorem dX7_edge_38 : decode cX7_edge 38 = .ok (.invokevirtual 111, 3) := by decide +kernel
theorem dX7_edge_41 : decode cX7_edge 41 = .ok (.iload_n 3, 1) := by decide +kernel
theorem dX7_edge_42 : decode cX7_edge 42 = .ok (.iconst 4, 1) := by decide +kernel
theorem dX7_edge_43 : decode cX7_edge 43 = .ok (.if_icmp .ne 10, 3) := by decide +kernel
theorem dX7_edge_46 : decode cX7_edge 46 = .ok (.aload_n 0, 1) := by decide +kernel
theorem dX7_edge_47 : decode cX7_edge 47 = .ok (.iload_n 1, 1) := by decide +kernel
theorem dX7_edge_48 : decode cX7_edge 48 = .ok (.iload_n 2, 1) := by decide +kernel
theorem dX7_edge_49 : decode cX7_edge 49 = .ok (.invokevirtual 147, 3) := by decide +kernel
theorem dX7_edge_52 : decode cX7_edge 52 = .ok (.ireturn, 1) := by decide +kernel
theorem dX7_edge_53 : decode cX7_edge 53 = .ok (.iload_n 3, 1) := by decide +kernel
theorem dX7_edge_54 : decode cX7_edge 54 = .ok (.ifCond .eq 12, 3) := by decide +kernel
theorem dX7_edge_57 : decode cX7_edge 57 = .ok (.aload_n 0, 1) := by decide +kernel
theorem dX7_edge_58 : decode cX7_edge 58 = .ok (.iload_n 1, 1) := by decide +kernel
theorem dX7_edge_59 : decode cX7_edge 59 = .ok (.iload_n 2, 1) := by decide +kernel
theorem dX7_edge_60 : decode cX7_edge 60 = .ok (.invokevirtual 150, 3) := by decide +kernel
theorem dX7_edge_63 : decode cX7_edge 63 = .ok (.ifCond .ne 18, 3) := by decide +kernel
theorem dX7_edge_66 : decode cX7_edge 66 = .ok (.aload_n 0, 1) := by decide +kernel
theorem dX7_edge_67 : decode cX7_edge 67 = .ok (.iload_n 1, 1) := by decide +kernel
theorem dX7_edge_68 : decode cX7_edge 68 = .ok (.iload_n 2, 1) := by decide +kernel
theorem dX7_edge_69 : decode cX7_edge 69 = .ok (.invokevirtual 150, 3) := by decide +kernel
theorem dX7_edge_72 : decode cX7_edge 72 = .ok (.ifCond .eq 7, 3) := by decide +kernel
theorem dX7_edge_75 : decode cX7_edge 75 = .ok (.iconst 1, 1) := by decide +kernel
theorem dX7_edge_76 : decode cX7_edge 76 = .ok (.goto 4, 3) := by decide +kernel
theorem dX7_edge_79 : decode cX7_edge 79 = .ok (.iconst 0, 1) := by decide +kernel
theorem dX7_edge_80 : decode cX7_edge 80 = .ok (.ireturn, 1) := by decide +kernel
theorem dX7_edge_81 : decode cX7_edge 81 = .ok (.aload_n 0, 1) := by decide +kernel
theorem dX7_edge_82 : decode cX7_edge 82 = .ok (.iload_n 1, 1) := by decide +kernel
theorem dX7_edge_83 : decode cX7_edge 83 = .ok (.iconst 1, 1) := by decide +kernel
theorem dX7_edge_84 : decode cX7_edge 84 = .ok (.invokevirtual 85, 3) := by decide +kernel
theorem dX7_edge_87 : decode cX7_edge 87 = .ok (.aload_n 0, 1) := by decide +kernel
theorem dX7_edge_88 : decode cX7_edge 88 = .ok (.iload_n 2, 1) := by decide +kernel
theorem dX7_edge_89 : decode cX7_edge 89 = .ok (.iconst 2, 1) := by decide +kernel
theorem dX7_edge_90 : decode cX7_edge 90 = .ok (.invokevirtual 85, 3) := by decide +kernel
theorem dX7_edge_93 : decode cX7_edge 93 = .ok (.imul, 1) := by decide +kernel
theorem dX7_edge_94 : decode cX7_edge 94 = .ok (.aload_n 0, 1) := by decide +kernel
theorem dX7_edge_95 : decode cX7_edge 95 = .ok (.iload_n 1, 1) := by decide +kernel
theorem dX7_edge_96 : decode cX7_edge 96 = .ok (.iconst 2, 1) := by decide +kernel
theorem dX7_edge_97 : decode cX7_edge 97 = .ok (.invokevirtual 85, 3) := by decide +kernel
theorem dX7_edge_100 : decode cX7_edge 100 = .ok (.aload_n 0, 1) := by decide +kernel
theorem dX7_edge_101 : decode cX7_edge 101 = .ok (.iload_n 2, 1) := by decide +kernel
theorem dX7_edge_102 : decode cX7_edge 102 = .ok (.iconst 1, 1) := by decide +kernel
theorem dX7_edge_103 : decode cX7_edge 103 = .ok (.invokevirtual 85, 3) := by decide +kernel
theorem dX7_edge_106 : decode cX7_edge 106 = .ok (.imul, 1) := by decide +kernel
theorem dX7_edge_107 : decode cX7_edge 107 = .ok (.isub, 1) := by decide +kernel
theorem dX7_edge_108 : decode cX7_edge 108 = .ok (.istore 4, 2) := by decide +kernel
theorem dX7_edge_110 : decode cX7_edge 110 = .ok (.aload_n 0, 1) := by decide +kernel
theorem dX7_edge_111 : decode cX7_edge 111 = .ok (.iload_n 1, 1) := by decide +kernel
theorem dX7_edge_112 : decode cX7_edge 112 = .ok (.iconst 2, 1) := by decide +kernel
theorem dX7_edge_113 : decode cX7_edge 113 = .ok (.invokevirtual 85, 3) := by decide +kernel
theorem dX7_edge_116 : decode cX7_edge 116 = .ok (.aload_n 0, 1) := by decide +kernel
theorem dX7_edge_117 : decode cX7_edge 117 = .ok (.iload_n 2, 1) := by decide +kernel
theorem dX7_edge_118 : decode cX7_edge 118 = .ok (.iconst 0, 1) := by decide +kernel
theorem dX7_edge_119 : decode cX7_edge 119 = .ok (.invokevirtual 85, 3) := by decide +kernel
theorem dX7_edge_122 : decode cX7_edge 122 = .ok (.imul, 1) := by decide +kernel
theorem dX7_edge_123 : decode cX7_edge 123 = .ok (.aload_n 0, 1) := by decide +kernel
theorem dX7_edge_124 : decode cX7_edge 124 = .ok (.iload_n 1, 1) := by decide +kernel
theorem dX7_edge_125 : decode cX7_edge 125 = .ok (.iconst 0, 1) := by decide +kernel
theorem dX7_edge_126 : decode cX7_edge 126 = .ok (.invokevirtual 85, 3) := by decide +kernel
theorem dX7_edge_129 : decode cX7_edge 129 = .ok (.aload_n 0, 1) := by decide +kernel
theorem dX7_edge_130 : decode cX7_edge 130 = .ok (.iload_n 2, 1) := by decide +kernel
theorem dX7_edge_131 : decode cX7_edge 131 = .ok (.iconst 2, 1) := by decide +kernel
theorem dX7_edge_132 : decode cX7_edge 132 = .ok (.invokevirtual 85, 3) := by decide +kernel
theorem dX7_edge_135 : decode cX7_edge 135 = .ok (.imul, 1) := by decide +kernel
theorem dX7_edge_136 : decode cX7_edge 136 = .ok (.isub, 1) := by decide +kernel
theorem dX7_edge_137 : decode cX7_edge 137 = .ok (.istore 5, 2) := by decide +kernel
theorem dX7_edge_139 : decode cX7_edge 139 = .ok (.aload_n 0, 1) := by decide +kernel
theorem dX7_edge_140 : decode cX7_edge 140 = .ok (.iload_n 1, 1) := by decide +kernel
theorem dX7_edge_141 : decode cX7_edge 141 = .ok (.iconst 0, 1) := by decide +kernel
theorem dX7_edge_142 : decode cX7_edge 142 = .ok (.invokevirtual 85, 3) := by decide +kernel
theorem dX7_edge_145 : decode cX7_edge 145 = .ok (.aload_n 0, 1) := by decide +kernel
theorem dX7_edge_146 : decode cX7_edge 146 = .ok (.iload_n 2, 1) := by decide +kernel
theorem dX7_edge_147 : decode cX7_edge 147 = .ok (.iconst 1, 1) := by decide +kernel
theorem dX7_edge_148 : decode cX7_edge 148 = .ok (.invokevirtual 85, 3) := by decide +kernel
theorem dX7_edge_151 : decode cX7_edge 151 = .ok (.imul, 1) := by decide +kernel
theorem dX7_edge_152 : decode cX7_edge 152 = .ok (.aload_n 0, 1) := by decide +kernel
theorem dX7_edge_153 : decode cX7_edge 153 = .ok (.iload_n 1, 1) := by decide +kernel
theorem dX7_edge_154 : decode cX7_edge 154 = .ok (.iconst 1, 1) := by decide +kernel
theorem dX7_edge_155 : decode cX7_edge 155 = .ok (.invokevirtual 85, 3) := by decide +kernel
theorem dX7_edge_158 : decode cX7_edge 158 = .ok (.aload_n 0, 1) := by decide +kernel
theorem dX7_edge_159 : decode cX7_edge 159 = .ok (.iload_n 2, 1) := by decide +kernel
theorem dX7_edge_160 : decode cX7_edge 160 = .ok (.iconst 0, 1) := by decide +kernel
theorem dX7_edge_161 : decode cX7_edge 161 = .ok (.invokevirtual 85, 3) := by decide +kernel
theorem dX7_edge_164 : decode cX7_edge 164 = .ok (.imul, 1) := by decide +kernel
theorem dX7_edge_165 : decode cX7_edge 165 = .ok (.isub, 1) := by decide +kernel
theorem dX7_edge_166 : decode cX7_edge 166 = .ok (.istore 6, 2) := by decide +kernel
theorem dX7_edge_168 : decode cX7_edge 168 = .ok (.iload 4, 2) := by decide +kernel
theorem dX7_edge_170 : decode cX7_edge 170 = .ok (.iload 5, 2) := by decide +kernel
theorem dX7_edge_172 : decode cX7_edge 172 = .ok (.invokestatic 120, 3) := by decide +kernel
theorem dX7_edge_175 : decode cX7_edge 175 = .ok (.iload 6, 2) := by decide +kernel
theorem dX7_edge_177 : decode cX7_edge 177 = .ok (.invokestatic 120, 3) := by decide +kernel
theorem dX7_edge_180 : decode cX7_edge 180 = .ok (.istore 7, 2) := by decide +kernel
theorem dX7_edge_182 : decode cX7_edge 182 = .ok (.iload 4, 2) := by decide +kernel
theorem dX7_edge_184 : decode cX7_edge 184 = .ok (.ifCond .eq 8, 3) := by decide +kernel
theorem dX7_edge_187 : decode cX7_edge 187 = .ok (.iload 4, 2) := by decide +kernel
theorem dX7_edge_189 : decode cX7_edge 189 = .ok (.goto 15, 3) := by decide +kernel
theorem dX7_edge_192 : decode cX7_edge 192 = .ok (.iload 5, 2) := by decide +kernel
theorem dX7_edge_194 : decode cX7_edge 194 = .ok (.ifCond .eq 8, 3) := by decide +kernel
theorem dX7_edge_197 : decode cX7_edge 197 = .ok (.iload 5, 2) := by decide +kernel
theorem dX7_edge_199 : decode cX7_edge 199 = .ok (.goto 5, 3) := by decide +kernel
theorem dX7_edge_202 : decode cX7_edge 202 = .ok (.iload 6, 2) := by decide +kernel
theorem dX7_edge_204 : decode cX7_edge 204 = .ok (.ifCond .ge 9, 3) := by decide +kernel
theorem dX7_edge_207 : decode cX7_edge 207 = .ok (.iload 7, 2) := by decide +kernel
theorem dX7_edge_209 : decode cX7_edge 209 = .ok (.ineg, 1) := by decide +kernel
theorem dX7_edge_210 : decode cX7_edge 210 = .ok (.goto 5, 3) := by decide +kernel
theorem dX7_edge_213 : decode cX7_edge 213 = .ok (.iload 7, 2) := by decide +kernel
theorem dX7_edge_215 : decode cX7_edge 215 = .ok (.istore 7, 2) := by decide +kernel
theorem dX7_edge_217 : decode cX7_edge 217 = .ok (.iload_n 3, 1) := by decide +kernel
theorem dX7_edge_218 : decode cX7_edge 218 = .ok (.iconst 1, 1) := by decide +kernel
theorem dX7_edge_219 : decode cX7_edge 219 = .ok (.if_icmp .ne 8, 3) := by decide +kernel
theorem dX7_edge_222 : decode cX7_edge 222 = .ok (.iload 4, 2) := by decide +kernel
theorem dX7_edge_224 : decode cX7_edge 224 = .ok (.goto 15, 3) := by decide +kernel
theorem dX7_edge_227 : decode cX7_edge 227 = .ok (.iload_n 3, 1) := by decide +kernel
theorem dX7_edge_228 : decode cX7_edge 228 = .ok (.iconst 2, 1) := by decide +kernel
theorem dX7_edge_229 : decode cX7_edge 229 = .ok (.if_icmp .ne 8, 3) := by decide +kernel
theorem dX7_edge_232 : decode cX7_edge 232 = .ok (.iload 5, 2) := by decide +kernel
theorem dX7_edge_234 : decode cX7_edge 234 = .ok (.goto 5, 3) := by decide +kernel
theorem dX7_edge_237 : decode cX7_edge 237 = .ok (.iload 6, 2) := by decide +kernel
theorem dX7_edge_239 : decode cX7_edge 239 = .ok (.iload 7, 2) := by decide +kernel
theorem dX7_edge_241 : decode cX7_edge 241 = .ok (.idiv, 1) := by decide +kernel
theorem dX7_edge_242 : decode cX7_edge 242 = .ok (.ireturn, 1) := by decide +kernel
theorem dX7_farthest_0 : decode cX7_farthest 0 = .ok (.iconst 0, 1) := by decide +kernel
theorem dX7_farthest_1 : decode cX7_farthest 1 = .ok (.istore 4, 2) := by decide +kernel
theorem dX7_farthest_3 : decode cX7_farthest 3 = .ok (.iconst 1, 1) := by decide +kernel
theorem dX7_farthest_4 : decode cX7_farthest 4 = .ok (.istore 5, 2) := by decide +kernel
theorem dX7_farthest_6 : decode cX7_farthest 6 = .ok (.iload 5, 2) := by decide +kernel
theorem dX7_farthest_8 : decode cX7_farthest 8 = .ok (.aload_n 0, 1) := by decide +kernel
theorem dX7_farthest_9 : decode cX7_farthest 9 = .ok (.getfield 114, 3) := by decide +kernel
theorem dX7_farthest_12 : decode cX7_farthest 12 = .ok (.if_icmp .ge 131, 3) := by decide +kernel
theorem dX7_farthest_15 : decode cX7_farthest 15 = .ok (.iload_n 1, 1) := by decide +kernel
theorem dX7_farthest_16 : decode cX7_farthest 16 = .ok (.aload_n 0, 1) := by decide +kernel
theorem dX7_farthest_17 : decode cX7_farthest 17 = .ok (.getfield 29, 3) := by decide +kernel
theorem dX7_farthest_20 : decode cX7_farthest 20 = .ok (.iconst 5, 1) := by decide +kernel
theorem dX7_farthest_21 : decode cX7_farthest 21 = .ok (.iload 5, 2) := by decide +kernel
theorem dX7_farthest_23 : decode cX7_farthest 23 = .ok (.imul, 1) := by decide +kernel
theorem dX7_farthest_24 : decode cX7_farthest 24 = .ok (.iaload, 1) := by decide +kernel
theorem dX7_farthest_25 : decode cX7_farthest 25 = .ok (.imul, 1) := by decide +kernel
theorem dX7_farthest_26 : decode cX7_farthest 26 = .ok (.iload_n 2, 1) := by decide +kernel
theorem dX7_farthest_27 : decode cX7_farthest 27 = .ok (.aload_n 0, 1) := by decide +kernel
theorem dX7_farthest_28 : decode cX7_farthest 28 = .ok (.getfield 29, 3) := by decide +kernel
theorem dX7_farthest_31 : decode cX7_farthest 31 = .ok (.iconst 5, 1) := by decide +kernel
theorem dX7_farthest_32 : decode cX7_farthest 32 = .ok (.iload 5, 2) := by decide +kernel
theorem dX7_farthest_34 : decode cX7_farthest 34 = .ok (.imul, 1) := by decide +kernel
theorem dX7_farthest_35 : decode cX7_farthest 35 = .ok (.iconst 1, 1) := by decide +kernel
theorem dX7_farthest_36 : decode cX7_farthest 36 = .ok (.iadd, 1) := by decide +kernel
theorem dX7_farthest_37 : decode cX7_farthest 37 = .ok (.iaload, 1) := by decide +kernel
theorem dX7_farthest_38 : decode cX7_farthest 38 = .ok (.imul, 1) := by decide +kernel
theorem dX7_farthest_39 : decode cX7_farthest 39 = .ok (.iadd, 1) := by decide +kernel
theorem dX7_farthest_40 : decode cX7_farthest 40 = .ok (.iload_n 3, 1) := by decide +kernel
theorem dX7_farthest_41 : decode cX7_farthest 41 = .ok (.aload_n 0, 1) := by decide +kernel
theorem dX7_farthest_42 : decode cX7_farthest 42 = .ok (.getfield 29, 3) := by decide +kernel
theorem dX7_farthest_45 : decode cX7_farthest 45 = .ok (.iconst 5, 1) := by decide +kernel
theorem dX7_farthest_46 : decode cX7_farthest 46 = .ok (.iload 5, 2) := by decide +kernel
theorem dX7_farthest_48 : decode cX7_farthest 48 = .ok (.imul, 1) := by decide +kernel
theorem dX7_farthest_49 : decode cX7_farthest 49 = .ok (.iconst 2, 1) := by decide +kernel
theorem dX7_farthest_50 : decode cX7_farthest 50 = .ok (.iadd, 1) := by decide +kernel
theorem dX7_farthest_51 : decode cX7_farthest 51 = .ok (.iaload, 1) := by decide +kernel
theorem dX7_farthest_52 : decode cX7_farthest 52 = .ok (.imul, 1) := by decide +kernel
theorem dX7_farthest_53 : decode cX7_farthest 53 = .ok (.iadd, 1) := by decide +kernel
theorem dX7_farthest_54 : decode cX7_farthest 54 = .ok (.istore 6, 2) := by decide +kernel
theorem dX7_farthest_56 : decode cX7_farthest 56 = .ok (.iload_n 1, 1) := by decide +kernel
theorem dX7_farthest_57 : decode cX7_farthest 57 = .ok (.aload_n 0, 1) := by decide +kernel
theorem dX7_farthest_58 : decode cX7_farthest 58 = .ok (.getfield 29, 3) := by decide +kernel
theorem dX7_farthest_61 : decode cX7_farthest 61 = .ok (.iconst 5, 1) := by decide +kernel
theorem dX7_farthest_62 : decode cX7_farthest 62 = .ok (.iload 4, 2) := by decide +kernel
theorem dX7_farthest_64 : decode cX7_farthest 64 = .ok (.imul, 1) := by decide +kernel
theorem dX7_farthest_65 : decode cX7_farthest 65 = .ok (.iaload, 1) := by decide +kernel
theorem dX7_farthest_66 : decode cX7_farthest 66 = .ok (.imul, 1) := by decide +kernel
theorem dX7_farthest_67 : decode cX7_farthest 67 = .ok (.iload_n 2, 1) := by decide +kernel
theorem dX7_farthest_68 : decode cX7_farthest 68 = .ok (.aload_n 0, 1) := by decide +kernel
theorem dX7_farthest_69 : decode cX7_farthest 69 = .ok (.getfield 29, 3) := by decide +kernel
theorem dX7_farthest_72 : decode cX7_farthest 72 = .ok (.iconst 5, 1) := by decide +kernel
theorem dX7_farthest_73 : decode cX7_farthest 73 = .ok (.iload 4, 2) := by decide +kernel
theorem dX7_farthest_75 : decode cX7_farthest 75 = .ok (.imul, 1) := by decide +kernel
theorem dX7_farthest_76 : decode cX7_farthest 76 = .ok (.iconst 1, 1) := by decide +kernel
theorem dX7_farthest_77 : decode cX7_farthest 77 = .ok (.iadd, 1) := by decide +kernel
theorem dX7_farthest_78 : decode cX7_farthest 78 = .ok (.iaload, 1) := by decide +kernel
theorem dX7_farthest_79 : decode cX7_farthest 79 = .ok (.imul, 1) := by decide +kernel
theorem dX7_farthest_80 : decode cX7_farthest 80 = .ok (.iadd, 1) := by decide +kernel
theorem dX7_farthest_81 : decode cX7_farthest 81 = .ok (.iload_n 3, 1) := by decide +kernel
theorem dX7_farthest_82 : decode cX7_farthest 82 = .ok (.aload_n 0, 1) := by decide +kernel
theorem dX7_farthest_83 : decode cX7_farthest 83 = .ok (.getfield 29, 3) := by decide +kernel
theorem dX7_farthest_86 : decode cX7_farthest 86 = .ok (.iconst 5, 1) := by decide +kernel
theorem dX7_farthest_87 : decode cX7_farthest 87 = .ok (.iload 4, 2) := by decide +kernel
theorem dX7_farthest_89 : decode cX7_farthest 89 = .ok (.imul, 1) := by decide +kernel
theorem dX7_farthest_90 : decode cX7_farthest 90 = .ok (.iconst 2, 1) := by decide +kernel
theorem dX7_farthest_91 : decode cX7_farthest 91 = .ok (.iadd, 1) := by decide +kernel
theorem dX7_farthest_92 : decode cX7_farthest 92 = .ok (.iaload, 1) := by decide +kernel
theorem dX7_farthest_93 : decode cX7_farthest 93 = .ok (.imul, 1) := by decide +kernel
theorem dX7_farthest_94 : decode cX7_farthest 94 = .ok (.iadd, 1) := by decide +kernel
theorem dX7_farthest_95 : decode cX7_farthest 95 = .ok (.istore 7, 2) := by decide +kernel
theorem dX7_farthest_97 : decode cX7_farthest 97 = .ok (.iload 6, 2) := by decide +kernel
theorem dX7_farthest_99 : decode cX7_farthest 99 = .ok (.aload_n 0, 1) := by decide +kernel
theorem dX7_farthest_100 : decode cX7_farthest 100 = .ok (.getfield 29, 3) := by decide +kernel
theorem dX7_farthest_103 : decode cX7_farthest 103 = .ok (.iconst 5, 1) := by decide +kernel
theorem dX7_farthest_104 : decode cX7_farthest 104 = .ok (.iload 4, 2) := by decide +kernel
theorem dX7_farthest_106 : decode cX7_farthest 106 = .ok (.imul, 1) := by decide +kernel
theorem dX7_farthest_107 : decode cX7_farthest 107 = .ok (.iconst 3, 1) := by decide +kernel
theorem dX7_farthest_108 : decode cX7_farthest 108 = .ok (.iadd, 1) := by decide +kernel
theorem dX7_farthest_109 : decode cX7_farthest 109 = .ok (.iaload, 1) := by decide +kernel
theorem dX7_farthest_110 : decode cX7_farthest 110 = .ok (.imul, 1) := by decide +kernel
theorem dX7_farthest_111 : decode cX7_farthest 111 = .ok (.iload 7, 2) := by decide +kernel
theorem dX7_farthest_113 : decode cX7_farthest 113 = .ok (.aload_n 0, 1) := by decide +kernel
theorem dX7_farthest_114 : decode cX7_farthest 114 = .ok (.getfield 29, 3) := by decide +kernel
theorem dX7_farthest_117 : decode cX7_farthest 117 = .ok (.iconst 5, 1) := by decide +kernel
theorem dX7_farthest_118 : decode cX7_farthest 118 = .ok (.iload 5, 2) := by decide +kernel
theorem dX7_farthest_120 : decode cX7_farthest 120 = .ok (.imul, 1) := by decide +kernel
theorem dX7_farthest_121 : decode cX7_farthest 121 = .ok (.iconst 3, 1) := by decide +kernel
theorem dX7_farthest_122 : decode cX7_farthest 122 = .ok (.iadd, 1) := by decide +kernel
theorem dX7_farthest_123 : decode cX7_farthest 123 = .ok (.iaload, 1) := by decide +kernel
theorem dX7_farthest_124 : decode cX7_farthest 124 = .ok (.imul, 1) := by decide +kernel
theorem dX7_farthest_125 : decode cX7_farthest 125 = .ok (.if_icmp .le 8, 3) := by decide +kernel
theorem dX7_farthest_128 : decode cX7_farthest 128 = .ok (.iload 5, 2) := by decide +kernel
theorem dX7_farthest_130 : decode cX7_farthest 130 = .ok (.goto 5, 3) := by decide +kernel
theorem dX7_farthest_133 : decode cX7_farthest 133 = .ok (.iload 4, 2) := by decide +kernel
theorem dX7_farthest_135 : decode cX7_farthest 135 = .ok (.istore 4, 2) := by decide +kernel
theorem dX7_farthest_137 : decode cX7_farthest 137 = .ok (.iinc 5 1, 3) := by decide +kernel
theorem dX7_farthest_140 : decode cX7_farthest 140 = .ok (.goto (-134), 3) := by decide +kernel
theorem dX7_farthest_143 : decode cX7_farthest 143 = .ok (.iload 4, 2) := by decide +kernel
theorem dX7_farthest_145 : decode cX7_farthest 145 = .ok (.ireturn, 1) := by decide +kernel
theorem dX7_farOf_0 : decode cX7_farOf 0 = .ok (.iload_n 2, 1) := by decide +kernel
theorem dX7_farOf_1 : decode cX7_farOf 1 = .ok (.aload_n 0, 1) := by decide +kernel
theorem dX7_farOf_2 : decode cX7_farOf 2 = .ok (.getfield 29, 3) := by decide +kernel
theorem dX7_farOf_5 : decode cX7_farOf 5 = .ok (.iconst 5, 1) := by decide +kernel
theorem dX7_farOf_6 : decode cX7_farOf 6 = .ok (.iload_n 1, 1) := by decide +kernel
theorem dX7_farOf_7 : decode cX7_farOf 7 = .ok (.imul, 1) := by decide +kernel
theorem dX7_farOf_8 : decode cX7_farOf 8 = .ok (.iaload, 1) := by decide +kernel
theorem dX7_farOf_9 : decode cX7_farOf 9 = .ok (.imul, 1) := by decide +kernel
theorem dX7_farOf_10 : decode cX7_farOf 10 = .ok (.iload_n 3, 1) := by decide +kernel
theorem dX7_farOf_11 : decode cX7_farOf 11 = .ok (.aload_n 0, 1) := by decide +kernel
theorem dX7_farOf_12 : decode cX7_farOf 12 = .ok (.getfield 29, 3) := by decide +kernel
theorem dX7_farOf_15 : decode cX7_farOf 15 = .ok (.iconst 5, 1) := by decide +kernel
theorem dX7_farOf_16 : decode cX7_farOf 16 = .ok (.iload_n 1, 1) := by decide +kernel
theorem dX7_farOf_17 : decode cX7_farOf 17 = .ok (.imul, 1) := by decide +kernel
theorem dX7_farOf_18 : decode cX7_farOf 18 = .ok (.iconst 1, 1) := by decide +kernel
theorem dX7_farOf_19 : decode cX7_farOf 19 = .ok (.iadd, 1) := by decide +kernel
theorem dX7_farOf_20 : decode cX7_farOf 20 = .ok (.iaload, 1) := by decide +kernel
theorem dX7_farOf_21 : decode cX7_farOf 21 = .ok (.imul, 1) := by decide +kernel
theorem dX7_farOf_22 : decode cX7_farOf 22 = .ok (.iadd, 1) := by decide +kernel
theorem dX7_farOf_23 : decode cX7_farOf 23 = .ok (.iload 4, 2) := by decide +kernel
theorem dX7_farOf_25 : decode cX7_farOf 25 = .ok (.aload_n 0, 1) := by decide +kernel
theorem dX7_farOf_26 : decode cX7_farOf 26 = .ok (.getfield 29, 3) := by decide +kernel
theorem dX7_farOf_29 : decode cX7_farOf 29 = .ok (.iconst 5, 1) := by decide +kernel
theorem dX7_farOf_30 : decode cX7_farOf 30 = .ok (.iload_n 1, 1) := by decide +kernel
theorem dX7_farOf_31 : decode cX7_farOf 31 = .ok (.imul, 1) := by decide +kernel
theorem dX7_farOf_32 : decode cX7_farOf 32 = .ok (.iconst 2, 1) := by decide +kernel
theorem dX7_farOf_33 : decode cX7_farOf 33 = .ok (.iadd, 1) := by decide +kernel
theorem dX7_farOf_34 : decode cX7_farOf 34 = .ok (.iaload, 1) := by decide +kernel
theorem dX7_farOf_35 : decode cX7_farOf 35 = .ok (.imul, 1) := by decide +kernel
theorem dX7_farOf_36 : decode cX7_farOf 36 = .ok (.iadd, 1) := by decide +kernel
theorem dX7_farOf_37 : decode cX7_farOf 37 = .ok (.ireturn, 1) := by decide +kernel
theorem dX7_reach_0 : decode cX7_reach 0 = .ok (.iload_n 1, 1) := by decide +kernel
theorem dX7_reach_1 : decode cX7_reach 1 = .ok (.iload_n 2, 1) := by decide +kernel
theorem dX7_reach_2 : decode cX7_reach 2 = .ok (.iload_n 3, 1) := by decide +kernel
theorem dX7_reach_3 : decode cX7_reach 3 = .ok (.invokestatic 53, 3) := by decide +kernel
theorem dX7_reach_6 : decode cX7_reach 6 = .ok (.ifCond .ne 10, 3) := by decide +kernel
theorem dX7_reach_9 : decode cX7_reach 9 = .ok (.aload_n 0, 1) := by decide +kernel
theorem dX7_reach_10 : decode cX7_reach 10 = .ok (.bipush (-2), 2) := by decide +kernel
theorem dX7_reach_12 : decode cX7_reach 12 = .ok (.invokevirtual 56, 3) := by decide +kernel
theorem dX7_reach_15 : decode cX7_reach 15 = .ok (.ireturn, 1) := by decide +kernel
theorem dX7_reach_16 : decode cX7_reach 16 = .ok (.aload_n 0, 1) := by decide +kernel
theorem dX7_reach_17 : decode cX7_reach 17 = .ok (.invokevirtual 111, 3) := by decide +kernel
theorem dX7_reach_20 : decode cX7_reach 20 = .ok (.aload_n 0, 1) := by decide +kernel
theorem dX7_reach_21 : decode cX7_reach 21 = .ok (.iload_n 1, 1) := by decide +kernel
theorem dX7_reach_22 : decode cX7_reach 22 = .ok (.iload_n 2, 1) := by decide +kernel
theorem dX7_reach_23 : decode cX7_reach 23 = .ok (.iload_n 3, 1) := by decide +kernel
theorem dX7_reach_24 : decode cX7_reach 24 = .ok (.invokevirtual 180, 3) := by decide +kernel
theorem dX7_reach_27 : decode cX7_reach 27 = .ok (.istore 4, 2) := by decide +kernel
theorem dX7_reach_29 : decode cX7_reach 29 = .ok (.iconst 0, 1) := by decide +kernel
theorem dX7_reach_30 : decode cX7_reach 30 = .ok (.istore 5, 2) := by decide +kernel
theorem dX7_reach_32 : decode cX7_reach 32 = .ok (.iconst 0, 1) := by decide +kernel
theorem dX7_reach_33 : decode cX7_reach 33 = .ok (.istore 6, 2) := by decide +kernel
theorem dX7_reach_35 : decode cX7_reach 35 = .ok (.iload 6, 2) := by decide +kernel
theorem dX7_reach_37 : decode cX7_reach 37 = .ok (.aload_n 0, 1) := by decide +kernel
theorem dX7_reach_38 : decode cX7_reach 38 = .ok (.getfield 114, 3) := by decide +kernel
theorem dX7_reach_41 : decode cX7_reach 41 = .ok (.if_icmp .ge 64, 3) := by decide +kernel
theorem dX7_reach_44 : decode cX7_reach 44 = .ok (.iload 5, 2) := by decide +kernel
theorem dX7_reach_46 : decode cX7_reach 46 = .ok (.aload_n 0, 1) := by decide +kernel
theorem dX7_reach_47 : decode cX7_reach 47 = .ok (.iload 6, 2) := by decide +kernel
theorem dX7_reach_49 : decode cX7_reach 49 = .ok (.iload_n 1, 1) := by decide +kernel
theorem dX7_reach_50 : decode cX7_reach 50 = .ok (.iload_n 2, 1) := by decide +kernel
theorem dX7_reach_51 : decode cX7_reach 51 = .ok (.iload_n 3, 1) := by decide +kernel
theorem dX7_reach_52 : decode cX7_reach 52 = .ok (.invokevirtual 184, 3) := by decide +kernel
theorem dX7_reach_55 : decode cX7_reach 55 = .ok (.aload_n 0, 1) := by decide +kernel
theorem dX7_reach_56 : decode cX7_reach 56 = .ok (.getfield 29, 3) := by decide +kernel
theorem dX7_reach_59 : decode cX7_reach 59 = .ok (.iconst 5, 1) := by decide +kernel
theorem dX7_reach_60 : decode cX7_reach 60 = .ok (.iload 4, 2) := by decide +kernel
theorem dX7_reach_62 : decode cX7_reach 62 = .ok (.imul, 1) := by decide +kernel
theorem dX7_reach_63 : decode cX7_reach 63 = .ok (.iconst 3, 1) := by decide +kernel
theorem dX7_reach_64 : decode cX7_reach 64 = .ok (.iadd, 1) := by decide +kernel
theorem dX7_reach_65 : decode cX7_reach 65 = .ok (.iaload, 1) := by decide +kernel
theorem dX7_reach_66 : decode cX7_reach 66 = .ok (.imul, 1) := by decide +kernel
theorem dX7_reach_67 : decode cX7_reach 67 = .ok (.aload_n 0, 1) := by decide +kernel
theorem dX7_reach_68 : decode cX7_reach 68 = .ok (.iload 4, 2) := by decide +kernel
theorem dX7_reach_70 : decode cX7_reach 70 = .ok (.iload_n 1, 1) := by decide +kernel
theorem dX7_reach_71 : decode cX7_reach 71 = .ok (.iload_n 2, 1) := by decide +kernel
theorem dX7_reach_72 : decode cX7_reach 72 = .ok (.iload_n 3, 1) := by decide +kernel
theorem dX7_reach_73 : decode cX7_reach 73 = .ok (.invokevirtual 184, 3) := by decide +kernel
theorem dX7_reach_76 : decode cX7_reach 76 = .ok (.aload_n 0, 1) := by decide +kernel
theorem dX7_reach_77 : decode cX7_reach 77 = .ok (.getfield 29, 3) := by decide +kernel
theorem dX7_reach_80 : decode cX7_reach 80 = .ok (.iconst 5, 1) := by decide +kernel
theorem dX7_reach_81 : decode cX7_reach 81 = .ok (.iload 6, 2) := by decide +kernel
theorem dX7_reach_83 : decode cX7_reach 83 = .ok (.imul, 1) := by decide +kernel
theorem dX7_reach_84 : decode cX7_reach 84 = .ok (.iconst 3, 1) := by decide +kernel
theorem dX7_reach_85 : decode cX7_reach 85 = .ok (.iadd, 1) := by decide +kernel
theorem dX7_reach_86 : decode cX7_reach 86 = .ok (.iaload, 1) := by decide +kernel
theorem dX7_reach_87 : decode cX7_reach 87 = .ok (.imul, 1) := by decide +kernel
theorem dX7_reach_88 : decode cX7_reach 88 = .ok (.if_icmp .ne 7, 3) := by decide +kernel
theorem dX7_reach_91 : decode cX7_reach 91 = .ok (.iconst 1, 1) := by decide +kernel
theorem dX7_reach_92 : decode cX7_reach 92 = .ok (.goto 4, 3) := by decide +kernel
theorem dX7_reach_95 : decode cX7_reach 95 = .ok (.iconst 0, 1) := by decide +kernel
theorem dX7_reach_96 : decode cX7_reach 96 = .ok (.iadd, 1) := by decide +kernel
theorem dX7_reach_97 : decode cX7_reach 97 = .ok (.istore 5, 2) := by decide +kernel
theorem dX7_reach_99 : decode cX7_reach 99 = .ok (.iinc 6 1, 3) := by decide +kernel
theorem dX7_reach_102 : decode cX7_reach 102 = .ok (.goto (-67), 3) := by decide +kernel
theorem dX7_reach_105 : decode cX7_reach 105 = .ok (.aload_n 0, 1) := by decide +kernel
theorem dX7_reach_106 : decode cX7_reach 106 = .ok (.aload_n 0, 1) := by decide +kernel
theorem dX7_reach_107 : decode cX7_reach 107 = .ok (.iload 4, 2) := by decide +kernel
theorem dX7_reach_109 : decode cX7_reach 109 = .ok (.iload_n 1, 1) := by decide +kernel
theorem dX7_reach_110 : decode cX7_reach 110 = .ok (.iload_n 2, 1) := by decide +kernel
theorem dX7_reach_111 : decode cX7_reach 111 = .ok (.iload_n 3, 1) := by decide +kernel
theorem dX7_reach_112 : decode cX7_reach 112 = .ok (.invokevirtual 184, 3) := by decide +kernel
theorem dX7_reach_115 : decode cX7_reach 115 = .ok (.aload_n 0, 1) := by decide +kernel
theorem dX7_reach_116 : decode cX7_reach 116 = .ok (.getfield 29, 3) := by decide +kernel
theorem dX7_reach_119 : decode cX7_reach 119 = .ok (.iconst 5, 1) := by decide +kernel
theorem dX7_reach_120 : decode cX7_reach 120 = .ok (.iload 4, 2) := by decide +kernel
theorem dX7_reach_122 : decode cX7_reach 122 = .ok (.imul, 1) := by decide +kernel
theorem dX7_reach_123 : decode cX7_reach 123 = .ok (.iconst 3, 1) := by decide +kernel
theorem dX7_reach_124 : decode cX7_reach 124 = .ok (.iadd, 1) := by decide +kernel
theorem dX7_reach_125 : decode cX7_reach 125 = .ok (.iaload, 1) := by decide +kernel
theorem dX7_reach_126 : decode cX7_reach 126 = .ok (.invokevirtual 175, 3) := by decide +kernel
theorem dX7_reach_129 : decode cX7_reach 129 = .ok (.iload 5, 2) := by decide +kernel
theorem dX7_reach_131 : decode cX7_reach 131 = .ok (.ireturn, 1) := by decide +kernel
theorem dX7_isStaying_0 : decode cX7_isStaying 0 = .ok (.iconst 1, 1) := by decide +kernel
theorem dX7_isStaying_1 : decode cX7_isStaying 1 = .ok (.istore_n 2, 1) := by decide +kernel
theorem dX7_isStaying_2 : decode cX7_isStaying 2 = .ok (.iconst 0, 1) := by decide +kernel
theorem dX7_isStaying_3 : decode cX7_isStaying 3 = .ok (.istore_n 3, 1) := by decide +kernel
theorem dX7_isStaying_4 : decode cX7_isStaying 4 = .ok (.iload_n 3, 1) := by decide +kernel
theorem dX7_isStaying_5 : decode cX7_isStaying 5 = .ok (.aload_n 0, 1) := by decide +kernel
theorem dX7_isStaying_6 : decode cX7_isStaying 6 = .ok (.getfield 114, 3) := by decide +kernel
theorem dX7_isStaying_9 : decode cX7_isStaying 9 = .ok (.if_icmp .ge 87, 3) := by decide +kernel
theorem dX7_isStaying_12 : decode cX7_isStaying 12 = .ok (.aload_n 0, 1) := by decide +kernel
theorem dX7_isStaying_13 : decode cX7_isStaying 13 = .ok (.iload_n 1, 1) := by decide +kernel
theorem dX7_isStaying_14 : decode cX7_isStaying 14 = .ok (.aload_n 0, 1) := by decide +kernel
theorem dX7_isStaying_15 : decode cX7_isStaying 15 = .ok (.getfield 29, 3) := by decide +kernel
theorem dX7_isStaying_18 : decode cX7_isStaying 18 = .ok (.iconst 5, 1) := by decide +kernel
theorem dX7_isStaying_19 : decode cX7_isStaying 19 = .ok (.iload_n 3, 1) := by decide +kernel
theorem dX7_isStaying_20 : decode cX7_isStaying 20 = .ok (.imul, 1) := by decide +kernel
theorem dX7_isStaying_21 : decode cX7_isStaying 21 = .ok (.iaload, 1) := by decide +kernel
theorem dX7_isStaying_22 : decode cX7_isStaying 22 = .ok (.aload_n 0, 1) := by decide +kernel
theorem dX7_isStaying_23 : decode cX7_isStaying 23 = .ok (.getfield 29, 3) := by decide +kernel
theorem dX7_isStaying_26 : decode cX7_isStaying 26 = .ok (.iconst 5, 1) := by decide +kernel
theorem dX7_isStaying_27 : decode cX7_isStaying 27 = .ok (.iload_n 3, 1) := by decide +kernel
theorem dX7_isStaying_28 : decode cX7_isStaying 28 = .ok (.imul, 1) := by decide +kernel
theorem dX7_isStaying_29 : decode cX7_isStaying 29 = .ok (.iconst 1, 1) := by decide +kernel
theorem dX7_isStaying_30 : decode cX7_isStaying 30 = .ok (.iadd, 1) := by decide +kernel
theorem dX7_isStaying_31 : decode cX7_isStaying 31 = .ok (.iaload, 1) := by decide +kernel
theorem dX7_isStaying_32 : decode cX7_isStaying 32 = .ok (.aload_n 0, 1) := by decide +kernel
theorem dX7_isStaying_33 : decode cX7_isStaying 33 = .ok (.getfield 29, 3) := by decide +kernel
theorem dX7_isStaying_36 : decode cX7_isStaying 36 = .ok (.iconst 5, 1) := by decide +kernel
theorem dX7_isStaying_37 : decode cX7_isStaying 37 = .ok (.iload_n 3, 1) := by decide +kernel
theorem dX7_isStaying_38 : decode cX7_isStaying 38 = .ok (.imul, 1) := by decide +kernel
theorem dX7_isStaying_39 : decode cX7_isStaying 39 = .ok (.iconst 2, 1) := by decide +kernel
theorem dX7_isStaying_40 : decode cX7_isStaying 40 = .ok (.iadd, 1) := by decide +kernel
theorem dX7_isStaying_41 : decode cX7_isStaying 41 = .ok (.iaload, 1) := by decide +kernel
theorem dX7_isStaying_42 : decode cX7_isStaying 42 = .ok (.invokevirtual 70, 3) := by decide +kernel
theorem dX7_isStaying_45 : decode cX7_isStaying 45 = .ok (.iload_n 2, 1) := by decide +kernel
theorem dX7_isStaying_46 : decode cX7_isStaying 46 = .ok (.ifCond .eq 42, 3) := by decide +kernel
theorem dX7_isStaying_49 : decode cX7_isStaying 49 = .ok (.aload_n 0, 1) := by decide +kernel
theorem dX7_isStaying_50 : decode cX7_isStaying 50 = .ok (.aload_n 0, 1) := by decide +kernel
theorem dX7_isStaying_51 : decode cX7_isStaying 51 = .ok (.getfield 42, 3) := by decide +kernel
theorem dX7_isStaying_54 : decode cX7_isStaying 54 = .ok (.iconst 0, 1) := by decide +kernel
theorem dX7_isStaying_55 : decode cX7_isStaying 55 = .ok (.iaload, 1) := by decide +kernel
theorem dX7_isStaying_56 : decode cX7_isStaying 56 = .ok (.aload_n 0, 1) := by decide +kernel
theorem dX7_isStaying_57 : decode cX7_isStaying 57 = .ok (.getfield 42, 3) := by decide +kernel
theorem dX7_isStaying_60 : decode cX7_isStaying 60 = .ok (.iconst 1, 1) := by decide +kernel
theorem dX7_isStaying_61 : decode cX7_isStaying 61 = .ok (.iaload, 1) := by decide +kernel
theorem dX7_isStaying_62 : decode cX7_isStaying 62 = .ok (.aload_n 0, 1) := by decide +kernel
theorem dX7_isStaying_63 : decode cX7_isStaying 63 = .ok (.getfield 42, 3) := by decide +kernel
theorem dX7_isStaying_66 : decode cX7_isStaying 66 = .ok (.iconst 2, 1) := by decide +kernel
theorem dX7_isStaying_67 : decode cX7_isStaying 67 = .ok (.iaload, 1) := by decide +kernel
theorem dX7_isStaying_68 : decode cX7_isStaying 68 = .ok (.aload_n 0, 1) := by decide +kernel
theorem dX7_isStaying_69 : decode cX7_isStaying 69 = .ok (.getfield 29, 3) := by decide +kernel
theorem dX7_isStaying_72 : decode cX7_isStaying 72 = .ok (.iconst 5, 1) := by decide +kernel
theorem dX7_isStaying_73 : decode cX7_isStaying 73 = .ok (.iload_n 3, 1) := by decide +kernel
theorem dX7_isStaying_74 : decode cX7_isStaying 74 = .ok (.imul, 1) := by decide +kernel
theorem dX7_isStaying_75 : decode cX7_isStaying 75 = .ok (.iconst 3, 1) := by decide +kernel
theorem dX7_isStaying_76 : decode cX7_isStaying 76 = .ok (.iadd, 1) := by decide +kernel
theorem dX7_isStaying_77 : decode cX7_isStaying 77 = .ok (.iaload, 1) := by decide +kernel
theorem dX7_isStaying_78 : decode cX7_isStaying 78 = .ok (.invokevirtual 126, 3) := by decide +kernel
theorem dX7_isStaying_81 : decode cX7_isStaying 81 = .ok (.ifCond .eq 7, 3) := by decide +kernel
theorem dX7_isStaying_84 : decode cX7_isStaying 84 = .ok (.iconst 1, 1) := by decide +kernel
theorem dX7_isStaying_85 : decode cX7_isStaying 85 = .ok (.goto 4, 3) := by decide +kernel
theorem dX7_isStaying_88 : decode cX7_isStaying 88 = .ok (.iconst 0, 1) := by decide +kernel
theorem dX7_isStaying_89 : decode cX7_isStaying 89 = .ok (.istore_n 2, 1) := by decide +kernel
theorem dX7_isStaying_90 : decode cX7_isStaying 90 = .ok (.iinc 3 1, 3) := by decide +kernel
theorem dX7_isStaying_93 : decode cX7_isStaying 93 = .ok (.goto (-89), 3) := by decide +kernel
theorem dX7_isStaying_96 : decode cX7_isStaying 96 = .ok (.iload_n 2, 1) := by decide +kernel
theorem dX7_isStaying_97 : decode cX7_isStaying 97 = .ok (.ireturn, 1) := by decide +kernel
theorem dX7_stays_0 : decode cX7_stays 0 = .ok (.iload_n 1, 1) := by decide +kernel
theorem dX7_stays_1 : decode cX7_stays 1 = .ok (.iconst 0, 1) := by decide +kernel
theorem dX7_stays_2 : decode cX7_stays 2 = .ok (.iconst 5, 1) := by decide +kernel
theorem dX7_stays_3 : decode cX7_stays 3 = .ok (.invokestatic 45, 3) := by decide +kernel
theorem dX7_stays_6 : decode cX7_stays 6 = .ok (.ifCond .ne 10, 3) := by decide +kernel
theorem dX7_stays_9 : decode cX7_stays 9 = .ok (.aload_n 0, 1) := by decide +kernel
theorem dX7_stays_10 : decode cX7_stays 10 = .ok (.bipush (-2), 2) := by decide +kernel
theorem dX7_stays_12 : decode cX7_stays 12 = .ok (.invokevirtual 56, 3) := by decide +kernel
theorem dX7_stays_15 : decode cX7_stays 15 = .ok (.ireturn, 1) := by decide +kernel
theorem dX7_stays_16 : decode cX7_stays 16 = .ok (.aload_n 0, 1) := by decide +kernel
theorem dX7_stays_17 : decode cX7_stays 17 = .ok (.invokevirtual 111, 3) := by decide +kernel
theorem dX7_stays_20 : decode cX7_stays 20 = .ok (.aload_n 0, 1) := by decide +kernel
theorem dX7_stays_21 : decode cX7_stays 21 = .ok (.iload_n 1, 1) := by decide +kernel
theorem dX7_stays_22 : decode cX7_stays 22 = .ok (.invokevirtual 187, 3) := by decide +kernel
theorem dX7_stays_25 : decode cX7_stays 25 = .ok (.ifCond .eq 7, 3) := by decide +kernel
theorem dX7_stays_28 : decode cX7_stays 28 = .ok (.iconst 1, 1) := by decide +kernel
theorem dX7_stays_29 : decode cX7_stays 29 = .ok (.goto 4, 3) := by decide +kernel
theorem dX7_stays_32 : decode cX7_stays 32 = .ok (.iconst 0, 1) := by decide +kernel
theorem dX7_stays_33 : decode cX7_stays 33 = .ok (.ireturn, 1) := by decide +kernel
theorem dX7_symmetry_0 : decode cX7_symmetry 0 = .ok (.aload_n 0, 1) := by decide +kernel
theorem dX7_symmetry_1 : decode cX7_symmetry 1 = .ok (.invokevirtual 111, 3) := by decide +kernel
theorem dX7_symmetry_4 : decode cX7_symmetry 4 = .ok (.iconst 0, 1) := by decide +kernel
theorem dX7_symmetry_5 : decode cX7_symmetry 5 = .ok (.istore_n 1, 1) := by decide +kernel
theorem dX7_symmetry_6 : decode cX7_symmetry 6 = .ok (.iconst 0, 1) := by decide +kernel
theorem dX7_symmetry_7 : decode cX7_symmetry 7 = .ok (.istore_n 2, 1) := by decide +kernel
theorem dX7_symmetry_8 : decode cX7_symmetry 8 = .ok (.iload_n 2, 1) := by decide +kernel
theorem dX7_symmetry_9 : decode cX7_symmetry 9 = .ok (.bipush 6, 2) := by decide +kernel
theorem dX7_symmetry_11 : decode cX7_symmetry 11 = .ok (.if_icmp .ge 27, 3) := by decide +kernel
theorem dX7_symmetry_14 : decode cX7_symmetry 14 = .ok (.iload_n 1, 1) := by decide +kernel
theorem dX7_symmetry_15 : decode cX7_symmetry 15 = .ok (.aload_n 0, 1) := by decide +kernel
theorem dX7_symmetry_16 : decode cX7_symmetry 16 = .ok (.iload_n 2, 1) := by decide +kernel
theorem dX7_symmetry_17 : decode cX7_symmetry 17 = .ok (.invokevirtual 187, 3) := by decide +kernel
theorem dX7_symmetry_20 : decode cX7_symmetry 20 = .ok (.ifCond .eq 9, 3) := by decide +kernel
theorem dX7_symmetry_23 : decode cX7_symmetry 23 = .ok (.iconst 1, 1) := by decide +kernel
theorem dX7_symmetry_24 : decode cX7_symmetry 24 = .ok (.iload_n 2, 1) := by decide +kernel
theorem dX7_symmetry_25 : decode cX7_symmetry 25 = .ok (.ishl, 1) := by decide +kernel
theorem dX7_symmetry_26 : decode cX7_symmetry 26 = .ok (.goto 4, 3) := by decide +kernel
theorem dX7_symmetry_29 : decode cX7_symmetry 29 = .ok (.iconst 0, 1) := by decide +kernel
theorem dX7_symmetry_30 : decode cX7_symmetry 30 = .ok (.ior, 1) := by decide +kernel
theorem dX7_symmetry_31 : decode cX7_symmetry 31 = .ok (.istore_n 1, 1) := by decide +kernel
theorem dX7_symmetry_32 : decode cX7_symmetry 32 = .ok (.iinc 2 1, 3) := by decide +kernel
theorem dX7_symmetry_35 : decode cX7_symmetry 35 = .ok (.goto (-27), 3) := by decide +kernel
theorem dX7_symmetry_38 : decode cX7_symmetry 38 = .ok (.iload_n 1, 1) := by decide +kernel
theorem dX7_symmetry_39 : decode cX7_symmetry 39 = .ok (.ireturn, 1) := by decide +kernel
theorem dX7_hides_0 : decode cX7_hides 0 = .ok (.iload_n 1, 1) := by decide +kernel
theorem dX7_hides_1 : decode cX7_hides 1 = .ok (.iload_n 2, 1) := by decide +kernel
theorem dX7_hides_2 : decode cX7_hides 2 = .ok (.iload_n 3, 1) := by decide +kernel
theorem dX7_hides_3 : decode cX7_hides 3 = .ok (.invokestatic 53, 3) := by decide +kernel
theorem dX7_hides_6 : decode cX7_hides 6 = .ok (.ifCond .eq 13, 3) := by decide +kernel
theorem dX7_hides_9 : decode cX7_hides 9 = .ok (.iload 4, 2) := by decide +kernel
theorem dX7_hides_11 : decode cX7_hides 11 = .ok (.iconst 0, 1) := by decide +kernel
theorem dX7_hides_12 : decode cX7_hides 12 = .ok (.iconst 1, 1) := by decide +kernel
theorem dX7_hides_13 : decode cX7_hides 13 = .ok (.invokestatic 45, 3) := by decide +kernel
theorem dX7_hides_16 : decode cX7_hides 16 = .ok (.ifCond .ne 10, 3) := by decide +kernel
theorem dX7_hides_19 : decode cX7_hides 19 = .ok (.aload_n 0, 1) := by decide +kernel
theorem dX7_hides_20 : decode cX7_hides 20 = .ok (.bipush (-2), 2) := by decide +kernel
theorem dX7_hides_22 : decode cX7_hides 22 = .ok (.invokevirtual 56, 3) := by decide +kernel
theorem dX7_hides_25 : decode cX7_hides 25 = .ok (.ireturn, 1) := by decide +kernel
theorem dX7_hides_26 : decode cX7_hides 26 = .ok (.aload_n 0, 1) := by decide +kernel
theorem dX7_hides_27 : decode cX7_hides 27 = .ok (.getfield 7, 3) := by decide +kernel
theorem dX7_hides_30 : decode cX7_hides 30 = .ok (.iconst 0, 1) := by decide +kernel
theorem dX7_hides_31 : decode cX7_hides 31 = .ok (.iaload, 1) := by decide +kernel
theorem dX7_hides_32 : decode cX7_hides 32 = .ok (.bipush 32, 2) := by decide +kernel
theorem dX7_hides_34 : decode cX7_hides 34 = .ok (.if_icmp .ne 10, 3) := by decide +kernel
theorem dX7_hides_37 : decode cX7_hides 37 = .ok (.aload_n 0, 1) := by decide +kernel
theorem dX7_hides_38 : decode cX7_hides 38 = .ok (.bipush (-4), 2) := by decide +kernel
theorem dX7_hides_40 : decode cX7_hides 40 = .ok (.invokevirtual 56, 3) := by decide +kernel
theorem dX7_hides_43 : decode cX7_hides 43 = .ok (.ireturn, 1) := by decide +kernel
theorem dX7_hides_44 : decode cX7_hides 44 = .ok (.aload_n 0, 1) := by decide +kernel
theorem dX7_hides_45 : decode cX7_hides 45 = .ok (.invokevirtual 111, 3) := by decide +kernel
theorem dX7_hides_48 : decode cX7_hides 48 = .ok (.aload_n 0, 1) := by decide +kernel
theorem dX7_hides_49 : decode cX7_hides 49 = .ok (.iload_n 1, 1) := by decide +kernel
theorem dX7_hides_50 : decode cX7_hides 50 = .ok (.iload_n 2, 1) := by decide +kernel
theorem dX7_hides_51 : decode cX7_hides 51 = .ok (.iload_n 3, 1) := by decide +kernel
theorem dX7_hides_52 : decode cX7_hides 52 = .ok (.invokevirtual 180, 3) := by decide +kernel
theorem dX7_hides_55 : decode cX7_hides 55 = .ok (.istore 5, 2) := by decide +kernel
theorem dX7_hides_57 : decode cX7_hides 57 = .ok (.aload_n 0, 1) := by decide +kernel
theorem dX7_hides_58 : decode cX7_hides 58 = .ok (.iload 5, 2) := by decide +kernel
theorem dX7_hides_60 : decode cX7_hides 60 = .ok (.iload_n 1, 1) := by decide +kernel
theorem dX7_hides_61 : decode cX7_hides 61 = .ok (.iload_n 2, 1) := by decide +kernel
theorem dX7_hides_62 : decode cX7_hides 62 = .ok (.iload_n 3, 1) := by decide +kernel
theorem dX7_hides_63 : decode cX7_hides 63 = .ok (.invokevirtual 184, 3) := by decide +kernel
theorem dX7_hides_66 : decode cX7_hides 66 = .ok (.istore 6, 2) := by decide +kernel
theorem dX7_hides_68 : decode cX7_hides 68 = .ok (.aload_n 0, 1) := by decide +kernel
theorem dX7_hides_69 : decode cX7_hides 69 = .ok (.getfield 29, 3) := by decide +kernel
theorem dX7_hides_72 : decode cX7_hides 72 = .ok (.iconst 5, 1) := by decide +kernel
theorem dX7_hides_73 : decode cX7_hides 73 = .ok (.iload 5, 2) := by decide +kernel
theorem dX7_hides_75 : decode cX7_hides 75 = .ok (.imul, 1) := by decide +kernel
theorem dX7_hides_76 : decode cX7_hides 76 = .ok (.iconst 3, 1) := by decide +kernel
theorem dX7_hides_77 : decode cX7_hides 77 = .ok (.iadd, 1) := by decide +kernel
theorem dX7_hides_78 : decode cX7_hides 78 = .ok (.iaload, 1) := by decide +kernel
theorem dX7_hides_79 : decode cX7_hides 79 = .ok (.istore 7, 2) := by decide +kernel
theorem dX7_hides_81 : decode cX7_hides 81 = .ok (.iconst (-1), 1) := by decide +kernel
theorem dX7_hides_82 : decode cX7_hides 82 = .ok (.istore 8, 2) := by decide +kernel
theorem dX7_hides_84 : decode cX7_hides 84 = .ok (.iconst 0, 1) := by decide +kernel
theorem dX7_hides_85 : decode cX7_hides 85 = .ok (.istore 9, 2) := by decide +kernel
theorem dX7_hides_87 : decode cX7_hides 87 = .ok (.bipush 60, 2) := by decide +kernel
theorem dX7_hides_89 : decode cX7_hides 89 = .ok (.istore 10, 2) := by decide +kernel
theorem dX7_hides_91 : decode cX7_hides 91 = .ok (.iload 10, 2) := by decide +kernel
theorem dX7_hides_93 : decode cX7_hides 93 = .ok (.ifCond .le 48, 3) := by decide +kernel
theorem dX7_hides_96 : decode cX7_hides 96 = .ok (.iload 10, 2) := by decide +kernel
theorem dX7_hides_98 : decode cX7_hides 98 = .ok (.iload 7, 2) := by decide +kernel
theorem dX7_hides_100 : decode cX7_hides 100 = .ok (.imul, 1) := by decide +kernel
theorem dX7_hides_101 : decode cX7_hides 101 = .ok (.iload 6, 2) := by decide +kernel
theorem dX7_hides_103 : decode cX7_hides 103 = .ok (.if_icmp .le 8, 3) := by decide +kernel
theorem dX7_hides_106 : decode cX7_hides 106 = .ok (.iload 10, 2) := by decide +kernel
theorem dX7_hides_108 : decode cX7_hides 108 = .ok (.goto 5, 3) := by decide +kernel
theorem dX7_hides_111 : decode cX7_hides 111 = .ok (.iload 8, 2) := by decide +kernel
theorem dX7_hides_113 : decode cX7_hides 113 = .ok (.istore 8, 2) := by decide +kernel
theorem dX7_hides_115 : decode cX7_hides 115 = .ok (.iload 9, 2) := by decide +kernel
theorem dX7_hides_117 : decode cX7_hides 117 = .ok (.iload 10, 2) := by decide +kernel
theorem dX7_hides_119 : decode cX7_hides 119 = .ok (.iload 7, 2) := by decide +kernel
theorem dX7_hides_121 : decode cX7_hides 121 = .ok (.imul, 1) := by decide +kernel
theorem dX7_hides_122 : decode cX7_hides 122 = .ok (.iload 6, 2) := by decide +kernel
theorem dX7_hides_124 : decode cX7_hides 124 = .ok (.if_icmp .ge 7, 3) := by decide +kernel
theorem dX7_hides_127 : decode cX7_hides 127 = .ok (.iconst 1, 1) := by decide +kernel
theorem dX7_hides_128 : decode cX7_hides 128 = .ok (.goto 4, 3) := by decide +kernel
theorem dX7_hides_131 : decode cX7_hides 131 = .ok (.iconst 0, 1) := by decide +kernel
theorem dX7_hides_132 : decode cX7_hides 132 = .ok (.iadd, 1) := by decide +kernel
theorem dX7_hides_133 : decode cX7_hides 133 = .ok (.istore 9, 2) := by decide +kernel
theorem dX7_hides_135 : decode cX7_hides 135 = .ok (.iinc 10 (-1), 3) := by decide +kernel
theorem dX7_hides_138 : decode cX7_hides 138 = .ok (.goto (-47), 3) := by decide +kernel
theorem dX7_hides_141 : decode cX7_hides 141 = .ok (.iload 4, 2) := by decide +kernel
theorem dX7_hides_143 : decode cX7_hides 143 = .ok (.ifCond .ne 8, 3) := by decide +kernel
theorem dX7_hides_146 : decode cX7_hides 146 = .ok (.iload 8, 2) := by decide +kernel
theorem dX7_hides_148 : decode cX7_hides 148 = .ok (.goto 5, 3) := by decide +kernel
theorem dX7_hides_151 : decode cX7_hides 151 = .ok (.iload 9, 2) := by decide +kernel
theorem dX7_hides_153 : decode cX7_hides 153 = .ok (.ireturn, 1) := by decide +kernel
theorem dX7_spare_0 : decode cX7_spare 0 = .ok (.iload_n 1, 1) := by decide +kernel
theorem dX7_spare_1 : decode cX7_spare 1 = .ok (.iconst 0, 1) := by decide +kernel
theorem dX7_spare_2 : decode cX7_spare 2 = .ok (.iconst 1, 1) := by decide +kernel
theorem dX7_spare_3 : decode cX7_spare 3 = .ok (.invokestatic 45, 3) := by decide +kernel
theorem dX7_spare_6 : decode cX7_spare 6 = .ok (.ifCond .ne 10, 3) := by decide +kernel
theorem dX7_spare_9 : decode cX7_spare 9 = .ok (.aload_n 0, 1) := by decide +kernel
theorem dX7_spare_10 : decode cX7_spare 10 = .ok (.bipush (-2), 2) := by decide +kernel
theorem dX7_spare_12 : decode cX7_spare 12 = .ok (.invokevirtual 56, 3) := by decide +kernel
theorem dX7_spare_15 : decode cX7_spare 15 = .ok (.ireturn, 1) := by decide +kernel
theorem dX7_spare_16 : decode cX7_spare 16 = .ok (.aload_n 0, 1) := by decide +kernel
theorem dX7_spare_17 : decode cX7_spare 17 = .ok (.getfield 7, 3) := by decide +kernel
theorem dX7_spare_20 : decode cX7_spare 20 = .ok (.iconst 0, 1) := by decide +kernel
theorem dX7_spare_21 : decode cX7_spare 21 = .ok (.iaload, 1) := by decide +kernel
theorem dX7_spare_22 : decode cX7_spare 22 = .ok (.bipush 6, 2) := by decide +kernel
theorem dX7_spare_24 : decode cX7_spare 24 = .ok (.if_icmp .ne 10, 3) := by decide +kernel
theorem dX7_spare_27 : decode cX7_spare 27 = .ok (.aload_n 0, 1) := by decide +kernel
theorem dX7_spare_28 : decode cX7_spare 28 = .ok (.bipush (-3), 2) := by decide +kernel
theorem dX7_spare_30 : decode cX7_spare 30 = .ok (.invokevirtual 56, 3) := by decide +kernel
theorem dX7_spare_33 : decode cX7_spare 33 = .ok (.ireturn, 1) := by decide +kernel
theorem dX7_spare_34 : decode cX7_spare 34 = .ok (.aload_n 0, 1) := by decide +kernel
theorem dX7_spare_35 : decode cX7_spare 35 = .ok (.invokevirtual 60, 3) := by decide +kernel
theorem dX7_spare_38 : decode cX7_spare 38 = .ok (.iconst (-1), 1) := by decide +kernel
theorem dX7_spare_39 : decode cX7_spare 39 = .ok (.istore_n 2, 1) := by decide +kernel
theorem dX7_spare_40 : decode cX7_spare 40 = .ok (.iconst (-1), 1) := by decide +kernel
theorem dX7_spare_41 : decode cX7_spare 41 = .ok (.istore_n 3, 1) := by decide +kernel
theorem dX7_spare_42 : decode cX7_spare 42 = .ok (.bipush 6, 2) := by decide +kernel
theorem dX7_spare_44 : decode cX7_spare 44 = .ok (.istore 4, 2) := by decide +kernel
theorem dX7_spare_46 : decode cX7_spare 46 = .ok (.iload 4, 2) := by decide +kernel
theorem dX7_spare_48 : decode cX7_spare 48 = .ok (.aload_n 0, 1) := by decide +kernel
theorem dX7_spare_49 : decode cX7_spare 49 = .ok (.getfield 16, 3) := by decide +kernel
theorem dX7_spare_52 : decode cX7_spare 52 = .ok (.iconst 0, 1) := by decide +kernel
theorem dX7_spare_53 : decode cX7_spare 53 = .ok (.iaload, 1) := by decide +kernel
theorem dX7_spare_54 : decode cX7_spare 54 = .ok (.if_icmp .ge 55, 3) := by decide +kernel
theorem dX7_spare_57 : decode cX7_spare 57 = .ok (.aload_n 0, 1) := by decide +kernel
theorem dX7_spare_58 : decode cX7_spare 58 = .ok (.iload 4, 2) := by decide +kernel
theorem dX7_spare_60 : decode cX7_spare 60 = .ok (.invokevirtual 89, 3) := by decide +kernel
theorem dX7_spare_63 : decode cX7_spare 63 = .ok (.aload_n 0, 1) := by decide +kernel
theorem dX7_spare_64 : decode cX7_spare 64 = .ok (.invokevirtual 111, 3) := by decide +kernel
theorem dX7_spare_67 : decode cX7_spare 67 = .ok (.aload_n 0, 1) := by decide +kernel
theorem dX7_spare_68 : decode cX7_spare 68 = .ok (.getfield 114, 3) := by decide +kernel
theorem dX7_spare_71 : decode cX7_spare 71 = .ok (.iload_n 3, 1) := by decide +kernel
theorem dX7_spare_72 : decode cX7_spare 72 = .ok (.if_icmp .le 8, 3) := by decide +kernel
theorem dX7_spare_75 : decode cX7_spare 75 = .ok (.iload 4, 2) := by decide +kernel
theorem dX7_spare_77 : decode cX7_spare 77 = .ok (.goto 4, 3) := by decide +kernel
theorem dX7_spare_80 : decode cX7_spare 80 = .ok (.iload_n 2, 1) := by decide +kernel
theorem dX7_spare_81 : decode cX7_spare 81 = .ok (.istore_n 2, 1) := by decide +kernel
theorem dX7_spare_82 : decode cX7_spare 82 = .ok (.aload_n 0, 1) := by decide +kernel
theorem dX7_spare_83 : decode cX7_spare 83 = .ok (.getfield 114, 3) := by decide +kernel
theorem dX7_spare_86 : decode cX7_spare 86 = .ok (.iload_n 3, 1) := by decide +kernel
theorem dX7_spare_87 : decode cX7_spare 87 = .ok (.if_icmp .le 10, 3) := by decide +kernel
theorem dX7_spare_90 : decode cX7_spare 90 = .ok (.aload_n 0, 1) := by decide +kernel
theorem dX7_spare_91 : decode cX7_spare 91 = .ok (.getfield 114, 3) := by decide +kernel
theorem dX7_spare_94 : decode cX7_spare 94 = .ok (.goto 4, 3) := by decide +kernel
theorem dX7_spare_97 : decode cX7_spare 97 = .ok (.iload_n 3, 1) := by decide +kernel
theorem dX7_spare_98 : decode cX7_spare 98 = .ok (.istore_n 3, 1) := by decide +kernel
theorem dX7_spare_99 : decode cX7_spare 99 = .ok (.aload_n 0, 1) := by decide +kernel
theorem dX7_spare_100 : decode cX7_spare 100 = .ok (.invokevirtual 190, 3) := by decide +kernel
theorem dX7_spare_103 : decode cX7_spare 103 = .ok (.iinc 4 1, 3) := by decide +kernel
theorem dX7_spare_106 : decode cX7_spare 106 = .ok (.goto (-60), 3) := by decide +kernel
theorem dX7_spare_109 : decode cX7_spare 109 = .ok (.iload_n 1, 1) := by decide +kernel
theorem dX7_spare_110 : decode cX7_spare 110 = .ok (.ifCond .ne 7, 3) := by decide +kernel
theorem dX7_spare_113 : decode cX7_spare 113 = .ok (.iload_n 2, 1) := by decide +kernel
theorem dX7_spare_114 : decode cX7_spare 114 = .ok (.goto 4, 3) := by decide +kernel
theorem dX7_spare_117 : decode cX7_spare 117 = .ok (.iload_n 3, 1) := by decide +kernel
theorem dX7_spare_118 : decode cX7_spare 118 = .ok (.ireturn, 1) := by decide +kernel
theorem dX7_type_0 : decode cX7_type 0 = .ok (.iload_n 1, 1) := by decide +kernel
theorem dX7_type_1 : decode cX7_type 1 = .ok (.iconst 0, 1) := by decide +kernel
theorem dX7_type_2 : decode cX7_type 2 = .ok (.bipush 127, 2) := by decide +kernel
theorem dX7_type_4 : decode cX7_type 4 = .ok (.invokestatic 45, 3) := by decide +kernel
theorem dX7_type_7 : decode cX7_type 7 = .ok (.ifCond .ne 10, 3) := by decide +kernel
theorem dX7_type_10 : decode cX7_type 10 = .ok (.aload_n 0, 1) := by decide +kernel
theorem dX7_type_11 : decode cX7_type 11 = .ok (.bipush (-2), 2) := by decide +kernel
theorem dX7_type_13 : decode cX7_type 13 = .ok (.invokevirtual 56, 3) := by decide +kernel
theorem dX7_type_16 : decode cX7_type 16 = .ok (.ireturn, 1) := by decide +kernel
theorem dX7_type_17 : decode cX7_type 17 = .ok (.aload_n 0, 1) := by decide +kernel
theorem dX7_type_18 : decode cX7_type 18 = .ok (.getfield 193, 3) := by decide +kernel
theorem dX7_type_21 : decode cX7_type 21 = .ok (.bipush 120, 2) := by decide +kernel
theorem dX7_type_23 : decode cX7_type 23 = .ok (.if_icmp .ne 10, 3) := by decide +kernel
theorem dX7_type_26 : decode cX7_type 26 = .ok (.aload_n 0, 1) := by decide +kernel
theorem dX7_type_27 : decode cX7_type 27 = .ok (.bipush (-4), 2) := by decide +kernel
theorem dX7_type_29 : decode cX7_type 29 = .ok (.invokevirtual 56, 3) := by decide +kernel
theorem dX7_type_32 : decode cX7_type 32 = .ok (.ireturn, 1) := by decide +kernel
theorem dX7_type_33 : decode cX7_type 33 = .ok (.aload_n 0, 1) := by decide +kernel
theorem dX7_type_34 : decode cX7_type 34 = .ok (.getfield 22, 3) := by decide +kernel
theorem dX7_type_37 : decode cX7_type 37 = .ok (.aload_n 0, 1) := by decide +kernel
theorem dX7_type_38 : decode cX7_type 38 = .ok (.getfield 193, 3) := by decide +kernel
theorem dX7_type_41 : decode cX7_type 41 = .ok (.iload_n 1, 1) := by decide +kernel
theorem dX7_type_42 : decode cX7_type 42 = .ok (.iastore, 1) := by decide +kernel
theorem dX7_type_43 : decode cX7_type 43 = .ok (.aload_n 0, 1) := by decide +kernel
theorem dX7_type_44 : decode cX7_type 44 = .ok (.dup, 1) := by decide +kernel
theorem dX7_type_45 : decode cX7_type 45 = .ok (.getfield 193, 3) := by decide +kernel
theorem dX7_type_48 : decode cX7_type 48 = .ok (.iconst 1, 1) := by decide +kernel
theorem dX7_type_49 : decode cX7_type 49 = .ok (.iadd, 1) := by decide +kernel
theorem dX7_type_50 : decode cX7_type 50 = .ok (.putfield 193, 3) := by decide +kernel
theorem dX7_type_53 : decode cX7_type 53 = .ok (.aload_n 0, 1) := by decide +kernel
theorem dX7_type_54 : decode cX7_type 54 = .ok (.getfield 193, 3) := by decide +kernel
theorem dX7_type_57 : decode cX7_type 57 = .ok (.ireturn, 1) := by decide +kernel
theorem dX7_clear_0 : decode cX7_clear 0 = .ok (.aload_n 0, 1) := by decide +kernel
theorem dX7_clear_1 : decode cX7_clear 1 = .ok (.getfield 193, 3) := by decide +kernel
theorem dX7_clear_4 : decode cX7_clear 4 = .ok (.istore_n 1, 1) := by decide +kernel
theorem dX7_clear_5 : decode cX7_clear 5 = .ok (.aload_n 0, 1) := by decide +kernel
theorem dX7_clear_6 : decode cX7_clear 6 = .ok (.iconst 0, 1) := by decide +kernel
theorem dX7_clear_7 : decode cX7_clear 7 = .ok (.putfield 193, 3) := by decide +kernel
theorem dX7_clear_10 : decode cX7_clear 10 = .ok (.iload_n 1, 1) := by decide +kernel
theorem dX7_clear_11 : decode cX7_clear 11 = .ok (.ireturn, 1) := by decide +kernel
theorem dX7_byteAt_0 : decode cX7_byteAt 0 = .ok (.iload_n 1, 1) := by decide +kernel
theorem dX7_byteAt_1 : decode cX7_byteAt 1 = .ok (.aload_n 0, 1) := by decide +kernel
theorem dX7_byteAt_2 : decode cX7_byteAt 2 = .ok (.getfield 193, 3) := by decide +kernel
theorem dX7_byteAt_5 : decode cX7_byteAt 5 = .ok (.if_icmp .ge 12, 3) := by decide +kernel
theorem dX7_byteAt_8 : decode cX7_byteAt 8 = .ok (.aload_n 0, 1) := by decide +kernel
theorem dX7_byteAt_9 : decode cX7_byteAt 9 = .ok (.getfield 22, 3) := by decide +kernel
theorem dX7_byteAt_12 : decode cX7_byteAt 12 = .ok (.iload_n 1, 1) := by decide +kernel
theorem dX7_byteAt_13 : decode cX7_byteAt 13 = .ok (.iaload, 1) := by decide +kernel
theorem dX7_byteAt_14 : decode cX7_byteAt 14 = .ok (.goto 4, 3) := by decide +kernel
theorem dX7_byteAt_17 : decode cX7_byteAt 17 = .ok (.iconst (-1), 1) := by decide +kernel
theorem dX7_byteAt_18 : decode cX7_byteAt 18 = .ok (.ireturn, 1) := by decide +kernel
theorem dX7_skips_0 : decode cX7_skips 0 = .ok (.aload_n 0, 1) := by decide +kernel
theorem dX7_skips_1 : decode cX7_skips 1 = .ok (.aload_n 0, 1) := by decide +kernel
theorem dX7_skips_2 : decode cX7_skips 2 = .ok (.getfield 196, 3) := by decide +kernel
theorem dX7_skips_5 : decode cX7_skips 5 = .ok (.invokevirtual 199, 3) := by decide +kernel
theorem dX7_skips_8 : decode cX7_skips 8 = .ok (.bipush 32, 2) := by decide +kernel
theorem dX7_skips_10 : decode cX7_skips 10 = .ok (.if_icmp .ne 16, 3) := by decide +kernel
theorem dX7_skips_13 : decode cX7_skips 13 = .ok (.aload_n 0, 1) := by decide +kernel
theorem dX7_skips_14 : decode cX7_skips 14 = .ok (.dup, 1) := by decide +kernel
theorem dX7_skips_15 : decode cX7_skips 15 = .ok (.getfield 196, 3) := by decide +kernel
theorem dX7_skips_18 : decode cX7_skips 18 = .ok (.iconst 1, 1) := by decide +kernel
theorem dX7_skips_19 : decode cX7_skips 19 = .ok (.iadd, 1) := by decide +kernel
theorem dX7_skips_20 : decode cX7_skips 20 = .ok (.putfield 196, 3) := by decide +kernel
theorem dX7_skips_23 : decode cX7_skips 23 = .ok (.goto (-23), 3) := by decide +kernel
theorem dX7_skips_26 : decode cX7_skips 26 = .ok (.return_, 1) := by decide +kernel
theorem dX7_isFamily_0 : decode cX7_isFamily 0 = .ok (.aload_n 0, 1) := by decide +kernel
theorem dX7_isFamily_1 : decode cX7_isFamily 1 = .ok (.getfield 196, 3) := by decide +kernel
theorem dX7_isFamily_4 : decode cX7_isFamily 4 = .ok (.istore_n 1, 1) := by decide +kernel
theorem dX7_isFamily_5 : decode cX7_isFamily 5 = .ok (.iload_n 1, 1) := by decide +kernel
theorem dX7_isFamily_6 : decode cX7_isFamily 6 = .ok (.aload_n 0, 1) := by decide +kernel
theorem dX7_isFamily_7 : decode cX7_isFamily 7 = .ok (.getfield 193, 3) := by decide +kernel
theorem dX7_isFamily_10 : decode cX7_isFamily 10 = .ok (.if_icmp .ge 31, 3) := by decide +kernel
theorem dX7_isFamily_13 : decode cX7_isFamily 13 = .ok (.aload_n 0, 1) := by decide +kernel
theorem dX7_isFamily_14 : decode cX7_isFamily 14 = .ok (.getfield 22, 3) := by decide +kernel
theorem dX7_isFamily_17 : decode cX7_isFamily 17 = .ok (.iload_n 1, 1) := by decide +kernel
theorem dX7_isFamily_18 : decode cX7_isFamily 18 = .ok (.iaload, 1) := by decide +kernel
theorem dX7_isFamily_19 : decode cX7_isFamily 19 = .ok (.bipush 59, 2) := by decide +kernel
theorem dX7_isFamily_21 : decode cX7_isFamily 21 = .ok (.if_icmp .eq 20, 3) := by decide +kernel
theorem dX7_isFamily_24 : decode cX7_isFamily 24 = .ok (.aload_n 0, 1) := by decide +kernel
theorem dX7_isFamily_25 : decode cX7_isFamily 25 = .ok (.getfield 22, 3) := by decide +kernel
theorem dX7_isFamily_28 : decode cX7_isFamily 28 = .ok (.iload_n 1, 1) := by decide +kernel
theorem dX7_isFamily_29 : decode cX7_isFamily 29 = .ok (.iaload, 1) := by decide +kernel
theorem dX7_isFamily_30 : decode cX7_isFamily 30 = .ok (.bipush 58, 2) := by decide +kernel
theorem dX7_isFamily_32 : decode cX7_isFamily 32 = .ok (.if_icmp .eq 9, 3) := by decide +kernel
theorem dX7_isFamily_35 : decode cX7_isFamily 35 = .ok (.iinc 1 1, 3) := by decide +kernel
theorem dX7_isFamily_38 : decode cX7_isFamily 38 = .ok (.goto (-33), 3) := by decide +kernel
theorem dX7_isFamily_41 : decode cX7_isFamily 41 = .ok (.aload_n 0, 1) := by decide +kernel
theorem dX7_isFamily_42 : decode cX7_isFamily 42 = .ok (.iload_n 1, 1) := by decide +kernel
theorem dX7_isFamily_43 : decode cX7_isFamily 43 = .ok (.invokevirtual 199, 3) := by decide +kernel
theorem dX7_isFamily_46 : decode cX7_isFamily 46 = .ok (.bipush 58, 2) := by decide +kernel
theorem dX7_isFamily_48 : decode cX7_isFamily 48 = .ok (.if_icmp .ne 7, 3) := by decide +kernel
theorem dX7_isFamily_51 : decode cX7_isFamily 51 = .ok (.iconst 1, 1) := by decide +kernel
theorem dX7_isFamily_52 : decode cX7_isFamily 52 = .ok (.goto 4, 3) := by decide +kernel
theorem dX7_isFamily_55 : decode cX7_isFamily 55 = .ok (.iconst 0, 1) := by decide +kernel
theorem dX7_isFamily_56 : decode cX7_isFamily 56 = .ok (.ireturn, 1) := by decide +kernel
theorem dX7_readsTurns_0 : decode cX7_readsTurns 0 = .ok (.iconst 0, 1) := by decide +kernel
theorem dX7_readsTurns_1 : decode cX7_readsTurns 1 = .ok (.istore_n 1, 1) := by decide +kernel
theorem dX7_readsTurns_2 : decode cX7_readsTurns 2 = .ok (.aload_n 0, 1) := by decide +kernel
theorem dX7_readsTurns_3 : decode cX7_readsTurns 3 = .ok (.invokevirtual 202, 3) := by decide +kernel
theorem dX7_readsTurns_6 : decode cX7_readsTurns 6 = .ok (.aload_n 0, 1) := by decide +kernel
theorem dX7_readsTurns_7 : decode cX7_readsTurns 7 = .ok (.aload_n 0, 1) := by decide +kernel
theorem dX7_readsTurns_8 : decode cX7_readsTurns 8 = .ok (.getfield 196, 3) := by decide +kernel
theorem dX7_readsTurns_11 : decode cX7_readsTurns 11 = .ok (.invokevirtual 199, 3) := by decide +kernel
theorem dX7_readsTurns_14 : decode cX7_readsTurns 14 = .ok (.bipush 48, 2) := by decide +kernel
theorem dX7_readsTurns_16 : decode cX7_readsTurns 16 = .ok (.bipush 53, 2) := by decide +kernel
theorem dX7_readsTurns_18 : decode cX7_readsTurns 18 = .ok (.invokestatic 45, 3) := by decide +kernel
theorem dX7_readsTurns_21 : decode cX7_readsTurns 21 = .ok (.ifCond .eq 37, 3) := by decide +kernel
theorem dX7_readsTurns_24 : decode cX7_readsTurns 24 = .ok (.iload_n 1, 1) := by decide +kernel
theorem dX7_readsTurns_25 : decode cX7_readsTurns 25 = .ok (.iconst 1, 1) := by decide +kernel
theorem dX7_readsTurns_26 : decode cX7_readsTurns 26 = .ok (.aload_n 0, 1) := by decide +kernel
theorem dX7_readsTurns_27 : decode cX7_readsTurns 27 = .ok (.getfield 22, 3) := by decide +kernel
theorem dX7_readsTurns_30 : decode cX7_readsTurns 30 = .ok (.aload_n 0, 1) := by decide +kernel
theorem dX7_readsTurns_31 : decode cX7_readsTurns 31 = .ok (.getfield 196, 3) := by decide +kernel
theorem dX7_readsTurns_34 : decode cX7_readsTurns 34 = .ok (.iaload, 1) := by decide +kernel
theorem dX7_readsTurns_35 : decode cX7_readsTurns 35 = .ok (.bipush 48, 2) := by decide +kernel
theorem dX7_readsTurns_37 : decode cX7_readsTurns 37 = .ok (.isub, 1) := by decide +kernel
theorem dX7_readsTurns_38 : decode cX7_readsTurns 38 = .ok (.ishl, 1) := by decide +kernel
theorem dX7_readsTurns_39 : decode cX7_readsTurns 39 = .ok (.ior, 1) := by decide +kernel
theorem dX7_readsTurns_40 : decode cX7_readsTurns 40 = .ok (.istore_n 1, 1) := by decide +kernel
theorem dX7_readsTurns_41 : decode cX7_readsTurns 41 = .ok (.aload_n 0, 1) := by decide +kernel
theorem dX7_readsTurns_42 : decode cX7_readsTurns 42 = .ok (.dup, 1) := by decide +kernel
theorem dX7_readsTurns_43 : decode cX7_readsTurns 43 = .ok (.getfield 196, 3) := by decide +kernel
theorem dX7_readsTurns_46 : decode cX7_readsTurns 46 = .ok (.iconst 1, 1) := by decide +kernel
theorem dX7_readsTurns_47 : decode cX7_readsTurns 47 = .ok (.iadd, 1) := by decide +kernel
theorem dX7_readsTurns_48 : decode cX7_readsTurns 48 = .ok (.putfield 196, 3) := by decide +kernel
theorem dX7_readsTurns_51 : decode cX7_readsTurns 51 = .ok (.aload_n 0, 1) := by decide +kernel
theorem dX7_readsTurns_52 : decode cX7_readsTurns 52 = .ok (.invokevirtual 202, 3) := by decide +kernel
theorem dX7_readsTurns_55 : decode cX7_readsTurns 55 = .ok (.goto (-49), 3) := by decide +kernel
theorem dX7_readsTurns_58 : decode cX7_readsTurns 58 = .ok (.iload_n 1, 1) := by decide +kernel
theorem dX7_readsTurns_59 : decode cX7_readsTurns 59 = .ok (.ifCond .eq 16, 3) := by decide +kernel
theorem dX7_readsTurns_62 : decode cX7_readsTurns 62 = .ok (.aload_n 0, 1) := by decide +kernel
theorem dX7_readsTurns_63 : decode cX7_readsTurns 63 = .ok (.aload_n 0, 1) := by decide +kernel
theorem dX7_readsTurns_64 : decode cX7_readsTurns 64 = .ok (.getfield 196, 3) := by decide +kernel
theorem dX7_readsTurns_67 : decode cX7_readsTurns 67 = .ok (.invokevirtual 199, 3) := by decide +kernel
theorem dX7_readsTurns_70 : decode cX7_readsTurns 70 = .ok (.bipush 58, 2) := by decide +kernel
theorem dX7_readsTurns_72 : decode cX7_readsTurns 72 = .ok (.if_icmp .eq 5, 3) := by decide +kernel
theorem dX7_readsTurns_75 : decode cX7_readsTurns 75 = .ok (.iconst (-1), 1) := by decide +kernel
theorem dX7_readsTurns_76 : decode cX7_readsTurns 76 = .ok (.ireturn, 1) := by decide +kernel
theorem dX7_readsTurns_77 : decode cX7_readsTurns 77 = .ok (.aload_n 0, 1) := by decide +kernel
theorem dX7_readsTurns_78 : decode cX7_readsTurns 78 = .ok (.dup, 1) := by decide +kernel
theorem dX7_readsTurns_79 : decode cX7_readsTurns 79 = .ok (.getfield 196, 3) := by decide +kernel
theorem dX7_readsTurns_82 : decode cX7_readsTurns 82 = .ok (.iconst 1, 1) := by decide +kernel
theorem dX7_readsTurns_83 : decode cX7_readsTurns 83 = .ok (.iadd, 1) := by decide +kernel
theorem dX7_readsTurns_84 : decode cX7_readsTurns 84 = .ok (.putfield 196, 3) := by decide +kernel
theorem dX7_readsTurns_87 : decode cX7_readsTurns 87 = .ok (.iload_n 1, 1) := by decide +kernel
theorem dX7_readsTurns_88 : decode cX7_readsTurns 88 = .ok (.ireturn, 1) := by decide +kernel
theorem dX7_readsSign_0 : decode cX7_readsSign 0 = .ok (.iconst 0, 1) := by decide +kernel
theorem dX7_readsSign_1 : decode cX7_readsSign 1 = .ok (.istore_n 1, 1) := by decide +kernel
theorem dX7_readsSign_2 : decode cX7_readsSign 2 = .ok (.iload_n 1, 1) := by decide +kernel
theorem dX7_readsSign_3 : decode cX7_readsSign 3 = .ok (.iconst 3, 1) := by decide +kernel
theorem dX7_readsSign_4 : decode cX7_readsSign 4 = .ok (.if_icmp .ge 121, 3) := by decide +kernel
theorem dX7_readsSign_7 : decode cX7_readsSign 7 = .ok (.aload_n 0, 1) := by decide +kernel
theorem dX7_readsSign_8 : decode cX7_readsSign 8 = .ok (.invokevirtual 202, 3) := by decide +kernel
theorem dX7_readsSign_11 : decode cX7_readsSign 11 = .ok (.aload_n 0, 1) := by decide +kernel
theorem dX7_readsSign_12 : decode cX7_readsSign 12 = .ok (.aload_n 0, 1) := by decide +kernel
theorem dX7_readsSign_13 : decode cX7_readsSign 13 = .ok (.getfield 196, 3) := by decide +kernel
theorem dX7_readsSign_16 : decode cX7_readsSign 16 = .ok (.invokevirtual 199, 3) := by decide +kernel
theorem dX7_readsSign_19 : decode cX7_readsSign 19 = .ok (.bipush 45, 2) := by decide +kernel
theorem dX7_readsSign_21 : decode cX7_readsSign 21 = .ok (.if_icmp .ne 7, 3) := by decide +kernel
theorem dX7_readsSign_24 : decode cX7_readsSign 24 = .ok (.iconst 1, 1) := by decide +kernel
theorem dX7_readsSign_25 : decode cX7_readsSign 25 = .ok (.goto 4, 3) := by decide +kernel
theorem dX7_readsSign_28 : decode cX7_readsSign 28 = .ok (.iconst 0, 1) := by decide +kernel
theorem dX7_readsSign_29 : decode cX7_readsSign 29 = .ok (.istore_n 2, 1) := by decide +kernel
theorem dX7_readsSign_30 : decode cX7_readsSign 30 = .ok (.aload_n 0, 1) := by decide +kernel
theorem dX7_readsSign_31 : decode cX7_readsSign 31 = .ok (.dup, 1) := by decide +kernel
theorem dX7_readsSign_32 : decode cX7_readsSign 32 = .ok (.getfield 196, 3) := by decide +kernel
theorem dX7_readsSign_35 : decode cX7_readsSign 35 = .ok (.iload_n 2, 1) := by decide +kernel
theorem dX7_readsSign_36 : decode cX7_readsSign 36 = .ok (.ifCond .eq 7, 3) := by decide +kernel
theorem dX7_readsSign_39 : decode cX7_readsSign 39 = .ok (.iconst 1, 1) := by decide +kernel
theorem dX7_readsSign_40 : decode cX7_readsSign 40 = .ok (.goto 4, 3) := by decide +kernel
theorem dX7_readsSign_43 : decode cX7_readsSign 43 = .ok (.iconst 0, 1) := by decide +kernel
theorem dX7_readsSign_44 : decode cX7_readsSign 44 = .ok (.iadd, 1) := by decide +kernel
theorem dX7_readsSign_45 : decode cX7_readsSign 45 = .ok (.putfield 196, 3) := by decide +kernel
theorem dX7_readsSign_48 : decode cX7_readsSign 48 = .ok (.aload_n 0, 1) := by decide +kernel
theorem dX7_readsSign_49 : decode cX7_readsSign 49 = .ok (.invokevirtual 202, 3) := by decide +kernel
theorem dX7_readsSign_52 : decode cX7_readsSign 52 = .ok (.aload_n 0, 1) := by decide +kernel
theorem dX7_readsSign_53 : decode cX7_readsSign 53 = .ok (.aload_n 0, 1) := by decide +kernel
theorem dX7_readsSign_54 : decode cX7_readsSign 54 = .ok (.getfield 196, 3) := by decide +kernel
theorem dX7_readsSign_57 : decode cX7_readsSign 57 = .ok (.invokevirtual 199, 3) := by decide +kernel
theorem dX7_readsSign_60 : decode cX7_readsSign 60 = .ok (.bipush 48, 2) := by decide +kernel
theorem dX7_readsSign_62 : decode cX7_readsSign 62 = .ok (.bipush 51, 2) := by decide +kernel
theorem dX7_readsSign_64 : decode cX7_readsSign 64 = .ok (.invokestatic 45, 3) := by decide +kernel
theorem dX7_readsSign_67 : decode cX7_readsSign 67 = .ok (.ifCond .ne 5, 3) := by decide +kernel
theorem dX7_readsSign_70 : decode cX7_readsSign 70 = .ok (.iconst 0, 1) := by decide +kernel
theorem dX7_readsSign_71 : decode cX7_readsSign 71 = .ok (.ireturn, 1) := by decide +kernel
theorem dX7_readsSign_72 : decode cX7_readsSign 72 = .ok (.aload_n 0, 1) := by decide +kernel
theorem dX7_readsSign_73 : decode cX7_readsSign 73 = .ok (.getfield 39, 3) := by decide +kernel
theorem dX7_readsSign_76 : decode cX7_readsSign 76 = .ok (.iload_n 1, 1) := by decide +kernel
theorem dX7_readsSign_77 : decode cX7_readsSign 77 = .ok (.iload_n 2, 1) := by decide +kernel
theorem dX7_readsSign_78 : decode cX7_readsSign 78 = .ok (.ifCond .eq 18, 3) := by decide +kernel
theorem dX7_readsSign_81 : decode cX7_readsSign 81 = .ok (.bipush 48, 2) := by decide +kernel
theorem dX7_readsSign_83 : decode cX7_readsSign 83 = .ok (.aload_n 0, 1) := by decide +kernel
theorem dX7_readsSign_84 : decode cX7_readsSign 84 = .ok (.getfield 22, 3) := by decide +kernel
theorem dX7_readsSign_87 : decode cX7_readsSign 87 = .ok (.aload_n 0, 1) := by decide +kernel
theorem dX7_readsSign_88 : decode cX7_readsSign 88 = .ok (.getfield 196, 3) := by decide +kernel
theorem dX7_readsSign_91 : decode cX7_readsSign 91 = .ok (.iaload, 1) := by decide +kernel
theorem dX7_readsSign_92 : decode cX7_readsSign 92 = .ok (.isub, 1) := by decide +kernel
theorem dX7_readsSign_93 : decode cX7_readsSign 93 = .ok (.goto 15, 3) := by decide +kernel
theorem dX7_readsSign_96 : decode cX7_readsSign 96 = .ok (.aload_n 0, 1) := by decide +kernel
theorem dX7_readsSign_97 : decode cX7_readsSign 97 = .ok (.getfield 22, 3) := by decide +kernel
theorem dX7_readsSign_100 : decode cX7_readsSign 100 = .ok (.aload_n 0, 1) := by decide +kernel
theorem dX7_readsSign_101 : decode cX7_readsSign 101 = .ok (.getfield 196, 3) := by decide +kernel
theorem dX7_readsSign_104 : decode cX7_readsSign 104 = .ok (.iaload, 1) := by decide +kernel
theorem dX7_readsSign_105 : decode cX7_readsSign 105 = .ok (.bipush 48, 2) := by decide +kernel
theorem dX7_readsSign_107 : decode cX7_readsSign 107 = .ok (.isub, 1) := by decide +kernel
theorem dX7_readsSign_108 : decode cX7_readsSign 108 = .ok (.iastore, 1) := by decide +kernel
theorem dX7_readsSign_109 : decode cX7_readsSign 109 = .ok (.aload_n 0, 1) := by decide +kernel
theorem dX7_readsSign_110 : decode cX7_readsSign 110 = .ok (.dup, 1) := by decide +kernel
theorem dX7_readsSign_111 : decode cX7_readsSign 111 = .ok (.getfield 196, 3) := by decide +kernel
theorem dX7_readsSign_114 : decode cX7_readsSign 114 = .ok (.iconst 1, 1) := by decide +kernel
theorem dX7_readsSign_115 : decode cX7_readsSign 115 = .ok (.iadd, 1) := by decide +kernel
theorem dX7_readsSign_116 : decode cX7_readsSign 116 = .ok (.putfield 196, 3) := by decide +kernel
theorem dX7_readsSign_119 : decode cX7_readsSign 119 = .ok (.iinc 1 1, 3) := by decide +kernel
theorem dX7_readsSign_122 : decode cX7_readsSign 122 = .ok (.goto (-120), 3) := by decide +kernel
theorem dX7_readsSign_125 : decode cX7_readsSign 125 = .ok (.aload_n 0, 1) := by decide +kernel
theorem dX7_readsSign_126 : decode cX7_readsSign 126 = .ok (.invokevirtual 202, 3) := by decide +kernel
theorem dX7_readsSign_129 : decode cX7_readsSign 129 = .ok (.aload_n 0, 1) := by decide +kernel
theorem dX7_readsSign_130 : decode cX7_readsSign 130 = .ok (.aload_n 0, 1) := by decide +kernel
theorem dX7_readsSign_131 : decode cX7_readsSign 131 = .ok (.getfield 196, 3) := by decide +kernel
theorem dX7_readsSign_134 : decode cX7_readsSign 134 = .ok (.invokevirtual 199, 3) := by decide +kernel
theorem dX7_readsSign_137 : decode cX7_readsSign 137 = .ok (.bipush 47, 2) := by decide +kernel
theorem dX7_readsSign_139 : decode cX7_readsSign 139 = .ok (.if_icmp .ne 30, 3) := by decide +kernel
theorem dX7_readsSign_142 : decode cX7_readsSign 142 = .ok (.aload_n 0, 1) := by decide +kernel
theorem dX7_readsSign_143 : decode cX7_readsSign 143 = .ok (.getfield 39, 3) := by decide +kernel
theorem dX7_readsSign_146 : decode cX7_readsSign 146 = .ok (.iconst 0, 1) := by decide +kernel
theorem dX7_readsSign_147 : decode cX7_readsSign 147 = .ok (.iaload, 1) := by decide +kernel
theorem dX7_readsSign_148 : decode cX7_readsSign 148 = .ok (.ifCond .ne 23, 3) := by decide +kernel
theorem dX7_readsSign_151 : decode cX7_readsSign 151 = .ok (.aload_n 0, 1) := by decide +kernel
theorem dX7_readsSign_152 : decode cX7_readsSign 152 = .ok (.getfield 39, 3) := by decide +kernel
theorem dX7_readsSign_155 : decode cX7_readsSign 155 = .ok (.iconst 1, 1) := by decide +kernel
theorem dX7_readsSign_156 : decode cX7_readsSign 156 = .ok (.iaload, 1) := by decide +kernel
theorem dX7_readsSign_157 : decode cX7_readsSign 157 = .ok (.ifCond .ne 14, 3) := by decide +kernel
theorem dX7_readsSign_160 : decode cX7_readsSign 160 = .ok (.aload_n 0, 1) := by decide +kernel
theorem dX7_readsSign_161 : decode cX7_readsSign 161 = .ok (.getfield 39, 3) := by decide +kernel
theorem dX7_readsSign_164 : decode cX7_readsSign 164 = .ok (.iconst 2, 1) := by decide +kernel
theorem dX7_readsSign_165 : decode cX7_readsSign 165 = .ok (.iaload, 1) := by decide +kernel
theorem dX7_readsSign_166 : decode cX7_readsSign 166 = .ok (.ifCond .ne 5, 3) := by decide +kernel
theorem dX7_readsSign_169 : decode cX7_readsSign 169 = .ok (.iconst 0, 1) := by decide +kernel
theorem dX7_readsSign_170 : decode cX7_readsSign 170 = .ok (.ireturn, 1) := by decide +kernel
theorem dX7_readsSign_171 : decode cX7_readsSign 171 = .ok (.aload_n 0, 1) := by decide +kernel
theorem dX7_readsSign_172 : decode cX7_readsSign 172 = .ok (.dup, 1) := by decide +kernel
theorem dX7_readsSign_173 : decode cX7_readsSign 173 = .ok (.getfield 196, 3) := by decide +kernel
theorem dX7_readsSign_176 : decode cX7_readsSign 176 = .ok (.iconst 1, 1) := by decide +kernel
theorem dX7_readsSign_177 : decode cX7_readsSign 177 = .ok (.iadd, 1) := by decide +kernel
theorem dX7_readsSign_178 : decode cX7_readsSign 178 = .ok (.putfield 196, 3) := by decide +kernel
theorem dX7_readsSign_181 : decode cX7_readsSign 181 = .ok (.iconst 1, 1) := by decide +kernel
theorem dX7_readsSign_182 : decode cX7_readsSign 182 = .ok (.ireturn, 1) := by decide +kernel
theorem dX7_readsOff_0 : decode cX7_readsOff 0 = .ok (.aload_n 0, 1) := by decide +kernel
theorem dX7_readsOff_1 : decode cX7_readsOff 1 = .ok (.invokevirtual 202, 3) := by decide +kernel
theorem dX7_readsOff_4 : decode cX7_readsOff 4 = .ok (.iconst 0, 1) := by decide +kernel
theorem dX7_readsOff_5 : decode cX7_readsOff 5 = .ok (.istore_n 1, 1) := by decide +kernel
theorem dX7_readsOff_6 : decode cX7_readsOff 6 = .ok (.iconst 0, 1) := by decide +kernel
theorem dX7_readsOff_7 : decode cX7_readsOff 7 = .ok (.istore_n 2, 1) := by decide +kernel
theorem dX7_readsOff_8 : decode cX7_readsOff 8 = .ok (.aload_n 0, 1) := by decide +kernel
theorem dX7_readsOff_9 : decode cX7_readsOff 9 = .ok (.aload_n 0, 1) := by decide +kernel
theorem dX7_readsOff_10 : decode cX7_readsOff 10 = .ok (.getfield 196, 3) := by decide +kernel
theorem dX7_readsOff_13 : decode cX7_readsOff 13 = .ok (.iload_n 2, 1) := by decide +kernel
theorem dX7_readsOff_14 : decode cX7_readsOff 14 = .ok (.iadd, 1) := by decide +kernel
theorem dX7_readsOff_15 : decode cX7_readsOff 15 = .ok (.invokevirtual 199, 3) := by decide +kernel
theorem dX7_readsOff_18 : decode cX7_readsOff 18 = .ok (.bipush 48, 2) := by decide +kernel
theorem dX7_readsOff_20 : decode cX7_readsOff 20 = .ok (.bipush 57, 2) := by decide +kernel
theorem dX7_readsOff_22 : decode cX7_readsOff 22 = .ok (.invokestatic 45, 3) := by decide +kernel
theorem dX7_readsOff_25 : decode cX7_readsOff 25 = .ok (.ifCond .eq 38, 3) := by decide +kernel
theorem dX7_readsOff_28 : decode cX7_readsOff 28 = .ok (.iload_n 2, 1) := by decide +kernel
theorem dX7_readsOff_29 : decode cX7_readsOff 29 = .ok (.iconst 3, 1) := by decide +kernel
theorem dX7_readsOff_30 : decode cX7_readsOff 30 = .ok (.if_icmp .ge 25, 3) := by decide +kernel
theorem dX7_readsOff_33 : decode cX7_readsOff 33 = .ok (.bipush 10, 2) := by decide +kernel
theorem dX7_readsOff_35 : decode cX7_readsOff 35 = .ok (.iload_n 1, 1) := by decide +kernel
theorem dX7_readsOff_36 : decode cX7_readsOff 36 = .ok (.imul, 1) := by decide +kernel
theorem dX7_readsOff_37 : decode cX7_readsOff 37 = .ok (.aload_n 0, 1) := by decide +kernel
theorem dX7_readsOff_38 : decode cX7_readsOff 38 = .ok (.getfield 22, 3) := by decide +kernel
theorem dX7_readsOff_41 : decode cX7_readsOff 41 = .ok (.aload_n 0, 1) := by decide +kernel
theorem dX7_readsOff_42 : decode cX7_readsOff 42 = .ok (.getfield 196, 3) := by decide +kernel
theorem dX7_readsOff_45 : decode cX7_readsOff 45 = .ok (.iload_n 2, 1) := by decide +kernel
theorem dX7_readsOff_46 : decode cX7_readsOff 46 = .ok (.iadd, 1) := by decide +kernel
theorem dX7_readsOff_47 : decode cX7_readsOff 47 = .ok (.iaload, 1) := by decide +kernel
theorem dX7_readsOff_48 : decode cX7_readsOff 48 = .ok (.iadd, 1) := by decide +kernel
theorem dX7_readsOff_49 : decode cX7_readsOff 49 = .ok (.bipush 48, 2) := by decide +kernel
theorem dX7_readsOff_51 : decode cX7_readsOff 51 = .ok (.isub, 1) := by decide +kernel
theorem dX7_readsOff_52 : decode cX7_readsOff 52 = .ok (.goto 4, 3) := by decide +kernel
theorem dX7_readsOff_55 : decode cX7_readsOff 55 = .ok (.iload_n 1, 1) := by decide +kernel
theorem dX7_readsOff_56 : decode cX7_readsOff 56 = .ok (.istore_n 1, 1) := by decide +kernel
theorem dX7_readsOff_57 : decode cX7_readsOff 57 = .ok (.iinc 2 1, 3) := by decide +kernel
theorem dX7_readsOff_60 : decode cX7_readsOff 60 = .ok (.goto (-52), 3) := by decide +kernel
theorem dX7_readsOff_63 : decode cX7_readsOff 63 = .ok (.iload_n 2, 1) := by decide +kernel
theorem dX7_readsOff_64 : decode cX7_readsOff 64 = .ok (.ifCond .eq 18, 3) := by decide +kernel
theorem dX7_readsOff_67 : decode cX7_readsOff 67 = .ok (.iload_n 2, 1) := by decide +kernel
theorem dX7_readsOff_68 : decode cX7_readsOff 68 = .ok (.iconst 2, 1) := by decide +kernel
theorem dX7_readsOff_69 : decode cX7_readsOff 69 = .ok (.if_icmp .gt 13, 3) := by decide +kernel
theorem dX7_readsOff_72 : decode cX7_readsOff 72 = .ok (.iload_n 1, 1) := by decide +kernel
theorem dX7_readsOff_73 : decode cX7_readsOff 73 = .ok (.iconst 1, 1) := by decide +kernel
theorem dX7_readsOff_74 : decode cX7_readsOff 74 = .ok (.bipush 60, 2) := by decide +kernel
theorem dX7_readsOff_76 : decode cX7_readsOff 76 = .ok (.invokestatic 45, 3) := by decide +kernel
theorem dX7_readsOff_79 : decode cX7_readsOff 79 = .ok (.ifCond .ne 5, 3) := by decide +kernel
theorem dX7_readsOff_82 : decode cX7_readsOff 82 = .ok (.iconst 0, 1) := by decide +kernel
theorem dX7_readsOff_83 : decode cX7_readsOff 83 = .ok (.ireturn, 1) := by decide +kernel
theorem dX7_readsOff_84 : decode cX7_readsOff 84 = .ok (.aload_n 0, 1) := by decide +kernel
