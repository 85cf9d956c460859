theorem dX6_leastMetric_179 : decode cX6_leastMetric 179 = .ok (.getfield 37, 3) := by decide +kernel
theorem dX6_leastMetric_182 : decode cX6_leastMetric 182 = .ok (.iload 8, 2) := by decide +kernel
theorem dX6_leastMetric_184 : decode cX6_leastMetric 184 = .ok (.iaload, 1) := by decide +kernel
theorem dX6_leastMetric_185 : decode cX6_leastMetric 185 = .ok (.iadd, 1) := by decide +kernel
theorem dX6_leastMetric_186 : decode cX6_leastMetric 186 = .ok (.iaload, 1) := by decide +kernel
theorem dX6_leastMetric_187 : decode cX6_leastMetric 187 = .ok (.if_icmp .ge 26, 3) := by decide +kernel
theorem dX6_leastMetric_190 : decode cX6_leastMetric 190 = .ok (.aload_n 0, 1) := by decide +kernel
theorem dX6_leastMetric_191 : decode cX6_leastMetric 191 = .ok (.getfield 15, 3) := by decide +kernel
theorem dX6_leastMetric_194 : decode cX6_leastMetric 194 = .ok (.iload 7, 2) := by decide +kernel
theorem dX6_leastMetric_196 : decode cX6_leastMetric 196 = .ok (.aload_n 0, 1) := by decide +kernel
theorem dX6_leastMetric_197 : decode cX6_leastMetric 197 = .ok (.getfield 27, 3) := by decide +kernel
theorem dX6_leastMetric_200 : decode cX6_leastMetric 200 = .ok (.getfield 37, 3) := by decide +kernel
theorem dX6_leastMetric_203 : decode cX6_leastMetric 203 = .ok (.iload 8, 2) := by decide +kernel
theorem dX6_leastMetric_205 : decode cX6_leastMetric 205 = .ok (.iaload, 1) := by decide +kernel
theorem dX6_leastMetric_206 : decode cX6_leastMetric 206 = .ok (.iadd, 1) := by decide +kernel
theorem dX6_leastMetric_207 : decode cX6_leastMetric 207 = .ok (.iload 9, 2) := by decide +kernel
theorem dX6_leastMetric_209 : decode cX6_leastMetric 209 = .ok (.iastore, 1) := by decide +kernel
theorem dX6_leastMetric_210 : decode cX6_leastMetric 210 = .ok (.iconst 1, 1) := by decide +kernel
theorem dX6_leastMetric_211 : decode cX6_leastMetric 211 = .ok (.istore 5, 2) := by decide +kernel
theorem dX6_leastMetric_213 : decode cX6_leastMetric 213 = .ok (.iinc 8 1, 3) := by decide +kernel
theorem dX6_leastMetric_216 : decode cX6_leastMetric 216 = .ok (.goto (-101), 3) := by decide +kernel
theorem dX6_leastMetric_219 : decode cX6_leastMetric 219 = .ok (.goto (-176), 3) := by decide +kernel
theorem dX6_leastMetric_222 : decode cX6_leastMetric 222 = .ok (.aload_n 0, 1) := by decide +kernel
theorem dX6_leastMetric_223 : decode cX6_leastMetric 223 = .ok (.getfield 15, 3) := by decide +kernel
theorem dX6_leastMetric_226 : decode cX6_leastMetric 226 = .ok (.aload_n 0, 1) := by decide +kernel
theorem dX6_leastMetric_227 : decode cX6_leastMetric 227 = .ok (.getfield 44, 3) := by decide +kernel
theorem dX6_leastMetric_230 : decode cX6_leastMetric 230 = .ok (.bipush 8, 2) := by decide +kernel
theorem dX6_leastMetric_232 : decode cX6_leastMetric 232 = .ok (.imul, 1) := by decide +kernel
theorem dX6_leastMetric_233 : decode cX6_leastMetric 233 = .ok (.iload_n 2, 1) := by decide +kernel
theorem dX6_leastMetric_234 : decode cX6_leastMetric 234 = .ok (.iadd, 1) := by decide +kernel
theorem dX6_leastMetric_235 : decode cX6_leastMetric 235 = .ok (.iaload, 1) := by decide +kernel
theorem dX6_leastMetric_236 : decode cX6_leastMetric 236 = .ok (.ireturn, 1) := by decide +kernel
theorem dX6_bestOf_0 : decode cX6_bestOf 0 = .ok (.aload_n 0, 1) := by decide +kernel
theorem dX6_bestOf_1 : decode cX6_bestOf 1 = .ok (.iload_n 1, 1) := by decide +kernel
theorem dX6_bestOf_2 : decode cX6_bestOf 2 = .ok (.iload_n 2, 1) := by decide +kernel
theorem dX6_bestOf_3 : decode cX6_bestOf 3 = .ok (.iload_n 3, 1) := by decide +kernel
theorem dX6_bestOf_4 : decode cX6_bestOf 4 = .ok (.iload 4, 2) := by decide +kernel
theorem dX6_bestOf_6 : decode cX6_bestOf 6 = .ok (.invokevirtual 56, 3) := by decide +kernel
theorem dX6_bestOf_9 : decode cX6_bestOf 9 = .ok (.istore 5, 2) := by decide +kernel
theorem dX6_bestOf_11 : decode cX6_bestOf 11 = .ok (.iload 5, 2) := by decide +kernel
theorem dX6_bestOf_13 : decode cX6_bestOf 13 = .ok (.ldc 43, 2) := by decide +kernel
theorem dX6_bestOf_15 : decode cX6_bestOf 15 = .ok (.if_icmp .lt 5, 3) := by decide +kernel
theorem dX6_bestOf_18 : decode cX6_bestOf 18 = .ok (.iconst 0, 1) := by decide +kernel
theorem dX6_bestOf_19 : decode cX6_bestOf 19 = .ok (.ireturn, 1) := by decide +kernel
theorem dX6_bestOf_20 : decode cX6_bestOf 20 = .ok (.iconst 0, 1) := by decide +kernel
theorem dX6_bestOf_21 : decode cX6_bestOf 21 = .ok (.istore 6, 2) := by decide +kernel
theorem dX6_bestOf_23 : decode cX6_bestOf 23 = .ok (.iload 6, 2) := by decide +kernel
theorem dX6_bestOf_25 : decode cX6_bestOf 25 = .ok (.aload_n 0, 1) := by decide +kernel
theorem dX6_bestOf_26 : decode cX6_bestOf 26 = .ok (.getfield 44, 3) := by decide +kernel
theorem dX6_bestOf_29 : decode cX6_bestOf 29 = .ok (.if_icmp .ge 26, 3) := by decide +kernel
theorem dX6_bestOf_32 : decode cX6_bestOf 32 = .ok (.aload_n 0, 1) := by decide +kernel
theorem dX6_bestOf_33 : decode cX6_bestOf 33 = .ok (.getfield 15, 3) := by decide +kernel
theorem dX6_bestOf_36 : decode cX6_bestOf 36 = .ok (.iload 6, 2) := by decide +kernel
theorem dX6_bestOf_38 : decode cX6_bestOf 38 = .ok (.bipush 8, 2) := by decide +kernel
theorem dX6_bestOf_40 : decode cX6_bestOf 40 = .ok (.imul, 1) := by decide +kernel
theorem dX6_bestOf_41 : decode cX6_bestOf 41 = .ok (.iload_n 2, 1) := by decide +kernel
theorem dX6_bestOf_42 : decode cX6_bestOf 42 = .ok (.iadd, 1) := by decide +kernel
theorem dX6_bestOf_43 : decode cX6_bestOf 43 = .ok (.iaload, 1) := by decide +kernel
theorem dX6_bestOf_44 : decode cX6_bestOf 44 = .ok (.iload 5, 2) := by decide +kernel
theorem dX6_bestOf_46 : decode cX6_bestOf 46 = .ok (.if_icmp .eq 9, 3) := by decide +kernel
theorem dX6_bestOf_49 : decode cX6_bestOf 49 = .ok (.iinc 6 1, 3) := by decide +kernel
theorem dX6_bestOf_52 : decode cX6_bestOf 52 = .ok (.goto (-29), 3) := by decide +kernel
theorem dX6_bestOf_55 : decode cX6_bestOf 55 = .ok (.aload_n 0, 1) := by decide +kernel
theorem dX6_bestOf_56 : decode cX6_bestOf 56 = .ok (.iload_n 1, 1) := by decide +kernel
theorem dX6_bestOf_57 : decode cX6_bestOf 57 = .ok (.iload_n 3, 1) := by decide +kernel
theorem dX6_bestOf_58 : decode cX6_bestOf 58 = .ok (.iload 6, 2) := by decide +kernel
theorem dX6_bestOf_60 : decode cX6_bestOf 60 = .ok (.invokevirtual 60, 3) := by decide +kernel
theorem dX6_bestOf_63 : decode cX6_bestOf 63 = .ok (.aload_n 0, 1) := by decide +kernel
theorem dX6_bestOf_64 : decode cX6_bestOf 64 = .ok (.getfield 18, 3) := by decide +kernel
theorem dX6_bestOf_67 : decode cX6_bestOf 67 = .ok (.iload 6, 2) := by decide +kernel
theorem dX6_bestOf_69 : decode cX6_bestOf 69 = .ok (.bipush 8, 2) := by decide +kernel
theorem dX6_bestOf_71 : decode cX6_bestOf 71 = .ok (.imul, 1) := by decide +kernel
theorem dX6_bestOf_72 : decode cX6_bestOf 72 = .ok (.iload_n 2, 1) := by decide +kernel
theorem dX6_bestOf_73 : decode cX6_bestOf 73 = .ok (.iadd, 1) := by decide +kernel
theorem dX6_bestOf_74 : decode cX6_bestOf 74 = .ok (.iaload, 1) := by decide +kernel
theorem dX6_bestOf_75 : decode cX6_bestOf 75 = .ok (.istore 7, 2) := by decide +kernel
theorem dX6_bestOf_77 : decode cX6_bestOf 77 = .ok (.iconst 0, 1) := by decide +kernel
theorem dX6_bestOf_78 : decode cX6_bestOf 78 = .ok (.istore 8, 2) := by decide +kernel
theorem dX6_bestOf_80 : decode cX6_bestOf 80 = .ok (.iload_n 2, 1) := by decide +kernel
theorem dX6_bestOf_81 : decode cX6_bestOf 81 = .ok (.istore 9, 2) := by decide +kernel
theorem dX6_bestOf_83 : decode cX6_bestOf 83 = .ok (.iload 6, 2) := by decide +kernel
theorem dX6_bestOf_85 : decode cX6_bestOf 85 = .ok (.istore 10, 2) := by decide +kernel
theorem dX6_bestOf_87 : decode cX6_bestOf 87 = .ok (.iload 10, 2) := by decide +kernel
theorem dX6_bestOf_89 : decode cX6_bestOf 89 = .ok (.ifCond .le 51, 3) := by decide +kernel
theorem dX6_bestOf_92 : decode cX6_bestOf 92 = .ok (.aload_n 0, 1) := by decide +kernel
theorem dX6_bestOf_93 : decode cX6_bestOf 93 = .ok (.iload_n 1, 1) := by decide +kernel
theorem dX6_bestOf_94 : decode cX6_bestOf 94 = .ok (.iload 9, 2) := by decide +kernel
theorem dX6_bestOf_96 : decode cX6_bestOf 96 = .ok (.iload 10, 2) := by decide +kernel
theorem dX6_bestOf_98 : decode cX6_bestOf 98 = .ok (.iload 7, 2) := by decide +kernel
theorem dX6_bestOf_100 : decode cX6_bestOf 100 = .ok (.invokevirtual 64, 3) := by decide +kernel
theorem dX6_bestOf_103 : decode cX6_bestOf 103 = .ok (.istore 11, 2) := by decide +kernel
theorem dX6_bestOf_105 : decode cX6_bestOf 105 = .ok (.iload 11, 2) := by decide +kernel
theorem dX6_bestOf_107 : decode cX6_bestOf 107 = .ok (.iconst (-1), 1) := by decide +kernel
theorem dX6_bestOf_108 : decode cX6_bestOf 108 = .ok (.if_icmp .ne 5, 3) := by decide +kernel
theorem dX6_bestOf_111 : decode cX6_bestOf 111 = .ok (.iconst 0, 1) := by decide +kernel
theorem dX6_bestOf_112 : decode cX6_bestOf 112 = .ok (.ireturn, 1) := by decide +kernel
theorem dX6_bestOf_113 : decode cX6_bestOf 113 = .ok (.iload 8, 2) := by decide +kernel
theorem dX6_bestOf_115 : decode cX6_bestOf 115 = .ok (.iconst 1, 1) := by decide +kernel
theorem dX6_bestOf_116 : decode cX6_bestOf 116 = .ok (.iload 11, 2) := by decide +kernel
theorem dX6_bestOf_118 : decode cX6_bestOf 118 = .ok (.ishl, 1) := by decide +kernel
theorem dX6_bestOf_119 : decode cX6_bestOf 119 = .ok (.ior, 1) := by decide +kernel
theorem dX6_bestOf_120 : decode cX6_bestOf 120 = .ok (.istore 8, 2) := by decide +kernel
theorem dX6_bestOf_122 : decode cX6_bestOf 122 = .ok (.aload_n 0, 1) := by decide +kernel
theorem dX6_bestOf_123 : decode cX6_bestOf 123 = .ok (.getfield 27, 3) := by decide +kernel
theorem dX6_bestOf_126 : decode cX6_bestOf 126 = .ok (.getfield 40, 3) := by decide +kernel
theorem dX6_bestOf_129 : decode cX6_bestOf 129 = .ok (.iload 11, 2) := by decide +kernel
theorem dX6_bestOf_131 : decode cX6_bestOf 131 = .ok (.iaload, 1) := by decide +kernel
theorem dX6_bestOf_132 : decode cX6_bestOf 132 = .ok (.istore 9, 2) := by decide +kernel
theorem dX6_bestOf_134 : decode cX6_bestOf 134 = .ok (.iinc 10 (-1), 3) := by decide +kernel
theorem dX6_bestOf_137 : decode cX6_bestOf 137 = .ok (.goto (-50), 3) := by decide +kernel
theorem dX6_bestOf_140 : decode cX6_bestOf 140 = .ok (.iload 8, 2) := by decide +kernel
theorem dX6_bestOf_142 : decode cX6_bestOf 142 = .ok (.ireturn, 1) := by decide +kernel
theorem dX6_spanBestWays_0 : decode cX6_spanBestWays 0 = .ok (.iconst 0, 1) := by decide +kernel
theorem dX6_spanBestWays_1 : decode cX6_spanBestWays 1 = .ok (.istore 4, 2) := by decide +kernel
theorem dX6_spanBestWays_3 : decode cX6_spanBestWays 3 = .ok (.iload 4, 2) := by decide +kernel
theorem dX6_spanBestWays_5 : decode cX6_spanBestWays 5 = .ok (.iload_n 3, 1) := by decide +kernel
theorem dX6_spanBestWays_6 : decode cX6_spanBestWays 6 = .ok (.if_icmp .gt 216, 3) := by decide +kernel
theorem dX6_spanBestWays_9 : decode cX6_spanBestWays 9 = .ok (.iload 4, 2) := by decide +kernel
theorem dX6_spanBestWays_11 : decode cX6_spanBestWays 11 = .ok (.bipush 7, 2) := by decide +kernel
theorem dX6_spanBestWays_13 : decode cX6_spanBestWays 13 = .ok (.if_icmp .gt 209, 3) := by decide +kernel
theorem dX6_spanBestWays_16 : decode cX6_spanBestWays 16 = .ok (.iload 4, 2) := by decide +kernel
theorem dX6_spanBestWays_18 : decode cX6_spanBestWays 18 = .ok (.bipush 8, 2) := by decide +kernel
theorem dX6_spanBestWays_20 : decode cX6_spanBestWays 20 = .ok (.imul, 1) := by decide +kernel
theorem dX6_spanBestWays_21 : decode cX6_spanBestWays 21 = .ok (.istore 5, 2) := by decide +kernel
theorem dX6_spanBestWays_23 : decode cX6_spanBestWays 23 = .ok (.iconst 0, 1) := by decide +kernel
theorem dX6_spanBestWays_24 : decode cX6_spanBestWays 24 = .ok (.istore 6, 2) := by decide +kernel
theorem dX6_spanBestWays_26 : decode cX6_spanBestWays 26 = .ok (.iload 6, 2) := by decide +kernel
theorem dX6_spanBestWays_28 : decode cX6_spanBestWays 28 = .ok (.bipush 8, 2) := by decide +kernel
theorem dX6_spanBestWays_30 : decode cX6_spanBestWays 30 = .ok (.if_icmp .ge 32, 3) := by decide +kernel
theorem dX6_spanBestWays_33 : decode cX6_spanBestWays 33 = .ok (.aload_n 0, 1) := by decide +kernel
theorem dX6_spanBestWays_34 : decode cX6_spanBestWays 34 = .ok (.getfield 18, 3) := by decide +kernel
theorem dX6_spanBestWays_37 : decode cX6_spanBestWays 37 = .ok (.iload 5, 2) := by decide +kernel
theorem dX6_spanBestWays_39 : decode cX6_spanBestWays 39 = .ok (.iload 6, 2) := by decide +kernel
theorem dX6_spanBestWays_41 : decode cX6_spanBestWays 41 = .ok (.iadd, 1) := by decide +kernel
theorem dX6_spanBestWays_42 : decode cX6_spanBestWays 42 = .ok (.iload 6, 2) := by decide +kernel
theorem dX6_spanBestWays_44 : decode cX6_spanBestWays 44 = .ok (.iload_n 2, 1) := by decide +kernel
theorem dX6_spanBestWays_45 : decode cX6_spanBestWays 45 = .ok (.if_icmp .ne 8, 3) := by decide +kernel
theorem dX6_spanBestWays_48 : decode cX6_spanBestWays 48 = .ok (.ldc 43, 2) := by decide +kernel
theorem dX6_spanBestWays_50 : decode cX6_spanBestWays 50 = .ok (.goto 5, 3) := by decide +kernel
theorem dX6_spanBestWays_53 : decode cX6_spanBestWays 53 = .ok (.ldc 67, 2) := by decide +kernel
theorem dX6_spanBestWays_55 : decode cX6_spanBestWays 55 = .ok (.iastore, 1) := by decide +kernel
theorem dX6_spanBestWays_56 : decode cX6_spanBestWays 56 = .ok (.iinc 6 1, 3) := by decide +kernel
theorem dX6_spanBestWays_59 : decode cX6_spanBestWays 59 = .ok (.goto (-33), 3) := by decide +kernel
theorem dX6_spanBestWays_62 : decode cX6_spanBestWays 62 = .ok (.iconst 0, 1) := by decide +kernel
theorem dX6_spanBestWays_63 : decode cX6_spanBestWays 63 = .ok (.istore 6, 2) := by decide +kernel
theorem dX6_spanBestWays_65 : decode cX6_spanBestWays 65 = .ok (.iload 6, 2) := by decide +kernel
theorem dX6_spanBestWays_67 : decode cX6_spanBestWays 67 = .ok (.aload_n 0, 1) := by decide +kernel
theorem dX6_spanBestWays_68 : decode cX6_spanBestWays 68 = .ok (.getfield 27, 3) := by decide +kernel
theorem dX6_spanBestWays_71 : decode cX6_spanBestWays 71 = .ok (.getfield 31, 3) := by decide +kernel
theorem dX6_spanBestWays_74 : decode cX6_spanBestWays 74 = .ok (.if_icmp .ge 142, 3) := by decide +kernel
theorem dX6_spanBestWays_77 : decode cX6_spanBestWays 77 = .ok (.iload 4, 2) := by decide +kernel
theorem dX6_spanBestWays_79 : decode cX6_spanBestWays 79 = .ok (.ifCond .le 137, 3) := by decide +kernel
theorem dX6_spanBestWays_82 : decode cX6_spanBestWays 82 = .ok (.iload 5, 2) := by decide +kernel
theorem dX6_spanBestWays_84 : decode cX6_spanBestWays 84 = .ok (.aload_n 0, 1) := by decide +kernel
theorem dX6_spanBestWays_85 : decode cX6_spanBestWays 85 = .ok (.getfield 27, 3) := by decide +kernel
theorem dX6_spanBestWays_88 : decode cX6_spanBestWays 88 = .ok (.getfield 37, 3) := by decide +kernel
theorem dX6_spanBestWays_91 : decode cX6_spanBestWays 91 = .ok (.iload 6, 2) := by decide +kernel
theorem dX6_spanBestWays_93 : decode cX6_spanBestWays 93 = .ok (.iaload, 1) := by decide +kernel
theorem dX6_spanBestWays_94 : decode cX6_spanBestWays 94 = .ok (.iadd, 1) := by decide +kernel
theorem dX6_spanBestWays_95 : decode cX6_spanBestWays 95 = .ok (.istore 7, 2) := by decide +kernel
theorem dX6_spanBestWays_97 : decode cX6_spanBestWays 97 = .ok (.iload 5, 2) := by decide +kernel
theorem dX6_spanBestWays_99 : decode cX6_spanBestWays 99 = .ok (.bipush 8, 2) := by decide +kernel
theorem dX6_spanBestWays_101 : decode cX6_spanBestWays 101 = .ok (.isub, 1) := by decide +kernel
theorem dX6_spanBestWays_102 : decode cX6_spanBestWays 102 = .ok (.aload_n 0, 1) := by decide +kernel
theorem dX6_spanBestWays_103 : decode cX6_spanBestWays 103 = .ok (.getfield 27, 3) := by decide +kernel
theorem dX6_spanBestWays_106 : decode cX6_spanBestWays 106 = .ok (.getfield 40, 3) := by decide +kernel
theorem dX6_spanBestWays_109 : decode cX6_spanBestWays 109 = .ok (.iload 6, 2) := by decide +kernel
theorem dX6_spanBestWays_111 : decode cX6_spanBestWays 111 = .ok (.iaload, 1) := by decide +kernel
theorem dX6_spanBestWays_112 : decode cX6_spanBestWays 112 = .ok (.iadd, 1) := by decide +kernel
theorem dX6_spanBestWays_113 : decode cX6_spanBestWays 113 = .ok (.istore 8, 2) := by decide +kernel
theorem dX6_spanBestWays_115 : decode cX6_spanBestWays 115 = .ok (.aload_n 0, 1) := by decide +kernel
theorem dX6_spanBestWays_116 : decode cX6_spanBestWays 116 = .ok (.getfield 15, 3) := by decide +kernel
theorem dX6_spanBestWays_119 : decode cX6_spanBestWays 119 = .ok (.iload 7, 2) := by decide +kernel
theorem dX6_spanBestWays_121 : decode cX6_spanBestWays 121 = .ok (.iaload, 1) := by decide +kernel
theorem dX6_spanBestWays_122 : decode cX6_spanBestWays 122 = .ok (.ldc 43, 2) := by decide +kernel
theorem dX6_spanBestWays_124 : decode cX6_spanBestWays 124 = .ok (.if_icmp .ge 35, 3) := by decide +kernel
theorem dX6_spanBestWays_127 : decode cX6_spanBestWays 127 = .ok (.aload_n 0, 1) := by decide +kernel
theorem dX6_spanBestWays_128 : decode cX6_spanBestWays 128 = .ok (.getfield 15, 3) := by decide +kernel
theorem dX6_spanBestWays_131 : decode cX6_spanBestWays 131 = .ok (.iload 7, 2) := by decide +kernel
theorem dX6_spanBestWays_133 : decode cX6_spanBestWays 133 = .ok (.iaload, 1) := by decide +kernel
theorem dX6_spanBestWays_134 : decode cX6_spanBestWays 134 = .ok (.aload_n 0, 1) := by decide +kernel
theorem dX6_spanBestWays_135 : decode cX6_spanBestWays 135 = .ok (.getfield 27, 3) := by decide +kernel
theorem dX6_spanBestWays_138 : decode cX6_spanBestWays 138 = .ok (.getfield 53, 3) := by decide +kernel
theorem dX6_spanBestWays_141 : decode cX6_spanBestWays 141 = .ok (.iload 6, 2) := by decide +kernel
theorem dX6_spanBestWays_143 : decode cX6_spanBestWays 143 = .ok (.iaload, 1) := by decide +kernel
theorem dX6_spanBestWays_144 : decode cX6_spanBestWays 144 = .ok (.aload_n 0, 1) := by decide +kernel
theorem dX6_spanBestWays_145 : decode cX6_spanBestWays 145 = .ok (.getfield 15, 3) := by decide +kernel
theorem dX6_spanBestWays_148 : decode cX6_spanBestWays 148 = .ok (.iload 8, 2) := by decide +kernel
theorem dX6_spanBestWays_150 : decode cX6_spanBestWays 150 = .ok (.iaload, 1) := by decide +kernel
theorem dX6_spanBestWays_151 : decode cX6_spanBestWays 151 = .ok (.iadd, 1) := by decide +kernel
theorem dX6_spanBestWays_152 : decode cX6_spanBestWays 152 = .ok (.if_icmp .ne 7, 3) := by decide +kernel
theorem dX6_spanBestWays_155 : decode cX6_spanBestWays 155 = .ok (.iconst 1, 1) := by decide +kernel
theorem dX6_spanBestWays_156 : decode cX6_spanBestWays 156 = .ok (.goto 4, 3) := by decide +kernel
theorem dX6_spanBestWays_159 : decode cX6_spanBestWays 159 = .ok (.iconst 0, 1) := by decide +kernel
theorem dX6_spanBestWays_160 : decode cX6_spanBestWays 160 = .ok (.istore 9, 2) := by decide +kernel
theorem dX6_spanBestWays_162 : decode cX6_spanBestWays 162 = .ok (.iload 9, 2) := by decide +kernel
theorem dX6_spanBestWays_164 : decode cX6_spanBestWays 164 = .ok (.ifCond .eq 46, 3) := by decide +kernel
theorem dX6_spanBestWays_167 : decode cX6_spanBestWays 167 = .ok (.iload_n 1, 1) := by decide +kernel
theorem dX6_spanBestWays_168 : decode cX6_spanBestWays 168 = .ok (.iload 6, 2) := by decide +kernel
theorem dX6_spanBestWays_170 : decode cX6_spanBestWays 170 = .ok (.iushr, 1) := by decide +kernel
theorem dX6_spanBestWays_171 : decode cX6_spanBestWays 171 = .ok (.iconst 1, 1) := by decide +kernel
theorem dX6_spanBestWays_172 : decode cX6_spanBestWays 172 = .ok (.iand, 1) := by decide +kernel
theorem dX6_spanBestWays_173 : decode cX6_spanBestWays 173 = .ok (.ifCond .eq 37, 3) := by decide +kernel
theorem dX6_spanBestWays_176 : decode cX6_spanBestWays 176 = .ok (.aload_n 0, 1) := by decide +kernel
theorem dX6_spanBestWays_177 : decode cX6_spanBestWays 177 = .ok (.getfield 18, 3) := by decide +kernel
theorem dX6_spanBestWays_180 : decode cX6_spanBestWays 180 = .ok (.iload 7, 2) := by decide +kernel
theorem dX6_spanBestWays_182 : decode cX6_spanBestWays 182 = .ok (.aload_n 0, 1) := by decide +kernel
theorem dX6_spanBestWays_183 : decode cX6_spanBestWays 183 = .ok (.getfield 18, 3) := by decide +kernel
theorem dX6_spanBestWays_186 : decode cX6_spanBestWays 186 = .ok (.iload 7, 2) := by decide +kernel
theorem dX6_spanBestWays_188 : decode cX6_spanBestWays 188 = .ok (.iaload, 1) := by decide +kernel
theorem dX6_spanBestWays_189 : decode cX6_spanBestWays 189 = .ok (.aload_n 0, 1) := by decide +kernel
theorem dX6_spanBestWays_190 : decode cX6_spanBestWays 190 = .ok (.getfield 9, 3) := by decide +kernel
theorem dX6_spanBestWays_193 : decode cX6_spanBestWays 193 = .ok (.iload 6, 2) := by decide +kernel
theorem dX6_spanBestWays_195 : decode cX6_spanBestWays 195 = .ok (.iaload, 1) := by decide +kernel
theorem dX6_spanBestWays_196 : decode cX6_spanBestWays 196 = .ok (.aload_n 0, 1) := by decide +kernel
theorem dX6_spanBestWays_197 : decode cX6_spanBestWays 197 = .ok (.getfield 18, 3) := by decide +kernel
theorem dX6_spanBestWays_200 : decode cX6_spanBestWays 200 = .ok (.iload 8, 2) := by decide +kernel
theorem dX6_spanBestWays_202 : decode cX6_spanBestWays 202 = .ok (.iaload, 1) := by decide +kernel
theorem dX6_spanBestWays_203 : decode cX6_spanBestWays 203 = .ok (.invokestatic 68, 3) := by decide +kernel
theorem dX6_spanBestWays_206 : decode cX6_spanBestWays 206 = .ok (.invokestatic 74, 3) := by decide +kernel
theorem dX6_spanBestWays_209 : decode cX6_spanBestWays 209 = .ok (.iastore, 1) := by decide +kernel
theorem dX6_spanBestWays_210 : decode cX6_spanBestWays 210 = .ok (.iinc 6 1, 3) := by decide +kernel
theorem dX6_spanBestWays_213 : decode cX6_spanBestWays 213 = .ok (.goto (-148), 3) := by decide +kernel
theorem dX6_spanBestWays_216 : decode cX6_spanBestWays 216 = .ok (.iinc 4 1, 3) := by decide +kernel
theorem dX6_spanBestWays_219 : decode cX6_spanBestWays 219 = .ok (.goto (-216), 3) := by decide +kernel
theorem dX6_spanBestWays_222 : decode cX6_spanBestWays 222 = .ok (.return_, 1) := by decide +kernel
theorem dX6_firstStep_0 : decode cX6_firstStep 0 = .ok (.iload_n 3, 1) := by decide +kernel
theorem dX6_firstStep_1 : decode cX6_firstStep 1 = .ok (.bipush 8, 2) := by decide +kernel
theorem dX6_firstStep_3 : decode cX6_firstStep 3 = .ok (.imul, 1) := by decide +kernel
theorem dX6_firstStep_4 : decode cX6_firstStep 4 = .ok (.iload_n 2, 1) := by decide +kernel
theorem dX6_firstStep_5 : decode cX6_firstStep 5 = .ok (.iadd, 1) := by decide +kernel
theorem dX6_firstStep_6 : decode cX6_firstStep 6 = .ok (.istore 5, 2) := by decide +kernel
theorem dX6_firstStep_8 : decode cX6_firstStep 8 = .ok (.iconst 0, 1) := by decide +kernel
theorem dX6_firstStep_9 : decode cX6_firstStep 9 = .ok (.istore 6, 2) := by decide +kernel
theorem dX6_firstStep_11 : decode cX6_firstStep 11 = .ok (.iload 6, 2) := by decide +kernel
theorem dX6_firstStep_13 : decode cX6_firstStep 13 = .ok (.aload_n 0, 1) := by decide +kernel
theorem dX6_firstStep_14 : decode cX6_firstStep 14 = .ok (.getfield 27, 3) := by decide +kernel
theorem dX6_firstStep_17 : decode cX6_firstStep 17 = .ok (.getfield 31, 3) := by decide +kernel
theorem dX6_firstStep_20 : decode cX6_firstStep 20 = .ok (.if_icmp .ge 130, 3) := by decide +kernel
theorem dX6_firstStep_23 : decode cX6_firstStep 23 = .ok (.iload_n 3, 1) := by decide +kernel
theorem dX6_firstStep_24 : decode cX6_firstStep 24 = .ok (.iconst 1, 1) := by decide +kernel
theorem dX6_firstStep_25 : decode cX6_firstStep 25 = .ok (.isub, 1) := by decide +kernel
theorem dX6_firstStep_26 : decode cX6_firstStep 26 = .ok (.bipush 8, 2) := by decide +kernel
theorem dX6_firstStep_28 : decode cX6_firstStep 28 = .ok (.imul, 1) := by decide +kernel
theorem dX6_firstStep_29 : decode cX6_firstStep 29 = .ok (.aload_n 0, 1) := by decide +kernel
theorem dX6_firstStep_30 : decode cX6_firstStep 30 = .ok (.getfield 27, 3) := by decide +kernel
theorem dX6_firstStep_33 : decode cX6_firstStep 33 = .ok (.getfield 40, 3) := by decide +kernel
theorem dX6_firstStep_36 : decode cX6_firstStep 36 = .ok (.iload 6, 2) := by decide +kernel
theorem dX6_firstStep_38 : decode cX6_firstStep 38 = .ok (.iaload, 1) := by decide +kernel
theorem dX6_firstStep_39 : decode cX6_firstStep 39 = .ok (.iadd, 1) := by decide +kernel
theorem dX6_firstStep_40 : decode cX6_firstStep 40 = .ok (.istore 7, 2) := by decide +kernel
theorem dX6_firstStep_42 : decode cX6_firstStep 42 = .ok (.iload_n 1, 1) := by decide +kernel
theorem dX6_firstStep_43 : decode cX6_firstStep 43 = .ok (.iload 6, 2) := by decide +kernel
theorem dX6_firstStep_45 : decode cX6_firstStep 45 = .ok (.iushr, 1) := by decide +kernel
theorem dX6_firstStep_46 : decode cX6_firstStep 46 = .ok (.iconst 1, 1) := by decide +kernel
theorem dX6_firstStep_47 : decode cX6_firstStep 47 = .ok (.iand, 1) := by decide +kernel
theorem dX6_firstStep_48 : decode cX6_firstStep 48 = .ok (.ifCond .eq 21, 3) := by decide +kernel
theorem dX6_firstStep_51 : decode cX6_firstStep 51 = .ok (.aload_n 0, 1) := by decide +kernel
theorem dX6_firstStep_52 : decode cX6_firstStep 52 = .ok (.getfield 27, 3) := by decide +kernel
theorem dX6_firstStep_55 : decode cX6_firstStep 55 = .ok (.getfield 37, 3) := by decide +kernel
theorem dX6_firstStep_58 : decode cX6_firstStep 58 = .ok (.iload 6, 2) := by decide +kernel
theorem dX6_firstStep_60 : decode cX6_firstStep 60 = .ok (.iaload, 1) := by decide +kernel
theorem dX6_firstStep_61 : decode cX6_firstStep 61 = .ok (.iload_n 2, 1) := by decide +kernel
theorem dX6_firstStep_62 : decode cX6_firstStep 62 = .ok (.if_icmp .ne 7, 3) := by decide +kernel
theorem dX6_firstStep_65 : decode cX6_firstStep 65 = .ok (.iconst 1, 1) := by decide +kernel
theorem dX6_firstStep_66 : decode cX6_firstStep 66 = .ok (.goto 4, 3) := by decide +kernel
theorem dX6_firstStep_69 : decode cX6_firstStep 69 = .ok (.iconst 0, 1) := by decide +kernel
theorem dX6_firstStep_70 : decode cX6_firstStep 70 = .ok (.istore 8, 2) := by decide +kernel
theorem dX6_firstStep_72 : decode cX6_firstStep 72 = .ok (.aload_n 0, 1) := by decide +kernel
theorem dX6_firstStep_73 : decode cX6_firstStep 73 = .ok (.getfield 9, 3) := by decide +kernel
theorem dX6_firstStep_76 : decode cX6_firstStep 76 = .ok (.iload 6, 2) := by decide +kernel
theorem dX6_firstStep_78 : decode cX6_firstStep 78 = .ok (.iaload, 1) := by decide +kernel
theorem dX6_firstStep_79 : decode cX6_firstStep 79 = .ok (.iload 4, 2) := by decide +kernel
theorem dX6_firstStep_81 : decode cX6_firstStep 81 = .ok (.if_icmp .lt 19, 3) := by decide +kernel
theorem dX6_firstStep_84 : decode cX6_firstStep 84 = .ok (.aload_n 0, 1) := by decide +kernel
theorem dX6_firstStep_85 : decode cX6_firstStep 85 = .ok (.getfield 18, 3) := by decide +kernel
theorem dX6_firstStep_88 : decode cX6_firstStep 88 = .ok (.iload 7, 2) := by decide +kernel
theorem dX6_firstStep_90 : decode cX6_firstStep 90 = .ok (.iaload, 1) := by decide +kernel
theorem dX6_firstStep_91 : decode cX6_firstStep 91 = .ok (.iload 4, 2) := by decide +kernel
theorem dX6_firstStep_93 : decode cX6_firstStep 93 = .ok (.if_icmp .lt 7, 3) := by decide +kernel
theorem dX6_firstStep_96 : decode cX6_firstStep 96 = .ok (.iconst 1, 1) := by decide +kernel
theorem dX6_firstStep_97 : decode cX6_firstStep 97 = .ok (.goto 4, 3) := by decide +kernel
theorem dX6_firstStep_100 : decode cX6_firstStep 100 = .ok (.iconst 0, 1) := by decide +kernel
theorem dX6_firstStep_101 : decode cX6_firstStep 101 = .ok (.istore 9, 2) := by decide +kernel
theorem dX6_firstStep_103 : decode cX6_firstStep 103 = .ok (.iload 8, 2) := by decide +kernel
theorem dX6_firstStep_105 : decode cX6_firstStep 105 = .ok (.ifCond .eq 39, 3) := by decide +kernel
theorem dX6_firstStep_108 : decode cX6_firstStep 108 = .ok (.iload 9, 2) := by decide +kernel
theorem dX6_firstStep_110 : decode cX6_firstStep 110 = .ok (.ifCond .eq 34, 3) := by decide +kernel
theorem dX6_firstStep_113 : decode cX6_firstStep 113 = .ok (.aload_n 0, 1) := by decide +kernel
theorem dX6_firstStep_114 : decode cX6_firstStep 114 = .ok (.getfield 15, 3) := by decide +kernel
theorem dX6_firstStep_117 : decode cX6_firstStep 117 = .ok (.iload 5, 2) := by decide +kernel
theorem dX6_firstStep_119 : decode cX6_firstStep 119 = .ok (.iaload, 1) := by decide +kernel
theorem dX6_firstStep_120 : decode cX6_firstStep 120 = .ok (.aload_n 0, 1) := by decide +kernel
theorem dX6_firstStep_121 : decode cX6_firstStep 121 = .ok (.getfield 27, 3) := by decide +kernel
theorem dX6_firstStep_124 : decode cX6_firstStep 124 = .ok (.getfield 53, 3) := by decide +kernel
theorem dX6_firstStep_127 : decode cX6_firstStep 127 = .ok (.iload 6, 2) := by decide +kernel
theorem dX6_firstStep_129 : decode cX6_firstStep 129 = .ok (.iaload, 1) := by decide +kernel
theorem dX6_firstStep_130 : decode cX6_firstStep 130 = .ok (.aload_n 0, 1) := by decide +kernel
theorem dX6_firstStep_131 : decode cX6_firstStep 131 = .ok (.getfield 15, 3) := by decide +kernel
theorem dX6_firstStep_134 : decode cX6_firstStep 134 = .ok (.iload 7, 2) := by decide +kernel
theorem dX6_firstStep_136 : decode cX6_firstStep 136 = .ok (.iaload, 1) := by decide +kernel
theorem dX6_firstStep_137 : decode cX6_firstStep 137 = .ok (.iadd, 1) := by decide +kernel
theorem dX6_firstStep_138 : decode cX6_firstStep 138 = .ok (.if_icmp .ne 6, 3) := by decide +kernel
theorem dX6_firstStep_141 : decode cX6_firstStep 141 = .ok (.iload 6, 2) := by decide +kernel
theorem dX6_firstStep_143 : decode cX6_firstStep 143 = .ok (.ireturn, 1) := by decide +kernel
theorem dX6_firstStep_144 : decode cX6_firstStep 144 = .ok (.iinc 6 1, 3) := by decide +kernel
theorem dX6_firstStep_147 : decode cX6_firstStep 147 = .ok (.goto (-136), 3) := by decide +kernel
theorem dX6_firstStep_150 : decode cX6_firstStep 150 = .ok (.iconst (-1), 1) := by decide +kernel
theorem dX6_firstStep_151 : decode cX6_firstStep 151 = .ok (.ireturn, 1) := by decide +kernel
theorem dX6_widestOf_0 : decode cX6_widestOf 0 = .ok (.iconst 0, 1) := by decide +kernel
theorem dX6_widestOf_1 : decode cX6_widestOf 1 = .ok (.istore 5, 2) := by decide +kernel
theorem dX6_widestOf_3 : decode cX6_widestOf 3 = .ok (.iload 5, 2) := by decide +kernel
theorem dX6_widestOf_5 : decode cX6_widestOf 5 = .ok (.bipush 8, 2) := by decide +kernel
theorem dX6_widestOf_7 : decode cX6_widestOf 7 = .ok (.if_icmp .ge 28, 3) := by decide +kernel
theorem dX6_widestOf_10 : decode cX6_widestOf 10 = .ok (.aload_n 0, 1) := by decide +kernel
theorem dX6_widestOf_11 : decode cX6_widestOf 11 = .ok (.getfield 18, 3) := by decide +kernel
theorem dX6_widestOf_14 : decode cX6_widestOf 14 = .ok (.iload 5, 2) := by decide +kernel
theorem dX6_widestOf_16 : decode cX6_widestOf 16 = .ok (.iload 5, 2) := by decide +kernel
theorem dX6_widestOf_18 : decode cX6_widestOf 18 = .ok (.iload_n 2, 1) := by decide +kernel
theorem dX6_widestOf_19 : decode cX6_widestOf 19 = .ok (.if_icmp .ne 8, 3) := by decide +kernel
theorem dX6_widestOf_22 : decode cX6_widestOf 22 = .ok (.ldc 43, 2) := by decide +kernel
theorem dX6_widestOf_24 : decode cX6_widestOf 24 = .ok (.goto 4, 3) := by decide +kernel
theorem dX6_widestOf_27 : decode cX6_widestOf 27 = .ok (.iconst 0, 1) := by decide +kernel
theorem dX6_widestOf_28 : decode cX6_widestOf 28 = .ok (.iastore, 1) := by decide +kernel
theorem dX6_widestOf_29 : decode cX6_widestOf 29 = .ok (.iinc 5 1, 3) := by decide +kernel
theorem dX6_widestOf_32 : decode cX6_widestOf 32 = .ok (.goto (-29), 3) := by decide +kernel
theorem dX6_widestOf_35 : decode cX6_widestOf 35 = .ok (.iconst 0, 1) := by decide +kernel
theorem dX6_widestOf_36 : decode cX6_widestOf 36 = .ok (.istore 5, 2) := by decide +kernel
theorem dX6_widestOf_38 : decode cX6_widestOf 38 = .ok (.iconst 0, 1) := by decide +kernel
theorem dX6_widestOf_39 : decode cX6_widestOf 39 = .ok (.istore 6, 2) := by decide +kernel
theorem dX6_widestOf_41 : decode cX6_widestOf 41 = .ok (.iload 6, 2) := by decide +kernel
theorem dX6_widestOf_43 : decode cX6_widestOf 43 = .ok (.iload 4, 2) := by decide +kernel
theorem dX6_widestOf_45 : decode cX6_widestOf 45 = .ok (.if_icmp .ge 130, 3) := by decide +kernel
theorem dX6_widestOf_48 : decode cX6_widestOf 48 = .ok (.iload 6, 2) := by decide +kernel
theorem dX6_widestOf_50 : decode cX6_widestOf 50 = .ok (.bipush 7, 2) := by decide +kernel
theorem dX6_widestOf_52 : decode cX6_widestOf 52 = .ok (.if_icmp .ge 123, 3) := by decide +kernel
theorem dX6_widestOf_55 : decode cX6_widestOf 55 = .ok (.iload 5, 2) := by decide +kernel
theorem dX6_widestOf_57 : decode cX6_widestOf 57 = .ok (.istore 7, 2) := by decide +kernel
theorem dX6_widestOf_59 : decode cX6_widestOf 59 = .ok (.iinc 5 8, 3) := by decide +kernel
theorem dX6_widestOf_62 : decode cX6_widestOf 62 = .ok (.aload_n 0, 1) := by decide +kernel
theorem dX6_widestOf_63 : decode cX6_widestOf 63 = .ok (.getfield 18, 3) := by decide +kernel
theorem dX6_widestOf_66 : decode cX6_widestOf 66 = .ok (.iload 7, 2) := by decide +kernel
theorem dX6_widestOf_68 : decode cX6_widestOf 68 = .ok (.aload_n 0, 1) := by decide +kernel
theorem dX6_widestOf_69 : decode cX6_widestOf 69 = .ok (.getfield 18, 3) := by decide +kernel
theorem dX6_widestOf_72 : decode cX6_widestOf 72 = .ok (.iload 5, 2) := by decide +kernel
theorem dX6_widestOf_74 : decode cX6_widestOf 74 = .ok (.bipush 8, 2) := by decide +kernel
theorem dX6_widestOf_76 : decode cX6_widestOf 76 = .ok (.invokestatic 47, 3) := by decide +kernel
theorem dX6_widestOf_79 : decode cX6_widestOf 79 = .ok (.iconst 0, 1) := by decide +kernel
theorem dX6_widestOf_80 : decode cX6_widestOf 80 = .ok (.istore 8, 2) := by decide +kernel
theorem dX6_widestOf_82 : decode cX6_widestOf 82 = .ok (.iload 8, 2) := by decide +kernel
theorem dX6_widestOf_84 : decode cX6_widestOf 84 = .ok (.aload_n 0, 1) := by decide +kernel
theorem dX6_widestOf_85 : decode cX6_widestOf 85 = .ok (.getfield 27, 3) := by decide +kernel
theorem dX6_widestOf_88 : decode cX6_widestOf 88 = .ok (.getfield 31, 3) := by decide +kernel
theorem dX6_widestOf_91 : decode cX6_widestOf 91 = .ok (.if_icmp .ge 78, 3) := by decide +kernel
theorem dX6_widestOf_94 : decode cX6_widestOf 94 = .ok (.iload 5, 2) := by decide +kernel
theorem dX6_widestOf_96 : decode cX6_widestOf 96 = .ok (.aload_n 0, 1) := by decide +kernel
theorem dX6_widestOf_97 : decode cX6_widestOf 97 = .ok (.getfield 27, 3) := by decide +kernel
theorem dX6_widestOf_100 : decode cX6_widestOf 100 = .ok (.getfield 40, 3) := by decide +kernel
theorem dX6_widestOf_103 : decode cX6_widestOf 103 = .ok (.iload 8, 2) := by decide +kernel
theorem dX6_widestOf_105 : decode cX6_widestOf 105 = .ok (.iaload, 1) := by decide +kernel
theorem dX6_widestOf_106 : decode cX6_widestOf 106 = .ok (.iadd, 1) := by decide +kernel
theorem dX6_widestOf_107 : decode cX6_widestOf 107 = .ok (.istore 9, 2) := by decide +kernel
theorem dX6_widestOf_109 : decode cX6_widestOf 109 = .ok (.iload_n 1, 1) := by decide +kernel
theorem dX6_widestOf_110 : decode cX6_widestOf 110 = .ok (.iload 8, 2) := by decide +kernel
theorem dX6_widestOf_112 : decode cX6_widestOf 112 = .ok (.iushr, 1) := by decide +kernel
theorem dX6_widestOf_113 : decode cX6_widestOf 113 = .ok (.iconst 1, 1) := by decide +kernel
theorem dX6_widestOf_114 : decode cX6_widestOf 114 = .ok (.iand, 1) := by decide +kernel
theorem dX6_widestOf_115 : decode cX6_widestOf 115 = .ok (.ifCond .eq 48, 3) := by decide +kernel
theorem dX6_widestOf_118 : decode cX6_widestOf 118 = .ok (.aload_n 0, 1) := by decide +kernel
theorem dX6_widestOf_119 : decode cX6_widestOf 119 = .ok (.getfield 18, 3) := by decide +kernel
theorem dX6_widestOf_122 : decode cX6_widestOf 122 = .ok (.iload 9, 2) := by decide +kernel
theorem dX6_widestOf_124 : decode cX6_widestOf 124 = .ok (.aload_n 0, 1) := by decide +kernel
theorem dX6_widestOf_125 : decode cX6_widestOf 125 = .ok (.getfield 18, 3) := by decide +kernel
theorem dX6_widestOf_128 : decode cX6_widestOf 128 = .ok (.iload 9, 2) := by decide +kernel
theorem dX6_widestOf_130 : decode cX6_widestOf 130 = .ok (.iaload, 1) := by decide +kernel
theorem dX6_widestOf_131 : decode cX6_widestOf 131 = .ok (.aload_n 0, 1) := by decide +kernel
theorem dX6_widestOf_132 : decode cX6_widestOf 132 = .ok (.getfield 9, 3) := by decide +kernel
theorem dX6_widestOf_135 : decode cX6_widestOf 135 = .ok (.iload 8, 2) := by decide +kernel
theorem dX6_widestOf_137 : decode cX6_widestOf 137 = .ok (.iaload, 1) := by decide +kernel
theorem dX6_widestOf_138 : decode cX6_widestOf 138 = .ok (.aload_n 0, 1) := by decide +kernel
theorem dX6_widestOf_139 : decode cX6_widestOf 139 = .ok (.getfield 18, 3) := by decide +kernel
theorem dX6_widestOf_142 : decode cX6_widestOf 142 = .ok (.iload 7, 2) := by decide +kernel
theorem dX6_widestOf_144 : decode cX6_widestOf 144 = .ok (.aload_n 0, 1) := by decide +kernel
theorem dX6_widestOf_145 : decode cX6_widestOf 145 = .ok (.getfield 27, 3) := by decide +kernel
theorem dX6_widestOf_148 : decode cX6_widestOf 148 = .ok (.getfield 37, 3) := by decide +kernel
theorem dX6_widestOf_151 : decode cX6_widestOf 151 = .ok (.iload 8, 2) := by decide +kernel
theorem dX6_widestOf_153 : decode cX6_widestOf 153 = .ok (.iaload, 1) := by decide +kernel
theorem dX6_widestOf_154 : decode cX6_widestOf 154 = .ok (.iadd, 1) := by decide +kernel
theorem dX6_widestOf_155 : decode cX6_widestOf 155 = .ok (.iaload, 1) := by decide +kernel
theorem dX6_widestOf_156 : decode cX6_widestOf 156 = .ok (.invokestatic 68, 3) := by decide +kernel
theorem dX6_widestOf_159 : decode cX6_widestOf 159 = .ok (.invokestatic 74, 3) := by decide +kernel
theorem dX6_widestOf_162 : decode cX6_widestOf 162 = .ok (.iastore, 1) := by decide +kernel
theorem dX6_widestOf_163 : decode cX6_widestOf 163 = .ok (.iinc 8 1, 3) := by decide +kernel
theorem dX6_widestOf_166 : decode cX6_widestOf 166 = .ok (.goto (-84), 3) := by decide +kernel
theorem dX6_widestOf_169 : decode cX6_widestOf 169 = .ok (.iinc 6 1, 3) := by decide +kernel
theorem dX6_widestOf_172 : decode cX6_widestOf 172 = .ok (.goto (-131), 3) := by decide +kernel
theorem dX6_widestOf_175 : decode cX6_widestOf 175 = .ok (.aload_n 0, 1) := by decide +kernel
theorem dX6_widestOf_176 : decode cX6_widestOf 176 = .ok (.getfield 18, 3) := by decide +kernel
theorem dX6_widestOf_179 : decode cX6_widestOf 179 = .ok (.iload 5, 2) := by decide +kernel
theorem dX6_widestOf_181 : decode cX6_widestOf 181 = .ok (.iload_n 3, 1) := by decide +kernel
theorem dX6_widestOf_182 : decode cX6_widestOf 182 = .ok (.iadd, 1) := by decide +kernel
theorem dX6_widestOf_183 : decode cX6_widestOf 183 = .ok (.iaload, 1) := by decide +kernel
theorem dX6_widestOf_184 : decode cX6_widestOf 184 = .ok (.ireturn, 1) := by decide +kernel
theorem dX6_mostFlow_0 : decode cX6_mostFlow 0 = .ok (.iconst 0, 1) := by decide +kernel
theorem dX6_mostFlow_1 : decode cX6_mostFlow 1 = .ok (.istore 4, 2) := by decide +kernel
theorem dX6_mostFlow_3 : decode cX6_mostFlow 3 = .ok (.iload 4, 2) := by decide +kernel
theorem dX6_mostFlow_5 : decode cX6_mostFlow 5 = .ok (.bipush 16, 2) := by decide +kernel
theorem dX6_mostFlow_7 : decode cX6_mostFlow 7 = .ok (.if_icmp .ge 17, 3) := by decide +kernel
theorem dX6_mostFlow_10 : decode cX6_mostFlow 10 = .ok (.aload_n 0, 1) := by decide +kernel
theorem dX6_mostFlow_11 : decode cX6_mostFlow 11 = .ok (.getfield 21, 3) := by decide +kernel
theorem dX6_mostFlow_14 : decode cX6_mostFlow 14 = .ok (.iload 4, 2) := by decide +kernel
theorem dX6_mostFlow_16 : decode cX6_mostFlow 16 = .ok (.iconst 0, 1) := by decide +kernel
theorem dX6_mostFlow_17 : decode cX6_mostFlow 17 = .ok (.iastore, 1) := by decide +kernel
theorem dX6_mostFlow_18 : decode cX6_mostFlow 18 = .ok (.iinc 4 1, 3) := by decide +kernel
theorem dX6_mostFlow_21 : decode cX6_mostFlow 21 = .ok (.goto (-18), 3) := by decide +kernel
theorem dX6_mostFlow_24 : decode cX6_mostFlow 24 = .ok (.iconst 0, 1) := by decide +kernel
theorem dX6_mostFlow_25 : decode cX6_mostFlow 25 = .ok (.istore 4, 2) := by decide +kernel
theorem dX6_mostFlow_27 : decode cX6_mostFlow 27 = .ok (.iconst 0, 1) := by decide +kernel
theorem dX6_mostFlow_28 : decode cX6_mostFlow 28 = .ok (.istore 5, 2) := by decide +kernel
theorem dX6_mostFlow_30 : decode cX6_mostFlow 30 = .ok (.iload 5, 2) := by decide +kernel
theorem dX6_mostFlow_32 : decode cX6_mostFlow 32 = .ok (.sipush 1584, 3) := by decide +kernel
theorem dX6_mostFlow_35 : decode cX6_mostFlow 35 = .ok (.if_icmp .ge 30, 3) := by decide +kernel
theorem dX6_mostFlow_38 : decode cX6_mostFlow 38 = .ok (.aload_n 0, 1) := by decide +kernel
theorem dX6_mostFlow_39 : decode cX6_mostFlow 39 = .ok (.iload_n 1, 1) := by decide +kernel
theorem dX6_mostFlow_40 : decode cX6_mostFlow 40 = .ok (.iload_n 2, 1) := by decide +kernel
theorem dX6_mostFlow_41 : decode cX6_mostFlow 41 = .ok (.iload_n 3, 1) := by decide +kernel
theorem dX6_mostFlow_42 : decode cX6_mostFlow 42 = .ok (.invokevirtual 77, 3) := by decide +kernel
theorem dX6_mostFlow_45 : decode cX6_mostFlow 45 = .ok (.ifCond .eq 20, 3) := by decide +kernel
theorem dX6_mostFlow_48 : decode cX6_mostFlow 48 = .ok (.iload 4, 2) := by decide +kernel
theorem dX6_mostFlow_50 : decode cX6_mostFlow 50 = .ok (.aload_n 0, 1) := by decide +kernel
theorem dX6_mostFlow_51 : decode cX6_mostFlow 51 = .ok (.iload_n 2, 1) := by decide +kernel
theorem dX6_mostFlow_52 : decode cX6_mostFlow 52 = .ok (.iload_n 3, 1) := by decide +kernel
theorem dX6_mostFlow_53 : decode cX6_mostFlow 53 = .ok (.invokevirtual 81, 3) := by decide +kernel
theorem dX6_mostFlow_56 : decode cX6_mostFlow 56 = .ok (.iadd, 1) := by decide +kernel
theorem dX6_mostFlow_57 : decode cX6_mostFlow 57 = .ok (.istore 4, 2) := by decide +kernel
theorem dX6_mostFlow_59 : decode cX6_mostFlow 59 = .ok (.iinc 5 1, 3) := by decide +kernel
theorem dX6_mostFlow_62 : decode cX6_mostFlow 62 = .ok (.goto (-32), 3) := by decide +kernel
theorem dX6_mostFlow_65 : decode cX6_mostFlow 65 = .ok (.iload 4, 2) := by decide +kernel
theorem dX6_mostFlow_67 : decode cX6_mostFlow 67 = .ok (.ireturn, 1) := by decide +kernel
theorem dX6_findMore_0 : decode cX6_findMore 0 = .ok (.iconst 1, 1) := by decide +kernel
theorem dX6_findMore_1 : decode cX6_findMore 1 = .ok (.iload_n 2, 1) := by decide +kernel
theorem dX6_findMore_2 : decode cX6_findMore 2 = .ok (.ishl, 1) := by decide +kernel
theorem dX6_findMore_3 : decode cX6_findMore 3 = .ok (.istore 4, 2) := by decide +kernel
theorem dX6_findMore_5 : decode cX6_findMore 5 = .ok (.iconst 0, 1) := by decide +kernel
theorem dX6_findMore_6 : decode cX6_findMore 6 = .ok (.istore 5, 2) := by decide +kernel
theorem dX6_findMore_8 : decode cX6_findMore 8 = .ok (.iload 5, 2) := by decide +kernel
theorem dX6_findMore_10 : decode cX6_findMore 10 = .ok (.bipush 8, 2) := by decide +kernel
theorem dX6_findMore_12 : decode cX6_findMore 12 = .ok (.if_icmp .ge 231, 3) := by decide +kernel
theorem dX6_findMore_15 : decode cX6_findMore 15 = .ok (.iload 4, 2) := by decide +kernel
theorem dX6_findMore_17 : decode cX6_findMore 17 = .ok (.iload_n 3, 1) := by decide +kernel
theorem dX6_findMore_18 : decode cX6_findMore 18 = .ok (.iushr, 1) := by decide +kernel
theorem dX6_findMore_19 : decode cX6_findMore 19 = .ok (.iconst 1, 1) := by decide +kernel
theorem dX6_findMore_20 : decode cX6_findMore 20 = .ok (.iand, 1) := by decide +kernel
theorem dX6_findMore_21 : decode cX6_findMore 21 = .ok (.ifCond .ne 222, 3) := by decide +kernel
theorem dX6_findMore_24 : decode cX6_findMore 24 = .ok (.iconst 0, 1) := by decide +kernel
theorem dX6_findMore_25 : decode cX6_findMore 25 = .ok (.istore 6, 2) := by decide +kernel
theorem dX6_findMore_27 : decode cX6_findMore 27 = .ok (.iload 6, 2) := by decide +kernel
theorem dX6_findMore_29 : decode cX6_findMore 29 = .ok (.aload_n 0, 1) := by decide +kernel
theorem dX6_findMore_30 : decode cX6_findMore 30 = .ok (.getfield 27, 3) := by decide +kernel
theorem dX6_findMore_33 : decode cX6_findMore 33 = .ok (.getfield 31, 3) := by decide +kernel
theorem dX6_findMore_36 : decode cX6_findMore 36 = .ok (.if_icmp .ge 201, 3) := by decide +kernel
theorem dX6_findMore_39 : decode cX6_findMore 39 = .ok (.iload 4, 2) := by decide +kernel
theorem dX6_findMore_41 : decode cX6_findMore 41 = .ok (.aload_n 0, 1) := by decide +kernel
theorem dX6_findMore_42 : decode cX6_findMore 42 = .ok (.getfield 27, 3) := by decide +kernel
theorem dX6_findMore_45 : decode cX6_findMore 45 = .ok (.getfield 37, 3) := by decide +kernel
theorem dX6_findMore_48 : decode cX6_findMore 48 = .ok (.iload 6, 2) := by decide +kernel
theorem dX6_findMore_50 : decode cX6_findMore 50 = .ok (.iaload, 1) := by decide +kernel
theorem dX6_findMore_51 : decode cX6_findMore 51 = .ok (.iushr, 1) := by decide +kernel
theorem dX6_findMore_52 : decode cX6_findMore 52 = .ok (.iconst 1, 1) := by decide +kernel
theorem dX6_findMore_53 : decode cX6_findMore 53 = .ok (.iand, 1) := by decide +kernel
theorem dX6_findMore_54 : decode cX6_findMore 54 = .ok (.ifCond .eq 7, 3) := by decide +kernel
theorem dX6_findMore_57 : decode cX6_findMore 57 = .ok (.iconst 1, 1) := by decide +kernel
theorem dX6_findMore_58 : decode cX6_findMore 58 = .ok (.goto 4, 3) := by decide +kernel
theorem dX6_findMore_61 : decode cX6_findMore 61 = .ok (.iconst 0, 1) := by decide +kernel
theorem dX6_findMore_62 : decode cX6_findMore 62 = .ok (.istore 7, 2) := by decide +kernel
theorem dX6_findMore_64 : decode cX6_findMore 64 = .ok (.iload 4, 2) := by decide +kernel
theorem dX6_findMore_66 : decode cX6_findMore 66 = .ok (.aload_n 0, 1) := by decide +kernel
theorem dX6_findMore_67 : decode cX6_findMore 67 = .ok (.getfield 27, 3) := by decide +kernel
theorem dX6_findMore_70 : decode cX6_findMore 70 = .ok (.getfield 40, 3) := by decide +kernel
theorem dX6_findMore_73 : decode cX6_findMore 73 = .ok (.iload 6, 2) := by decide +kernel
theorem dX6_findMore_75 : decode cX6_findMore 75 = .ok (.iaload, 1) := by decide +kernel
theorem dX6_findMore_76 : decode cX6_findMore 76 = .ok (.iushr, 1) := by decide +kernel
theorem dX6_findMore_77 : decode cX6_findMore 77 = .ok (.iconst 1, 1) := by decide +kernel
theorem dX6_findMore_78 : decode cX6_findMore 78 = .ok (.iand, 1) := by decide +kernel
theorem dX6_findMore_79 : decode cX6_findMore 79 = .ok (.ifCond .eq 7, 3) := by decide +kernel
theorem dX6_findMore_82 : decode cX6_findMore 82 = .ok (.iconst 1, 1) := by decide +kernel
theorem dX6_findMore_83 : decode cX6_findMore 83 = .ok (.goto 4, 3) := by decide +kernel
theorem dX6_findMore_86 : decode cX6_findMore 86 = .ok (.iconst 0, 1) := by decide +kernel
theorem dX6_findMore_87 : decode cX6_findMore 87 = .ok (.istore 8, 2) := by decide +kernel
theorem dX6_findMore_89 : decode cX6_findMore 89 = .ok (.iload_n 1, 1) := by decide +kernel
theorem dX6_findMore_90 : decode cX6_findMore 90 = .ok (.iload 6, 2) := by decide +kernel
theorem dX6_findMore_92 : decode cX6_findMore 92 = .ok (.iushr, 1) := by decide +kernel
theorem dX6_findMore_93 : decode cX6_findMore 93 = .ok (.iconst 1, 1) := by decide +kernel
theorem dX6_findMore_94 : decode cX6_findMore 94 = .ok (.iand, 1) := by decide +kernel
theorem dX6_findMore_95 : decode cX6_findMore 95 = .ok (.ifCond .eq 24, 3) := by decide +kernel
theorem dX6_findMore_98 : decode cX6_findMore 98 = .ok (.aload_n 0, 1) := by decide +kernel
theorem dX6_findMore_99 : decode cX6_findMore 99 = .ok (.getfield 21, 3) := by decide +kernel
theorem dX6_findMore_102 : decode cX6_findMore 102 = .ok (.iload 6, 2) := by decide +kernel
theorem dX6_findMore_104 : decode cX6_findMore 104 = .ok (.iaload, 1) := by decide +kernel
theorem dX6_findMore_105 : decode cX6_findMore 105 = .ok (.aload_n 0, 1) := by decide +kernel
theorem dX6_findMore_106 : decode cX6_findMore 106 = .ok (.getfield 9, 3) := by decide +kernel
theorem dX6_findMore_109 : decode cX6_findMore 109 = .ok (.iload 6, 2) := by decide +kernel
theorem dX6_findMore_111 : decode cX6_findMore 111 = .ok (.iaload, 1) := by decide +kernel
theorem dX6_findMore_112 : decode cX6_findMore 112 = .ok (.if_icmp .ge 7, 3) := by decide +kernel
theorem dX6_findMore_115 : decode cX6_findMore 115 = .ok (.iconst 1, 1) := by decide +kernel
theorem dX6_findMore_116 : decode cX6_findMore 116 = .ok (.goto 4, 3) := by decide +kernel
theorem dX6_findMore_119 : decode cX6_findMore 119 = .ok (.iconst 0, 1) := by decide +kernel
theorem dX6_findMore_120 : decode cX6_findMore 120 = .ok (.istore 9, 2) := by decide +kernel
theorem dX6_findMore_122 : decode cX6_findMore 122 = .ok (.iload 7, 2) := by decide +kernel
theorem dX6_findMore_124 : decode cX6_findMore 124 = .ok (.ifCond .eq 50, 3) := by decide +kernel
theorem dX6_findMore_127 : decode cX6_findMore 127 = .ok (.iload 8, 2) := by decide +kernel
theorem dX6_findMore_129 : decode cX6_findMore 129 = .ok (.ifCond .ne 45, 3) := by decide +kernel
theorem dX6_findMore_132 : decode cX6_findMore 132 = .ok (.iload 9, 2) := by decide +kernel
theorem dX6_findMore_134 : decode cX6_findMore 134 = .ok (.ifCond .eq 40, 3) := by decide +kernel
theorem dX6_findMore_137 : decode cX6_findMore 137 = .ok (.aload_n 0, 1) := by decide +kernel
theorem dX6_findMore_138 : decode cX6_findMore 138 = .ok (.getfield 24, 3) := by decide +kernel
theorem dX6_findMore_141 : decode cX6_findMore 141 = .ok (.aload_n 0, 1) := by decide +kernel
theorem dX6_findMore_142 : decode cX6_findMore 142 = .ok (.getfield 27, 3) := by decide +kernel
theorem dX6_findMore_145 : decode cX6_findMore 145 = .ok (.getfield 40, 3) := by decide +kernel
theorem dX6_findMore_148 : decode cX6_findMore 148 = .ok (.iload 6, 2) := by decide +kernel
theorem dX6_findMore_150 : decode cX6_findMore 150 = .ok (.iaload, 1) := by decide +kernel
theorem dX6_findMore_151 : decode cX6_findMore 151 = .ok (.iload 6, 2) := by decide +kernel
theorem dX6_findMore_153 : decode cX6_findMore 153 = .ok (.iastore, 1) := by decide +kernel
theorem dX6_findMore_154 : decode cX6_findMore 154 = .ok (.iload 4, 2) := by decide +kernel
theorem dX6_findMore_156 : decode cX6_findMore 156 = .ok (.iconst 1, 1) := by decide +kernel
theorem dX6_findMore_157 : decode cX6_findMore 157 = .ok (.aload_n 0, 1) := by decide +kernel
theorem dX6_findMore_158 : decode cX6_findMore 158 = .ok (.getfield 27, 3) := by decide +kernel
theorem dX6_findMore_161 : decode cX6_findMore 161 = .ok (.getfield 40, 3) := by decide +kernel
theorem dX6_findMore_164 : decode cX6_findMore 164 = .ok (.iload 6, 2) := by decide +kernel
theorem dX6_findMore_166 : decode cX6_findMore 166 = .ok (.iaload, 1) := by decide +kernel
theorem dX6_findMore_167 : decode cX6_findMore 167 = .ok (.ishl, 1) := by decide +kernel
theorem dX6_findMore_168 : decode cX6_findMore 168 = .ok (.ior, 1) := by decide +kernel
theorem dX6_findMore_169 : decode cX6_findMore 169 = .ok (.istore 4, 2) := by decide +kernel
theorem dX6_findMore_171 : decode cX6_findMore 171 = .ok (.goto 60, 3) := by decide +kernel
theorem dX6_findMore_174 : decode cX6_findMore 174 = .ok (.iload 8, 2) := by decide +kernel
theorem dX6_findMore_176 : decode cX6_findMore 176 = .ok (.ifCond .eq 55, 3) := by decide +kernel
theorem dX6_findMore_179 : decode cX6_findMore 179 = .ok (.iload 7, 2) := by decide +kernel
theorem dX6_findMore_181 : decode cX6_findMore 181 = .ok (.ifCond .ne 50, 3) := by decide +kernel
theorem dX6_findMore_184 : decode cX6_findMore 184 = .ok (.aload_n 0, 1) := by decide +kernel
theorem dX6_findMore_185 : decode cX6_findMore 185 = .ok (.getfield 21, 3) := by decide +kernel
theorem dX6_findMore_188 : decode cX6_findMore 188 = .ok (.iload 6, 2) := by decide +kernel
theorem dX6_findMore_190 : decode cX6_findMore 190 = .ok (.iaload, 1) := by decide +kernel
theorem dX6_findMore_191 : decode cX6_findMore 191 = .ok (.ifCond .le 40, 3) := by decide +kernel
theorem dX6_findMore_194 : decode cX6_findMore 194 = .ok (.aload_n 0, 1) := by decide +kernel
theorem dX6_findMore_195 : decode cX6_findMore 195 = .ok (.getfield 24, 3) := by decide +kernel
theorem dX6_findMore_198 : decode cX6_findMore 198 = .ok (.aload_n 0, 1) := by decide +kernel
theorem dX6_findMore_199 : decode cX6_findMore 199 = .ok (.getfield 27, 3) := by decide +kernel
theorem dX6_findMore_202 : decode cX6_findMore 202 = .ok (.getfield 37, 3) := by decide +kernel
theorem dX6_findMore_205 : decode cX6_findMore 205 = .ok (.iload 6, 2) := by decide +kernel
theorem dX6_findMore_207 : decode cX6_findMore 207 = .ok (.iaload, 1) := by decide +kernel
theorem dX6_findMore_208 : decode cX6_findMore 208 = .ok (.iload 6, 2) := by decide +kernel
theorem dX6_findMore_210 : decode cX6_findMore 210 = .ok (.bipush 16, 2) := by decide +kernel
theorem dX6_findMore_212 : decode cX6_findMore 212 = .ok (.isub, 1) := by decide +kernel
theorem dX6_findMore_213 : decode cX6_findMore 213 = .ok (.iastore, 1) := by decide +kernel
theorem dX6_findMore_214 : decode cX6_findMore 214 = .ok (.iload 4, 2) := by decide +kernel
theorem dX6_findMore_216 : decode cX6_findMore 216 = .ok (.iconst 1, 1) := by decide +kernel
theorem dX6_findMore_217 : decode cX6_findMore 217 = .ok (.aload_n 0, 1) := by decide +kernel
theorem dX6_findMore_218 : decode cX6_findMore 218 = .ok (.getfield 27, 3) := by decide +kernel
theorem dX6_findMore_221 : decode cX6_findMore 221 = .ok (.getfield 37, 3) := by decide +kernel
theorem dX6_findMore_224 : decode cX6_findMore 224 = .ok (.iload 6, 2) := by decide +kernel
theorem dX6_findMore_226 : decode cX6_findMore 226 = .ok (.iaload, 1) := by decide +kernel
theorem dX6_findMore_227 : decode cX6_findMore 227 = .ok (.ishl, 1) := by decide +kernel
theorem dX6_findMore_228 : decode cX6_findMore 228 = .ok (.ior, 1) := by decide +kernel
theorem dX6_findMore_229 : decode cX6_findMore 229 = .ok (.istore 4, 2) := by decide +kernel
theorem dX6_findMore_231 : decode cX6_findMore 231 = .ok (.iinc 6 1, 3) := by decide +kernel
theorem dX6_findMore_234 : decode cX6_findMore 234 = .ok (.goto (-207), 3) := by decide +kernel
theorem dX6_findMore_237 : decode cX6_findMore 237 = .ok (.iinc 5 1, 3) := by decide +kernel
theorem dX6_findMore_240 : decode cX6_findMore 240 = .ok (.goto (-232), 3) := by decide +kernel
theorem dX6_findMore_243 : decode cX6_findMore 243 = .ok (.iload 4, 2) := by decide +kernel
theorem dX6_findMore_245 : decode cX6_findMore 245 = .ok (.iload_n 3, 1) := by decide +kernel
theorem dX6_findMore_246 : decode cX6_findMore 246 = .ok (.iushr, 1) := by decide +kernel
theorem dX6_findMore_247 : decode cX6_findMore 247 = .ok (.iconst 1, 1) := by decide +kernel
theorem dX6_findMore_248 : decode cX6_findMore 248 = .ok (.iand, 1) := by decide +kernel
theorem dX6_findMore_249 : decode cX6_findMore 249 = .ok (.ifCond .eq 7, 3) := by decide +kernel
theorem dX6_findMore_252 : decode cX6_findMore 252 = .ok (.iconst 1, 1) := by decide +kernel
theorem dX6_findMore_253 : decode cX6_findMore 253 = .ok (.goto 4, 3) := by decide +kernel
theorem dX6_findMore_256 : decode cX6_findMore 256 = .ok (.iconst 0, 1) := by decide +kernel
theorem dX6_findMore_257 : decode cX6_findMore 257 = .ok (.ireturn, 1) := by decide +kernel
theorem dX6_sendMore_0 : decode cX6_sendMore 0 = .ok (.ldc 43, 2) := by decide +kernel
theorem dX6_sendMore_2 : decode cX6_sendMore 2 = .ok (.istore_n 3, 1) := by decide +kernel
theorem dX6_sendMore_3 : decode cX6_sendMore 3 = .ok (.iload_n 2, 1) := by decide +kernel
theorem dX6_sendMore_4 : decode cX6_sendMore 4 = .ok (.istore 4, 2) := by decide +kernel
theorem dX6_sendMore_6 : decode cX6_sendMore 6 = .ok (.iconst 0, 1) := by decide +kernel
theorem dX6_sendMore_7 : decode cX6_sendMore 7 = .ok (.istore 5, 2) := by decide +kernel
theorem dX6_sendMore_9 : decode cX6_sendMore 9 = .ok (.iload 5, 2) := by decide +kernel
theorem dX6_sendMore_11 : decode cX6_sendMore 11 = .ok (.bipush 8, 2) := by decide +kernel
theorem dX6_sendMore_13 : decode cX6_sendMore 13 = .ok (.if_icmp .ge 109, 3) := by decide +kernel
theorem dX6_sendMore_16 : decode cX6_sendMore 16 = .ok (.iload 4, 2) := by decide +kernel
theorem dX6_sendMore_18 : decode cX6_sendMore 18 = .ok (.iload_n 1, 1) := by decide +kernel
theorem dX6_sendMore_19 : decode cX6_sendMore 19 = .ok (.if_icmp .eq 103, 3) := by decide +kernel
theorem dX6_sendMore_22 : decode cX6_sendMore 22 = .ok (.aload_n 0, 1) := by decide +kernel
theorem dX6_sendMore_23 : decode cX6_sendMore 23 = .ok (.getfield 24, 3) := by decide +kernel
theorem dX6_sendMore_26 : decode cX6_sendMore 26 = .ok (.iload 4, 2) := by decide +kernel
theorem dX6_sendMore_28 : decode cX6_sendMore 28 = .ok (.iaload, 1) := by decide +kernel
theorem dX6_sendMore_29 : decode cX6_sendMore 29 = .ok (.bipush 15, 2) := by decide +kernel
theorem dX6_sendMore_31 : decode cX6_sendMore 31 = .ok (.iand, 1) := by decide +kernel
theorem dX6_sendMore_32 : decode cX6_sendMore 32 = .ok (.istore 6, 2) := by decide +kernel
theorem dX6_sendMore_34 : decode cX6_sendMore 34 = .ok (.aload_n 0, 1) := by decide +kernel
theorem dX6_sendMore_35 : decode cX6_sendMore 35 = .ok (.getfield 24, 3) := by decide +kernel
theorem dX6_sendMore_38 : decode cX6_sendMore 38 = .ok (.iload 4, 2) := by decide +kernel
theorem dX6_sendMore_40 : decode cX6_sendMore 40 = .ok (.iaload, 1) := by decide +kernel
theorem dX6_sendMore_41 : decode cX6_sendMore 41 = .ok (.ifCond .ge 7, 3) := by decide +kernel
theorem dX6_sendMore_44 : decode cX6_sendMore 44 = .ok (.iconst 1, 1) := by decide +kernel
theorem dX6_sendMore_45 : decode cX6_sendMore 45 = .ok (.goto 4, 3) := by decide +kernel
theorem dX6_sendMore_48 : decode cX6_sendMore 48 = .ok (.iconst 0, 1) := by decide +kernel
theorem dX6_sendMore_49 : decode cX6_sendMore 49 = .ok (.istore 7, 2) := by decide +kernel
theorem dX6_sendMore_51 : decode cX6_sendMore 51 = .ok (.iload_n 3, 1) := by decide +kernel
theorem dX6_sendMore_52 : decode cX6_sendMore 52 = .ok (.iload 7, 2) := by decide +kernel
theorem dX6_sendMore_54 : decode cX6_sendMore 54 = .ok (.ifCond .eq 13, 3) := by decide +kernel
theorem dX6_sendMore_57 : decode cX6_sendMore 57 = .ok (.aload_n 0, 1) := by decide +kernel
theorem dX6_sendMore_58 : decode cX6_sendMore 58 = .ok (.getfield 21, 3) := by decide +kernel
theorem dX6_sendMore_61 : decode cX6_sendMore 61 = .ok (.iload 6, 2) := by decide +kernel
theorem dX6_sendMore_63 : decode cX6_sendMore 63 = .ok (.iaload, 1) := by decide +kernel
theorem dX6_sendMore_64 : decode cX6_sendMore 64 = .ok (.goto 18, 3) := by decide +kernel
theorem dX6_sendMore_67 : decode cX6_sendMore 67 = .ok (.aload_n 0, 1) := by decide +kernel
theorem dX6_sendMore_68 : decode cX6_sendMore 68 = .ok (.getfield 9, 3) := by decide +kernel
theorem dX6_sendMore_71 : decode cX6_sendMore 71 = .ok (.iload 6, 2) := by decide +kernel
theorem dX6_sendMore_73 : decode cX6_sendMore 73 = .ok (.iaload, 1) := by decide +kernel
theorem dX6_sendMore_74 : decode cX6_sendMore 74 = .ok (.aload_n 0, 1) := by decide +kernel
theorem dX6_sendMore_75 : decode cX6_sendMore 75 = .ok (.getfield 21, 3) := by decide +kernel
theorem dX6_sendMore_78 : decode cX6_sendMore 78 = .ok (.iload 6, 2) := by decide +kernel
theorem dX6_sendMore_80 : decode cX6_sendMore 80 = .ok (.iaload, 1) := by decide +kernel
theorem dX6_sendMore_81 : decode cX6_sendMore 81 = .ok (.isub, 1) := by decide +kernel
theorem dX6_sendMore_82 : decode cX6_sendMore 82 = .ok (.invokestatic 68, 3) := by decide +kernel
theorem dX6_sendMore_85 : decode cX6_sendMore 85 = .ok (.istore_n 3, 1) := by decide +kernel
theorem dX6_sendMore_86 : decode cX6_sendMore 86 = .ok (.iload 7, 2) := by decide +kernel
theorem dX6_sendMore_88 : decode cX6_sendMore 88 = .ok (.ifCond .eq 16, 3) := by decide +kernel
theorem dX6_sendMore_91 : decode cX6_sendMore 91 = .ok (.aload_n 0, 1) := by decide +kernel
theorem dX6_sendMore_92 : decode cX6_sendMore 92 = .ok (.getfield 27, 3) := by decide +kernel
theorem dX6_sendMore_95 : decode cX6_sendMore 95 = .ok (.getfield 40, 3) := by decide +kernel
theorem dX6_sendMore_98 : decode cX6_sendMore 98 = .ok (.iload 6, 2) := by decide +kernel
theorem dX6_sendMore_100 : decode cX6_sendMore 100 = .ok (.iaload, 1) := by decide +kernel
theorem dX6_sendMore_101 : decode cX6_sendMore 101 = .ok (.goto 13, 3) := by decide +kernel
theorem dX6_sendMore_104 : decode cX6_sendMore 104 = .ok (.aload_n 0, 1) := by decide +kernel
theorem dX6_sendMore_105 : decode cX6_sendMore 105 = .ok (.getfield 27, 3) := by decide +kernel
theorem dX6_sendMore_108 : decode cX6_sendMore 108 = .ok (.getfield 37, 3) := by decide +kernel
theorem dX6_sendMore_111 : decode cX6_sendMore 111 = .ok (.iload 6, 2) := by decide +kernel
theorem dX6_sendMore_113 : decode cX6_sendMore 113 = .ok (.iaload, 1) := by decide +kernel
theorem dX6_sendMore_114 : decode cX6_sendMore 114 = .ok (.istore 4, 2) := by decide +kernel
theorem dX6_sendMore_116 : decode cX6_sendMore 116 = .ok (.iinc 5 1, 3) := by decide +kernel
theorem dX6_sendMore_119 : decode cX6_sendMore 119 = .ok (.goto (-110), 3) := by decide +kernel
theorem dX6_sendMore_122 : decode cX6_sendMore 122 = .ok (.iload_n 2, 1) := by decide +kernel
theorem dX6_sendMore_123 : decode cX6_sendMore 123 = .ok (.istore 4, 2) := by decide +kernel
theorem dX6_sendMore_125 : decode cX6_sendMore 125 = .ok (.iconst 0, 1) := by decide +kernel
theorem dX6_sendMore_126 : decode cX6_sendMore 126 = .ok (.istore 5, 2) := by decide +kernel
theorem dX6_sendMore_128 : decode cX6_sendMore 128 = .ok (.iload 5, 2) := by decide +kernel
theorem dX6_sendMore_130 : decode cX6_sendMore 130 = .ok (.bipush 8, 2) := by decide +kernel
theorem dX6_sendMore_132 : decode cX6_sendMore 132 = .ok (.if_icmp .ge 95, 3) := by decide +kernel
theorem dX6_sendMore_135 : decode cX6_sendMore 135 = .ok (.iload 4, 2) := by decide +kernel
theorem dX6_sendMore_137 : decode cX6_sendMore 137 = .ok (.iload_n 1, 1) := by decide +kernel
theorem dX6_sendMore_138 : decode cX6_sendMore 138 = .ok (.if_icmp .eq 89, 3) := by decide +kernel
theorem dX6_sendMore_141 : decode cX6_sendMore 141 = .ok (.aload_n 0, 1) := by decide +kernel
theorem dX6_sendMore_142 : decode cX6_sendMore 142 = .ok (.getfield 24, 3) := by decide +kernel
theorem dX6_sendMore_145 : decode cX6_sendMore 145 = .ok (.iload 4, 2) := by decide +kernel
theorem dX6_sendMore_147 : decode cX6_sendMore 147 = .ok (.iaload, 1) := by decide +kernel
theorem dX6_sendMore_148 : decode cX6_sendMore 148 = .ok (.bipush 15, 2) := by decide +kernel
theorem dX6_sendMore_150 : decode cX6_sendMore 150 = .ok (.iand, 1) := by decide +kernel
theorem dX6_sendMore_151 : decode cX6_sendMore 151 = .ok (.istore 6, 2) := by decide +kernel
theorem dX6_sendMore_153 : decode cX6_sendMore 153 = .ok (.aload_n 0, 1) := by decide +kernel
theorem dX6_sendMore_154 : decode cX6_sendMore 154 = .ok (.getfield 24, 3) := by decide +kernel
theorem dX6_sendMore_157 : decode cX6_sendMore 157 = .ok (.iload 4, 2) := by decide +kernel
theorem dX6_sendMore_159 : decode cX6_sendMore 159 = .ok (.iaload, 1) := by decide +kernel
theorem dX6_sendMore_160 : decode cX6_sendMore 160 = .ok (.ifCond .ge 7, 3) := by decide +kernel
theorem dX6_sendMore_163 : decode cX6_sendMore 163 = .ok (.iconst 1, 1) := by decide +kernel
theorem dX6_sendMore_164 : decode cX6_sendMore 164 = .ok (.goto 4, 3) := by decide +kernel
theorem dX6_sendMore_167 : decode cX6_sendMore 167 = .ok (.iconst 0, 1) := by decide +kernel
theorem dX6_sendMore_168 : decode cX6_sendMore 168 = .ok (.istore 7, 2) := by decide +kernel
theorem dX6_sendMore_170 : decode cX6_sendMore 170 = .ok (.aload_n 0, 1) := by decide +kernel
theorem dX6_sendMore_171 : decode cX6_sendMore 171 = .ok (.getfield 21, 3) := by decide +kernel
theorem dX6_sendMore_174 : decode cX6_sendMore 174 = .ok (.iload 6, 2) := by decide +kernel
theorem dX6_sendMore_176 : decode cX6_sendMore 176 = .ok (.dup2, 1) := by decide +kernel
theorem dX6_sendMore_177 : decode cX6_sendMore 177 = .ok (.iaload, 1) := by decide +kernel
theorem dX6_sendMore_178 : decode cX6_sendMore 178 = .ok (.iload 7, 2) := by decide +kernel
theorem dX6_sendMore_180 : decode cX6_sendMore 180 = .ok (.ifCond .eq 8, 3) := by decide +kernel
theorem dX6_sendMore_183 : decode cX6_sendMore 183 = .ok (.iload_n 3, 1) := by decide +kernel
theorem dX6_sendMore_184 : decode cX6_sendMore 184 = .ok (.ineg, 1) := by decide +kernel
theorem dX6_sendMore_185 : decode cX6_sendMore 185 = .ok (.goto 4, 3) := by decide +kernel
theorem dX6_sendMore_188 : decode cX6_sendMore 188 = .ok (.iload_n 3, 1) := by decide +kernel
theorem dX6_sendMore_189 : decode cX6_sendMore 189 = .ok (.iadd, 1) := by decide +kernel
theorem dX6_sendMore_190 : decode cX6_sendMore 190 = .ok (.iastore, 1) := by decide +kernel
theorem dX6_sendMore_191 : decode cX6_sendMore 191 = .ok (.iload 7, 2) := by decide +kernel
theorem dX6_sendMore_193 : decode cX6_sendMore 193 = .ok (.ifCond .eq 16, 3) := by decide +kernel
theorem dX6_sendMore_196 : decode cX6_sendMore 196 = .ok (.aload_n 0, 1) := by decide +kernel
theorem dX6_sendMore_197 : decode cX6_sendMore 197 = .ok (.getfield 27, 3) := by decide +kernel
theorem dX6_sendMore_200 : decode cX6_sendMore 200 = .ok (.getfield 40, 3) := by decide +kernel
theorem dX6_sendMore_203 : decode cX6_sendMore 203 = .ok (.iload 6, 2) := by decide +kernel
theorem dX6_sendMore_205 : decode cX6_sendMore 205 = .ok (.iaload, 1) := by decide +kernel
theorem dX6_sendMore_206 : decode cX6_sendMore 206 = .ok (.goto 13, 3) := by decide +kernel
theorem dX6_sendMore_209 : decode cX6_sendMore 209 = .ok (.aload_n 0, 1) := by decide +kernel
theorem dX6_sendMore_210 : decode cX6_sendMore 210 = .ok (.getfield 27, 3) := by decide +kernel
theorem dX6_sendMore_213 : decode cX6_sendMore 213 = .ok (.getfield 37, 3) := by decide +kernel
theorem dX6_sendMore_216 : decode cX6_sendMore 216 = .ok (.iload 6, 2) := by decide +kernel
theorem dX6_sendMore_218 : decode cX6_sendMore 218 = .ok (.iaload, 1) := by decide +kernel
theorem dX6_sendMore_219 : decode cX6_sendMore 219 = .ok (.istore 4, 2) := by decide +kernel
theorem dX6_sendMore_221 : decode cX6_sendMore 221 = .ok (.iinc 5 1, 3) := by decide +kernel
theorem dX6_sendMore_224 : decode cX6_sendMore 224 = .ok (.goto (-96), 3) := by decide +kernel
theorem dX6_sendMore_227 : decode cX6_sendMore 227 = .ok (.iload_n 3, 1) := by decide +kernel
theorem dX6_sendMore_228 : decode cX6_sendMore 228 = .ok (.ireturn, 1) := by decide +kernel
theorem dX7_init_0 : decode cX7_init 0 = .ok (.aload_n 0, 1) := by decide +kernel
theorem dX7_init_1 : decode cX7_init 1 = .ok (.invokespecial 3, 3) := by decide +kernel
theorem dX7_init_4 : decode cX7_init 4 = .ok (.aload_n 0, 1) := by decide +kernel
theorem dX7_init_5 : decode cX7_init 5 = .ok (.bipush 8, 2) := by decide +kernel
theorem dX7_init_7 : decode cX7_init 7 = .ok (.newarray .int, 2) := by decide +kernel
theorem dX7_init_9 : decode cX7_init 9 = .ok (.putfield 9, 3) := by decide +kernel
theorem dX7_init_12 : decode cX7_init 12 = .ok (.aload_n 0, 1) := by decide +kernel
theorem dX7_init_13 : decode cX7_init 13 = .ok (.bipush 8, 2) := by decide +kernel
theorem dX7_init_15 : decode cX7_init 15 = .ok (.newarray .int, 2) := by decide +kernel
theorem dX7_init_17 : decode cX7_init 17 = .ok (.putfield 15, 3) := by decide +kernel
theorem dX7_init_20 : decode cX7_init 20 = .ok (.aload_n 0, 1) := by decide +kernel
theorem dX7_init_21 : decode cX7_init 21 = .ok (.bipush 8, 2) := by decide +kernel
theorem dX7_init_23 : decode cX7_init 23 = .ok (.newarray .int, 2) := by decide +kernel
theorem dX7_init_25 : decode cX7_init 25 = .ok (.putfield 18, 3) := by decide +kernel
theorem dX7_init_28 : decode cX7_init 28 = .ok (.aload_n 0, 1) := by decide +kernel
theorem dX7_init_29 : decode cX7_init 29 = .ok (.bipush 8, 2) := by decide +kernel
theorem dX7_init_31 : decode cX7_init 31 = .ok (.newarray .int, 2) := by decide +kernel
theorem dX7_init_33 : decode cX7_init 33 = .ok (.putfield 21, 3) := by decide +kernel
theorem dX7_init_36 : decode cX7_init 36 = .ok (.aload_n 0, 1) := by decide +kernel
theorem dX7_init_37 : decode cX7_init 37 = .ok (.bipush 8, 2) := by decide +kernel
theorem dX7_init_39 : decode cX7_init 39 = .ok (.newarray .boolean, 2) := by decide +kernel
theorem dX7_init_41 : decode cX7_init 41 = .ok (.putfield 24, 3) := by decide +kernel
theorem dX7_init_44 : decode cX7_init 44 = .ok (.return_, 1) := by decide +kernel
theorem dX7_clear_0 : decode cX7_clear 0 = .ok (.aload_n 0, 1) := by decide +kernel
theorem dX7_clear_1 : decode cX7_clear 1 = .ok (.iconst 0, 1) := by decide +kernel
theorem dX7_clear_2 : decode cX7_clear 2 = .ok (.putfield 28, 3) := by decide +kernel
theorem dX7_clear_5 : decode cX7_clear 5 = .ok (.return_, 1) := by decide +kernel
theorem dX7_add_0 : decode cX7_add 0 = .ok (.aload_n 0, 1) := by decide +kernel
theorem dX7_add_1 : decode cX7_add 1 = .ok (.getfield 28, 3) := by decide +kernel
theorem dX7_add_4 : decode cX7_add 4 = .ok (.bipush 8, 2) := by decide +kernel
theorem dX7_add_6 : decode cX7_add 6 = .ok (.if_icmp .ge 65, 3) := by decide +kernel
theorem dX7_add_9 : decode cX7_add 9 = .ok (.aload_n 0, 1) := by decide +kernel
theorem dX7_add_10 : decode cX7_add 10 = .ok (.getfield 9, 3) := by decide +kernel
theorem dX7_add_13 : decode cX7_add 13 = .ok (.aload_n 0, 1) := by decide +kernel
theorem dX7_add_14 : decode cX7_add 14 = .ok (.getfield 28, 3) := by decide +kernel
theorem dX7_add_17 : decode cX7_add 17 = .ok (.iload_n 1, 1) := by decide +kernel
theorem dX7_add_18 : decode cX7_add 18 = .ok (.iastore, 1) := by decide +kernel
theorem dX7_add_19 : decode cX7_add 19 = .ok (.aload_n 0, 1) := by decide +kernel
theorem dX7_add_20 : decode cX7_add 20 = .ok (.getfield 15, 3) := by decide +kernel
theorem dX7_add_23 : decode cX7_add 23 = .ok (.aload_n 0, 1) := by decide +kernel
theorem dX7_add_24 : decode cX7_add 24 = .ok (.getfield 28, 3) := by decide +kernel
theorem dX7_add_27 : decode cX7_add 27 = .ok (.iload_n 2, 1) := by decide +kernel
theorem dX7_add_28 : decode cX7_add 28 = .ok (.iastore, 1) := by decide +kernel
theorem dX7_add_29 : decode cX7_add 29 = .ok (.aload_n 0, 1) := by decide +kernel
theorem dX7_add_30 : decode cX7_add 30 = .ok (.getfield 18, 3) := by decide +kernel
theorem dX7_add_33 : decode cX7_add 33 = .ok (.aload_n 0, 1) := by decide +kernel
theorem dX7_add_34 : decode cX7_add 34 = .ok (.getfield 28, 3) := by decide +kernel
theorem dX7_add_37 : decode cX7_add 37 = .ok (.iload_n 3, 1) := by decide +kernel
theorem dX7_add_38 : decode cX7_add 38 = .ok (.iastore, 1) := by decide +kernel
theorem dX7_add_39 : decode cX7_add 39 = .ok (.aload_n 0, 1) := by decide +kernel
theorem dX7_add_40 : decode cX7_add 40 = .ok (.getfield 21, 3) := by decide +kernel
theorem dX7_add_43 : decode cX7_add 43 = .ok (.aload_n 0, 1) := by decide +kernel
theorem dX7_add_44 : decode cX7_add 44 = .ok (.getfield 28, 3) := by decide +kernel
theorem dX7_add_47 : decode cX7_add 47 = .ok (.iload 4, 2) := by decide +kernel
theorem dX7_add_49 : decode cX7_add 49 = .ok (.iastore, 1) := by decide +kernel
theorem dX7_add_50 : decode cX7_add 50 = .ok (.aload_n 0, 1) := by decide +kernel
theorem dX7_add_51 : decode cX7_add 51 = .ok (.getfield 24, 3) := by decide +kernel
theorem dX7_add_54 : decode cX7_add 54 = .ok (.aload_n 0, 1) := by decide +kernel
theorem dX7_add_55 : decode cX7_add 55 = .ok (.getfield 28, 3) := by decide +kernel
theorem dX7_add_58 : decode cX7_add 58 = .ok (.iload 5, 2) := by decide +kernel
theorem dX7_add_60 : decode cX7_add 60 = .ok (.bastore, 1) := by decide +kernel
theorem dX7_add_61 : decode cX7_add 61 = .ok (.aload_n 0, 1) := by decide +kernel
theorem dX7_add_62 : decode cX7_add 62 = .ok (.dup, 1) := by decide +kernel
theorem dX7_add_63 : decode cX7_add 63 = .ok (.getfield 28, 3) := by decide +kernel
theorem dX7_add_66 : decode cX7_add 66 = .ok (.iconst 1, 1) := by decide +kernel
theorem dX7_add_67 : decode cX7_add 67 = .ok (.iadd, 1) := by decide +kernel
theorem dX7_add_68 : decode cX7_add 68 = .ok (.putfield 28, 3) := by decide +kernel
theorem dX7_add_71 : decode cX7_add 71 = .ok (.return_, 1) := by decide +kernel
theorem dX7_copyFrom_0 : decode cX7_copyFrom 0 = .ok (.aload_n 0, 1) := by decide +kernel
theorem dX7_copyFrom_1 : decode cX7_copyFrom 1 = .ok (.aload_n 1, 1) := by decide +kernel
theorem dX7_copyFrom_2 : decode cX7_copyFrom 2 = .ok (.getfield 28, 3) := by decide +kernel
theorem dX7_copyFrom_5 : decode cX7_copyFrom 5 = .ok (.putfield 28, 3) := by decide +kernel
theorem dX7_copyFrom_8 : decode cX7_copyFrom 8 = .ok (.iconst 0, 1) := by decide +kernel
theorem dX7_copyFrom_9 : decode cX7_copyFrom 9 = .ok (.istore_n 2, 1) := by decide +kernel
theorem dX7_copyFrom_10 : decode cX7_copyFrom 10 = .ok (.iload_n 2, 1) := by decide +kernel
theorem dX7_copyFrom_11 : decode cX7_copyFrom 11 = .ok (.bipush 8, 2) := by decide +kernel
theorem dX7_copyFrom_13 : decode cX7_copyFrom 13 = .ok (.if_icmp .ge 69, 3) := by decide +kernel
theorem dX7_copyFrom_16 : decode cX7_copyFrom 16 = .ok (.aload_n 0, 1) := by decide +kernel
theorem dX7_copyFrom_17 : decode cX7_copyFrom 17 = .ok (.getfield 9, 3) := by decide +kernel
theorem dX7_copyFrom_20 : decode cX7_copyFrom 20 = .ok (.iload_n 2, 1) := by decide +kernel
theorem dX7_copyFrom_21 : decode cX7_copyFrom 21 = .ok (.aload_n 1, 1) := by decide +kernel
theorem dX7_copyFrom_22 : decode cX7_copyFrom 22 = .ok (.getfield 9, 3) := by decide +kernel
theorem dX7_copyFrom_25 : decode cX7_copyFrom 25 = .ok (.iload_n 2, 1) := by decide +kernel
theorem dX7_copyFrom_26 : decode cX7_copyFrom 26 = .ok (.iaload, 1) := by decide +kernel
theorem dX7_copyFrom_27 : decode cX7_copyFrom 27 = .ok (.iastore, 1) := by decide +kernel
theorem dX7_copyFrom_28 : decode cX7_copyFrom 28 = .ok (.aload_n 0, 1) := by decide +kernel
theorem dX7_copyFrom_29 : decode cX7_copyFrom 29 = .ok (.getfield 15, 3) := by decide +kernel
theorem dX7_copyFrom_32 : decode cX7_copyFrom 32 = .ok (.iload_n 2, 1) := by decide +kernel
theorem dX7_copyFrom_33 : decode cX7_copyFrom 33 = .ok (.aload_n 1, 1) := by decide +kernel
theorem dX7_copyFrom_34 : decode cX7_copyFrom 34 = .ok (.getfield 15, 3) := by decide +kernel
theorem dX7_copyFrom_37 : decode cX7_copyFrom 37 = .ok (.iload_n 2, 1) := by decide +kernel
theorem dX7_copyFrom_38 : decode cX7_copyFrom 38 = .ok (.iaload, 1) := by decide +kernel
theorem dX7_copyFrom_39 : decode cX7_copyFrom 39 = .ok (.iastore, 1) := by decide +kernel
theorem dX7_copyFrom_40 : decode cX7_copyFrom 40 = .ok (.aload_n 0, 1) := by decide +kernel
theorem dX7_copyFrom_41 : decode cX7_copyFrom 41 = .ok (.getfield 18, 3) := by decide +kernel
theorem dX7_copyFrom_44 : decode cX7_copyFrom 44 = .ok (.iload_n 2, 1) := by decide +kernel
theorem dX7_copyFrom_45 : decode cX7_copyFrom 45 = .ok (.aload_n 1, 1) := by decide +kernel
theorem dX7_copyFrom_46 : decode cX7_copyFrom 46 = .ok (.getfield 18, 3) := by decide +kernel
theorem dX7_copyFrom_49 : decode cX7_copyFrom 49 = .ok (.iload_n 2, 1) := by decide +kernel
theorem dX7_copyFrom_50 : decode cX7_copyFrom 50 = .ok (.iaload, 1) := by decide +kernel
theorem dX7_copyFrom_51 : decode cX7_copyFrom 51 = .ok (.iastore, 1) := by decide +kernel
theorem dX7_copyFrom_52 : decode cX7_copyFrom 52 = .ok (.aload_n 0, 1) := by decide +kernel
theorem dX7_copyFrom_53 : decode cX7_copyFrom 53 = .ok (.getfield 21, 3) := by decide +kernel
theorem dX7_copyFrom_56 : decode cX7_copyFrom 56 = .ok (.iload_n 2, 1) := by decide +kernel
theorem dX7_copyFrom_57 : decode cX7_copyFrom 57 = .ok (.aload_n 1, 1) := by decide +kernel
theorem dX7_copyFrom_58 : decode cX7_copyFrom 58 = .ok (.getfield 21, 3) := by decide +kernel
theorem dX7_copyFrom_61 : decode cX7_copyFrom 61 = .ok (.iload_n 2, 1) := by decide +kernel
theorem dX7_copyFrom_62 : decode cX7_copyFrom 62 = .ok (.iaload, 1) := by decide +kernel
theorem dX7_copyFrom_63 : decode cX7_copyFrom 63 = .ok (.iastore, 1) := by decide +kernel
theorem dX7_copyFrom_64 : decode cX7_copyFrom 64 = .ok (.aload_n 0, 1) := by decide +kernel
theorem dX7_copyFrom_65 : decode cX7_copyFrom 65 = .ok (.getfield 24, 3) := by decide +kernel
theorem dX7_copyFrom_68 : decode cX7_copyFrom 68 = .ok (.iload_n 2, 1) := by decide +kernel
theorem dX7_copyFrom_69 : decode cX7_copyFrom 69 = .ok (.aload_n 1, 1) := by decide +kernel
theorem dX7_copyFrom_70 : decode cX7_copyFrom 70 = .ok (.getfield 24, 3) := by decide +kernel
theorem dX7_copyFrom_73 : decode cX7_copyFrom 73 = .ok (.iload_n 2, 1) := by decide +kernel
theorem dX7_copyFrom_74 : decode cX7_copyFrom 74 = .ok (.baload, 1) := by decide +kernel
theorem dX7_copyFrom_75 : decode cX7_copyFrom 75 = .ok (.bastore, 1) := by decide +kernel
theorem dX7_copyFrom_76 : decode cX7_copyFrom 76 = .ok (.iinc 2 1, 3) := by decide +kernel
theorem dX7_copyFrom_79 : decode cX7_copyFrom 79 = .ok (.goto (-69), 3) := by decide +kernel
theorem dX7_copyFrom_82 : decode cX7_copyFrom 82 = .ok (.return_, 1) := by decide +kernel
theorem dX7_wideEnough_0 : decode cX7_wideEnough 0 = .ok (.iconst 0, 1) := by decide +kernel
theorem dX7_wideEnough_1 : decode cX7_wideEnough 1 = .ok (.istore_n 3, 1) := by decide +kernel
theorem dX7_wideEnough_2 : decode cX7_wideEnough 2 = .ok (.iconst 0, 1) := by decide +kernel
theorem dX7_wideEnough_3 : decode cX7_wideEnough 3 = .ok (.istore 4, 2) := by decide +kernel
theorem dX7_wideEnough_5 : decode cX7_wideEnough 5 = .ok (.iload 4, 2) := by decide +kernel
theorem dX7_wideEnough_7 : decode cX7_wideEnough 7 = .ok (.aload_n 1, 1) := by decide +kernel
theorem dX7_wideEnough_8 : decode cX7_wideEnough 8 = .ok (.getfield 32, 3) := by decide +kernel
theorem dX7_wideEnough_11 : decode cX7_wideEnough 11 = .ok (.getfield 38, 3) := by decide +kernel
theorem dX7_wideEnough_14 : decode cX7_wideEnough 14 = .ok (.if_icmp .ge 38, 3) := by decide +kernel
theorem dX7_wideEnough_17 : decode cX7_wideEnough 17 = .ok (.aload_n 1, 1) := by decide +kernel
theorem dX7_wideEnough_18 : decode cX7_wideEnough 18 = .ok (.iconst (-1), 1) := by decide +kernel
theorem dX7_wideEnough_19 : decode cX7_wideEnough 19 = .ok (.iload 4, 2) := by decide +kernel
theorem dX7_wideEnough_21 : decode cX7_wideEnough 21 = .ok (.aload_n 0, 1) := by decide +kernel
theorem dX7_wideEnough_22 : decode cX7_wideEnough 22 = .ok (.getfield 21, 3) := by decide +kernel
theorem dX7_wideEnough_25 : decode cX7_wideEnough 25 = .ok (.iload_n 2, 1) := by decide +kernel
theorem dX7_wideEnough_26 : decode cX7_wideEnough 26 = .ok (.iaload, 1) := by decide +kernel
theorem dX7_wideEnough_27 : decode cX7_wideEnough 27 = .ok (.invokevirtual 43, 3) := by decide +kernel
theorem dX7_wideEnough_30 : decode cX7_wideEnough 30 = .ok (.aload_n 0, 1) := by decide +kernel
theorem dX7_wideEnough_31 : decode cX7_wideEnough 31 = .ok (.getfield 18, 3) := by decide +kernel
theorem dX7_wideEnough_34 : decode cX7_wideEnough 34 = .ok (.iload_n 2, 1) := by decide +kernel
theorem dX7_wideEnough_35 : decode cX7_wideEnough 35 = .ok (.iaload, 1) := by decide +kernel
theorem dX7_wideEnough_36 : decode cX7_wideEnough 36 = .ok (.if_icmp .lt 10, 3) := by decide +kernel
theorem dX7_wideEnough_39 : decode cX7_wideEnough 39 = .ok (.iload_n 3, 1) := by decide +kernel
theorem dX7_wideEnough_40 : decode cX7_wideEnough 40 = .ok (.iconst 1, 1) := by decide +kernel
theorem dX7_wideEnough_41 : decode cX7_wideEnough 41 = .ok (.iload 4, 2) := by decide +kernel
theorem dX7_wideEnough_43 : decode cX7_wideEnough 43 = .ok (.ishl, 1) := by decide +kernel
theorem dX7_wideEnough_44 : decode cX7_wideEnough 44 = .ok (.ior, 1) := by decide +kernel
theorem dX7_wideEnough_45 : decode cX7_wideEnough 45 = .ok (.istore_n 3, 1) := by decide +kernel
theorem dX7_wideEnough_46 : decode cX7_wideEnough 46 = .ok (.iinc 4 1, 3) := by decide +kernel
theorem dX7_wideEnough_49 : decode cX7_wideEnough 49 = .ok (.goto (-44), 3) := by decide +kernel
theorem dX7_wideEnough_52 : decode cX7_wideEnough 52 = .ok (.iload_n 3, 1) := by decide +kernel
theorem dX7_wideEnough_53 : decode cX7_wideEnough 53 = .ok (.aload_n 1, 1) := by decide +kernel
theorem dX7_wideEnough_54 : decode cX7_wideEnough 54 = .ok (.getfield 47, 3) := by decide +kernel
theorem dX7_wideEnough_57 : decode cX7_wideEnough 57 = .ok (.getfield 51, 3) := by decide +kernel
theorem dX7_wideEnough_60 : decode cX7_wideEnough 60 = .ok (.iand, 1) := by decide +kernel
theorem dX7_wideEnough_61 : decode cX7_wideEnough 61 = .ok (.ireturn, 1) := by decide +kernel
theorem dX7_isSo_0 : decode cX7_isSo 0 = .ok (.iconst 0, 1) := by decide +kernel
theorem dX7_isSo_1 : decode cX7_isSo 1 = .ok (.istore_n 3, 1) := by decide +kernel
theorem dX7_isSo_2 : decode cX7_isSo 2 = .ok (.iload_n 3, 1) := by decide +kernel
theorem dX7_isSo_3 : decode cX7_isSo 3 = .ok (.aload_n 0, 1) := by decide +kernel
theorem dX7_isSo_4 : decode cX7_isSo 4 = .ok (.getfield 28, 3) := by decide +kernel
theorem dX7_isSo_7 : decode cX7_isSo 7 = .ok (.if_icmp .ge 44, 3) := by decide +kernel
theorem dX7_isSo_10 : decode cX7_isSo 10 = .ok (.aload_n 2, 1) := by decide +kernel
theorem dX7_isSo_11 : decode cX7_isSo 11 = .ok (.aload_n 0, 1) := by decide +kernel
theorem dX7_isSo_12 : decode cX7_isSo 12 = .ok (.aload_n 1, 1) := by decide +kernel
theorem dX7_isSo_13 : decode cX7_isSo 13 = .ok (.iload_n 3, 1) := by decide +kernel
theorem dX7_isSo_14 : decode cX7_isSo 14 = .ok (.invokevirtual 56, 3) := by decide +kernel
theorem dX7_isSo_17 : decode cX7_isSo 17 = .ok (.aload_n 0, 1) := by decide +kernel
theorem dX7_isSo_18 : decode cX7_isSo 18 = .ok (.getfield 9, 3) := by decide +kernel
theorem dX7_isSo_21 : decode cX7_isSo 21 = .ok (.iload_n 3, 1) := by decide +kernel
theorem dX7_isSo_22 : decode cX7_isSo 22 = .ok (.iaload, 1) := by decide +kernel
theorem dX7_isSo_23 : decode cX7_isSo 23 = .ok (.aload_n 0, 1) := by decide +kernel
theorem dX7_isSo_24 : decode cX7_isSo 24 = .ok (.getfield 15, 3) := by decide +kernel
theorem dX7_isSo_27 : decode cX7_isSo 27 = .ok (.iload_n 3, 1) := by decide +kernel
theorem dX7_isSo_28 : decode cX7_isSo 28 = .ok (.iaload, 1) := by decide +kernel
theorem dX7_isSo_29 : decode cX7_isSo 29 = .ok (.bipush 7, 2) := by decide +kernel
theorem dX7_isSo_31 : decode cX7_isSo 31 = .ok (.invokevirtual 60, 3) := by decide +kernel
theorem dX7_isSo_34 : decode cX7_isSo 34 = .ok (.aload_n 0, 1) := by decide +kernel
theorem dX7_isSo_35 : decode cX7_isSo 35 = .ok (.getfield 24, 3) := by decide +kernel
theorem dX7_isSo_38 : decode cX7_isSo 38 = .ok (.iload_n 3, 1) := by decide +kernel
theorem dX7_isSo_39 : decode cX7_isSo 39 = .ok (.baload, 1) := by decide +kernel
theorem dX7_isSo_40 : decode cX7_isSo 40 = .ok (.if_icmp .eq 5, 3) := by decide +kernel
theorem dX7_isSo_43 : decode cX7_isSo 43 = .ok (.iconst 0, 1) := by decide +kernel
theorem dX7_isSo_44 : decode cX7_isSo 44 = .ok (.ireturn, 1) := by decide +kernel
theorem dX7_isSo_45 : decode cX7_isSo 45 = .ok (.iinc 3 1, 3) := by decide +kernel
theorem dX7_isSo_48 : decode cX7_isSo 48 = .ok (.goto (-46), 3) := by decide +kernel
theorem dX7_isSo_51 : decode cX7_isSo 51 = .ok (.iconst 1, 1) := by decide +kernel
theorem dX7_isSo_52 : decode cX7_isSo 52 = .ok (.ireturn, 1) := by decide +kernel
theorem dX7_bound_0 : decode cX7_bound 0 = .ok (.aload_n 0, 1) := by decide +kernel
theorem dX7_bound_1 : decode cX7_bound 1 = .ok (.iconst 0, 1) := by decide +kernel
theorem dX7_bound_2 : decode cX7_bound 2 = .ok (.putfield 66, 3) := by decide +kernel
theorem dX7_bound_5 : decode cX7_bound 5 = .ok (.aload_n 0, 1) := by decide +kernel
theorem dX7_bound_6 : decode cX7_bound 6 = .ok (.ldc 69, 2) := by decide +kernel
theorem dX7_bound_8 : decode cX7_bound 8 = .ok (.putfield 70, 3) := by decide +kernel
theorem dX7_bound_11 : decode cX7_bound 11 = .ok (.iconst 1, 1) := by decide +kernel
theorem dX7_bound_12 : decode cX7_bound 12 = .ok (.iload_n 3, 1) := by decide +kernel
theorem dX7_bound_13 : decode cX7_bound 13 = .ok (.ishl, 1) := by decide +kernel
theorem dX7_bound_14 : decode cX7_bound 14 = .ok (.istore 4, 2) := by decide +kernel
theorem dX7_bound_16 : decode cX7_bound 16 = .ok (.iconst 0, 1) := by decide +kernel
theorem dX7_bound_17 : decode cX7_bound 17 = .ok (.istore 5, 2) := by decide +kernel
theorem dX7_bound_19 : decode cX7_bound 19 = .ok (.iload 5, 2) := by decide +kernel
theorem dX7_bound_21 : decode cX7_bound 21 = .ok (.aload_n 0, 1) := by decide +kernel
theorem dX7_bound_22 : decode cX7_bound 22 = .ok (.getfield 28, 3) := by decide +kernel
theorem dX7_bound_25 : decode cX7_bound 25 = .ok (.if_icmp .ge 190, 3) := by decide +kernel
theorem dX7_bound_28 : decode cX7_bound 28 = .ok (.aload_n 0, 1) := by decide +kernel
theorem dX7_bound_29 : decode cX7_bound 29 = .ok (.aload_n 1, 1) := by decide +kernel
theorem dX7_bound_30 : decode cX7_bound 30 = .ok (.iload 5, 2) := by decide +kernel
theorem dX7_bound_32 : decode cX7_bound 32 = .ok (.invokevirtual 56, 3) := by decide +kernel
theorem dX7_bound_35 : decode cX7_bound 35 = .ok (.istore 6, 2) := by decide +kernel
theorem dX7_bound_37 : decode cX7_bound 37 = .ok (.aload_n 2, 1) := by decide +kernel
theorem dX7_bound_38 : decode cX7_bound 38 = .ok (.iload 6, 2) := by decide +kernel
theorem dX7_bound_40 : decode cX7_bound 40 = .ok (.iload 4, 2) := by decide +kernel
theorem dX7_bound_42 : decode cX7_bound 42 = .ok (.iconst (-1), 1) := by decide +kernel
theorem dX7_bound_43 : decode cX7_bound 43 = .ok (.ixor, 1) := by decide +kernel
theorem dX7_bound_44 : decode cX7_bound 44 = .ok (.iand, 1) := by decide +kernel
theorem dX7_bound_45 : decode cX7_bound 45 = .ok (.aload_n 0, 1) := by decide +kernel
theorem dX7_bound_46 : decode cX7_bound 46 = .ok (.getfield 9, 3) := by decide +kernel
theorem dX7_bound_49 : decode cX7_bound 49 = .ok (.iload 5, 2) := by decide +kernel
theorem dX7_bound_51 : decode cX7_bound 51 = .ok (.iaload, 1) := by decide +kernel
theorem dX7_bound_52 : decode cX7_bound 52 = .ok (.aload_n 0, 1) := by decide +kernel
theorem dX7_bound_53 : decode cX7_bound 53 = .ok (.getfield 15, 3) := by decide +kernel
theorem dX7_bound_56 : decode cX7_bound 56 = .ok (.iload 5, 2) := by decide +kernel
theorem dX7_bound_58 : decode cX7_bound 58 = .ok (.iaload, 1) := by decide +kernel
theorem dX7_bound_59 : decode cX7_bound 59 = .ok (.bipush 7, 2) := by decide +kernel
theorem dX7_bound_61 : decode cX7_bound 61 = .ok (.invokevirtual 60, 3) := by decide +kernel
theorem dX7_bound_64 : decode cX7_bound 64 = .ok (.istore 7, 2) := by decide +kernel
theorem dX7_bound_66 : decode cX7_bound 66 = .ok (.aload_n 2, 1) := by decide +kernel
theorem dX7_bound_67 : decode cX7_bound 67 = .ok (.iload 6, 2) := by decide +kernel
theorem dX7_bound_69 : decode cX7_bound 69 = .ok (.iload 4, 2) := by decide +kernel
theorem dX7_bound_71 : decode cX7_bound 71 = .ok (.aload_n 1, 1) := by decide +kernel
theorem dX7_bound_72 : decode cX7_bound 72 = .ok (.getfield 47, 3) := by decide +kernel
theorem dX7_bound_75 : decode cX7_bound 75 = .ok (.getfield 51, 3) := by decide +kernel
theorem dX7_bound_78 : decode cX7_bound 78 = .ok (.iand, 1) := by decide +kernel
theorem dX7_bound_79 : decode cX7_bound 79 = .ok (.ior, 1) := by decide +kernel
theorem dX7_bound_80 : decode cX7_bound 80 = .ok (.aload_n 0, 1) := by decide +kernel
theorem dX7_bound_81 : decode cX7_bound 81 = .ok (.getfield 9, 3) := by decide +kernel
theorem dX7_bound_84 : decode cX7_bound 84 = .ok (.iload 5, 2) := by decide +kernel
theorem dX7_bound_86 : decode cX7_bound 86 = .ok (.iaload, 1) := by decide +kernel
theorem dX7_bound_87 : decode cX7_bound 87 = .ok (.aload_n 0, 1) := by decide +kernel
theorem dX7_bound_88 : decode cX7_bound 88 = .ok (.getfield 15, 3) := by decide +kernel
theorem dX7_bound_91 : decode cX7_bound 91 = .ok (.iload 5, 2) := by decide +kernel
theorem dX7_bound_93 : decode cX7_bound 93 = .ok (.iaload, 1) := by decide +kernel
theorem dX7_bound_94 : decode cX7_bound 94 = .ok (.bipush 7, 2) := by decide +kernel
theorem dX7_bound_96 : decode cX7_bound 96 = .ok (.invokevirtual 60, 3) := by decide +kernel
theorem dX7_bound_99 : decode cX7_bound 99 = .ok (.istore 8, 2) := by decide +kernel
theorem dX7_bound_101 : decode cX7_bound 101 = .ok (.aload_n 1, 1) := by decide +kernel
theorem dX7_bound_102 : decode cX7_bound 102 = .ok (.getfield 32, 3) := by decide +kernel
theorem dX7_bound_105 : decode cX7_bound 105 = .ok (.getfield 73, 3) := by decide +kernel
theorem dX7_bound_108 : decode cX7_bound 108 = .ok (.iload_n 3, 1) := by decide +kernel
theorem dX7_bound_109 : decode cX7_bound 109 = .ok (.iaload, 1) := by decide +kernel
theorem dX7_bound_110 : decode cX7_bound 110 = .ok (.aload_n 1, 1) := by decide +kernel
theorem dX7_bound_111 : decode cX7_bound 111 = .ok (.iconst (-1), 1) := by decide +kernel
theorem dX7_bound_112 : decode cX7_bound 112 = .ok (.iload_n 3, 1) := by decide +kernel
theorem dX7_bound_113 : decode cX7_bound 113 = .ok (.aload_n 0, 1) := by decide +kernel
theorem dX7_bound_114 : decode cX7_bound 114 = .ok (.getfield 21, 3) := by decide +kernel
theorem dX7_bound_117 : decode cX7_bound 117 = .ok (.iload 5, 2) := by decide +kernel
theorem dX7_bound_119 : decode cX7_bound 119 = .ok (.iaload, 1) := by decide +kernel
theorem dX7_bound_120 : decode cX7_bound 120 = .ok (.invokevirtual 43, 3) := by decide +kernel
theorem dX7_bound_123 : decode cX7_bound 123 = .ok (.isub, 1) := by decide +kernel
theorem dX7_bound_124 : decode cX7_bound 124 = .ok (.aload_n 0, 1) := by decide +kernel
theorem dX7_bound_125 : decode cX7_bound 125 = .ok (.getfield 18, 3) := by decide +kernel
theorem dX7_bound_128 : decode cX7_bound 128 = .ok (.iload 5, 2) := by decide +kernel
theorem dX7_bound_130 : decode cX7_bound 130 = .ok (.iaload, 1) := by decide +kernel
theorem dX7_bound_131 : decode cX7_bound 131 = .ok (.iadd, 1) := by decide +kernel
theorem dX7_bound_132 : decode cX7_bound 132 = .ok (.istore 9, 2) := by decide +kernel
theorem dX7_bound_134 : decode cX7_bound 134 = .ok (.iload 7, 2) := by decide +kernel
theorem dX7_bound_136 : decode cX7_bound 136 = .ok (.iload 8, 2) := by decide +kernel
theorem dX7_bound_138 : decode cX7_bound 138 = .ok (.if_icmp .ne 30, 3) := by decide +kernel
theorem dX7_bound_141 : decode cX7_bound 141 = .ok (.aload_n 0, 1) := by decide +kernel
theorem dX7_bound_142 : decode cX7_bound 142 = .ok (.iload 7, 2) := by decide +kernel
theorem dX7_bound_144 : decode cX7_bound 144 = .ok (.aload_n 0, 1) := by decide +kernel
theorem dX7_bound_145 : decode cX7_bound 145 = .ok (.getfield 24, 3) := by decide +kernel
theorem dX7_bound_148 : decode cX7_bound 148 = .ok (.iload 5, 2) := by decide +kernel
theorem dX7_bound_150 : decode cX7_bound 150 = .ok (.baload, 1) := by decide +kernel
theorem dX7_bound_151 : decode cX7_bound 151 = .ok (.if_icmp .ne 10, 3) := by decide +kernel
theorem dX7_bound_154 : decode cX7_bound 154 = .ok (.aload_n 0, 1) := by decide +kernel
theorem dX7_bound_155 : decode cX7_bound 155 = .ok (.getfield 70, 3) := by decide +kernel
theorem dX7_bound_158 : decode cX7_bound 158 = .ok (.goto 4, 3) := by decide +kernel
theorem dX7_bound_161 : decode cX7_bound 161 = .ok (.iconst (-1), 1) := by decide +kernel
theorem dX7_bound_162 : decode cX7_bound 162 = .ok (.putfield 70, 3) := by decide +kernel
theorem dX7_bound_165 : decode cX7_bound 165 = .ok (.goto 44, 3) := by decide +kernel
theorem dX7_bound_168 : decode cX7_bound 168 = .ok (.aload_n 0, 1) := by decide +kernel
theorem dX7_bound_169 : decode cX7_bound 169 = .ok (.getfield 24, 3) := by decide +kernel
theorem dX7_bound_172 : decode cX7_bound 172 = .ok (.iload 5, 2) := by decide +kernel
theorem dX7_bound_174 : decode cX7_bound 174 = .ok (.baload, 1) := by decide +kernel
theorem dX7_bound_175 : decode cX7_bound 175 = .ok (.ifCond .eq 19, 3) := by decide +kernel
theorem dX7_bound_178 : decode cX7_bound 178 = .ok (.aload_n 0, 1) := by decide +kernel
theorem dX7_bound_179 : decode cX7_bound 179 = .ok (.aload_n 0, 1) := by decide +kernel
theorem dX7_bound_180 : decode cX7_bound 180 = .ok (.getfield 66, 3) := by decide +kernel
theorem dX7_bound_183 : decode cX7_bound 183 = .ok (.iload 9, 2) := by decide +kernel
theorem dX7_bound_185 : decode cX7_bound 185 = .ok (.invokestatic 76, 3) := by decide +kernel
theorem dX7_bound_188 : decode cX7_bound 188 = .ok (.putfield 66, 3) := by decide +kernel
theorem dX7_bound_191 : decode cX7_bound 191 = .ok (.goto 18, 3) := by decide +kernel
theorem dX7_bound_194 : decode cX7_bound 194 = .ok (.aload_n 0, 1) := by decide +kernel
theorem dX7_bound_195 : decode cX7_bound 195 = .ok (.aload_n 0, 1) := by decide +kernel
theorem dX7_bound_196 : decode cX7_bound 196 = .ok (.getfield 70, 3) := by decide +kernel
theorem dX7_bound_199 : decode cX7_bound 199 = .ok (.iload 9, 2) := by decide +kernel
theorem dX7_bound_201 : decode cX7_bound 201 = .ok (.iconst 1, 1) := by decide +kernel
theorem dX7_bound_202 : decode cX7_bound 202 = .ok (.isub, 1) := by decide +kernel
theorem dX7_bound_203 : decode cX7_bound 203 = .ok (.invokestatic 82, 3) := by decide +kernel
theorem dX7_bound_206 : decode cX7_bound 206 = .ok (.putfield 70, 3) := by decide +kernel
theorem dX7_bound_209 : decode cX7_bound 209 = .ok (.iinc 5 1, 3) := by decide +kernel
theorem dX7_bound_212 : decode cX7_bound 212 = .ok (.goto (-193), 3) := by decide +kernel
theorem dX7_bound_215 : decode cX7_bound 215 = .ok (.return_, 1) := by decide +kernel
theorem dX8_init_0 : decode cX8_init 0 = .ok (.aload_n 0, 1) := by decide +kernel
theorem dX8_init_1 : decode cX8_init 1 = .ok (.invokespecial 3, 3) := by decide +kernel
theorem dX8_init_4 : decode cX8_init 4 = .ok (.aload_n 0, 1) := by decide +kernel
theorem dX8_init_5 : decode cX8_init 5 = .ok (.bipush 9, 2) := by decide +kernel
theorem dX8_init_7 : decode cX8_init 7 = .ok (.newarray .int, 2) := by decide +kernel
theorem dX8_init_9 : decode cX8_init 9 = .ok (.putfield 9, 3) := by decide +kernel
theorem dX8_init_12 : decode cX8_init 12 = .ok (.aload_n 0, 1) := by decide +kernel
theorem dX8_init_13 : decode cX8_init 13 = .ok (.bipush 9, 2) := by decide +kernel
theorem dX8_init_15 : decode cX8_init 15 = .ok (.newarray .int, 2) := by decide +kernel
theorem dX8_init_17 : decode cX8_init 17 = .ok (.putfield 15, 3) := by decide +kernel
theorem dX8_init_20 : decode cX8_init 20 = .ok (.return_, 1) := by decide +kernel
theorem dX8_begin_0 : decode cX8_begin 0 = .ok (.iconst 0, 1) := by decide +kernel
theorem dX8_begin_1 : decode cX8_begin 1 = .ok (.istore_n 2, 1) := by decide +kernel
theorem dX8_begin_2 : decode cX8_begin 2 = .ok (.iload_n 2, 1) := by decide +kernel
theorem dX8_begin_3 : decode cX8_begin 3 = .ok (.bipush 9, 2) := by decide +kernel
theorem dX8_begin_5 : decode cX8_begin 5 = .ok (.if_icmp .ge 28, 3) := by decide +kernel
theorem dX8_begin_8 : decode cX8_begin 8 = .ok (.aload_n 0, 1) := by decide +kernel
theorem dX8_begin_9 : decode cX8_begin 9 = .ok (.getfield 9, 3) := by decide +kernel
theorem dX8_begin_12 : decode cX8_begin 12 = .ok (.iload_n 2, 1) := by decide +kernel
theorem dX8_begin_13 : decode cX8_begin 13 = .ok (.iconst 0, 1) := by decide +kernel
theorem dX8_begin_14 : decode cX8_begin 14 = .ok (.iastore, 1) := by decide +kernel
theorem dX8_begin_15 : decode cX8_begin 15 = .ok (.aload_n 0, 1) := by decide +kernel
theorem dX8_begin_16 : decode cX8_begin 16 = .ok (.getfield 15, 3) := by decide +kernel
theorem dX8_begin_19 : decode cX8_begin 19 = .ok (.iload_n 2, 1) := by decide +kernel
theorem dX8_begin_20 : decode cX8_begin 20 = .ok (.aload_n 1, 1) := by decide +kernel
theorem dX8_begin_21 : decode cX8_begin 21 = .ok (.getfield 18, 3) := by decide +kernel
theorem dX8_begin_24 : decode cX8_begin 24 = .ok (.iload_n 2, 1) := by decide +kernel
theorem dX8_begin_25 : decode cX8_begin 25 = .ok (.iaload, 1) := by decide +kernel
theorem dX8_begin_26 : decode cX8_begin 26 = .ok (.iastore, 1) := by decide +kernel
theorem dX8_begin_27 : decode cX8_begin 27 = .ok (.iinc 2 1, 3) := by decide +kernel
theorem dX8_begin_30 : decode cX8_begin 30 = .ok (.goto (-28), 3) := by decide +kernel
theorem dX8_begin_33 : decode cX8_begin 33 = .ok (.aload_n 0, 1) := by decide +kernel
theorem dX8_begin_34 : decode cX8_begin 34 = .ok (.iconst 1, 1) := by decide +kernel
theorem dX8_begin_35 : decode cX8_begin 35 = .ok (.aload_n 1, 1) := by decide +kernel
theorem dX8_begin_36 : decode cX8_begin 36 = .ok (.getfield 23, 3) := by decide +kernel
theorem dX8_begin_39 : decode cX8_begin 39 = .ok (.ishl, 1) := by decide +kernel
theorem dX8_begin_40 : decode cX8_begin 40 = .ok (.iconst 1, 1) := by decide +kernel
theorem dX8_begin_41 : decode cX8_begin 41 = .ok (.isub, 1) := by decide +kernel
theorem dX8_begin_42 : decode cX8_begin 42 = .ok (.putfield 27, 3) := by decide +kernel
theorem dX8_begin_45 : decode cX8_begin 45 = .ok (.return_, 1) := by decide +kernel
theorem dX8_copyFrom_0 : decode cX8_copyFrom 0 = .ok (.iconst 0, 1) := by decide +kernel
theorem dX8_copyFrom_1 : decode cX8_copyFrom 1 = .ok (.istore_n 2, 1) := by decide +kernel
theorem dX8_copyFrom_2 : decode cX8_copyFrom 2 = .ok (.iload_n 2, 1) := by decide +kernel
theorem dX8_copyFrom_3 : decode cX8_copyFrom 3 = .ok (.bipush 9, 2) := by decide +kernel
theorem dX8_copyFrom_5 : decode cX8_copyFrom 5 = .ok (.if_icmp .ge 33, 3) := by decide +kernel
theorem dX8_copyFrom_8 : decode cX8_copyFrom 8 = .ok (.aload_n 0, 1) := by decide +kernel
theorem dX8_copyFrom_9 : decode cX8_copyFrom 9 = .ok (.getfield 9, 3) := by decide +kernel
theorem dX8_copyFrom_12 : decode cX8_copyFrom 12 = .ok (.iload_n 2, 1) := by decide +kernel
theorem dX8_copyFrom_13 : decode cX8_copyFrom 13 = .ok (.aload_n 1, 1) := by decide +kernel
theorem dX8_copyFrom_14 : decode cX8_copyFrom 14 = .ok (.getfield 9, 3) := by decide +kernel
theorem dX8_copyFrom_17 : decode cX8_copyFrom 17 = .ok (.iload_n 2, 1) := by decide +kernel
theorem dX8_copyFrom_18 : decode cX8_copyFrom 18 = .ok (.iaload, 1) := by decide +kernel
theorem dX8_copyFrom_19 : decode cX8_copyFrom 19 = .ok (.iastore, 1) := by decide +kernel
theorem dX8_copyFrom_20 : decode cX8_copyFrom 20 = .ok (.aload_n 0, 1) := by decide +kernel
theorem dX8_copyFrom_21 : decode cX8_copyFrom 21 = .ok (.getfield 15, 3) := by decide +kernel
theorem dX8_copyFrom_24 : decode cX8_copyFrom 24 = .ok (.iload_n 2, 1) := by decide +kernel
theorem dX8_copyFrom_25 : decode cX8_copyFrom 25 = .ok (.aload_n 1, 1) := by decide +kernel
theorem dX8_copyFrom_26 : decode cX8_copyFrom 26 = .ok (.getfield 15, 3) := by decide +kernel
theorem dX8_copyFrom_29 : decode cX8_copyFrom 29 = .ok (.iload_n 2, 1) := by decide +kernel
theorem dX8_copyFrom_30 : decode cX8_copyFrom 30 = .ok (.iaload, 1) := by decide +kernel
theorem dX8_copyFrom_31 : decode cX8_copyFrom 31 = .ok (.iastore, 1) := by decide +kernel
theorem dX8_copyFrom_32 : decode cX8_copyFrom 32 = .ok (.iinc 2 1, 3) := by decide +kernel
theorem dX8_copyFrom_35 : decode cX8_copyFrom 35 = .ok (.goto (-33), 3) := by decide +kernel
theorem dX8_copyFrom_38 : decode cX8_copyFrom 38 = .ok (.aload_n 0, 1) := by decide +kernel
theorem dX8_copyFrom_39 : decode cX8_copyFrom 39 = .ok (.aload_n 1, 1) := by decide +kernel
theorem dX8_copyFrom_40 : decode cX8_copyFrom 40 = .ok (.getfield 27, 3) := by decide +kernel
theorem dX8_copyFrom_43 : decode cX8_copyFrom 43 = .ok (.putfield 27, 3) := by decide +kernel
theorem dX8_copyFrom_46 : decode cX8_copyFrom 46 = .ok (.return_, 1) := by decide +kernel
theorem dX9_init_0 : decode cX9_init 0 = .ok (.aload_n 0, 1) := by decide +kernel
theorem dX9_init_1 : decode cX9_init 1 = .ok (.invokespecial 1, 3) := by decide +kernel
theorem dX9_init_4 : decode cX9_init 4 = .ok (.aload_n 0, 1) := by decide +kernel
theorem dX9_init_5 : decode cX9_init 5 = .ok (.aload_n 1, 1) := by decide +kernel
theorem dX9_init_6 : decode cX9_init 6 = .ok (.putfield 7, 3) := by decide +kernel
theorem dX9_init_9 : decode cX9_init 9 = .ok (.aload_n 0, 1) := by decide +kernel
theorem dX9_init_10 : decode cX9_init 10 = .ok (.aload_n 2, 1) := by decide +kernel
theorem dX9_init_11 : decode cX9_init 11 = .ok (.putfield 13, 3) := by decide +kernel
theorem dX9_init_14 : decode cX9_init 14 = .ok (.aload_n 0, 1) := by decide +kernel
theorem dX9_init_15 : decode cX9_init 15 = .ok (.iload_n 3, 1) := by decide +kernel
theorem dX9_init_16 : decode cX9_init 16 = .ok (.putfield 17, 3) := by decide +kernel
theorem dX9_init_19 : decode cX9_init 19 = .ok (.return_, 1) := by decide +kernel
theorem dX9_draw_0 : decode cX9_draw 0 = .ok (.aload_n 0, 1) := by decide +kernel
theorem dX9_draw_1 : decode cX9_draw 1 = .ok (.aload_n 0, 1) := by decide +kernel
theorem dX9_draw_2 : decode cX9_draw 2 = .ok (.getfield 17, 3) := by decide +kernel
theorem dX9_draw_5 : decode cX9_draw 5 = .ok (.ldc 21, 2) := by decide +kernel
theorem dX9_draw_7 : decode cX9_draw 7 = .ok (.imul, 1) := by decide +kernel
theorem dX9_draw_8 : decode cX9_draw 8 = .ok (.sipush 12345, 3) := by decide +kernel
theorem dX9_draw_11 : decode cX9_draw 11 = .ok (.iadd, 1) := by decide +kernel
theorem dX9_draw_12 : decode cX9_draw 12 = .ok (.putfield 17, 3) := by decide +kernel
theorem dX9_draw_15 : decode cX9_draw 15 = .ok (.iload_n 1, 1) := by decide +kernel
theorem dX9_draw_16 : decode cX9_draw 16 = .ok (.ifCond .le 19, 3) := by decide +kernel
theorem dX9_draw_19 : decode cX9_draw 19 = .ok (.aload_n 0, 1) := by decide +kernel
theorem dX9_draw_20 : decode cX9_draw 20 = .ok (.getfield 17, 3) := by decide +kernel
theorem dX9_draw_23 : decode cX9_draw 23 = .ok (.bipush 16, 2) := by decide +kernel
theorem dX9_draw_25 : decode cX9_draw 25 = .ok (.iushr, 1) := by decide +kernel
theorem dX9_draw_26 : decode cX9_draw 26 = .ok (.sipush 32767, 3) := by decide +kernel
theorem dX9_draw_29 : decode cX9_draw 29 = .ok (.iand, 1) := by decide +kernel
theorem dX9_draw_30 : decode cX9_draw 30 = .ok (.iload_n 1, 1) := by decide +kernel
theorem dX9_draw_31 : decode cX9_draw 31 = .ok (.irem, 1) := by decide +kernel
theorem dX9_draw_32 : decode cX9_draw 32 = .ok (.goto 4, 3) := by decide +kernel
theorem dX9_draw_35 : decode cX9_draw 35 = .ok (.iconst 0, 1) := by decide +kernel
theorem dX9_draw_36 : decode cX9_draw 36 = .ok (.ireturn, 1) := by decide +kernel
theorem dX9_pass_0 : decode cX9_pass 0 = .ok (.aload_n 0, 1) := by decide +kernel
theorem dX9_pass_1 : decode cX9_pass 1 = .ok (.iconst 4, 1) := by decide +kernel
theorem dX9_pass_2 : decode cX9_pass 2 = .ok (.invokevirtual 22, 3) := by decide +kernel
theorem dX9_pass_5 : decode cX9_pass 5 = .ok (.istore_n 1, 1) := by decide +kernel
theorem dX9_pass_6 : decode cX9_pass 6 = .ok (.iload_n 1, 1) := by decide +kernel
theorem dX9_pass_7 : decode cX9_pass 7 = .ok (.iconst 3, 1) := by decide +kernel
theorem dX9_pass_8 : decode cX9_pass 8 = .ok (.if_icmp .ne 31, 3) := by decide +kernel
theorem dX9_pass_11 : decode cX9_pass 11 = .ok (.aload_n 0, 1) := by decide +kernel
theorem dX9_pass_12 : decode cX9_pass 12 = .ok (.getfield 7, 3) := by decide +kernel
theorem dX9_pass_15 : decode cX9_pass 15 = .ok (.getfield 26, 3) := by decide +kernel
theorem dX9_pass_18 : decode cX9_pass 18 = .ok (.ifCond .le 95, 3) := by decide +kernel
theorem dX9_pass_21 : decode cX9_pass 21 = .ok (.aload_n 0, 1) := by decide +kernel
theorem dX9_pass_22 : decode cX9_pass 22 = .ok (.aload_n 0, 1) := by decide +kernel
theorem dX9_pass_23 : decode cX9_pass 23 = .ok (.aload_n 0, 1) := by decide +kernel
theorem dX9_pass_24 : decode cX9_pass 24 = .ok (.getfield 7, 3) := by decide +kernel
theorem dX9_pass_27 : decode cX9_pass 27 = .ok (.getfield 26, 3) := by decide +kernel
theorem dX9_pass_30 : decode cX9_pass 30 = .ok (.invokevirtual 22, 3) := by decide +kernel
theorem dX9_pass_33 : decode cX9_pass 33 = .ok (.invokevirtual 31, 3) := by decide +kernel
theorem dX9_pass_36 : decode cX9_pass 36 = .ok (.goto 77, 3) := by decide +kernel
theorem dX9_pass_39 : decode cX9_pass 39 = .ok (.aload_n 0, 1) := by decide +kernel
theorem dX9_pass_40 : decode cX9_pass 40 = .ok (.getfield 7, 3) := by decide +kernel
theorem dX9_pass_43 : decode cX9_pass 43 = .ok (.getfield 35, 3) := by decide +kernel
theorem dX9_pass_46 : decode cX9_pass 46 = .ok (.ifCond .le 67, 3) := by decide +kernel
theorem dX9_pass_49 : decode cX9_pass 49 = .ok (.aload_n 0, 1) := by decide +kernel
theorem dX9_pass_50 : decode cX9_pass 50 = .ok (.aload_n 0, 1) := by decide +kernel
theorem dX9_pass_51 : decode cX9_pass 51 = .ok (.getfield 7, 3) := by decide +kernel
theorem dX9_pass_54 : decode cX9_pass 54 = .ok (.getfield 35, 3) := by decide +kernel
theorem dX9_pass_57 : decode cX9_pass 57 = .ok (.invokevirtual 22, 3) := by decide +kernel
theorem dX9_pass_60 : decode cX9_pass 60 = .ok (.istore_n 2, 1) := by decide +kernel
theorem dX9_pass_61 : decode cX9_pass 61 = .ok (.iload_n 1, 1) := by decide +kernel
theorem dX9_pass_62 : decode cX9_pass 62 = .ok (.iconst 2, 1) := by decide +kernel
theorem dX9_pass_63 : decode cX9_pass 63 = .ok (.if_icmp .ne 16, 3) := by decide +kernel
theorem dX9_pass_66 : decode cX9_pass 66 = .ok (.aload_n 0, 1) := by decide +kernel
theorem dX9_pass_67 : decode cX9_pass 67 = .ok (.getfield 13, 3) := by decide +kernel
theorem dX9_pass_70 : decode cX9_pass 70 = .ok (.iconst 1, 1) := by decide +kernel
theorem dX9_pass_71 : decode cX9_pass 71 = .ok (.iload_n 2, 1) := by decide +kernel
theorem dX9_pass_72 : decode cX9_pass 72 = .ok (.ishl, 1) := by decide +kernel
theorem dX9_pass_73 : decode cX9_pass 73 = .ok (.invokevirtual 38, 3) := by decide +kernel
theorem dX9_pass_76 : decode cX9_pass 76 = .ok (.goto 37, 3) := by decide +kernel
theorem dX9_pass_79 : decode cX9_pass 79 = .ok (.aload_n 0, 1) := by decide +kernel
theorem dX9_pass_80 : decode cX9_pass 80 = .ok (.getfield 13, 3) := by decide +kernel
theorem dX9_pass_83 : decode cX9_pass 83 = .ok (.getfield 43, 3) := by decide +kernel
theorem dX9_pass_86 : decode cX9_pass 86 = .ok (.getfield 47, 3) := by decide +kernel
theorem dX9_pass_89 : decode cX9_pass 89 = .ok (.iload_n 2, 1) := by decide +kernel
theorem dX9_pass_90 : decode cX9_pass 90 = .ok (.iaload, 1) := by decide +kernel
theorem dX9_pass_91 : decode cX9_pass 91 = .ok (.ifCond .ne 22, 3) := by decide +kernel
theorem dX9_pass_94 : decode cX9_pass 94 = .ok (.aload_n 0, 1) := by decide +kernel
theorem dX9_pass_95 : decode cX9_pass 95 = .ok (.dup, 1) := by decide +kernel
theorem dX9_pass_96 : decode cX9_pass 96 = .ok (.getfield 53, 3) := by decide +kernel
theorem dX9_pass_99 : decode cX9_pass 99 = .ok (.aload_n 0, 1) := by decide +kernel
theorem dX9_pass_100 : decode cX9_pass 100 = .ok (.getfield 13, 3) := by decide +kernel
theorem dX9_pass_103 : decode cX9_pass 103 = .ok (.iconst 1, 1) := by decide +kernel
theorem dX9_pass_104 : decode cX9_pass 104 = .ok (.iload_n 2, 1) := by decide +kernel
theorem dX9_pass_105 : decode cX9_pass 105 = .ok (.ishl, 1) := by decide +kernel
theorem dX9_pass_106 : decode cX9_pass 106 = .ok (.invokevirtual 56, 3) := by decide +kernel
theorem dX9_pass_109 : decode cX9_pass 109 = .ok (.iadd, 1) := by decide +kernel
theorem dX9_pass_110 : decode cX9_pass 110 = .ok (.putfield 53, 3) := by decide +kernel
theorem dX9_pass_113 : decode cX9_pass 113 = .ok (.return_, 1) := by decide +kernel
theorem dX9_turnLink_0 : decode cX9_turnLink 0 = .ok (.aload_n 0, 1) := by decide +kernel
theorem dX9_turnLink_1 : decode cX9_turnLink 1 = .ok (.getfield 13, 3) := by decide +kernel
theorem dX9_turnLink_4 : decode cX9_turnLink 4 = .ok (.getfield 43, 3) := by decide +kernel
theorem dX9_turnLink_7 : decode cX9_turnLink 7 = .ok (.getfield 59, 3) := by decide +kernel
theorem dX9_turnLink_10 : decode cX9_turnLink 10 = .ok (.iload_n 1, 1) := by decide +kernel
theorem dX9_turnLink_11 : decode cX9_turnLink 11 = .ok (.iushr, 1) := by decide +kernel
theorem dX9_turnLink_12 : decode cX9_turnLink 12 = .ok (.iconst 1, 1) := by decide +kernel
theorem dX9_turnLink_13 : decode cX9_turnLink 13 = .ok (.iand, 1) := by decide +kernel
theorem dX9_turnLink_14 : decode cX9_turnLink 14 = .ok (.ifCond .eq 30, 3) := by decide +kernel
theorem dX9_turnLink_17 : decode cX9_turnLink 17 = .ok (.aload_n 0, 1) := by decide +kernel
theorem dX9_turnLink_18 : decode cX9_turnLink 18 = .ok (.dup, 1) := by decide +kernel
theorem dX9_turnLink_19 : decode cX9_turnLink 19 = .ok (.getfield 53, 3) := by decide +kernel
theorem dX9_turnLink_22 : decode cX9_turnLink 22 = .ok (.aload_n 0, 1) := by decide +kernel
theorem dX9_turnLink_23 : decode cX9_turnLink 23 = .ok (.getfield 13, 3) := by decide +kernel
theorem dX9_turnLink_26 : decode cX9_turnLink 26 = .ok (.aload_n 0, 1) := by decide +kernel
theorem dX9_turnLink_27 : decode cX9_turnLink 27 = .ok (.getfield 13, 3) := by decide +kernel
theorem dX9_turnLink_30 : decode cX9_turnLink 30 = .ok (.iload_n 1, 1) := by decide +kernel
theorem dX9_turnLink_31 : decode cX9_turnLink 31 = .ok (.invokevirtual 62, 3) := by decide +kernel
theorem dX9_turnLink_34 : decode cX9_turnLink 34 = .ok (.invokevirtual 56, 3) := by decide +kernel
theorem dX9_turnLink_37 : decode cX9_turnLink 37 = .ok (.iadd, 1) := by decide +kernel
theorem dX9_turnLink_38 : decode cX9_turnLink 38 = .ok (.putfield 53, 3) := by decide +kernel
theorem dX9_turnLink_41 : decode cX9_turnLink 41 = .ok (.goto 21, 3) := by decide +kernel
theorem dX9_turnLink_44 : decode cX9_turnLink 44 = .ok (.aload_n 0, 1) := by decide +kernel
theorem dX9_turnLink_45 : decode cX9_turnLink 45 = .ok (.getfield 13, 3) := by decide +kernel
theorem dX9_turnLink_48 : decode cX9_turnLink 48 = .ok (.getfield 43, 3) := by decide +kernel
theorem dX9_turnLink_51 : decode cX9_turnLink 51 = .ok (.dup, 1) := by decide +kernel
theorem dX9_turnLink_52 : decode cX9_turnLink 52 = .ok (.getfield 59, 3) := by decide +kernel
theorem dX9_turnLink_55 : decode cX9_turnLink 55 = .ok (.iconst 1, 1) := by decide +kernel
theorem dX9_turnLink_56 : decode cX9_turnLink 56 = .ok (.iload_n 1, 1) := by decide +kernel
theorem dX9_turnLink_57 : decode cX9_turnLink 57 = .ok (.ishl, 1) := by decide +kernel
theorem dX9_turnLink_58 : decode cX9_turnLink 58 = .ok (.ior, 1) := by decide +kernel
theorem dX9_turnLink_59 : decode cX9_turnLink 59 = .ok (.putfield 59, 3) := by decide +kernel
theorem dX9_turnLink_62 : decode cX9_turnLink 62 = .ok (.return_, 1) := by decide +kernel
theorem dX10_init_0 : decode cX10_init 0 = .ok (.aload_n 0, 1) := by decide +kernel
theorem dX10_init_1 : decode cX10_init 1 = .ok (.invokespecial 1, 3) := by decide +kernel
theorem dX10_init_4 : decode cX10_init 4 = .ok (.aload_n 0, 1) := by decide +kernel
theorem dX10_init_5 : decode cX10_init 5 = .ok (.sipush 700, 3) := by decide +kernel
theorem dX10_init_8 : decode cX10_init 8 = .ok (.newarray .byte, 2) := by decide +kernel
theorem dX10_init_10 : decode cX10_init 10 = .ok (.putfield 9, 3) := by decide +kernel
theorem dX10_init_13 : decode cX10_init 13 = .ok (.aload_n 0, 1) := by decide +kernel
theorem dX10_init_14 : decode cX10_init 14 = .ok (.iconst (-1), 1) := by decide +kernel
theorem dX10_init_15 : decode cX10_init 15 = .ok (.putfield 13, 3) := by decide +kernel
theorem dX10_init_18 : decode cX10_init 18 = .ok (.aload_n 0, 1) := by decide +kernel
theorem dX10_init_19 : decode cX10_init 19 = .ok (.new 17, 3) := by decide +kernel
theorem dX10_init_22 : decode cX10_init 22 = .ok (.dup, 1) := by decide +kernel
theorem dX10_init_23 : decode cX10_init 23 = .ok (.invokespecial 19, 3) := by decide +kernel
theorem dX10_init_26 : decode cX10_init 26 = .ok (.putfield 20, 3) := by decide +kernel
theorem dX10_init_29 : decode cX10_init 29 = .ok (.aload_n 0, 1) := by decide +kernel
theorem dX10_init_30 : decode cX10_init 30 = .ok (.new 17, 3) := by decide +kernel
theorem dX10_init_33 : decode cX10_init 33 = .ok (.dup, 1) := by decide +kernel
theorem dX10_init_34 : decode cX10_init 34 = .ok (.invokespecial 19, 3) := by decide +kernel
theorem dX10_init_37 : decode cX10_init 37 = .ok (.putfield 24, 3) := by decide +kernel
theorem dX10_init_40 : decode cX10_init 40 = .ok (.aload_n 0, 1) := by decide +kernel
theorem dX10_init_41 : decode cX10_init 41 = .ok (.new 27, 3) := by decide +kernel
theorem dX10_init_44 : decode cX10_init 44 = .ok (.dup, 1) := by decide +kernel
theorem dX10_init_45 : decode cX10_init 45 = .ok (.invokespecial 29, 3) := by decide +kernel
theorem dX10_init_48 : decode cX10_init 48 = .ok (.putfield 30, 3) := by decide +kernel
theorem dX10_init_51 : decode cX10_init 51 = .ok (.aload_n 0, 1) := by decide +kernel
theorem dX10_init_52 : decode cX10_init 52 = .ok (.new 34, 3) := by decide +kernel
theorem dX10_init_55 : decode cX10_init 55 = .ok (.dup, 1) := by decide +kernel
theorem dX10_init_56 : decode cX10_init 56 = .ok (.aload_n 0, 1) := by decide +kernel
theorem dX10_init_57 : decode cX10_init 57 = .ok (.getfield 20, 3) := by decide +kernel
theorem dX10_init_60 : decode cX10_init 60 = .ok (.invokespecial 36, 3) := by decide +kernel
theorem dX10_init_63 : decode cX10_init 63 = .ok (.putfield 39, 3) := by decide +kernel
theorem dX10_init_66 : decode cX10_init 66 = .ok (.aload_n 0, 1) := by decide +kernel
theorem dX10_init_67 : decode cX10_init 67 = .ok (.new 43, 3) := by decide +kernel
theorem dX10_init_70 : decode cX10_init 70 = .ok (.dup, 1) := by decide +kernel
theorem dX10_init_71 : decode cX10_init 71 = .ok (.invokespecial 45, 3) := by decide +kernel
theorem dX10_init_74 : decode cX10_init 74 = .ok (.putfield 46, 3) := by decide +kernel
theorem dX10_init_77 : decode cX10_init 77 = .ok (.aload_n 0, 1) := by decide +kernel
theorem dX10_init_78 : decode cX10_init 78 = .ok (.new 43, 3) := by decide +kernel
theorem dX10_init_81 : decode cX10_init 81 = .ok (.dup, 1) := by decide +kernel
theorem dX10_init_82 : decode cX10_init 82 = .ok (.invokespecial 45, 3) := by decide +kernel
theorem dX10_init_85 : decode cX10_init 85 = .ok (.putfield 50, 3) := by decide +kernel
theorem dX10_init_88 : decode cX10_init 88 = .ok (.aload_n 0, 1) := by decide +kernel
theorem dX10_init_89 : decode cX10_init 89 = .ok (.new 53, 3) := by decide +kernel
theorem dX10_init_92 : decode cX10_init 92 = .ok (.dup, 1) := by decide +kernel
theorem dX10_init_93 : decode cX10_init 93 = .ok (.aload_n 0, 1) := by decide +kernel
theorem dX10_init_94 : decode cX10_init 94 = .ok (.getfield 20, 3) := by decide +kernel
theorem dX10_init_97 : decode cX10_init 97 = .ok (.aload_n 0, 1) := by decide +kernel
theorem dX10_init_98 : decode cX10_init 98 = .ok (.getfield 39, 3) := by decide +kernel
theorem dX10_init_101 : decode cX10_init 101 = .ok (.aload_n 0, 1) := by decide +kernel
theorem dX10_init_102 : decode cX10_init 102 = .ok (.getfield 46, 3) := by decide +kernel
theorem dX10_init_105 : decode cX10_init 105 = .ok (.invokespecial 55, 3) := by decide +kernel
theorem dX10_init_108 : decode cX10_init 108 = .ok (.putfield 58, 3) := by decide +kernel
theorem dX10_init_111 : decode cX10_init 111 = .ok (.aload_n 0, 1) := by decide +kernel
theorem dX10_init_112 : decode cX10_init 112 = .ok (.new 62, 3) := by decide +kernel
theorem dX10_init_115 : decode cX10_init 115 = .ok (.dup, 1) := by decide +kernel
theorem dX10_init_116 : decode cX10_init 116 = .ok (.aload_n 0, 1) := by decide +kernel
theorem dX10_init_117 : decode cX10_init 117 = .ok (.getfield 20, 3) := by decide +kernel
theorem dX10_init_120 : decode cX10_init 120 = .ok (.aload_n 0, 1) := by decide +kernel
theorem dX10_init_121 : decode cX10_init 121 = .ok (.getfield 39, 3) := by decide +kernel
theorem dX10_init_124 : decode cX10_init 124 = .ok (.aload_n 0, 1) := by decide +kernel
theorem dX10_init_125 : decode cX10_init 125 = .ok (.getfield 58, 3) := by decide +kernel
theorem dX10_init_128 : decode cX10_init 128 = .ok (.invokespecial 64, 3) := by decide +kernel
theorem dX10_init_131 : decode cX10_init 131 = .ok (.putfield 67, 3) := by decide +kernel
theorem dX10_init_134 : decode cX10_init 134 = .ok (.aload_n 0, 1) := by decide +kernel
theorem dX10_init_135 : decode cX10_init 135 = .ok (.new 71, 3) := by decide +kernel
theorem dX10_init_138 : decode cX10_init 138 = .ok (.dup, 1) := by decide +kernel
theorem dX10_init_139 : decode cX10_init 139 = .ok (.invokespecial 73, 3) := by decide +kernel
theorem dX10_init_142 : decode cX10_init 142 = .ok (.putfield 74, 3) := by decide +kernel
theorem dX10_init_145 : decode cX10_init 145 = .ok (.aload_n 0, 1) := by decide +kernel
theorem dX10_init_146 : decode cX10_init 146 = .ok (.new 78, 3) := by decide +kernel
theorem dX10_init_149 : decode cX10_init 149 = .ok (.dup, 1) := by decide +kernel
theorem dX10_init_150 : decode cX10_init 150 = .ok (.invokespecial 80, 3) := by decide +kernel
theorem dX10_init_153 : decode cX10_init 153 = .ok (.putfield 81, 3) := by decide +kernel
theorem dX10_init_156 : decode cX10_init 156 = .ok (.aload_n 0, 1) := by decide +kernel
theorem dX10_init_157 : decode cX10_init 157 = .ok (.new 43, 3) := by decide +kernel
theorem dX10_init_160 : decode cX10_init 160 = .ok (.dup, 1) := by decide +kernel
theorem dX10_init_161 : decode cX10_init 161 = .ok (.invokespecial 45, 3) := by decide +kernel
theorem dX10_init_164 : decode cX10_init 164 = .ok (.putfield 85, 3) := by decide +kernel
theorem dX10_init_167 : decode cX10_init 167 = .ok (.aload_n 0, 1) := by decide +kernel
theorem dX10_init_168 : decode cX10_init 168 = .ok (.new 71, 3) := by decide +kernel
theorem dX10_init_171 : decode cX10_init 171 = .ok (.dup, 1) := by decide +kernel
theorem dX10_init_172 : decode cX10_init 172 = .ok (.invokespecial 73, 3) := by decide +kernel
theorem dX10_init_175 : decode cX10_init 175 = .ok (.putfield 88, 3) := by decide +kernel
theorem dX10_init_178 : decode cX10_init 178 = .ok (.aload_n 0, 1) := by decide +kernel
theorem dX10_init_179 : decode cX10_init 179 = .ok (.new 78, 3) := by decide +kernel
theorem dX10_init_182 : decode cX10_init 182 = .ok (.dup, 1) := by decide +kernel
theorem dX10_init_183 : decode cX10_init 183 = .ok (.invokespecial 80, 3) := by decide +kernel
theorem dX10_init_186 : decode cX10_init 186 = .ok (.putfield 91, 3) := by decide +kernel
theorem dX10_init_189 : decode cX10_init 189 = .ok (.return_, 1) := by decide +kernel
theorem dX10_feed_0 : decode cX10_feed 0 = .ok (.aload_n 0, 1) := by decide +kernel
theorem dX10_feed_1 : decode cX10_feed 1 = .ok (.getfield 94, 3) := by decide +kernel
theorem dX10_feed_4 : decode cX10_feed 4 = .ok (.bipush 20, 2) := by decide +kernel
theorem dX10_feed_6 : decode cX10_feed 6 = .ok (.iadd, 1) := by decide +kernel
theorem dX10_feed_7 : decode cX10_feed 7 = .ok (.sipush 700, 3) := by decide +kernel
theorem dX10_feed_10 : decode cX10_feed 10 = .ok (.if_icmp .le 5, 3) := by decide +kernel
theorem dX10_feed_13 : decode cX10_feed 13 = .ok (.iconst (-1), 1) := by decide +kernel
theorem dX10_feed_14 : decode cX10_feed 14 = .ok (.ireturn, 1) := by decide +kernel
theorem dX10_feed_15 : decode cX10_feed 15 = .ok (.aload_n 0, 1) := by decide +kernel
theorem dX10_feed_16 : decode cX10_feed 16 = .ok (.iload_n 1, 1) := by decide +kernel
theorem dX10_feed_17 : decode cX10_feed 17 = .ok (.invokevirtual 97, 3) := by decide +kernel
theorem dX10_feed_20 : decode cX10_feed 20 = .ok (.aload_n 0, 1) := by decide +kernel
theorem dX10_feed_21 : decode cX10_feed 21 = .ok (.iload_n 2, 1) := by decide +kernel
theorem dX10_feed_22 : decode cX10_feed 22 = .ok (.invokevirtual 97, 3) := by decide +kernel
theorem dX10_feed_25 : decode cX10_feed 25 = .ok (.aload_n 0, 1) := by decide +kernel
theorem dX10_feed_26 : decode cX10_feed 26 = .ok (.iload_n 3, 1) := by decide +kernel
theorem dX10_feed_27 : decode cX10_feed 27 = .ok (.invokevirtual 97, 3) := by decide +kernel
theorem dX10_feed_30 : decode cX10_feed 30 = .ok (.aload_n 0, 1) := by decide +kernel
theorem dX10_feed_31 : decode cX10_feed 31 = .ok (.iload 4, 2) := by decide +kernel
theorem dX10_feed_33 : decode cX10_feed 33 = .ok (.invokevirtual 97, 3) := by decide +kernel
theorem dX10_feed_36 : decode cX10_feed 36 = .ok (.aload_n 0, 1) := by decide +kernel
theorem dX10_feed_37 : decode cX10_feed 37 = .ok (.iload 5, 2) := by decide +kernel
theorem dX10_feed_39 : decode cX10_feed 39 = .ok (.invokevirtual 97, 3) := by decide +kernel
theorem dX10_feed_42 : decode cX10_feed 42 = .ok (.aload_n 0, 1) := by decide +kernel
theorem dX10_feed_43 : decode cX10_feed 43 = .ok (.getfield 94, 3) := by decide +kernel
theorem dX10_feed_46 : decode cX10_feed 46 = .ok (.ireturn, 1) := by decide +kernel
theorem dX10_putBytes_0 : decode cX10_putBytes 0 = .ok (.bipush 24, 2) := by decide +kernel
theorem dX10_putBytes_2 : decode cX10_putBytes 2 = .ok (.istore_n 2, 1) := by decide +kernel
theorem dX10_putBytes_3 : decode cX10_putBytes 3 = .ok (.iload_n 2, 1) := by decide +kernel
theorem dX10_putBytes_4 : decode cX10_putBytes 4 = .ok (.ifCond .lt 42, 3) := by decide +kernel
theorem dX10_putBytes_7 : decode cX10_putBytes 7 = .ok (.aload_n 0, 1) := by decide +kernel
theorem dX10_putBytes_8 : decode cX10_putBytes 8 = .ok (.getfield 94, 3) := by decide +kernel
theorem dX10_putBytes_11 : decode cX10_putBytes 11 = .ok (.sipush 700, 3) := by decide +kernel
theorem dX10_putBytes_14 : decode cX10_putBytes 14 = .ok (.if_icmp .ge 32, 3) := by decide +kernel
theorem dX10_putBytes_17 : decode cX10_putBytes 17 = .ok (.aload_n 0, 1) := by decide +kernel
theorem dX10_putBytes_18 : decode cX10_putBytes 18 = .ok (.getfield 9, 3) := by decide +kernel
theorem dX10_putBytes_21 : decode cX10_putBytes 21 = .ok (.aload_n 0, 1) := by decide +kernel
theorem dX10_putBytes_22 : decode cX10_putBytes 22 = .ok (.getfield 94, 3) := by decide +kernel
theorem dX10_putBytes_25 : decode cX10_putBytes 25 = .ok (.iload_n 1, 1) := by decide +kernel
theorem dX10_putBytes_26 : decode cX10_putBytes 26 = .ok (.iload_n 2, 1) := by decide +kernel
theorem dX10_putBytes_27 : decode cX10_putBytes 27 = .ok (.iushr, 1) := by decide +kernel
theorem dX10_putBytes_28 : decode cX10_putBytes 28 = .ok (.i2b, 1) := by decide +kernel
theorem dX10_putBytes_29 : decode cX10_putBytes 29 = .ok (.bastore, 1) := by decide +kernel
theorem dX10_putBytes_30 : decode cX10_putBytes 30 = .ok (.aload_n 0, 1) := by decide +kernel
theorem dX10_putBytes_31 : decode cX10_putBytes 31 = .ok (.dup, 1) := by decide +kernel
theorem dX10_putBytes_32 : decode cX10_putBytes 32 = .ok (.getfield 94, 3) := by decide +kernel
theorem dX10_putBytes_35 : decode cX10_putBytes 35 = .ok (.iconst 1, 1) := by decide +kernel
theorem dX10_putBytes_36 : decode cX10_putBytes 36 = .ok (.iadd, 1) := by decide +kernel
theorem dX10_putBytes_37 : decode cX10_putBytes 37 = .ok (.putfield 94, 3) := by decide +kernel
theorem dX10_putBytes_40 : decode cX10_putBytes 40 = .ok (.iinc 2 (-8), 3) := by decide +kernel
theorem dX10_putBytes_43 : decode cX10_putBytes 43 = .ok (.goto (-40), 3) := by decide +kernel
theorem dX10_putBytes_46 : decode cX10_putBytes 46 = .ok (.return_, 1) := by decide +kernel
theorem dX10_network_0 : decode cX10_network 0 = .ok (.iload_n 1, 1) := by decide +kernel
theorem dX10_network_1 : decode cX10_network 1 = .ok (.ifCond .lt 11, 3) := by decide +kernel
theorem dX10_network_4 : decode cX10_network 4 = .ok (.iload_n 1, 1) := by decide +kernel
theorem dX10_network_5 : decode cX10_network 5 = .ok (.aload_n 0, 1) := by decide +kernel
theorem dX10_network_6 : decode cX10_network 6 = .ok (.getfield 94, 3) := by decide +kernel
theorem dX10_network_9 : decode cX10_network 9 = .ok (.if_icmp .le 13, 3) := by decide +kernel
theorem dX10_network_12 : decode cX10_network 12 = .ok (.new 101, 3) := by decide +kernel
theorem dX10_network_15 : decode cX10_network 15 = .ok (.dup, 1) := by decide +kernel
theorem dX10_network_16 : decode cX10_network 16 = .ok (.ldc 103, 2) := by decide +kernel
theorem dX10_network_18 : decode cX10_network 18 = .ok (.invokespecial 105, 3) := by decide +kernel
theorem dX10_network_21 : decode cX10_network 21 = .ok (.athrow, 1) := by decide +kernel
theorem dX10_network_22 : decode cX10_network 22 = .ok (.aload_n 0, 1) := by decide +kernel
theorem dX10_network_23 : decode cX10_network 23 = .ok (.getfield 30, 3) := by decide +kernel
theorem dX10_network_26 : decode cX10_network 26 = .ok (.aload_n 0, 1) := by decide +kernel
theorem dX10_network_27 : decode cX10_network 27 = .ok (.getfield 9, 3) := by decide +kernel
theorem dX10_network_30 : decode cX10_network 30 = .ok (.iload_n 1, 1) := by decide +kernel
theorem dX10_network_31 : decode cX10_network 31 = .ok (.aload_n 0, 1) := by decide +kernel
theorem dX10_network_32 : decode cX10_network 32 = .ok (.getfield 24, 3) := by decide +kernel
theorem dX10_network_35 : decode cX10_network 35 = .ok (.invokevirtual 108, 3) := by decide +kernel
theorem dX10_network_38 : decode cX10_network 38 = .ok (.istore_n 2, 1) := by decide +kernel
theorem dX10_network_39 : decode cX10_network 39 = .ok (.aload_n 0, 1) := by decide +kernel
theorem dX10_network_40 : decode cX10_network 40 = .ok (.aload_n 0, 1) := by decide +kernel
theorem dX10_network_41 : decode cX10_network 41 = .ok (.getfield 30, 3) := by decide +kernel
theorem dX10_network_44 : decode cX10_network 44 = .ok (.getfield 112, 3) := by decide +kernel
theorem dX10_network_47 : decode cX10_network 47 = .ok (.putfield 13, 3) := by decide +kernel
theorem dX10_network_50 : decode cX10_network 50 = .ok (.aload_n 0, 1) := by decide +kernel
theorem dX10_network_51 : decode cX10_network 51 = .ok (.iconst 0, 1) := by decide +kernel
theorem dX10_network_52 : decode cX10_network 52 = .ok (.putfield 94, 3) := by decide +kernel
theorem dX10_network_55 : decode cX10_network 55 = .ok (.iload_n 2, 1) := by decide +kernel
theorem dX10_network_56 : decode cX10_network 56 = .ok (.ifCond .eq 15, 3) := by decide +kernel
theorem dX10_network_59 : decode cX10_network 59 = .ok (.aload_n 0, 1) := by decide +kernel
theorem dX10_network_60 : decode cX10_network 60 = .ok (.dup, 1) := by decide +kernel
theorem dX10_network_61 : decode cX10_network 61 = .ok (.getfield 115, 3) := by decide +kernel
theorem dX10_network_64 : decode cX10_network 64 = .ok (.iconst 1, 1) := by decide +kernel
theorem dX10_network_65 : decode cX10_network 65 = .ok (.iadd, 1) := by decide +kernel
theorem dX10_network_66 : decode cX10_network 66 = .ok (.putfield 115, 3) := by decide +kernel
theorem dX10_network_69 : decode cX10_network 69 = .ok (.iload_n 2, 1) := by decide +kernel
theorem dX10_network_70 : decode cX10_network 70 = .ok (.ireturn, 1) := by decide +kernel
theorem dX10_network_71 : decode cX10_network 71 = .ok (.aload_n 0, 1) := by decide +kernel
theorem dX10_network_72 : decode cX10_network 72 = .ok (.getfield 20, 3) := by decide +kernel
theorem dX10_network_75 : decode cX10_network 75 = .ok (.aload_n 0, 1) := by decide +kernel
theorem dX10_network_76 : decode cX10_network 76 = .ok (.getfield 24, 3) := by decide +kernel
theorem dX10_network_79 : decode cX10_network 79 = .ok (.invokevirtual 118, 3) := by decide +kernel
theorem dX10_network_82 : decode cX10_network 82 = .ok (.aload_n 0, 1) := by decide +kernel
theorem dX10_network_83 : decode cX10_network 83 = .ok (.getfield 46, 3) := by decide +kernel
theorem dX10_network_86 : decode cX10_network 86 = .ok (.aload_n 0, 1) := by decide +kernel
theorem dX10_network_87 : decode cX10_network 87 = .ok (.getfield 20, 3) := by decide +kernel
theorem dX10_network_90 : decode cX10_network 90 = .ok (.invokevirtual 121, 3) := by decide +kernel
theorem dX10_network_93 : decode cX10_network 93 = .ok (.aload_n 0, 1) := by decide +kernel
theorem dX10_network_94 : decode cX10_network 94 = .ok (.getfield 74, 3) := by decide +kernel
theorem dX10_network_97 : decode cX10_network 97 = .ok (.invokevirtual 124, 3) := by decide +kernel
theorem dX10_network_100 : decode cX10_network 100 = .ok (.aload_n 0, 1) := by decide +kernel
theorem dX10_network_101 : decode cX10_network 101 = .ok (.getfield 81, 3) := by decide +kernel
theorem dX10_network_104 : decode cX10_network 104 = .ok (.invokevirtual 127, 3) := by decide +kernel
theorem dX10_network_107 : decode cX10_network 107 = .ok (.aload_n 0, 1) := by decide +kernel
theorem dX10_network_108 : decode cX10_network 108 = .ok (.iconst 0, 1) := by decide +kernel
theorem dX10_network_109 : decode cX10_network 109 = .ok (.putfield 128, 3) := by decide +kernel
theorem dX10_network_112 : decode cX10_network 112 = .ok (.iconst 0, 1) := by decide +kernel
theorem dX10_network_113 : decode cX10_network 113 = .ok (.ireturn, 1) := by decide +kernel
theorem dX10_fault_0 : decode cX10_fault 0 = .ok (.aload_n 0, 1) := by decide +kernel
theorem dX10_fault_1 : decode cX10_fault 1 = .ok (.getfield 13, 3) := by decide +kernel
theorem dX10_fault_4 : decode cX10_fault 4 = .ok (.ireturn, 1) := by decide +kernel
theorem dX10_count_0 : decode cX10_count 0 = .ok (.iload_n 1, 1) := by decide +kernel
theorem dX10_count_1 : decode cX10_count 1 = .ok (.tableswitch 212 0 16 #[83, 91, 99, 107, 115, 123, 131, 139, 147, 162, 167, 176, 184, 192, 197, 202, 207], 83) := by decide +kernel
theorem dX10_count_84 : decode cX10_count 84 = .ok (.aload_n 0, 1) := by decide +kernel
theorem dX10_count_85 : decode cX10_count 85 = .ok (.getfield 20, 3) := by decide +kernel
theorem dX10_count_88 : decode cX10_count 88 = .ok (.getfield 132, 3) := by decide +kernel
theorem dX10_count_91 : decode cX10_count 91 = .ok (.ireturn, 1) := by decide +kernel
theorem dX10_count_92 : decode cX10_count 92 = .ok (.aload_n 0, 1) := by decide +kernel
theorem dX10_count_93 : decode cX10_count 93 = .ok (.getfield 20, 3) := by decide +kernel
theorem dX10_count_96 : decode cX10_count 96 = .ok (.getfield 135, 3) := by decide +kernel
theorem dX10_count_99 : decode cX10_count 99 = .ok (.ireturn, 1) := by decide +kernel
theorem dX10_count_100 : decode cX10_count 100 = .ok (.aload_n 0, 1) := by decide +kernel
theorem dX10_count_101 : decode cX10_count 101 = .ok (.getfield 20, 3) := by decide +kernel
theorem dX10_count_104 : decode cX10_count 104 = .ok (.getfield 138, 3) := by decide +kernel
theorem dX10_count_107 : decode cX10_count 107 = .ok (.ireturn, 1) := by decide +kernel
theorem dX10_count_108 : decode cX10_count 108 = .ok (.aload_n 0, 1) := by decide +kernel
theorem dX10_count_109 : decode cX10_count 109 = .ok (.getfield 58, 3) := by decide +kernel
theorem dX10_count_112 : decode cX10_count 112 = .ok (.invokevirtual 141, 3) := by decide +kernel
theorem dX10_count_115 : decode cX10_count 115 = .ok (.ireturn, 1) := by decide +kernel
theorem dX10_count_116 : decode cX10_count 116 = .ok (.aload_n 0, 1) := by decide +kernel
theorem dX10_count_117 : decode cX10_count 117 = .ok (.getfield 46, 3) := by decide +kernel
theorem dX10_count_120 : decode cX10_count 120 = .ok (.getfield 145, 3) := by decide +kernel
theorem dX10_count_123 : decode cX10_count 123 = .ok (.ireturn, 1) := by decide +kernel
theorem dX10_count_124 : decode cX10_count 124 = .ok (.aload_n 0, 1) := by decide +kernel
theorem dX10_count_125 : decode cX10_count 125 = .ok (.getfield 58, 3) := by decide +kernel
theorem dX10_count_128 : decode cX10_count 128 = .ok (.invokevirtual 148, 3) := by decide +kernel
theorem dX10_count_131 : decode cX10_count 131 = .ok (.ireturn, 1) := by decide +kernel
theorem dX10_count_132 : decode cX10_count 132 = .ok (.aload_n 0, 1) := by decide +kernel
theorem dX10_count_133 : decode cX10_count 133 = .ok (.getfield 58, 3) := by decide +kernel
theorem dX10_count_136 : decode cX10_count 136 = .ok (.invokevirtual 151, 3) := by decide +kernel
theorem dX10_count_139 : decode cX10_count 139 = .ok (.ireturn, 1) := by decide +kernel
theorem dX10_count_140 : decode cX10_count 140 = .ok (.aload_n 0, 1) := by decide +kernel
theorem dX10_count_141 : decode cX10_count 141 = .ok (.getfield 58, 3) := by decide +kernel
theorem dX10_count_144 : decode cX10_count 144 = .ok (.invokevirtual 154, 3) := by decide +kernel
theorem dX10_count_147 : decode cX10_count 147 = .ok (.ireturn, 1) := by decide +kernel
theorem dX10_count_148 : decode cX10_count 148 = .ok (.aload_n 0, 1) := by decide +kernel
theorem dX10_count_149 : decode cX10_count 149 = .ok (.getfield 58, 3) := by decide +kernel
theorem dX10_count_152 : decode cX10_count 152 = .ok (.aload_n 0, 1) := by decide +kernel
theorem dX10_count_153 : decode cX10_count 153 = .ok (.getfield 58, 3) := by decide +kernel
theorem dX10_count_156 : decode cX10_count 156 = .ok (.invokevirtual 154, 3) := by decide +kernel
theorem dX10_count_159 : decode cX10_count 159 = .ok (.invokevirtual 157, 3) := by decide +kernel
theorem dX10_count_162 : decode cX10_count 162 = .ok (.ireturn, 1) := by decide +kernel
theorem dX10_count_163 : decode cX10_count 163 = .ok (.aload_n 0, 1) := by decide +kernel
theorem dX10_count_164 : decode cX10_count 164 = .ok (.invokevirtual 161, 3) := by decide +kernel
theorem dX10_count_167 : decode cX10_count 167 = .ok (.ireturn, 1) := by decide +kernel
theorem dX10_count_168 : decode cX10_count 168 = .ok (.aload_n 0, 1) := by decide +kernel
theorem dX10_count_169 : decode cX10_count 169 = .ok (.aload_n 0, 1) := by decide +kernel
theorem dX10_count_170 : decode cX10_count 170 = .ok (.invokevirtual 161, 3) := by decide +kernel
theorem dX10_count_173 : decode cX10_count 173 = .ok (.invokevirtual 164, 3) := by decide +kernel
theorem dX10_count_176 : decode cX10_count 176 = .ok (.ireturn, 1) := by decide +kernel
theorem dX10_count_177 : decode cX10_count 177 = .ok (.aload_n 0, 1) := by decide +kernel
theorem dX10_count_178 : decode cX10_count 178 = .ok (.getfield 74, 3) := by decide +kernel
theorem dX10_count_181 : decode cX10_count 181 = .ok (.getfield 167, 3) := by decide +kernel
theorem dX10_count_184 : decode cX10_count 184 = .ok (.ireturn, 1) := by decide +kernel
theorem dX10_count_185 : decode cX10_count 185 = .ok (.aload_n 0, 1) := by decide +kernel
theorem dX10_count_186 : decode cX10_count 186 = .ok (.getfield 81, 3) := by decide +kernel
theorem dX10_count_189 : decode cX10_count 189 = .ok (.getfield 170, 3) := by decide +kernel
theorem dX10_count_192 : decode cX10_count 192 = .ok (.ireturn, 1) := by decide +kernel
theorem dX10_count_193 : decode cX10_count 193 = .ok (.aload_n 0, 1) := by decide +kernel
theorem dX10_count_194 : decode cX10_count 194 = .ok (.getfield 94, 3) := by decide +kernel
theorem dX10_count_197 : decode cX10_count 197 = .ok (.ireturn, 1) := by decide +kernel
theorem dX10_count_198 : decode cX10_count 198 = .ok (.aload_n 0, 1) := by decide +kernel
theorem dX10_count_199 : decode cX10_count 199 = .ok (.getfield 115, 3) := by decide +kernel
theorem dX10_count_202 : decode cX10_count 202 = .ok (.ireturn, 1) := by decide +kernel
theorem dX10_count_203 : decode cX10_count 203 = .ok (.aload_n 0, 1) := by decide +kernel
theorem dX10_count_204 : decode cX10_count 204 = .ok (.getfield 171, 3) := by decide +kernel
theorem dX10_count_207 : decode cX10_count 207 = .ok (.ireturn, 1) := by decide +kernel
theorem dX10_count_208 : decode cX10_count 208 = .ok (.aload_n 0, 1) := by decide +kernel
theorem dX10_count_209 : decode cX10_count 209 = .ok (.getfield 174, 3) := by decide +kernel
theorem dX10_count_212 : decode cX10_count 212 = .ok (.ireturn, 1) := by decide +kernel
theorem dX10_count_213 : decode cX10_count 213 = .ok (.new 177, 3) := by decide +kernel
theorem dX10_count_216 : decode cX10_count 216 = .ok (.dup, 1) := by decide +kernel
theorem dX10_count_217 : decode cX10_count 217 = .ok (.ldc 179, 2) := by decide +kernel
theorem dX10_count_219 : decode cX10_count 219 = .ok (.invokespecial 181, 3) := by decide +kernel
theorem dX10_count_222 : decode cX10_count 222 = .ok (.athrow, 1) := by decide +kernel
theorem dX10_worstLink_0 : decode cX10_worstLink 0 = .ok (.iconst (-1), 1) := by decide +kernel
theorem dX10_worstLink_1 : decode cX10_worstLink 1 = .ok (.istore_n 1, 1) := by decide +kernel
theorem dX10_worstLink_2 : decode cX10_worstLink 2 = .ok (.iconst 0, 1) := by decide +kernel
theorem dX10_worstLink_3 : decode cX10_worstLink 3 = .ok (.istore_n 2, 1) := by decide +kernel
theorem dX10_worstLink_4 : decode cX10_worstLink 4 = .ok (.iconst 0, 1) := by decide +kernel
theorem dX10_worstLink_5 : decode cX10_worstLink 5 = .ok (.istore_n 3, 1) := by decide +kernel
theorem dX10_worstLink_6 : decode cX10_worstLink 6 = .ok (.iload_n 3, 1) := by decide +kernel
theorem dX10_worstLink_7 : decode cX10_worstLink 7 = .ok (.aload_n 0, 1) := by decide +kernel
theorem dX10_worstLink_8 : decode cX10_worstLink 8 = .ok (.getfield 20, 3) := by decide +kernel
theorem dX10_worstLink_11 : decode cX10_worstLink 11 = .ok (.getfield 135, 3) := by decide +kernel
theorem dX10_worstLink_14 : decode cX10_worstLink 14 = .ok (.if_icmp .ge 27, 3) := by decide +kernel
theorem dX10_worstLink_17 : decode cX10_worstLink 17 = .ok (.aload_n 0, 1) := by decide +kernel
theorem dX10_worstLink_18 : decode cX10_worstLink 18 = .ok (.iload_n 3, 1) := by decide +kernel
theorem dX10_worstLink_19 : decode cX10_worstLink 19 = .ok (.invokevirtual 164, 3) := by decide +kernel
theorem dX10_worstLink_22 : decode cX10_worstLink 22 = .ok (.istore 4, 2) := by decide +kernel
theorem dX10_worstLink_24 : decode cX10_worstLink 24 = .ok (.iload 4, 2) := by decide +kernel
theorem dX10_worstLink_26 : decode cX10_worstLink 26 = .ok (.iload_n 2, 1) := by decide +kernel
theorem dX10_worstLink_27 : decode cX10_worstLink 27 = .ok (.if_icmp .le 8, 3) := by decide +kernel
theorem dX10_worstLink_30 : decode cX10_worstLink 30 = .ok (.iload 4, 2) := by decide +kernel
theorem dX10_worstLink_32 : decode cX10_worstLink 32 = .ok (.istore_n 2, 1) := by decide +kernel
theorem dX10_worstLink_33 : decode cX10_worstLink 33 = .ok (.iload_n 3, 1) := by decide +kernel
theorem dX10_worstLink_34 : decode cX10_worstLink 34 = .ok (.istore_n 1, 1) := by decide +kernel
theorem dX10_worstLink_35 : decode cX10_worstLink 35 = .ok (.iinc 3 1, 3) := by decide +kernel
theorem dX10_worstLink_38 : decode cX10_worstLink 38 = .ok (.goto (-32), 3) := by decide +kernel
theorem dX10_worstLink_41 : decode cX10_worstLink 41 = .ok (.iload_n 1, 1) := by decide +kernel
theorem dX10_worstLink_42 : decode cX10_worstLink 42 = .ok (.ireturn, 1) := by decide +kernel
theorem dX10_lostBy_0 : decode cX10_lostBy 0 = .ok (.iload_n 1, 1) := by decide +kernel
theorem dX10_lostBy_1 : decode cX10_lostBy 1 = .ok (.iconst (-1), 1) := by decide +kernel
theorem dX10_lostBy_2 : decode cX10_lostBy 2 = .ok (.if_icmp .eq 14, 3) := by decide +kernel
theorem dX10_lostBy_5 : decode cX10_lostBy 5 = .ok (.aload_n 0, 1) := by decide +kernel
theorem dX10_lostBy_6 : decode cX10_lostBy 6 = .ok (.getfield 58, 3) := by decide +kernel
theorem dX10_lostBy_9 : decode cX10_lostBy 9 = .ok (.iload_n 1, 1) := by decide +kernel
theorem dX10_lostBy_10 : decode cX10_lostBy 10 = .ok (.invokevirtual 182, 3) := by decide +kernel
theorem dX10_lostBy_13 : decode cX10_lostBy 13 = .ok (.ifCond .ne 5, 3) := by decide +kernel
theorem dX10_lostBy_16 : decode cX10_lostBy 16 = .ok (.iconst 0, 1) := by decide +kernel
theorem dX10_lostBy_17 : decode cX10_lostBy 17 = .ok (.ireturn, 1) := by decide +kernel
theorem dX10_lostBy_18 : decode cX10_lostBy 18 = .ok (.aload_n 0, 1) := by decide +kernel
theorem dX10_lostBy_19 : decode cX10_lostBy 19 = .ok (.getfield 58, 3) := by decide +kernel
theorem dX10_lostBy_22 : decode cX10_lostBy 22 = .ok (.invokevirtual 141, 3) := by decide +kernel
theorem dX10_lostBy_25 : decode cX10_lostBy 25 = .ok (.istore_n 2, 1) := by decide +kernel
theorem dX10_lostBy_26 : decode cX10_lostBy 26 = .ok (.aload_n 0, 1) := by decide +kernel
theorem dX10_lostBy_27 : decode cX10_lostBy 27 = .ok (.getfield 50, 3) := by decide +kernel
theorem dX10_lostBy_30 : decode cX10_lostBy 30 = .ok (.aload_n 0, 1) := by decide +kernel
theorem dX10_lostBy_31 : decode cX10_lostBy 31 = .ok (.getfield 46, 3) := by decide +kernel
theorem dX10_lostBy_34 : decode cX10_lostBy 34 = .ok (.invokevirtual 185, 3) := by decide +kernel
theorem dX10_lostBy_37 : decode cX10_lostBy 37 = .ok (.aload_n 0, 1) := by decide +kernel
theorem dX10_lostBy_38 : decode cX10_lostBy 38 = .ok (.getfield 58, 3) := by decide +kernel
theorem dX10_lostBy_41 : decode cX10_lostBy 41 = .ok (.aload_n 0, 1) := by decide +kernel
theorem dX10_lostBy_42 : decode cX10_lostBy 42 = .ok (.getfield 58, 3) := by decide +kernel
theorem dX10_lostBy_45 : decode cX10_lostBy 45 = .ok (.iload_n 1, 1) := by decide +kernel
theorem dX10_lostBy_46 : decode cX10_lostBy 46 = .ok (.invokevirtual 188, 3) := by decide +kernel
theorem dX10_lostBy_49 : decode cX10_lostBy 49 = .ok (.invokevirtual 191, 3) := by decide +kernel
theorem dX10_lostBy_52 : decode cX10_lostBy 52 = .ok (.pop, 1) := by decide +kernel
theorem dX10_lostBy_53 : decode cX10_lostBy 53 = .ok (.iload_n 2, 1) := by decide +kernel
theorem dX10_lostBy_54 : decode cX10_lostBy 54 = .ok (.aload_n 0, 1) := by decide +kernel
theorem dX10_lostBy_55 : decode cX10_lostBy 55 = .ok (.getfield 58, 3) := by decide +kernel
theorem dX10_lostBy_58 : decode cX10_lostBy 58 = .ok (.invokevirtual 141, 3) := by decide +kernel
theorem dX10_lostBy_61 : decode cX10_lostBy 61 = .ok (.iconst (-1), 1) := by decide +kernel
theorem dX10_lostBy_62 : decode cX10_lostBy 62 = .ok (.ixor, 1) := by decide +kernel
theorem dX10_lostBy_63 : decode cX10_lostBy 63 = .ok (.iand, 1) := by decide +kernel
theorem dX10_lostBy_64 : decode cX10_lostBy 64 = .ok (.invokestatic 194, 3) := by decide +kernel
theorem dX10_lostBy_67 : decode cX10_lostBy 67 = .ok (.istore_n 3, 1) := by decide +kernel
theorem dX10_lostBy_68 : decode cX10_lostBy 68 = .ok (.aload_n 0, 1) := by decide +kernel
theorem dX10_lostBy_69 : decode cX10_lostBy 69 = .ok (.getfield 46, 3) := by decide +kernel
theorem dX10_lostBy_72 : decode cX10_lostBy 72 = .ok (.aload_n 0, 1) := by decide +kernel
theorem dX10_lostBy_73 : decode cX10_lostBy 73 = .ok (.getfield 50, 3) := by decide +kernel
theorem dX10_lostBy_76 : decode cX10_lostBy 76 = .ok (.invokevirtual 185, 3) := by decide +kernel
theorem dX10_lostBy_79 : decode cX10_lostBy 79 = .ok (.iload_n 3, 1) := by decide +kernel
theorem dX10_lostBy_80 : decode cX10_lostBy 80 = .ok (.ireturn, 1) := by decide +kernel
theorem dX10_checkLink_0 : decode cX10_checkLink 0 = .ok (.iload_n 1, 1) := by decide +kernel
theorem dX10_checkLink_1 : decode cX10_checkLink 1 = .ok (.ifCond .lt 14, 3) := by decide +kernel
theorem dX10_checkLink_4 : decode cX10_checkLink 4 = .ok (.iload_n 1, 1) := by decide +kernel
theorem dX10_checkLink_5 : decode cX10_checkLink 5 = .ok (.aload_n 0, 1) := by decide +kernel
theorem dX10_checkLink_6 : decode cX10_checkLink 6 = .ok (.getfield 20, 3) := by decide +kernel
theorem dX10_checkLink_9 : decode cX10_checkLink 9 = .ok (.getfield 135, 3) := by decide +kernel
theorem dX10_checkLink_12 : decode cX10_checkLink 12 = .ok (.if_icmp .lt 13, 3) := by decide +kernel
theorem dX10_checkLink_15 : decode cX10_checkLink 15 = .ok (.new 177, 3) := by decide +kernel
theorem dX10_checkLink_18 : decode cX10_checkLink 18 = .ok (.dup, 1) := by decide +kernel
theorem dX10_checkLink_19 : decode cX10_checkLink 19 = .ok (.ldc 199, 2) := by decide +kernel
theorem dX10_checkLink_21 : decode cX10_checkLink 21 = .ok (.invokespecial 181, 3) := by decide +kernel
theorem dX10_checkLink_24 : decode cX10_checkLink 24 = .ok (.athrow, 1) := by decide +kernel
theorem dX10_checkLink_25 : decode cX10_checkLink 25 = .ok (.return_, 1) := by decide +kernel
theorem dX10_checkTunnel_0 : decode cX10_checkTunnel 0 = .ok (.iload_n 1, 1) := by decide +kernel
theorem dX10_checkTunnel_1 : decode cX10_checkTunnel 1 = .ok (.ifCond .lt 14, 3) := by decide +kernel
theorem dX10_checkTunnel_4 : decode cX10_checkTunnel 4 = .ok (.iload_n 1, 1) := by decide +kernel
theorem dX10_checkTunnel_5 : decode cX10_checkTunnel 5 = .ok (.aload_n 0, 1) := by decide +kernel
theorem dX10_checkTunnel_6 : decode cX10_checkTunnel 6 = .ok (.getfield 20, 3) := by decide +kernel
theorem dX10_checkTunnel_9 : decode cX10_checkTunnel 9 = .ok (.getfield 138, 3) := by decide +kernel
theorem dX10_checkTunnel_12 : decode cX10_checkTunnel 12 = .ok (.if_icmp .lt 13, 3) := by decide +kernel
theorem dX10_checkTunnel_15 : decode cX10_checkTunnel 15 = .ok (.new 177, 3) := by decide +kernel
theorem dX10_checkTunnel_18 : decode cX10_checkTunnel 18 = .ok (.dup, 1) := by decide +kernel
theorem dX10_checkTunnel_19 : decode cX10_checkTunnel 19 = .ok (.ldc 201, 2) := by decide +kernel
theorem dX10_checkTunnel_21 : decode cX10_checkTunnel 21 = .ok (.invokespecial 181, 3) := by decide +kernel
theorem dX10_checkTunnel_24 : decode cX10_checkTunnel 24 = .ok (.athrow, 1) := by decide +kernel
theorem dX10_checkTunnel_25 : decode cX10_checkTunnel 25 = .ok (.return_, 1) := by decide +kernel
theorem dX10_checkNodes_0 : decode cX10_checkNodes 0 = .ok (.iload_n 1, 1) := by decide +kernel
theorem dX10_checkNodes_1 : decode cX10_checkNodes 1 = .ok (.ifCond .lt 29, 3) := by decide +kernel
theorem dX10_checkNodes_4 : decode cX10_checkNodes 4 = .ok (.iload_n 1, 1) := by decide +kernel
theorem dX10_checkNodes_5 : decode cX10_checkNodes 5 = .ok (.aload_n 0, 1) := by decide +kernel
theorem dX10_checkNodes_6 : decode cX10_checkNodes 6 = .ok (.getfield 20, 3) := by decide +kernel
theorem dX10_checkNodes_9 : decode cX10_checkNodes 9 = .ok (.getfield 132, 3) := by decide +kernel
theorem dX10_checkNodes_12 : decode cX10_checkNodes 12 = .ok (.if_icmp .ge 18, 3) := by decide +kernel
theorem dX10_checkNodes_15 : decode cX10_checkNodes 15 = .ok (.iload_n 2, 1) := by decide +kernel
theorem dX10_checkNodes_16 : decode cX10_checkNodes 16 = .ok (.ifCond .lt 14, 3) := by decide +kernel
theorem dX10_checkNodes_19 : decode cX10_checkNodes 19 = .ok (.iload_n 2, 1) := by decide +kernel
theorem dX10_checkNodes_20 : decode cX10_checkNodes 20 = .ok (.aload_n 0, 1) := by decide +kernel
theorem dX10_checkNodes_21 : decode cX10_checkNodes 21 = .ok (.getfield 20, 3) := by decide +kernel
theorem dX10_checkNodes_24 : decode cX10_checkNodes 24 = .ok (.getfield 132, 3) := by decide +kernel
theorem dX10_checkNodes_27 : decode cX10_checkNodes 27 = .ok (.if_icmp .lt 13, 3) := by decide +kernel
theorem dX10_checkNodes_30 : decode cX10_checkNodes 30 = .ok (.new 177, 3) := by decide +kernel
theorem dX10_checkNodes_33 : decode cX10_checkNodes 33 = .ok (.dup, 1) := by decide +kernel
theorem dX10_checkNodes_34 : decode cX10_checkNodes 34 = .ok (.ldc 203, 2) := by decide +kernel
theorem dX10_checkNodes_36 : decode cX10_checkNodes 36 = .ok (.invokespecial 181, 3) := by decide +kernel
theorem dX10_checkNodes_39 : decode cX10_checkNodes 39 = .ok (.athrow, 1) := by decide +kernel
theorem dX10_checkNodes_40 : decode cX10_checkNodes 40 = .ok (.return_, 1) := by decide +kernel
theorem dX10_checkUnlike_0 : decode cX10_checkUnlike 0 = .ok (.iload_n 0, 1) := by decide +kernel
theorem dX10_checkUnlike_1 : decode cX10_checkUnlike 1 = .ok (.iload_n 1, 1) := by decide +kernel
theorem dX10_checkUnlike_2 : decode cX10_checkUnlike 2 = .ok (.if_icmp .ne 13, 3) := by decide +kernel
theorem dX10_checkUnlike_5 : decode cX10_checkUnlike 5 = .ok (.new 101, 3) := by decide +kernel
theorem dX10_checkUnlike_8 : decode cX10_checkUnlike 8 = .ok (.dup, 1) := by decide +kernel
theorem dX10_checkUnlike_9 : decode cX10_checkUnlike 9 = .ok (.ldc 205, 2) := by decide +kernel
theorem dX10_checkUnlike_11 : decode cX10_checkUnlike 11 = .ok (.invokespecial 105, 3) := by decide +kernel
theorem dX10_checkUnlike_14 : decode cX10_checkUnlike 14 = .ok (.athrow, 1) := by decide +kernel
theorem dX10_checkUnlike_15 : decode cX10_checkUnlike 15 = .ok (.return_, 1) := by decide +kernel
theorem dX10_isPriority_0 : decode cX10_isPriority 0 = .ok (.iload_n 0, 1) := by decide +kernel
theorem dX10_isPriority_1 : decode cX10_isPriority 1 = .ok (.ifCond .lt 13, 3) := by decide +kernel
theorem dX10_isPriority_4 : decode cX10_isPriority 4 = .ok (.iload_n 0, 1) := by decide +kernel
theorem dX10_isPriority_5 : decode cX10_isPriority 5 = .ok (.bipush 7, 2) := by decide +kernel
theorem dX10_isPriority_7 : decode cX10_isPriority 7 = .ok (.if_icmp .gt 7, 3) := by decide +kernel
theorem dX10_isPriority_10 : decode cX10_isPriority 10 = .ok (.iconst 1, 1) := by decide +kernel
theorem dX10_isPriority_11 : decode cX10_isPriority 11 = .ok (.goto 4, 3) := by decide +kernel
theorem dX10_isPriority_14 : decode cX10_isPriority 14 = .ok (.iconst 0, 1) := by decide +kernel
theorem dX10_isPriority_15 : decode cX10_isPriority 15 = .ok (.ireturn, 1) := by decide +kernel
theorem dX10_isAmount_0 : decode cX10_isAmount 0 = .ok (.iload_n 0, 1) := by decide +kernel
theorem dX10_isAmount_1 : decode cX10_isAmount 1 = .ok (.iconst 1, 1) := by decide +kernel
theorem dX10_isAmount_2 : decode cX10_isAmount 2 = .ok (.if_icmp .lt 13, 3) := by decide +kernel
theorem dX10_isAmount_5 : decode cX10_isAmount 5 = .ok (.iload_n 0, 1) := by decide +kernel
theorem dX10_isAmount_6 : decode cX10_isAmount 6 = .ok (.bipush 99, 2) := by decide +kernel
theorem dX10_isAmount_8 : decode cX10_isAmount 8 = .ok (.if_icmp .gt 7, 3) := by decide +kernel
theorem dX10_isAmount_11 : decode cX10_isAmount 11 = .ok (.iconst 1, 1) := by decide +kernel
theorem dX10_isAmount_12 : decode cX10_isAmount 12 = .ok (.goto 4, 3) := by decide +kernel
theorem dX10_isAmount_15 : decode cX10_isAmount 15 = .ok (.iconst 0, 1) := by decide +kernel
theorem dX10_isAmount_16 : decode cX10_isAmount 16 = .ok (.ireturn, 1) := by decide +kernel
theorem dX10_checkPriority_0 : decode cX10_checkPriority 0 = .ok (.iload_n 0, 1) := by decide +kernel
theorem dX10_checkPriority_1 : decode cX10_checkPriority 1 = .ok (.invokestatic 207, 3) := by decide +kernel
theorem dX10_checkPriority_4 : decode cX10_checkPriority 4 = .ok (.ifCond .ne 13, 3) := by decide +kernel
theorem dX10_checkPriority_7 : decode cX10_checkPriority 7 = .ok (.new 101, 3) := by decide +kernel
theorem dX10_checkPriority_10 : decode cX10_checkPriority 10 = .ok (.dup, 1) := by decide +kernel
theorem dX10_checkPriority_11 : decode cX10_checkPriority 11 = .ok (.ldc 211, 2) := by decide +kernel
theorem dX10_checkPriority_13 : decode cX10_checkPriority 13 = .ok (.invokespecial 105, 3) := by decide +kernel
theorem dX10_checkPriority_16 : decode cX10_checkPriority 16 = .ok (.athrow, 1) := by decide +kernel
theorem dX10_checkPriority_17 : decode cX10_checkPriority 17 = .ok (.return_, 1) := by decide +kernel
theorem dX10_checkPlace_0 : decode cX10_checkPlace 0 = .ok (.iload_n 0, 1) := by decide +kernel
theorem dX10_checkPlace_1 : decode cX10_checkPlace 1 = .ok (.ifCond .ge 13, 3) := by decide +kernel
theorem dX10_checkPlace_4 : decode cX10_checkPlace 4 = .ok (.new 177, 3) := by decide +kernel
theorem dX10_checkPlace_7 : decode cX10_checkPlace 7 = .ok (.dup, 1) := by decide +kernel
theorem dX10_checkPlace_8 : decode cX10_checkPlace 8 = .ok (.ldc 213, 2) := by decide +kernel
theorem dX10_checkPlace_10 : decode cX10_checkPlace 10 = .ok (.invokespecial 181, 3) := by decide +kernel
theorem dX10_checkPlace_13 : decode cX10_checkPlace 13 = .ok (.athrow, 1) := by decide +kernel
theorem dX10_checkPlace_14 : decode cX10_checkPlace 14 = .ok (.return_, 1) := by decide +kernel
theorem dX10_link_0 : decode cX10_link 0 = .ok (.aload_n 0, 1) := by decide +kernel
theorem dX10_link_1 : decode cX10_link 1 = .ok (.iload_n 1, 1) := by decide +kernel
theorem dX10_link_2 : decode cX10_link 2 = .ok (.invokevirtual 215, 3) := by decide +kernel
theorem dX10_link_5 : decode cX10_link 5 = .ok (.iload_n 2, 1) := by decide +kernel
theorem dX10_link_6 : decode cX10_link 6 = .ok (.tableswitch 126 0 7 #[46, 56, 66, 76, 86, 96, 108, 117], 46) := by decide +kernel
theorem dX10_link_52 : decode cX10_link 52 = .ok (.aload_n 0, 1) := by decide +kernel
theorem dX10_link_53 : decode cX10_link 53 = .ok (.getfield 20, 3) := by decide +kernel
theorem dX10_link_56 : decode cX10_link 56 = .ok (.getfield 218, 3) := by decide +kernel
theorem dX10_link_59 : decode cX10_link 59 = .ok (.iload_n 1, 1) := by decide +kernel
theorem dX10_link_60 : decode cX10_link 60 = .ok (.iaload, 1) := by decide +kernel
theorem dX10_link_61 : decode cX10_link 61 = .ok (.ireturn, 1) := by decide +kernel
theorem dX10_link_62 : decode cX10_link 62 = .ok (.aload_n 0, 1) := by decide +kernel
theorem dX10_link_63 : decode cX10_link 63 = .ok (.getfield 20, 3) := by decide +kernel
theorem dX10_link_66 : decode cX10_link 66 = .ok (.getfield 222, 3) := by decide +kernel
theorem dX10_link_69 : decode cX10_link 69 = .ok (.iload_n 1, 1) := by decide +kernel
theorem dX10_link_70 : decode cX10_link 70 = .ok (.iaload, 1) := by decide +kernel
theorem dX10_link_71 : decode cX10_link 71 = .ok (.ireturn, 1) := by decide +kernel
theorem dX10_link_72 : decode cX10_link 72 = .ok (.aload_n 0, 1) := by decide +kernel
theorem dX10_link_73 : decode cX10_link 73 = .ok (.getfield 20, 3) := by decide +kernel
theorem dX10_link_76 : decode cX10_link 76 = .ok (.getfield 225, 3) := by decide +kernel
theorem dX10_link_79 : decode cX10_link 79 = .ok (.iload_n 1, 1) := by decide +kernel
theorem dX10_link_80 : decode cX10_link 80 = .ok (.iaload, 1) := by decide +kernel
theorem dX10_link_81 : decode cX10_link 81 = .ok (.ireturn, 1) := by decide +kernel
theorem dX10_link_82 : decode cX10_link 82 = .ok (.aload_n 0, 1) := by decide +kernel
theorem dX10_link_83 : decode cX10_link 83 = .ok (.getfield 20, 3) := by decide +kernel
theorem dX10_link_86 : decode cX10_link 86 = .ok (.getfield 228, 3) := by decide +kernel
theorem dX10_link_89 : decode cX10_link 89 = .ok (.iload_n 1, 1) := by decide +kernel
theorem dX10_link_90 : decode cX10_link 90 = .ok (.iaload, 1) := by decide +kernel
theorem dX10_link_91 : decode cX10_link 91 = .ok (.ireturn, 1) := by decide +kernel
theorem dX10_link_92 : decode cX10_link 92 = .ok (.aload_n 0, 1) := by decide +kernel
theorem dX10_link_93 : decode cX10_link 93 = .ok (.getfield 20, 3) := by decide +kernel
theorem dX10_link_96 : decode cX10_link 96 = .ok (.getfield 231, 3) := by decide +kernel
theorem dX10_link_99 : decode cX10_link 99 = .ok (.iload_n 1, 1) := by decide +kernel
theorem dX10_link_100 : decode cX10_link 100 = .ok (.iaload, 1) := by decide +kernel
theorem dX10_link_101 : decode cX10_link 101 = .ok (.ireturn, 1) := by decide +kernel
theorem dX10_link_102 : decode cX10_link 102 = .ok (.aload_n 0, 1) := by decide +kernel
theorem dX10_link_103 : decode cX10_link 103 = .ok (.getfield 46, 3) := by decide +kernel
theorem dX10_link_106 : decode cX10_link 106 = .ok (.getfield 145, 3) := by decide +kernel
theorem dX10_link_109 : decode cX10_link 109 = .ok (.iload_n 1, 1) := by decide +kernel
theorem dX10_link_110 : decode cX10_link 110 = .ok (.iushr, 1) := by decide +kernel
theorem dX10_link_111 : decode cX10_link 111 = .ok (.iconst 1, 1) := by decide +kernel
theorem dX10_link_112 : decode cX10_link 112 = .ok (.iand, 1) := by decide +kernel
theorem dX10_link_113 : decode cX10_link 113 = .ok (.ireturn, 1) := by decide +kernel
theorem dX10_link_114 : decode cX10_link 114 = .ok (.aload_n 0, 1) := by decide +kernel
theorem dX10_link_115 : decode cX10_link 115 = .ok (.getfield 58, 3) := by decide +kernel
theorem dX10_link_118 : decode cX10_link 118 = .ok (.iload_n 1, 1) := by decide +kernel
theorem dX10_link_119 : decode cX10_link 119 = .ok (.invokevirtual 234, 3) := by decide +kernel
theorem dX10_link_122 : decode cX10_link 122 = .ok (.ireturn, 1) := by decide +kernel
theorem dX10_link_123 : decode cX10_link 123 = .ok (.aload_n 0, 1) := by decide +kernel
theorem dX10_link_124 : decode cX10_link 124 = .ok (.getfield 58, 3) := by decide +kernel
theorem dX10_link_127 : decode cX10_link 127 = .ok (.iload_n 1, 1) := by decide +kernel
theorem dX10_link_128 : decode cX10_link 128 = .ok (.invokevirtual 182, 3) := by decide +kernel
theorem dX10_link_131 : decode cX10_link 131 = .ok (.ireturn, 1) := by decide +kernel
theorem dX10_link_132 : decode cX10_link 132 = .ok (.new 177, 3) := by decide +kernel
theorem dX10_link_135 : decode cX10_link 135 = .ok (.dup, 1) := by decide +kernel
theorem dX10_link_136 : decode cX10_link 136 = .ok (.ldc 237, 2) := by decide +kernel
theorem dX10_link_138 : decode cX10_link 138 = .ok (.invokespecial 181, 3) := by decide +kernel
theorem dX10_link_141 : decode cX10_link 141 = .ok (.athrow, 1) := by decide +kernel
theorem dX10_pool_0 : decode cX10_pool 0 = .ok (.aload_n 0, 1) := by decide +kernel
theorem dX10_pool_1 : decode cX10_pool 1 = .ok (.iload_n 1, 1) := by decide +kernel
theorem dX10_pool_2 : decode cX10_pool 2 = .ok (.invokevirtual 215, 3) := by decide +kernel
theorem dX10_pool_5 : decode cX10_pool 5 = .ok (.iload_n 2, 1) := by decide +kernel
theorem dX10_pool_6 : decode cX10_pool 6 = .ok (.invokestatic 239, 3) := by decide +kernel
theorem dX10_pool_9 : decode cX10_pool 9 = .ok (.aload_n 0, 1) := by decide +kernel
theorem dX10_pool_10 : decode cX10_pool 10 = .ok (.getfield 58, 3) := by decide +kernel
theorem dX10_pool_13 : decode cX10_pool 13 = .ok (.iconst (-1), 1) := by decide +kernel
theorem dX10_pool_14 : decode cX10_pool 14 = .ok (.iload_n 1, 1) := by decide +kernel
theorem dX10_pool_15 : decode cX10_pool 15 = .ok (.iload_n 2, 1) := by decide +kernel
theorem dX10_pool_16 : decode cX10_pool 16 = .ok (.invokevirtual 242, 3) := by decide +kernel
theorem dX10_pool_19 : decode cX10_pool 19 = .ok (.ireturn, 1) := by decide +kernel
theorem dX10_tunnel_0 : decode cX10_tunnel 0 = .ok (.aload_n 0, 1) := by decide +kernel
theorem dX10_tunnel_1 : decode cX10_tunnel 1 = .ok (.iload_n 1, 1) := by decide +kernel
theorem dX10_tunnel_2 : decode cX10_tunnel 2 = .ok (.invokevirtual 246, 3) := by decide +kernel
theorem dX10_tunnel_5 : decode cX10_tunnel 5 = .ok (.aload_n 0, 1) := by decide +kernel
theorem dX10_tunnel_6 : decode cX10_tunnel 6 = .ok (.getfield 46, 3) := by decide +kernel
theorem dX10_tunnel_9 : decode cX10_tunnel 9 = .ok (.getfield 249, 3) := by decide +kernel
theorem dX10_tunnel_12 : decode cX10_tunnel 12 = .ok (.iload_n 1, 1) := by decide +kernel
theorem dX10_tunnel_13 : decode cX10_tunnel 13 = .ok (.iaload, 1) := by decide +kernel
theorem dX10_tunnel_14 : decode cX10_tunnel 14 = .ok (.istore_n 3, 1) := by decide +kernel
theorem dX10_tunnel_15 : decode cX10_tunnel 15 = .ok (.iload_n 2, 1) := by decide +kernel
theorem dX10_tunnel_16 : decode cX10_tunnel 16 = .ok (.tableswitch 196 0 10 #[60, 70, 80, 90, 100, 110, 120, 130, 140, 153, 170], 60) := by decide +kernel
theorem dX10_tunnel_76 : decode cX10_tunnel 76 = .ok (.aload_n 0, 1) := by decide +kernel
theorem dX10_tunnel_77 : decode cX10_tunnel 77 = .ok (.getfield 20, 3) := by decide +kernel
theorem dX10_tunnel_80 : decode cX10_tunnel 80 = .ok (.getfield 252, 3) := by decide +kernel
theorem dX10_tunnel_83 : decode cX10_tunnel 83 = .ok (.iload_n 1, 1) := by decide +kernel
theorem dX10_tunnel_84 : decode cX10_tunnel 84 = .ok (.iaload, 1) := by decide +kernel
theorem dX10_tunnel_85 : decode cX10_tunnel 85 = .ok (.ireturn, 1) := by decide +kernel
theorem dX10_tunnel_86 : decode cX10_tunnel 86 = .ok (.aload_n 0, 1) := by decide +kernel
theorem dX10_tunnel_87 : decode cX10_tunnel 87 = .ok (.getfield 20, 3) := by decide +kernel
theorem dX10_tunnel_90 : decode cX10_tunnel 90 = .ok (.getfield 255, 3) := by decide +kernel
theorem dX10_tunnel_93 : decode cX10_tunnel 93 = .ok (.iload_n 1, 1) := by decide +kernel
theorem dX10_tunnel_94 : decode cX10_tunnel 94 = .ok (.iaload, 1) := by decide +kernel
theorem dX10_tunnel_95 : decode cX10_tunnel 95 = .ok (.ireturn, 1) := by decide +kernel
theorem dX10_tunnel_96 : decode cX10_tunnel 96 = .ok (.aload_n 0, 1) := by decide +kernel
theorem dX10_tunnel_97 : decode cX10_tunnel 97 = .ok (.getfield 46, 3) := by decide +kernel
theorem dX10_tunnel_100 : decode cX10_tunnel 100 = .ok (.getfield 258, 3) := by decide +kernel
theorem dX10_tunnel_103 : decode cX10_tunnel 103 = .ok (.iload_n 1, 1) := by decide +kernel
theorem dX10_tunnel_104 : decode cX10_tunnel 104 = .ok (.iaload, 1) := by decide +kernel
theorem dX10_tunnel_105 : decode cX10_tunnel 105 = .ok (.ireturn, 1) := by decide +kernel
theorem dX10_tunnel_106 : decode cX10_tunnel 106 = .ok (.aload_n 0, 1) := by decide +kernel
theorem dX10_tunnel_107 : decode cX10_tunnel 107 = .ok (.getfield 20, 3) := by decide +kernel
theorem dX10_tunnel_110 : decode cX10_tunnel 110 = .ok (.getfield 261, 3) := by decide +kernel
theorem dX10_tunnel_113 : decode cX10_tunnel 113 = .ok (.iload_n 1, 1) := by decide +kernel
theorem dX10_tunnel_114 : decode cX10_tunnel 114 = .ok (.iaload, 1) := by decide +kernel
theorem dX10_tunnel_115 : decode cX10_tunnel 115 = .ok (.ireturn, 1) := by decide +kernel
theorem dX10_tunnel_116 : decode cX10_tunnel 116 = .ok (.aload_n 0, 1) := by decide +kernel
theorem dX10_tunnel_117 : decode cX10_tunnel 117 = .ok (.getfield 20, 3) := by decide +kernel
theorem dX10_tunnel_120 : decode cX10_tunnel 120 = .ok (.getfield 264, 3) := by decide +kernel
theorem dX10_tunnel_123 : decode cX10_tunnel 123 = .ok (.iload_n 1, 1) := by decide +kernel
theorem dX10_tunnel_124 : decode cX10_tunnel 124 = .ok (.iaload, 1) := by decide +kernel
theorem dX10_tunnel_125 : decode cX10_tunnel 125 = .ok (.ireturn, 1) := by decide +kernel
theorem dX10_tunnel_126 : decode cX10_tunnel 126 = .ok (.aload_n 0, 1) := by decide +kernel
theorem dX10_tunnel_127 : decode cX10_tunnel 127 = .ok (.getfield 20, 3) := by decide +kernel
theorem dX10_tunnel_130 : decode cX10_tunnel 130 = .ok (.getfield 267, 3) := by decide +kernel
theorem dX10_tunnel_133 : decode cX10_tunnel 133 = .ok (.iload_n 1, 1) := by decide +kernel
theorem dX10_tunnel_134 : decode cX10_tunnel 134 = .ok (.iaload, 1) := by decide +kernel
theorem dX10_tunnel_135 : decode cX10_tunnel 135 = .ok (.ireturn, 1) := by decide +kernel
theorem dX10_tunnel_136 : decode cX10_tunnel 136 = .ok (.aload_n 0, 1) := by decide +kernel
theorem dX10_tunnel_137 : decode cX10_tunnel 137 = .ok (.getfield 20, 3) := by decide +kernel
theorem dX10_tunnel_140 : decode cX10_tunnel 140 = .ok (.getfield 270, 3) := by decide +kernel
theorem dX10_tunnel_143 : decode cX10_tunnel 143 = .ok (.iload_n 1, 1) := by decide +kernel
theorem dX10_tunnel_144 : decode cX10_tunnel 144 = .ok (.iaload, 1) := by decide +kernel
theorem dX10_tunnel_145 : decode cX10_tunnel 145 = .ok (.ireturn, 1) := by decide +kernel
theorem dX10_tunnel_146 : decode cX10_tunnel 146 = .ok (.iload_n 3, 1) := by decide +kernel
theorem dX10_tunnel_147 : decode cX10_tunnel 147 = .ok (.ifCond .eq 7, 3) := by decide +kernel
theorem dX10_tunnel_150 : decode cX10_tunnel 150 = .ok (.iconst 1, 1) := by decide +kernel
theorem dX10_tunnel_151 : decode cX10_tunnel 151 = .ok (.goto 4, 3) := by decide +kernel
theorem dX10_tunnel_154 : decode cX10_tunnel 154 = .ok (.iconst 0, 1) := by decide +kernel
theorem dX10_tunnel_155 : decode cX10_tunnel 155 = .ok (.ireturn, 1) := by decide +kernel
theorem dX10_tunnel_156 : decode cX10_tunnel 156 = .ok (.iload_n 3, 1) := by decide +kernel
theorem dX10_tunnel_157 : decode cX10_tunnel 157 = .ok (.ifCond .eq 10, 3) := by decide +kernel
theorem dX10_tunnel_160 : decode cX10_tunnel 160 = .ok (.iload_n 3, 1) := by decide +kernel
theorem dX10_tunnel_161 : decode cX10_tunnel 161 = .ok (.invokestatic 194, 3) := by decide +kernel
theorem dX10_tunnel_164 : decode cX10_tunnel 164 = .ok (.goto 4, 3) := by decide +kernel
theorem dX10_tunnel_167 : decode cX10_tunnel 167 = .ok (.iconst (-1), 1) := by decide +kernel
theorem dX10_tunnel_168 : decode cX10_tunnel 168 = .ok (.ireturn, 1) := by decide +kernel
theorem dX10_tunnel_169 : decode cX10_tunnel 169 = .ok (.iload_n 3, 1) := by decide +kernel
theorem dX10_tunnel_170 : decode cX10_tunnel 170 = .ok (.ifCond .eq 14, 3) := by decide +kernel
theorem dX10_tunnel_173 : decode cX10_tunnel 173 = .ok (.aload_n 0, 1) := by decide +kernel
theorem dX10_tunnel_174 : decode cX10_tunnel 174 = .ok (.getfield 20, 3) := by decide +kernel
theorem dX10_tunnel_177 : decode cX10_tunnel 177 = .ok (.iload_n 3, 1) := by decide +kernel
theorem dX10_tunnel_178 : decode cX10_tunnel 178 = .ok (.invokevirtual 273, 3) := by decide +kernel
theorem dX10_tunnel_181 : decode cX10_tunnel 181 = .ok (.goto 4, 3) := by decide +kernel
theorem dX10_tunnel_184 : decode cX10_tunnel 184 = .ok (.iconst (-1), 1) := by decide +kernel
theorem dX10_tunnel_185 : decode cX10_tunnel 185 = .ok (.ireturn, 1) := by decide +kernel
theorem dX10_tunnel_186 : decode cX10_tunnel 186 = .ok (.iload_n 3, 1) := by decide +kernel
theorem dX10_tunnel_187 : decode cX10_tunnel 187 = .ok (.ifCond .eq 23, 3) := by decide +kernel
theorem dX10_tunnel_190 : decode cX10_tunnel 190 = .ok (.aload_n 0, 1) := by decide +kernel
theorem dX10_tunnel_191 : decode cX10_tunnel 191 = .ok (.getfield 20, 3) := by decide +kernel
theorem dX10_tunnel_194 : decode cX10_tunnel 194 = .ok (.iload_n 3, 1) := by decide +kernel
theorem dX10_tunnel_195 : decode cX10_tunnel 195 = .ok (.invokevirtual 273, 3) := by decide +kernel
theorem dX10_tunnel_198 : decode cX10_tunnel 198 = .ok (.aload_n 0, 1) := by decide +kernel
theorem dX10_tunnel_199 : decode cX10_tunnel 199 = .ok (.getfield 58, 3) := by decide +kernel
theorem dX10_tunnel_202 : decode cX10_tunnel 202 = .ok (.iload_n 1, 1) := by decide +kernel
theorem dX10_tunnel_203 : decode cX10_tunnel 203 = .ok (.invokevirtual 276, 3) := by decide +kernel
theorem dX10_tunnel_206 : decode cX10_tunnel 206 = .ok (.isub, 1) := by decide +kernel
theorem dX10_tunnel_207 : decode cX10_tunnel 207 = .ok (.goto 4, 3) := by decide +kernel
theorem dX10_tunnel_210 : decode cX10_tunnel 210 = .ok (.iconst (-1), 1) := by decide +kernel
theorem dX10_tunnel_211 : decode cX10_tunnel 211 = .ok (.ireturn, 1) := by decide +kernel
theorem dX10_tunnel_212 : decode cX10_tunnel 212 = .ok (.new 177, 3) := by decide +kernel
theorem dX10_tunnel_215 : decode cX10_tunnel 215 = .ok (.dup, 1) := by decide +kernel
theorem dX10_tunnel_216 : decode cX10_tunnel 216 = .ok (.ldc_w 279, 3) := by decide +kernel
theorem dX10_tunnel_219 : decode cX10_tunnel 219 = .ok (.invokespecial 181, 3) := by decide +kernel
theorem dX10_tunnel_222 : decode cX10_tunnel 222 = .ok (.athrow, 1) := by decide +kernel
theorem dX10_way_0 : decode cX10_way 0 = .ok (.aload_n 0, 1) := by decide +kernel
theorem dX10_way_1 : decode cX10_way 1 = .ok (.iload_n 1, 1) := by decide +kernel
theorem dX10_way_2 : decode cX10_way 2 = .ok (.invokevirtual 246, 3) := by decide +kernel
theorem dX10_way_5 : decode cX10_way 5 = .ok (.iload_n 2, 1) := by decide +kernel
theorem dX10_way_6 : decode cX10_way 6 = .ok (.invokestatic 281, 3) := by decide +kernel
theorem dX10_way_9 : decode cX10_way 9 = .ok (.aload_n 0, 1) := by decide +kernel
theorem dX10_way_10 : decode cX10_way 10 = .ok (.getfield 20, 3) := by decide +kernel
theorem dX10_way_13 : decode cX10_way 13 = .ok (.aload_n 0, 1) := by decide +kernel
theorem dX10_way_14 : decode cX10_way 14 = .ok (.getfield 46, 3) := by decide +kernel
theorem dX10_way_17 : decode cX10_way 17 = .ok (.getfield 249, 3) := by decide +kernel
theorem dX10_way_20 : decode cX10_way 20 = .ok (.iload_n 1, 1) := by decide +kernel
theorem dX10_way_21 : decode cX10_way 21 = .ok (.iaload, 1) := by decide +kernel
theorem dX10_way_22 : decode cX10_way 22 = .ok (.aload_n 0, 1) := by decide +kernel
theorem dX10_way_23 : decode cX10_way 23 = .ok (.getfield 20, 3) := by decide +kernel
theorem dX10_way_26 : decode cX10_way 26 = .ok (.getfield 252, 3) := by decide +kernel
theorem dX10_way_29 : decode cX10_way 29 = .ok (.iload_n 1, 1) := by decide +kernel
theorem dX10_way_30 : decode cX10_way 30 = .ok (.iaload, 1) := by decide +kernel
theorem dX10_way_31 : decode cX10_way 31 = .ok (.iload_n 2, 1) := by decide +kernel
theorem dX10_way_32 : decode cX10_way 32 = .ok (.invokevirtual 284, 3) := by decide +kernel
theorem dX10_way_35 : decode cX10_way 35 = .ok (.istore_n 3, 1) := by decide +kernel
theorem dX10_way_36 : decode cX10_way 36 = .ok (.iload_n 3, 1) := by decide +kernel
theorem dX10_way_37 : decode cX10_way 37 = .ok (.iconst (-1), 1) := by decide +kernel
theorem dX10_way_38 : decode cX10_way 38 = .ok (.if_icmp .ne 14, 3) := by decide +kernel
theorem dX10_way_41 : decode cX10_way 41 = .ok (.new 177, 3) := by decide +kernel
theorem dX10_way_44 : decode cX10_way 44 = .ok (.dup, 1) := by decide +kernel
theorem dX10_way_45 : decode cX10_way 45 = .ok (.ldc_w 287, 3) := by decide +kernel
theorem dX10_way_48 : decode cX10_way 48 = .ok (.invokespecial 181, 3) := by decide +kernel
theorem dX10_way_51 : decode cX10_way 51 = .ok (.athrow, 1) := by decide +kernel
theorem dX10_way_52 : decode cX10_way 52 = .ok (.iload_n 3, 1) := by decide +kernel
theorem dX10_way_53 : decode cX10_way 53 = .ok (.ireturn, 1) := by decide +kernel
theorem dX10_best_0 : decode cX10_best 0 = .ok (.aload_n 0, 1) := by decide +kernel
theorem dX10_best_1 : decode cX10_best 1 = .ok (.iload_n 1, 1) := by decide +kernel
theorem dX10_best_2 : decode cX10_best 2 = .ok (.invokevirtual 246, 3) := by decide +kernel
theorem dX10_best_5 : decode cX10_best 5 = .ok (.iload_n 2, 1) := by decide +kernel
theorem dX10_best_6 : decode cX10_best 6 = .ok (.invokestatic 281, 3) := by decide +kernel
theorem dX10_best_9 : decode cX10_best 9 = .ok (.aload_n 0, 1) := by decide +kernel
theorem dX10_best_10 : decode cX10_best 10 = .ok (.getfield 20, 3) := by decide +kernel
theorem dX10_best_13 : decode cX10_best 13 = .ok (.aload_n 0, 1) := by decide +kernel
theorem dX10_best_14 : decode cX10_best 14 = .ok (.getfield 58, 3) := by decide +kernel
theorem dX10_best_17 : decode cX10_best 17 = .ok (.iload_n 1, 1) := by decide +kernel
theorem dX10_best_18 : decode cX10_best 18 = .ok (.invokevirtual 289, 3) := by decide +kernel
theorem dX10_best_21 : decode cX10_best 21 = .ok (.aload_n 0, 1) := by decide +kernel
theorem dX10_best_22 : decode cX10_best 22 = .ok (.getfield 20, 3) := by decide +kernel
theorem dX10_best_25 : decode cX10_best 25 = .ok (.getfield 252, 3) := by decide +kernel
theorem dX10_best_28 : decode cX10_best 28 = .ok (.iload_n 1, 1) := by decide +kernel
theorem dX10_best_29 : decode cX10_best 29 = .ok (.iaload, 1) := by decide +kernel
theorem dX10_best_30 : decode cX10_best 30 = .ok (.iload_n 2, 1) := by decide +kernel
theorem dX10_best_31 : decode cX10_best 31 = .ok (.invokevirtual 284, 3) := by decide +kernel
theorem dX10_best_34 : decode cX10_best 34 = .ok (.ireturn, 1) := by decide +kernel
theorem dX10_pushes_0 : decode cX10_pushes 0 = .ok (.aload_n 0, 1) := by decide +kernel
theorem dX10_pushes_1 : decode cX10_pushes 1 = .ok (.iload_n 1, 1) := by decide +kernel
theorem dX10_pushes_2 : decode cX10_pushes 2 = .ok (.invokevirtual 246, 3) := by decide +kernel
theorem dX10_pushes_5 : decode cX10_pushes 5 = .ok (.iload_n 2, 1) := by decide +kernel
theorem dX10_pushes_6 : decode cX10_pushes 6 = .ok (.ifCond .eq 19, 3) := by decide +kernel
theorem dX10_pushes_9 : decode cX10_pushes 9 = .ok (.iload_n 2, 1) := by decide +kernel
theorem dX10_pushes_10 : decode cX10_pushes 10 = .ok (.iconst 1, 1) := by decide +kernel
theorem dX10_pushes_11 : decode cX10_pushes 11 = .ok (.if_icmp .eq 14, 3) := by decide +kernel
theorem dX10_pushes_14 : decode cX10_pushes 14 = .ok (.new 177, 3) := by decide +kernel
theorem dX10_pushes_17 : decode cX10_pushes 17 = .ok (.dup, 1) := by decide +kernel
theorem dX10_pushes_18 : decode cX10_pushes 18 = .ok (.ldc_w 292, 3) := by decide +kernel
theorem dX10_pushes_21 : decode cX10_pushes 21 = .ok (.invokespecial 181, 3) := by decide +kernel
theorem dX10_pushes_24 : decode cX10_pushes 24 = .ok (.athrow, 1) := by decide +kernel
theorem dX10_pushes_25 : decode cX10_pushes 25 = .ok (.aload_n 0, 1) := by decide +kernel
theorem dX10_pushes_26 : decode cX10_pushes 26 = .ok (.getfield 58, 3) := by decide +kernel
theorem dX10_pushes_29 : decode cX10_pushes 29 = .ok (.iload_n 1, 1) := by decide +kernel
theorem dX10_pushes_30 : decode cX10_pushes 30 = .ok (.invokevirtual 289, 3) := by decide +kernel
theorem dX10_pushes_33 : decode cX10_pushes 33 = .ok (.istore_n 3, 1) := by decide +kernel
theorem dX10_pushes_34 : decode cX10_pushes 34 = .ok (.iload_n 3, 1) := by decide +kernel
theorem dX10_pushes_35 : decode cX10_pushes 35 = .ok (.ifCond .ne 5, 3) := by decide +kernel
theorem dX10_pushes_38 : decode cX10_pushes 38 = .ok (.iconst (-1), 1) := by decide +kernel
theorem dX10_pushes_39 : decode cX10_pushes 39 = .ok (.ireturn, 1) := by decide +kernel
theorem dX10_pushes_40 : decode cX10_pushes 40 = .ok (.aload_n 0, 1) := by decide +kernel
theorem dX10_pushes_41 : decode cX10_pushes 41 = .ok (.getfield 58, 3) := by decide +kernel
theorem dX10_pushes_44 : decode cX10_pushes 44 = .ok (.invokevirtual 141, 3) := by decide +kernel
theorem dX10_pushes_47 : decode cX10_pushes 47 = .ok (.iconst 1, 1) := by decide +kernel
theorem dX10_pushes_48 : decode cX10_pushes 48 = .ok (.iload_n 1, 1) := by decide +kernel
theorem dX10_pushes_49 : decode cX10_pushes 49 = .ok (.ishl, 1) := by decide +kernel
theorem dX10_pushes_50 : decode cX10_pushes 50 = .ok (.iconst (-1), 1) := by decide +kernel
theorem dX10_pushes_51 : decode cX10_pushes 51 = .ok (.ixor, 1) := by decide +kernel
theorem dX10_pushes_52 : decode cX10_pushes 52 = .ok (.iand, 1) := by decide +kernel
theorem dX10_pushes_53 : decode cX10_pushes 53 = .ok (.istore 4, 2) := by decide +kernel
theorem dX10_pushes_55 : decode cX10_pushes 55 = .ok (.aload_n 0, 1) := by decide +kernel
theorem dX10_pushes_56 : decode cX10_pushes 56 = .ok (.getfield 50, 3) := by decide +kernel
theorem dX10_pushes_59 : decode cX10_pushes 59 = .ok (.aload_n 0, 1) := by decide +kernel
theorem dX10_pushes_60 : decode cX10_pushes 60 = .ok (.getfield 46, 3) := by decide +kernel
theorem dX10_pushes_63 : decode cX10_pushes 63 = .ok (.invokevirtual 185, 3) := by decide +kernel
theorem dX10_pushes_66 : decode cX10_pushes 66 = .ok (.aload_n 0, 1) := by decide +kernel
theorem dX10_pushes_67 : decode cX10_pushes 67 = .ok (.getfield 46, 3) := by decide +kernel
theorem dX10_pushes_70 : decode cX10_pushes 70 = .ok (.getfield 249, 3) := by decide +kernel
theorem dX10_pushes_73 : decode cX10_pushes 73 = .ok (.iload_n 1, 1) := by decide +kernel
theorem dX10_pushes_74 : decode cX10_pushes 74 = .ok (.iload_n 3, 1) := by decide +kernel
theorem dX10_pushes_75 : decode cX10_pushes 75 = .ok (.iastore, 1) := by decide +kernel
theorem dX10_pushes_76 : decode cX10_pushes 76 = .ok (.aload_n 0, 1) := by decide +kernel
theorem dX10_pushes_77 : decode cX10_pushes 77 = .ok (.getfield 58, 3) := by decide +kernel
theorem dX10_pushes_80 : decode cX10_pushes 80 = .ok (.iload_n 1, 1) := by decide +kernel
theorem dX10_pushes_81 : decode cX10_pushes 81 = .ok (.invokevirtual 294, 3) := by decide +kernel
theorem dX10_pushes_84 : decode cX10_pushes 84 = .ok (.istore 5, 2) := by decide +kernel
theorem dX10_pushes_86 : decode cX10_pushes 86 = .ok (.aload_n 0, 1) := by decide +kernel
theorem dX10_pushes_87 : decode cX10_pushes 87 = .ok (.getfield 58, 3) := by decide +kernel
theorem dX10_pushes_90 : decode cX10_pushes 90 = .ok (.iload 5, 2) := by decide +kernel
theorem dX10_pushes_92 : decode cX10_pushes 92 = .ok (.invokevirtual 297, 3) := by decide +kernel
theorem dX10_pushes_95 : decode cX10_pushes 95 = .ok (.aload_n 0, 1) := by decide +kernel
theorem dX10_pushes_96 : decode cX10_pushes 96 = .ok (.getfield 58, 3) := by decide +kernel
theorem dX10_pushes_99 : decode cX10_pushes 99 = .ok (.iload 5, 2) := by decide +kernel
theorem dX10_pushes_101 : decode cX10_pushes 101 = .ok (.invokevirtual 191, 3) := by decide +kernel
theorem dX10_pushes_104 : decode cX10_pushes 104 = .ok (.pop, 1) := by decide +kernel
theorem dX10_pushes_105 : decode cX10_pushes 105 = .ok (.iload 4, 2) := by decide +kernel
theorem dX10_pushes_107 : decode cX10_pushes 107 = .ok (.aload_n 0, 1) := by decide +kernel
theorem dX10_pushes_108 : decode cX10_pushes 108 = .ok (.getfield 58, 3) := by decide +kernel
theorem dX10_pushes_111 : decode cX10_pushes 111 = .ok (.invokevirtual 141, 3) := by decide +kernel
theorem dX10_pushes_114 : decode cX10_pushes 114 = .ok (.iconst (-1), 1) := by decide +kernel
theorem dX10_pushes_115 : decode cX10_pushes 115 = .ok (.ixor, 1) := by decide +kernel
theorem dX10_pushes_116 : decode cX10_pushes 116 = .ok (.iand, 1) := by decide +kernel
theorem dX10_pushes_117 : decode cX10_pushes 117 = .ok (.invokestatic 194, 3) := by decide +kernel
theorem dX10_pushes_120 : decode cX10_pushes 120 = .ok (.istore 6, 2) := by decide +kernel
theorem dX10_pushes_122 : decode cX10_pushes 122 = .ok (.aload_n 0, 1) := by decide +kernel
theorem dX10_pushes_123 : decode cX10_pushes 123 = .ok (.getfield 46, 3) := by decide +kernel
theorem dX10_pushes_126 : decode cX10_pushes 126 = .ok (.aload_n 0, 1) := by decide +kernel
theorem dX10_pushes_127 : decode cX10_pushes 127 = .ok (.getfield 50, 3) := by decide +kernel
theorem dX10_pushes_130 : decode cX10_pushes 130 = .ok (.invokevirtual 185, 3) := by decide +kernel
theorem dX10_pushes_133 : decode cX10_pushes 133 = .ok (.iload_n 2, 1) := by decide +kernel
theorem dX10_pushes_134 : decode cX10_pushes 134 = .ok (.ifCond .ne 8, 3) := by decide +kernel
theorem dX10_pushes_137 : decode cX10_pushes 137 = .ok (.iload 5, 2) := by decide +kernel
theorem dX10_pushes_139 : decode cX10_pushes 139 = .ok (.goto 5, 3) := by decide +kernel
theorem dX10_pushes_142 : decode cX10_pushes 142 = .ok (.iload 6, 2) := by decide +kernel
theorem dX10_pushes_144 : decode cX10_pushes 144 = .ok (.ireturn, 1) := by decide +kernel
theorem dX10_refuseAct_0 : decode cX10_refuseAct 0 = .ok (.aload_n 0, 1) := by decide +kernel
theorem dX10_refuseAct_1 : decode cX10_refuseAct 1 = .ok (.dup, 1) := by decide +kernel
theorem dX10_refuseAct_2 : decode cX10_refuseAct 2 = .ok (.getfield 171, 3) := by decide +kernel
theorem dX10_refuseAct_5 : decode cX10_refuseAct 5 = .ok (.iconst 1, 1) := by decide +kernel
theorem dX10_refuseAct_6 : decode cX10_refuseAct 6 = .ok (.iadd, 1) := by decide +kernel
theorem dX10_refuseAct_7 : decode cX10_refuseAct 7 = .ok (.putfield 171, 3) := by decide +kernel
theorem dX10_refuseAct_10 : decode cX10_refuseAct 10 = .ok (.iconst (-1), 1) := by decide +kernel
theorem dX10_refuseAct_11 : decode cX10_refuseAct 11 = .ok (.ireturn, 1) := by decide +kernel
theorem dX10_setUp_0 : decode cX10_setUp 0 = .ok (.aload_n 0, 1) := by decide +kernel
theorem dX10_setUp_1 : decode cX10_setUp 1 = .ok (.iload_n 1, 1) := by decide +kernel
theorem dX10_setUp_2 : decode cX10_setUp 2 = .ok (.invokevirtual 246, 3) := by decide +kernel
theorem dX10_setUp_5 : decode cX10_setUp 5 = .ok (.aload_n 0, 1) := by decide +kernel
theorem dX10_setUp_6 : decode cX10_setUp 6 = .ok (.getfield 46, 3) := by decide +kernel
theorem dX10_setUp_9 : decode cX10_setUp 9 = .ok (.getfield 249, 3) := by decide +kernel
theorem dX10_setUp_12 : decode cX10_setUp 12 = .ok (.iload_n 1, 1) := by decide +kernel
theorem dX10_setUp_13 : decode cX10_setUp 13 = .ok (.iaload, 1) := by decide +kernel
theorem dX10_setUp_14 : decode cX10_setUp 14 = .ok (.ifCond .ne 14, 3) := by decide +kernel
theorem dX10_setUp_17 : decode cX10_setUp 17 = .ok (.aload_n 0, 1) := by decide +kernel
theorem dX10_setUp_18 : decode cX10_setUp 18 = .ok (.getfield 58, 3) := by decide +kernel
theorem dX10_setUp_21 : decode cX10_setUp 21 = .ok (.iload_n 1, 1) := by decide +kernel
theorem dX10_setUp_22 : decode cX10_setUp 22 = .ok (.invokevirtual 289, 3) := by decide +kernel
theorem dX10_setUp_25 : decode cX10_setUp 25 = .ok (.ifCond .ne 8, 3) := by decide +kernel
theorem dX10_setUp_28 : decode cX10_setUp 28 = .ok (.aload_n 0, 1) := by decide +kernel
theorem dX10_setUp_29 : decode cX10_setUp 29 = .ok (.invokevirtual 300, 3) := by decide +kernel
theorem dX10_setUp_32 : decode cX10_setUp 32 = .ok (.ireturn, 1) := by decide +kernel
theorem dX10_setUp_33 : decode cX10_setUp 33 = .ok (.aload_n 0, 1) := by decide +kernel
theorem dX10_setUp_34 : decode cX10_setUp 34 = .ok (.getfield 74, 3) := by decide +kernel
theorem dX10_setUp_37 : decode cX10_setUp 37 = .ok (.aload_n 0, 1) := by decide +kernel
theorem dX10_setUp_38 : decode cX10_setUp 38 = .ok (.getfield 46, 3) := by decide +kernel
theorem dX10_setUp_41 : decode cX10_setUp 41 = .ok (.invokevirtual 303, 3) := by decide +kernel
theorem dX10_setUp_44 : decode cX10_setUp 44 = .ok (.aload_n 0, 1) := by decide +kernel
theorem dX10_setUp_45 : decode cX10_setUp 45 = .ok (.getfield 58, 3) := by decide +kernel
theorem dX10_setUp_48 : decode cX10_setUp 48 = .ok (.iconst 1, 1) := by decide +kernel
theorem dX10_setUp_49 : decode cX10_setUp 49 = .ok (.iload_n 1, 1) := by decide +kernel
theorem dX10_setUp_50 : decode cX10_setUp 50 = .ok (.ishl, 1) := by decide +kernel
theorem dX10_setUp_51 : decode cX10_setUp 51 = .ok (.invokevirtual 191, 3) := by decide +kernel
theorem dX10_setUp_54 : decode cX10_setUp 54 = .ok (.ireturn, 1) := by decide +kernel
theorem dX10_tearDown_0 : decode cX10_tearDown 0 = .ok (.aload_n 0, 1) := by decide +kernel
theorem dX10_tearDown_1 : decode cX10_tearDown 1 = .ok (.iload_n 1, 1) := by decide +kernel
theorem dX10_tearDown_2 : decode cX10_tearDown 2 = .ok (.invokevirtual 246, 3) := by decide +kernel
theorem dX10_tearDown_5 : decode cX10_tearDown 5 = .ok (.aload_n 0, 1) := by decide +kernel
theorem dX10_tearDown_6 : decode cX10_tearDown 6 = .ok (.getfield 46, 3) := by decide +kernel
theorem dX10_tearDown_9 : decode cX10_tearDown 9 = .ok (.getfield 249, 3) := by decide +kernel
theorem dX10_tearDown_12 : decode cX10_tearDown 12 = .ok (.iload_n 1, 1) := by decide +kernel
theorem dX10_tearDown_13 : decode cX10_tearDown 13 = .ok (.iaload, 1) := by decide +kernel
theorem dX10_tearDown_14 : decode cX10_tearDown 14 = .ok (.ifCond .ne 10, 3) := by decide +kernel
theorem dX10_tearDown_17 : decode cX10_tearDown 17 = .ok (.aload_n 0, 1) := by decide +kernel
theorem dX10_tearDown_18 : decode cX10_tearDown 18 = .ok (.invokevirtual 300, 3) := by decide +kernel
theorem dX10_tearDown_21 : decode cX10_tearDown 21 = .ok (.pop, 1) := by decide +kernel
theorem dX10_tearDown_22 : decode cX10_tearDown 22 = .ok (.iconst 0, 1) := by decide +kernel
theorem dX10_tearDown_23 : decode cX10_tearDown 23 = .ok (.ireturn, 1) := by decide +kernel
theorem dX10_tearDown_24 : decode cX10_tearDown 24 = .ok (.aload_n 0, 1) := by decide +kernel
theorem dX10_tearDown_25 : decode cX10_tearDown 25 = .ok (.getfield 74, 3) := by decide +kernel
theorem dX10_tearDown_28 : decode cX10_tearDown 28 = .ok (.aload_n 0, 1) := by decide +kernel
theorem dX10_tearDown_29 : decode cX10_tearDown 29 = .ok (.getfield 46, 3) := by decide +kernel
theorem dX10_tearDown_32 : decode cX10_tearDown 32 = .ok (.invokevirtual 303, 3) := by decide +kernel
theorem dX10_tearDown_35 : decode cX10_tearDown 35 = .ok (.aload_n 0, 1) := by decide +kernel
theorem dX10_tearDown_36 : decode cX10_tearDown 36 = .ok (.getfield 46, 3) := by decide +kernel
theorem dX10_tearDown_39 : decode cX10_tearDown 39 = .ok (.getfield 249, 3) := by decide +kernel
theorem dX10_tearDown_42 : decode cX10_tearDown 42 = .ok (.iload_n 1, 1) := by decide +kernel
theorem dX10_tearDown_43 : decode cX10_tearDown 43 = .ok (.iconst 0, 1) := by decide +kernel
theorem dX10_tearDown_44 : decode cX10_tearDown 44 = .ok (.iastore, 1) := by decide +kernel
theorem dX10_tearDown_45 : decode cX10_tearDown 45 = .ok (.iconst 1, 1) := by decide +kernel
theorem dX10_tearDown_46 : decode cX10_tearDown 46 = .ok (.ireturn, 1) := by decide +kernel
theorem dX10_move_0 : decode cX10_move 0 = .ok (.aload_n 0, 1) := by decide +kernel
theorem dX10_move_1 : decode cX10_move 1 = .ok (.iload_n 1, 1) := by decide +kernel
theorem dX10_move_2 : decode cX10_move 2 = .ok (.invokevirtual 246, 3) := by decide +kernel
theorem dX10_move_5 : decode cX10_move 5 = .ok (.aload_n 0, 1) := by decide +kernel
theorem dX10_move_6 : decode cX10_move 6 = .ok (.getfield 46, 3) := by decide +kernel
theorem dX10_move_9 : decode cX10_move 9 = .ok (.getfield 249, 3) := by decide +kernel
theorem dX10_move_12 : decode cX10_move 12 = .ok (.iload_n 1, 1) := by decide +kernel
theorem dX10_move_13 : decode cX10_move 13 = .ok (.iaload, 1) := by decide +kernel
theorem dX10_move_14 : decode cX10_move 14 = .ok (.istore_n 2, 1) := by decide +kernel
theorem dX10_move_15 : decode cX10_move 15 = .ok (.iload_n 2, 1) := by decide +kernel
theorem dX10_move_16 : decode cX10_move 16 = .ok (.ifCond .eq 15, 3) := by decide +kernel
theorem dX10_move_19 : decode cX10_move 19 = .ok (.aload_n 0, 1) := by decide +kernel
theorem dX10_move_20 : decode cX10_move 20 = .ok (.getfield 58, 3) := by decide +kernel
theorem dX10_move_23 : decode cX10_move 23 = .ok (.iload_n 1, 1) := by decide +kernel
theorem dX10_move_24 : decode cX10_move 24 = .ok (.invokevirtual 289, 3) := by decide +kernel
theorem dX10_move_27 : decode cX10_move 27 = .ok (.iload_n 2, 1) := by decide +kernel
theorem dX10_move_28 : decode cX10_move 28 = .ok (.if_icmp .ne 8, 3) := by decide +kernel
theorem dX10_move_31 : decode cX10_move 31 = .ok (.aload_n 0, 1) := by decide +kernel
theorem dX10_move_32 : decode cX10_move 32 = .ok (.invokevirtual 300, 3) := by decide +kernel
theorem dX10_move_35 : decode cX10_move 35 = .ok (.ireturn, 1) := by decide +kernel
theorem dX10_move_36 : decode cX10_move 36 = .ok (.aload_n 0, 1) := by decide +kernel
theorem dX10_move_37 : decode cX10_move 37 = .ok (.getfield 74, 3) := by decide +kernel
theorem dX10_move_40 : decode cX10_move 40 = .ok (.aload_n 0, 1) := by decide +kernel
theorem dX10_move_41 : decode cX10_move 41 = .ok (.getfield 46, 3) := by decide +kernel
theorem dX10_move_44 : decode cX10_move 44 = .ok (.invokevirtual 303, 3) := by decide +kernel
theorem dX10_move_47 : decode cX10_move 47 = .ok (.aload_n 0, 1) := by decide +kernel
theorem dX10_move_48 : decode cX10_move 48 = .ok (.getfield 58, 3) := by decide +kernel
theorem dX10_move_51 : decode cX10_move 51 = .ok (.iconst 1, 1) := by decide +kernel
theorem dX10_move_52 : decode cX10_move 52 = .ok (.iload_n 1, 1) := by decide +kernel
theorem dX10_move_53 : decode cX10_move 53 = .ok (.ishl, 1) := by decide +kernel
theorem dX10_move_54 : decode cX10_move 54 = .ok (.invokevirtual 191, 3) := by decide +kernel
theorem dX10_move_57 : decode cX10_move 57 = .ok (.ireturn, 1) := by decide +kernel
theorem dX10_resize_0 : decode cX10_resize 0 = .ok (.aload_n 0, 1) := by decide +kernel
theorem dX10_resize_1 : decode cX10_resize 1 = .ok (.iload_n 1, 1) := by decide +kernel
theorem dX10_resize_2 : decode cX10_resize 2 = .ok (.invokevirtual 246, 3) := by decide +kernel
theorem dX10_resize_5 : decode cX10_resize 5 = .ok (.aload_n 0, 1) := by decide +kernel
theorem dX10_resize_6 : decode cX10_resize 6 = .ok (.getfield 46, 3) := by decide +kernel
theorem dX10_resize_9 : decode cX10_resize 9 = .ok (.getfield 258, 3) := by decide +kernel
theorem dX10_resize_12 : decode cX10_resize 12 = .ok (.iload_n 1, 1) := by decide +kernel
theorem dX10_resize_13 : decode cX10_resize 13 = .ok (.iaload, 1) := by decide +kernel
theorem dX10_resize_14 : decode cX10_resize 14 = .ok (.istore_n 3, 1) := by decide +kernel
theorem dX10_resize_15 : decode cX10_resize 15 = .ok (.iload_n 2, 1) := by decide +kernel
theorem dX10_resize_16 : decode cX10_resize 16 = .ok (.invokestatic 306, 3) := by decide +kernel
theorem dX10_resize_19 : decode cX10_resize 19 = .ok (.ifCond .eq 8, 3) := by decide +kernel
theorem dX10_resize_22 : decode cX10_resize 22 = .ok (.iload_n 2, 1) := by decide +kernel
theorem dX10_resize_23 : decode cX10_resize 23 = .ok (.iload_n 3, 1) := by decide +kernel
theorem dX10_resize_24 : decode cX10_resize 24 = .ok (.if_icmp .ne 8, 3) := by decide +kernel
theorem dX10_resize_27 : decode cX10_resize 27 = .ok (.aload_n 0, 1) := by decide +kernel
theorem dX10_resize_28 : decode cX10_resize 28 = .ok (.invokevirtual 300, 3) := by decide +kernel
theorem dX10_resize_31 : decode cX10_resize 31 = .ok (.ireturn, 1) := by decide +kernel
theorem dX10_resize_32 : decode cX10_resize 32 = .ok (.aload_n 0, 1) := by decide +kernel
theorem dX10_resize_33 : decode cX10_resize 33 = .ok (.getfield 46, 3) := by decide +kernel
theorem dX10_resize_36 : decode cX10_resize 36 = .ok (.getfield 249, 3) := by decide +kernel
theorem dX10_resize_39 : decode cX10_resize 39 = .ok (.iload_n 1, 1) := by decide +kernel
theorem dX10_resize_40 : decode cX10_resize 40 = .ok (.iaload, 1) := by decide +kernel
theorem dX10_resize_41 : decode cX10_resize 41 = .ok (.ifCond .eq 7, 3) := by decide +kernel
theorem dX10_resize_44 : decode cX10_resize 44 = .ok (.iconst 1, 1) := by decide +kernel
theorem dX10_resize_45 : decode cX10_resize 45 = .ok (.goto 4, 3) := by decide +kernel
theorem dX10_resize_48 : decode cX10_resize 48 = .ok (.iconst 0, 1) := by decide +kernel
theorem dX10_resize_49 : decode cX10_resize 49 = .ok (.istore 4, 2) := by decide +kernel
theorem dX10_resize_51 : decode cX10_resize 51 = .ok (.iload 4, 2) := by decide +kernel
theorem dX10_resize_53 : decode cX10_resize 53 = .ok (.ifCond .eq 29, 3) := by decide +kernel
theorem dX10_resize_56 : decode cX10_resize 56 = .ok (.aload_n 0, 1) := by decide +kernel
theorem dX10_resize_57 : decode cX10_resize 57 = .ok (.getfield 58, 3) := by decide +kernel
theorem dX10_resize_60 : decode cX10_resize 60 = .ok (.iload_n 1, 1) := by decide +kernel
theorem dX10_resize_61 : decode cX10_resize 61 = .ok (.iload_n 2, 1) := by decide +kernel
theorem dX10_resize_62 : decode cX10_resize 62 = .ok (.aload_n 0, 1) := by decide +kernel
theorem dX10_resize_63 : decode cX10_resize 63 = .ok (.getfield 20, 3) := by decide +kernel
theorem dX10_resize_66 : decode cX10_resize 66 = .ok (.getfield 261, 3) := by decide +kernel
theorem dX10_resize_69 : decode cX10_resize 69 = .ok (.iload_n 1, 1) := by decide +kernel
theorem dX10_resize_70 : decode cX10_resize 70 = .ok (.iaload, 1) := by decide +kernel
theorem dX10_resize_71 : decode cX10_resize 71 = .ok (.invokevirtual 309, 3) := by decide +kernel
theorem dX10_resize_74 : decode cX10_resize 74 = .ok (.ifCond .ne 8, 3) := by decide +kernel
theorem dX10_resize_77 : decode cX10_resize 77 = .ok (.aload_n 0, 1) := by decide +kernel
theorem dX10_resize_78 : decode cX10_resize 78 = .ok (.invokevirtual 300, 3) := by decide +kernel
theorem dX10_resize_81 : decode cX10_resize 81 = .ok (.ireturn, 1) := by decide +kernel
theorem dX10_resize_82 : decode cX10_resize 82 = .ok (.aload_n 0, 1) := by decide +kernel
theorem dX10_resize_83 : decode cX10_resize 83 = .ok (.getfield 74, 3) := by decide +kernel
theorem dX10_resize_86 : decode cX10_resize 86 = .ok (.aload_n 0, 1) := by decide +kernel
theorem dX10_resize_87 : decode cX10_resize 87 = .ok (.getfield 46, 3) := by decide +kernel
theorem dX10_resize_90 : decode cX10_resize 90 = .ok (.invokevirtual 303, 3) := by decide +kernel
theorem dX10_resize_93 : decode cX10_resize 93 = .ok (.aload_n 0, 1) := by decide +kernel
theorem dX10_resize_94 : decode cX10_resize 94 = .ok (.getfield 46, 3) := by decide +kernel
theorem dX10_resize_97 : decode cX10_resize 97 = .ok (.getfield 258, 3) := by decide +kernel
theorem dX10_resize_100 : decode cX10_resize 100 = .ok (.iload_n 1, 1) := by decide +kernel
theorem dX10_resize_101 : decode cX10_resize 101 = .ok (.iload_n 2, 1) := by decide +kernel
theorem dX10_resize_102 : decode cX10_resize 102 = .ok (.iastore, 1) := by decide +kernel
theorem dX10_resize_103 : decode cX10_resize 103 = .ok (.iload 4, 2) := by decide +kernel
theorem dX10_resize_105 : decode cX10_resize 105 = .ok (.ifCond .eq 14, 3) := by decide +kernel
theorem dX10_resize_108 : decode cX10_resize 108 = .ok (.aload_n 0, 1) := by decide +kernel
theorem dX10_resize_109 : decode cX10_resize 109 = .ok (.getfield 58, 3) := by decide +kernel
theorem dX10_resize_112 : decode cX10_resize 112 = .ok (.iconst 1, 1) := by decide +kernel
theorem dX10_resize_113 : decode cX10_resize 113 = .ok (.iload_n 1, 1) := by decide +kernel
theorem dX10_resize_114 : decode cX10_resize 114 = .ok (.ishl, 1) := by decide +kernel
theorem dX10_resize_115 : decode cX10_resize 115 = .ok (.invokevirtual 191, 3) := by decide +kernel
theorem dX10_resize_118 : decode cX10_resize 118 = .ok (.pop, 1) := by decide +kernel
theorem dX10_resize_119 : decode cX10_resize 119 = .ok (.iload_n 3, 1) := by decide +kernel
theorem dX10_resize_120 : decode cX10_resize 120 = .ok (.ireturn, 1) := by decide +kernel
theorem dX10_fail_0 : decode cX10_fail 0 = .ok (.aload_n 0, 1) := by decide +kernel
theorem dX10_fail_1 : decode cX10_fail 1 = .ok (.iload_n 1, 1) := by decide +kernel
theorem dX10_fail_2 : decode cX10_fail 2 = .ok (.invokevirtual 215, 3) := by decide +kernel
theorem dX10_fail_5 : decode cX10_fail 5 = .ok (.aload_n 0, 1) := by decide +kernel
theorem dX10_fail_6 : decode cX10_fail 6 = .ok (.getfield 46, 3) := by decide +kernel
theorem dX10_fail_9 : decode cX10_fail 9 = .ok (.getfield 145, 3) := by decide +kernel
theorem dX10_fail_12 : decode cX10_fail 12 = .ok (.iload_n 1, 1) := by decide +kernel
theorem dX10_fail_13 : decode cX10_fail 13 = .ok (.iushr, 1) := by decide +kernel
theorem dX10_fail_14 : decode cX10_fail 14 = .ok (.iconst 1, 1) := by decide +kernel
theorem dX10_fail_15 : decode cX10_fail 15 = .ok (.iand, 1) := by decide +kernel
theorem dX10_fail_16 : decode cX10_fail 16 = .ok (.ifCond .ne 8, 3) := by decide +kernel
theorem dX10_fail_19 : decode cX10_fail 19 = .ok (.aload_n 0, 1) := by decide +kernel
theorem dX10_fail_20 : decode cX10_fail 20 = .ok (.invokevirtual 300, 3) := by decide +kernel
theorem dX10_fail_23 : decode cX10_fail 23 = .ok (.ireturn, 1) := by decide +kernel
theorem dX10_fail_24 : decode cX10_fail 24 = .ok (.aload_n 0, 1) := by decide +kernel
theorem dX10_fail_25 : decode cX10_fail 25 = .ok (.getfield 74, 3) := by decide +kernel
theorem dX10_fail_28 : decode cX10_fail 28 = .ok (.aload_n 0, 1) := by decide +kernel
theorem dX10_fail_29 : decode cX10_fail 29 = .ok (.getfield 46, 3) := by decide +kernel
theorem dX10_fail_32 : decode cX10_fail 32 = .ok (.invokevirtual 303, 3) := by decide +kernel
theorem dX10_fail_35 : decode cX10_fail 35 = .ok (.aload_n 0, 1) := by decide +kernel
theorem dX10_fail_36 : decode cX10_fail 36 = .ok (.getfield 58, 3) := by decide +kernel
theorem dX10_fail_39 : decode cX10_fail 39 = .ok (.invokevirtual 141, 3) := by decide +kernel
theorem dX10_fail_42 : decode cX10_fail 42 = .ok (.istore_n 2, 1) := by decide +kernel
theorem dX10_fail_43 : decode cX10_fail 43 = .ok (.aload_n 0, 1) := by decide +kernel
theorem dX10_fail_44 : decode cX10_fail 44 = .ok (.getfield 58, 3) := by decide +kernel
theorem dX10_fail_47 : decode cX10_fail 47 = .ok (.aload_n 0, 1) := by decide +kernel
theorem dX10_fail_48 : decode cX10_fail 48 = .ok (.getfield 58, 3) := by decide +kernel
theorem dX10_fail_51 : decode cX10_fail 51 = .ok (.iload_n 1, 1) := by decide +kernel
theorem dX10_fail_52 : decode cX10_fail 52 = .ok (.invokevirtual 188, 3) := by decide +kernel
theorem dX10_fail_55 : decode cX10_fail 55 = .ok (.invokevirtual 191, 3) := by decide +kernel
theorem dX10_fail_58 : decode cX10_fail 58 = .ok (.pop, 1) := by decide +kernel
theorem dX10_fail_59 : decode cX10_fail 59 = .ok (.iload_n 2, 1) := by decide +kernel
theorem dX10_fail_60 : decode cX10_fail 60 = .ok (.aload_n 0, 1) := by decide +kernel
theorem dX10_fail_61 : decode cX10_fail 61 = .ok (.getfield 58, 3) := by decide +kernel
theorem dX10_fail_64 : decode cX10_fail 64 = .ok (.invokevirtual 141, 3) := by decide +kernel
theorem dX10_fail_67 : decode cX10_fail 67 = .ok (.iconst (-1), 1) := by decide +kernel
theorem dX10_fail_68 : decode cX10_fail 68 = .ok (.ixor, 1) := by decide +kernel
theorem dX10_fail_69 : decode cX10_fail 69 = .ok (.iand, 1) := by decide +kernel
theorem dX10_fail_70 : decode cX10_fail 70 = .ok (.invokestatic 194, 3) := by decide +kernel
theorem dX10_fail_73 : decode cX10_fail 73 = .ok (.ireturn, 1) := by decide +kernel
theorem dX10_mend_0 : decode cX10_mend 0 = .ok (.aload_n 0, 1) := by decide +kernel
theorem dX10_mend_1 : decode cX10_mend 1 = .ok (.iload_n 1, 1) := by decide +kernel
theorem dX10_mend_2 : decode cX10_mend 2 = .ok (.invokevirtual 215, 3) := by decide +kernel
theorem dX10_mend_5 : decode cX10_mend 5 = .ok (.aload_n 0, 1) := by decide +kernel
theorem dX10_mend_6 : decode cX10_mend 6 = .ok (.getfield 46, 3) := by decide +kernel
theorem dX10_mend_9 : decode cX10_mend 9 = .ok (.getfield 145, 3) := by decide +kernel
theorem dX10_mend_12 : decode cX10_mend 12 = .ok (.iload_n 1, 1) := by decide +kernel
theorem dX10_mend_13 : decode cX10_mend 13 = .ok (.iushr, 1) := by decide +kernel
theorem dX10_mend_14 : decode cX10_mend 14 = .ok (.iconst 1, 1) := by decide +kernel
theorem dX10_mend_15 : decode cX10_mend 15 = .ok (.iand, 1) := by decide +kernel
theorem dX10_mend_16 : decode cX10_mend 16 = .ok (.ifCond .eq 10, 3) := by decide +kernel
theorem dX10_mend_19 : decode cX10_mend 19 = .ok (.aload_n 0, 1) := by decide +kernel
theorem dX10_mend_20 : decode cX10_mend 20 = .ok (.invokevirtual 300, 3) := by decide +kernel
theorem dX10_mend_23 : decode cX10_mend 23 = .ok (.pop, 1) := by decide +kernel
theorem dX10_mend_24 : decode cX10_mend 24 = .ok (.iconst 0, 1) := by decide +kernel
theorem dX10_mend_25 : decode cX10_mend 25 = .ok (.ireturn, 1) := by decide +kernel
theorem dX10_mend_26 : decode cX10_mend 26 = .ok (.aload_n 0, 1) := by decide +kernel
theorem dX10_mend_27 : decode cX10_mend 27 = .ok (.getfield 74, 3) := by decide +kernel
theorem dX10_mend_30 : decode cX10_mend 30 = .ok (.aload_n 0, 1) := by decide +kernel
theorem dX10_mend_31 : decode cX10_mend 31 = .ok (.getfield 46, 3) := by decide +kernel
theorem dX10_mend_34 : decode cX10_mend 34 = .ok (.invokevirtual 303, 3) := by decide +kernel
theorem dX10_mend_37 : decode cX10_mend 37 = .ok (.aload_n 0, 1) := by decide +kernel
theorem dX10_mend_38 : decode cX10_mend 38 = .ok (.getfield 46, 3) := by decide +kernel
theorem dX10_mend_41 : decode cX10_mend 41 = .ok (.dup, 1) := by decide +kernel
theorem dX10_mend_42 : decode cX10_mend 42 = .ok (.getfield 145, 3) := by decide +kernel
theorem dX10_mend_45 : decode cX10_mend 45 = .ok (.iconst 1, 1) := by decide +kernel
theorem dX10_mend_46 : decode cX10_mend 46 = .ok (.iload_n 1, 1) := by decide +kernel
theorem dX10_mend_47 : decode cX10_mend 47 = .ok (.ishl, 1) := by decide +kernel
theorem dX10_mend_48 : decode cX10_mend 48 = .ok (.ior, 1) := by decide +kernel
theorem dX10_mend_49 : decode cX10_mend 49 = .ok (.putfield 145, 3) := by decide +kernel
theorem dX10_mend_52 : decode cX10_mend 52 = .ok (.iconst 1, 1) := by decide +kernel
theorem dX10_mend_53 : decode cX10_mend 53 = .ok (.ireturn, 1) := by decide +kernel
theorem dX10_undo_0 : decode cX10_undo 0 = .ok (.aload_n 0, 1) := by decide +kernel
theorem dX10_undo_1 : decode cX10_undo 1 = .ok (.getfield 74, 3) := by decide +kernel
theorem dX10_undo_4 : decode cX10_undo 4 = .ok (.getfield 167, 3) := by decide +kernel
theorem dX10_undo_7 : decode cX10_undo 7 = .ok (.ifCond .ne 5, 3) := by decide +kernel
theorem dX10_undo_10 : decode cX10_undo 10 = .ok (.iconst (-1), 1) := by decide +kernel
theorem dX10_undo_11 : decode cX10_undo 11 = .ok (.ireturn, 1) := by decide +kernel
theorem dX10_undo_12 : decode cX10_undo 12 = .ok (.aload_n 0, 1) := by decide +kernel
theorem dX10_undo_13 : decode cX10_undo 13 = .ok (.getfield 74, 3) := by decide +kernel
theorem dX10_undo_16 : decode cX10_undo 16 = .ok (.aload_n 0, 1) := by decide +kernel
theorem dX10_undo_17 : decode cX10_undo 17 = .ok (.getfield 46, 3) := by decide +kernel
theorem dX10_undo_20 : decode cX10_undo 20 = .ok (.invokevirtual 312, 3) := by decide +kernel
theorem dX10_undo_23 : decode cX10_undo 23 = .ok (.aload_n 0, 1) := by decide +kernel
theorem dX10_undo_24 : decode cX10_undo 24 = .ok (.getfield 74, 3) := by decide +kernel
theorem dX10_undo_27 : decode cX10_undo 27 = .ok (.getfield 167, 3) := by decide +kernel
theorem dX10_undo_30 : decode cX10_undo 30 = .ok (.ireturn, 1) := by decide +kernel
theorem dX10_planned_0 : decode cX10_planned 0 = .ok (.aload_n 0, 1) := by decide +kernel
theorem dX10_planned_1 : decode cX10_planned 1 = .ok (.iload_n 1, 1) := by decide +kernel
theorem dX10_planned_2 : decode cX10_planned 2 = .ok (.invokevirtual 246, 3) := by decide +kernel
theorem dX10_planned_5 : decode cX10_planned 5 = .ok (.iload_n 2, 1) := by decide +kernel
theorem dX10_planned_6 : decode cX10_planned 6 = .ok (.invokestatic 281, 3) := by decide +kernel
theorem dX10_planned_9 : decode cX10_planned 9 = .ok (.aload_n 0, 1) := by decide +kernel
theorem dX10_planned_10 : decode cX10_planned 10 = .ok (.getfield 67, 3) := by decide +kernel
theorem dX10_planned_13 : decode cX10_planned 13 = .ok (.invokevirtual 315, 3) := by decide +kernel
theorem dX10_planned_16 : decode cX10_planned 16 = .ok (.aload_n 0, 1) := by decide +kernel
theorem dX10_planned_17 : decode cX10_planned 17 = .ok (.getfield 20, 3) := by decide +kernel
theorem dX10_planned_20 : decode cX10_planned 20 = .ok (.aload_n 0, 1) := by decide +kernel
theorem dX10_planned_21 : decode cX10_planned 21 = .ok (.getfield 67, 3) := by decide +kernel
theorem dX10_planned_24 : decode cX10_planned 24 = .ok (.iload_n 1, 1) := by decide +kernel
theorem dX10_planned_25 : decode cX10_planned 25 = .ok (.invokevirtual 318, 3) := by decide +kernel
theorem dX10_planned_28 : decode cX10_planned 28 = .ok (.aload_n 0, 1) := by decide +kernel
theorem dX10_planned_29 : decode cX10_planned 29 = .ok (.getfield 20, 3) := by decide +kernel
theorem dX10_planned_32 : decode cX10_planned 32 = .ok (.getfield 252, 3) := by decide +kernel
theorem dX10_planned_35 : decode cX10_planned 35 = .ok (.iload_n 1, 1) := by decide +kernel
theorem dX10_planned_36 : decode cX10_planned 36 = .ok (.iaload, 1) := by decide +kernel
theorem dX10_planned_37 : decode cX10_planned 37 = .ok (.iload_n 2, 1) := by decide +kernel
theorem dX10_planned_38 : decode cX10_planned 38 = .ok (.invokevirtual 284, 3) := by decide +kernel
theorem dX10_planned_41 : decode cX10_planned 41 = .ok (.ireturn, 1) := by decide +kernel
theorem dX10_order_0 : decode cX10_order 0 = .ok (.iload_n 1, 1) := by decide +kernel
theorem dX10_order_1 : decode cX10_order 1 = .ok (.invokestatic 281, 3) := by decide +kernel
theorem dX10_order_4 : decode cX10_order 4 = .ok (.aload_n 0, 1) := by decide +kernel
theorem dX10_order_5 : decode cX10_order 5 = .ok (.getfield 67, 3) := by decide +kernel
theorem dX10_order_8 : decode cX10_order 8 = .ok (.invokevirtual 315, 3) := by decide +kernel
theorem dX10_order_11 : decode cX10_order 11 = .ok (.aload_n 0, 1) := by decide +kernel
theorem dX10_order_12 : decode cX10_order 12 = .ok (.getfield 67, 3) := by decide +kernel
theorem dX10_order_15 : decode cX10_order 15 = .ok (.iload_n 1, 1) := by decide +kernel
theorem dX10_order_16 : decode cX10_order 16 = .ok (.invokevirtual 321, 3) := by decide +kernel
theorem dX10_order_19 : decode cX10_order 19 = .ok (.ireturn, 1) := by decide +kernel
theorem dX10_toBreak_0 : decode cX10_toBreak 0 = .ok (.aload_n 0, 1) := by decide +kernel
theorem dX10_toBreak_1 : decode cX10_toBreak 1 = .ok (.getfield 67, 3) := by decide +kernel
theorem dX10_toBreak_4 : decode cX10_toBreak 4 = .ok (.invokevirtual 315, 3) := by decide +kernel
theorem dX10_toBreak_7 : decode cX10_toBreak 7 = .ok (.aload_n 0, 1) := by decide +kernel
theorem dX10_toBreak_8 : decode cX10_toBreak 8 = .ok (.getfield 67, 3) := by decide +kernel
theorem dX10_toBreak_11 : decode cX10_toBreak 11 = .ok (.invokevirtual 324, 3) := by decide +kernel
theorem dX10_toBreak_14 : decode cX10_toBreak 14 = .ok (.ireturn, 1) := by decide +kernel
theorem dX10_widest_0 : decode cX10_widest 0 = .ok (.aload_n 0, 1) := by decide +kernel
theorem dX10_widest_1 : decode cX10_widest 1 = .ok (.iload_n 1, 1) := by decide +kernel
theorem dX10_widest_2 : decode cX10_widest 2 = .ok (.iload_n 2, 1) := by decide +kernel
theorem dX10_widest_3 : decode cX10_widest 3 = .ok (.invokevirtual 327, 3) := by decide +kernel
theorem dX10_widest_6 : decode cX10_widest 6 = .ok (.iload_n 1, 1) := by decide +kernel
theorem dX10_widest_7 : decode cX10_widest 7 = .ok (.iload_n 2, 1) := by decide +kernel
theorem dX10_widest_8 : decode cX10_widest 8 = .ok (.invokestatic 331, 3) := by decide +kernel
theorem dX10_widest_11 : decode cX10_widest 11 = .ok (.iload_n 3, 1) := by decide +kernel
theorem dX10_widest_12 : decode cX10_widest 12 = .ok (.invokestatic 239, 3) := by decide +kernel
theorem dX10_widest_15 : decode cX10_widest 15 = .ok (.aload_n 0, 1) := by decide +kernel
theorem dX10_widest_16 : decode cX10_widest 16 = .ok (.getfield 58, 3) := by decide +kernel
theorem dX10_widest_19 : decode cX10_widest 19 = .ok (.iconst (-1), 1) := by decide +kernel
theorem dX10_widest_20 : decode cX10_widest 20 = .ok (.iload_n 3, 1) := by decide +kernel
theorem dX10_widest_21 : decode cX10_widest 21 = .ok (.invokevirtual 334, 3) := by decide +kernel
theorem dX10_widest_24 : decode cX10_widest 24 = .ok (.aload_n 0, 1) := by decide +kernel
theorem dX10_widest_25 : decode cX10_widest 25 = .ok (.getfield 39, 3) := by decide +kernel
theorem dX10_widest_28 : decode cX10_widest 28 = .ok (.aload_n 0, 1) := by decide +kernel
theorem dX10_widest_29 : decode cX10_widest 29 = .ok (.getfield 46, 3) := by decide +kernel
theorem dX10_widest_32 : decode cX10_widest 32 = .ok (.getfield 145, 3) := by decide +kernel
theorem dX10_widest_35 : decode cX10_widest 35 = .ok (.iload_n 1, 1) := by decide +kernel
theorem dX10_widest_36 : decode cX10_widest 36 = .ok (.iload_n 2, 1) := by decide +kernel
theorem dX10_widest_37 : decode cX10_widest 37 = .ok (.bipush 7, 2) := by decide +kernel
theorem dX10_widest_39 : decode cX10_widest 39 = .ok (.invokevirtual 337, 3) := by decide +kernel
theorem dX10_widest_42 : decode cX10_widest 42 = .ok (.ireturn, 1) := by decide +kernel
theorem dX10_apart_0 : decode cX10_apart 0 = .ok (.aload_n 0, 1) := by decide +kernel
theorem dX10_apart_1 : decode cX10_apart 1 = .ok (.iload_n 1, 1) := by decide +kernel
theorem dX10_apart_2 : decode cX10_apart 2 = .ok (.invokevirtual 246, 3) := by decide +kernel
theorem dX10_apart_5 : decode cX10_apart 5 = .ok (.new 341, 3) := by decide +kernel
theorem dX10_apart_8 : decode cX10_apart 8 = .ok (.dup, 1) := by decide +kernel
theorem dX10_apart_9 : decode cX10_apart 9 = .ok (.aload_n 0, 1) := by decide +kernel
theorem dX10_apart_10 : decode cX10_apart 10 = .ok (.getfield 20, 3) := by decide +kernel
theorem dX10_apart_13 : decode cX10_apart 13 = .ok (.aload_n 0, 1) := by decide +kernel
theorem dX10_apart_14 : decode cX10_apart 14 = .ok (.getfield 39, 3) := by decide +kernel
theorem dX10_apart_17 : decode cX10_apart 17 = .ok (.aload_n 0, 1) := by decide +kernel
theorem dX10_apart_18 : decode cX10_apart 18 = .ok (.getfield 58, 3) := by decide +kernel
theorem dX10_apart_21 : decode cX10_apart 21 = .ok (.iload_n 1, 1) := by decide +kernel
theorem dX10_apart_22 : decode cX10_apart 22 = .ok (.invokevirtual 343, 3) := by decide +kernel
theorem dX10_apart_25 : decode cX10_apart 25 = .ok (.aload_n 0, 1) := by decide +kernel
theorem dX10_apart_26 : decode cX10_apart 26 = .ok (.getfield 20, 3) := by decide +kernel
theorem dX10_apart_29 : decode cX10_apart 29 = .ok (.getfield 255, 3) := by decide +kernel
theorem dX10_apart_32 : decode cX10_apart 32 = .ok (.iload_n 1, 1) := by decide +kernel
theorem dX10_apart_33 : decode cX10_apart 33 = .ok (.iaload, 1) := by decide +kernel
theorem dX10_apart_34 : decode cX10_apart 34 = .ok (.aload_n 0, 1) := by decide +kernel
theorem dX10_apart_35 : decode cX10_apart 35 = .ok (.getfield 20, 3) := by decide +kernel
theorem dX10_apart_38 : decode cX10_apart 38 = .ok (.getfield 270, 3) := by decide +kernel
theorem dX10_apart_41 : decode cX10_apart 41 = .ok (.iload_n 1, 1) := by decide +kernel
theorem dX10_apart_42 : decode cX10_apart 42 = .ok (.iaload, 1) := by decide +kernel
theorem dX10_apart_43 : decode cX10_apart 43 = .ok (.invokespecial 346, 3) := by decide +kernel
theorem dX10_apart_46 : decode cX10_apart 46 = .ok (.astore_n 2, 1) := by decide +kernel
theorem dX10_apart_47 : decode cX10_apart 47 = .ok (.aload_n 2, 1) := by decide +kernel
theorem dX10_apart_48 : decode cX10_apart 48 = .ok (.aload_n 0, 1) := by decide +kernel
theorem dX10_apart_49 : decode cX10_apart 49 = .ok (.getfield 20, 3) := by decide +kernel
theorem dX10_apart_52 : decode cX10_apart 52 = .ok (.getfield 252, 3) := by decide +kernel
theorem dX10_apart_55 : decode cX10_apart 55 = .ok (.iload_n 1, 1) := by decide +kernel
theorem dX10_apart_56 : decode cX10_apart 56 = .ok (.iaload, 1) := by decide +kernel
theorem dX10_apart_57 : decode cX10_apart 57 = .ok (.invokevirtual 349, 3) := by decide +kernel
theorem dX10_apart_60 : decode cX10_apart 60 = .ok (.ireturn, 1) := by decide +kernel
theorem dX10_cuts_0 : decode cX10_cuts 0 = .ok (.aload_n 0, 1) := by decide +kernel
theorem dX10_cuts_1 : decode cX10_cuts 1 = .ok (.iload_n 1, 1) := by decide +kernel
theorem dX10_cuts_2 : decode cX10_cuts 2 = .ok (.iload_n 2, 1) := by decide +kernel
theorem dX10_cuts_3 : decode cX10_cuts 3 = .ok (.invokevirtual 327, 3) := by decide +kernel
theorem dX10_cuts_6 : decode cX10_cuts 6 = .ok (.iload_n 1, 1) := by decide +kernel
theorem dX10_cuts_7 : decode cX10_cuts 7 = .ok (.iload_n 2, 1) := by decide +kernel
theorem dX10_cuts_8 : decode cX10_cuts 8 = .ok (.invokestatic 331, 3) := by decide +kernel
theorem dX10_cuts_11 : decode cX10_cuts 11 = .ok (.iconst 0, 1) := by decide +kernel
theorem dX10_cuts_12 : decode cX10_cuts 12 = .ok (.istore_n 3, 1) := by decide +kernel
theorem dX10_cuts_13 : decode cX10_cuts 13 = .ok (.aload_n 0, 1) := by decide +kernel
theorem dX10_cuts_14 : decode cX10_cuts 14 = .ok (.getfield 39, 3) := by decide +kernel
theorem dX10_cuts_17 : decode cX10_cuts 17 = .ok (.aload_n 0, 1) := by decide +kernel
theorem dX10_cuts_18 : decode cX10_cuts 18 = .ok (.getfield 46, 3) := by decide +kernel
theorem dX10_cuts_21 : decode cX10_cuts 21 = .ok (.getfield 145, 3) := by decide +kernel
theorem dX10_cuts_24 : decode cX10_cuts 24 = .ok (.iload_n 1, 1) := by decide +kernel
theorem dX10_cuts_25 : decode cX10_cuts 25 = .ok (.iload_n 2, 1) := by decide +kernel
theorem dX10_cuts_26 : decode cX10_cuts 26 = .ok (.bipush 7, 2) := by decide +kernel
theorem dX10_cuts_28 : decode cX10_cuts 28 = .ok (.invokevirtual 352, 3) := by decide +kernel
theorem dX10_cuts_31 : decode cX10_cuts 31 = .ok (.ifCond .ne 5, 3) := by decide +kernel
theorem dX10_cuts_34 : decode cX10_cuts 34 = .ok (.iload_n 3, 1) := by decide +kernel
theorem dX10_cuts_35 : decode cX10_cuts 35 = .ok (.ireturn, 1) := by decide +kernel
theorem dX10_cuts_36 : decode cX10_cuts 36 = .ok (.iconst 0, 1) := by decide +kernel
theorem dX10_cuts_37 : decode cX10_cuts 37 = .ok (.istore 4, 2) := by decide +kernel
theorem dX10_cuts_39 : decode cX10_cuts 39 = .ok (.iload 4, 2) := by decide +kernel
theorem dX10_cuts_41 : decode cX10_cuts 41 = .ok (.aload_n 0, 1) := by decide +kernel
theorem dX10_cuts_42 : decode cX10_cuts 42 = .ok (.getfield 20, 3) := by decide +kernel
theorem dX10_cuts_45 : decode cX10_cuts 45 = .ok (.getfield 135, 3) := by decide +kernel
theorem dX10_cuts_48 : decode cX10_cuts 48 = .ok (.if_icmp .ge 59, 3) := by decide +kernel
theorem dX10_cuts_51 : decode cX10_cuts 51 = .ok (.iconst 1, 1) := by decide +kernel
theorem dX10_cuts_52 : decode cX10_cuts 52 = .ok (.iload 4, 2) := by decide +kernel
theorem dX10_cuts_54 : decode cX10_cuts 54 = .ok (.ishl, 1) := by decide +kernel
theorem dX10_cuts_55 : decode cX10_cuts 55 = .ok (.istore 5, 2) := by decide +kernel
theorem dX10_cuts_57 : decode cX10_cuts 57 = .ok (.aload_n 0, 1) := by decide +kernel
theorem dX10_cuts_58 : decode cX10_cuts 58 = .ok (.getfield 46, 3) := by decide +kernel
theorem dX10_cuts_61 : decode cX10_cuts 61 = .ok (.getfield 145, 3) := by decide +kernel
theorem dX10_cuts_64 : decode cX10_cuts 64 = .ok (.iload 5, 2) := by decide +kernel
theorem dX10_cuts_66 : decode cX10_cuts 66 = .ok (.iand, 1) := by decide +kernel
theorem dX10_cuts_67 : decode cX10_cuts 67 = .ok (.ifCond .eq 34, 3) := by decide +kernel
theorem dX10_cuts_70 : decode cX10_cuts 70 = .ok (.aload_n 0, 1) := by decide +kernel
theorem dX10_cuts_71 : decode cX10_cuts 71 = .ok (.getfield 39, 3) := by decide +kernel
theorem dX10_cuts_74 : decode cX10_cuts 74 = .ok (.aload_n 0, 1) := by decide +kernel
theorem dX10_cuts_75 : decode cX10_cuts 75 = .ok (.getfield 46, 3) := by decide +kernel
theorem dX10_cuts_78 : decode cX10_cuts 78 = .ok (.getfield 145, 3) := by decide +kernel
theorem dX10_cuts_81 : decode cX10_cuts 81 = .ok (.iload 5, 2) := by decide +kernel
theorem dX10_cuts_83 : decode cX10_cuts 83 = .ok (.iconst (-1), 1) := by decide +kernel
theorem dX10_cuts_84 : decode cX10_cuts 84 = .ok (.ixor, 1) := by decide +kernel
theorem dX10_cuts_85 : decode cX10_cuts 85 = .ok (.iand, 1) := by decide +kernel
theorem dX10_cuts_86 : decode cX10_cuts 86 = .ok (.iload_n 1, 1) := by decide +kernel
theorem dX10_cuts_87 : decode cX10_cuts 87 = .ok (.iload_n 2, 1) := by decide +kernel
theorem dX10_cuts_88 : decode cX10_cuts 88 = .ok (.bipush 7, 2) := by decide +kernel
theorem dX10_cuts_90 : decode cX10_cuts 90 = .ok (.invokevirtual 352, 3) := by decide +kernel
theorem dX10_cuts_93 : decode cX10_cuts 93 = .ok (.ifCond .ne 8, 3) := by decide +kernel
theorem dX10_cuts_96 : decode cX10_cuts 96 = .ok (.iload_n 3, 1) := by decide +kernel
theorem dX10_cuts_97 : decode cX10_cuts 97 = .ok (.iload 5, 2) := by decide +kernel
theorem dX10_cuts_99 : decode cX10_cuts 99 = .ok (.ior, 1) := by decide +kernel
theorem dX10_cuts_100 : decode cX10_cuts 100 = .ok (.istore_n 3, 1) := by decide +kernel
theorem dX10_cuts_101 : decode cX10_cuts 101 = .ok (.iinc 4 1, 3) := by decide +kernel
theorem dX10_cuts_104 : decode cX10_cuts 104 = .ok (.goto (-65), 3) := by decide +kernel
theorem dX10_cuts_107 : decode cX10_cuts 107 = .ok (.iload_n 3, 1) := by decide +kernel
theorem dX10_cuts_108 : decode cX10_cuts 108 = .ok (.ireturn, 1) := by decide +kernel
theorem dX10_flow_0 : decode cX10_flow 0 = .ok (.aload_n 0, 1) := by decide +kernel
theorem dX10_flow_1 : decode cX10_flow 1 = .ok (.iload_n 1, 1) := by decide +kernel
theorem dX10_flow_2 : decode cX10_flow 2 = .ok (.iload_n 2, 1) := by decide +kernel
theorem dX10_flow_3 : decode cX10_flow 3 = .ok (.invokevirtual 327, 3) := by decide +kernel
theorem dX10_flow_6 : decode cX10_flow 6 = .ok (.iload_n 1, 1) := by decide +kernel
theorem dX10_flow_7 : decode cX10_flow 7 = .ok (.iload_n 2, 1) := by decide +kernel
theorem dX10_flow_8 : decode cX10_flow 8 = .ok (.invokestatic 331, 3) := by decide +kernel
theorem dX10_flow_11 : decode cX10_flow 11 = .ok (.iload_n 3, 1) := by decide +kernel
theorem dX10_flow_12 : decode cX10_flow 12 = .ok (.invokestatic 239, 3) := by decide +kernel
theorem dX10_flow_15 : decode cX10_flow 15 = .ok (.aload_n 0, 1) := by decide +kernel
theorem dX10_flow_16 : decode cX10_flow 16 = .ok (.getfield 58, 3) := by decide +kernel
theorem dX10_flow_19 : decode cX10_flow 19 = .ok (.iconst (-1), 1) := by decide +kernel
theorem dX10_flow_20 : decode cX10_flow 20 = .ok (.iload_n 3, 1) := by decide +kernel
theorem dX10_flow_21 : decode cX10_flow 21 = .ok (.invokevirtual 334, 3) := by decide +kernel
theorem dX10_flow_24 : decode cX10_flow 24 = .ok (.aload_n 0, 1) := by decide +kernel
theorem dX10_flow_25 : decode cX10_flow 25 = .ok (.getfield 39, 3) := by decide +kernel
theorem dX10_flow_28 : decode cX10_flow 28 = .ok (.aload_n 0, 1) := by decide +kernel
theorem dX10_flow_29 : decode cX10_flow 29 = .ok (.getfield 46, 3) := by decide +kernel
theorem dX10_flow_32 : decode cX10_flow 32 = .ok (.getfield 145, 3) := by decide +kernel
theorem dX10_flow_35 : decode cX10_flow 35 = .ok (.iload_n 1, 1) := by decide +kernel
theorem dX10_flow_36 : decode cX10_flow 36 = .ok (.iload_n 2, 1) := by decide +kernel
theorem dX10_flow_37 : decode cX10_flow 37 = .ok (.invokevirtual 356, 3) := by decide +kernel
theorem dX10_flow_40 : decode cX10_flow 40 = .ok (.ireturn, 1) := by decide +kernel
theorem dX10_distance_0 : decode cX10_distance 0 = .ok (.aload_n 0, 1) := by decide +kernel
theorem dX10_distance_1 : decode cX10_distance 1 = .ok (.iload_n 1, 1) := by decide +kernel
theorem dX10_distance_2 : decode cX10_distance 2 = .ok (.iload_n 2, 1) := by decide +kernel
theorem dX10_distance_3 : decode cX10_distance 3 = .ok (.invokevirtual 327, 3) := by decide +kernel
theorem dX10_distance_6 : decode cX10_distance 6 = .ok (.aload_n 0, 1) := by decide +kernel
theorem dX10_distance_7 : decode cX10_distance 7 = .ok (.getfield 39, 3) := by decide +kernel
theorem dX10_distance_10 : decode cX10_distance 10 = .ok (.aload_n 0, 1) := by decide +kernel
theorem dX10_distance_11 : decode cX10_distance 11 = .ok (.getfield 46, 3) := by decide +kernel
theorem dX10_distance_14 : decode cX10_distance 14 = .ok (.getfield 145, 3) := by decide +kernel
theorem dX10_distance_17 : decode cX10_distance 17 = .ok (.iload_n 1, 1) := by decide +kernel
theorem dX10_distance_18 : decode cX10_distance 18 = .ok (.iload_n 2, 1) := by decide +kernel
theorem dX10_distance_19 : decode cX10_distance 19 = .ok (.bipush 7, 2) := by decide +kernel
theorem dX10_distance_21 : decode cX10_distance 21 = .ok (.invokevirtual 359, 3) := by decide +kernel
theorem dX10_distance_24 : decode cX10_distance 24 = .ok (.istore_n 3, 1) := by decide +kernel
theorem dX10_distance_25 : decode cX10_distance 25 = .ok (.iload_n 3, 1) := by decide +kernel
theorem dX10_distance_26 : decode cX10_distance 26 = .ok (.ldc_w 361, 3) := by decide +kernel
theorem dX10_distance_29 : decode cX10_distance 29 = .ok (.if_icmp .ge 7, 3) := by decide +kernel
theorem dX10_distance_32 : decode cX10_distance 32 = .ok (.iload_n 3, 1) := by decide +kernel
theorem dX10_distance_33 : decode cX10_distance 33 = .ok (.goto 4, 3) := by decide +kernel
theorem dX10_distance_36 : decode cX10_distance 36 = .ok (.iconst (-1), 1) := by decide +kernel
theorem dX10_distance_37 : decode cX10_distance 37 = .ok (.ireturn, 1) := by decide +kernel
theorem dX10_room_0 : decode cX10_room 0 = .ok (.aload_n 0, 1) := by decide +kernel
theorem dX10_room_1 : decode cX10_room 1 = .ok (.iload_n 1, 1) := by decide +kernel
theorem dX10_room_2 : decode cX10_room 2 = .ok (.invokevirtual 246, 3) := by decide +kernel
theorem dX10_room_5 : decode cX10_room 5 = .ok (.aload_n 0, 1) := by decide +kernel
theorem dX10_room_6 : decode cX10_room 6 = .ok (.getfield 58, 3) := by decide +kernel
theorem dX10_room_9 : decode cX10_room 9 = .ok (.iload_n 1, 1) := by decide +kernel
theorem dX10_room_10 : decode cX10_room 10 = .ok (.aload_n 0, 1) := by decide +kernel
theorem dX10_room_11 : decode cX10_room 11 = .ok (.getfield 20, 3) := by decide +kernel
theorem dX10_room_14 : decode cX10_room 14 = .ok (.getfield 261, 3) := by decide +kernel
theorem dX10_room_17 : decode cX10_room 17 = .ok (.iload_n 1, 1) := by decide +kernel
theorem dX10_room_18 : decode cX10_room 18 = .ok (.iaload, 1) := by decide +kernel
theorem dX10_room_19 : decode cX10_room 19 = .ok (.invokevirtual 334, 3) := by decide +kernel
theorem dX10_room_22 : decode cX10_room 22 = .ok (.aload_n 0, 1) := by decide +kernel
theorem dX10_room_23 : decode cX10_room 23 = .ok (.getfield 39, 3) := by decide +kernel
theorem dX10_room_26 : decode cX10_room 26 = .ok (.aload_n 0, 1) := by decide +kernel
theorem dX10_room_27 : decode cX10_room 27 = .ok (.getfield 58, 3) := by decide +kernel
theorem dX10_room_30 : decode cX10_room 30 = .ok (.iload_n 1, 1) := by decide +kernel
theorem dX10_room_31 : decode cX10_room 31 = .ok (.invokevirtual 343, 3) := by decide +kernel
theorem dX10_room_34 : decode cX10_room 34 = .ok (.aload_n 0, 1) := by decide +kernel
theorem dX10_room_35 : decode cX10_room 35 = .ok (.getfield 20, 3) := by decide +kernel
theorem dX10_room_38 : decode cX10_room 38 = .ok (.getfield 252, 3) := by decide +kernel
theorem dX10_room_41 : decode cX10_room 41 = .ok (.iload_n 1, 1) := by decide +kernel
theorem dX10_room_42 : decode cX10_room 42 = .ok (.iaload, 1) := by decide +kernel
theorem dX10_room_43 : decode cX10_room 43 = .ok (.aload_n 0, 1) := by decide +kernel
theorem dX10_room_44 : decode cX10_room 44 = .ok (.getfield 20, 3) := by decide +kernel
theorem dX10_room_47 : decode cX10_room 47 = .ok (.getfield 255, 3) := by decide +kernel
theorem dX10_room_50 : decode cX10_room 50 = .ok (.iload_n 1, 1) := by decide +kernel
theorem dX10_room_51 : decode cX10_room 51 = .ok (.iaload, 1) := by decide +kernel
theorem dX10_room_52 : decode cX10_room 52 = .ok (.aload_n 0, 1) := by decide +kernel
theorem dX10_room_53 : decode cX10_room 53 = .ok (.getfield 20, 3) := by decide +kernel
theorem dX10_room_56 : decode cX10_room 56 = .ok (.getfield 270, 3) := by decide +kernel
theorem dX10_room_59 : decode cX10_room 59 = .ok (.iload_n 1, 1) := by decide +kernel
theorem dX10_room_60 : decode cX10_room 60 = .ok (.iaload, 1) := by decide +kernel
theorem dX10_room_61 : decode cX10_room 61 = .ok (.invokevirtual 337, 3) := by decide +kernel
theorem dX10_room_64 : decode cX10_room 64 = .ok (.ireturn, 1) := by decide +kernel
theorem dX10_saved_0 : decode cX10_saved 0 = .ok (.aload_n 0, 1) := by decide +kernel
theorem dX10_saved_1 : decode cX10_saved 1 = .ok (.iload_n 1, 1) := by decide +kernel
theorem dX10_saved_2 : decode cX10_saved 2 = .ok (.invokevirtual 215, 3) := by decide +kernel
theorem dX10_saved_5 : decode cX10_saved 5 = .ok (.aload_n 0, 1) := by decide +kernel
theorem dX10_saved_6 : decode cX10_saved 6 = .ok (.getfield 58, 3) := by decide +kernel
theorem dX10_saved_9 : decode cX10_saved 9 = .ok (.iload_n 1, 1) := by decide +kernel
theorem dX10_saved_10 : decode cX10_saved 10 = .ok (.invokevirtual 182, 3) := by decide +kernel
theorem dX10_saved_13 : decode cX10_saved 13 = .ok (.istore_n 2, 1) := by decide +kernel
theorem dX10_saved_14 : decode cX10_saved 14 = .ok (.iconst 0, 1) := by decide +kernel
theorem dX10_saved_15 : decode cX10_saved 15 = .ok (.istore_n 3, 1) := by decide +kernel
theorem dX10_saved_16 : decode cX10_saved 16 = .ok (.iconst 0, 1) := by decide +kernel
theorem dX10_saved_17 : decode cX10_saved 17 = .ok (.istore 4, 2) := by decide +kernel
theorem dX10_saved_19 : decode cX10_saved 19 = .ok (.iload 4, 2) := by decide +kernel
theorem dX10_saved_21 : decode cX10_saved 21 = .ok (.aload_n 0, 1) := by decide +kernel
theorem dX10_saved_22 : decode cX10_saved 22 = .ok (.getfield 20, 3) := by decide +kernel
theorem dX10_saved_25 : decode cX10_saved 25 = .ok (.getfield 138, 3) := by decide +kernel
theorem dX10_saved_28 : decode cX10_saved 28 = .ok (.if_icmp .ge 38, 3) := by decide +kernel
theorem dX10_saved_31 : decode cX10_saved 31 = .ok (.iload_n 2, 1) := by decide +kernel
theorem dX10_saved_32 : decode cX10_saved 32 = .ok (.iload 4, 2) := by decide +kernel
theorem dX10_saved_34 : decode cX10_saved 34 = .ok (.iushr, 1) := by decide +kernel
theorem dX10_saved_35 : decode cX10_saved 35 = .ok (.iconst 1, 1) := by decide +kernel
theorem dX10_saved_36 : decode cX10_saved 36 = .ok (.iand, 1) := by decide +kernel
theorem dX10_saved_37 : decode cX10_saved 37 = .ok (.ifCond .eq 23, 3) := by decide +kernel
theorem dX10_saved_40 : decode cX10_saved 40 = .ok (.aload_n 0, 1) := by decide +kernel
theorem dX10_saved_41 : decode cX10_saved 41 = .ok (.getfield 58, 3) := by decide +kernel
theorem dX10_saved_44 : decode cX10_saved 44 = .ok (.iload 4, 2) := by decide +kernel
theorem dX10_saved_46 : decode cX10_saved 46 = .ok (.iload_n 1, 1) := by decide +kernel
theorem dX10_saved_47 : decode cX10_saved 47 = .ok (.invokevirtual 362, 3) := by decide +kernel
theorem dX10_saved_50 : decode cX10_saved 50 = .ok (.ifCond .eq 10, 3) := by decide +kernel
theorem dX10_saved_53 : decode cX10_saved 53 = .ok (.iload_n 3, 1) := by decide +kernel
theorem dX10_saved_54 : decode cX10_saved 54 = .ok (.iconst 1, 1) := by decide +kernel
theorem dX10_saved_55 : decode cX10_saved 55 = .ok (.iload 4, 2) := by decide +kernel
theorem dX10_saved_57 : decode cX10_saved 57 = .ok (.ishl, 1) := by decide +kernel
theorem dX10_saved_58 : decode cX10_saved 58 = .ok (.ior, 1) := by decide +kernel
theorem dX10_saved_59 : decode cX10_saved 59 = .ok (.istore_n 3, 1) := by decide +kernel
theorem dX10_saved_60 : decode cX10_saved 60 = .ok (.iinc 4 1, 3) := by decide +kernel
theorem dX10_saved_63 : decode cX10_saved 63 = .ok (.goto (-44), 3) := by decide +kernel
theorem dX10_saved_66 : decode cX10_saved 66 = .ok (.iload_n 3, 1) := by decide +kernel
theorem dX10_saved_67 : decode cX10_saved 67 = .ok (.ireturn, 1) := by decide +kernel
theorem dX10_see_0 : decode cX10_see 0 = .ok (.aload_n 0, 1) := by decide +kernel
theorem dX10_see_1 : decode cX10_see 1 = .ok (.iload_n 1, 1) := by decide +kernel
theorem dX10_see_2 : decode cX10_see 2 = .ok (.iload_n 2, 1) := by decide +kernel
theorem dX10_see_3 : decode cX10_see 3 = .ok (.invokevirtual 327, 3) := by decide +kernel
theorem dX10_see_6 : decode cX10_see 6 = .ok (.iload_n 1, 1) := by decide +kernel
theorem dX10_see_7 : decode cX10_see 7 = .ok (.iload_n 2, 1) := by decide +kernel
theorem dX10_see_8 : decode cX10_see 8 = .ok (.if_icmp .eq 22, 3) := by decide +kernel
theorem dX10_see_11 : decode cX10_see 11 = .ok (.iload_n 3, 1) := by decide +kernel
theorem dX10_see_12 : decode cX10_see 12 = .ok (.invokestatic 306, 3) := by decide +kernel
theorem dX10_see_15 : decode cX10_see 15 = .ok (.ifCond .eq 15, 3) := by decide +kernel
theorem dX10_see_18 : decode cX10_see 18 = .ok (.iload 4, 2) := by decide +kernel
theorem dX10_see_20 : decode cX10_see 20 = .ok (.invokestatic 207, 3) := by decide +kernel
theorem dX10_see_23 : decode cX10_see 23 = .ok (.ifCond .eq 7, 3) := by decide +kernel
theorem dX10_see_26 : decode cX10_see 26 = .ok (.iconst 1, 1) := by decide +kernel
theorem dX10_see_27 : decode cX10_see 27 = .ok (.goto 4, 3) := by decide +kernel
theorem dX10_see_30 : decode cX10_see 30 = .ok (.iconst 0, 1) := by decide +kernel
theorem dX10_see_31 : decode cX10_see 31 = .ok (.istore 6, 2) := by decide +kernel
theorem dX10_see_33 : decode cX10_see 33 = .ok (.iload 6, 2) := by decide +kernel
theorem dX10_see_35 : decode cX10_see 35 = .ok (.ifCond .eq 15, 3) := by decide +kernel
theorem dX10_see_38 : decode cX10_see 38 = .ok (.aload_n 0, 1) := by decide +kernel
theorem dX10_see_39 : decode cX10_see 39 = .ok (.getfield 81, 3) := by decide +kernel
theorem dX10_see_42 : decode cX10_see 42 = .ok (.getfield 170, 3) := by decide +kernel
theorem dX10_see_45 : decode cX10_see 45 = .ok (.bipush 8, 2) := by decide +kernel
theorem dX10_see_47 : decode cX10_see 47 = .ok (.if_icmp .lt 15, 3) := by decide +kernel
theorem dX10_see_50 : decode cX10_see 50 = .ok (.aload_n 0, 1) := by decide +kernel
theorem dX10_see_51 : decode cX10_see 51 = .ok (.dup, 1) := by decide +kernel
theorem dX10_see_52 : decode cX10_see 52 = .ok (.getfield 174, 3) := by decide +kernel
theorem dX10_see_55 : decode cX10_see 55 = .ok (.iconst 1, 1) := by decide +kernel
theorem dX10_see_56 : decode cX10_see 56 = .ok (.iadd, 1) := by decide +kernel
theorem dX10_see_57 : decode cX10_see 57 = .ok (.putfield 174, 3) := by decide +kernel
theorem dX10_see_60 : decode cX10_see 60 = .ok (.iconst (-1), 1) := by decide +kernel
theorem dX10_see_61 : decode cX10_see 61 = .ok (.ireturn, 1) := by decide +kernel
theorem dX10_see_62 : decode cX10_see 62 = .ok (.aload_n 0, 1) := by decide +kernel
theorem dX10_see_63 : decode cX10_see 63 = .ok (.getfield 81, 3) := by decide +kernel
theorem dX10_see_66 : decode cX10_see 66 = .ok (.iload_n 1, 1) := by decide +kernel
theorem dX10_see_67 : decode cX10_see 67 = .ok (.iload_n 2, 1) := by decide +kernel
theorem dX10_see_68 : decode cX10_see 68 = .ok (.iload_n 3, 1) := by decide +kernel
theorem dX10_see_69 : decode cX10_see 69 = .ok (.iload 4, 2) := by decide +kernel
theorem dX10_see_71 : decode cX10_see 71 = .ok (.iload 5, 2) := by decide +kernel
theorem dX10_see_73 : decode cX10_see 73 = .ok (.invokevirtual 366, 3) := by decide +kernel
theorem dX10_see_76 : decode cX10_see 76 = .ok (.aload_n 0, 1) := by decide +kernel
theorem dX10_see_77 : decode cX10_see 77 = .ok (.getfield 81, 3) := by decide +kernel
theorem dX10_see_80 : decode cX10_see 80 = .ok (.getfield 170, 3) := by decide +kernel
theorem dX10_see_83 : decode cX10_see 83 = .ok (.ireturn, 1) := by decide +kernel
theorem dX10_forget_0 : decode cX10_forget 0 = .ok (.aload_n 0, 1) := by decide +kernel
theorem dX10_forget_1 : decode cX10_forget 1 = .ok (.getfield 81, 3) := by decide +kernel
theorem dX10_forget_4 : decode cX10_forget 4 = .ok (.invokevirtual 127, 3) := by decide +kernel
theorem dX10_forget_7 : decode cX10_forget 7 = .ok (.return_, 1) := by decide +kernel
theorem dX10_other_0 : decode cX10_other 0 = .ok (.iload_n 1, 1) := by decide +kernel
theorem dX10_other_1 : decode cX10_other 1 = .ok (.ifCond .lt 8, 3) := by decide +kernel
theorem dX10_other_4 : decode cX10_other 4 = .ok (.iload_n 1, 1) := by decide +kernel
theorem dX10_other_5 : decode cX10_other 5 = .ok (.iconst 2, 1) := by decide +kernel
theorem dX10_other_6 : decode cX10_other 6 = .ok (.if_icmp .le 14, 3) := by decide +kernel
theorem dX10_other_9 : decode cX10_other 9 = .ok (.new 177, 3) := by decide +kernel
theorem dX10_other_12 : decode cX10_other 12 = .ok (.dup, 1) := by decide +kernel
theorem dX10_other_13 : decode cX10_other 13 = .ok (.ldc_w 370, 3) := by decide +kernel
theorem dX10_other_16 : decode cX10_other 16 = .ok (.invokespecial 181, 3) := by decide +kernel
theorem dX10_other_19 : decode cX10_other 19 = .ok (.athrow, 1) := by decide +kernel
theorem dX10_other_20 : decode cX10_other 20 = .ok (.iload_n 1, 1) := by decide +kernel
theorem dX10_other_21 : decode cX10_other 21 = .ok (.iconst 2, 1) := by decide +kernel
theorem dX10_other_22 : decode cX10_other 22 = .ok (.if_icmp .ne 27, 3) := by decide +kernel
theorem dX10_other_25 : decode cX10_other 25 = .ok (.aload_n 0, 1) := by decide +kernel
theorem dX10_other_26 : decode cX10_other 26 = .ok (.getfield 81, 3) := by decide +kernel
theorem dX10_other_29 : decode cX10_other 29 = .ok (.aload_n 0, 1) := by decide +kernel
theorem dX10_other_30 : decode cX10_other 30 = .ok (.getfield 58, 3) := by decide +kernel
theorem dX10_other_33 : decode cX10_other 33 = .ok (.aload_n 0, 1) := by decide +kernel
theorem dX10_other_34 : decode cX10_other 34 = .ok (.getfield 39, 3) := by decide +kernel
theorem dX10_other_37 : decode cX10_other 37 = .ok (.invokevirtual 372, 3) := by decide +kernel
theorem dX10_other_40 : decode cX10_other 40 = .ok (.ifCond .eq 7, 3) := by decide +kernel
theorem dX10_other_43 : decode cX10_other 43 = .ok (.iconst 1, 1) := by decide +kernel
theorem dX10_other_44 : decode cX10_other 44 = .ok (.goto 4, 3) := by decide +kernel
theorem dX10_other_47 : decode cX10_other 47 = .ok (.iconst 0, 1) := by decide +kernel
theorem dX10_other_48 : decode cX10_other 48 = .ok (.ireturn, 1) := by decide +kernel
theorem dX10_other_49 : decode cX10_other 49 = .ok (.aload_n 0, 1) := by decide +kernel
theorem dX10_other_50 : decode cX10_other 50 = .ok (.iload_n 1, 1) := by decide +kernel
theorem dX10_other_51 : decode cX10_other 51 = .ok (.iconst 1, 1) := by decide +kernel
theorem dX10_other_52 : decode cX10_other 52 = .ok (.if_icmp .ne 7, 3) := by decide +kernel
theorem dX10_other_55 : decode cX10_other 55 = .ok (.iconst 1, 1) := by decide +kernel
theorem dX10_other_56 : decode cX10_other 56 = .ok (.goto 4, 3) := by decide +kernel
theorem dX10_other_59 : decode cX10_other 59 = .ok (.iconst 0, 1) := by decide +kernel
theorem dX10_other_60 : decode cX10_other 60 = .ok (.invokevirtual 376, 3) := by decide +kernel
theorem dX10_other_63 : decode cX10_other 63 = .ok (.ireturn, 1) := by decide +kernel
theorem dX10_otherCapacities_0 : decode cX10_otherCapacities 0 = .ok (.iconst 0, 1) := by decide +kernel
theorem dX10_otherCapacities_1 : decode cX10_otherCapacities 1 = .ok (.istore_n 2, 1) := by decide +kernel
theorem dX10_otherCapacities_2 : decode cX10_otherCapacities 2 = .ok (.iconst 0, 1) := by decide +kernel
theorem dX10_otherCapacities_3 : decode cX10_otherCapacities 3 = .ok (.istore_n 3, 1) := by decide +kernel
theorem dX10_otherCapacities_4 : decode cX10_otherCapacities 4 = .ok (.iload_n 3, 1) := by decide +kernel
theorem dX10_otherCapacities_5 : decode cX10_otherCapacities 5 = .ok (.aload_n 0, 1) := by decide +kernel
theorem dX10_otherCapacities_6 : decode cX10_otherCapacities 6 = .ok (.getfield 20, 3) := by decide +kernel
theorem dX10_otherCapacities_9 : decode cX10_otherCapacities 9 = .ok (.getfield 135, 3) := by decide +kernel
theorem dX10_otherCapacities_12 : decode cX10_otherCapacities 12 = .ok (.if_icmp .ge 109, 3) := by decide +kernel
theorem dX10_otherCapacities_15 : decode cX10_otherCapacities 15 = .ok (.aload_n 0, 1) := by decide +kernel
theorem dX10_otherCapacities_16 : decode cX10_otherCapacities 16 = .ok (.getfield 81, 3) := by decide +kernel
theorem dX10_otherCapacities_19 : decode cX10_otherCapacities 19 = .ok (.aload_n 0, 1) := by decide +kernel
theorem dX10_otherCapacities_20 : decode cX10_otherCapacities 20 = .ok (.getfield 58, 3) := by decide +kernel
theorem dX10_otherCapacities_23 : decode cX10_otherCapacities 23 = .ok (.aload_n 0, 1) := by decide +kernel
theorem dX10_otherCapacities_24 : decode cX10_otherCapacities 24 = .ok (.getfield 39, 3) := by decide +kernel
theorem dX10_otherCapacities_27 : decode cX10_otherCapacities 27 = .ok (.iload_n 3, 1) := by decide +kernel
theorem dX10_otherCapacities_28 : decode cX10_otherCapacities 28 = .ok (.invokevirtual 380, 3) := by decide +kernel
theorem dX10_otherCapacities_31 : decode cX10_otherCapacities 31 = .ok (.aload_n 0, 1) := by decide +kernel
theorem dX10_otherCapacities_32 : decode cX10_otherCapacities 32 = .ok (.getfield 81, 3) := by decide +kernel
theorem dX10_otherCapacities_35 : decode cX10_otherCapacities 35 = .ok (.getfield 384, 3) := by decide +kernel
theorem dX10_otherCapacities_38 : decode cX10_otherCapacities 38 = .ok (.iconst 1, 1) := by decide +kernel
theorem dX10_otherCapacities_39 : decode cX10_otherCapacities 39 = .ok (.aload_n 0, 1) := by decide +kernel
theorem dX10_otherCapacities_40 : decode cX10_otherCapacities 40 = .ok (.getfield 58, 3) := by decide +kernel
theorem dX10_otherCapacities_43 : decode cX10_otherCapacities 43 = .ok (.iload_n 3, 1) := by decide +kernel
theorem dX10_otherCapacities_44 : decode cX10_otherCapacities 44 = .ok (.invokevirtual 234, 3) := by decide +kernel
theorem dX10_otherCapacities_47 : decode cX10_otherCapacities 47 = .ok (.invokestatic 387, 3) := by decide +kernel
theorem dX10_otherCapacities_50 : decode cX10_otherCapacities 50 = .ok (.invokestatic 387, 3) := by decide +kernel
theorem dX10_otherCapacities_53 : decode cX10_otherCapacities 53 = .ok (.istore 4, 2) := by decide +kernel
theorem dX10_otherCapacities_55 : decode cX10_otherCapacities 55 = .ok (.aload_n 0, 1) := by decide +kernel
theorem dX10_otherCapacities_56 : decode cX10_otherCapacities 56 = .ok (.getfield 81, 3) := by decide +kernel
theorem dX10_otherCapacities_59 : decode cX10_otherCapacities 59 = .ok (.getfield 393, 3) := by decide +kernel
theorem dX10_otherCapacities_62 : decode cX10_otherCapacities 62 = .ok (.bipush 20, 2) := by decide +kernel
theorem dX10_otherCapacities_64 : decode cX10_otherCapacities 64 = .ok (.invokestatic 396, 3) := by decide +kernel
theorem dX10_otherCapacities_67 : decode cX10_otherCapacities 67 = .ok (.istore 5, 2) := by decide +kernel
theorem dX10_otherCapacities_69 : decode cX10_otherCapacities 69 = .ok (.iload 4, 2) := by decide +kernel
theorem dX10_otherCapacities_71 : decode cX10_otherCapacities 71 = .ok (.istore 6, 2) := by decide +kernel
theorem dX10_otherCapacities_73 : decode cX10_otherCapacities 73 = .ok (.iload 6, 2) := by decide +kernel
theorem dX10_otherCapacities_75 : decode cX10_otherCapacities 75 = .ok (.iload 5, 2) := by decide +kernel
theorem dX10_otherCapacities_77 : decode cX10_otherCapacities 77 = .ok (.if_icmp .gt 38, 3) := by decide +kernel
theorem dX10_otherCapacities_80 : decode cX10_otherCapacities 80 = .ok (.iload 6, 2) := by decide +kernel
theorem dX10_otherCapacities_82 : decode cX10_otherCapacities 82 = .ok (.aload_n 0, 1) := by decide +kernel
theorem dX10_otherCapacities_83 : decode cX10_otherCapacities 83 = .ok (.getfield 20, 3) := by decide +kernel
theorem dX10_otherCapacities_86 : decode cX10_otherCapacities 86 = .ok (.getfield 228, 3) := by decide +kernel
theorem dX10_otherCapacities_89 : decode cX10_otherCapacities 89 = .ok (.iload_n 3, 1) := by decide +kernel
theorem dX10_otherCapacities_90 : decode cX10_otherCapacities 90 = .ok (.iaload, 1) := by decide +kernel
theorem dX10_otherCapacities_91 : decode cX10_otherCapacities 91 = .ok (.if_icmp .eq 18, 3) := by decide +kernel
theorem dX10_otherCapacities_94 : decode cX10_otherCapacities 94 = .ok (.iload_n 1, 1) := by decide +kernel
theorem dX10_otherCapacities_95 : decode cX10_otherCapacities 95 = .ok (.ifCond .eq 11, 3) := by decide +kernel
theorem dX10_otherCapacities_98 : decode cX10_otherCapacities 98 = .ok (.bipush 100, 2) := by decide +kernel
theorem dX10_otherCapacities_100 : decode cX10_otherCapacities 100 = .ok (.iload_n 3, 1) := by decide +kernel
theorem dX10_otherCapacities_101 : decode cX10_otherCapacities 101 = .ok (.imul, 1) := by decide +kernel
theorem dX10_otherCapacities_102 : decode cX10_otherCapacities 102 = .ok (.iload 6, 2) := by decide +kernel
theorem dX10_otherCapacities_104 : decode cX10_otherCapacities 104 = .ok (.iadd, 1) := by decide +kernel
theorem dX10_otherCapacities_105 : decode cX10_otherCapacities 105 = .ok (.ireturn, 1) := by decide +kernel
theorem dX10_otherCapacities_106 : decode cX10_otherCapacities 106 = .ok (.iinc 2 1, 3) := by decide +kernel
theorem dX10_otherCapacities_109 : decode cX10_otherCapacities 109 = .ok (.iinc 6 1, 3) := by decide +kernel
theorem dX10_otherCapacities_112 : decode cX10_otherCapacities 112 = .ok (.goto (-39), 3) := by decide +kernel
theorem dX10_otherCapacities_115 : decode cX10_otherCapacities 115 = .ok (.iinc 3 1, 3) := by decide +kernel
theorem dX10_otherCapacities_118 : decode cX10_otherCapacities 118 = .ok (.goto (-114), 3) := by decide +kernel
theorem dX10_otherCapacities_121 : decode cX10_otherCapacities 121 = .ok (.iload_n 1, 1) := by decide +kernel
theorem dX10_otherCapacities_122 : decode cX10_otherCapacities 122 = .ok (.ifCond .eq 7, 3) := by decide +kernel
theorem dX10_otherCapacities_125 : decode cX10_otherCapacities 125 = .ok (.iconst (-1), 1) := by decide +kernel
theorem dX10_otherCapacities_126 : decode cX10_otherCapacities 126 = .ok (.goto 4, 3) := by decide +kernel
theorem dX10_otherCapacities_129 : decode cX10_otherCapacities 129 = .ok (.iload_n 2, 1) := by decide +kernel
theorem dX10_otherCapacities_130 : decode cX10_otherCapacities 130 = .ok (.ireturn, 1) := by decide +kernel
theorem dX10_luck_0 : decode cX10_luck 0 = .ok (.aload_n 0, 1) := by decide +kernel
theorem dX10_luck_1 : decode cX10_luck 1 = .ok (.iload_n 1, 1) := by decide +kernel
theorem dX10_luck_2 : decode cX10_luck 2 = .ok (.invokevirtual 246, 3) := by decide +kernel
theorem dX10_luck_5 : decode cX10_luck 5 = .ok (.iload_n 2, 1) := by decide +kernel
theorem dX10_luck_6 : decode cX10_luck 6 = .ok (.ifCond .lt 9, 3) := by decide +kernel
theorem dX10_luck_9 : decode cX10_luck 9 = .ok (.iload_n 2, 1) := by decide +kernel
theorem dX10_luck_10 : decode cX10_luck 10 = .ok (.bipush 10, 2) := by decide +kernel
theorem dX10_luck_12 : decode cX10_luck 12 = .ok (.if_icmp .le 14, 3) := by decide +kernel
theorem dX10_luck_15 : decode cX10_luck 15 = .ok (.new 101, 3) := by decide +kernel
