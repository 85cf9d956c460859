theorem dX11_count_17 : decode cX11_count 17 = .ok (.ifCond .ne 5, 3) := by decide +kernel
theorem dX11_count_20 : decode cX11_count 20 = .ok (.iconst 0, 1) := by decide +kernel
theorem dX11_count_21 : decode cX11_count 21 = .ok (.ireturn, 1) := by decide +kernel
theorem dX11_count_22 : decode cX11_count 22 = .ok (.iload_n 1, 1) := by decide +kernel
theorem dX11_count_23 : decode cX11_count 23 = .ok (.tableswitch 161 0 13 #[69, 74, 79, 84, 90, 97, 103, 108, 113, 134, 140, 146, 151, 156], 69) := by decide +kernel
theorem dX11_count_92 : decode cX11_count 92 = .ok (.aload_n 0, 1) := by decide +kernel
theorem dX11_count_93 : decode cX11_count 93 = .ok (.getfield 20, 3) := by decide +kernel
theorem dX11_count_96 : decode cX11_count 96 = .ok (.ireturn, 1) := by decide +kernel
theorem dX11_count_97 : decode cX11_count 97 = .ok (.aload_n 0, 1) := by decide +kernel
theorem dX11_count_98 : decode cX11_count 98 = .ok (.getfield 199, 3) := by decide +kernel
theorem dX11_count_101 : decode cX11_count 101 = .ok (.ireturn, 1) := by decide +kernel
theorem dX11_count_102 : decode cX11_count 102 = .ok (.aload_n 0, 1) := by decide +kernel
theorem dX11_count_103 : decode cX11_count 103 = .ok (.getfield 202, 3) := by decide +kernel
theorem dX11_count_106 : decode cX11_count 106 = .ok (.ireturn, 1) := by decide +kernel
theorem dX11_count_107 : decode cX11_count 107 = .ok (.aload_n 0, 1) := by decide +kernel
theorem dX11_count_108 : decode cX11_count 108 = .ok (.iconst 0, 1) := by decide +kernel
theorem dX11_count_109 : decode cX11_count 109 = .ok (.invokevirtual 309, 3) := by decide +kernel
theorem dX11_count_112 : decode cX11_count 112 = .ok (.ireturn, 1) := by decide +kernel
theorem dX11_count_113 : decode cX11_count 113 = .ok (.aload_n 0, 1) := by decide +kernel
theorem dX11_count_114 : decode cX11_count 114 = .ok (.getfield 35, 3) := by decide +kernel
theorem dX11_count_117 : decode cX11_count 117 = .ok (.iconst 0, 1) := by decide +kernel
theorem dX11_count_118 : decode cX11_count 118 = .ok (.iaload, 1) := by decide +kernel
theorem dX11_count_119 : decode cX11_count 119 = .ok (.ireturn, 1) := by decide +kernel
theorem dX11_count_120 : decode cX11_count 120 = .ok (.aload_n 0, 1) := by decide +kernel
theorem dX11_count_121 : decode cX11_count 121 = .ok (.iconst 0, 1) := by decide +kernel
theorem dX11_count_122 : decode cX11_count 122 = .ok (.invokevirtual 321, 3) := by decide +kernel
theorem dX11_count_125 : decode cX11_count 125 = .ok (.ireturn, 1) := by decide +kernel
theorem dX11_count_126 : decode cX11_count 126 = .ok (.aload_n 0, 1) := by decide +kernel
theorem dX11_count_127 : decode cX11_count 127 = .ok (.invokevirtual 324, 3) := by decide +kernel
theorem dX11_count_130 : decode cX11_count 130 = .ok (.ireturn, 1) := by decide +kernel
theorem dX11_count_131 : decode cX11_count 131 = .ok (.aload_n 0, 1) := by decide +kernel
theorem dX11_count_132 : decode cX11_count 132 = .ok (.invokevirtual 328, 3) := by decide +kernel
theorem dX11_count_135 : decode cX11_count 135 = .ok (.ireturn, 1) := by decide +kernel
theorem dX11_count_136 : decode cX11_count 136 = .ok (.aload_n 0, 1) := by decide +kernel
theorem dX11_count_137 : decode cX11_count 137 = .ok (.invokevirtual 328, 3) := by decide +kernel
theorem dX11_count_140 : decode cX11_count 140 = .ok (.iconst (-1), 1) := by decide +kernel
theorem dX11_count_141 : decode cX11_count 141 = .ok (.if_icmp .ne 7, 3) := by decide +kernel
theorem dX11_count_144 : decode cX11_count 144 = .ok (.iconst 0, 1) := by decide +kernel
theorem dX11_count_145 : decode cX11_count 145 = .ok (.goto 11, 3) := by decide +kernel
theorem dX11_count_148 : decode cX11_count 148 = .ok (.aload_n 0, 1) := by decide +kernel
theorem dX11_count_149 : decode cX11_count 149 = .ok (.aload_n 0, 1) := by decide +kernel
theorem dX11_count_150 : decode cX11_count 150 = .ok (.invokevirtual 328, 3) := by decide +kernel
theorem dX11_count_153 : decode cX11_count 153 = .ok (.invokevirtual 312, 3) := by decide +kernel
theorem dX11_count_156 : decode cX11_count 156 = .ok (.ireturn, 1) := by decide +kernel
theorem dX11_count_157 : decode cX11_count 157 = .ok (.aload_n 0, 1) := by decide +kernel
theorem dX11_count_158 : decode cX11_count 158 = .ok (.iconst 0, 1) := by decide +kernel
theorem dX11_count_159 : decode cX11_count 159 = .ok (.invokevirtual 331, 3) := by decide +kernel
theorem dX11_count_162 : decode cX11_count 162 = .ok (.ireturn, 1) := by decide +kernel
theorem dX11_count_163 : decode cX11_count 163 = .ok (.aload_n 0, 1) := by decide +kernel
theorem dX11_count_164 : decode cX11_count 164 = .ok (.iconst 1, 1) := by decide +kernel
theorem dX11_count_165 : decode cX11_count 165 = .ok (.invokevirtual 331, 3) := by decide +kernel
theorem dX11_count_168 : decode cX11_count 168 = .ok (.ireturn, 1) := by decide +kernel
theorem dX11_count_169 : decode cX11_count 169 = .ok (.aload_n 0, 1) := by decide +kernel
theorem dX11_count_170 : decode cX11_count 170 = .ok (.getfield 209, 3) := by decide +kernel
theorem dX11_count_173 : decode cX11_count 173 = .ok (.ireturn, 1) := by decide +kernel
theorem dX11_count_174 : decode cX11_count 174 = .ok (.aload_n 0, 1) := by decide +kernel
theorem dX11_count_175 : decode cX11_count 175 = .ok (.getfield 212, 3) := by decide +kernel
theorem dX11_count_178 : decode cX11_count 178 = .ok (.ireturn, 1) := by decide +kernel
theorem dX11_count_179 : decode cX11_count 179 = .ok (.aload_n 0, 1) := by decide +kernel
theorem dX11_count_180 : decode cX11_count 180 = .ok (.getfield 99, 3) := by decide +kernel
theorem dX11_count_183 : decode cX11_count 183 = .ok (.ireturn, 1) := by decide +kernel
theorem dX11_count_184 : decode cX11_count 184 = .ok (.aload_n 0, 1) := by decide +kernel
theorem dX11_count_185 : decode cX11_count 185 = .ok (.getfield 17, 3) := by decide +kernel
theorem dX11_count_188 : decode cX11_count 188 = .ok (.iload_n 1, 1) := by decide +kernel
theorem dX11_count_189 : decode cX11_count 189 = .ok (.bipush 14, 2) := by decide +kernel
theorem dX11_count_191 : decode cX11_count 191 = .ok (.isub, 1) := by decide +kernel
theorem dX11_count_192 : decode cX11_count 192 = .ok (.iaload, 1) := by decide +kernel
theorem dX11_count_193 : decode cX11_count 193 = .ok (.ireturn, 1) := by decide +kernel
theorem dX11_isLink_0 : decode cX11_isLink 0 = .ok (.aload_n 0, 1) := by decide +kernel
theorem dX11_isLink_1 : decode cX11_isLink 1 = .ok (.iload_n 1, 1) := by decide +kernel
theorem dX11_isLink_2 : decode cX11_isLink 2 = .ok (.ifCond .lt 15, 3) := by decide +kernel
theorem dX11_isLink_5 : decode cX11_isLink 5 = .ok (.iload_n 1, 1) := by decide +kernel
theorem dX11_isLink_6 : decode cX11_isLink 6 = .ok (.aload_n 0, 1) := by decide +kernel
theorem dX11_isLink_7 : decode cX11_isLink 7 = .ok (.getfield 199, 3) := by decide +kernel
theorem dX11_isLink_10 : decode cX11_isLink 10 = .ok (.if_icmp .ge 7, 3) := by decide +kernel
theorem dX11_isLink_13 : decode cX11_isLink 13 = .ok (.iconst 1, 1) := by decide +kernel
theorem dX11_isLink_14 : decode cX11_isLink 14 = .ok (.goto 4, 3) := by decide +kernel
theorem dX11_isLink_17 : decode cX11_isLink 17 = .ok (.iconst 0, 1) := by decide +kernel
theorem dX11_isLink_18 : decode cX11_isLink 18 = .ok (.iconst 1, 1) := by decide +kernel
theorem dX11_isLink_19 : decode cX11_isLink 19 = .ok (.invokevirtual 192, 3) := by decide +kernel
theorem dX11_isLink_22 : decode cX11_isLink 22 = .ok (.ireturn, 1) := by decide +kernel
theorem dX11_isTunnel_0 : decode cX11_isTunnel 0 = .ok (.aload_n 0, 1) := by decide +kernel
theorem dX11_isTunnel_1 : decode cX11_isTunnel 1 = .ok (.iload_n 1, 1) := by decide +kernel
theorem dX11_isTunnel_2 : decode cX11_isTunnel 2 = .ok (.ifCond .lt 15, 3) := by decide +kernel
theorem dX11_isTunnel_5 : decode cX11_isTunnel 5 = .ok (.iload_n 1, 1) := by decide +kernel
theorem dX11_isTunnel_6 : decode cX11_isTunnel 6 = .ok (.aload_n 0, 1) := by decide +kernel
theorem dX11_isTunnel_7 : decode cX11_isTunnel 7 = .ok (.getfield 202, 3) := by decide +kernel
theorem dX11_isTunnel_10 : decode cX11_isTunnel 10 = .ok (.if_icmp .ge 7, 3) := by decide +kernel
theorem dX11_isTunnel_13 : decode cX11_isTunnel 13 = .ok (.iconst 1, 1) := by decide +kernel
theorem dX11_isTunnel_14 : decode cX11_isTunnel 14 = .ok (.goto 4, 3) := by decide +kernel
theorem dX11_isTunnel_17 : decode cX11_isTunnel 17 = .ok (.iconst 0, 1) := by decide +kernel
theorem dX11_isTunnel_18 : decode cX11_isTunnel 18 = .ok (.iconst 1, 1) := by decide +kernel
theorem dX11_isTunnel_19 : decode cX11_isTunnel 19 = .ok (.invokevirtual 192, 3) := by decide +kernel
theorem dX11_isTunnel_22 : decode cX11_isTunnel 22 = .ok (.ireturn, 1) := by decide +kernel
theorem dX11_isNode_0 : decode cX11_isNode 0 = .ok (.aload_n 0, 1) := by decide +kernel
theorem dX11_isNode_1 : decode cX11_isNode 1 = .ok (.iload_n 1, 1) := by decide +kernel
theorem dX11_isNode_2 : decode cX11_isNode 2 = .ok (.ifCond .lt 15, 3) := by decide +kernel
theorem dX11_isNode_5 : decode cX11_isNode 5 = .ok (.iload_n 1, 1) := by decide +kernel
theorem dX11_isNode_6 : decode cX11_isNode 6 = .ok (.aload_n 0, 1) := by decide +kernel
theorem dX11_isNode_7 : decode cX11_isNode 7 = .ok (.getfield 20, 3) := by decide +kernel
theorem dX11_isNode_10 : decode cX11_isNode 10 = .ok (.if_icmp .ge 7, 3) := by decide +kernel
theorem dX11_isNode_13 : decode cX11_isNode 13 = .ok (.iconst 1, 1) := by decide +kernel
theorem dX11_isNode_14 : decode cX11_isNode 14 = .ok (.goto 4, 3) := by decide +kernel
theorem dX11_isNode_17 : decode cX11_isNode 17 = .ok (.iconst 0, 1) := by decide +kernel
theorem dX11_isNode_18 : decode cX11_isNode 18 = .ok (.iconst 1, 1) := by decide +kernel
theorem dX11_isNode_19 : decode cX11_isNode 19 = .ok (.invokevirtual 192, 3) := by decide +kernel
theorem dX11_isNode_22 : decode cX11_isNode 22 = .ok (.ireturn, 1) := by decide +kernel
theorem dX11_isWhat_0 : decode cX11_isWhat 0 = .ok (.aload_n 0, 1) := by decide +kernel
theorem dX11_isWhat_1 : decode cX11_isWhat 1 = .ok (.iload_n 1, 1) := by decide +kernel
theorem dX11_isWhat_2 : decode cX11_isWhat 2 = .ok (.iconst 0, 1) := by decide +kernel
theorem dX11_isWhat_3 : decode cX11_isWhat 3 = .ok (.iload_n 2, 1) := by decide +kernel
theorem dX11_isWhat_4 : decode cX11_isWhat 4 = .ok (.invokestatic 318, 3) := by decide +kernel
theorem dX11_isWhat_7 : decode cX11_isWhat 7 = .ok (.iconst 1, 1) := by decide +kernel
theorem dX11_isWhat_8 : decode cX11_isWhat 8 = .ok (.invokevirtual 192, 3) := by decide +kernel
theorem dX11_isWhat_11 : decode cX11_isWhat 11 = .ok (.ireturn, 1) := by decide +kernel
theorem dX11_onLink_0 : decode cX11_onLink 0 = .ok (.iconst 0, 1) := by decide +kernel
theorem dX11_onLink_1 : decode cX11_onLink 1 = .ok (.istore_n 2, 1) := by decide +kernel
theorem dX11_onLink_2 : decode cX11_onLink 2 = .ok (.iconst 0, 1) := by decide +kernel
theorem dX11_onLink_3 : decode cX11_onLink 3 = .ok (.istore_n 3, 1) := by decide +kernel
theorem dX11_onLink_4 : decode cX11_onLink 4 = .ok (.iload_n 3, 1) := by decide +kernel
theorem dX11_onLink_5 : decode cX11_onLink 5 = .ok (.aload_n 0, 1) := by decide +kernel
theorem dX11_onLink_6 : decode cX11_onLink 6 = .ok (.getfield 202, 3) := by decide +kernel
theorem dX11_onLink_9 : decode cX11_onLink 9 = .ok (.if_icmp .ge 33, 3) := by decide +kernel
theorem dX11_onLink_12 : decode cX11_onLink 12 = .ok (.iload_n 2, 1) := by decide +kernel
theorem dX11_onLink_13 : decode cX11_onLink 13 = .ok (.aload_n 0, 1) := by decide +kernel
theorem dX11_onLink_14 : decode cX11_onLink 14 = .ok (.iconst 0, 1) := by decide +kernel
theorem dX11_onLink_15 : decode cX11_onLink 15 = .ok (.iload_n 3, 1) := by decide +kernel
theorem dX11_onLink_16 : decode cX11_onLink 16 = .ok (.invokevirtual 226, 3) := by decide +kernel
theorem dX11_onLink_19 : decode cX11_onLink 19 = .ok (.iload_n 1, 1) := by decide +kernel
theorem dX11_onLink_20 : decode cX11_onLink 20 = .ok (.ishr, 1) := by decide +kernel
theorem dX11_onLink_21 : decode cX11_onLink 21 = .ok (.iconst 1, 1) := by decide +kernel
theorem dX11_onLink_22 : decode cX11_onLink 22 = .ok (.iand, 1) := by decide +kernel
theorem dX11_onLink_23 : decode cX11_onLink 23 = .ok (.iconst 1, 1) := by decide +kernel
theorem dX11_onLink_24 : decode cX11_onLink 24 = .ok (.if_icmp .ne 9, 3) := by decide +kernel
theorem dX11_onLink_27 : decode cX11_onLink 27 = .ok (.iconst 1, 1) := by decide +kernel
theorem dX11_onLink_28 : decode cX11_onLink 28 = .ok (.iload_n 3, 1) := by decide +kernel
theorem dX11_onLink_29 : decode cX11_onLink 29 = .ok (.ishl, 1) := by decide +kernel
theorem dX11_onLink_30 : decode cX11_onLink 30 = .ok (.goto 4, 3) := by decide +kernel
theorem dX11_onLink_33 : decode cX11_onLink 33 = .ok (.iconst 0, 1) := by decide +kernel
theorem dX11_onLink_34 : decode cX11_onLink 34 = .ok (.ior, 1) := by decide +kernel
theorem dX11_onLink_35 : decode cX11_onLink 35 = .ok (.istore_n 2, 1) := by decide +kernel
theorem dX11_onLink_36 : decode cX11_onLink 36 = .ok (.iinc 3 1, 3) := by decide +kernel
theorem dX11_onLink_39 : decode cX11_onLink 39 = .ok (.goto (-35), 3) := by decide +kernel
theorem dX11_onLink_42 : decode cX11_onLink 42 = .ok (.iload_n 2, 1) := by decide +kernel
theorem dX11_onLink_43 : decode cX11_onLink 43 = .ok (.ireturn, 1) := by decide +kernel
theorem dX11_link_0 : decode cX11_link 0 = .ok (.aload_n 0, 1) := by decide +kernel
theorem dX11_link_1 : decode cX11_link 1 = .ok (.iconst 0, 1) := by decide +kernel
theorem dX11_link_2 : decode cX11_link 2 = .ok (.putfield 96, 3) := by decide +kernel
theorem dX11_link_5 : decode cX11_link 5 = .ok (.aload_n 0, 1) := by decide +kernel
theorem dX11_link_6 : decode cX11_link 6 = .ok (.iload_n 1, 1) := by decide +kernel
theorem dX11_link_7 : decode cX11_link 7 = .ok (.invokevirtual 335, 3) := by decide +kernel
theorem dX11_link_10 : decode cX11_link 10 = .ok (.ifCond .eq 13, 3) := by decide +kernel
theorem dX11_link_13 : decode cX11_link 13 = .ok (.aload_n 0, 1) := by decide +kernel
theorem dX11_link_14 : decode cX11_link 14 = .ok (.iload_n 2, 1) := by decide +kernel
theorem dX11_link_15 : decode cX11_link 15 = .ok (.bipush 7, 2) := by decide +kernel
theorem dX11_link_17 : decode cX11_link 17 = .ok (.invokevirtual 338, 3) := by decide +kernel
theorem dX11_link_20 : decode cX11_link 20 = .ok (.ifCond .ne 5, 3) := by decide +kernel
theorem dX11_link_23 : decode cX11_link 23 = .ok (.iconst 0, 1) := by decide +kernel
theorem dX11_link_24 : decode cX11_link 24 = .ok (.ireturn, 1) := by decide +kernel
theorem dX11_link_25 : decode cX11_link 25 = .ok (.iload_n 2, 1) := by decide +kernel
theorem dX11_link_26 : decode cX11_link 26 = .ok (.tableswitch 54 5 7 #[26, 41, 48], 26) := by decide +kernel
theorem dX11_link_52 : decode cX11_link 52 = .ok (.aload_n 0, 1) := by decide +kernel
theorem dX11_link_53 : decode cX11_link 53 = .ok (.iconst 0, 1) := by decide +kernel
theorem dX11_link_54 : decode cX11_link 54 = .ok (.iload_n 1, 1) := by decide +kernel
theorem dX11_link_55 : decode cX11_link 55 = .ok (.invokevirtual 233, 3) := by decide +kernel
theorem dX11_link_58 : decode cX11_link 58 = .ok (.ifCond .eq 7, 3) := by decide +kernel
theorem dX11_link_61 : decode cX11_link 61 = .ok (.iconst 1, 1) := by decide +kernel
theorem dX11_link_62 : decode cX11_link 62 = .ok (.goto 4, 3) := by decide +kernel
theorem dX11_link_65 : decode cX11_link 65 = .ok (.iconst 0, 1) := by decide +kernel
theorem dX11_link_66 : decode cX11_link 66 = .ok (.ireturn, 1) := by decide +kernel
theorem dX11_link_67 : decode cX11_link 67 = .ok (.aload_n 0, 1) := by decide +kernel
theorem dX11_link_68 : decode cX11_link 68 = .ok (.iconst 0, 1) := by decide +kernel
theorem dX11_link_69 : decode cX11_link 69 = .ok (.iload_n 1, 1) := by decide +kernel
theorem dX11_link_70 : decode cX11_link 70 = .ok (.invokevirtual 269, 3) := by decide +kernel
theorem dX11_link_73 : decode cX11_link 73 = .ok (.ireturn, 1) := by decide +kernel
theorem dX11_link_74 : decode cX11_link 74 = .ok (.aload_n 0, 1) := by decide +kernel
theorem dX11_link_75 : decode cX11_link 75 = .ok (.iload_n 1, 1) := by decide +kernel
theorem dX11_link_76 : decode cX11_link 76 = .ok (.invokevirtual 341, 3) := by decide +kernel
theorem dX11_link_79 : decode cX11_link 79 = .ok (.ireturn, 1) := by decide +kernel
theorem dX11_link_80 : decode cX11_link 80 = .ok (.aload_n 0, 1) := by decide +kernel
theorem dX11_link_81 : decode cX11_link 81 = .ok (.getfield 23, 3) := by decide +kernel
theorem dX11_link_84 : decode cX11_link 84 = .ok (.iconst 5, 1) := by decide +kernel
theorem dX11_link_85 : decode cX11_link 85 = .ok (.iload_n 1, 1) := by decide +kernel
theorem dX11_link_86 : decode cX11_link 86 = .ok (.imul, 1) := by decide +kernel
theorem dX11_link_87 : decode cX11_link 87 = .ok (.iload_n 2, 1) := by decide +kernel
theorem dX11_link_88 : decode cX11_link 88 = .ok (.iadd, 1) := by decide +kernel
theorem dX11_link_89 : decode cX11_link 89 = .ok (.iaload, 1) := by decide +kernel
theorem dX11_link_90 : decode cX11_link 90 = .ok (.ireturn, 1) := by decide +kernel
theorem dX11_pool_0 : decode cX11_pool 0 = .ok (.aload_n 0, 1) := by decide +kernel
theorem dX11_pool_1 : decode cX11_pool 1 = .ok (.iconst 0, 1) := by decide +kernel
theorem dX11_pool_2 : decode cX11_pool 2 = .ok (.putfield 96, 3) := by decide +kernel
theorem dX11_pool_5 : decode cX11_pool 5 = .ok (.aload_n 0, 1) := by decide +kernel
theorem dX11_pool_6 : decode cX11_pool 6 = .ok (.iload_n 1, 1) := by decide +kernel
theorem dX11_pool_7 : decode cX11_pool 7 = .ok (.invokevirtual 335, 3) := by decide +kernel
theorem dX11_pool_10 : decode cX11_pool 10 = .ok (.ifCond .eq 18, 3) := by decide +kernel
theorem dX11_pool_13 : decode cX11_pool 13 = .ok (.aload_n 0, 1) := by decide +kernel
theorem dX11_pool_14 : decode cX11_pool 14 = .ok (.iload_n 2, 1) := by decide +kernel
theorem dX11_pool_15 : decode cX11_pool 15 = .ok (.iconst 0, 1) := by decide +kernel
theorem dX11_pool_16 : decode cX11_pool 16 = .ok (.bipush 7, 2) := by decide +kernel
theorem dX11_pool_18 : decode cX11_pool 18 = .ok (.invokestatic 318, 3) := by decide +kernel
theorem dX11_pool_21 : decode cX11_pool 21 = .ok (.iconst 2, 1) := by decide +kernel
theorem dX11_pool_22 : decode cX11_pool 22 = .ok (.invokevirtual 192, 3) := by decide +kernel
theorem dX11_pool_25 : decode cX11_pool 25 = .ok (.ifCond .ne 5, 3) := by decide +kernel
theorem dX11_pool_28 : decode cX11_pool 28 = .ok (.iconst 0, 1) := by decide +kernel
theorem dX11_pool_29 : decode cX11_pool 29 = .ok (.ireturn, 1) := by decide +kernel
theorem dX11_pool_30 : decode cX11_pool 30 = .ok (.aload_n 0, 1) := by decide +kernel
theorem dX11_pool_31 : decode cX11_pool 31 = .ok (.iconst 0, 1) := by decide +kernel
theorem dX11_pool_32 : decode cX11_pool 32 = .ok (.iload_n 1, 1) := by decide +kernel
theorem dX11_pool_33 : decode cX11_pool 33 = .ok (.iload_n 2, 1) := by decide +kernel
theorem dX11_pool_34 : decode cX11_pool 34 = .ok (.invokevirtual 229, 3) := by decide +kernel
theorem dX11_pool_37 : decode cX11_pool 37 = .ok (.ireturn, 1) := by decide +kernel
theorem dX11_stretch_0 : decode cX11_stretch 0 = .ok (.aload_n 0, 1) := by decide +kernel
theorem dX11_stretch_1 : decode cX11_stretch 1 = .ok (.iconst 0, 1) := by decide +kernel
theorem dX11_stretch_2 : decode cX11_stretch 2 = .ok (.iload_n 1, 1) := by decide +kernel
theorem dX11_stretch_3 : decode cX11_stretch 3 = .ok (.invokevirtual 219, 3) := by decide +kernel
theorem dX11_stretch_6 : decode cX11_stretch 6 = .ok (.ifCond .eq 12, 3) := by decide +kernel
theorem dX11_stretch_9 : decode cX11_stretch 9 = .ok (.aload_n 0, 1) := by decide +kernel
theorem dX11_stretch_10 : decode cX11_stretch 10 = .ok (.iconst 0, 1) := by decide +kernel
theorem dX11_stretch_11 : decode cX11_stretch 11 = .ok (.iload_n 1, 1) := by decide +kernel
theorem dX11_stretch_12 : decode cX11_stretch 12 = .ok (.invokevirtual 344, 3) := by decide +kernel
theorem dX11_stretch_15 : decode cX11_stretch 15 = .ok (.ifCond .ne 5, 3) := by decide +kernel
theorem dX11_stretch_18 : decode cX11_stretch 18 = .ok (.iconst (-1), 1) := by decide +kernel
theorem dX11_stretch_19 : decode cX11_stretch 19 = .ok (.ireturn, 1) := by decide +kernel
theorem dX11_stretch_20 : decode cX11_stretch 20 = .ok (.aload_n 0, 1) := by decide +kernel
theorem dX11_stretch_21 : decode cX11_stretch 21 = .ok (.aload_n 0, 1) := by decide +kernel
theorem dX11_stretch_22 : decode cX11_stretch 22 = .ok (.iconst 0, 1) := by decide +kernel
theorem dX11_stretch_23 : decode cX11_stretch 23 = .ok (.iload_n 1, 1) := by decide +kernel
theorem dX11_stretch_24 : decode cX11_stretch 24 = .ok (.invokevirtual 226, 3) := by decide +kernel
theorem dX11_stretch_27 : decode cX11_stretch 27 = .ok (.invokevirtual 240, 3) := by decide +kernel
theorem dX11_stretch_30 : decode cX11_stretch 30 = .ok (.aload_n 0, 1) := by decide +kernel
theorem dX11_stretch_31 : decode cX11_stretch 31 = .ok (.getfield 249, 3) := by decide +kernel
theorem dX11_stretch_34 : decode cX11_stretch 34 = .ok (.isub, 1) := by decide +kernel
theorem dX11_stretch_35 : decode cX11_stretch 35 = .ok (.ireturn, 1) := by decide +kernel
theorem dX11_tunnel_0 : decode cX11_tunnel 0 = .ok (.aload_n 0, 1) := by decide +kernel
theorem dX11_tunnel_1 : decode cX11_tunnel 1 = .ok (.iconst 0, 1) := by decide +kernel
theorem dX11_tunnel_2 : decode cX11_tunnel 2 = .ok (.putfield 96, 3) := by decide +kernel
theorem dX11_tunnel_5 : decode cX11_tunnel 5 = .ok (.aload_n 0, 1) := by decide +kernel
theorem dX11_tunnel_6 : decode cX11_tunnel 6 = .ok (.iload_n 1, 1) := by decide +kernel
theorem dX11_tunnel_7 : decode cX11_tunnel 7 = .ok (.invokevirtual 347, 3) := by decide +kernel
theorem dX11_tunnel_10 : decode cX11_tunnel 10 = .ok (.ifCond .eq 13, 3) := by decide +kernel
theorem dX11_tunnel_13 : decode cX11_tunnel 13 = .ok (.aload_n 0, 1) := by decide +kernel
theorem dX11_tunnel_14 : decode cX11_tunnel 14 = .ok (.iload_n 2, 1) := by decide +kernel
theorem dX11_tunnel_15 : decode cX11_tunnel 15 = .ok (.bipush 10, 2) := by decide +kernel
theorem dX11_tunnel_17 : decode cX11_tunnel 17 = .ok (.invokevirtual 338, 3) := by decide +kernel
theorem dX11_tunnel_20 : decode cX11_tunnel 20 = .ok (.ifCond .ne 5, 3) := by decide +kernel
theorem dX11_tunnel_23 : decode cX11_tunnel 23 = .ok (.iconst 0, 1) := by decide +kernel
theorem dX11_tunnel_24 : decode cX11_tunnel 24 = .ok (.ireturn, 1) := by decide +kernel
theorem dX11_tunnel_25 : decode cX11_tunnel 25 = .ok (.iload_n 2, 1) := by decide +kernel
theorem dX11_tunnel_26 : decode cX11_tunnel 26 = .ok (.tableswitch 114 2 10 #[50, 114, 114, 114, 114, 59, 74, 84, 108], 50) := by decide +kernel
theorem dX11_tunnel_76 : decode cX11_tunnel 76 = .ok (.aload_n 0, 1) := by decide +kernel
theorem dX11_tunnel_77 : decode cX11_tunnel 77 = .ok (.getfield 35, 3) := by decide +kernel
theorem dX11_tunnel_80 : decode cX11_tunnel 80 = .ok (.iconst 1, 1) := by decide +kernel
theorem dX11_tunnel_81 : decode cX11_tunnel 81 = .ok (.iload_n 1, 1) := by decide +kernel
theorem dX11_tunnel_82 : decode cX11_tunnel 82 = .ok (.iadd, 1) := by decide +kernel
theorem dX11_tunnel_83 : decode cX11_tunnel 83 = .ok (.iaload, 1) := by decide +kernel
theorem dX11_tunnel_84 : decode cX11_tunnel 84 = .ok (.ireturn, 1) := by decide +kernel
theorem dX11_tunnel_85 : decode cX11_tunnel 85 = .ok (.aload_n 0, 1) := by decide +kernel
theorem dX11_tunnel_86 : decode cX11_tunnel 86 = .ok (.iconst 0, 1) := by decide +kernel
theorem dX11_tunnel_87 : decode cX11_tunnel 87 = .ok (.iload_n 1, 1) := by decide +kernel
theorem dX11_tunnel_88 : decode cX11_tunnel 88 = .ok (.invokevirtual 219, 3) := by decide +kernel
theorem dX11_tunnel_91 : decode cX11_tunnel 91 = .ok (.ifCond .eq 7, 3) := by decide +kernel
theorem dX11_tunnel_94 : decode cX11_tunnel 94 = .ok (.iconst 1, 1) := by decide +kernel
theorem dX11_tunnel_95 : decode cX11_tunnel 95 = .ok (.goto 4, 3) := by decide +kernel
theorem dX11_tunnel_98 : decode cX11_tunnel 98 = .ok (.iconst 0, 1) := by decide +kernel
theorem dX11_tunnel_99 : decode cX11_tunnel 99 = .ok (.ireturn, 1) := by decide +kernel
theorem dX11_tunnel_100 : decode cX11_tunnel 100 = .ok (.aload_n 0, 1) := by decide +kernel
theorem dX11_tunnel_101 : decode cX11_tunnel 101 = .ok (.getfield 35, 3) := by decide +kernel
theorem dX11_tunnel_104 : decode cX11_tunnel 104 = .ok (.bipush 10, 2) := by decide +kernel
theorem dX11_tunnel_106 : decode cX11_tunnel 106 = .ok (.iload_n 1, 1) := by decide +kernel
theorem dX11_tunnel_107 : decode cX11_tunnel 107 = .ok (.iadd, 1) := by decide +kernel
theorem dX11_tunnel_108 : decode cX11_tunnel 108 = .ok (.iaload, 1) := by decide +kernel
theorem dX11_tunnel_109 : decode cX11_tunnel 109 = .ok (.ireturn, 1) := by decide +kernel
theorem dX11_tunnel_110 : decode cX11_tunnel 110 = .ok (.aload_n 0, 1) := by decide +kernel
theorem dX11_tunnel_111 : decode cX11_tunnel 111 = .ok (.iconst 0, 1) := by decide +kernel
theorem dX11_tunnel_112 : decode cX11_tunnel 112 = .ok (.iload_n 1, 1) := by decide +kernel
theorem dX11_tunnel_113 : decode cX11_tunnel 113 = .ok (.invokevirtual 219, 3) := by decide +kernel
theorem dX11_tunnel_116 : decode cX11_tunnel 116 = .ok (.ifCond .eq 16, 3) := by decide +kernel
theorem dX11_tunnel_119 : decode cX11_tunnel 119 = .ok (.aload_n 0, 1) := by decide +kernel
theorem dX11_tunnel_120 : decode cX11_tunnel 120 = .ok (.aload_n 0, 1) := by decide +kernel
theorem dX11_tunnel_121 : decode cX11_tunnel 121 = .ok (.iconst 0, 1) := by decide +kernel
theorem dX11_tunnel_122 : decode cX11_tunnel 122 = .ok (.iload_n 1, 1) := by decide +kernel
theorem dX11_tunnel_123 : decode cX11_tunnel 123 = .ok (.invokevirtual 226, 3) := by decide +kernel
theorem dX11_tunnel_126 : decode cX11_tunnel 126 = .ok (.invokevirtual 240, 3) := by decide +kernel
theorem dX11_tunnel_129 : decode cX11_tunnel 129 = .ok (.goto 4, 3) := by decide +kernel
theorem dX11_tunnel_132 : decode cX11_tunnel 132 = .ok (.iconst (-1), 1) := by decide +kernel
theorem dX11_tunnel_133 : decode cX11_tunnel 133 = .ok (.ireturn, 1) := by decide +kernel
theorem dX11_tunnel_134 : decode cX11_tunnel 134 = .ok (.aload_n 0, 1) := by decide +kernel
theorem dX11_tunnel_135 : decode cX11_tunnel 135 = .ok (.iload_n 1, 1) := by decide +kernel
theorem dX11_tunnel_136 : decode cX11_tunnel 136 = .ok (.invokevirtual 350, 3) := by decide +kernel
theorem dX11_tunnel_139 : decode cX11_tunnel 139 = .ok (.ireturn, 1) := by decide +kernel
theorem dX11_tunnel_140 : decode cX11_tunnel 140 = .ok (.aload_n 0, 1) := by decide +kernel
theorem dX11_tunnel_141 : decode cX11_tunnel 141 = .ok (.getfield 29, 3) := by decide +kernel
theorem dX11_tunnel_144 : decode cX11_tunnel 144 = .ok (.bipush 7, 2) := by decide +kernel
theorem dX11_tunnel_146 : decode cX11_tunnel 146 = .ok (.iload_n 1, 1) := by decide +kernel
theorem dX11_tunnel_147 : decode cX11_tunnel 147 = .ok (.imul, 1) := by decide +kernel
theorem dX11_tunnel_148 : decode cX11_tunnel 148 = .ok (.iload_n 2, 1) := by decide +kernel
theorem dX11_tunnel_149 : decode cX11_tunnel 149 = .ok (.iadd, 1) := by decide +kernel
theorem dX11_tunnel_150 : decode cX11_tunnel 150 = .ok (.iaload, 1) := by decide +kernel
theorem dX11_tunnel_151 : decode cX11_tunnel 151 = .ok (.ireturn, 1) := by decide +kernel
theorem dX11_way_0 : decode cX11_way 0 = .ok (.aload_n 0, 1) := by decide +kernel
theorem dX11_way_1 : decode cX11_way 1 = .ok (.iconst 0, 1) := by decide +kernel
theorem dX11_way_2 : decode cX11_way 2 = .ok (.putfield 96, 3) := by decide +kernel
theorem dX11_way_5 : decode cX11_way 5 = .ok (.aload_n 0, 1) := by decide +kernel
theorem dX11_way_6 : decode cX11_way 6 = .ok (.iload_n 1, 1) := by decide +kernel
theorem dX11_way_7 : decode cX11_way 7 = .ok (.invokevirtual 347, 3) := by decide +kernel
theorem dX11_way_10 : decode cX11_way 10 = .ok (.ifCond .eq 33, 3) := by decide +kernel
theorem dX11_way_13 : decode cX11_way 13 = .ok (.aload_n 0, 1) := by decide +kernel
theorem dX11_way_14 : decode cX11_way 14 = .ok (.iload_n 2, 1) := by decide +kernel
theorem dX11_way_15 : decode cX11_way 15 = .ok (.ifCond .lt 20, 3) := by decide +kernel
theorem dX11_way_18 : decode cX11_way 18 = .ok (.iload_n 2, 1) := by decide +kernel
theorem dX11_way_19 : decode cX11_way 19 = .ok (.aload_n 0, 1) := by decide +kernel
theorem dX11_way_20 : decode cX11_way 20 = .ok (.getfield 35, 3) := by decide +kernel
theorem dX11_way_23 : decode cX11_way 23 = .ok (.bipush 10, 2) := by decide +kernel
theorem dX11_way_25 : decode cX11_way 25 = .ok (.iload_n 1, 1) := by decide +kernel
theorem dX11_way_26 : decode cX11_way 26 = .ok (.iadd, 1) := by decide +kernel
theorem dX11_way_27 : decode cX11_way 27 = .ok (.iaload, 1) := by decide +kernel
theorem dX11_way_28 : decode cX11_way 28 = .ok (.if_icmp .ge 7, 3) := by decide +kernel
theorem dX11_way_31 : decode cX11_way 31 = .ok (.iconst 1, 1) := by decide +kernel
theorem dX11_way_32 : decode cX11_way 32 = .ok (.goto 4, 3) := by decide +kernel
theorem dX11_way_35 : decode cX11_way 35 = .ok (.iconst 0, 1) := by decide +kernel
theorem dX11_way_36 : decode cX11_way 36 = .ok (.iconst 1, 1) := by decide +kernel
theorem dX11_way_37 : decode cX11_way 37 = .ok (.invokevirtual 192, 3) := by decide +kernel
theorem dX11_way_40 : decode cX11_way 40 = .ok (.ifCond .ne 5, 3) := by decide +kernel
theorem dX11_way_43 : decode cX11_way 43 = .ok (.iconst 0, 1) := by decide +kernel
theorem dX11_way_44 : decode cX11_way 44 = .ok (.ireturn, 1) := by decide +kernel
theorem dX11_way_45 : decode cX11_way 45 = .ok (.aload_n 0, 1) := by decide +kernel
theorem dX11_way_46 : decode cX11_way 46 = .ok (.getfield 35, 3) := by decide +kernel
theorem dX11_way_49 : decode cX11_way 49 = .ok (.bipush 19, 2) := by decide +kernel
theorem dX11_way_51 : decode cX11_way 51 = .ok (.bipush 7, 2) := by decide +kernel
theorem dX11_way_53 : decode cX11_way 53 = .ok (.iload_n 1, 1) := by decide +kernel
theorem dX11_way_54 : decode cX11_way 54 = .ok (.imul, 1) := by decide +kernel
theorem dX11_way_55 : decode cX11_way 55 = .ok (.iadd, 1) := by decide +kernel
theorem dX11_way_56 : decode cX11_way 56 = .ok (.iload_n 2, 1) := by decide +kernel
theorem dX11_way_57 : decode cX11_way 57 = .ok (.iadd, 1) := by decide +kernel
theorem dX11_way_58 : decode cX11_way 58 = .ok (.iaload, 1) := by decide +kernel
theorem dX11_way_59 : decode cX11_way 59 = .ok (.ireturn, 1) := by decide +kernel
theorem dX11_best_0 : decode cX11_best 0 = .ok (.aload_n 0, 1) := by decide +kernel
theorem dX11_best_1 : decode cX11_best 1 = .ok (.iconst 0, 1) := by decide +kernel
theorem dX11_best_2 : decode cX11_best 2 = .ok (.putfield 96, 3) := by decide +kernel
theorem dX11_best_5 : decode cX11_best 5 = .ok (.aload_n 0, 1) := by decide +kernel
theorem dX11_best_6 : decode cX11_best 6 = .ok (.iload_n 1, 1) := by decide +kernel
theorem dX11_best_7 : decode cX11_best 7 = .ok (.invokevirtual 347, 3) := by decide +kernel
theorem dX11_best_10 : decode cX11_best 10 = .ok (.ifCond .eq 20, 3) := by decide +kernel
theorem dX11_best_13 : decode cX11_best 13 = .ok (.aload_n 0, 1) := by decide +kernel
theorem dX11_best_14 : decode cX11_best 14 = .ok (.iload_n 2, 1) := by decide +kernel
theorem dX11_best_15 : decode cX11_best 15 = .ok (.ifCond .lt 7, 3) := by decide +kernel
theorem dX11_best_18 : decode cX11_best 18 = .ok (.iconst 1, 1) := by decide +kernel
theorem dX11_best_19 : decode cX11_best 19 = .ok (.goto 4, 3) := by decide +kernel
theorem dX11_best_22 : decode cX11_best 22 = .ok (.iconst 0, 1) := by decide +kernel
theorem dX11_best_23 : decode cX11_best 23 = .ok (.iconst 1, 1) := by decide +kernel
theorem dX11_best_24 : decode cX11_best 24 = .ok (.invokevirtual 192, 3) := by decide +kernel
theorem dX11_best_27 : decode cX11_best 27 = .ok (.ifCond .ne 5, 3) := by decide +kernel
theorem dX11_best_30 : decode cX11_best 30 = .ok (.iconst 0, 1) := by decide +kernel
theorem dX11_best_31 : decode cX11_best 31 = .ok (.ireturn, 1) := by decide +kernel
theorem dX11_best_32 : decode cX11_best 32 = .ok (.aload_n 0, 1) := by decide +kernel
theorem dX11_best_33 : decode cX11_best 33 = .ok (.iconst 0, 1) := by decide +kernel
theorem dX11_best_34 : decode cX11_best 34 = .ok (.iload_n 1, 1) := by decide +kernel
theorem dX11_best_35 : decode cX11_best 35 = .ok (.aload_n 0, 1) := by decide +kernel
theorem dX11_best_36 : decode cX11_best 36 = .ok (.getfield 35, 3) := by decide +kernel
theorem dX11_best_39 : decode cX11_best 39 = .ok (.iconst 1, 1) := by decide +kernel
theorem dX11_best_40 : decode cX11_best 40 = .ok (.iload_n 1, 1) := by decide +kernel
theorem dX11_best_41 : decode cX11_best 41 = .ok (.iadd, 1) := by decide +kernel
theorem dX11_best_42 : decode cX11_best 42 = .ok (.iaload, 1) := by decide +kernel
theorem dX11_best_43 : decode cX11_best 43 = .ok (.invokevirtual 287, 3) := by decide +kernel
theorem dX11_best_46 : decode cX11_best 46 = .ok (.ifCond .eq 20, 3) := by decide +kernel
theorem dX11_best_49 : decode cX11_best 49 = .ok (.iload_n 2, 1) := by decide +kernel
theorem dX11_best_50 : decode cX11_best 50 = .ok (.aload_n 0, 1) := by decide +kernel
theorem dX11_best_51 : decode cX11_best 51 = .ok (.getfield 246, 3) := by decide +kernel
theorem dX11_best_54 : decode cX11_best 54 = .ok (.if_icmp .ge 12, 3) := by decide +kernel
theorem dX11_best_57 : decode cX11_best 57 = .ok (.aload_n 0, 1) := by decide +kernel
theorem dX11_best_58 : decode cX11_best 58 = .ok (.getfield 51, 3) := by decide +kernel
theorem dX11_best_61 : decode cX11_best 61 = .ok (.iload_n 2, 1) := by decide +kernel
theorem dX11_best_62 : decode cX11_best 62 = .ok (.iaload, 1) := by decide +kernel
theorem dX11_best_63 : decode cX11_best 63 = .ok (.goto 4, 3) := by decide +kernel
theorem dX11_best_66 : decode cX11_best 66 = .ok (.iconst (-1), 1) := by decide +kernel
theorem dX11_best_67 : decode cX11_best 67 = .ok (.ireturn, 1) := by decide +kernel
theorem dX11_pushes_0 : decode cX11_pushes 0 = .ok (.aload_n 0, 1) := by decide +kernel
theorem dX11_pushes_1 : decode cX11_pushes 1 = .ok (.iconst 0, 1) := by decide +kernel
theorem dX11_pushes_2 : decode cX11_pushes 2 = .ok (.putfield 96, 3) := by decide +kernel
theorem dX11_pushes_5 : decode cX11_pushes 5 = .ok (.aload_n 0, 1) := by decide +kernel
theorem dX11_pushes_6 : decode cX11_pushes 6 = .ok (.iload_n 1, 1) := by decide +kernel
theorem dX11_pushes_7 : decode cX11_pushes 7 = .ok (.invokevirtual 347, 3) := by decide +kernel
theorem dX11_pushes_10 : decode cX11_pushes 10 = .ok (.ifCond .eq 12, 3) := by decide +kernel
theorem dX11_pushes_13 : decode cX11_pushes 13 = .ok (.aload_n 0, 1) := by decide +kernel
theorem dX11_pushes_14 : decode cX11_pushes 14 = .ok (.iload_n 2, 1) := by decide +kernel
theorem dX11_pushes_15 : decode cX11_pushes 15 = .ok (.iconst 1, 1) := by decide +kernel
theorem dX11_pushes_16 : decode cX11_pushes 16 = .ok (.invokevirtual 338, 3) := by decide +kernel
theorem dX11_pushes_19 : decode cX11_pushes 19 = .ok (.ifCond .ne 5, 3) := by decide +kernel
theorem dX11_pushes_22 : decode cX11_pushes 22 = .ok (.iconst 0, 1) := by decide +kernel
theorem dX11_pushes_23 : decode cX11_pushes 23 = .ok (.ireturn, 1) := by decide +kernel
theorem dX11_pushes_24 : decode cX11_pushes 24 = .ok (.aload_n 0, 1) := by decide +kernel
theorem dX11_pushes_25 : decode cX11_pushes 25 = .ok (.invokevirtual 303, 3) := by decide +kernel
theorem dX11_pushes_28 : decode cX11_pushes 28 = .ok (.aload_n 0, 1) := by decide +kernel
theorem dX11_pushes_29 : decode cX11_pushes 29 = .ok (.bipush 82, 2) := by decide +kernel
theorem dX11_pushes_31 : decode cX11_pushes 31 = .ok (.iload_n 1, 1) := by decide +kernel
theorem dX11_pushes_32 : decode cX11_pushes 32 = .ok (.aload_n 0, 1) := by decide +kernel
theorem dX11_pushes_33 : decode cX11_pushes 33 = .ok (.getfield 35, 3) := by decide +kernel
theorem dX11_pushes_36 : decode cX11_pushes 36 = .ok (.iconst 1, 1) := by decide +kernel
theorem dX11_pushes_37 : decode cX11_pushes 37 = .ok (.iload_n 1, 1) := by decide +kernel
theorem dX11_pushes_38 : decode cX11_pushes 38 = .ok (.iadd, 1) := by decide +kernel
theorem dX11_pushes_39 : decode cX11_pushes 39 = .ok (.iaload, 1) := by decide +kernel
theorem dX11_pushes_40 : decode cX11_pushes 40 = .ok (.invokevirtual 287, 3) := by decide +kernel
theorem dX11_pushes_43 : decode cX11_pushes 43 = .ok (.ifCond .ne 5, 3) := by decide +kernel
theorem dX11_pushes_46 : decode cX11_pushes 46 = .ok (.iconst (-1), 1) := by decide +kernel
theorem dX11_pushes_47 : decode cX11_pushes 47 = .ok (.ireturn, 1) := by decide +kernel
theorem dX11_pushes_48 : decode cX11_pushes 48 = .ok (.iload_n 2, 1) := by decide +kernel
theorem dX11_pushes_49 : decode cX11_pushes 49 = .ok (.ifCond .ne 18, 3) := by decide +kernel
theorem dX11_pushes_52 : decode cX11_pushes 52 = .ok (.aload_n 0, 1) := by decide +kernel
theorem dX11_pushes_53 : decode cX11_pushes 53 = .ok (.bipush 82, 2) := by decide +kernel
theorem dX11_pushes_55 : decode cX11_pushes 55 = .ok (.iload_n 1, 1) := by decide +kernel
theorem dX11_pushes_56 : decode cX11_pushes 56 = .ok (.invokevirtual 290, 3) := by decide +kernel
theorem dX11_pushes_59 : decode cX11_pushes 59 = .ok (.aload_n 0, 1) := by decide +kernel
theorem dX11_pushes_60 : decode cX11_pushes 60 = .ok (.bipush 82, 2) := by decide +kernel
theorem dX11_pushes_62 : decode cX11_pushes 62 = .ok (.iload_n 1, 1) := by decide +kernel
theorem dX11_pushes_63 : decode cX11_pushes 63 = .ok (.invokevirtual 294, 3) := by decide +kernel
theorem dX11_pushes_66 : decode cX11_pushes 66 = .ok (.ireturn, 1) := by decide +kernel
theorem dX11_pushes_67 : decode cX11_pushes 67 = .ok (.aload_n 0, 1) := by decide +kernel
theorem dX11_pushes_68 : decode cX11_pushes 68 = .ok (.bipush 82, 2) := by decide +kernel
theorem dX11_pushes_70 : decode cX11_pushes 70 = .ok (.iconst 1, 1) := by decide +kernel
theorem dX11_pushes_71 : decode cX11_pushes 71 = .ok (.iload_n 1, 1) := by decide +kernel
theorem dX11_pushes_72 : decode cX11_pushes 72 = .ok (.ishl, 1) := by decide +kernel
theorem dX11_pushes_73 : decode cX11_pushes 73 = .ok (.invokevirtual 300, 3) := by decide +kernel
theorem dX11_pushes_76 : decode cX11_pushes 76 = .ok (.iconst 1, 1) := by decide +kernel
theorem dX11_pushes_77 : decode cX11_pushes 77 = .ok (.iload_n 1, 1) := by decide +kernel
theorem dX11_pushes_78 : decode cX11_pushes 78 = .ok (.ishl, 1) := by decide +kernel
theorem dX11_pushes_79 : decode cX11_pushes 79 = .ok (.iconst (-1), 1) := by decide +kernel
theorem dX11_pushes_80 : decode cX11_pushes 80 = .ok (.ixor, 1) := by decide +kernel
theorem dX11_pushes_81 : decode cX11_pushes 81 = .ok (.istore_n 3, 1) := by decide +kernel
theorem dX11_pushes_82 : decode cX11_pushes 82 = .ok (.aload_n 0, 1) := by decide +kernel
theorem dX11_pushes_83 : decode cX11_pushes 83 = .ok (.iconst 0, 1) := by decide +kernel
theorem dX11_pushes_84 : decode cX11_pushes 84 = .ok (.invokevirtual 309, 3) := by decide +kernel
theorem dX11_pushes_87 : decode cX11_pushes 87 = .ok (.iload_n 3, 1) := by decide +kernel
theorem dX11_pushes_88 : decode cX11_pushes 88 = .ok (.iand, 1) := by decide +kernel
theorem dX11_pushes_89 : decode cX11_pushes 89 = .ok (.invokestatic 275, 3) := by decide +kernel
theorem dX11_pushes_92 : decode cX11_pushes 92 = .ok (.aload_n 0, 1) := by decide +kernel
theorem dX11_pushes_93 : decode cX11_pushes 93 = .ok (.bipush 82, 2) := by decide +kernel
theorem dX11_pushes_95 : decode cX11_pushes 95 = .ok (.invokevirtual 309, 3) := by decide +kernel
theorem dX11_pushes_98 : decode cX11_pushes 98 = .ok (.iload_n 3, 1) := by decide +kernel
theorem dX11_pushes_99 : decode cX11_pushes 99 = .ok (.iand, 1) := by decide +kernel
theorem dX11_pushes_100 : decode cX11_pushes 100 = .ok (.invokestatic 275, 3) := by decide +kernel
theorem dX11_pushes_103 : decode cX11_pushes 103 = .ok (.isub, 1) := by decide +kernel
theorem dX11_pushes_104 : decode cX11_pushes 104 = .ok (.ireturn, 1) := by decide +kernel
theorem dX11_setUp_0 : decode cX11_setUp 0 = .ok (.aload_n 0, 1) := by decide +kernel
theorem dX11_setUp_1 : decode cX11_setUp 1 = .ok (.iconst 0, 1) := by decide +kernel
theorem dX11_setUp_2 : decode cX11_setUp 2 = .ok (.putfield 96, 3) := by decide +kernel
theorem dX11_setUp_5 : decode cX11_setUp 5 = .ok (.aload_n 0, 1) := by decide +kernel
theorem dX11_setUp_6 : decode cX11_setUp 6 = .ok (.iload_n 1, 1) := by decide +kernel
theorem dX11_setUp_7 : decode cX11_setUp 7 = .ok (.invokevirtual 347, 3) := by decide +kernel
theorem dX11_setUp_10 : decode cX11_setUp 10 = .ok (.ifCond .ne 5, 3) := by decide +kernel
theorem dX11_setUp_13 : decode cX11_setUp 13 = .ok (.iconst 0, 1) := by decide +kernel
theorem dX11_setUp_14 : decode cX11_setUp 14 = .ok (.ireturn, 1) := by decide +kernel
theorem dX11_setUp_15 : decode cX11_setUp 15 = .ok (.aload_n 0, 1) := by decide +kernel
theorem dX11_setUp_16 : decode cX11_setUp 16 = .ok (.iconst 0, 1) := by decide +kernel
theorem dX11_setUp_17 : decode cX11_setUp 17 = .ok (.iload_n 1, 1) := by decide +kernel
theorem dX11_setUp_18 : decode cX11_setUp 18 = .ok (.invokevirtual 219, 3) := by decide +kernel
theorem dX11_setUp_21 : decode cX11_setUp 21 = .ok (.ifCond .ne 20, 3) := by decide +kernel
theorem dX11_setUp_24 : decode cX11_setUp 24 = .ok (.aload_n 0, 1) := by decide +kernel
theorem dX11_setUp_25 : decode cX11_setUp 25 = .ok (.iconst 0, 1) := by decide +kernel
theorem dX11_setUp_26 : decode cX11_setUp 26 = .ok (.iload_n 1, 1) := by decide +kernel
theorem dX11_setUp_27 : decode cX11_setUp 27 = .ok (.aload_n 0, 1) := by decide +kernel
theorem dX11_setUp_28 : decode cX11_setUp 28 = .ok (.getfield 35, 3) := by decide +kernel
theorem dX11_setUp_31 : decode cX11_setUp 31 = .ok (.iconst 1, 1) := by decide +kernel
theorem dX11_setUp_32 : decode cX11_setUp 32 = .ok (.iload_n 1, 1) := by decide +kernel
theorem dX11_setUp_33 : decode cX11_setUp 33 = .ok (.iadd, 1) := by decide +kernel
theorem dX11_setUp_34 : decode cX11_setUp 34 = .ok (.iaload, 1) := by decide +kernel
theorem dX11_setUp_35 : decode cX11_setUp 35 = .ok (.invokevirtual 287, 3) := by decide +kernel
theorem dX11_setUp_38 : decode cX11_setUp 38 = .ok (.ifCond .ne 9, 3) := by decide +kernel
theorem dX11_setUp_41 : decode cX11_setUp 41 = .ok (.aload_n 0, 1) := by decide +kernel
theorem dX11_setUp_42 : decode cX11_setUp 42 = .ok (.iconst 1, 1) := by decide +kernel
theorem dX11_setUp_43 : decode cX11_setUp 43 = .ok (.invokevirtual 353, 3) := by decide +kernel
theorem dX11_setUp_46 : decode cX11_setUp 46 = .ok (.ireturn, 1) := by decide +kernel
theorem dX11_setUp_47 : decode cX11_setUp 47 = .ok (.aload_n 0, 1) := by decide +kernel
theorem dX11_setUp_48 : decode cX11_setUp 48 = .ok (.invokevirtual 356, 3) := by decide +kernel
theorem dX11_setUp_51 : decode cX11_setUp 51 = .ok (.aload_n 0, 1) := by decide +kernel
theorem dX11_setUp_52 : decode cX11_setUp 52 = .ok (.iconst 0, 1) := by decide +kernel
theorem dX11_setUp_53 : decode cX11_setUp 53 = .ok (.putfield 297, 3) := by decide +kernel
theorem dX11_setUp_56 : decode cX11_setUp 56 = .ok (.aload_n 0, 1) := by decide +kernel
theorem dX11_setUp_57 : decode cX11_setUp 57 = .ok (.iconst 0, 1) := by decide +kernel
theorem dX11_setUp_58 : decode cX11_setUp 58 = .ok (.iconst 1, 1) := by decide +kernel
theorem dX11_setUp_59 : decode cX11_setUp 59 = .ok (.iload_n 1, 1) := by decide +kernel
theorem dX11_setUp_60 : decode cX11_setUp 60 = .ok (.ishl, 1) := by decide +kernel
theorem dX11_setUp_61 : decode cX11_setUp 61 = .ok (.invokevirtual 300, 3) := by decide +kernel
theorem dX11_setUp_64 : decode cX11_setUp 64 = .ok (.aload_n 0, 1) := by decide +kernel
theorem dX11_setUp_65 : decode cX11_setUp 65 = .ok (.getfield 297, 3) := by decide +kernel
theorem dX11_setUp_68 : decode cX11_setUp 68 = .ok (.ireturn, 1) := by decide +kernel
theorem dX11_tearDown_0 : decode cX11_tearDown 0 = .ok (.aload_n 0, 1) := by decide +kernel
theorem dX11_tearDown_1 : decode cX11_tearDown 1 = .ok (.iconst 0, 1) := by decide +kernel
theorem dX11_tearDown_2 : decode cX11_tearDown 2 = .ok (.putfield 96, 3) := by decide +kernel
theorem dX11_tearDown_5 : decode cX11_tearDown 5 = .ok (.aload_n 0, 1) := by decide +kernel
theorem dX11_tearDown_6 : decode cX11_tearDown 6 = .ok (.iload_n 1, 1) := by decide +kernel
theorem dX11_tearDown_7 : decode cX11_tearDown 7 = .ok (.invokevirtual 347, 3) := by decide +kernel
theorem dX11_tearDown_10 : decode cX11_tearDown 10 = .ok (.ifCond .ne 5, 3) := by decide +kernel
theorem dX11_tearDown_13 : decode cX11_tearDown 13 = .ok (.iconst 0, 1) := by decide +kernel
theorem dX11_tearDown_14 : decode cX11_tearDown 14 = .ok (.ireturn, 1) := by decide +kernel
theorem dX11_tearDown_15 : decode cX11_tearDown 15 = .ok (.aload_n 0, 1) := by decide +kernel
theorem dX11_tearDown_16 : decode cX11_tearDown 16 = .ok (.iconst 0, 1) := by decide +kernel
theorem dX11_tearDown_17 : decode cX11_tearDown 17 = .ok (.iload_n 1, 1) := by decide +kernel
theorem dX11_tearDown_18 : decode cX11_tearDown 18 = .ok (.invokevirtual 219, 3) := by decide +kernel
theorem dX11_tearDown_21 : decode cX11_tearDown 21 = .ok (.ifCond .ne 17, 3) := by decide +kernel
theorem dX11_tearDown_24 : decode cX11_tearDown 24 = .ok (.aload_n 0, 1) := by decide +kernel
theorem dX11_tearDown_25 : decode cX11_tearDown 25 = .ok (.iconst 1, 1) := by decide +kernel
theorem dX11_tearDown_26 : decode cX11_tearDown 26 = .ok (.invokevirtual 353, 3) := by decide +kernel
theorem dX11_tearDown_29 : decode cX11_tearDown 29 = .ok (.ifCond .le 7, 3) := by decide +kernel
theorem dX11_tearDown_32 : decode cX11_tearDown 32 = .ok (.iconst 1, 1) := by decide +kernel
theorem dX11_tearDown_33 : decode cX11_tearDown 33 = .ok (.goto 4, 3) := by decide +kernel
theorem dX11_tearDown_36 : decode cX11_tearDown 36 = .ok (.iconst 0, 1) := by decide +kernel
theorem dX11_tearDown_37 : decode cX11_tearDown 37 = .ok (.ireturn, 1) := by decide +kernel
theorem dX11_tearDown_38 : decode cX11_tearDown 38 = .ok (.aload_n 0, 1) := by decide +kernel
theorem dX11_tearDown_39 : decode cX11_tearDown 39 = .ok (.invokevirtual 356, 3) := by decide +kernel
theorem dX11_tearDown_42 : decode cX11_tearDown 42 = .ok (.aload_n 0, 1) := by decide +kernel
theorem dX11_tearDown_43 : decode cX11_tearDown 43 = .ok (.getfield 35, 3) := by decide +kernel
theorem dX11_tearDown_46 : decode cX11_tearDown 46 = .ok (.bipush 10, 2) := by decide +kernel
theorem dX11_tearDown_48 : decode cX11_tearDown 48 = .ok (.iload_n 1, 1) := by decide +kernel
theorem dX11_tearDown_49 : decode cX11_tearDown 49 = .ok (.iadd, 1) := by decide +kernel
theorem dX11_tearDown_50 : decode cX11_tearDown 50 = .ok (.iconst (-1), 1) := by decide +kernel
theorem dX11_tearDown_51 : decode cX11_tearDown 51 = .ok (.iastore, 1) := by decide +kernel
theorem dX11_tearDown_52 : decode cX11_tearDown 52 = .ok (.iconst 1, 1) := by decide +kernel
theorem dX11_tearDown_53 : decode cX11_tearDown 53 = .ok (.ireturn, 1) := by decide +kernel
theorem dX11_isAsBest_0 : decode cX11_isAsBest 0 = .ok (.aload_n 0, 1) := by decide +kernel
theorem dX11_isAsBest_1 : decode cX11_isAsBest 1 = .ok (.getfield 35, 3) := by decide +kernel
theorem dX11_isAsBest_4 : decode cX11_isAsBest 4 = .ok (.bipush 10, 2) := by decide +kernel
theorem dX11_isAsBest_6 : decode cX11_isAsBest 6 = .ok (.iload_n 1, 1) := by decide +kernel
theorem dX11_isAsBest_7 : decode cX11_isAsBest 7 = .ok (.iadd, 1) := by decide +kernel
theorem dX11_isAsBest_8 : decode cX11_isAsBest 8 = .ok (.iaload, 1) := by decide +kernel
theorem dX11_isAsBest_9 : decode cX11_isAsBest 9 = .ok (.aload_n 0, 1) := by decide +kernel
theorem dX11_isAsBest_10 : decode cX11_isAsBest 10 = .ok (.getfield 246, 3) := by decide +kernel
theorem dX11_isAsBest_13 : decode cX11_isAsBest 13 = .ok (.if_icmp .ne 7, 3) := by decide +kernel
theorem dX11_isAsBest_16 : decode cX11_isAsBest 16 = .ok (.iconst 1, 1) := by decide +kernel
theorem dX11_isAsBest_17 : decode cX11_isAsBest 17 = .ok (.goto 4, 3) := by decide +kernel
theorem dX11_isAsBest_20 : decode cX11_isAsBest 20 = .ok (.iconst 0, 1) := by decide +kernel
theorem dX11_isAsBest_21 : decode cX11_isAsBest 21 = .ok (.istore_n 2, 1) := by decide +kernel
theorem dX11_isAsBest_22 : decode cX11_isAsBest 22 = .ok (.iconst 0, 1) := by decide +kernel
theorem dX11_isAsBest_23 : decode cX11_isAsBest 23 = .ok (.istore_n 3, 1) := by decide +kernel
theorem dX11_isAsBest_24 : decode cX11_isAsBest 24 = .ok (.iload_n 3, 1) := by decide +kernel
theorem dX11_isAsBest_25 : decode cX11_isAsBest 25 = .ok (.aload_n 0, 1) := by decide +kernel
theorem dX11_isAsBest_26 : decode cX11_isAsBest 26 = .ok (.getfield 246, 3) := by decide +kernel
theorem dX11_isAsBest_29 : decode cX11_isAsBest 29 = .ok (.if_icmp .ge 42, 3) := by decide +kernel
theorem dX11_isAsBest_32 : decode cX11_isAsBest 32 = .ok (.iload_n 2, 1) := by decide +kernel
theorem dX11_isAsBest_33 : decode cX11_isAsBest 33 = .ok (.ifCond .eq 38, 3) := by decide +kernel
theorem dX11_isAsBest_36 : decode cX11_isAsBest 36 = .ok (.aload_n 0, 1) := by decide +kernel
theorem dX11_isAsBest_37 : decode cX11_isAsBest 37 = .ok (.getfield 35, 3) := by decide +kernel
theorem dX11_isAsBest_40 : decode cX11_isAsBest 40 = .ok (.bipush 19, 2) := by decide +kernel
theorem dX11_isAsBest_42 : decode cX11_isAsBest 42 = .ok (.bipush 7, 2) := by decide +kernel
theorem dX11_isAsBest_44 : decode cX11_isAsBest 44 = .ok (.iload_n 1, 1) := by decide +kernel
theorem dX11_isAsBest_45 : decode cX11_isAsBest 45 = .ok (.imul, 1) := by decide +kernel
theorem dX11_isAsBest_46 : decode cX11_isAsBest 46 = .ok (.iadd, 1) := by decide +kernel
theorem dX11_isAsBest_47 : decode cX11_isAsBest 47 = .ok (.iload_n 3, 1) := by decide +kernel
theorem dX11_isAsBest_48 : decode cX11_isAsBest 48 = .ok (.iadd, 1) := by decide +kernel
theorem dX11_isAsBest_49 : decode cX11_isAsBest 49 = .ok (.iaload, 1) := by decide +kernel
theorem dX11_isAsBest_50 : decode cX11_isAsBest 50 = .ok (.aload_n 0, 1) := by decide +kernel
theorem dX11_isAsBest_51 : decode cX11_isAsBest 51 = .ok (.getfield 51, 3) := by decide +kernel
theorem dX11_isAsBest_54 : decode cX11_isAsBest 54 = .ok (.iload_n 3, 1) := by decide +kernel
theorem dX11_isAsBest_55 : decode cX11_isAsBest 55 = .ok (.iaload, 1) := by decide +kernel
theorem dX11_isAsBest_56 : decode cX11_isAsBest 56 = .ok (.if_icmp .ne 7, 3) := by decide +kernel
theorem dX11_isAsBest_59 : decode cX11_isAsBest 59 = .ok (.iconst 1, 1) := by decide +kernel
theorem dX11_isAsBest_60 : decode cX11_isAsBest 60 = .ok (.goto 4, 3) := by decide +kernel
theorem dX11_isAsBest_63 : decode cX11_isAsBest 63 = .ok (.iconst 0, 1) := by decide +kernel
theorem dX11_isAsBest_64 : decode cX11_isAsBest 64 = .ok (.istore_n 2, 1) := by decide +kernel
theorem dX11_isAsBest_65 : decode cX11_isAsBest 65 = .ok (.iinc 3 1, 3) := by decide +kernel
theorem dX11_isAsBest_68 : decode cX11_isAsBest 68 = .ok (.goto (-44), 3) := by decide +kernel
theorem dX11_isAsBest_71 : decode cX11_isAsBest 71 = .ok (.iload_n 2, 1) := by decide +kernel
theorem dX11_isAsBest_72 : decode cX11_isAsBest 72 = .ok (.ireturn, 1) := by decide +kernel
theorem dX11_move_0 : decode cX11_move 0 = .ok (.aload_n 0, 1) := by decide +kernel
theorem dX11_move_1 : decode cX11_move 1 = .ok (.iconst 0, 1) := by decide +kernel
theorem dX11_move_2 : decode cX11_move 2 = .ok (.putfield 96, 3) := by decide +kernel
theorem dX11_move_5 : decode cX11_move 5 = .ok (.aload_n 0, 1) := by decide +kernel
theorem dX11_move_6 : decode cX11_move 6 = .ok (.iload_n 1, 1) := by decide +kernel
theorem dX11_move_7 : decode cX11_move 7 = .ok (.invokevirtual 347, 3) := by decide +kernel
theorem dX11_move_10 : decode cX11_move 10 = .ok (.ifCond .ne 5, 3) := by decide +kernel
theorem dX11_move_13 : decode cX11_move 13 = .ok (.iconst 0, 1) := by decide +kernel
theorem dX11_move_14 : decode cX11_move 14 = .ok (.ireturn, 1) := by decide +kernel
theorem dX11_move_15 : decode cX11_move 15 = .ok (.aload_n 0, 1) := by decide +kernel
theorem dX11_move_16 : decode cX11_move 16 = .ok (.iconst 0, 1) := by decide +kernel
theorem dX11_move_17 : decode cX11_move 17 = .ok (.iload_n 1, 1) := by decide +kernel
theorem dX11_move_18 : decode cX11_move 18 = .ok (.invokevirtual 219, 3) := by decide +kernel
theorem dX11_move_21 : decode cX11_move 21 = .ok (.ifCond .eq 28, 3) := by decide +kernel
theorem dX11_move_24 : decode cX11_move 24 = .ok (.aload_n 0, 1) := by decide +kernel
theorem dX11_move_25 : decode cX11_move 25 = .ok (.iconst 0, 1) := by decide +kernel
theorem dX11_move_26 : decode cX11_move 26 = .ok (.iload_n 1, 1) := by decide +kernel
theorem dX11_move_27 : decode cX11_move 27 = .ok (.aload_n 0, 1) := by decide +kernel
theorem dX11_move_28 : decode cX11_move 28 = .ok (.getfield 35, 3) := by decide +kernel
theorem dX11_move_31 : decode cX11_move 31 = .ok (.iconst 1, 1) := by decide +kernel
theorem dX11_move_32 : decode cX11_move 32 = .ok (.iload_n 1, 1) := by decide +kernel
theorem dX11_move_33 : decode cX11_move 33 = .ok (.iadd, 1) := by decide +kernel
theorem dX11_move_34 : decode cX11_move 34 = .ok (.iaload, 1) := by decide +kernel
theorem dX11_move_35 : decode cX11_move 35 = .ok (.invokevirtual 287, 3) := by decide +kernel
theorem dX11_move_38 : decode cX11_move 38 = .ok (.ifCond .eq 11, 3) := by decide +kernel
theorem dX11_move_41 : decode cX11_move 41 = .ok (.aload_n 0, 1) := by decide +kernel
theorem dX11_move_42 : decode cX11_move 42 = .ok (.iload_n 1, 1) := by decide +kernel
theorem dX11_move_43 : decode cX11_move 43 = .ok (.invokevirtual 359, 3) := by decide +kernel
theorem dX11_move_46 : decode cX11_move 46 = .ok (.ifCond .eq 9, 3) := by decide +kernel
theorem dX11_move_49 : decode cX11_move 49 = .ok (.aload_n 0, 1) := by decide +kernel
theorem dX11_move_50 : decode cX11_move 50 = .ok (.iconst 1, 1) := by decide +kernel
theorem dX11_move_51 : decode cX11_move 51 = .ok (.invokevirtual 353, 3) := by decide +kernel
theorem dX11_move_54 : decode cX11_move 54 = .ok (.ireturn, 1) := by decide +kernel
theorem dX11_move_55 : decode cX11_move 55 = .ok (.aload_n 0, 1) := by decide +kernel
theorem dX11_move_56 : decode cX11_move 56 = .ok (.invokevirtual 356, 3) := by decide +kernel
theorem dX11_move_59 : decode cX11_move 59 = .ok (.aload_n 0, 1) := by decide +kernel
theorem dX11_move_60 : decode cX11_move 60 = .ok (.iconst 0, 1) := by decide +kernel
theorem dX11_move_61 : decode cX11_move 61 = .ok (.putfield 297, 3) := by decide +kernel
theorem dX11_move_64 : decode cX11_move 64 = .ok (.aload_n 0, 1) := by decide +kernel
theorem dX11_move_65 : decode cX11_move 65 = .ok (.iconst 0, 1) := by decide +kernel
theorem dX11_move_66 : decode cX11_move 66 = .ok (.iconst 1, 1) := by decide +kernel
theorem dX11_move_67 : decode cX11_move 67 = .ok (.iload_n 1, 1) := by decide +kernel
theorem dX11_move_68 : decode cX11_move 68 = .ok (.ishl, 1) := by decide +kernel
theorem dX11_move_69 : decode cX11_move 69 = .ok (.invokevirtual 300, 3) := by decide +kernel
theorem dX11_move_72 : decode cX11_move 72 = .ok (.aload_n 0, 1) := by decide +kernel
theorem dX11_move_73 : decode cX11_move 73 = .ok (.getfield 297, 3) := by decide +kernel
theorem dX11_move_76 : decode cX11_move 76 = .ok (.ireturn, 1) := by decide +kernel
theorem dX11_resize_0 : decode cX11_resize 0 = .ok (.aload_n 0, 1) := by decide +kernel
theorem dX11_resize_1 : decode cX11_resize 1 = .ok (.iconst 0, 1) := by decide +kernel
theorem dX11_resize_2 : decode cX11_resize 2 = .ok (.putfield 96, 3) := by decide +kernel
theorem dX11_resize_5 : decode cX11_resize 5 = .ok (.aload_n 0, 1) := by decide +kernel
theorem dX11_resize_6 : decode cX11_resize 6 = .ok (.iload_n 1, 1) := by decide +kernel
theorem dX11_resize_7 : decode cX11_resize 7 = .ok (.invokevirtual 347, 3) := by decide +kernel
theorem dX11_resize_10 : decode cX11_resize 10 = .ok (.ifCond .ne 5, 3) := by decide +kernel
theorem dX11_resize_13 : decode cX11_resize 13 = .ok (.iconst 0, 1) := by decide +kernel
theorem dX11_resize_14 : decode cX11_resize 14 = .ok (.ireturn, 1) := by decide +kernel
theorem dX11_resize_15 : decode cX11_resize 15 = .ok (.aload_n 0, 1) := by decide +kernel
theorem dX11_resize_16 : decode cX11_resize 16 = .ok (.getfield 35, 3) := by decide +kernel
theorem dX11_resize_19 : decode cX11_resize 19 = .ok (.iconst 1, 1) := by decide +kernel
theorem dX11_resize_20 : decode cX11_resize 20 = .ok (.iload_n 1, 1) := by decide +kernel
theorem dX11_resize_21 : decode cX11_resize 21 = .ok (.iadd, 1) := by decide +kernel
theorem dX11_resize_22 : decode cX11_resize 22 = .ok (.iaload, 1) := by decide +kernel
theorem dX11_resize_23 : decode cX11_resize 23 = .ok (.istore_n 3, 1) := by decide +kernel
theorem dX11_resize_24 : decode cX11_resize 24 = .ok (.iload_n 2, 1) := by decide +kernel
theorem dX11_resize_25 : decode cX11_resize 25 = .ok (.iconst 1, 1) := by decide +kernel
theorem dX11_resize_26 : decode cX11_resize 26 = .ok (.bipush 99, 2) := by decide +kernel
theorem dX11_resize_28 : decode cX11_resize 28 = .ok (.invokestatic 318, 3) := by decide +kernel
theorem dX11_resize_31 : decode cX11_resize 31 = .ok (.ifCond .eq 27, 3) := by decide +kernel
theorem dX11_resize_34 : decode cX11_resize 34 = .ok (.iload_n 2, 1) := by decide +kernel
theorem dX11_resize_35 : decode cX11_resize 35 = .ok (.iload_n 3, 1) := by decide +kernel
theorem dX11_resize_36 : decode cX11_resize 36 = .ok (.if_icmp .eq 22, 3) := by decide +kernel
theorem dX11_resize_39 : decode cX11_resize 39 = .ok (.aload_n 0, 1) := by decide +kernel
theorem dX11_resize_40 : decode cX11_resize 40 = .ok (.iconst 0, 1) := by decide +kernel
theorem dX11_resize_41 : decode cX11_resize 41 = .ok (.iload_n 1, 1) := by decide +kernel
theorem dX11_resize_42 : decode cX11_resize 42 = .ok (.invokevirtual 219, 3) := by decide +kernel
theorem dX11_resize_45 : decode cX11_resize 45 = .ok (.ifCond .eq 19, 3) := by decide +kernel
theorem dX11_resize_48 : decode cX11_resize 48 = .ok (.aload_n 0, 1) := by decide +kernel
theorem dX11_resize_49 : decode cX11_resize 49 = .ok (.iconst 0, 1) := by decide +kernel
theorem dX11_resize_50 : decode cX11_resize 50 = .ok (.iload_n 1, 1) := by decide +kernel
theorem dX11_resize_51 : decode cX11_resize 51 = .ok (.iload_n 2, 1) := by decide +kernel
theorem dX11_resize_52 : decode cX11_resize 52 = .ok (.invokevirtual 287, 3) := by decide +kernel
theorem dX11_resize_55 : decode cX11_resize 55 = .ok (.ifCond .ne 9, 3) := by decide +kernel
theorem dX11_resize_58 : decode cX11_resize 58 = .ok (.aload_n 0, 1) := by decide +kernel
theorem dX11_resize_59 : decode cX11_resize 59 = .ok (.iconst 1, 1) := by decide +kernel
theorem dX11_resize_60 : decode cX11_resize 60 = .ok (.invokevirtual 353, 3) := by decide +kernel
theorem dX11_resize_63 : decode cX11_resize 63 = .ok (.ireturn, 1) := by decide +kernel
theorem dX11_resize_64 : decode cX11_resize 64 = .ok (.aload_n 0, 1) := by decide +kernel
theorem dX11_resize_65 : decode cX11_resize 65 = .ok (.invokevirtual 356, 3) := by decide +kernel
theorem dX11_resize_68 : decode cX11_resize 68 = .ok (.aload_n 0, 1) := by decide +kernel
theorem dX11_resize_69 : decode cX11_resize 69 = .ok (.iconst 0, 1) := by decide +kernel
theorem dX11_resize_70 : decode cX11_resize 70 = .ok (.iload_n 1, 1) := by decide +kernel
theorem dX11_resize_71 : decode cX11_resize 71 = .ok (.invokevirtual 219, 3) := by decide +kernel
theorem dX11_resize_74 : decode cX11_resize 74 = .ok (.istore 4, 2) := by decide +kernel
theorem dX11_resize_76 : decode cX11_resize 76 = .ok (.aload_n 0, 1) := by decide +kernel
theorem dX11_resize_77 : decode cX11_resize 77 = .ok (.getfield 35, 3) := by decide +kernel
theorem dX11_resize_80 : decode cX11_resize 80 = .ok (.iconst 1, 1) := by decide +kernel
theorem dX11_resize_81 : decode cX11_resize 81 = .ok (.iload_n 1, 1) := by decide +kernel
theorem dX11_resize_82 : decode cX11_resize 82 = .ok (.iadd, 1) := by decide +kernel
theorem dX11_resize_83 : decode cX11_resize 83 = .ok (.iload_n 2, 1) := by decide +kernel
theorem dX11_resize_84 : decode cX11_resize 84 = .ok (.iastore, 1) := by decide +kernel
theorem dX11_resize_85 : decode cX11_resize 85 = .ok (.iload 4, 2) := by decide +kernel
theorem dX11_resize_87 : decode cX11_resize 87 = .ok (.ifCond .ne 5, 3) := by decide +kernel
theorem dX11_resize_90 : decode cX11_resize 90 = .ok (.iload_n 3, 1) := by decide +kernel
theorem dX11_resize_91 : decode cX11_resize 91 = .ok (.ireturn, 1) := by decide +kernel
theorem dX11_resize_92 : decode cX11_resize 92 = .ok (.aload_n 0, 1) := by decide +kernel
theorem dX11_resize_93 : decode cX11_resize 93 = .ok (.iconst 0, 1) := by decide +kernel
theorem dX11_resize_94 : decode cX11_resize 94 = .ok (.iload_n 1, 1) := by decide +kernel
theorem dX11_resize_95 : decode cX11_resize 95 = .ok (.invokevirtual 290, 3) := by decide +kernel
theorem dX11_resize_98 : decode cX11_resize 98 = .ok (.aload_n 0, 1) := by decide +kernel
theorem dX11_resize_99 : decode cX11_resize 99 = .ok (.iconst 0, 1) := by decide +kernel
theorem dX11_resize_100 : decode cX11_resize 100 = .ok (.iload_n 1, 1) := by decide +kernel
theorem dX11_resize_101 : decode cX11_resize 101 = .ok (.invokevirtual 294, 3) := by decide +kernel
theorem dX11_resize_104 : decode cX11_resize 104 = .ok (.istore 5, 2) := by decide +kernel
theorem dX11_resize_106 : decode cX11_resize 106 = .ok (.aload_n 0, 1) := by decide +kernel
theorem dX11_resize_107 : decode cX11_resize 107 = .ok (.iload 5, 2) := by decide +kernel
theorem dX11_resize_109 : decode cX11_resize 109 = .ok (.invokestatic 275, 3) := by decide +kernel
theorem dX11_resize_112 : decode cX11_resize 112 = .ok (.putfield 297, 3) := by decide +kernel
theorem dX11_resize_115 : decode cX11_resize 115 = .ok (.iconst 0, 1) := by decide +kernel
theorem dX11_resize_116 : decode cX11_resize 116 = .ok (.istore 6, 2) := by decide +kernel
theorem dX11_resize_118 : decode cX11_resize 118 = .ok (.iload 6, 2) := by decide +kernel
theorem dX11_resize_120 : decode cX11_resize 120 = .ok (.aload_n 0, 1) := by decide +kernel
theorem dX11_resize_121 : decode cX11_resize 121 = .ok (.getfield 202, 3) := by decide +kernel
theorem dX11_resize_124 : decode cX11_resize 124 = .ok (.if_icmp .ge 31, 3) := by decide +kernel
theorem dX11_resize_127 : decode cX11_resize 127 = .ok (.iload 5, 2) := by decide +kernel
theorem dX11_resize_129 : decode cX11_resize 129 = .ok (.iload 6, 2) := by decide +kernel
theorem dX11_resize_131 : decode cX11_resize 131 = .ok (.ishr, 1) := by decide +kernel
theorem dX11_resize_132 : decode cX11_resize 132 = .ok (.iconst 1, 1) := by decide +kernel
theorem dX11_resize_133 : decode cX11_resize 133 = .ok (.iand, 1) := by decide +kernel
theorem dX11_resize_134 : decode cX11_resize 134 = .ok (.iconst 1, 1) := by decide +kernel
theorem dX11_resize_135 : decode cX11_resize 135 = .ok (.if_icmp .ne 14, 3) := by decide +kernel
theorem dX11_resize_138 : decode cX11_resize 138 = .ok (.aload_n 0, 1) := by decide +kernel
theorem dX11_resize_139 : decode cX11_resize 139 = .ok (.getfield 35, 3) := by decide +kernel
theorem dX11_resize_142 : decode cX11_resize 142 = .ok (.bipush 10, 2) := by decide +kernel
theorem dX11_resize_144 : decode cX11_resize 144 = .ok (.iload 6, 2) := by decide +kernel
theorem dX11_resize_146 : decode cX11_resize 146 = .ok (.iadd, 1) := by decide +kernel
theorem dX11_resize_147 : decode cX11_resize 147 = .ok (.iconst (-1), 1) := by decide +kernel
theorem dX11_resize_148 : decode cX11_resize 148 = .ok (.iastore, 1) := by decide +kernel
theorem dX11_resize_149 : decode cX11_resize 149 = .ok (.iinc 6 1, 3) := by decide +kernel
theorem dX11_resize_152 : decode cX11_resize 152 = .ok (.goto (-34), 3) := by decide +kernel
theorem dX11_resize_155 : decode cX11_resize 155 = .ok (.aload_n 0, 1) := by decide +kernel
theorem dX11_resize_156 : decode cX11_resize 156 = .ok (.iconst 0, 1) := by decide +kernel
theorem dX11_resize_157 : decode cX11_resize 157 = .ok (.iload 5, 2) := by decide +kernel
theorem dX11_resize_159 : decode cX11_resize 159 = .ok (.invokevirtual 300, 3) := by decide +kernel
theorem dX11_resize_162 : decode cX11_resize 162 = .ok (.iload_n 3, 1) := by decide +kernel
theorem dX11_resize_163 : decode cX11_resize 163 = .ok (.ireturn, 1) := by decide +kernel
theorem dX11_fail_0 : decode cX11_fail 0 = .ok (.aload_n 0, 1) := by decide +kernel
theorem dX11_fail_1 : decode cX11_fail 1 = .ok (.iconst 0, 1) := by decide +kernel
theorem dX11_fail_2 : decode cX11_fail 2 = .ok (.putfield 96, 3) := by decide +kernel
theorem dX11_fail_5 : decode cX11_fail 5 = .ok (.aload_n 0, 1) := by decide +kernel
theorem dX11_fail_6 : decode cX11_fail 6 = .ok (.iload_n 1, 1) := by decide +kernel
theorem dX11_fail_7 : decode cX11_fail 7 = .ok (.invokevirtual 335, 3) := by decide +kernel
theorem dX11_fail_10 : decode cX11_fail 10 = .ok (.ifCond .ne 5, 3) := by decide +kernel
theorem dX11_fail_13 : decode cX11_fail 13 = .ok (.iconst 0, 1) := by decide +kernel
theorem dX11_fail_14 : decode cX11_fail 14 = .ok (.ireturn, 1) := by decide +kernel
theorem dX11_fail_15 : decode cX11_fail 15 = .ok (.aload_n 0, 1) := by decide +kernel
theorem dX11_fail_16 : decode cX11_fail 16 = .ok (.iconst 0, 1) := by decide +kernel
theorem dX11_fail_17 : decode cX11_fail 17 = .ok (.iload_n 1, 1) := by decide +kernel
theorem dX11_fail_18 : decode cX11_fail 18 = .ok (.invokevirtual 233, 3) := by decide +kernel
theorem dX11_fail_21 : decode cX11_fail 21 = .ok (.ifCond .ne 9, 3) := by decide +kernel
theorem dX11_fail_24 : decode cX11_fail 24 = .ok (.aload_n 0, 1) := by decide +kernel
theorem dX11_fail_25 : decode cX11_fail 25 = .ok (.iconst 1, 1) := by decide +kernel
theorem dX11_fail_26 : decode cX11_fail 26 = .ok (.invokevirtual 353, 3) := by decide +kernel
theorem dX11_fail_29 : decode cX11_fail 29 = .ok (.ireturn, 1) := by decide +kernel
theorem dX11_fail_30 : decode cX11_fail 30 = .ok (.aload_n 0, 1) := by decide +kernel
theorem dX11_fail_31 : decode cX11_fail 31 = .ok (.invokevirtual 356, 3) := by decide +kernel
theorem dX11_fail_34 : decode cX11_fail 34 = .ok (.aload_n 0, 1) := by decide +kernel
theorem dX11_fail_35 : decode cX11_fail 35 = .ok (.iconst 0, 1) := by decide +kernel
theorem dX11_fail_36 : decode cX11_fail 36 = .ok (.invokevirtual 309, 3) := by decide +kernel
theorem dX11_fail_39 : decode cX11_fail 39 = .ok (.istore_n 2, 1) := by decide +kernel
theorem dX11_fail_40 : decode cX11_fail 40 = .ok (.aload_n 0, 1) := by decide +kernel
theorem dX11_fail_41 : decode cX11_fail 41 = .ok (.iconst 0, 1) := by decide +kernel
theorem dX11_fail_42 : decode cX11_fail 42 = .ok (.iload_n 1, 1) := by decide +kernel
theorem dX11_fail_43 : decode cX11_fail 43 = .ok (.invokevirtual 306, 3) := by decide +kernel
theorem dX11_fail_46 : decode cX11_fail 46 = .ok (.iload_n 2, 1) := by decide +kernel
theorem dX11_fail_47 : decode cX11_fail 47 = .ok (.aload_n 0, 1) := by decide +kernel
theorem dX11_fail_48 : decode cX11_fail 48 = .ok (.iconst 0, 1) := by decide +kernel
theorem dX11_fail_49 : decode cX11_fail 49 = .ok (.invokevirtual 309, 3) := by decide +kernel
theorem dX11_fail_52 : decode cX11_fail 52 = .ok (.iconst (-1), 1) := by decide +kernel
theorem dX11_fail_53 : decode cX11_fail 53 = .ok (.ixor, 1) := by decide +kernel
theorem dX11_fail_54 : decode cX11_fail 54 = .ok (.iand, 1) := by decide +kernel
theorem dX11_fail_55 : decode cX11_fail 55 = .ok (.invokestatic 275, 3) := by decide +kernel
theorem dX11_fail_58 : decode cX11_fail 58 = .ok (.ireturn, 1) := by decide +kernel
theorem dX11_mend_0 : decode cX11_mend 0 = .ok (.aload_n 0, 1) := by decide +kernel
theorem dX11_mend_1 : decode cX11_mend 1 = .ok (.iconst 0, 1) := by decide +kernel
theorem dX11_mend_2 : decode cX11_mend 2 = .ok (.putfield 96, 3) := by decide +kernel
theorem dX11_mend_5 : decode cX11_mend 5 = .ok (.aload_n 0, 1) := by decide +kernel
theorem dX11_mend_6 : decode cX11_mend 6 = .ok (.iload_n 1, 1) := by decide +kernel
theorem dX11_mend_7 : decode cX11_mend 7 = .ok (.invokevirtual 335, 3) := by decide +kernel
theorem dX11_mend_10 : decode cX11_mend 10 = .ok (.ifCond .ne 5, 3) := by decide +kernel
theorem dX11_mend_13 : decode cX11_mend 13 = .ok (.iconst 0, 1) := by decide +kernel
theorem dX11_mend_14 : decode cX11_mend 14 = .ok (.ireturn, 1) := by decide +kernel
theorem dX11_mend_15 : decode cX11_mend 15 = .ok (.aload_n 0, 1) := by decide +kernel
theorem dX11_mend_16 : decode cX11_mend 16 = .ok (.iconst 0, 1) := by decide +kernel
theorem dX11_mend_17 : decode cX11_mend 17 = .ok (.iload_n 1, 1) := by decide +kernel
theorem dX11_mend_18 : decode cX11_mend 18 = .ok (.invokevirtual 233, 3) := by decide +kernel
theorem dX11_mend_21 : decode cX11_mend 21 = .ok (.ifCond .eq 17, 3) := by decide +kernel
theorem dX11_mend_24 : decode cX11_mend 24 = .ok (.aload_n 0, 1) := by decide +kernel
theorem dX11_mend_25 : decode cX11_mend 25 = .ok (.iconst 1, 1) := by decide +kernel
theorem dX11_mend_26 : decode cX11_mend 26 = .ok (.invokevirtual 353, 3) := by decide +kernel
theorem dX11_mend_29 : decode cX11_mend 29 = .ok (.ifCond .le 7, 3) := by decide +kernel
theorem dX11_mend_32 : decode cX11_mend 32 = .ok (.iconst 1, 1) := by decide +kernel
theorem dX11_mend_33 : decode cX11_mend 33 = .ok (.goto 4, 3) := by decide +kernel
theorem dX11_mend_36 : decode cX11_mend 36 = .ok (.iconst 0, 1) := by decide +kernel
theorem dX11_mend_37 : decode cX11_mend 37 = .ok (.ireturn, 1) := by decide +kernel
theorem dX11_mend_38 : decode cX11_mend 38 = .ok (.aload_n 0, 1) := by decide +kernel
theorem dX11_mend_39 : decode cX11_mend 39 = .ok (.invokevirtual 356, 3) := by decide +kernel
theorem dX11_mend_42 : decode cX11_mend 42 = .ok (.aload_n 0, 1) := by decide +kernel
theorem dX11_mend_43 : decode cX11_mend 43 = .ok (.getfield 35, 3) := by decide +kernel
theorem dX11_mend_46 : decode cX11_mend 46 = .ok (.iconst 0, 1) := by decide +kernel
theorem dX11_mend_47 : decode cX11_mend 47 = .ok (.dup2, 1) := by decide +kernel
theorem dX11_mend_48 : decode cX11_mend 48 = .ok (.iaload, 1) := by decide +kernel
theorem dX11_mend_49 : decode cX11_mend 49 = .ok (.iconst 1, 1) := by decide +kernel
theorem dX11_mend_50 : decode cX11_mend 50 = .ok (.iload_n 1, 1) := by decide +kernel
theorem dX11_mend_51 : decode cX11_mend 51 = .ok (.ishl, 1) := by decide +kernel
theorem dX11_mend_52 : decode cX11_mend 52 = .ok (.ior, 1) := by decide +kernel
theorem dX11_mend_53 : decode cX11_mend 53 = .ok (.iastore, 1) := by decide +kernel
theorem dX11_mend_54 : decode cX11_mend 54 = .ok (.iconst 1, 1) := by decide +kernel
theorem dX11_mend_55 : decode cX11_mend 55 = .ok (.ireturn, 1) := by decide +kernel
theorem dX11_isSooner_0 : decode cX11_isSooner 0 = .ok (.aload_n 0, 1) := by decide +kernel
theorem dX11_isSooner_1 : decode cX11_isSooner 1 = .ok (.iload_n 1, 1) := by decide +kernel
theorem dX11_isSooner_2 : decode cX11_isSooner 2 = .ok (.invokevirtual 258, 3) := by decide +kernel
theorem dX11_isSooner_5 : decode cX11_isSooner 5 = .ok (.aload_n 0, 1) := by decide +kernel
theorem dX11_isSooner_6 : decode cX11_isSooner 6 = .ok (.iload_n 2, 1) := by decide +kernel
theorem dX11_isSooner_7 : decode cX11_isSooner 7 = .ok (.invokevirtual 258, 3) := by decide +kernel
theorem dX11_isSooner_10 : decode cX11_isSooner 10 = .ok (.if_icmp .eq 22, 3) := by decide +kernel
theorem dX11_isSooner_13 : decode cX11_isSooner 13 = .ok (.aload_n 0, 1) := by decide +kernel
theorem dX11_isSooner_14 : decode cX11_isSooner 14 = .ok (.iload_n 1, 1) := by decide +kernel
theorem dX11_isSooner_15 : decode cX11_isSooner 15 = .ok (.invokevirtual 258, 3) := by decide +kernel
theorem dX11_isSooner_18 : decode cX11_isSooner 18 = .ok (.aload_n 0, 1) := by decide +kernel
theorem dX11_isSooner_19 : decode cX11_isSooner 19 = .ok (.iload_n 2, 1) := by decide +kernel
theorem dX11_isSooner_20 : decode cX11_isSooner 20 = .ok (.invokevirtual 258, 3) := by decide +kernel
theorem dX11_isSooner_23 : decode cX11_isSooner 23 = .ok (.if_icmp .ge 7, 3) := by decide +kernel
theorem dX11_isSooner_26 : decode cX11_isSooner 26 = .ok (.iconst 1, 1) := by decide +kernel
theorem dX11_isSooner_27 : decode cX11_isSooner 27 = .ok (.goto 4, 3) := by decide +kernel
theorem dX11_isSooner_30 : decode cX11_isSooner 30 = .ok (.iconst 0, 1) := by decide +kernel
theorem dX11_isSooner_31 : decode cX11_isSooner 31 = .ok (.ireturn, 1) := by decide +kernel
theorem dX11_isSooner_32 : decode cX11_isSooner 32 = .ok (.aload_n 0, 1) := by decide +kernel
theorem dX11_isSooner_33 : decode cX11_isSooner 33 = .ok (.iload_n 1, 1) := by decide +kernel
theorem dX11_isSooner_34 : decode cX11_isSooner 34 = .ok (.invokevirtual 223, 3) := by decide +kernel
theorem dX11_isSooner_37 : decode cX11_isSooner 37 = .ok (.aload_n 0, 1) := by decide +kernel
theorem dX11_isSooner_38 : decode cX11_isSooner 38 = .ok (.iload_n 2, 1) := by decide +kernel
theorem dX11_isSooner_39 : decode cX11_isSooner 39 = .ok (.invokevirtual 223, 3) := by decide +kernel
theorem dX11_isSooner_42 : decode cX11_isSooner 42 = .ok (.if_icmp .ge 7, 3) := by decide +kernel
theorem dX11_isSooner_45 : decode cX11_isSooner 45 = .ok (.iconst 1, 1) := by decide +kernel
theorem dX11_isSooner_46 : decode cX11_isSooner 46 = .ok (.goto 4, 3) := by decide +kernel
theorem dX11_isSooner_49 : decode cX11_isSooner 49 = .ok (.iconst 0, 1) := by decide +kernel
theorem dX11_isSooner_50 : decode cX11_isSooner 50 = .ok (.ireturn, 1) := by decide +kernel
theorem dX11_laysPlan_0 : decode cX11_laysPlan 0 = .ok (.aload_n 0, 1) := by decide +kernel
theorem dX11_laysPlan_1 : decode cX11_laysPlan 1 = .ok (.invokevirtual 303, 3) := by decide +kernel
theorem dX11_laysPlan_4 : decode cX11_laysPlan 4 = .ok (.iconst 0, 1) := by decide +kernel
theorem dX11_laysPlan_5 : decode cX11_laysPlan 5 = .ok (.istore_n 1, 1) := by decide +kernel
theorem dX11_laysPlan_6 : decode cX11_laysPlan 6 = .ok (.iload_n 1, 1) := by decide +kernel
theorem dX11_laysPlan_7 : decode cX11_laysPlan 7 = .ok (.aload_n 0, 1) := by decide +kernel
theorem dX11_laysPlan_8 : decode cX11_laysPlan 8 = .ok (.getfield 202, 3) := by decide +kernel
theorem dX11_laysPlan_11 : decode cX11_laysPlan 11 = .ok (.if_icmp .ge 19, 3) := by decide +kernel
theorem dX11_laysPlan_14 : decode cX11_laysPlan 14 = .ok (.aload_n 0, 1) := by decide +kernel
theorem dX11_laysPlan_15 : decode cX11_laysPlan 15 = .ok (.getfield 35, 3) := by decide +kernel
theorem dX11_laysPlan_18 : decode cX11_laysPlan 18 = .ok (.bipush 92, 2) := by decide +kernel
theorem dX11_laysPlan_20 : decode cX11_laysPlan 20 = .ok (.iload_n 1, 1) := by decide +kernel
theorem dX11_laysPlan_21 : decode cX11_laysPlan 21 = .ok (.iadd, 1) := by decide +kernel
theorem dX11_laysPlan_22 : decode cX11_laysPlan 22 = .ok (.iconst (-1), 1) := by decide +kernel
theorem dX11_laysPlan_23 : decode cX11_laysPlan 23 = .ok (.iastore, 1) := by decide +kernel
theorem dX11_laysPlan_24 : decode cX11_laysPlan 24 = .ok (.iinc 1 1, 3) := by decide +kernel
theorem dX11_laysPlan_27 : decode cX11_laysPlan 27 = .ok (.goto (-21), 3) := by decide +kernel
theorem dX11_laysPlan_30 : decode cX11_laysPlan 30 = .ok (.iconst 1, 1) := by decide +kernel
theorem dX11_laysPlan_31 : decode cX11_laysPlan 31 = .ok (.aload_n 0, 1) := by decide +kernel
theorem dX11_laysPlan_32 : decode cX11_laysPlan 32 = .ok (.getfield 202, 3) := by decide +kernel
theorem dX11_laysPlan_35 : decode cX11_laysPlan 35 = .ok (.ishl, 1) := by decide +kernel
theorem dX11_laysPlan_36 : decode cX11_laysPlan 36 = .ok (.iconst 1, 1) := by decide +kernel
theorem dX11_laysPlan_37 : decode cX11_laysPlan 37 = .ok (.isub, 1) := by decide +kernel
theorem dX11_laysPlan_38 : decode cX11_laysPlan 38 = .ok (.istore_n 1, 1) := by decide +kernel
theorem dX11_laysPlan_39 : decode cX11_laysPlan 39 = .ok (.iload_n 1, 1) := by decide +kernel
theorem dX11_laysPlan_40 : decode cX11_laysPlan 40 = .ok (.ifCond .eq 131, 3) := by decide +kernel
theorem dX11_laysPlan_43 : decode cX11_laysPlan 43 = .ok (.iconst (-1), 1) := by decide +kernel
theorem dX11_laysPlan_44 : decode cX11_laysPlan 44 = .ok (.istore_n 2, 1) := by decide +kernel
theorem dX11_laysPlan_45 : decode cX11_laysPlan 45 = .ok (.iconst 0, 1) := by decide +kernel
theorem dX11_laysPlan_46 : decode cX11_laysPlan 46 = .ok (.istore_n 3, 1) := by decide +kernel
theorem dX11_laysPlan_47 : decode cX11_laysPlan 47 = .ok (.iload_n 3, 1) := by decide +kernel
theorem dX11_laysPlan_48 : decode cX11_laysPlan 48 = .ok (.aload_n 0, 1) := by decide +kernel
theorem dX11_laysPlan_49 : decode cX11_laysPlan 49 = .ok (.getfield 202, 3) := by decide +kernel
theorem dX11_laysPlan_52 : decode cX11_laysPlan 52 = .ok (.if_icmp .ge 34, 3) := by decide +kernel
theorem dX11_laysPlan_55 : decode cX11_laysPlan 55 = .ok (.iload_n 1, 1) := by decide +kernel
theorem dX11_laysPlan_56 : decode cX11_laysPlan 56 = .ok (.iload_n 3, 1) := by decide +kernel
theorem dX11_laysPlan_57 : decode cX11_laysPlan 57 = .ok (.ishr, 1) := by decide +kernel
theorem dX11_laysPlan_58 : decode cX11_laysPlan 58 = .ok (.iconst 1, 1) := by decide +kernel
theorem dX11_laysPlan_59 : decode cX11_laysPlan 59 = .ok (.iand, 1) := by decide +kernel
theorem dX11_laysPlan_60 : decode cX11_laysPlan 60 = .ok (.iconst 1, 1) := by decide +kernel
theorem dX11_laysPlan_61 : decode cX11_laysPlan 61 = .ok (.if_icmp .ne 19, 3) := by decide +kernel
theorem dX11_laysPlan_64 : decode cX11_laysPlan 64 = .ok (.iload_n 2, 1) := by decide +kernel
theorem dX11_laysPlan_65 : decode cX11_laysPlan 65 = .ok (.iconst (-1), 1) := by decide +kernel
theorem dX11_laysPlan_66 : decode cX11_laysPlan 66 = .ok (.if_icmp .eq 12, 3) := by decide +kernel
theorem dX11_laysPlan_69 : decode cX11_laysPlan 69 = .ok (.aload_n 0, 1) := by decide +kernel
theorem dX11_laysPlan_70 : decode cX11_laysPlan 70 = .ok (.iload_n 3, 1) := by decide +kernel
theorem dX11_laysPlan_71 : decode cX11_laysPlan 71 = .ok (.iload_n 2, 1) := by decide +kernel
theorem dX11_laysPlan_72 : decode cX11_laysPlan 72 = .ok (.invokevirtual 362, 3) := by decide +kernel
theorem dX11_laysPlan_75 : decode cX11_laysPlan 75 = .ok (.ifCond .eq 5, 3) := by decide +kernel
theorem dX11_laysPlan_78 : decode cX11_laysPlan 78 = .ok (.iload_n 3, 1) := by decide +kernel
theorem dX11_laysPlan_79 : decode cX11_laysPlan 79 = .ok (.istore_n 2, 1) := by decide +kernel
theorem dX11_laysPlan_80 : decode cX11_laysPlan 80 = .ok (.iinc 3 1, 3) := by decide +kernel
theorem dX11_laysPlan_83 : decode cX11_laysPlan 83 = .ok (.goto (-36), 3) := by decide +kernel
theorem dX11_laysPlan_86 : decode cX11_laysPlan 86 = .ok (.iload_n 1, 1) := by decide +kernel
theorem dX11_laysPlan_87 : decode cX11_laysPlan 87 = .ok (.iconst 1, 1) := by decide +kernel
theorem dX11_laysPlan_88 : decode cX11_laysPlan 88 = .ok (.iload_n 2, 1) := by decide +kernel
theorem dX11_laysPlan_89 : decode cX11_laysPlan 89 = .ok (.ishl, 1) := by decide +kernel
theorem dX11_laysPlan_90 : decode cX11_laysPlan 90 = .ok (.iconst (-1), 1) := by decide +kernel
theorem dX11_laysPlan_91 : decode cX11_laysPlan 91 = .ok (.ixor, 1) := by decide +kernel
theorem dX11_laysPlan_92 : decode cX11_laysPlan 92 = .ok (.iand, 1) := by decide +kernel
theorem dX11_laysPlan_93 : decode cX11_laysPlan 93 = .ok (.istore_n 1, 1) := by decide +kernel
theorem dX11_laysPlan_94 : decode cX11_laysPlan 94 = .ok (.aload_n 0, 1) := by decide +kernel
theorem dX11_laysPlan_95 : decode cX11_laysPlan 95 = .ok (.bipush 82, 2) := by decide +kernel
theorem dX11_laysPlan_97 : decode cX11_laysPlan 97 = .ok (.iconst (-1), 1) := by decide +kernel
theorem dX11_laysPlan_98 : decode cX11_laysPlan 98 = .ok (.aload_n 0, 1) := by decide +kernel
theorem dX11_laysPlan_99 : decode cX11_laysPlan 99 = .ok (.getfield 35, 3) := by decide +kernel
theorem dX11_laysPlan_102 : decode cX11_laysPlan 102 = .ok (.iconst 1, 1) := by decide +kernel
theorem dX11_laysPlan_103 : decode cX11_laysPlan 103 = .ok (.iload_n 2, 1) := by decide +kernel
theorem dX11_laysPlan_104 : decode cX11_laysPlan 104 = .ok (.iadd, 1) := by decide +kernel
theorem dX11_laysPlan_105 : decode cX11_laysPlan 105 = .ok (.iaload, 1) := by decide +kernel
theorem dX11_laysPlan_106 : decode cX11_laysPlan 106 = .ok (.bipush 7, 2) := by decide +kernel
theorem dX11_laysPlan_108 : decode cX11_laysPlan 108 = .ok (.aload_n 0, 1) := by decide +kernel
theorem dX11_laysPlan_109 : decode cX11_laysPlan 109 = .ok (.getfield 29, 3) := by decide +kernel
theorem dX11_laysPlan_112 : decode cX11_laysPlan 112 = .ok (.bipush 7, 2) := by decide +kernel
theorem dX11_laysPlan_114 : decode cX11_laysPlan 114 = .ok (.iload_n 2, 1) := by decide +kernel
theorem dX11_laysPlan_115 : decode cX11_laysPlan 115 = .ok (.imul, 1) := by decide +kernel
theorem dX11_laysPlan_116 : decode cX11_laysPlan 116 = .ok (.iconst 5, 1) := by decide +kernel
theorem dX11_laysPlan_117 : decode cX11_laysPlan 117 = .ok (.iadd, 1) := by decide +kernel
theorem dX11_laysPlan_118 : decode cX11_laysPlan 118 = .ok (.iaload, 1) := by decide +kernel
theorem dX11_laysPlan_119 : decode cX11_laysPlan 119 = .ok (.invokevirtual 261, 3) := by decide +kernel
theorem dX11_laysPlan_122 : decode cX11_laysPlan 122 = .ok (.aload_n 0, 1) := by decide +kernel
theorem dX11_laysPlan_123 : decode cX11_laysPlan 123 = .ok (.aload_n 0, 1) := by decide +kernel
theorem dX11_laysPlan_124 : decode cX11_laysPlan 124 = .ok (.getfield 29, 3) := by decide +kernel
theorem dX11_laysPlan_127 : decode cX11_laysPlan 127 = .ok (.bipush 7, 2) := by decide +kernel
theorem dX11_laysPlan_129 : decode cX11_laysPlan 129 = .ok (.iload_n 2, 1) := by decide +kernel
theorem dX11_laysPlan_130 : decode cX11_laysPlan 130 = .ok (.imul, 1) := by decide +kernel
theorem dX11_laysPlan_131 : decode cX11_laysPlan 131 = .ok (.iaload, 1) := by decide +kernel
theorem dX11_laysPlan_132 : decode cX11_laysPlan 132 = .ok (.aload_n 0, 1) := by decide +kernel
theorem dX11_laysPlan_133 : decode cX11_laysPlan 133 = .ok (.getfield 29, 3) := by decide +kernel
theorem dX11_laysPlan_136 : decode cX11_laysPlan 136 = .ok (.bipush 7, 2) := by decide +kernel
theorem dX11_laysPlan_138 : decode cX11_laysPlan 138 = .ok (.iload_n 2, 1) := by decide +kernel
theorem dX11_laysPlan_139 : decode cX11_laysPlan 139 = .ok (.imul, 1) := by decide +kernel
theorem dX11_laysPlan_140 : decode cX11_laysPlan 140 = .ok (.iconst 1, 1) := by decide +kernel
theorem dX11_laysPlan_141 : decode cX11_laysPlan 141 = .ok (.iadd, 1) := by decide +kernel
theorem dX11_laysPlan_142 : decode cX11_laysPlan 142 = .ok (.iaload, 1) := by decide +kernel
theorem dX11_laysPlan_143 : decode cX11_laysPlan 143 = .ok (.aload_n 0, 1) := by decide +kernel
theorem dX11_laysPlan_144 : decode cX11_laysPlan 144 = .ok (.getfield 29, 3) := by decide +kernel
theorem dX11_laysPlan_147 : decode cX11_laysPlan 147 = .ok (.bipush 7, 2) := by decide +kernel
theorem dX11_laysPlan_149 : decode cX11_laysPlan 149 = .ok (.iload_n 2, 1) := by decide +kernel
theorem dX11_laysPlan_150 : decode cX11_laysPlan 150 = .ok (.imul, 1) := by decide +kernel
theorem dX11_laysPlan_151 : decode cX11_laysPlan 151 = .ok (.bipush 6, 2) := by decide +kernel
theorem dX11_laysPlan_153 : decode cX11_laysPlan 153 = .ok (.iadd, 1) := by decide +kernel
theorem dX11_laysPlan_154 : decode cX11_laysPlan 154 = .ok (.iaload, 1) := by decide +kernel
theorem dX11_laysPlan_155 : decode cX11_laysPlan 155 = .ok (.invokevirtual 265, 3) := by decide +kernel
theorem dX11_laysPlan_158 : decode cX11_laysPlan 158 = .ok (.ifCond .eq 10, 3) := by decide +kernel
theorem dX11_laysPlan_161 : decode cX11_laysPlan 161 = .ok (.aload_n 0, 1) := by decide +kernel
theorem dX11_laysPlan_162 : decode cX11_laysPlan 162 = .ok (.bipush 82, 2) := by decide +kernel
theorem dX11_laysPlan_164 : decode cX11_laysPlan 164 = .ok (.iload_n 2, 1) := by decide +kernel
theorem dX11_laysPlan_165 : decode cX11_laysPlan 165 = .ok (.invokevirtual 290, 3) := by decide +kernel
theorem dX11_laysPlan_168 : decode cX11_laysPlan 168 = .ok (.goto (-129), 3) := by decide +kernel
theorem dX11_laysPlan_171 : decode cX11_laysPlan 171 = .ok (.iconst 0, 1) := by decide +kernel
theorem dX11_laysPlan_172 : decode cX11_laysPlan 172 = .ok (.istore_n 2, 1) := by decide +kernel
theorem dX11_laysPlan_173 : decode cX11_laysPlan 173 = .ok (.iload_n 2, 1) := by decide +kernel
theorem dX11_laysPlan_174 : decode cX11_laysPlan 174 = .ok (.aload_n 0, 1) := by decide +kernel
theorem dX11_laysPlan_175 : decode cX11_laysPlan 175 = .ok (.getfield 202, 3) := by decide +kernel
theorem dX11_laysPlan_178 : decode cX11_laysPlan 178 = .ok (.if_icmp .ge 76, 3) := by decide +kernel
theorem dX11_laysPlan_181 : decode cX11_laysPlan 181 = .ok (.aload_n 0, 1) := by decide +kernel
theorem dX11_laysPlan_182 : decode cX11_laysPlan 182 = .ok (.getfield 60, 3) := by decide +kernel
theorem dX11_laysPlan_185 : decode cX11_laysPlan 185 = .ok (.iload_n 2, 1) := by decide +kernel
theorem dX11_laysPlan_186 : decode cX11_laysPlan 186 = .ok (.aload_n 0, 1) := by decide +kernel
theorem dX11_laysPlan_187 : decode cX11_laysPlan 187 = .ok (.getfield 35, 3) := by decide +kernel
theorem dX11_laysPlan_190 : decode cX11_laysPlan 190 = .ok (.bipush 92, 2) := by decide +kernel
theorem dX11_laysPlan_192 : decode cX11_laysPlan 192 = .ok (.iload_n 2, 1) := by decide +kernel
theorem dX11_laysPlan_193 : decode cX11_laysPlan 193 = .ok (.iadd, 1) := by decide +kernel
theorem dX11_laysPlan_194 : decode cX11_laysPlan 194 = .ok (.iaload, 1) := by decide +kernel
theorem dX11_laysPlan_195 : decode cX11_laysPlan 195 = .ok (.iastore, 1) := by decide +kernel
theorem dX11_laysPlan_196 : decode cX11_laysPlan 196 = .ok (.aload_n 0, 1) := by decide +kernel
theorem dX11_laysPlan_197 : decode cX11_laysPlan 197 = .ok (.getfield 66, 3) := by decide +kernel
theorem dX11_laysPlan_200 : decode cX11_laysPlan 200 = .ok (.iload_n 2, 1) := by decide +kernel
theorem dX11_laysPlan_201 : decode cX11_laysPlan 201 = .ok (.aload_n 0, 1) := by decide +kernel
theorem dX11_laysPlan_202 : decode cX11_laysPlan 202 = .ok (.bipush 82, 2) := by decide +kernel
theorem dX11_laysPlan_204 : decode cX11_laysPlan 204 = .ok (.iload_n 2, 1) := by decide +kernel
theorem dX11_laysPlan_205 : decode cX11_laysPlan 205 = .ok (.invokevirtual 226, 3) := by decide +kernel
theorem dX11_laysPlan_208 : decode cX11_laysPlan 208 = .ok (.iastore, 1) := by decide +kernel
theorem dX11_laysPlan_209 : decode cX11_laysPlan 209 = .ok (.iconst 0, 1) := by decide +kernel
theorem dX11_laysPlan_210 : decode cX11_laysPlan 210 = .ok (.istore_n 3, 1) := by decide +kernel
theorem dX11_laysPlan_211 : decode cX11_laysPlan 211 = .ok (.iload_n 3, 1) := by decide +kernel
theorem dX11_laysPlan_212 : decode cX11_laysPlan 212 = .ok (.bipush 7, 2) := by decide +kernel
theorem dX11_laysPlan_214 : decode cX11_laysPlan 214 = .ok (.if_icmp .ge 34, 3) := by decide +kernel
theorem dX11_laysPlan_217 : decode cX11_laysPlan 217 = .ok (.aload_n 0, 1) := by decide +kernel
theorem dX11_laysPlan_218 : decode cX11_laysPlan 218 = .ok (.getfield 63, 3) := by decide +kernel
theorem dX11_laysPlan_221 : decode cX11_laysPlan 221 = .ok (.bipush 7, 2) := by decide +kernel
theorem dX11_laysPlan_223 : decode cX11_laysPlan 223 = .ok (.iload_n 2, 1) := by decide +kernel
theorem dX11_laysPlan_224 : decode cX11_laysPlan 224 = .ok (.imul, 1) := by decide +kernel
theorem dX11_laysPlan_225 : decode cX11_laysPlan 225 = .ok (.iload_n 3, 1) := by decide +kernel
theorem dX11_laysPlan_226 : decode cX11_laysPlan 226 = .ok (.iadd, 1) := by decide +kernel
theorem dX11_laysPlan_227 : decode cX11_laysPlan 227 = .ok (.aload_n 0, 1) := by decide +kernel
theorem dX11_laysPlan_228 : decode cX11_laysPlan 228 = .ok (.getfield 35, 3) := by decide +kernel
theorem dX11_laysPlan_231 : decode cX11_laysPlan 231 = .ok (.bipush 101, 2) := by decide +kernel
theorem dX11_laysPlan_233 : decode cX11_laysPlan 233 = .ok (.bipush 7, 2) := by decide +kernel
theorem dX11_laysPlan_235 : decode cX11_laysPlan 235 = .ok (.iload_n 2, 1) := by decide +kernel
theorem dX11_laysPlan_236 : decode cX11_laysPlan 236 = .ok (.imul, 1) := by decide +kernel
theorem dX11_laysPlan_237 : decode cX11_laysPlan 237 = .ok (.iadd, 1) := by decide +kernel
theorem dX11_laysPlan_238 : decode cX11_laysPlan 238 = .ok (.iload_n 3, 1) := by decide +kernel
theorem dX11_laysPlan_239 : decode cX11_laysPlan 239 = .ok (.iadd, 1) := by decide +kernel
theorem dX11_laysPlan_240 : decode cX11_laysPlan 240 = .ok (.iaload, 1) := by decide +kernel
theorem dX11_laysPlan_241 : decode cX11_laysPlan 241 = .ok (.iastore, 1) := by decide +kernel
theorem dX11_laysPlan_242 : decode cX11_laysPlan 242 = .ok (.iinc 3 1, 3) := by decide +kernel
theorem dX11_laysPlan_245 : decode cX11_laysPlan 245 = .ok (.goto (-34), 3) := by decide +kernel
theorem dX11_laysPlan_248 : decode cX11_laysPlan 248 = .ok (.iinc 2 1, 3) := by decide +kernel
theorem dX11_laysPlan_251 : decode cX11_laysPlan 251 = .ok (.goto (-78), 3) := by decide +kernel
theorem dX11_laysPlan_254 : decode cX11_laysPlan 254 = .ok (.return_, 1) := by decide +kernel
theorem dX11_planned_0 : decode cX11_planned 0 = .ok (.aload_n 0, 1) := by decide +kernel
theorem dX11_planned_1 : decode cX11_planned 1 = .ok (.iconst 0, 1) := by decide +kernel
theorem dX11_planned_2 : decode cX11_planned 2 = .ok (.putfield 96, 3) := by decide +kernel
theorem dX11_planned_5 : decode cX11_planned 5 = .ok (.aload_n 0, 1) := by decide +kernel
theorem dX11_planned_6 : decode cX11_planned 6 = .ok (.iload_n 1, 1) := by decide +kernel
theorem dX11_planned_7 : decode cX11_planned 7 = .ok (.invokevirtual 347, 3) := by decide +kernel
theorem dX11_planned_10 : decode cX11_planned 10 = .ok (.ifCond .eq 20, 3) := by decide +kernel
theorem dX11_planned_13 : decode cX11_planned 13 = .ok (.aload_n 0, 1) := by decide +kernel
theorem dX11_planned_14 : decode cX11_planned 14 = .ok (.iload_n 2, 1) := by decide +kernel
theorem dX11_planned_15 : decode cX11_planned 15 = .ok (.ifCond .lt 7, 3) := by decide +kernel
theorem dX11_planned_18 : decode cX11_planned 18 = .ok (.iconst 1, 1) := by decide +kernel
theorem dX11_planned_19 : decode cX11_planned 19 = .ok (.goto 4, 3) := by decide +kernel
theorem dX11_planned_22 : decode cX11_planned 22 = .ok (.iconst 0, 1) := by decide +kernel
theorem dX11_planned_23 : decode cX11_planned 23 = .ok (.iconst 1, 1) := by decide +kernel
theorem dX11_planned_24 : decode cX11_planned 24 = .ok (.invokevirtual 192, 3) := by decide +kernel
theorem dX11_planned_27 : decode cX11_planned 27 = .ok (.ifCond .ne 5, 3) := by decide +kernel
theorem dX11_planned_30 : decode cX11_planned 30 = .ok (.iconst 0, 1) := by decide +kernel
theorem dX11_planned_31 : decode cX11_planned 31 = .ok (.ireturn, 1) := by decide +kernel
theorem dX11_planned_32 : decode cX11_planned 32 = .ok (.aload_n 0, 1) := by decide +kernel
theorem dX11_planned_33 : decode cX11_planned 33 = .ok (.invokevirtual 365, 3) := by decide +kernel
theorem dX11_planned_36 : decode cX11_planned 36 = .ok (.iload_n 2, 1) := by decide +kernel
theorem dX11_planned_37 : decode cX11_planned 37 = .ok (.aload_n 0, 1) := by decide +kernel
theorem dX11_planned_38 : decode cX11_planned 38 = .ok (.getfield 60, 3) := by decide +kernel
theorem dX11_planned_41 : decode cX11_planned 41 = .ok (.iload_n 1, 1) := by decide +kernel
theorem dX11_planned_42 : decode cX11_planned 42 = .ok (.iaload, 1) := by decide +kernel
theorem dX11_planned_43 : decode cX11_planned 43 = .ok (.if_icmp .ge 17, 3) := by decide +kernel
theorem dX11_planned_46 : decode cX11_planned 46 = .ok (.aload_n 0, 1) := by decide +kernel
theorem dX11_planned_47 : decode cX11_planned 47 = .ok (.getfield 63, 3) := by decide +kernel
theorem dX11_planned_50 : decode cX11_planned 50 = .ok (.bipush 7, 2) := by decide +kernel
theorem dX11_planned_52 : decode cX11_planned 52 = .ok (.iload_n 1, 1) := by decide +kernel
theorem dX11_planned_53 : decode cX11_planned 53 = .ok (.imul, 1) := by decide +kernel
theorem dX11_planned_54 : decode cX11_planned 54 = .ok (.iload_n 2, 1) := by decide +kernel
theorem dX11_planned_55 : decode cX11_planned 55 = .ok (.iadd, 1) := by decide +kernel
theorem dX11_planned_56 : decode cX11_planned 56 = .ok (.iaload, 1) := by decide +kernel
theorem dX11_planned_57 : decode cX11_planned 57 = .ok (.goto 4, 3) := by decide +kernel
theorem dX11_planned_60 : decode cX11_planned 60 = .ok (.iconst (-1), 1) := by decide +kernel
theorem dX11_planned_61 : decode cX11_planned 61 = .ok (.ireturn, 1) := by decide +kernel
theorem dX11_toMove_0 : decode cX11_toMove 0 = .ok (.iconst 0, 1) := by decide +kernel
theorem dX11_toMove_1 : decode cX11_toMove 1 = .ok (.istore_n 1, 1) := by decide +kernel
theorem dX11_toMove_2 : decode cX11_toMove 2 = .ok (.iconst 0, 1) := by decide +kernel
theorem dX11_toMove_3 : decode cX11_toMove 3 = .ok (.istore_n 2, 1) := by decide +kernel
theorem dX11_toMove_4 : decode cX11_toMove 4 = .ok (.iload_n 2, 1) := by decide +kernel
theorem dX11_toMove_5 : decode cX11_toMove 5 = .ok (.aload_n 0, 1) := by decide +kernel
theorem dX11_toMove_6 : decode cX11_toMove 6 = .ok (.getfield 202, 3) := by decide +kernel
theorem dX11_toMove_9 : decode cX11_toMove 9 = .ok (.if_icmp .ge 129, 3) := by decide +kernel
theorem dX11_toMove_12 : decode cX11_toMove 12 = .ok (.aload_n 0, 1) := by decide +kernel
theorem dX11_toMove_13 : decode cX11_toMove 13 = .ok (.iconst 0, 1) := by decide +kernel
theorem dX11_toMove_14 : decode cX11_toMove 14 = .ok (.iload_n 2, 1) := by decide +kernel
theorem dX11_toMove_15 : decode cX11_toMove 15 = .ok (.invokevirtual 219, 3) := by decide +kernel
theorem dX11_toMove_18 : decode cX11_toMove 18 = .ok (.ifCond .eq 114, 3) := by decide +kernel
theorem dX11_toMove_21 : decode cX11_toMove 21 = .ok (.aload_n 0, 1) := by decide +kernel
theorem dX11_toMove_22 : decode cX11_toMove 22 = .ok (.getfield 60, 3) := by decide +kernel
theorem dX11_toMove_25 : decode cX11_toMove 25 = .ok (.iload_n 2, 1) := by decide +kernel
theorem dX11_toMove_26 : decode cX11_toMove 26 = .ok (.iaload, 1) := by decide +kernel
theorem dX11_toMove_27 : decode cX11_toMove 27 = .ok (.iconst (-1), 1) := by decide +kernel
theorem dX11_toMove_28 : decode cX11_toMove 28 = .ok (.if_icmp .ne 6, 3) := by decide +kernel
theorem dX11_toMove_31 : decode cX11_toMove 31 = .ok (.goto 101, 3) := by decide +kernel
theorem dX11_toMove_34 : decode cX11_toMove 34 = .ok (.aload_n 0, 1) := by decide +kernel
theorem dX11_toMove_35 : decode cX11_toMove 35 = .ok (.getfield 60, 3) := by decide +kernel
theorem dX11_toMove_38 : decode cX11_toMove 38 = .ok (.iload_n 2, 1) := by decide +kernel
theorem dX11_toMove_39 : decode cX11_toMove 39 = .ok (.iaload, 1) := by decide +kernel
theorem dX11_toMove_40 : decode cX11_toMove 40 = .ok (.aload_n 0, 1) := by decide +kernel
theorem dX11_toMove_41 : decode cX11_toMove 41 = .ok (.getfield 35, 3) := by decide +kernel
theorem dX11_toMove_44 : decode cX11_toMove 44 = .ok (.bipush 10, 2) := by decide +kernel
theorem dX11_toMove_46 : decode cX11_toMove 46 = .ok (.iload_n 2, 1) := by decide +kernel
theorem dX11_toMove_47 : decode cX11_toMove 47 = .ok (.iadd, 1) := by decide +kernel
theorem dX11_toMove_48 : decode cX11_toMove 48 = .ok (.iaload, 1) := by decide +kernel
theorem dX11_toMove_49 : decode cX11_toMove 49 = .ok (.if_icmp .ne 7, 3) := by decide +kernel
theorem dX11_toMove_52 : decode cX11_toMove 52 = .ok (.iconst 1, 1) := by decide +kernel
theorem dX11_toMove_53 : decode cX11_toMove 53 = .ok (.goto 4, 3) := by decide +kernel
theorem dX11_toMove_56 : decode cX11_toMove 56 = .ok (.iconst 0, 1) := by decide +kernel
theorem dX11_toMove_57 : decode cX11_toMove 57 = .ok (.istore_n 3, 1) := by decide +kernel
theorem dX11_toMove_58 : decode cX11_toMove 58 = .ok (.iconst 0, 1) := by decide +kernel
theorem dX11_toMove_59 : decode cX11_toMove 59 = .ok (.istore 4, 2) := by decide +kernel
theorem dX11_toMove_61 : decode cX11_toMove 61 = .ok (.iload 4, 2) := by decide +kernel
theorem dX11_toMove_63 : decode cX11_toMove 63 = .ok (.aload_n 0, 1) := by decide +kernel
theorem dX11_toMove_64 : decode cX11_toMove 64 = .ok (.getfield 60, 3) := by decide +kernel
theorem dX11_toMove_67 : decode cX11_toMove 67 = .ok (.iload_n 2, 1) := by decide +kernel
theorem dX11_toMove_68 : decode cX11_toMove 68 = .ok (.iaload, 1) := by decide +kernel
theorem dX11_toMove_69 : decode cX11_toMove 69 = .ok (.if_icmp .ge 49, 3) := by decide +kernel
theorem dX11_toMove_72 : decode cX11_toMove 72 = .ok (.iload_n 3, 1) := by decide +kernel
theorem dX11_toMove_73 : decode cX11_toMove 73 = .ok (.ifCond .eq 45, 3) := by decide +kernel
theorem dX11_toMove_76 : decode cX11_toMove 76 = .ok (.aload_n 0, 1) := by decide +kernel
theorem dX11_toMove_77 : decode cX11_toMove 77 = .ok (.getfield 63, 3) := by decide +kernel
theorem dX11_toMove_80 : decode cX11_toMove 80 = .ok (.bipush 7, 2) := by decide +kernel
theorem dX11_toMove_82 : decode cX11_toMove 82 = .ok (.iload_n 2, 1) := by decide +kernel
theorem dX11_toMove_83 : decode cX11_toMove 83 = .ok (.imul, 1) := by decide +kernel
theorem dX11_toMove_84 : decode cX11_toMove 84 = .ok (.iload 4, 2) := by decide +kernel
theorem dX11_toMove_86 : decode cX11_toMove 86 = .ok (.iadd, 1) := by decide +kernel
theorem dX11_toMove_87 : decode cX11_toMove 87 = .ok (.iaload, 1) := by decide +kernel
theorem dX11_toMove_88 : decode cX11_toMove 88 = .ok (.aload_n 0, 1) := by decide +kernel
theorem dX11_toMove_89 : decode cX11_toMove 89 = .ok (.getfield 35, 3) := by decide +kernel
theorem dX11_toMove_92 : decode cX11_toMove 92 = .ok (.bipush 19, 2) := by decide +kernel
theorem dX11_toMove_94 : decode cX11_toMove 94 = .ok (.bipush 7, 2) := by decide +kernel
theorem dX11_toMove_96 : decode cX11_toMove 96 = .ok (.iload_n 2, 1) := by decide +kernel
theorem dX11_toMove_97 : decode cX11_toMove 97 = .ok (.imul, 1) := by decide +kernel
theorem dX11_toMove_98 : decode cX11_toMove 98 = .ok (.iadd, 1) := by decide +kernel
theorem dX11_toMove_99 : decode cX11_toMove 99 = .ok (.iload 4, 2) := by decide +kernel
theorem dX11_toMove_101 : decode cX11_toMove 101 = .ok (.iadd, 1) := by decide +kernel
theorem dX11_toMove_102 : decode cX11_toMove 102 = .ok (.iaload, 1) := by decide +kernel
theorem dX11_toMove_103 : decode cX11_toMove 103 = .ok (.if_icmp .ne 7, 3) := by decide +kernel
theorem dX11_toMove_106 : decode cX11_toMove 106 = .ok (.iconst 1, 1) := by decide +kernel
theorem dX11_toMove_107 : decode cX11_toMove 107 = .ok (.goto 4, 3) := by decide +kernel
theorem dX11_toMove_110 : decode cX11_toMove 110 = .ok (.iconst 0, 1) := by decide +kernel
theorem dX11_toMove_111 : decode cX11_toMove 111 = .ok (.istore_n 3, 1) := by decide +kernel
theorem dX11_toMove_112 : decode cX11_toMove 112 = .ok (.iinc 4 1, 3) := by decide +kernel
theorem dX11_toMove_115 : decode cX11_toMove 115 = .ok (.goto (-54), 3) := by decide +kernel
theorem dX11_toMove_118 : decode cX11_toMove 118 = .ok (.iload_n 1, 1) := by decide +kernel
theorem dX11_toMove_119 : decode cX11_toMove 119 = .ok (.iload_n 3, 1) := by decide +kernel
theorem dX11_toMove_120 : decode cX11_toMove 120 = .ok (.ifCond .eq 7, 3) := by decide +kernel
theorem dX11_toMove_123 : decode cX11_toMove 123 = .ok (.iconst 0, 1) := by decide +kernel
theorem dX11_toMove_124 : decode cX11_toMove 124 = .ok (.goto 6, 3) := by decide +kernel
theorem dX11_toMove_127 : decode cX11_toMove 127 = .ok (.iconst 1, 1) := by decide +kernel
theorem dX11_toMove_128 : decode cX11_toMove 128 = .ok (.iload_n 2, 1) := by decide +kernel
theorem dX11_toMove_129 : decode cX11_toMove 129 = .ok (.ishl, 1) := by decide +kernel
theorem dX11_toMove_130 : decode cX11_toMove 130 = .ok (.ior, 1) := by decide +kernel
theorem dX11_toMove_131 : decode cX11_toMove 131 = .ok (.istore_n 1, 1) := by decide +kernel
theorem dX11_toMove_132 : decode cX11_toMove 132 = .ok (.iinc 2 1, 3) := by decide +kernel
theorem dX11_toMove_135 : decode cX11_toMove 135 = .ok (.goto (-131), 3) := by decide +kernel
theorem dX11_toMove_138 : decode cX11_toMove 138 = .ok (.iload_n 1, 1) := by decide +kernel
theorem dX11_toMove_139 : decode cX11_toMove 139 = .ok (.ireturn, 1) := by decide +kernel
theorem dX11_isBooked_0 : decode cX11_isBooked 0 = .ok (.iconst 0, 1) := by decide +kernel
theorem dX11_isBooked_1 : decode cX11_isBooked 1 = .ok (.istore 4, 2) := by decide +kernel
theorem dX11_isBooked_3 : decode cX11_isBooked 3 = .ok (.iload 4, 2) := by decide +kernel
theorem dX11_isBooked_5 : decode cX11_isBooked 5 = .ok (.aload_n 0, 1) := by decide +kernel
theorem dX11_isBooked_6 : decode cX11_isBooked 6 = .ok (.getfield 199, 3) := by decide +kernel
theorem dX11_isBooked_9 : decode cX11_isBooked 9 = .ok (.if_icmp .ge 134, 3) := by decide +kernel
theorem dX11_isBooked_12 : decode cX11_isBooked 12 = .ok (.iconst 0, 1) := by decide +kernel
theorem dX11_isBooked_13 : decode cX11_isBooked 13 = .ok (.istore 5, 2) := by decide +kernel
theorem dX11_isBooked_15 : decode cX11_isBooked 15 = .ok (.iconst 0, 1) := by decide +kernel
theorem dX11_isBooked_16 : decode cX11_isBooked 16 = .ok (.istore 6, 2) := by decide +kernel
theorem dX11_isBooked_18 : decode cX11_isBooked 18 = .ok (.iload 6, 2) := by decide +kernel
theorem dX11_isBooked_20 : decode cX11_isBooked 20 = .ok (.aload_n 0, 1) := by decide +kernel
theorem dX11_isBooked_21 : decode cX11_isBooked 21 = .ok (.getfield 202, 3) := by decide +kernel
theorem dX11_isBooked_24 : decode cX11_isBooked 24 = .ok (.if_icmp .ge 95, 3) := by decide +kernel
theorem dX11_isBooked_27 : decode cX11_isBooked 27 = .ok (.iload_n 3, 1) := by decide +kernel
theorem dX11_isBooked_28 : decode cX11_isBooked 28 = .ok (.iload 6, 2) := by decide +kernel
theorem dX11_isBooked_30 : decode cX11_isBooked 30 = .ok (.ishr, 1) := by decide +kernel
theorem dX11_isBooked_31 : decode cX11_isBooked 31 = .ok (.iconst 1, 1) := by decide +kernel
theorem dX11_isBooked_32 : decode cX11_isBooked 32 = .ok (.iand, 1) := by decide +kernel
theorem dX11_isBooked_33 : decode cX11_isBooked 33 = .ok (.iconst 1, 1) := by decide +kernel
theorem dX11_isBooked_34 : decode cX11_isBooked 34 = .ok (.if_icmp .ne 6, 3) := by decide +kernel
theorem dX11_isBooked_37 : decode cX11_isBooked 37 = .ok (.goto 76, 3) := by decide +kernel
theorem dX11_isBooked_40 : decode cX11_isBooked 40 = .ok (.iload_n 1, 1) := by decide +kernel
theorem dX11_isBooked_41 : decode cX11_isBooked 41 = .ok (.iload 6, 2) := by decide +kernel
theorem dX11_isBooked_43 : decode cX11_isBooked 43 = .ok (.ishr, 1) := by decide +kernel
theorem dX11_isBooked_44 : decode cX11_isBooked 44 = .ok (.iconst 1, 1) := by decide +kernel
theorem dX11_isBooked_45 : decode cX11_isBooked 45 = .ok (.iand, 1) := by decide +kernel
theorem dX11_isBooked_46 : decode cX11_isBooked 46 = .ok (.iconst 1, 1) := by decide +kernel
theorem dX11_isBooked_47 : decode cX11_isBooked 47 = .ok (.if_icmp .ne 13, 3) := by decide +kernel
theorem dX11_isBooked_50 : decode cX11_isBooked 50 = .ok (.aload_n 0, 1) := by decide +kernel
theorem dX11_isBooked_51 : decode cX11_isBooked 51 = .ok (.getfield 66, 3) := by decide +kernel
theorem dX11_isBooked_54 : decode cX11_isBooked 54 = .ok (.iload 6, 2) := by decide +kernel
theorem dX11_isBooked_56 : decode cX11_isBooked 56 = .ok (.iaload, 1) := by decide +kernel
theorem dX11_isBooked_57 : decode cX11_isBooked 57 = .ok (.goto 10, 3) := by decide +kernel
theorem dX11_isBooked_60 : decode cX11_isBooked 60 = .ok (.aload_n 0, 1) := by decide +kernel
theorem dX11_isBooked_61 : decode cX11_isBooked 61 = .ok (.iconst 0, 1) := by decide +kernel
theorem dX11_isBooked_62 : decode cX11_isBooked 62 = .ok (.iload 6, 2) := by decide +kernel
theorem dX11_isBooked_64 : decode cX11_isBooked 64 = .ok (.invokevirtual 226, 3) := by decide +kernel
theorem dX11_isBooked_67 : decode cX11_isBooked 67 = .ok (.istore 7, 2) := by decide +kernel
theorem dX11_isBooked_69 : decode cX11_isBooked 69 = .ok (.iload_n 2, 1) := by decide +kernel
theorem dX11_isBooked_70 : decode cX11_isBooked 70 = .ok (.iload 6, 2) := by decide +kernel
theorem dX11_isBooked_72 : decode cX11_isBooked 72 = .ok (.ishr, 1) := by decide +kernel
theorem dX11_isBooked_73 : decode cX11_isBooked 73 = .ok (.iconst 1, 1) := by decide +kernel
theorem dX11_isBooked_74 : decode cX11_isBooked 74 = .ok (.iand, 1) := by decide +kernel
theorem dX11_isBooked_75 : decode cX11_isBooked 75 = .ok (.iconst 1, 1) := by decide +kernel
theorem dX11_isBooked_76 : decode cX11_isBooked 76 = .ok (.if_icmp .ne 15, 3) := by decide +kernel
theorem dX11_isBooked_79 : decode cX11_isBooked 79 = .ok (.iload 7, 2) := by decide +kernel
theorem dX11_isBooked_81 : decode cX11_isBooked 81 = .ok (.aload_n 0, 1) := by decide +kernel
theorem dX11_isBooked_82 : decode cX11_isBooked 82 = .ok (.getfield 66, 3) := by decide +kernel
theorem dX11_isBooked_85 : decode cX11_isBooked 85 = .ok (.iload 6, 2) := by decide +kernel
theorem dX11_isBooked_87 : decode cX11_isBooked 87 = .ok (.iaload, 1) := by decide +kernel
theorem dX11_isBooked_88 : decode cX11_isBooked 88 = .ok (.ior, 1) := by decide +kernel
theorem dX11_isBooked_89 : decode cX11_isBooked 89 = .ok (.istore 7, 2) := by decide +kernel
theorem dX11_isBooked_91 : decode cX11_isBooked 91 = .ok (.iload 5, 2) := by decide +kernel
theorem dX11_isBooked_93 : decode cX11_isBooked 93 = .ok (.iload 7, 2) := by decide +kernel
theorem dX11_isBooked_95 : decode cX11_isBooked 95 = .ok (.iload 4, 2) := by decide +kernel
theorem dX11_isBooked_97 : decode cX11_isBooked 97 = .ok (.ishr, 1) := by decide +kernel
theorem dX11_isBooked_98 : decode cX11_isBooked 98 = .ok (.iconst 1, 1) := by decide +kernel
theorem dX11_isBooked_99 : decode cX11_isBooked 99 = .ok (.iand, 1) := by decide +kernel
theorem dX11_isBooked_100 : decode cX11_isBooked 100 = .ok (.aload_n 0, 1) := by decide +kernel
theorem dX11_isBooked_101 : decode cX11_isBooked 101 = .ok (.getfield 35, 3) := by decide +kernel
theorem dX11_isBooked_104 : decode cX11_isBooked 104 = .ok (.iconst 1, 1) := by decide +kernel
theorem dX11_isBooked_105 : decode cX11_isBooked 105 = .ok (.iload 6, 2) := by decide +kernel
theorem dX11_isBooked_107 : decode cX11_isBooked 107 = .ok (.iadd, 1) := by decide +kernel
theorem dX11_isBooked_108 : decode cX11_isBooked 108 = .ok (.iaload, 1) := by decide +kernel
theorem dX11_isBooked_109 : decode cX11_isBooked 109 = .ok (.imul, 1) := by decide +kernel
theorem dX11_isBooked_110 : decode cX11_isBooked 110 = .ok (.iadd, 1) := by decide +kernel
theorem dX11_isBooked_111 : decode cX11_isBooked 111 = .ok (.istore 5, 2) := by decide +kernel
theorem dX11_isBooked_113 : decode cX11_isBooked 113 = .ok (.iinc 6 1, 3) := by decide +kernel
theorem dX11_isBooked_116 : decode cX11_isBooked 116 = .ok (.goto (-98), 3) := by decide +kernel
theorem dX11_isBooked_119 : decode cX11_isBooked 119 = .ok (.iload 5, 2) := by decide +kernel
theorem dX11_isBooked_121 : decode cX11_isBooked 121 = .ok (.aload_n 0, 1) := by decide +kernel
theorem dX11_isBooked_122 : decode cX11_isBooked 122 = .ok (.getfield 23, 3) := by decide +kernel
theorem dX11_isBooked_125 : decode cX11_isBooked 125 = .ok (.iconst 5, 1) := by decide +kernel
theorem dX11_isBooked_126 : decode cX11_isBooked 126 = .ok (.iload 4, 2) := by decide +kernel
theorem dX11_isBooked_128 : decode cX11_isBooked 128 = .ok (.imul, 1) := by decide +kernel
theorem dX11_isBooked_129 : decode cX11_isBooked 129 = .ok (.iconst 3, 1) := by decide +kernel
theorem dX11_isBooked_130 : decode cX11_isBooked 130 = .ok (.iadd, 1) := by decide +kernel
theorem dX11_isBooked_131 : decode cX11_isBooked 131 = .ok (.iaload, 1) := by decide +kernel
theorem dX11_isBooked_132 : decode cX11_isBooked 132 = .ok (.if_icmp .le 5, 3) := by decide +kernel
theorem dX11_isBooked_135 : decode cX11_isBooked 135 = .ok (.iconst 0, 1) := by decide +kernel
theorem dX11_isBooked_136 : decode cX11_isBooked 136 = .ok (.ireturn, 1) := by decide +kernel
theorem dX11_isBooked_137 : decode cX11_isBooked 137 = .ok (.iinc 4 1, 3) := by decide +kernel
theorem dX11_isBooked_140 : decode cX11_isBooked 140 = .ok (.goto (-137), 3) := by decide +kernel
theorem dX11_isBooked_143 : decode cX11_isBooked 143 = .ok (.iconst 1, 1) := by decide +kernel
theorem dX11_isBooked_144 : decode cX11_isBooked 144 = .ok (.ireturn, 1) := by decide +kernel
theorem dX11_laysCan_0 : decode cX11_laysCan 0 = .ok (.iload_n 1, 1) := by decide +kernel
theorem dX11_laysCan_1 : decode cX11_laysCan 1 = .ok (.istore_n 3, 1) := by decide +kernel
theorem dX11_laysCan_2 : decode cX11_laysCan 2 = .ok (.iload_n 3, 1) := by decide +kernel
theorem dX11_laysCan_3 : decode cX11_laysCan 3 = .ok (.ifCond .lt 115, 3) := by decide +kernel
theorem dX11_laysCan_6 : decode cX11_laysCan 6 = .ok (.aload_n 0, 1) := by decide +kernel
theorem dX11_laysCan_7 : decode cX11_laysCan 7 = .ok (.getfield 69, 3) := by decide +kernel
theorem dX11_laysCan_10 : decode cX11_laysCan 10 = .ok (.iload_n 3, 1) := by decide +kernel
theorem dX11_laysCan_11 : decode cX11_laysCan 11 = .ok (.iload_n 3, 1) := by decide +kernel
theorem dX11_laysCan_12 : decode cX11_laysCan 12 = .ok (.iload_n 1, 1) := by decide +kernel
theorem dX11_laysCan_13 : decode cX11_laysCan 13 = .ok (.if_icmp .ne 7, 3) := by decide +kernel
theorem dX11_laysCan_16 : decode cX11_laysCan 16 = .ok (.iconst 1, 1) := by decide +kernel
theorem dX11_laysCan_17 : decode cX11_laysCan 17 = .ok (.goto 4, 3) := by decide +kernel
theorem dX11_laysCan_20 : decode cX11_laysCan 20 = .ok (.iconst 0, 1) := by decide +kernel
theorem dX11_laysCan_21 : decode cX11_laysCan 21 = .ok (.bastore, 1) := by decide +kernel
theorem dX11_laysCan_22 : decode cX11_laysCan 22 = .ok (.iload_n 3, 1) := by decide +kernel
theorem dX11_laysCan_23 : decode cX11_laysCan 23 = .ok (.iload_n 1, 1) := by decide +kernel
theorem dX11_laysCan_24 : decode cX11_laysCan 24 = .ok (.iconst (-1), 1) := by decide +kernel
theorem dX11_laysCan_25 : decode cX11_laysCan 25 = .ok (.ixor, 1) := by decide +kernel
theorem dX11_laysCan_26 : decode cX11_laysCan 26 = .ok (.iand, 1) := by decide +kernel
theorem dX11_laysCan_27 : decode cX11_laysCan 27 = .ok (.ifCond .eq 6, 3) := by decide +kernel
theorem dX11_laysCan_30 : decode cX11_laysCan 30 = .ok (.goto 82, 3) := by decide +kernel
theorem dX11_laysCan_33 : decode cX11_laysCan 33 = .ok (.iconst 0, 1) := by decide +kernel
theorem dX11_laysCan_34 : decode cX11_laysCan 34 = .ok (.istore 4, 2) := by decide +kernel
theorem dX11_laysCan_36 : decode cX11_laysCan 36 = .ok (.iload 4, 2) := by decide +kernel
theorem dX11_laysCan_38 : decode cX11_laysCan 38 = .ok (.aload_n 0, 1) := by decide +kernel
theorem dX11_laysCan_39 : decode cX11_laysCan 39 = .ok (.getfield 202, 3) := by decide +kernel
theorem dX11_laysCan_42 : decode cX11_laysCan 42 = .ok (.if_icmp .ge 70, 3) := by decide +kernel
theorem dX11_laysCan_45 : decode cX11_laysCan 45 = .ok (.aload_n 0, 1) := by decide +kernel
theorem dX11_laysCan_46 : decode cX11_laysCan 46 = .ok (.getfield 69, 3) := by decide +kernel
theorem dX11_laysCan_49 : decode cX11_laysCan 49 = .ok (.iload_n 3, 1) := by decide +kernel
theorem dX11_laysCan_50 : decode cX11_laysCan 50 = .ok (.baload, 1) := by decide +kernel
theorem dX11_laysCan_51 : decode cX11_laysCan 51 = .ok (.ifCond .ne 61, 3) := by decide +kernel
theorem dX11_laysCan_54 : decode cX11_laysCan 54 = .ok (.iload_n 1, 1) := by decide +kernel
theorem dX11_laysCan_55 : decode cX11_laysCan 55 = .ok (.iload 4, 2) := by decide +kernel
theorem dX11_laysCan_57 : decode cX11_laysCan 57 = .ok (.ishr, 1) := by decide +kernel
theorem dX11_laysCan_58 : decode cX11_laysCan 58 = .ok (.iconst 1, 1) := by decide +kernel
theorem dX11_laysCan_59 : decode cX11_laysCan 59 = .ok (.iand, 1) := by decide +kernel
theorem dX11_laysCan_60 : decode cX11_laysCan 60 = .ok (.ifCond .eq 46, 3) := by decide +kernel
theorem dX11_laysCan_63 : decode cX11_laysCan 63 = .ok (.iload_n 3, 1) := by decide +kernel
theorem dX11_laysCan_64 : decode cX11_laysCan 64 = .ok (.iload 4, 2) := by decide +kernel
theorem dX11_laysCan_66 : decode cX11_laysCan 66 = .ok (.ishr, 1) := by decide +kernel
theorem dX11_laysCan_67 : decode cX11_laysCan 67 = .ok (.iconst 1, 1) := by decide +kernel
theorem dX11_laysCan_68 : decode cX11_laysCan 68 = .ok (.iand, 1) := by decide +kernel
theorem dX11_laysCan_69 : decode cX11_laysCan 69 = .ok (.iconst 1, 1) := by decide +kernel
theorem dX11_laysCan_70 : decode cX11_laysCan 70 = .ok (.if_icmp .eq 36, 3) := by decide +kernel
theorem dX11_laysCan_73 : decode cX11_laysCan 73 = .ok (.aload_n 0, 1) := by decide +kernel
theorem dX11_laysCan_74 : decode cX11_laysCan 74 = .ok (.getfield 69, 3) := by decide +kernel
theorem dX11_laysCan_77 : decode cX11_laysCan 77 = .ok (.iload_n 3, 1) := by decide +kernel
theorem dX11_laysCan_78 : decode cX11_laysCan 78 = .ok (.iconst 1, 1) := by decide +kernel
theorem dX11_laysCan_79 : decode cX11_laysCan 79 = .ok (.iload 4, 2) := by decide +kernel
theorem dX11_laysCan_81 : decode cX11_laysCan 81 = .ok (.ishl, 1) := by decide +kernel
theorem dX11_laysCan_82 : decode cX11_laysCan 82 = .ok (.ior, 1) := by decide +kernel
theorem dX11_laysCan_83 : decode cX11_laysCan 83 = .ok (.baload, 1) := by decide +kernel
theorem dX11_laysCan_84 : decode cX11_laysCan 84 = .ok (.ifCond .ne 6, 3) := by decide +kernel
theorem dX11_laysCan_87 : decode cX11_laysCan 87 = .ok (.goto 19, 3) := by decide +kernel
theorem dX11_laysCan_90 : decode cX11_laysCan 90 = .ok (.aload_n 0, 1) := by decide +kernel
theorem dX11_laysCan_91 : decode cX11_laysCan 91 = .ok (.getfield 69, 3) := by decide +kernel
theorem dX11_laysCan_94 : decode cX11_laysCan 94 = .ok (.iload_n 3, 1) := by decide +kernel
theorem dX11_laysCan_95 : decode cX11_laysCan 95 = .ok (.aload_n 0, 1) := by decide +kernel
theorem dX11_laysCan_96 : decode cX11_laysCan 96 = .ok (.iload_n 3, 1) := by decide +kernel
theorem dX11_laysCan_97 : decode cX11_laysCan 97 = .ok (.iconst 1, 1) := by decide +kernel
theorem dX11_laysCan_98 : decode cX11_laysCan 98 = .ok (.iload 4, 2) := by decide +kernel
theorem dX11_laysCan_100 : decode cX11_laysCan 100 = .ok (.ishl, 1) := by decide +kernel
theorem dX11_laysCan_101 : decode cX11_laysCan 101 = .ok (.iload_n 2, 1) := by decide +kernel
theorem dX11_laysCan_102 : decode cX11_laysCan 102 = .ok (.invokevirtual 368, 3) := by decide +kernel
theorem dX11_laysCan_105 : decode cX11_laysCan 105 = .ok (.bastore, 1) := by decide +kernel
theorem dX11_laysCan_106 : decode cX11_laysCan 106 = .ok (.iinc 4 1, 3) := by decide +kernel
theorem dX11_laysCan_109 : decode cX11_laysCan 109 = .ok (.goto (-73), 3) := by decide +kernel
theorem dX11_laysCan_112 : decode cX11_laysCan 112 = .ok (.iinc 3 (-1), 3) := by decide +kernel
theorem dX11_laysCan_115 : decode cX11_laysCan 115 = .ok (.goto (-113), 3) := by decide +kernel
theorem dX11_laysCan_118 : decode cX11_laysCan 118 = .ok (.return_, 1) := by decide +kernel
theorem dX11_order_0 : decode cX11_order 0 = .ok (.aload_n 0, 1) := by decide +kernel
theorem dX11_order_1 : decode cX11_order 1 = .ok (.iconst 0, 1) := by decide +kernel
theorem dX11_order_2 : decode cX11_order 2 = .ok (.putfield 96, 3) := by decide +kernel
theorem dX11_order_5 : decode cX11_order 5 = .ok (.aload_n 0, 1) := by decide +kernel
theorem dX11_order_6 : decode cX11_order 6 = .ok (.iload_n 1, 1) := by decide +kernel
theorem dX11_order_7 : decode cX11_order 7 = .ok (.ifCond .lt 7, 3) := by decide +kernel
theorem dX11_order_10 : decode cX11_order 10 = .ok (.iconst 1, 1) := by decide +kernel
theorem dX11_order_11 : decode cX11_order 11 = .ok (.goto 4, 3) := by decide +kernel
theorem dX11_order_14 : decode cX11_order 14 = .ok (.iconst 0, 1) := by decide +kernel
theorem dX11_order_15 : decode cX11_order 15 = .ok (.iconst 1, 1) := by decide +kernel
theorem dX11_order_16 : decode cX11_order 16 = .ok (.invokevirtual 192, 3) := by decide +kernel
theorem dX11_order_19 : decode cX11_order 19 = .ok (.ifCond .ne 5, 3) := by decide +kernel
theorem dX11_order_22 : decode cX11_order 22 = .ok (.iconst 0, 1) := by decide +kernel
theorem dX11_order_23 : decode cX11_order 23 = .ok (.ireturn, 1) := by decide +kernel
theorem dX11_order_24 : decode cX11_order 24 = .ok (.aload_n 0, 1) := by decide +kernel
theorem dX11_order_25 : decode cX11_order 25 = .ok (.invokevirtual 365, 3) := by decide +kernel
theorem dX11_order_28 : decode cX11_order 28 = .ok (.aload_n 0, 1) := by decide +kernel
theorem dX11_order_29 : decode cX11_order 29 = .ok (.invokevirtual 371, 3) := by decide +kernel
theorem dX11_order_32 : decode cX11_order 32 = .ok (.istore_n 2, 1) := by decide +kernel
theorem dX11_order_33 : decode cX11_order 33 = .ok (.aload_n 0, 1) := by decide +kernel
theorem dX11_order_34 : decode cX11_order 34 = .ok (.iload_n 2, 1) := by decide +kernel
theorem dX11_order_35 : decode cX11_order 35 = .ok (.iconst 0, 1) := by decide +kernel
theorem dX11_order_36 : decode cX11_order 36 = .ok (.invokevirtual 374, 3) := by decide +kernel
theorem dX11_order_39 : decode cX11_order 39 = .ok (.aload_n 0, 1) := by decide +kernel
theorem dX11_order_40 : decode cX11_order 40 = .ok (.getfield 69, 3) := by decide +kernel
theorem dX11_order_43 : decode cX11_order 43 = .ok (.iconst 0, 1) := by decide +kernel
theorem dX11_order_44 : decode cX11_order 44 = .ok (.baload, 1) := by decide +kernel
theorem dX11_order_45 : decode cX11_order 45 = .ok (.ifCond .ne 5, 3) := by decide +kernel
theorem dX11_order_48 : decode cX11_order 48 = .ok (.iconst (-1), 1) := by decide +kernel
theorem dX11_order_49 : decode cX11_order 49 = .ok (.ireturn, 1) := by decide +kernel
theorem dX11_order_50 : decode cX11_order 50 = .ok (.iconst 0, 1) := by decide +kernel
theorem dX11_order_51 : decode cX11_order 51 = .ok (.istore_n 3, 1) := by decide +kernel
theorem dX11_order_52 : decode cX11_order 52 = .ok (.iconst 0, 1) := by decide +kernel
theorem dX11_order_53 : decode cX11_order 53 = .ok (.istore 4, 2) := by decide +kernel
theorem dX11_order_55 : decode cX11_order 55 = .ok (.iload_n 3, 1) := by decide +kernel
theorem dX11_order_56 : decode cX11_order 56 = .ok (.iload_n 2, 1) := by decide +kernel
theorem dX11_order_57 : decode cX11_order 57 = .ok (.if_icmp .eq 80, 3) := by decide +kernel
theorem dX11_order_60 : decode cX11_order 60 = .ok (.iconst 0, 1) := by decide +kernel
theorem dX11_order_61 : decode cX11_order 61 = .ok (.istore 5, 2) := by decide +kernel
theorem dX11_order_63 : decode cX11_order 63 = .ok (.iload_n 2, 1) := by decide +kernel
theorem dX11_order_64 : decode cX11_order 64 = .ok (.iload 5, 2) := by decide +kernel
theorem dX11_order_66 : decode cX11_order 66 = .ok (.ishr, 1) := by decide +kernel
theorem dX11_order_67 : decode cX11_order 67 = .ok (.iconst 1, 1) := by decide +kernel
theorem dX11_order_68 : decode cX11_order 68 = .ok (.iand, 1) := by decide +kernel
theorem dX11_order_69 : decode cX11_order 69 = .ok (.ifCond .eq 40, 3) := by decide +kernel
theorem dX11_order_72 : decode cX11_order 72 = .ok (.iload_n 3, 1) := by decide +kernel
theorem dX11_order_73 : decode cX11_order 73 = .ok (.iload 5, 2) := by decide +kernel
theorem dX11_order_75 : decode cX11_order 75 = .ok (.ishr, 1) := by decide +kernel
theorem dX11_order_76 : decode cX11_order 76 = .ok (.iconst 1, 1) := by decide +kernel
theorem dX11_order_77 : decode cX11_order 77 = .ok (.iand, 1) := by decide +kernel
theorem dX11_order_78 : decode cX11_order 78 = .ok (.iconst 1, 1) := by decide +kernel
theorem dX11_order_79 : decode cX11_order 79 = .ok (.if_icmp .eq 30, 3) := by decide +kernel
theorem dX11_order_82 : decode cX11_order 82 = .ok (.aload_n 0, 1) := by decide +kernel
theorem dX11_order_83 : decode cX11_order 83 = .ok (.getfield 69, 3) := by decide +kernel
theorem dX11_order_86 : decode cX11_order 86 = .ok (.iload_n 3, 1) := by decide +kernel
theorem dX11_order_87 : decode cX11_order 87 = .ok (.iconst 1, 1) := by decide +kernel
theorem dX11_order_88 : decode cX11_order 88 = .ok (.iload 5, 2) := by decide +kernel
theorem dX11_order_90 : decode cX11_order 90 = .ok (.ishl, 1) := by decide +kernel
theorem dX11_order_91 : decode cX11_order 91 = .ok (.ior, 1) := by decide +kernel
theorem dX11_order_92 : decode cX11_order 92 = .ok (.baload, 1) := by decide +kernel
theorem dX11_order_93 : decode cX11_order 93 = .ok (.ifCond .eq 16, 3) := by decide +kernel
theorem dX11_order_96 : decode cX11_order 96 = .ok (.aload_n 0, 1) := by decide +kernel
theorem dX11_order_97 : decode cX11_order 97 = .ok (.iload_n 3, 1) := by decide +kernel
theorem dX11_order_98 : decode cX11_order 98 = .ok (.iconst 1, 1) := by decide +kernel
theorem dX11_order_99 : decode cX11_order 99 = .ok (.iload 5, 2) := by decide +kernel
theorem dX11_order_101 : decode cX11_order 101 = .ok (.ishl, 1) := by decide +kernel
theorem dX11_order_102 : decode cX11_order 102 = .ok (.iconst 0, 1) := by decide +kernel
theorem dX11_order_103 : decode cX11_order 103 = .ok (.invokevirtual 368, 3) := by decide +kernel
theorem dX11_order_106 : decode cX11_order 106 = .ok (.ifCond .ne 9, 3) := by decide +kernel
theorem dX11_order_109 : decode cX11_order 109 = .ok (.iinc 5 1, 3) := by decide +kernel
theorem dX11_order_112 : decode cX11_order 112 = .ok (.goto (-49), 3) := by decide +kernel
theorem dX11_order_115 : decode cX11_order 115 = .ok (.iload 4, 2) := by decide +kernel
theorem dX11_order_117 : decode cX11_order 117 = .ok (.iload_n 1, 1) := by decide +kernel
theorem dX11_order_118 : decode cX11_order 118 = .ok (.if_icmp .ne 6, 3) := by decide +kernel
theorem dX11_order_121 : decode cX11_order 121 = .ok (.iload 5, 2) := by decide +kernel
theorem dX11_order_123 : decode cX11_order 123 = .ok (.ireturn, 1) := by decide +kernel
theorem dX11_order_124 : decode cX11_order 124 = .ok (.iload_n 3, 1) := by decide +kernel
theorem dX11_order_125 : decode cX11_order 125 = .ok (.iconst 1, 1) := by decide +kernel
theorem dX11_order_126 : decode cX11_order 126 = .ok (.iload 5, 2) := by decide +kernel
theorem dX11_order_128 : decode cX11_order 128 = .ok (.ishl, 1) := by decide +kernel
theorem dX11_order_129 : decode cX11_order 129 = .ok (.ior, 1) := by decide +kernel
theorem dX11_order_130 : decode cX11_order 130 = .ok (.istore_n 3, 1) := by decide +kernel
theorem dX11_order_131 : decode cX11_order 131 = .ok (.iinc 4 1, 3) := by decide +kernel
theorem dX11_order_134 : decode cX11_order 134 = .ok (.goto (-79), 3) := by decide +kernel
theorem dX11_order_137 : decode cX11_order 137 = .ok (.iconst (-1), 1) := by decide +kernel
theorem dX11_order_138 : decode cX11_order 138 = .ok (.ireturn, 1) := by decide +kernel
theorem dX11_toBreak_0 : decode cX11_toBreak 0 = .ok (.aload_n 0, 1) := by decide +kernel
theorem dX11_toBreak_1 : decode cX11_toBreak 1 = .ok (.iconst 0, 1) := by decide +kernel
theorem dX11_toBreak_2 : decode cX11_toBreak 2 = .ok (.putfield 96, 3) := by decide +kernel
theorem dX11_toBreak_5 : decode cX11_toBreak 5 = .ok (.aload_n 0, 1) := by decide +kernel
theorem dX11_toBreak_6 : decode cX11_toBreak 6 = .ok (.invokevirtual 365, 3) := by decide +kernel
theorem dX11_toBreak_9 : decode cX11_toBreak 9 = .ok (.aload_n 0, 1) := by decide +kernel
theorem dX11_toBreak_10 : decode cX11_toBreak 10 = .ok (.invokevirtual 371, 3) := by decide +kernel
theorem dX11_toBreak_13 : decode cX11_toBreak 13 = .ok (.istore_n 1, 1) := by decide +kernel
theorem dX11_toBreak_14 : decode cX11_toBreak 14 = .ok (.aload_n 0, 1) := by decide +kernel
theorem dX11_toBreak_15 : decode cX11_toBreak 15 = .ok (.iload_n 1, 1) := by decide +kernel
theorem dX11_toBreak_16 : decode cX11_toBreak 16 = .ok (.iconst 0, 1) := by decide +kernel
theorem dX11_toBreak_17 : decode cX11_toBreak 17 = .ok (.iconst 0, 1) := by decide +kernel
theorem dX11_toBreak_18 : decode cX11_toBreak 18 = .ok (.invokevirtual 368, 3) := by decide +kernel
theorem dX11_toBreak_21 : decode cX11_toBreak 21 = .ok (.ifCond .ne 5, 3) := by decide +kernel
theorem dX11_toBreak_24 : decode cX11_toBreak 24 = .ok (.iconst (-1), 1) := by decide +kernel
theorem dX11_toBreak_25 : decode cX11_toBreak 25 = .ok (.ireturn, 1) := by decide +kernel
theorem dX11_toBreak_26 : decode cX11_toBreak 26 = .ok (.iconst (-1), 1) := by decide +kernel
theorem dX11_toBreak_27 : decode cX11_toBreak 27 = .ok (.istore_n 2, 1) := by decide +kernel
theorem dX11_toBreak_28 : decode cX11_toBreak 28 = .ok (.iconst 0, 1) := by decide +kernel
theorem dX11_toBreak_29 : decode cX11_toBreak 29 = .ok (.istore_n 3, 1) := by decide +kernel
theorem dX11_toBreak_30 : decode cX11_toBreak 30 = .ok (.iload_n 3, 1) := by decide +kernel
theorem dX11_toBreak_31 : decode cX11_toBreak 31 = .ok (.iload_n 1, 1) := by decide +kernel
theorem dX11_toBreak_32 : decode cX11_toBreak 32 = .ok (.if_icmp .gt 57, 3) := by decide +kernel
theorem dX11_toBreak_35 : decode cX11_toBreak 35 = .ok (.iload_n 3, 1) := by decide +kernel
theorem dX11_toBreak_36 : decode cX11_toBreak 36 = .ok (.iload_n 1, 1) := by decide +kernel
theorem dX11_toBreak_37 : decode cX11_toBreak 37 = .ok (.iconst (-1), 1) := by decide +kernel
theorem dX11_toBreak_38 : decode cX11_toBreak 38 = .ok (.ixor, 1) := by decide +kernel
theorem dX11_toBreak_39 : decode cX11_toBreak 39 = .ok (.iand, 1) := by decide +kernel
theorem dX11_toBreak_40 : decode cX11_toBreak 40 = .ok (.ifCond .ne 43, 3) := by decide +kernel
theorem dX11_toBreak_43 : decode cX11_toBreak 43 = .ok (.iload_n 2, 1) := by decide +kernel
theorem dX11_toBreak_44 : decode cX11_toBreak 44 = .ok (.iconst (-1), 1) := by decide +kernel
theorem dX11_toBreak_45 : decode cX11_toBreak 45 = .ok (.if_icmp .eq 17, 3) := by decide +kernel
theorem dX11_toBreak_48 : decode cX11_toBreak 48 = .ok (.iload_n 3, 1) := by decide +kernel
theorem dX11_toBreak_49 : decode cX11_toBreak 49 = .ok (.invokestatic 275, 3) := by decide +kernel
theorem dX11_toBreak_52 : decode cX11_toBreak 52 = .ok (.iload_n 2, 1) := by decide +kernel
theorem dX11_toBreak_53 : decode cX11_toBreak 53 = .ok (.invokestatic 275, 3) := by decide +kernel
theorem dX11_toBreak_56 : decode cX11_toBreak 56 = .ok (.if_icmp .lt 6, 3) := by decide +kernel
theorem dX11_toBreak_59 : decode cX11_toBreak 59 = .ok (.goto 24, 3) := by decide +kernel
theorem dX11_toBreak_62 : decode cX11_toBreak 62 = .ok (.aload_n 0, 1) := by decide +kernel
theorem dX11_toBreak_63 : decode cX11_toBreak 63 = .ok (.iload_n 1, 1) := by decide +kernel
theorem dX11_toBreak_64 : decode cX11_toBreak 64 = .ok (.iload_n 3, 1) := by decide +kernel
theorem dX11_toBreak_65 : decode cX11_toBreak 65 = .ok (.iconst (-1), 1) := by decide +kernel
theorem dX11_toBreak_66 : decode cX11_toBreak 66 = .ok (.ixor, 1) := by decide +kernel
theorem dX11_toBreak_67 : decode cX11_toBreak 67 = .ok (.iand, 1) := by decide +kernel
theorem dX11_toBreak_68 : decode cX11_toBreak 68 = .ok (.iload_n 3, 1) := by decide +kernel
theorem dX11_toBreak_69 : decode cX11_toBreak 69 = .ok (.invokevirtual 374, 3) := by decide +kernel
theorem dX11_toBreak_72 : decode cX11_toBreak 72 = .ok (.aload_n 0, 1) := by decide +kernel
theorem dX11_toBreak_73 : decode cX11_toBreak 73 = .ok (.getfield 69, 3) := by decide +kernel
theorem dX11_toBreak_76 : decode cX11_toBreak 76 = .ok (.iconst 0, 1) := by decide +kernel
theorem dX11_toBreak_77 : decode cX11_toBreak 77 = .ok (.baload, 1) := by decide +kernel
theorem dX11_toBreak_78 : decode cX11_toBreak 78 = .ok (.ifCond .eq 5, 3) := by decide +kernel
theorem dX11_toBreak_81 : decode cX11_toBreak 81 = .ok (.iload_n 3, 1) := by decide +kernel
theorem dX11_toBreak_82 : decode cX11_toBreak 82 = .ok (.istore_n 2, 1) := by decide +kernel
theorem dX11_toBreak_83 : decode cX11_toBreak 83 = .ok (.iinc 3 1, 3) := by decide +kernel
theorem dX11_toBreak_86 : decode cX11_toBreak 86 = .ok (.goto (-56), 3) := by decide +kernel
theorem dX11_toBreak_89 : decode cX11_toBreak 89 = .ok (.iload_n 2, 1) := by decide +kernel
theorem dX11_toBreak_90 : decode cX11_toBreak 90 = .ok (.ireturn, 1) := by decide +kernel
theorem dX11_isFoundFor_0 : decode cX11_isFoundFor 0 = .ok (.aload_n 0, 1) := by decide +kernel
theorem dX11_isFoundFor_1 : decode cX11_isFoundFor 1 = .ok (.iconst 0, 1) := by decide +kernel
theorem dX11_isFoundFor_2 : decode cX11_isFoundFor 2 = .ok (.iconst (-1), 1) := by decide +kernel
theorem dX11_isFoundFor_3 : decode cX11_isFoundFor 3 = .ok (.iload_n 3, 1) := by decide +kernel
theorem dX11_isFoundFor_4 : decode cX11_isFoundFor 4 = .ok (.iload 4, 2) := by decide +kernel
theorem dX11_isFoundFor_6 : decode cX11_isFoundFor 6 = .ok (.iconst 0, 1) := by decide +kernel
theorem dX11_isFoundFor_7 : decode cX11_isFoundFor 7 = .ok (.invokevirtual 261, 3) := by decide +kernel
theorem dX11_isFoundFor_10 : decode cX11_isFoundFor 10 = .ok (.aload_n 0, 1) := by decide +kernel
theorem dX11_isFoundFor_11 : decode cX11_isFoundFor 11 = .ok (.iload_n 1, 1) := by decide +kernel
theorem dX11_isFoundFor_12 : decode cX11_isFoundFor 12 = .ok (.iload_n 2, 1) := by decide +kernel
theorem dX11_isFoundFor_13 : decode cX11_isFoundFor 13 = .ok (.bipush 7, 2) := by decide +kernel
theorem dX11_isFoundFor_15 : decode cX11_isFoundFor 15 = .ok (.invokevirtual 265, 3) := by decide +kernel
theorem dX11_isFoundFor_18 : decode cX11_isFoundFor 18 = .ok (.ireturn, 1) := by decide +kernel
theorem dX11_widest_0 : decode cX11_widest 0 = .ok (.aload_n 0, 1) := by decide +kernel
theorem dX11_widest_1 : decode cX11_widest 1 = .ok (.iconst 0, 1) := by decide +kernel
theorem dX11_widest_2 : decode cX11_widest 2 = .ok (.putfield 96, 3) := by decide +kernel
theorem dX11_widest_5 : decode cX11_widest 5 = .ok (.aload_n 0, 1) := by decide +kernel
theorem dX11_widest_6 : decode cX11_widest 6 = .ok (.iload_n 1, 1) := by decide +kernel
theorem dX11_widest_7 : decode cX11_widest 7 = .ok (.invokevirtual 377, 3) := by decide +kernel
theorem dX11_widest_10 : decode cX11_widest 10 = .ok (.ifCond .eq 39, 3) := by decide +kernel
theorem dX11_widest_13 : decode cX11_widest 13 = .ok (.aload_n 0, 1) := by decide +kernel
theorem dX11_widest_14 : decode cX11_widest 14 = .ok (.iload_n 2, 1) := by decide +kernel
theorem dX11_widest_15 : decode cX11_widest 15 = .ok (.invokevirtual 377, 3) := by decide +kernel
theorem dX11_widest_18 : decode cX11_widest 18 = .ok (.ifCond .eq 31, 3) := by decide +kernel
theorem dX11_widest_21 : decode cX11_widest 21 = .ok (.aload_n 0, 1) := by decide +kernel
theorem dX11_widest_22 : decode cX11_widest 22 = .ok (.iload_n 1, 1) := by decide +kernel
theorem dX11_widest_23 : decode cX11_widest 23 = .ok (.iload_n 2, 1) := by decide +kernel
theorem dX11_widest_24 : decode cX11_widest 24 = .ok (.if_icmp .eq 17, 3) := by decide +kernel
theorem dX11_widest_27 : decode cX11_widest 27 = .ok (.iload_n 3, 1) := by decide +kernel
theorem dX11_widest_28 : decode cX11_widest 28 = .ok (.iconst 0, 1) := by decide +kernel
theorem dX11_widest_29 : decode cX11_widest 29 = .ok (.bipush 7, 2) := by decide +kernel
theorem dX11_widest_31 : decode cX11_widest 31 = .ok (.invokestatic 318, 3) := by decide +kernel
theorem dX11_widest_34 : decode cX11_widest 34 = .ok (.ifCond .eq 7, 3) := by decide +kernel
theorem dX11_widest_37 : decode cX11_widest 37 = .ok (.iconst 1, 1) := by decide +kernel
theorem dX11_widest_38 : decode cX11_widest 38 = .ok (.goto 4, 3) := by decide +kernel
theorem dX11_widest_41 : decode cX11_widest 41 = .ok (.iconst 0, 1) := by decide +kernel
theorem dX11_widest_42 : decode cX11_widest 42 = .ok (.iconst 2, 1) := by decide +kernel
theorem dX11_widest_43 : decode cX11_widest 43 = .ok (.invokevirtual 192, 3) := by decide +kernel
theorem dX11_widest_46 : decode cX11_widest 46 = .ok (.ifCond .ne 5, 3) := by decide +kernel
theorem dX11_widest_49 : decode cX11_widest 49 = .ok (.iconst 0, 1) := by decide +kernel
theorem dX11_widest_50 : decode cX11_widest 50 = .ok (.ireturn, 1) := by decide +kernel
theorem dX11_widest_51 : decode cX11_widest 51 = .ok (.bipush 99, 2) := by decide +kernel
theorem dX11_widest_53 : decode cX11_widest 53 = .ok (.istore 4, 2) := by decide +kernel
theorem dX11_widest_55 : decode cX11_widest 55 = .ok (.iload 4, 2) := by decide +kernel
theorem dX11_widest_57 : decode cX11_widest 57 = .ok (.ifCond .le 21, 3) := by decide +kernel
theorem dX11_widest_60 : decode cX11_widest 60 = .ok (.aload_n 0, 1) := by decide +kernel
theorem dX11_widest_61 : decode cX11_widest 61 = .ok (.iload_n 1, 1) := by decide +kernel
theorem dX11_widest_62 : decode cX11_widest 62 = .ok (.iload_n 2, 1) := by decide +kernel
theorem dX11_widest_63 : decode cX11_widest 63 = .ok (.iload 4, 2) := by decide +kernel
theorem dX11_widest_65 : decode cX11_widest 65 = .ok (.iload_n 3, 1) := by decide +kernel
theorem dX11_widest_66 : decode cX11_widest 66 = .ok (.invokevirtual 380, 3) := by decide +kernel
theorem dX11_widest_69 : decode cX11_widest 69 = .ok (.ifCond .ne 9, 3) := by decide +kernel
theorem dX11_widest_72 : decode cX11_widest 72 = .ok (.iinc 4 (-1), 3) := by decide +kernel
theorem dX11_widest_75 : decode cX11_widest 75 = .ok (.goto (-20), 3) := by decide +kernel
theorem dX11_widest_78 : decode cX11_widest 78 = .ok (.iload 4, 2) := by decide +kernel
theorem dX11_widest_80 : decode cX11_widest 80 = .ok (.ireturn, 1) := by decide +kernel
theorem dX11_apart_0 : decode cX11_apart 0 = .ok (.aload_n 0, 1) := by decide +kernel
theorem dX11_apart_1 : decode cX11_apart 1 = .ok (.iconst 0, 1) := by decide +kernel
theorem dX11_apart_2 : decode cX11_apart 2 = .ok (.putfield 96, 3) := by decide +kernel
theorem dX11_apart_5 : decode cX11_apart 5 = .ok (.aload_n 0, 1) := by decide +kernel
theorem dX11_apart_6 : decode cX11_apart 6 = .ok (.iload_n 1, 1) := by decide +kernel
theorem dX11_apart_7 : decode cX11_apart 7 = .ok (.invokevirtual 347, 3) := by decide +kernel
theorem dX11_apart_10 : decode cX11_apart 10 = .ok (.ifCond .ne 5, 3) := by decide +kernel
theorem dX11_apart_13 : decode cX11_apart 13 = .ok (.iconst 0, 1) := by decide +kernel
theorem dX11_apart_14 : decode cX11_apart 14 = .ok (.ireturn, 1) := by decide +kernel
theorem dX11_apart_15 : decode cX11_apart 15 = .ok (.aload_n 0, 1) := by decide +kernel
theorem dX11_apart_16 : decode cX11_apart 16 = .ok (.iconst 0, 1) := by decide +kernel
theorem dX11_apart_17 : decode cX11_apart 17 = .ok (.iload_n 1, 1) := by decide +kernel
theorem dX11_apart_18 : decode cX11_apart 18 = .ok (.invokevirtual 344, 3) := by decide +kernel
theorem dX11_apart_21 : decode cX11_apart 21 = .ok (.pop, 1) := by decide +kernel
theorem dX11_apart_22 : decode cX11_apart 22 = .ok (.iconst (-1), 1) := by decide +kernel
theorem dX11_apart_23 : decode cX11_apart 23 = .ok (.istore_n 2, 1) := by decide +kernel
theorem dX11_apart_24 : decode cX11_apart 24 = .ok (.iconst 0, 1) := by decide +kernel
theorem dX11_apart_25 : decode cX11_apart 25 = .ok (.istore_n 3, 1) := by decide +kernel
theorem dX11_apart_26 : decode cX11_apart 26 = .ok (.iload_n 3, 1) := by decide +kernel
theorem dX11_apart_27 : decode cX11_apart 27 = .ok (.aload_n 0, 1) := by decide +kernel
theorem dX11_apart_28 : decode cX11_apart 28 = .ok (.getfield 243, 3) := by decide +kernel
theorem dX11_apart_31 : decode cX11_apart 31 = .ok (.if_icmp .ge 71, 3) := by decide +kernel
theorem dX11_apart_34 : decode cX11_apart 34 = .ok (.iconst 0, 1) := by decide +kernel
theorem dX11_apart_35 : decode cX11_apart 35 = .ok (.istore 4, 2) := by decide +kernel
theorem dX11_apart_37 : decode cX11_apart 37 = .ok (.iload 4, 2) := by decide +kernel
theorem dX11_apart_39 : decode cX11_apart 39 = .ok (.iload_n 3, 1) := by decide +kernel
theorem dX11_apart_40 : decode cX11_apart 40 = .ok (.if_icmp .ge 56, 3) := by decide +kernel
theorem dX11_apart_43 : decode cX11_apart 43 = .ok (.aload_n 0, 1) := by decide +kernel
theorem dX11_apart_44 : decode cX11_apart 44 = .ok (.getfield 57, 3) := by decide +kernel
theorem dX11_apart_47 : decode cX11_apart 47 = .ok (.iload_n 3, 1) := by decide +kernel
theorem dX11_apart_48 : decode cX11_apart 48 = .ok (.iaload, 1) := by decide +kernel
theorem dX11_apart_49 : decode cX11_apart 49 = .ok (.aload_n 0, 1) := by decide +kernel
theorem dX11_apart_50 : decode cX11_apart 50 = .ok (.getfield 57, 3) := by decide +kernel
theorem dX11_apart_53 : decode cX11_apart 53 = .ok (.iload 4, 2) := by decide +kernel
theorem dX11_apart_55 : decode cX11_apart 55 = .ok (.iaload, 1) := by decide +kernel
theorem dX11_apart_56 : decode cX11_apart 56 = .ok (.iadd, 1) := by decide +kernel
theorem dX11_apart_57 : decode cX11_apart 57 = .ok (.istore 5, 2) := by decide +kernel
theorem dX11_apart_59 : decode cX11_apart 59 = .ok (.aload_n 0, 1) := by decide +kernel
theorem dX11_apart_60 : decode cX11_apart 60 = .ok (.getfield 54, 3) := by decide +kernel
theorem dX11_apart_63 : decode cX11_apart 63 = .ok (.iload_n 3, 1) := by decide +kernel
theorem dX11_apart_64 : decode cX11_apart 64 = .ok (.iaload, 1) := by decide +kernel
theorem dX11_apart_65 : decode cX11_apart 65 = .ok (.aload_n 0, 1) := by decide +kernel
theorem dX11_apart_66 : decode cX11_apart 66 = .ok (.getfield 54, 3) := by decide +kernel
theorem dX11_apart_69 : decode cX11_apart 69 = .ok (.iload 4, 2) := by decide +kernel
theorem dX11_apart_71 : decode cX11_apart 71 = .ok (.iaload, 1) := by decide +kernel
theorem dX11_apart_72 : decode cX11_apart 72 = .ok (.iand, 1) := by decide +kernel
theorem dX11_apart_73 : decode cX11_apart 73 = .ok (.ifCond .ne 17, 3) := by decide +kernel
theorem dX11_apart_76 : decode cX11_apart 76 = .ok (.iload_n 2, 1) := by decide +kernel
theorem dX11_apart_77 : decode cX11_apart 77 = .ok (.iconst (-1), 1) := by decide +kernel
theorem dX11_apart_78 : decode cX11_apart 78 = .ok (.if_icmp .eq 9, 3) := by decide +kernel
theorem dX11_apart_81 : decode cX11_apart 81 = .ok (.iload 5, 2) := by decide +kernel
theorem dX11_apart_83 : decode cX11_apart 83 = .ok (.iload_n 2, 1) := by decide +kernel
theorem dX11_apart_84 : decode cX11_apart 84 = .ok (.if_icmp .ge 6, 3) := by decide +kernel
theorem dX11_apart_87 : decode cX11_apart 87 = .ok (.iload 5, 2) := by decide +kernel
theorem dX11_apart_89 : decode cX11_apart 89 = .ok (.istore_n 2, 1) := by decide +kernel
theorem dX11_apart_90 : decode cX11_apart 90 = .ok (.iinc 4 1, 3) := by decide +kernel
theorem dX11_apart_93 : decode cX11_apart 93 = .ok (.goto (-56), 3) := by decide +kernel
theorem dX11_apart_96 : decode cX11_apart 96 = .ok (.iinc 3 1, 3) := by decide +kernel
theorem dX11_apart_99 : decode cX11_apart 99 = .ok (.goto (-73), 3) := by decide +kernel
theorem dX11_apart_102 : decode cX11_apart 102 = .ok (.iload_n 2, 1) := by decide +kernel
theorem dX11_apart_103 : decode cX11_apart 103 = .ok (.ireturn, 1) := by decide +kernel
theorem dX11_doesReach_0 : decode cX11_doesReach 0 = .ok (.iconst 1, 1) := by decide +kernel
theorem dX11_doesReach_1 : decode cX11_doesReach 1 = .ok (.iload_n 1, 1) := by decide +kernel
theorem dX11_doesReach_2 : decode cX11_doesReach 2 = .ok (.ishl, 1) := by decide +kernel
theorem dX11_doesReach_3 : decode cX11_doesReach 3 = .ok (.istore 4, 2) := by decide +kernel
theorem dX11_doesReach_5 : decode cX11_doesReach 5 = .ok (.iconst 0, 1) := by decide +kernel
theorem dX11_doesReach_6 : decode cX11_doesReach 6 = .ok (.istore 5, 2) := by decide +kernel
theorem dX11_doesReach_8 : decode cX11_doesReach 8 = .ok (.iload 5, 2) := by decide +kernel
theorem dX11_doesReach_10 : decode cX11_doesReach 10 = .ok (.iload 4, 2) := by decide +kernel
theorem dX11_doesReach_12 : decode cX11_doesReach 12 = .ok (.if_icmp .eq 80, 3) := by decide +kernel
theorem dX11_doesReach_15 : decode cX11_doesReach 15 = .ok (.iload 4, 2) := by decide +kernel
theorem dX11_doesReach_17 : decode cX11_doesReach 17 = .ok (.istore 5, 2) := by decide +kernel
theorem dX11_doesReach_19 : decode cX11_doesReach 19 = .ok (.iconst 0, 1) := by decide +kernel
theorem dX11_doesReach_20 : decode cX11_doesReach 20 = .ok (.istore 6, 2) := by decide +kernel
theorem dX11_doesReach_22 : decode cX11_doesReach 22 = .ok (.iload 6, 2) := by decide +kernel
theorem dX11_doesReach_24 : decode cX11_doesReach 24 = .ok (.aload_n 0, 1) := by decide +kernel
theorem dX11_doesReach_25 : decode cX11_doesReach 25 = .ok (.getfield 199, 3) := by decide +kernel
theorem dX11_doesReach_28 : decode cX11_doesReach 28 = .ok (.if_icmp .ge 61, 3) := by decide +kernel
theorem dX11_doesReach_31 : decode cX11_doesReach 31 = .ok (.iload 6, 2) := by decide +kernel
theorem dX11_doesReach_33 : decode cX11_doesReach 33 = .ok (.iload_n 3, 1) := by decide +kernel
theorem dX11_doesReach_34 : decode cX11_doesReach 34 = .ok (.if_icmp .eq 49, 3) := by decide +kernel
theorem dX11_doesReach_37 : decode cX11_doesReach 37 = .ok (.aload_n 0, 1) := by decide +kernel
theorem dX11_doesReach_38 : decode cX11_doesReach 38 = .ok (.iconst 0, 1) := by decide +kernel
theorem dX11_doesReach_39 : decode cX11_doesReach 39 = .ok (.iload 6, 2) := by decide +kernel
theorem dX11_doesReach_41 : decode cX11_doesReach 41 = .ok (.invokevirtual 233, 3) := by decide +kernel
theorem dX11_doesReach_44 : decode cX11_doesReach 44 = .ok (.ifCond .eq 39, 3) := by decide +kernel
theorem dX11_doesReach_47 : decode cX11_doesReach 47 = .ok (.iload 4, 2) := by decide +kernel
theorem dX11_doesReach_49 : decode cX11_doesReach 49 = .ok (.aload_n 0, 1) := by decide +kernel
theorem dX11_doesReach_50 : decode cX11_doesReach 50 = .ok (.getfield 23, 3) := by decide +kernel
theorem dX11_doesReach_53 : decode cX11_doesReach 53 = .ok (.iconst 5, 1) := by decide +kernel
theorem dX11_doesReach_54 : decode cX11_doesReach 54 = .ok (.iload 6, 2) := by decide +kernel
theorem dX11_doesReach_56 : decode cX11_doesReach 56 = .ok (.imul, 1) := by decide +kernel
theorem dX11_doesReach_57 : decode cX11_doesReach 57 = .ok (.iaload, 1) := by decide +kernel
theorem dX11_doesReach_58 : decode cX11_doesReach 58 = .ok (.ishr, 1) := by decide +kernel
theorem dX11_doesReach_59 : decode cX11_doesReach 59 = .ok (.iconst 1, 1) := by decide +kernel
theorem dX11_doesReach_60 : decode cX11_doesReach 60 = .ok (.iand, 1) := by decide +kernel
theorem dX11_doesReach_61 : decode cX11_doesReach 61 = .ok (.iconst 1, 1) := by decide +kernel
theorem dX11_doesReach_62 : decode cX11_doesReach 62 = .ok (.if_icmp .ne 21, 3) := by decide +kernel
theorem dX11_doesReach_65 : decode cX11_doesReach 65 = .ok (.iload 4, 2) := by decide +kernel
theorem dX11_doesReach_67 : decode cX11_doesReach 67 = .ok (.iconst 1, 1) := by decide +kernel
theorem dX11_doesReach_68 : decode cX11_doesReach 68 = .ok (.aload_n 0, 1) := by decide +kernel
theorem dX11_doesReach_69 : decode cX11_doesReach 69 = .ok (.getfield 23, 3) := by decide +kernel
theorem dX11_doesReach_72 : decode cX11_doesReach 72 = .ok (.iconst 5, 1) := by decide +kernel
theorem dX11_doesReach_73 : decode cX11_doesReach 73 = .ok (.iload 6, 2) := by decide +kernel
theorem dX11_doesReach_75 : decode cX11_doesReach 75 = .ok (.imul, 1) := by decide +kernel
theorem dX11_doesReach_76 : decode cX11_doesReach 76 = .ok (.iconst 1, 1) := by decide +kernel
theorem dX11_doesReach_77 : decode cX11_doesReach 77 = .ok (.iadd, 1) := by decide +kernel
theorem dX11_doesReach_78 : decode cX11_doesReach 78 = .ok (.iaload, 1) := by decide +kernel
theorem dX11_doesReach_79 : decode cX11_doesReach 79 = .ok (.ishl, 1) := by decide +kernel
theorem dX11_doesReach_80 : decode cX11_doesReach 80 = .ok (.ior, 1) := by decide +kernel
theorem dX11_doesReach_81 : decode cX11_doesReach 81 = .ok (.istore 4, 2) := by decide +kernel
theorem dX11_doesReach_83 : decode cX11_doesReach 83 = .ok (.iinc 6 1, 3) := by decide +kernel
theorem dX11_doesReach_86 : decode cX11_doesReach 86 = .ok (.goto (-64), 3) := by decide +kernel
theorem dX11_doesReach_89 : decode cX11_doesReach 89 = .ok (.goto (-81), 3) := by decide +kernel
theorem dX11_doesReach_92 : decode cX11_doesReach 92 = .ok (.iload 4, 2) := by decide +kernel
theorem dX11_doesReach_94 : decode cX11_doesReach 94 = .ok (.iload_n 2, 1) := by decide +kernel
theorem dX11_doesReach_95 : decode cX11_doesReach 95 = .ok (.ishr, 1) := by decide +kernel
theorem dX11_doesReach_96 : decode cX11_doesReach 96 = .ok (.iconst 1, 1) := by decide +kernel
theorem dX11_doesReach_97 : decode cX11_doesReach 97 = .ok (.iand, 1) := by decide +kernel
theorem dX11_doesReach_98 : decode cX11_doesReach 98 = .ok (.iconst 1, 1) := by decide +kernel
theorem dX11_doesReach_99 : decode cX11_doesReach 99 = .ok (.if_icmp .ne 7, 3) := by decide +kernel
theorem dX11_doesReach_102 : decode cX11_doesReach 102 = .ok (.iconst 1, 1) := by decide +kernel
theorem dX11_doesReach_103 : decode cX11_doesReach 103 = .ok (.goto 4, 3) := by decide +kernel
theorem dX11_doesReach_106 : decode cX11_doesReach 106 = .ok (.iconst 0, 1) := by decide +kernel
theorem dX11_doesReach_107 : decode cX11_doesReach 107 = .ok (.ireturn, 1) := by decide +kernel
theorem dX11_cuts_0 : decode cX11_cuts 0 = .ok (.aload_n 0, 1) := by decide +kernel
theorem dX11_cuts_1 : decode cX11_cuts 1 = .ok (.iconst 0, 1) := by decide +kernel
theorem dX11_cuts_2 : decode cX11_cuts 2 = .ok (.putfield 96, 3) := by decide +kernel
theorem dX11_cuts_5 : decode cX11_cuts 5 = .ok (.aload_n 0, 1) := by decide +kernel
theorem dX11_cuts_6 : decode cX11_cuts 6 = .ok (.iload_n 1, 1) := by decide +kernel
theorem dX11_cuts_7 : decode cX11_cuts 7 = .ok (.invokevirtual 377, 3) := by decide +kernel
theorem dX11_cuts_10 : decode cX11_cuts 10 = .ok (.ifCond .eq 29, 3) := by decide +kernel
theorem dX11_cuts_13 : decode cX11_cuts 13 = .ok (.aload_n 0, 1) := by decide +kernel
theorem dX11_cuts_14 : decode cX11_cuts 14 = .ok (.iload_n 2, 1) := by decide +kernel
theorem dX11_cuts_15 : decode cX11_cuts 15 = .ok (.invokevirtual 377, 3) := by decide +kernel
theorem dX11_cuts_18 : decode cX11_cuts 18 = .ok (.ifCond .eq 21, 3) := by decide +kernel
theorem dX11_cuts_21 : decode cX11_cuts 21 = .ok (.aload_n 0, 1) := by decide +kernel
theorem dX11_cuts_22 : decode cX11_cuts 22 = .ok (.iload_n 1, 1) := by decide +kernel
theorem dX11_cuts_23 : decode cX11_cuts 23 = .ok (.iload_n 2, 1) := by decide +kernel
theorem dX11_cuts_24 : decode cX11_cuts 24 = .ok (.if_icmp .eq 7, 3) := by decide +kernel
theorem dX11_cuts_27 : decode cX11_cuts 27 = .ok (.iconst 1, 1) := by decide +kernel
theorem dX11_cuts_28 : decode cX11_cuts 28 = .ok (.goto 4, 3) := by decide +kernel
theorem dX11_cuts_31 : decode cX11_cuts 31 = .ok (.iconst 0, 1) := by decide +kernel
theorem dX11_cuts_32 : decode cX11_cuts 32 = .ok (.iconst 2, 1) := by decide +kernel
theorem dX11_cuts_33 : decode cX11_cuts 33 = .ok (.invokevirtual 192, 3) := by decide +kernel
theorem dX11_cuts_36 : decode cX11_cuts 36 = .ok (.ifCond .ne 5, 3) := by decide +kernel
theorem dX11_cuts_39 : decode cX11_cuts 39 = .ok (.iconst 0, 1) := by decide +kernel
theorem dX11_cuts_40 : decode cX11_cuts 40 = .ok (.ireturn, 1) := by decide +kernel
theorem dX11_cuts_41 : decode cX11_cuts 41 = .ok (.aload_n 0, 1) := by decide +kernel
theorem dX11_cuts_42 : decode cX11_cuts 42 = .ok (.iload_n 1, 1) := by decide +kernel
theorem dX11_cuts_43 : decode cX11_cuts 43 = .ok (.iload_n 2, 1) := by decide +kernel
theorem dX11_cuts_44 : decode cX11_cuts 44 = .ok (.iconst (-1), 1) := by decide +kernel
theorem dX11_cuts_45 : decode cX11_cuts 45 = .ok (.invokevirtual 384, 3) := by decide +kernel
theorem dX11_cuts_48 : decode cX11_cuts 48 = .ok (.ifCond .ne 5, 3) := by decide +kernel
theorem dX11_cuts_51 : decode cX11_cuts 51 = .ok (.iconst 0, 1) := by decide +kernel
theorem dX11_cuts_52 : decode cX11_cuts 52 = .ok (.ireturn, 1) := by decide +kernel
theorem dX11_cuts_53 : decode cX11_cuts 53 = .ok (.iconst 0, 1) := by decide +kernel
theorem dX11_cuts_54 : decode cX11_cuts 54 = .ok (.istore_n 3, 1) := by decide +kernel
theorem dX11_cuts_55 : decode cX11_cuts 55 = .ok (.iconst 0, 1) := by decide +kernel
theorem dX11_cuts_56 : decode cX11_cuts 56 = .ok (.istore 4, 2) := by decide +kernel
theorem dX11_cuts_58 : decode cX11_cuts 58 = .ok (.iload 4, 2) := by decide +kernel
theorem dX11_cuts_60 : decode cX11_cuts 60 = .ok (.aload_n 0, 1) := by decide +kernel
theorem dX11_cuts_61 : decode cX11_cuts 61 = .ok (.getfield 199, 3) := by decide +kernel
theorem dX11_cuts_64 : decode cX11_cuts 64 = .ok (.if_icmp .ge 41, 3) := by decide +kernel
theorem dX11_cuts_67 : decode cX11_cuts 67 = .ok (.iload_n 3, 1) := by decide +kernel
theorem dX11_cuts_68 : decode cX11_cuts 68 = .ok (.aload_n 0, 1) := by decide +kernel
theorem dX11_cuts_69 : decode cX11_cuts 69 = .ok (.iconst 0, 1) := by decide +kernel
theorem dX11_cuts_70 : decode cX11_cuts 70 = .ok (.iload 4, 2) := by decide +kernel
theorem dX11_cuts_72 : decode cX11_cuts 72 = .ok (.invokevirtual 233, 3) := by decide +kernel
theorem dX11_cuts_75 : decode cX11_cuts 75 = .ok (.ifCond .eq 21, 3) := by decide +kernel
theorem dX11_cuts_78 : decode cX11_cuts 78 = .ok (.aload_n 0, 1) := by decide +kernel
theorem dX11_cuts_79 : decode cX11_cuts 79 = .ok (.iload_n 1, 1) := by decide +kernel
theorem dX11_cuts_80 : decode cX11_cuts 80 = .ok (.iload_n 2, 1) := by decide +kernel
theorem dX11_cuts_81 : decode cX11_cuts 81 = .ok (.iload 4, 2) := by decide +kernel
theorem dX11_cuts_83 : decode cX11_cuts 83 = .ok (.invokevirtual 384, 3) := by decide +kernel
theorem dX11_cuts_86 : decode cX11_cuts 86 = .ok (.ifCond .ne 10, 3) := by decide +kernel
theorem dX11_cuts_89 : decode cX11_cuts 89 = .ok (.iconst 1, 1) := by decide +kernel
theorem dX11_cuts_90 : decode cX11_cuts 90 = .ok (.iload 4, 2) := by decide +kernel
theorem dX11_cuts_92 : decode cX11_cuts 92 = .ok (.ishl, 1) := by decide +kernel
theorem dX11_cuts_93 : decode cX11_cuts 93 = .ok (.goto 4, 3) := by decide +kernel
theorem dX11_cuts_96 : decode cX11_cuts 96 = .ok (.iconst 0, 1) := by decide +kernel
theorem dX11_cuts_97 : decode cX11_cuts 97 = .ok (.ior, 1) := by decide +kernel
theorem dX11_cuts_98 : decode cX11_cuts 98 = .ok (.istore_n 3, 1) := by decide +kernel
theorem dX11_cuts_99 : decode cX11_cuts 99 = .ok (.iinc 4 1, 3) := by decide +kernel
theorem dX11_cuts_102 : decode cX11_cuts 102 = .ok (.goto (-44), 3) := by decide +kernel
theorem dX11_cuts_105 : decode cX11_cuts 105 = .ok (.iload_n 3, 1) := by decide +kernel
theorem dX11_cuts_106 : decode cX11_cuts 106 = .ok (.ireturn, 1) := by decide +kernel
theorem dX11_isAugmented_0 : decode cX11_isAugmented 0 = .ok (.iconst 0, 1) := by decide +kernel
theorem dX11_isAugmented_1 : decode cX11_isAugmented 1 = .ok (.istore_n 3, 1) := by decide +kernel
theorem dX11_isAugmented_2 : decode cX11_isAugmented 2 = .ok (.iload_n 3, 1) := by decide +kernel
theorem dX11_isAugmented_3 : decode cX11_isAugmented 3 = .ok (.bipush 8, 2) := by decide +kernel
theorem dX11_isAugmented_5 : decode cX11_isAugmented 5 = .ok (.if_icmp .ge 16, 3) := by decide +kernel
theorem dX11_isAugmented_8 : decode cX11_isAugmented 8 = .ok (.aload_n 0, 1) := by decide +kernel
theorem dX11_isAugmented_9 : decode cX11_isAugmented 9 = .ok (.getfield 78, 3) := by decide +kernel
theorem dX11_isAugmented_12 : decode cX11_isAugmented 12 = .ok (.iload_n 3, 1) := by decide +kernel
theorem dX11_isAugmented_13 : decode cX11_isAugmented 13 = .ok (.iconst (-1), 1) := by decide +kernel
theorem dX11_isAugmented_14 : decode cX11_isAugmented 14 = .ok (.iastore, 1) := by decide +kernel
theorem dX11_isAugmented_15 : decode cX11_isAugmented 15 = .ok (.iinc 3 1, 3) := by decide +kernel
theorem dX11_isAugmented_18 : decode cX11_isAugmented 18 = .ok (.goto (-16), 3) := by decide +kernel
theorem dX11_isAugmented_21 : decode cX11_isAugmented 21 = .ok (.iconst 1, 1) := by decide +kernel
theorem dX11_isAugmented_22 : decode cX11_isAugmented 22 = .ok (.istore_n 3, 1) := by decide +kernel
theorem dX11_isAugmented_23 : decode cX11_isAugmented 23 = .ok (.iconst 1, 1) := by decide +kernel
theorem dX11_isAugmented_24 : decode cX11_isAugmented 24 = .ok (.iload_n 1, 1) := by decide +kernel
theorem dX11_isAugmented_25 : decode cX11_isAugmented 25 = .ok (.ishl, 1) := by decide +kernel
theorem dX11_isAugmented_26 : decode cX11_isAugmented 26 = .ok (.istore 4, 2) := by decide +kernel
theorem dX11_isAugmented_28 : decode cX11_isAugmented 28 = .ok (.iload_n 3, 1) := by decide +kernel
theorem dX11_isAugmented_29 : decode cX11_isAugmented 29 = .ok (.ifCond .eq 201, 3) := by decide +kernel
theorem dX11_isAugmented_32 : decode cX11_isAugmented 32 = .ok (.iload 4, 2) := by decide +kernel
theorem dX11_isAugmented_34 : decode cX11_isAugmented 34 = .ok (.iload_n 2, 1) := by decide +kernel
theorem dX11_isAugmented_35 : decode cX11_isAugmented 35 = .ok (.ishr, 1) := by decide +kernel
theorem dX11_isAugmented_36 : decode cX11_isAugmented 36 = .ok (.iconst 1, 1) := by decide +kernel
theorem dX11_isAugmented_37 : decode cX11_isAugmented 37 = .ok (.iand, 1) := by decide +kernel
theorem dX11_isAugmented_38 : decode cX11_isAugmented 38 = .ok (.ifCond .ne 192, 3) := by decide +kernel
theorem dX11_isAugmented_41 : decode cX11_isAugmented 41 = .ok (.iconst 0, 1) := by decide +kernel
theorem dX11_isAugmented_42 : decode cX11_isAugmented 42 = .ok (.istore_n 3, 1) := by decide +kernel
theorem dX11_isAugmented_43 : decode cX11_isAugmented 43 = .ok (.iconst 0, 1) := by decide +kernel
theorem dX11_isAugmented_44 : decode cX11_isAugmented 44 = .ok (.istore 5, 2) := by decide +kernel
theorem dX11_isAugmented_46 : decode cX11_isAugmented 46 = .ok (.iload 5, 2) := by decide +kernel
theorem dX11_isAugmented_48 : decode cX11_isAugmented 48 = .ok (.aload_n 0, 1) := by decide +kernel
theorem dX11_isAugmented_49 : decode cX11_isAugmented 49 = .ok (.getfield 199, 3) := by decide +kernel
theorem dX11_isAugmented_52 : decode cX11_isAugmented 52 = .ok (.if_icmp .ge 175, 3) := by decide +kernel
theorem dX11_isAugmented_55 : decode cX11_isAugmented 55 = .ok (.aload_n 0, 1) := by decide +kernel
theorem dX11_isAugmented_56 : decode cX11_isAugmented 56 = .ok (.getfield 23, 3) := by decide +kernel
theorem dX11_isAugmented_59 : decode cX11_isAugmented 59 = .ok (.iconst 5, 1) := by decide +kernel
theorem dX11_isAugmented_60 : decode cX11_isAugmented 60 = .ok (.iload 5, 2) := by decide +kernel
theorem dX11_isAugmented_62 : decode cX11_isAugmented 62 = .ok (.imul, 1) := by decide +kernel
theorem dX11_isAugmented_63 : decode cX11_isAugmented 63 = .ok (.iaload, 1) := by decide +kernel
theorem dX11_isAugmented_64 : decode cX11_isAugmented 64 = .ok (.istore 6, 2) := by decide +kernel
theorem dX11_isAugmented_66 : decode cX11_isAugmented 66 = .ok (.aload_n 0, 1) := by decide +kernel
theorem dX11_isAugmented_67 : decode cX11_isAugmented 67 = .ok (.getfield 23, 3) := by decide +kernel
theorem dX11_isAugmented_70 : decode cX11_isAugmented 70 = .ok (.iconst 5, 1) := by decide +kernel
theorem dX11_isAugmented_71 : decode cX11_isAugmented 71 = .ok (.iload 5, 2) := by decide +kernel
theorem dX11_isAugmented_73 : decode cX11_isAugmented 73 = .ok (.imul, 1) := by decide +kernel
theorem dX11_isAugmented_74 : decode cX11_isAugmented 74 = .ok (.iconst 1, 1) := by decide +kernel
theorem dX11_isAugmented_75 : decode cX11_isAugmented 75 = .ok (.iadd, 1) := by decide +kernel
theorem dX11_isAugmented_76 : decode cX11_isAugmented 76 = .ok (.iaload, 1) := by decide +kernel
theorem dX11_isAugmented_77 : decode cX11_isAugmented 77 = .ok (.istore 7, 2) := by decide +kernel
theorem dX11_isAugmented_79 : decode cX11_isAugmented 79 = .ok (.aload_n 0, 1) := by decide +kernel
theorem dX11_isAugmented_80 : decode cX11_isAugmented 80 = .ok (.getfield 72, 3) := by decide +kernel
theorem dX11_isAugmented_83 : decode cX11_isAugmented 83 = .ok (.iload 5, 2) := by decide +kernel
theorem dX11_isAugmented_85 : decode cX11_isAugmented 85 = .ok (.iaload, 1) := by decide +kernel
theorem dX11_isAugmented_86 : decode cX11_isAugmented 86 = .ok (.ifCond .le 28, 3) := by decide +kernel
theorem dX11_isAugmented_89 : decode cX11_isAugmented 89 = .ok (.iload 4, 2) := by decide +kernel
theorem dX11_isAugmented_91 : decode cX11_isAugmented 91 = .ok (.iload 6, 2) := by decide +kernel
theorem dX11_isAugmented_93 : decode cX11_isAugmented 93 = .ok (.ishr, 1) := by decide +kernel
theorem dX11_isAugmented_94 : decode cX11_isAugmented 94 = .ok (.iconst 1, 1) := by decide +kernel
theorem dX11_isAugmented_95 : decode cX11_isAugmented 95 = .ok (.iand, 1) := by decide +kernel
theorem dX11_isAugmented_96 : decode cX11_isAugmented 96 = .ok (.iconst 1, 1) := by decide +kernel
theorem dX11_isAugmented_97 : decode cX11_isAugmented 97 = .ok (.if_icmp .ne 17, 3) := by decide +kernel
theorem dX11_isAugmented_100 : decode cX11_isAugmented 100 = .ok (.iload 4, 2) := by decide +kernel
theorem dX11_isAugmented_102 : decode cX11_isAugmented 102 = .ok (.iload 7, 2) := by decide +kernel
theorem dX11_isAugmented_104 : decode cX11_isAugmented 104 = .ok (.ishr, 1) := by decide +kernel
theorem dX11_isAugmented_105 : decode cX11_isAugmented 105 = .ok (.iconst 1, 1) := by decide +kernel
theorem dX11_isAugmented_106 : decode cX11_isAugmented 106 = .ok (.iand, 1) := by decide +kernel
theorem dX11_isAugmented_107 : decode cX11_isAugmented 107 = .ok (.ifCond .ne 7, 3) := by decide +kernel
theorem dX11_isAugmented_110 : decode cX11_isAugmented 110 = .ok (.iconst 1, 1) := by decide +kernel
theorem dX11_isAugmented_111 : decode cX11_isAugmented 111 = .ok (.goto 4, 3) := by decide +kernel
theorem dX11_isAugmented_114 : decode cX11_isAugmented 114 = .ok (.iconst 0, 1) := by decide +kernel
theorem dX11_isAugmented_115 : decode cX11_isAugmented 115 = .ok (.istore 8, 2) := by decide +kernel
theorem dX11_isAugmented_117 : decode cX11_isAugmented 117 = .ok (.aload_n 0, 1) := by decide +kernel
theorem dX11_isAugmented_118 : decode cX11_isAugmented 118 = .ok (.getfield 75, 3) := by decide +kernel
theorem dX11_isAugmented_121 : decode cX11_isAugmented 121 = .ok (.iload 5, 2) := by decide +kernel
theorem dX11_isAugmented_123 : decode cX11_isAugmented 123 = .ok (.iaload, 1) := by decide +kernel
theorem dX11_isAugmented_124 : decode cX11_isAugmented 124 = .ok (.ifCond .le 28, 3) := by decide +kernel
theorem dX11_isAugmented_127 : decode cX11_isAugmented 127 = .ok (.iload 4, 2) := by decide +kernel
theorem dX11_isAugmented_129 : decode cX11_isAugmented 129 = .ok (.iload 7, 2) := by decide +kernel
theorem dX11_isAugmented_131 : decode cX11_isAugmented 131 = .ok (.ishr, 1) := by decide +kernel
theorem dX11_isAugmented_132 : decode cX11_isAugmented 132 = .ok (.iconst 1, 1) := by decide +kernel
theorem dX11_isAugmented_133 : decode cX11_isAugmented 133 = .ok (.iand, 1) := by decide +kernel
theorem dX11_isAugmented_134 : decode cX11_isAugmented 134 = .ok (.iconst 1, 1) := by decide +kernel
theorem dX11_isAugmented_135 : decode cX11_isAugmented 135 = .ok (.if_icmp .ne 17, 3) := by decide +kernel
theorem dX11_isAugmented_138 : decode cX11_isAugmented 138 = .ok (.iload 4, 2) := by decide +kernel
theorem dX11_isAugmented_140 : decode cX11_isAugmented 140 = .ok (.iload 6, 2) := by decide +kernel
theorem dX11_isAugmented_142 : decode cX11_isAugmented 142 = .ok (.ishr, 1) := by decide +kernel
theorem dX11_isAugmented_143 : decode cX11_isAugmented 143 = .ok (.iconst 1, 1) := by decide +kernel
theorem dX11_isAugmented_144 : decode cX11_isAugmented 144 = .ok (.iand, 1) := by decide +kernel
theorem dX11_isAugmented_145 : decode cX11_isAugmented 145 = .ok (.ifCond .ne 7, 3) := by decide +kernel
theorem dX11_isAugmented_148 : decode cX11_isAugmented 148 = .ok (.iconst 1, 1) := by decide +kernel
theorem dX11_isAugmented_149 : decode cX11_isAugmented 149 = .ok (.goto 4, 3) := by decide +kernel
theorem dX11_isAugmented_152 : decode cX11_isAugmented 152 = .ok (.iconst 0, 1) := by decide +kernel
theorem dX11_isAugmented_153 : decode cX11_isAugmented 153 = .ok (.istore 9, 2) := by decide +kernel
theorem dX11_isAugmented_155 : decode cX11_isAugmented 155 = .ok (.iload 8, 2) := by decide +kernel
theorem dX11_isAugmented_157 : decode cX11_isAugmented 157 = .ok (.ifCond .ne 11, 3) := by decide +kernel
theorem dX11_isAugmented_160 : decode cX11_isAugmented 160 = .ok (.iload 9, 2) := by decide +kernel
theorem dX11_isAugmented_162 : decode cX11_isAugmented 162 = .ok (.ifCond .ne 6, 3) := by decide +kernel
theorem dX11_isAugmented_165 : decode cX11_isAugmented 165 = .ok (.goto 56, 3) := by decide +kernel
theorem dX11_isAugmented_168 : decode cX11_isAugmented 168 = .ok (.aload_n 0, 1) := by decide +kernel
theorem dX11_isAugmented_169 : decode cX11_isAugmented 169 = .ok (.getfield 78, 3) := by decide +kernel
theorem dX11_isAugmented_172 : decode cX11_isAugmented 172 = .ok (.iload 8, 2) := by decide +kernel
theorem dX11_isAugmented_174 : decode cX11_isAugmented 174 = .ok (.ifCond .eq 8, 3) := by decide +kernel
theorem dX11_isAugmented_177 : decode cX11_isAugmented 177 = .ok (.iload 7, 2) := by decide +kernel
theorem dX11_isAugmented_179 : decode cX11_isAugmented 179 = .ok (.goto 5, 3) := by decide +kernel
theorem dX11_isAugmented_182 : decode cX11_isAugmented 182 = .ok (.iload 6, 2) := by decide +kernel
theorem dX11_isAugmented_184 : decode cX11_isAugmented 184 = .ok (.iload 8, 2) := by decide +kernel
theorem dX11_isAugmented_186 : decode cX11_isAugmented 186 = .ok (.ifCond .eq 8, 3) := by decide +kernel
theorem dX11_isAugmented_189 : decode cX11_isAugmented 189 = .ok (.iload 5, 2) := by decide +kernel
theorem dX11_isAugmented_191 : decode cX11_isAugmented 191 = .ok (.goto 8, 3) := by decide +kernel
theorem dX11_isAugmented_194 : decode cX11_isAugmented 194 = .ok (.bipush 16, 2) := by decide +kernel
theorem dX11_isAugmented_196 : decode cX11_isAugmented 196 = .ok (.iload 5, 2) := by decide +kernel
theorem dX11_isAugmented_198 : decode cX11_isAugmented 198 = .ok (.iadd, 1) := by decide +kernel
theorem dX11_isAugmented_199 : decode cX11_isAugmented 199 = .ok (.iastore, 1) := by decide +kernel
theorem dX11_isAugmented_200 : decode cX11_isAugmented 200 = .ok (.iload 4, 2) := by decide +kernel
theorem dX11_isAugmented_202 : decode cX11_isAugmented 202 = .ok (.iconst 1, 1) := by decide +kernel
theorem dX11_isAugmented_203 : decode cX11_isAugmented 203 = .ok (.iload 8, 2) := by decide +kernel
theorem dX11_isAugmented_205 : decode cX11_isAugmented 205 = .ok (.ifCond .eq 8, 3) := by decide +kernel
theorem dX11_isAugmented_208 : decode cX11_isAugmented 208 = .ok (.iload 7, 2) := by decide +kernel
theorem dX11_isAugmented_210 : decode cX11_isAugmented 210 = .ok (.goto 5, 3) := by decide +kernel
theorem dX11_isAugmented_213 : decode cX11_isAugmented 213 = .ok (.iload 6, 2) := by decide +kernel
theorem dX11_isAugmented_215 : decode cX11_isAugmented 215 = .ok (.ishl, 1) := by decide +kernel
theorem dX11_isAugmented_216 : decode cX11_isAugmented 216 = .ok (.ior, 1) := by decide +kernel
theorem dX11_isAugmented_217 : decode cX11_isAugmented 217 = .ok (.istore 4, 2) := by decide +kernel
theorem dX11_isAugmented_219 : decode cX11_isAugmented 219 = .ok (.iconst 1, 1) := by decide +kernel
theorem dX11_isAugmented_220 : decode cX11_isAugmented 220 = .ok (.istore_n 3, 1) := by decide +kernel
theorem dX11_isAugmented_221 : decode cX11_isAugmented 221 = .ok (.iinc 5 1, 3) := by decide +kernel
theorem dX11_isAugmented_224 : decode cX11_isAugmented 224 = .ok (.goto (-178), 3) := by decide +kernel
theorem dX11_isAugmented_227 : decode cX11_isAugmented 227 = .ok (.goto (-199), 3) := by decide +kernel
theorem dX11_isAugmented_230 : decode cX11_isAugmented 230 = .ok (.iload 4, 2) := by decide +kernel
theorem dX11_isAugmented_232 : decode cX11_isAugmented 232 = .ok (.iload_n 2, 1) := by decide +kernel
theorem dX11_isAugmented_233 : decode cX11_isAugmented 233 = .ok (.ishr, 1) := by decide +kernel
theorem dX11_isAugmented_234 : decode cX11_isAugmented 234 = .ok (.iconst 1, 1) := by decide +kernel
theorem dX11_isAugmented_235 : decode cX11_isAugmented 235 = .ok (.iand, 1) := by decide +kernel
theorem dX11_isAugmented_236 : decode cX11_isAugmented 236 = .ok (.iconst 1, 1) := by decide +kernel
theorem dX11_isAugmented_237 : decode cX11_isAugmented 237 = .ok (.if_icmp .ne 7, 3) := by decide +kernel
theorem dX11_isAugmented_240 : decode cX11_isAugmented 240 = .ok (.iconst 1, 1) := by decide +kernel
theorem dX11_isAugmented_241 : decode cX11_isAugmented 241 = .ok (.goto 4, 3) := by decide +kernel
theorem dX11_isAugmented_244 : decode cX11_isAugmented 244 = .ok (.iconst 0, 1) := by decide +kernel
theorem dX11_isAugmented_245 : decode cX11_isAugmented 245 = .ok (.ireturn, 1) := by decide +kernel
theorem dX11_flow_0 : decode cX11_flow 0 = .ok (.aload_n 0, 1) := by decide +kernel
theorem dX11_flow_1 : decode cX11_flow 1 = .ok (.iconst 0, 1) := by decide +kernel
theorem dX11_flow_2 : decode cX11_flow 2 = .ok (.putfield 96, 3) := by decide +kernel
theorem dX11_flow_5 : decode cX11_flow 5 = .ok (.aload_n 0, 1) := by decide +kernel
theorem dX11_flow_6 : decode cX11_flow 6 = .ok (.iload_n 1, 1) := by decide +kernel
theorem dX11_flow_7 : decode cX11_flow 7 = .ok (.invokevirtual 377, 3) := by decide +kernel
theorem dX11_flow_10 : decode cX11_flow 10 = .ok (.ifCond .eq 39, 3) := by decide +kernel
theorem dX11_flow_13 : decode cX11_flow 13 = .ok (.aload_n 0, 1) := by decide +kernel
theorem dX11_flow_14 : decode cX11_flow 14 = .ok (.iload_n 2, 1) := by decide +kernel
theorem dX11_flow_15 : decode cX11_flow 15 = .ok (.invokevirtual 377, 3) := by decide +kernel
theorem dX11_flow_18 : decode cX11_flow 18 = .ok (.ifCond .eq 31, 3) := by decide +kernel
theorem dX11_flow_21 : decode cX11_flow 21 = .ok (.aload_n 0, 1) := by decide +kernel
theorem dX11_flow_22 : decode cX11_flow 22 = .ok (.iload_n 1, 1) := by decide +kernel
theorem dX11_flow_23 : decode cX11_flow 23 = .ok (.iload_n 2, 1) := by decide +kernel
theorem dX11_flow_24 : decode cX11_flow 24 = .ok (.if_icmp .eq 17, 3) := by decide +kernel
theorem dX11_flow_27 : decode cX11_flow 27 = .ok (.iload_n 3, 1) := by decide +kernel
theorem dX11_flow_28 : decode cX11_flow 28 = .ok (.iconst 0, 1) := by decide +kernel
theorem dX11_flow_29 : decode cX11_flow 29 = .ok (.bipush 7, 2) := by decide +kernel
theorem dX11_flow_31 : decode cX11_flow 31 = .ok (.invokestatic 318, 3) := by decide +kernel
theorem dX11_flow_34 : decode cX11_flow 34 = .ok (.ifCond .eq 7, 3) := by decide +kernel
theorem dX11_flow_37 : decode cX11_flow 37 = .ok (.iconst 1, 1) := by decide +kernel
theorem dX11_flow_38 : decode cX11_flow 38 = .ok (.goto 4, 3) := by decide +kernel
theorem dX11_flow_41 : decode cX11_flow 41 = .ok (.iconst 0, 1) := by decide +kernel
theorem dX11_flow_42 : decode cX11_flow 42 = .ok (.iconst 2, 1) := by decide +kernel
theorem dX11_flow_43 : decode cX11_flow 43 = .ok (.invokevirtual 192, 3) := by decide +kernel
theorem dX11_flow_46 : decode cX11_flow 46 = .ok (.ifCond .ne 5, 3) := by decide +kernel
theorem dX11_flow_49 : decode cX11_flow 49 = .ok (.iconst 0, 1) := by decide +kernel
theorem dX11_flow_50 : decode cX11_flow 50 = .ok (.ireturn, 1) := by decide +kernel
theorem dX11_flow_51 : decode cX11_flow 51 = .ok (.iconst 0, 1) := by decide +kernel
theorem dX11_flow_52 : decode cX11_flow 52 = .ok (.istore 4, 2) := by decide +kernel
theorem dX11_flow_54 : decode cX11_flow 54 = .ok (.iload 4, 2) := by decide +kernel
theorem dX11_flow_56 : decode cX11_flow 56 = .ok (.aload_n 0, 1) := by decide +kernel
theorem dX11_flow_57 : decode cX11_flow 57 = .ok (.getfield 199, 3) := by decide +kernel
theorem dX11_flow_60 : decode cX11_flow 60 = .ok (.if_icmp .ge 55, 3) := by decide +kernel
theorem dX11_flow_63 : decode cX11_flow 63 = .ok (.aload_n 0, 1) := by decide +kernel
theorem dX11_flow_64 : decode cX11_flow 64 = .ok (.iconst 0, 1) := by decide +kernel
theorem dX11_flow_65 : decode cX11_flow 65 = .ok (.iload 4, 2) := by decide +kernel
theorem dX11_flow_67 : decode cX11_flow 67 = .ok (.iload_n 3, 1) := by decide +kernel
theorem dX11_flow_68 : decode cX11_flow 68 = .ok (.invokevirtual 229, 3) := by decide +kernel
theorem dX11_flow_71 : decode cX11_flow 71 = .ok (.istore 5, 2) := by decide +kernel
theorem dX11_flow_73 : decode cX11_flow 73 = .ok (.aload_n 0, 1) := by decide +kernel
theorem dX11_flow_74 : decode cX11_flow 74 = .ok (.getfield 72, 3) := by decide +kernel
theorem dX11_flow_77 : decode cX11_flow 77 = .ok (.iload 4, 2) := by decide +kernel
theorem dX11_flow_79 : decode cX11_flow 79 = .ok (.aload_n 0, 1) := by decide +kernel
theorem dX11_flow_80 : decode cX11_flow 80 = .ok (.iconst 0, 1) := by decide +kernel
theorem dX11_flow_81 : decode cX11_flow 81 = .ok (.iload 4, 2) := by decide +kernel
theorem dX11_flow_83 : decode cX11_flow 83 = .ok (.invokevirtual 233, 3) := by decide +kernel
theorem dX11_flow_86 : decode cX11_flow 86 = .ok (.ifCond .eq 13, 3) := by decide +kernel
theorem dX11_flow_89 : decode cX11_flow 89 = .ok (.iload 5, 2) := by decide +kernel
theorem dX11_flow_91 : decode cX11_flow 91 = .ok (.ifCond .le 8, 3) := by decide +kernel
theorem dX11_flow_94 : decode cX11_flow 94 = .ok (.iload 5, 2) := by decide +kernel
theorem dX11_flow_96 : decode cX11_flow 96 = .ok (.goto 4, 3) := by decide +kernel
theorem dX11_flow_99 : decode cX11_flow 99 = .ok (.iconst 0, 1) := by decide +kernel
theorem dX11_flow_100 : decode cX11_flow 100 = .ok (.iastore, 1) := by decide +kernel
theorem dX11_flow_101 : decode cX11_flow 101 = .ok (.aload_n 0, 1) := by decide +kernel
theorem dX11_flow_102 : decode cX11_flow 102 = .ok (.getfield 75, 3) := by decide +kernel
theorem dX11_flow_105 : decode cX11_flow 105 = .ok (.iload 4, 2) := by decide +kernel
theorem dX11_flow_107 : decode cX11_flow 107 = .ok (.iconst 0, 1) := by decide +kernel
theorem dX11_flow_108 : decode cX11_flow 108 = .ok (.iastore, 1) := by decide +kernel
theorem dX11_flow_109 : decode cX11_flow 109 = .ok (.iinc 4 1, 3) := by decide +kernel
theorem dX11_flow_112 : decode cX11_flow 112 = .ok (.goto (-58), 3) := by decide +kernel
theorem dX11_flow_115 : decode cX11_flow 115 = .ok (.iconst 0, 1) := by decide +kernel
theorem dX11_flow_116 : decode cX11_flow 116 = .ok (.istore 4, 2) := by decide +kernel
theorem dX11_flow_118 : decode cX11_flow 118 = .ok (.aload_n 0, 1) := by decide +kernel
theorem dX11_flow_119 : decode cX11_flow 119 = .ok (.iload_n 1, 1) := by decide +kernel
theorem dX11_flow_120 : decode cX11_flow 120 = .ok (.iload_n 2, 1) := by decide +kernel
theorem dX11_flow_121 : decode cX11_flow 121 = .ok (.invokevirtual 387, 3) := by decide +kernel
theorem dX11_flow_124 : decode cX11_flow 124 = .ok (.ifCond .eq 122, 3) := by decide +kernel
theorem dX11_flow_127 : decode cX11_flow 127 = .ok (.iload_n 2, 1) := by decide +kernel
theorem dX11_flow_128 : decode cX11_flow 128 = .ok (.istore 5, 2) := by decide +kernel
theorem dX11_flow_130 : decode cX11_flow 130 = .ok (.iload 5, 2) := by decide +kernel
theorem dX11_flow_132 : decode cX11_flow 132 = .ok (.iload_n 1, 1) := by decide +kernel
theorem dX11_flow_133 : decode cX11_flow 133 = .ok (.if_icmp .eq 107, 3) := by decide +kernel
theorem dX11_flow_136 : decode cX11_flow 136 = .ok (.aload_n 0, 1) := by decide +kernel
theorem dX11_flow_137 : decode cX11_flow 137 = .ok (.getfield 78, 3) := by decide +kernel
theorem dX11_flow_140 : decode cX11_flow 140 = .ok (.iload 5, 2) := by decide +kernel
theorem dX11_flow_142 : decode cX11_flow 142 = .ok (.iaload, 1) := by decide +kernel
theorem dX11_flow_143 : decode cX11_flow 143 = .ok (.bipush 16, 2) := by decide +kernel
theorem dX11_flow_145 : decode cX11_flow 145 = .ok (.irem, 1) := by decide +kernel
theorem dX11_flow_146 : decode cX11_flow 146 = .ok (.istore 6, 2) := by decide +kernel
theorem dX11_flow_148 : decode cX11_flow 148 = .ok (.aload_n 0, 1) := by decide +kernel
theorem dX11_flow_149 : decode cX11_flow 149 = .ok (.getfield 78, 3) := by decide +kernel
theorem dX11_flow_152 : decode cX11_flow 152 = .ok (.iload 5, 2) := by decide +kernel
theorem dX11_flow_154 : decode cX11_flow 154 = .ok (.iaload, 1) := by decide +kernel
theorem dX11_flow_155 : decode cX11_flow 155 = .ok (.bipush 16, 2) := by decide +kernel
theorem dX11_flow_157 : decode cX11_flow 157 = .ok (.if_icmp .ge 7, 3) := by decide +kernel
theorem dX11_flow_160 : decode cX11_flow 160 = .ok (.iconst 1, 1) := by decide +kernel
theorem dX11_flow_161 : decode cX11_flow 161 = .ok (.goto 4, 3) := by decide +kernel
theorem dX11_flow_164 : decode cX11_flow 164 = .ok (.iconst 0, 1) := by decide +kernel
theorem dX11_flow_165 : decode cX11_flow 165 = .ok (.istore 7, 2) := by decide +kernel
theorem dX11_flow_167 : decode cX11_flow 167 = .ok (.aload_n 0, 1) := by decide +kernel
theorem dX11_flow_168 : decode cX11_flow 168 = .ok (.getfield 72, 3) := by decide +kernel
theorem dX11_flow_171 : decode cX11_flow 171 = .ok (.iload 6, 2) := by decide +kernel
theorem dX11_flow_173 : decode cX11_flow 173 = .ok (.dup2, 1) := by decide +kernel
theorem dX11_flow_174 : decode cX11_flow 174 = .ok (.iaload, 1) := by decide +kernel
theorem dX11_flow_175 : decode cX11_flow 175 = .ok (.iload 7, 2) := by decide +kernel
theorem dX11_flow_177 : decode cX11_flow 177 = .ok (.ifCond .eq 7, 3) := by decide +kernel
theorem dX11_flow_180 : decode cX11_flow 180 = .ok (.iconst (-1), 1) := by decide +kernel
theorem dX11_flow_181 : decode cX11_flow 181 = .ok (.goto 4, 3) := by decide +kernel
theorem dX11_flow_184 : decode cX11_flow 184 = .ok (.iconst 1, 1) := by decide +kernel
theorem dX11_flow_185 : decode cX11_flow 185 = .ok (.iadd, 1) := by decide +kernel
theorem dX11_flow_186 : decode cX11_flow 186 = .ok (.iastore, 1) := by decide +kernel
theorem dX11_flow_187 : decode cX11_flow 187 = .ok (.aload_n 0, 1) := by decide +kernel
theorem dX11_flow_188 : decode cX11_flow 188 = .ok (.getfield 75, 3) := by decide +kernel
theorem dX11_flow_191 : decode cX11_flow 191 = .ok (.iload 6, 2) := by decide +kernel
theorem dX11_flow_193 : decode cX11_flow 193 = .ok (.dup2, 1) := by decide +kernel
theorem dX11_flow_194 : decode cX11_flow 194 = .ok (.iaload, 1) := by decide +kernel
theorem dX11_flow_195 : decode cX11_flow 195 = .ok (.iload 7, 2) := by decide +kernel
theorem dX11_flow_197 : decode cX11_flow 197 = .ok (.ifCond .eq 7, 3) := by decide +kernel
theorem dX11_flow_200 : decode cX11_flow 200 = .ok (.iconst 1, 1) := by decide +kernel
theorem dX11_flow_201 : decode cX11_flow 201 = .ok (.goto 4, 3) := by decide +kernel
theorem dX11_flow_204 : decode cX11_flow 204 = .ok (.iconst (-1), 1) := by decide +kernel
theorem dX11_flow_205 : decode cX11_flow 205 = .ok (.iadd, 1) := by decide +kernel
theorem dX11_flow_206 : decode cX11_flow 206 = .ok (.iastore, 1) := by decide +kernel
theorem dX11_flow_207 : decode cX11_flow 207 = .ok (.iload 7, 2) := by decide +kernel
theorem dX11_flow_209 : decode cX11_flow 209 = .ok (.ifCond .eq 15, 3) := by decide +kernel
theorem dX11_flow_212 : decode cX11_flow 212 = .ok (.aload_n 0, 1) := by decide +kernel
theorem dX11_flow_213 : decode cX11_flow 213 = .ok (.getfield 23, 3) := by decide +kernel
theorem dX11_flow_216 : decode cX11_flow 216 = .ok (.iconst 5, 1) := by decide +kernel
theorem dX11_flow_217 : decode cX11_flow 217 = .ok (.iload 6, 2) := by decide +kernel
theorem dX11_flow_219 : decode cX11_flow 219 = .ok (.imul, 1) := by decide +kernel
theorem dX11_flow_220 : decode cX11_flow 220 = .ok (.iaload, 1) := by decide +kernel
theorem dX11_flow_221 : decode cX11_flow 221 = .ok (.goto 14, 3) := by decide +kernel
theorem dX11_flow_224 : decode cX11_flow 224 = .ok (.aload_n 0, 1) := by decide +kernel
theorem dX11_flow_225 : decode cX11_flow 225 = .ok (.getfield 23, 3) := by decide +kernel
theorem dX11_flow_228 : decode cX11_flow 228 = .ok (.iconst 5, 1) := by decide +kernel
theorem dX11_flow_229 : decode cX11_flow 229 = .ok (.iload 6, 2) := by decide +kernel
theorem dX11_flow_231 : decode cX11_flow 231 = .ok (.imul, 1) := by decide +kernel
theorem dX11_flow_232 : decode cX11_flow 232 = .ok (.iconst 1, 1) := by decide +kernel
theorem dX11_flow_233 : decode cX11_flow 233 = .ok (.iadd, 1) := by decide +kernel
theorem dX11_flow_234 : decode cX11_flow 234 = .ok (.iaload, 1) := by decide +kernel
theorem dX11_flow_235 : decode cX11_flow 235 = .ok (.istore 5, 2) := by decide +kernel
theorem dX11_flow_237 : decode cX11_flow 237 = .ok (.goto (-107), 3) := by decide +kernel
theorem dX11_flow_240 : decode cX11_flow 240 = .ok (.iinc 4 1, 3) := by decide +kernel
theorem dX11_flow_243 : decode cX11_flow 243 = .ok (.goto (-125), 3) := by decide +kernel
theorem dX11_flow_246 : decode cX11_flow 246 = .ok (.iload 4, 2) := by decide +kernel
theorem dX11_flow_248 : decode cX11_flow 248 = .ok (.ireturn, 1) := by decide +kernel
theorem dX11_distance_0 : decode cX11_distance 0 = .ok (.aload_n 0, 1) := by decide +kernel
theorem dX11_distance_1 : decode cX11_distance 1 = .ok (.iconst 0, 1) := by decide +kernel
theorem dX11_distance_2 : decode cX11_distance 2 = .ok (.putfield 96, 3) := by decide +kernel
theorem dX11_distance_5 : decode cX11_distance 5 = .ok (.aload_n 0, 1) := by decide +kernel
theorem dX11_distance_6 : decode cX11_distance 6 = .ok (.iload_n 1, 1) := by decide +kernel
theorem dX11_distance_7 : decode cX11_distance 7 = .ok (.invokevirtual 377, 3) := by decide +kernel
theorem dX11_distance_10 : decode cX11_distance 10 = .ok (.ifCond .eq 11, 3) := by decide +kernel
theorem dX11_distance_13 : decode cX11_distance 13 = .ok (.aload_n 0, 1) := by decide +kernel
theorem dX11_distance_14 : decode cX11_distance 14 = .ok (.iload_n 2, 1) := by decide +kernel
theorem dX11_distance_15 : decode cX11_distance 15 = .ok (.invokevirtual 377, 3) := by decide +kernel
theorem dX11_distance_18 : decode cX11_distance 18 = .ok (.ifCond .ne 5, 3) := by decide +kernel
theorem dX11_distance_21 : decode cX11_distance 21 = .ok (.iconst 0, 1) := by decide +kernel
theorem dX11_distance_22 : decode cX11_distance 22 = .ok (.ireturn, 1) := by decide +kernel
theorem dX11_distance_23 : decode cX11_distance 23 = .ok (.iconst 0, 1) := by decide +kernel
theorem dX11_distance_24 : decode cX11_distance 24 = .ok (.istore_n 3, 1) := by decide +kernel
theorem dX11_distance_25 : decode cX11_distance 25 = .ok (.iload_n 3, 1) := by decide +kernel
theorem dX11_distance_26 : decode cX11_distance 26 = .ok (.bipush 8, 2) := by decide +kernel
theorem dX11_distance_28 : decode cX11_distance 28 = .ok (.if_icmp .ge 26, 3) := by decide +kernel
theorem dX11_distance_31 : decode cX11_distance 31 = .ok (.aload_n 0, 1) := by decide +kernel
theorem dX11_distance_32 : decode cX11_distance 32 = .ok (.getfield 81, 3) := by decide +kernel
theorem dX11_distance_35 : decode cX11_distance 35 = .ok (.iload_n 3, 1) := by decide +kernel
theorem dX11_distance_36 : decode cX11_distance 36 = .ok (.iload_n 3, 1) := by decide +kernel
theorem dX11_distance_37 : decode cX11_distance 37 = .ok (.iload_n 1, 1) := by decide +kernel
theorem dX11_distance_38 : decode cX11_distance 38 = .ok (.if_icmp .ne 7, 3) := by decide +kernel
theorem dX11_distance_41 : decode cX11_distance 41 = .ok (.iconst 0, 1) := by decide +kernel
theorem dX11_distance_42 : decode cX11_distance 42 = .ok (.goto 5, 3) := by decide +kernel
theorem dX11_distance_45 : decode cX11_distance 45 = .ok (.ldc 236, 2) := by decide +kernel
theorem dX11_distance_47 : decode cX11_distance 47 = .ok (.iastore, 1) := by decide +kernel
theorem dX11_distance_48 : decode cX11_distance 48 = .ok (.iinc 3 1, 3) := by decide +kernel
theorem dX11_distance_51 : decode cX11_distance 51 = .ok (.goto (-26), 3) := by decide +kernel
theorem dX11_distance_54 : decode cX11_distance 54 = .ok (.iconst 0, 1) := by decide +kernel
theorem dX11_distance_55 : decode cX11_distance 55 = .ok (.istore_n 3, 1) := by decide +kernel
theorem dX11_distance_56 : decode cX11_distance 56 = .ok (.iload_n 3, 1) := by decide +kernel
theorem dX11_distance_57 : decode cX11_distance 57 = .ok (.bipush 8, 2) := by decide +kernel
theorem dX11_distance_59 : decode cX11_distance 59 = .ok (.if_icmp .ge 98, 3) := by decide +kernel
theorem dX11_distance_62 : decode cX11_distance 62 = .ok (.iconst 0, 1) := by decide +kernel
theorem dX11_distance_63 : decode cX11_distance 63 = .ok (.istore 4, 2) := by decide +kernel
theorem dX11_distance_65 : decode cX11_distance 65 = .ok (.iload 4, 2) := by decide +kernel
theorem dX11_distance_67 : decode cX11_distance 67 = .ok (.aload_n 0, 1) := by decide +kernel
theorem dX11_distance_68 : decode cX11_distance 68 = .ok (.getfield 199, 3) := by decide +kernel
theorem dX11_distance_71 : decode cX11_distance 71 = .ok (.if_icmp .ge 80, 3) := by decide +kernel
theorem dX11_distance_74 : decode cX11_distance 74 = .ok (.aload_n 0, 1) := by decide +kernel
theorem dX11_distance_75 : decode cX11_distance 75 = .ok (.iconst 0, 1) := by decide +kernel
theorem dX11_distance_76 : decode cX11_distance 76 = .ok (.iload 4, 2) := by decide +kernel
theorem dX11_distance_78 : decode cX11_distance 78 = .ok (.invokevirtual 233, 3) := by decide +kernel
theorem dX11_distance_81 : decode cX11_distance 81 = .ok (.ifCond .eq 64, 3) := by decide +kernel
theorem dX11_distance_84 : decode cX11_distance 84 = .ok (.aload_n 0, 1) := by decide +kernel
theorem dX11_distance_85 : decode cX11_distance 85 = .ok (.getfield 81, 3) := by decide +kernel
theorem dX11_distance_88 : decode cX11_distance 88 = .ok (.aload_n 0, 1) := by decide +kernel
theorem dX11_distance_89 : decode cX11_distance 89 = .ok (.getfield 23, 3) := by decide +kernel
theorem dX11_distance_92 : decode cX11_distance 92 = .ok (.iconst 5, 1) := by decide +kernel
theorem dX11_distance_93 : decode cX11_distance 93 = .ok (.iload 4, 2) := by decide +kernel
theorem dX11_distance_95 : decode cX11_distance 95 = .ok (.imul, 1) := by decide +kernel
theorem dX11_distance_96 : decode cX11_distance 96 = .ok (.iconst 1, 1) := by decide +kernel
theorem dX11_distance_97 : decode cX11_distance 97 = .ok (.iadd, 1) := by decide +kernel
theorem dX11_distance_98 : decode cX11_distance 98 = .ok (.iaload, 1) := by decide +kernel
theorem dX11_distance_99 : decode cX11_distance 99 = .ok (.aload_n 0, 1) := by decide +kernel
theorem dX11_distance_100 : decode cX11_distance 100 = .ok (.getfield 81, 3) := by decide +kernel
theorem dX11_distance_103 : decode cX11_distance 103 = .ok (.aload_n 0, 1) := by decide +kernel
theorem dX11_distance_104 : decode cX11_distance 104 = .ok (.getfield 23, 3) := by decide +kernel
theorem dX11_distance_107 : decode cX11_distance 107 = .ok (.iconst 5, 1) := by decide +kernel
theorem dX11_distance_108 : decode cX11_distance 108 = .ok (.iload 4, 2) := by decide +kernel
theorem dX11_distance_110 : decode cX11_distance 110 = .ok (.imul, 1) := by decide +kernel
theorem dX11_distance_111 : decode cX11_distance 111 = .ok (.iconst 1, 1) := by decide +kernel
theorem dX11_distance_112 : decode cX11_distance 112 = .ok (.iadd, 1) := by decide +kernel
theorem dX11_distance_113 : decode cX11_distance 113 = .ok (.iaload, 1) := by decide +kernel
theorem dX11_distance_114 : decode cX11_distance 114 = .ok (.iaload, 1) := by decide +kernel
theorem dX11_distance_115 : decode cX11_distance 115 = .ok (.aload_n 0, 1) := by decide +kernel
theorem dX11_distance_116 : decode cX11_distance 116 = .ok (.getfield 81, 3) := by decide +kernel
theorem dX11_distance_119 : decode cX11_distance 119 = .ok (.aload_n 0, 1) := by decide +kernel
theorem dX11_distance_120 : decode cX11_distance 120 = .ok (.getfield 23, 3) := by decide +kernel
theorem dX11_distance_123 : decode cX11_distance 123 = .ok (.iconst 5, 1) := by decide +kernel
theorem dX11_distance_124 : decode cX11_distance 124 = .ok (.iload 4, 2) := by decide +kernel
theorem dX11_distance_126 : decode cX11_distance 126 = .ok (.imul, 1) := by decide +kernel
theorem dX11_distance_127 : decode cX11_distance 127 = .ok (.iaload, 1) := by decide +kernel
theorem dX11_distance_128 : decode cX11_distance 128 = .ok (.iaload, 1) := by decide +kernel
theorem dX11_distance_129 : decode cX11_distance 129 = .ok (.aload_n 0, 1) := by decide +kernel
theorem dX11_distance_130 : decode cX11_distance 130 = .ok (.getfield 23, 3) := by decide +kernel
theorem dX11_distance_133 : decode cX11_distance 133 = .ok (.iconst 5, 1) := by decide +kernel
theorem dX11_distance_134 : decode cX11_distance 134 = .ok (.iload 4, 2) := by decide +kernel
theorem dX11_distance_136 : decode cX11_distance 136 = .ok (.imul, 1) := by decide +kernel
theorem dX11_distance_137 : decode cX11_distance 137 = .ok (.iconst 2, 1) := by decide +kernel
theorem dX11_distance_138 : decode cX11_distance 138 = .ok (.iadd, 1) := by decide +kernel
theorem dX11_distance_139 : decode cX11_distance 139 = .ok (.iaload, 1) := by decide +kernel
theorem dX11_distance_140 : decode cX11_distance 140 = .ok (.iadd, 1) := by decide +kernel
theorem dX11_distance_141 : decode cX11_distance 141 = .ok (.invokestatic 237, 3) := by decide +kernel
theorem dX11_distance_144 : decode cX11_distance 144 = .ok (.iastore, 1) := by decide +kernel
theorem dX11_distance_145 : decode cX11_distance 145 = .ok (.iinc 4 1, 3) := by decide +kernel
theorem dX11_distance_148 : decode cX11_distance 148 = .ok (.goto (-83), 3) := by decide +kernel
theorem dX11_distance_151 : decode cX11_distance 151 = .ok (.iinc 3 1, 3) := by decide +kernel
theorem dX11_distance_154 : decode cX11_distance 154 = .ok (.goto (-98), 3) := by decide +kernel
theorem dX11_distance_157 : decode cX11_distance 157 = .ok (.aload_n 0, 1) := by decide +kernel
theorem dX11_distance_158 : decode cX11_distance 158 = .ok (.getfield 81, 3) := by decide +kernel
theorem dX11_distance_161 : decode cX11_distance 161 = .ok (.iload_n 2, 1) := by decide +kernel
theorem dX11_distance_162 : decode cX11_distance 162 = .ok (.iaload, 1) := by decide +kernel
theorem dX11_distance_163 : decode cX11_distance 163 = .ok (.ldc 236, 2) := by decide +kernel
theorem dX11_distance_165 : decode cX11_distance 165 = .ok (.if_icmp .lt 7, 3) := by decide +kernel
theorem dX11_distance_168 : decode cX11_distance 168 = .ok (.iconst (-1), 1) := by decide +kernel
theorem dX11_distance_169 : decode cX11_distance 169 = .ok (.goto 9, 3) := by decide +kernel
theorem dX11_distance_172 : decode cX11_distance 172 = .ok (.aload_n 0, 1) := by decide +kernel
theorem dX11_distance_173 : decode cX11_distance 173 = .ok (.getfield 81, 3) := by decide +kernel
theorem dX11_distance_176 : decode cX11_distance 176 = .ok (.iload_n 2, 1) := by decide +kernel
theorem dX11_distance_177 : decode cX11_distance 177 = .ok (.iaload, 1) := by decide +kernel
theorem dX11_distance_178 : decode cX11_distance 178 = .ok (.ireturn, 1) := by decide +kernel
theorem dX11_room_0 : decode cX11_room 0 = .ok (.aload_n 0, 1) := by decide +kernel
theorem dX11_room_1 : decode cX11_room 1 = .ok (.iconst 0, 1) := by decide +kernel
theorem dX11_room_2 : decode cX11_room 2 = .ok (.putfield 96, 3) := by decide +kernel
theorem dX11_room_5 : decode cX11_room 5 = .ok (.aload_n 0, 1) := by decide +kernel
theorem dX11_room_6 : decode cX11_room 6 = .ok (.iload_n 1, 1) := by decide +kernel
theorem dX11_room_7 : decode cX11_room 7 = .ok (.invokevirtual 347, 3) := by decide +kernel
theorem dX11_room_10 : decode cX11_room 10 = .ok (.ifCond .ne 5, 3) := by decide +kernel
theorem dX11_room_13 : decode cX11_room 13 = .ok (.iconst 0, 1) := by decide +kernel
theorem dX11_room_14 : decode cX11_room 14 = .ok (.ireturn, 1) := by decide +kernel
theorem dX11_room_15 : decode cX11_room 15 = .ok (.bipush 99, 2) := by decide +kernel
theorem dX11_room_17 : decode cX11_room 17 = .ok (.istore_n 2, 1) := by decide +kernel
theorem dX11_room_18 : decode cX11_room 18 = .ok (.iload_n 2, 1) := by decide +kernel
theorem dX11_room_19 : decode cX11_room 19 = .ok (.ifCond .le 19, 3) := by decide +kernel
theorem dX11_room_22 : decode cX11_room 22 = .ok (.aload_n 0, 1) := by decide +kernel
theorem dX11_room_23 : decode cX11_room 23 = .ok (.iconst 0, 1) := by decide +kernel
theorem dX11_room_24 : decode cX11_room 24 = .ok (.iload_n 1, 1) := by decide +kernel
theorem dX11_room_25 : decode cX11_room 25 = .ok (.iload_n 2, 1) := by decide +kernel
theorem dX11_room_26 : decode cX11_room 26 = .ok (.invokevirtual 287, 3) := by decide +kernel
theorem dX11_room_29 : decode cX11_room 29 = .ok (.ifCond .ne 9, 3) := by decide +kernel
theorem dX11_room_32 : decode cX11_room 32 = .ok (.iinc 2 (-1), 3) := by decide +kernel
theorem dX11_room_35 : decode cX11_room 35 = .ok (.goto (-17), 3) := by decide +kernel
theorem dX11_room_38 : decode cX11_room 38 = .ok (.iload_n 2, 1) := by decide +kernel
theorem dX11_room_39 : decode cX11_room 39 = .ok (.ireturn, 1) := by decide +kernel
theorem dX11_saved_0 : decode cX11_saved 0 = .ok (.aload_n 0, 1) := by decide +kernel
theorem dX11_saved_1 : decode cX11_saved 1 = .ok (.iconst 0, 1) := by decide +kernel
theorem dX11_saved_2 : decode cX11_saved 2 = .ok (.putfield 96, 3) := by decide +kernel
theorem dX11_saved_5 : decode cX11_saved 5 = .ok (.aload_n 0, 1) := by decide +kernel
theorem dX11_saved_6 : decode cX11_saved 6 = .ok (.iload_n 1, 1) := by decide +kernel
theorem dX11_saved_7 : decode cX11_saved 7 = .ok (.invokevirtual 335, 3) := by decide +kernel
theorem dX11_saved_10 : decode cX11_saved 10 = .ok (.ifCond .ne 5, 3) := by decide +kernel
theorem dX11_saved_13 : decode cX11_saved 13 = .ok (.iconst 0, 1) := by decide +kernel
theorem dX11_saved_14 : decode cX11_saved 14 = .ok (.ireturn, 1) := by decide +kernel
theorem dX11_saved_15 : decode cX11_saved 15 = .ok (.aload_n 0, 1) := by decide +kernel
theorem dX11_saved_16 : decode cX11_saved 16 = .ok (.iconst 0, 1) := by decide +kernel
theorem dX11_saved_17 : decode cX11_saved 17 = .ok (.iload_n 1, 1) := by decide +kernel
theorem dX11_saved_18 : decode cX11_saved 18 = .ok (.invokevirtual 233, 3) := by decide +kernel
theorem dX11_saved_21 : decode cX11_saved 21 = .ok (.ifCond .ne 5, 3) := by decide +kernel
theorem dX11_saved_24 : decode cX11_saved 24 = .ok (.iconst 0, 1) := by decide +kernel
theorem dX11_saved_25 : decode cX11_saved 25 = .ok (.ireturn, 1) := by decide +kernel
theorem dX11_saved_26 : decode cX11_saved 26 = .ok (.iconst 0, 1) := by decide +kernel
theorem dX11_saved_27 : decode cX11_saved 27 = .ok (.istore_n 2, 1) := by decide +kernel
theorem dX11_saved_28 : decode cX11_saved 28 = .ok (.aload_n 0, 1) := by decide +kernel
theorem dX11_saved_29 : decode cX11_saved 29 = .ok (.invokevirtual 303, 3) := by decide +kernel
theorem dX11_saved_32 : decode cX11_saved 32 = .ok (.aload_n 0, 1) := by decide +kernel
theorem dX11_saved_33 : decode cX11_saved 33 = .ok (.getfield 35, 3) := by decide +kernel
theorem dX11_saved_36 : decode cX11_saved 36 = .ok (.bipush 82, 2) := by decide +kernel
theorem dX11_saved_38 : decode cX11_saved 38 = .ok (.dup2, 1) := by decide +kernel
theorem dX11_saved_39 : decode cX11_saved 39 = .ok (.iaload, 1) := by decide +kernel
theorem dX11_saved_40 : decode cX11_saved 40 = .ok (.iconst 1, 1) := by decide +kernel
theorem dX11_saved_41 : decode cX11_saved 41 = .ok (.iload_n 1, 1) := by decide +kernel
theorem dX11_saved_42 : decode cX11_saved 42 = .ok (.ishl, 1) := by decide +kernel
theorem dX11_saved_43 : decode cX11_saved 43 = .ok (.iconst (-1), 1) := by decide +kernel
theorem dX11_saved_44 : decode cX11_saved 44 = .ok (.ixor, 1) := by decide +kernel
theorem dX11_saved_45 : decode cX11_saved 45 = .ok (.iand, 1) := by decide +kernel
theorem dX11_saved_46 : decode cX11_saved 46 = .ok (.iastore, 1) := by decide +kernel
theorem dX11_saved_47 : decode cX11_saved 47 = .ok (.iconst 0, 1) := by decide +kernel
theorem dX11_saved_48 : decode cX11_saved 48 = .ok (.istore_n 3, 1) := by decide +kernel
theorem dX11_saved_49 : decode cX11_saved 49 = .ok (.iload_n 3, 1) := by decide +kernel
theorem dX11_saved_50 : decode cX11_saved 50 = .ok (.aload_n 0, 1) := by decide +kernel
theorem dX11_saved_51 : decode cX11_saved 51 = .ok (.getfield 202, 3) := by decide +kernel
theorem dX11_saved_54 : decode cX11_saved 54 = .ok (.if_icmp .ge 47, 3) := by decide +kernel
theorem dX11_saved_57 : decode cX11_saved 57 = .ok (.aload_n 0, 1) := by decide +kernel
theorem dX11_saved_58 : decode cX11_saved 58 = .ok (.iconst 0, 1) := by decide +kernel
theorem dX11_saved_59 : decode cX11_saved 59 = .ok (.iload_n 3, 1) := by decide +kernel
theorem dX11_saved_60 : decode cX11_saved 60 = .ok (.invokevirtual 226, 3) := by decide +kernel
theorem dX11_saved_63 : decode cX11_saved 63 = .ok (.iload_n 1, 1) := by decide +kernel
theorem dX11_saved_64 : decode cX11_saved 64 = .ok (.ishr, 1) := by decide +kernel
theorem dX11_saved_65 : decode cX11_saved 65 = .ok (.iconst 1, 1) := by decide +kernel
theorem dX11_saved_66 : decode cX11_saved 66 = .ok (.iand, 1) := by decide +kernel
theorem dX11_saved_67 : decode cX11_saved 67 = .ok (.iconst 1, 1) := by decide +kernel
theorem dX11_saved_68 : decode cX11_saved 68 = .ok (.if_icmp .ne 27, 3) := by decide +kernel
theorem dX11_saved_71 : decode cX11_saved 71 = .ok (.aload_n 0, 1) := by decide +kernel
theorem dX11_saved_72 : decode cX11_saved 72 = .ok (.bipush 82, 2) := by decide +kernel
theorem dX11_saved_74 : decode cX11_saved 74 = .ok (.iload_n 3, 1) := by decide +kernel
theorem dX11_saved_75 : decode cX11_saved 75 = .ok (.aload_n 0, 1) := by decide +kernel
theorem dX11_saved_76 : decode cX11_saved 76 = .ok (.getfield 35, 3) := by decide +kernel
theorem dX11_saved_79 : decode cX11_saved 79 = .ok (.iconst 1, 1) := by decide +kernel
theorem dX11_saved_80 : decode cX11_saved 80 = .ok (.iload_n 3, 1) := by decide +kernel
theorem dX11_saved_81 : decode cX11_saved 81 = .ok (.iadd, 1) := by decide +kernel
theorem dX11_saved_82 : decode cX11_saved 82 = .ok (.iaload, 1) := by decide +kernel
theorem dX11_saved_83 : decode cX11_saved 83 = .ok (.invokevirtual 287, 3) := by decide +kernel
theorem dX11_saved_86 : decode cX11_saved 86 = .ok (.ifCond .eq 9, 3) := by decide +kernel
theorem dX11_saved_89 : decode cX11_saved 89 = .ok (.iload_n 2, 1) := by decide +kernel
theorem dX11_saved_90 : decode cX11_saved 90 = .ok (.iconst 1, 1) := by decide +kernel
theorem dX11_saved_91 : decode cX11_saved 91 = .ok (.iload_n 3, 1) := by decide +kernel
theorem dX11_saved_92 : decode cX11_saved 92 = .ok (.ishl, 1) := by decide +kernel
theorem dX11_saved_93 : decode cX11_saved 93 = .ok (.ior, 1) := by decide +kernel
theorem dX11_saved_94 : decode cX11_saved 94 = .ok (.istore_n 2, 1) := by decide +kernel
theorem dX11_saved_95 : decode cX11_saved 95 = .ok (.iinc 3 1, 3) := by decide +kernel
theorem dX11_saved_98 : decode cX11_saved 98 = .ok (.goto (-49), 3) := by decide +kernel
theorem dX11_saved_101 : decode cX11_saved 101 = .ok (.iload_n 2, 1) := by decide +kernel
theorem dX11_saved_102 : decode cX11_saved 102 = .ok (.ireturn, 1) := by decide +kernel
theorem dX11_see_0 : decode cX11_see 0 = .ok (.aload_n 0, 1) := by decide +kernel
theorem dX11_see_1 : decode cX11_see 1 = .ok (.iconst 0, 1) := by decide +kernel
theorem dX11_see_2 : decode cX11_see 2 = .ok (.putfield 96, 3) := by decide +kernel
theorem dX11_see_5 : decode cX11_see 5 = .ok (.aload_n 0, 1) := by decide +kernel
theorem dX11_see_6 : decode cX11_see 6 = .ok (.iload_n 1, 1) := by decide +kernel
theorem dX11_see_7 : decode cX11_see 7 = .ok (.invokevirtual 377, 3) := by decide +kernel
theorem dX11_see_10 : decode cX11_see 10 = .ok (.ifCond .eq 11, 3) := by decide +kernel
theorem dX11_see_13 : decode cX11_see 13 = .ok (.aload_n 0, 1) := by decide +kernel
theorem dX11_see_14 : decode cX11_see 14 = .ok (.iload_n 2, 1) := by decide +kernel
theorem dX11_see_15 : decode cX11_see 15 = .ok (.invokevirtual 377, 3) := by decide +kernel
theorem dX11_see_18 : decode cX11_see 18 = .ok (.ifCond .ne 5, 3) := by decide +kernel
theorem dX11_see_21 : decode cX11_see 21 = .ok (.iconst 0, 1) := by decide +kernel
theorem dX11_see_22 : decode cX11_see 22 = .ok (.ireturn, 1) := by decide +kernel
theorem dX11_see_23 : decode cX11_see 23 = .ok (.aload_n 0, 1) := by decide +kernel
theorem dX11_see_24 : decode cX11_see 24 = .ok (.getfield 212, 3) := by decide +kernel
theorem dX11_see_27 : decode cX11_see 27 = .ok (.bipush 8, 2) := by decide +kernel
theorem dX11_see_29 : decode cX11_see 29 = .ok (.if_icmp .eq 29, 3) := by decide +kernel
theorem dX11_see_32 : decode cX11_see 32 = .ok (.iload_n 1, 1) := by decide +kernel
theorem dX11_see_33 : decode cX11_see 33 = .ok (.iload_n 2, 1) := by decide +kernel
theorem dX11_see_34 : decode cX11_see 34 = .ok (.if_icmp .eq 24, 3) := by decide +kernel
theorem dX11_see_37 : decode cX11_see 37 = .ok (.iload_n 3, 1) := by decide +kernel
theorem dX11_see_38 : decode cX11_see 38 = .ok (.iconst 1, 1) := by decide +kernel
theorem dX11_see_39 : decode cX11_see 39 = .ok (.bipush 99, 2) := by decide +kernel
theorem dX11_see_41 : decode cX11_see 41 = .ok (.invokestatic 318, 3) := by decide +kernel
theorem dX11_see_44 : decode cX11_see 44 = .ok (.ifCond .eq 14, 3) := by decide +kernel
theorem dX11_see_47 : decode cX11_see 47 = .ok (.iload 4, 2) := by decide +kernel
theorem dX11_see_49 : decode cX11_see 49 = .ok (.iconst 0, 1) := by decide +kernel
theorem dX11_see_50 : decode cX11_see 50 = .ok (.bipush 7, 2) := by decide +kernel
theorem dX11_see_52 : decode cX11_see 52 = .ok (.invokestatic 318, 3) := by decide +kernel
theorem dX11_see_55 : decode cX11_see 55 = .ok (.ifCond .ne 9, 3) := by decide +kernel
theorem dX11_see_58 : decode cX11_see 58 = .ok (.aload_n 0, 1) := by decide +kernel
theorem dX11_see_59 : decode cX11_see 59 = .ok (.iconst 2, 1) := by decide +kernel
theorem dX11_see_60 : decode cX11_see 60 = .ok (.invokevirtual 353, 3) := by decide +kernel
theorem dX11_see_63 : decode cX11_see 63 = .ok (.ireturn, 1) := by decide +kernel
theorem dX11_see_64 : decode cX11_see 64 = .ok (.aload_n 0, 1) := by decide +kernel
theorem dX11_see_65 : decode cX11_see 65 = .ok (.getfield 84, 3) := by decide +kernel
theorem dX11_see_68 : decode cX11_see 68 = .ok (.iconst 5, 1) := by decide +kernel
theorem dX11_see_69 : decode cX11_see 69 = .ok (.aload_n 0, 1) := by decide +kernel
theorem dX11_see_70 : decode cX11_see 70 = .ok (.getfield 212, 3) := by decide +kernel
theorem dX11_see_73 : decode cX11_see 73 = .ok (.imul, 1) := by decide +kernel
theorem dX11_see_74 : decode cX11_see 74 = .ok (.iload_n 1, 1) := by decide +kernel
theorem dX11_see_75 : decode cX11_see 75 = .ok (.iastore, 1) := by decide +kernel
theorem dX11_see_76 : decode cX11_see 76 = .ok (.aload_n 0, 1) := by decide +kernel
theorem dX11_see_77 : decode cX11_see 77 = .ok (.getfield 84, 3) := by decide +kernel
theorem dX11_see_80 : decode cX11_see 80 = .ok (.iconst 5, 1) := by decide +kernel
theorem dX11_see_81 : decode cX11_see 81 = .ok (.aload_n 0, 1) := by decide +kernel
theorem dX11_see_82 : decode cX11_see 82 = .ok (.getfield 212, 3) := by decide +kernel
theorem dX11_see_85 : decode cX11_see 85 = .ok (.imul, 1) := by decide +kernel
theorem dX11_see_86 : decode cX11_see 86 = .ok (.iconst 1, 1) := by decide +kernel
theorem dX11_see_87 : decode cX11_see 87 = .ok (.iadd, 1) := by decide +kernel
theorem dX11_see_88 : decode cX11_see 88 = .ok (.iload_n 2, 1) := by decide +kernel
theorem dX11_see_89 : decode cX11_see 89 = .ok (.iastore, 1) := by decide +kernel
theorem dX11_see_90 : decode cX11_see 90 = .ok (.aload_n 0, 1) := by decide +kernel
theorem dX11_see_91 : decode cX11_see 91 = .ok (.getfield 84, 3) := by decide +kernel
theorem dX11_see_94 : decode cX11_see 94 = .ok (.iconst 5, 1) := by decide +kernel
theorem dX11_see_95 : decode cX11_see 95 = .ok (.aload_n 0, 1) := by decide +kernel
theorem dX11_see_96 : decode cX11_see 96 = .ok (.getfield 212, 3) := by decide +kernel
theorem dX11_see_99 : decode cX11_see 99 = .ok (.imul, 1) := by decide +kernel
theorem dX11_see_100 : decode cX11_see 100 = .ok (.iconst 2, 1) := by decide +kernel
theorem dX11_see_101 : decode cX11_see 101 = .ok (.iadd, 1) := by decide +kernel
theorem dX11_see_102 : decode cX11_see 102 = .ok (.iload_n 3, 1) := by decide +kernel
theorem dX11_see_103 : decode cX11_see 103 = .ok (.iastore, 1) := by decide +kernel
theorem dX11_see_104 : decode cX11_see 104 = .ok (.aload_n 0, 1) := by decide +kernel
theorem dX11_see_105 : decode cX11_see 105 = .ok (.getfield 84, 3) := by decide +kernel
theorem dX11_see_108 : decode cX11_see 108 = .ok (.iconst 5, 1) := by decide +kernel
theorem dX11_see_109 : decode cX11_see 109 = .ok (.aload_n 0, 1) := by decide +kernel
theorem dX11_see_110 : decode cX11_see 110 = .ok (.getfield 212, 3) := by decide +kernel
theorem dX11_see_113 : decode cX11_see 113 = .ok (.imul, 1) := by decide +kernel
theorem dX11_see_114 : decode cX11_see 114 = .ok (.iconst 3, 1) := by decide +kernel
theorem dX11_see_115 : decode cX11_see 115 = .ok (.iadd, 1) := by decide +kernel
theorem dX11_see_116 : decode cX11_see 116 = .ok (.iload 4, 2) := by decide +kernel
theorem dX11_see_118 : decode cX11_see 118 = .ok (.iastore, 1) := by decide +kernel
theorem dX11_see_119 : decode cX11_see 119 = .ok (.aload_n 0, 1) := by decide +kernel
theorem dX11_see_120 : decode cX11_see 120 = .ok (.getfield 84, 3) := by decide +kernel
theorem dX11_see_123 : decode cX11_see 123 = .ok (.iconst 5, 1) := by decide +kernel
theorem dX11_see_124 : decode cX11_see 124 = .ok (.aload_n 0, 1) := by decide +kernel
theorem dX11_see_125 : decode cX11_see 125 = .ok (.getfield 212, 3) := by decide +kernel
theorem dX11_see_128 : decode cX11_see 128 = .ok (.imul, 1) := by decide +kernel
theorem dX11_see_129 : decode cX11_see 129 = .ok (.iconst 4, 1) := by decide +kernel
theorem dX11_see_130 : decode cX11_see 130 = .ok (.iadd, 1) := by decide +kernel
theorem dX11_see_131 : decode cX11_see 131 = .ok (.iload 5, 2) := by decide +kernel
theorem dX11_see_133 : decode cX11_see 133 = .ok (.ifCond .eq 7, 3) := by decide +kernel
theorem dX11_see_136 : decode cX11_see 136 = .ok (.iconst 1, 1) := by decide +kernel
theorem dX11_see_137 : decode cX11_see 137 = .ok (.goto 4, 3) := by decide +kernel
theorem dX11_see_140 : decode cX11_see 140 = .ok (.iconst 0, 1) := by decide +kernel
theorem dX11_see_141 : decode cX11_see 141 = .ok (.iastore, 1) := by decide +kernel
theorem dX11_see_142 : decode cX11_see 142 = .ok (.aload_n 0, 1) := by decide +kernel
theorem dX11_see_143 : decode cX11_see 143 = .ok (.dup, 1) := by decide +kernel
theorem dX11_see_144 : decode cX11_see 144 = .ok (.getfield 212, 3) := by decide +kernel
theorem dX11_see_147 : decode cX11_see 147 = .ok (.iconst 1, 1) := by decide +kernel
theorem dX11_see_148 : decode cX11_see 148 = .ok (.iadd, 1) := by decide +kernel
theorem dX11_see_149 : decode cX11_see 149 = .ok (.putfield 212, 3) := by decide +kernel
theorem dX11_see_152 : decode cX11_see 152 = .ok (.aload_n 0, 1) := by decide +kernel
theorem dX11_see_153 : decode cX11_see 153 = .ok (.getfield 212, 3) := by decide +kernel
theorem dX11_see_156 : decode cX11_see 156 = .ok (.ireturn, 1) := by decide +kernel
theorem dX11_forget_0 : decode cX11_forget 0 = .ok (.aload_n 0, 1) := by decide +kernel
theorem dX11_forget_1 : decode cX11_forget 1 = .ok (.iconst 0, 1) := by decide +kernel
theorem dX11_forget_2 : decode cX11_forget 2 = .ok (.putfield 96, 3) := by decide +kernel
theorem dX11_forget_5 : decode cX11_forget 5 = .ok (.aload_n 0, 1) := by decide +kernel
theorem dX11_forget_6 : decode cX11_forget 6 = .ok (.iconst 0, 1) := by decide +kernel
theorem dX11_forget_7 : decode cX11_forget 7 = .ok (.putfield 212, 3) := by decide +kernel
theorem dX11_forget_10 : decode cX11_forget 10 = .ok (.return_, 1) := by decide +kernel
theorem dX11_isSeen_0 : decode cX11_isSeen 0 = .ok (.iconst 0, 1) := by decide +kernel
theorem dX11_isSeen_1 : decode cX11_isSeen 1 = .ok (.istore_n 1, 1) := by decide +kernel
theorem dX11_isSeen_2 : decode cX11_isSeen 2 = .ok (.iload_n 1, 1) := by decide +kernel
theorem dX11_isSeen_3 : decode cX11_isSeen 3 = .ok (.aload_n 0, 1) := by decide +kernel
theorem dX11_isSeen_4 : decode cX11_isSeen 4 = .ok (.getfield 212, 3) := by decide +kernel
theorem dX11_isSeen_7 : decode cX11_isSeen 7 = .ok (.if_icmp .ge 75, 3) := by decide +kernel
theorem dX11_isSeen_10 : decode cX11_isSeen 10 = .ok (.aload_n 0, 1) := by decide +kernel
theorem dX11_isSeen_11 : decode cX11_isSeen 11 = .ok (.aload_n 0, 1) := by decide +kernel
theorem dX11_isSeen_12 : decode cX11_isSeen 12 = .ok (.getfield 84, 3) := by decide +kernel
theorem dX11_isSeen_15 : decode cX11_isSeen 15 = .ok (.iconst 5, 1) := by decide +kernel
theorem dX11_isSeen_16 : decode cX11_isSeen 16 = .ok (.iload_n 1, 1) := by decide +kernel
theorem dX11_isSeen_17 : decode cX11_isSeen 17 = .ok (.imul, 1) := by decide +kernel
theorem dX11_isSeen_18 : decode cX11_isSeen 18 = .ok (.iaload, 1) := by decide +kernel
theorem dX11_isSeen_19 : decode cX11_isSeen 19 = .ok (.aload_n 0, 1) := by decide +kernel
theorem dX11_isSeen_20 : decode cX11_isSeen 20 = .ok (.getfield 84, 3) := by decide +kernel
theorem dX11_isSeen_23 : decode cX11_isSeen 23 = .ok (.iconst 5, 1) := by decide +kernel
theorem dX11_isSeen_24 : decode cX11_isSeen 24 = .ok (.iload_n 1, 1) := by decide +kernel
theorem dX11_isSeen_25 : decode cX11_isSeen 25 = .ok (.imul, 1) := by decide +kernel
theorem dX11_isSeen_26 : decode cX11_isSeen 26 = .ok (.iconst 1, 1) := by decide +kernel
theorem dX11_isSeen_27 : decode cX11_isSeen 27 = .ok (.iadd, 1) := by decide +kernel
theorem dX11_isSeen_28 : decode cX11_isSeen 28 = .ok (.iaload, 1) := by decide +kernel
theorem dX11_isSeen_29 : decode cX11_isSeen 29 = .ok (.aload_n 0, 1) := by decide +kernel
theorem dX11_isSeen_30 : decode cX11_isSeen 30 = .ok (.getfield 84, 3) := by decide +kernel
theorem dX11_isSeen_33 : decode cX11_isSeen 33 = .ok (.iconst 5, 1) := by decide +kernel
theorem dX11_isSeen_34 : decode cX11_isSeen 34 = .ok (.iload_n 1, 1) := by decide +kernel
theorem dX11_isSeen_35 : decode cX11_isSeen 35 = .ok (.imul, 1) := by decide +kernel
theorem dX11_isSeen_36 : decode cX11_isSeen 36 = .ok (.iconst 2, 1) := by decide +kernel
theorem dX11_isSeen_37 : decode cX11_isSeen 37 = .ok (.iadd, 1) := by decide +kernel
theorem dX11_isSeen_38 : decode cX11_isSeen 38 = .ok (.iaload, 1) := by decide +kernel
theorem dX11_isSeen_39 : decode cX11_isSeen 39 = .ok (.aload_n 0, 1) := by decide +kernel
theorem dX11_isSeen_40 : decode cX11_isSeen 40 = .ok (.getfield 84, 3) := by decide +kernel
theorem dX11_isSeen_43 : decode cX11_isSeen 43 = .ok (.iconst 5, 1) := by decide +kernel
theorem dX11_isSeen_44 : decode cX11_isSeen 44 = .ok (.iload_n 1, 1) := by decide +kernel
theorem dX11_isSeen_45 : decode cX11_isSeen 45 = .ok (.imul, 1) := by decide +kernel
theorem dX11_isSeen_46 : decode cX11_isSeen 46 = .ok (.iconst 3, 1) := by decide +kernel
theorem dX11_isSeen_47 : decode cX11_isSeen 47 = .ok (.iadd, 1) := by decide +kernel
theorem dX11_isSeen_48 : decode cX11_isSeen 48 = .ok (.iaload, 1) := by decide +kernel
theorem dX11_isSeen_49 : decode cX11_isSeen 49 = .ok (.invokevirtual 380, 3) := by decide +kernel
theorem dX11_isSeen_52 : decode cX11_isSeen 52 = .ok (.aload_n 0, 1) := by decide +kernel
theorem dX11_isSeen_53 : decode cX11_isSeen 53 = .ok (.getfield 84, 3) := by decide +kernel
theorem dX11_isSeen_56 : decode cX11_isSeen 56 = .ok (.iconst 5, 1) := by decide +kernel
theorem dX11_isSeen_57 : decode cX11_isSeen 57 = .ok (.iload_n 1, 1) := by decide +kernel
theorem dX11_isSeen_58 : decode cX11_isSeen 58 = .ok (.imul, 1) := by decide +kernel
theorem dX11_isSeen_59 : decode cX11_isSeen 59 = .ok (.iconst 4, 1) := by decide +kernel
theorem dX11_isSeen_60 : decode cX11_isSeen 60 = .ok (.iadd, 1) := by decide +kernel
theorem dX11_isSeen_61 : decode cX11_isSeen 61 = .ok (.iaload, 1) := by decide +kernel
theorem dX11_isSeen_62 : decode cX11_isSeen 62 = .ok (.iconst 1, 1) := by decide +kernel
theorem dX11_isSeen_63 : decode cX11_isSeen 63 = .ok (.if_icmp .ne 7, 3) := by decide +kernel
theorem dX11_isSeen_66 : decode cX11_isSeen 66 = .ok (.iconst 1, 1) := by decide +kernel
theorem dX11_isSeen_67 : decode cX11_isSeen 67 = .ok (.goto 4, 3) := by decide +kernel
theorem dX11_isSeen_70 : decode cX11_isSeen 70 = .ok (.iconst 0, 1) := by decide +kernel
theorem dX11_isSeen_71 : decode cX11_isSeen 71 = .ok (.if_icmp .eq 5, 3) := by decide +kernel
theorem dX11_isSeen_74 : decode cX11_isSeen 74 = .ok (.iconst 0, 1) := by decide +kernel
theorem dX11_isSeen_75 : decode cX11_isSeen 75 = .ok (.ireturn, 1) := by decide +kernel
theorem dX11_isSeen_76 : decode cX11_isSeen 76 = .ok (.iinc 1 1, 3) := by decide +kernel
theorem dX11_isSeen_79 : decode cX11_isSeen 79 = .ok (.goto (-77), 3) := by decide +kernel
theorem dX11_isSeen_82 : decode cX11_isSeen 82 = .ok (.iconst 1, 1) := by decide +kernel
theorem dX11_isSeen_83 : decode cX11_isSeen 83 = .ok (.ireturn, 1) := by decide +kernel
theorem dX11_other_0 : decode cX11_other 0 = .ok (.aload_n 0, 1) := by decide +kernel
theorem dX11_other_1 : decode cX11_other 1 = .ok (.iconst 0, 1) := by decide +kernel
theorem dX11_other_2 : decode cX11_other 2 = .ok (.putfield 96, 3) := by decide +kernel
theorem dX11_other_5 : decode cX11_other 5 = .ok (.aload_n 0, 1) := by decide +kernel
theorem dX11_other_6 : decode cX11_other 6 = .ok (.iload_n 1, 1) := by decide +kernel
theorem dX11_other_7 : decode cX11_other 7 = .ok (.iconst 2, 1) := by decide +kernel
theorem dX11_other_8 : decode cX11_other 8 = .ok (.invokevirtual 338, 3) := by decide +kernel
theorem dX11_other_11 : decode cX11_other 11 = .ok (.ifCond .ne 5, 3) := by decide +kernel
theorem dX11_other_14 : decode cX11_other 14 = .ok (.iconst 0, 1) := by decide +kernel
theorem dX11_other_15 : decode cX11_other 15 = .ok (.ireturn, 1) := by decide +kernel
theorem dX11_other_16 : decode cX11_other 16 = .ok (.iload_n 1, 1) := by decide +kernel
theorem dX11_other_17 : decode cX11_other 17 = .ok (.iconst 2, 1) := by decide +kernel
theorem dX11_other_18 : decode cX11_other 18 = .ok (.if_icmp .ne 16, 3) := by decide +kernel
theorem dX11_other_21 : decode cX11_other 21 = .ok (.aload_n 0, 1) := by decide +kernel
theorem dX11_other_22 : decode cX11_other 22 = .ok (.invokevirtual 390, 3) := by decide +kernel
theorem dX11_other_25 : decode cX11_other 25 = .ok (.ifCond .eq 7, 3) := by decide +kernel
theorem dX11_other_28 : decode cX11_other 28 = .ok (.iconst 1, 1) := by decide +kernel
theorem dX11_other_29 : decode cX11_other 29 = .ok (.goto 4, 3) := by decide +kernel
theorem dX11_other_32 : decode cX11_other 32 = .ok (.iconst 0, 1) := by decide +kernel
theorem dX11_other_33 : decode cX11_other 33 = .ok (.ireturn, 1) := by decide +kernel
theorem dX11_other_34 : decode cX11_other 34 = .ok (.iconst 0, 1) := by decide +kernel
theorem dX11_other_35 : decode cX11_other 35 = .ok (.istore_n 2, 1) := by decide +kernel
theorem dX11_other_36 : decode cX11_other 36 = .ok (.iconst (-1), 1) := by decide +kernel
theorem dX11_other_37 : decode cX11_other 37 = .ok (.istore_n 3, 1) := by decide +kernel
theorem dX11_other_38 : decode cX11_other 38 = .ok (.iconst 0, 1) := by decide +kernel
theorem dX11_other_39 : decode cX11_other 39 = .ok (.istore 4, 2) := by decide +kernel
theorem dX11_other_41 : decode cX11_other 41 = .ok (.iload 4, 2) := by decide +kernel
theorem dX11_other_43 : decode cX11_other 43 = .ok (.aload_n 0, 1) := by decide +kernel
theorem dX11_other_44 : decode cX11_other 44 = .ok (.getfield 199, 3) := by decide +kernel
theorem dX11_other_47 : decode cX11_other 47 = .ok (.if_icmp .ge 117, 3) := by decide +kernel
theorem dX11_other_50 : decode cX11_other 50 = .ok (.aload_n 0, 1) := by decide +kernel
theorem dX11_other_51 : decode cX11_other 51 = .ok (.getfield 23, 3) := by decide +kernel
theorem dX11_other_54 : decode cX11_other 54 = .ok (.iconst 5, 1) := by decide +kernel
theorem dX11_other_55 : decode cX11_other 55 = .ok (.iload 4, 2) := by decide +kernel
theorem dX11_other_57 : decode cX11_other 57 = .ok (.imul, 1) := by decide +kernel
theorem dX11_other_58 : decode cX11_other 58 = .ok (.iconst 3, 1) := by decide +kernel
theorem dX11_other_59 : decode cX11_other 59 = .ok (.iadd, 1) := by decide +kernel
theorem dX11_other_60 : decode cX11_other 60 = .ok (.iaload, 1) := by decide +kernel
theorem dX11_other_61 : decode cX11_other 61 = .ok (.istore 5, 2) := by decide +kernel
theorem dX11_other_63 : decode cX11_other 63 = .ok (.aload_n 0, 1) := by decide +kernel
theorem dX11_other_64 : decode cX11_other 64 = .ok (.iconst 0, 1) := by decide +kernel
theorem dX11_other_65 : decode cX11_other 65 = .ok (.iload 4, 2) := by decide +kernel
theorem dX11_other_67 : decode cX11_other 67 = .ok (.invokevirtual 269, 3) := by decide +kernel
theorem dX11_other_70 : decode cX11_other 70 = .ok (.istore 6, 2) := by decide +kernel
theorem dX11_other_72 : decode cX11_other 72 = .ok (.iconst 1, 1) := by decide +kernel
theorem dX11_other_73 : decode cX11_other 73 = .ok (.istore 7, 2) := by decide +kernel
theorem dX11_other_75 : decode cX11_other 75 = .ok (.iload 7, 2) := by decide +kernel
theorem dX11_other_77 : decode cX11_other 77 = .ok (.bipush 20, 2) := by decide +kernel
theorem dX11_other_79 : decode cX11_other 79 = .ok (.if_icmp .gt 66, 3) := by decide +kernel
theorem dX11_other_82 : decode cX11_other 82 = .ok (.iload 7, 2) := by decide +kernel
theorem dX11_other_84 : decode cX11_other 84 = .ok (.iload 5, 2) := by decide +kernel
theorem dX11_other_86 : decode cX11_other 86 = .ok (.if_icmp .eq 53, 3) := by decide +kernel
theorem dX11_other_89 : decode cX11_other 89 = .ok (.iload 7, 2) := by decide +kernel
theorem dX11_other_91 : decode cX11_other 91 = .ok (.iload 6, 2) := by decide +kernel
theorem dX11_other_93 : decode cX11_other 93 = .ok (.if_icmp .ge 6, 3) := by decide +kernel
theorem dX11_other_96 : decode cX11_other 96 = .ok (.goto 43, 3) := by decide +kernel
theorem dX11_other_99 : decode cX11_other 99 = .ok (.aload_n 0, 1) := by decide +kernel
theorem dX11_other_100 : decode cX11_other 100 = .ok (.getfield 23, 3) := by decide +kernel
theorem dX11_other_103 : decode cX11_other 103 = .ok (.iconst 5, 1) := by decide +kernel
theorem dX11_other_104 : decode cX11_other 104 = .ok (.iload 4, 2) := by decide +kernel
theorem dX11_other_106 : decode cX11_other 106 = .ok (.imul, 1) := by decide +kernel
theorem dX11_other_107 : decode cX11_other 107 = .ok (.iconst 3, 1) := by decide +kernel
theorem dX11_other_108 : decode cX11_other 108 = .ok (.iadd, 1) := by decide +kernel
theorem dX11_other_109 : decode cX11_other 109 = .ok (.iload 7, 2) := by decide +kernel
theorem dX11_other_111 : decode cX11_other 111 = .ok (.iastore, 1) := by decide +kernel
theorem dX11_other_112 : decode cX11_other 112 = .ok (.aload_n 0, 1) := by decide +kernel
theorem dX11_other_113 : decode cX11_other 113 = .ok (.invokevirtual 390, 3) := by decide +kernel
theorem dX11_other_116 : decode cX11_other 116 = .ok (.ifCond .ne 6, 3) := by decide +kernel
theorem dX11_other_119 : decode cX11_other 119 = .ok (.goto 20, 3) := by decide +kernel
theorem dX11_other_122 : decode cX11_other 122 = .ok (.iinc 2 1, 3) := by decide +kernel
theorem dX11_other_125 : decode cX11_other 125 = .ok (.iload_n 3, 1) := by decide +kernel
theorem dX11_other_126 : decode cX11_other 126 = .ok (.iconst (-1), 1) := by decide +kernel
theorem dX11_other_127 : decode cX11_other 127 = .ok (.if_icmp .ne 12, 3) := by decide +kernel
theorem dX11_other_130 : decode cX11_other 130 = .ok (.bipush 100, 2) := by decide +kernel
theorem dX11_other_132 : decode cX11_other 132 = .ok (.iload 4, 2) := by decide +kernel
theorem dX11_other_134 : decode cX11_other 134 = .ok (.imul, 1) := by decide +kernel
theorem dX11_other_135 : decode cX11_other 135 = .ok (.iload 7, 2) := by decide +kernel
theorem dX11_other_137 : decode cX11_other 137 = .ok (.iadd, 1) := by decide +kernel
theorem dX11_other_138 : decode cX11_other 138 = .ok (.istore_n 3, 1) := by decide +kernel
theorem dX11_other_139 : decode cX11_other 139 = .ok (.iinc 7 1, 3) := by decide +kernel
theorem dX11_other_142 : decode cX11_other 142 = .ok (.goto (-67), 3) := by decide +kernel
theorem dX11_other_145 : decode cX11_other 145 = .ok (.aload_n 0, 1) := by decide +kernel
theorem dX11_other_146 : decode cX11_other 146 = .ok (.getfield 23, 3) := by decide +kernel
theorem dX11_other_149 : decode cX11_other 149 = .ok (.iconst 5, 1) := by decide +kernel
theorem dX11_other_150 : decode cX11_other 150 = .ok (.iload 4, 2) := by decide +kernel
theorem dX11_other_152 : decode cX11_other 152 = .ok (.imul, 1) := by decide +kernel
theorem dX11_other_153 : decode cX11_other 153 = .ok (.iconst 3, 1) := by decide +kernel
theorem dX11_other_154 : decode cX11_other 154 = .ok (.iadd, 1) := by decide +kernel
theorem dX11_other_155 : decode cX11_other 155 = .ok (.iload 5, 2) := by decide +kernel
theorem dX11_other_157 : decode cX11_other 157 = .ok (.iastore, 1) := by decide +kernel
theorem dX11_other_158 : decode cX11_other 158 = .ok (.iinc 4 1, 3) := by decide +kernel
theorem dX11_other_161 : decode cX11_other 161 = .ok (.goto (-120), 3) := by decide +kernel
theorem dX11_other_164 : decode cX11_other 164 = .ok (.iload_n 1, 1) := by decide +kernel
theorem dX11_other_165 : decode cX11_other 165 = .ok (.ifCond .ne 7, 3) := by decide +kernel
theorem dX11_other_168 : decode cX11_other 168 = .ok (.iload_n 2, 1) := by decide +kernel
theorem dX11_other_169 : decode cX11_other 169 = .ok (.goto 4, 3) := by decide +kernel
theorem dX11_other_172 : decode cX11_other 172 = .ok (.iload_n 3, 1) := by decide +kernel
theorem dX11_other_173 : decode cX11_other 173 = .ok (.ireturn, 1) := by decide +kernel
theorem dX11_luck_0 : decode cX11_luck 0 = .ok (.aload_n 0, 1) := by decide +kernel
theorem dX11_luck_1 : decode cX11_luck 1 = .ok (.iconst 0, 1) := by decide +kernel
theorem dX11_luck_2 : decode cX11_luck 2 = .ok (.putfield 96, 3) := by decide +kernel
theorem dX11_luck_5 : decode cX11_luck 5 = .ok (.aload_n 0, 1) := by decide +kernel
theorem dX11_luck_6 : decode cX11_luck 6 = .ok (.iload_n 1, 1) := by decide +kernel
theorem dX11_luck_7 : decode cX11_luck 7 = .ok (.invokevirtual 347, 3) := by decide +kernel
theorem dX11_luck_10 : decode cX11_luck 10 = .ok (.ifCond .eq 18, 3) := by decide +kernel
theorem dX11_luck_13 : decode cX11_luck 13 = .ok (.aload_n 0, 1) := by decide +kernel
theorem dX11_luck_14 : decode cX11_luck 14 = .ok (.iload_n 2, 1) := by decide +kernel
theorem dX11_luck_15 : decode cX11_luck 15 = .ok (.iconst 0, 1) := by decide +kernel
theorem dX11_luck_16 : decode cX11_luck 16 = .ok (.bipush 10, 2) := by decide +kernel
theorem dX11_luck_18 : decode cX11_luck 18 = .ok (.invokestatic 318, 3) := by decide +kernel
theorem dX11_luck_21 : decode cX11_luck 21 = .ok (.iconst 2, 1) := by decide +kernel
theorem dX11_luck_22 : decode cX11_luck 22 = .ok (.invokevirtual 192, 3) := by decide +kernel
theorem dX11_luck_25 : decode cX11_luck 25 = .ok (.ifCond .ne 5, 3) := by decide +kernel
theorem dX11_luck_28 : decode cX11_luck 28 = .ok (.iconst 0, 1) := by decide +kernel
theorem dX11_luck_29 : decode cX11_luck 29 = .ok (.ireturn, 1) := by decide +kernel
theorem dX11_luck_30 : decode cX11_luck 30 = .ok (.iconst 0, 1) := by decide +kernel
theorem dX11_luck_31 : decode cX11_luck 31 = .ok (.istore_n 3, 1) := by decide +kernel
theorem dX11_luck_32 : decode cX11_luck 32 = .ok (.aload_n 0, 1) := by decide +kernel
theorem dX11_luck_33 : decode cX11_luck 33 = .ok (.getfield 35, 3) := by decide +kernel
theorem dX11_luck_36 : decode cX11_luck 36 = .ok (.iconst 0, 1) := by decide +kernel
theorem dX11_luck_37 : decode cX11_luck 37 = .ok (.iaload, 1) := by decide +kernel
theorem dX11_luck_38 : decode cX11_luck 38 = .ok (.sipush 255, 3) := by decide +kernel
theorem dX11_luck_41 : decode cX11_luck 41 = .ok (.iand, 1) := by decide +kernel
theorem dX11_luck_42 : decode cX11_luck 42 = .ok (.istore 4, 2) := by decide +kernel
theorem dX11_luck_44 : decode cX11_luck 44 = .ok (.iconst 0, 1) := by decide +kernel
theorem dX11_luck_45 : decode cX11_luck 45 = .ok (.istore 5, 2) := by decide +kernel
theorem dX11_luck_47 : decode cX11_luck 47 = .ok (.iload 5, 2) := by decide +kernel
theorem dX11_luck_49 : decode cX11_luck 49 = .ok (.sipush 256, 3) := by decide +kernel
theorem dX11_luck_52 : decode cX11_luck 52 = .ok (.if_icmp .ge 117, 3) := by decide +kernel
theorem dX11_luck_55 : decode cX11_luck 55 = .ok (.iload 5, 2) := by decide +kernel
theorem dX11_luck_57 : decode cX11_luck 57 = .ok (.iload 4, 2) := by decide +kernel
theorem dX11_luck_59 : decode cX11_luck 59 = .ok (.iconst (-1), 1) := by decide +kernel
theorem dX11_luck_60 : decode cX11_luck 60 = .ok (.ixor, 1) := by decide +kernel
theorem dX11_luck_61 : decode cX11_luck 61 = .ok (.iand, 1) := by decide +kernel
theorem dX11_luck_62 : decode cX11_luck 62 = .ok (.ifCond .eq 6, 3) := by decide +kernel
theorem dX11_luck_65 : decode cX11_luck 65 = .ok (.goto 98, 3) := by decide +kernel
theorem dX11_luck_68 : decode cX11_luck 68 = .ok (.iconst 1, 1) := by decide +kernel
theorem dX11_luck_69 : decode cX11_luck 69 = .ok (.istore 6, 2) := by decide +kernel
theorem dX11_luck_71 : decode cX11_luck 71 = .ok (.iconst 0, 1) := by decide +kernel
theorem dX11_luck_72 : decode cX11_luck 72 = .ok (.istore 7, 2) := by decide +kernel
theorem dX11_luck_74 : decode cX11_luck 74 = .ok (.iload 7, 2) := by decide +kernel
theorem dX11_luck_76 : decode cX11_luck 76 = .ok (.bipush 8, 2) := by decide +kernel
theorem dX11_luck_78 : decode cX11_luck 78 = .ok (.if_icmp .ge 44, 3) := by decide +kernel
theorem dX11_luck_81 : decode cX11_luck 81 = .ok (.iload 4, 2) := by decide +kernel
theorem dX11_luck_83 : decode cX11_luck 83 = .ok (.iload 7, 2) := by decide +kernel
theorem dX11_luck_85 : decode cX11_luck 85 = .ok (.ishr, 1) := by decide +kernel
theorem dX11_luck_86 : decode cX11_luck 86 = .ok (.iconst 1, 1) := by decide +kernel
theorem dX11_luck_87 : decode cX11_luck 87 = .ok (.iand, 1) := by decide +kernel
theorem dX11_luck_88 : decode cX11_luck 88 = .ok (.iconst 1, 1) := by decide +kernel
theorem dX11_luck_89 : decode cX11_luck 89 = .ok (.if_icmp .ne 27, 3) := by decide +kernel
theorem dX11_luck_92 : decode cX11_luck 92 = .ok (.iload 6, 2) := by decide +kernel
theorem dX11_luck_94 : decode cX11_luck 94 = .ok (.iload 5, 2) := by decide +kernel
theorem dX11_luck_96 : decode cX11_luck 96 = .ok (.iload 7, 2) := by decide +kernel
theorem dX11_luck_98 : decode cX11_luck 98 = .ok (.ishr, 1) := by decide +kernel
theorem dX11_luck_99 : decode cX11_luck 99 = .ok (.iconst 1, 1) := by decide +kernel
theorem dX11_luck_100 : decode cX11_luck 100 = .ok (.iand, 1) := by decide +kernel
theorem dX11_luck_101 : decode cX11_luck 101 = .ok (.iconst 1, 1) := by decide +kernel
theorem dX11_luck_102 : decode cX11_luck 102 = .ok (.if_icmp .ne 7, 3) := by decide +kernel
theorem dX11_luck_105 : decode cX11_luck 105 = .ok (.iload_n 2, 1) := by decide +kernel
theorem dX11_luck_106 : decode cX11_luck 106 = .ok (.goto 7, 3) := by decide +kernel
theorem dX11_luck_109 : decode cX11_luck 109 = .ok (.bipush 10, 2) := by decide +kernel
theorem dX11_luck_111 : decode cX11_luck 111 = .ok (.iload_n 2, 1) := by decide +kernel
theorem dX11_luck_112 : decode cX11_luck 112 = .ok (.isub, 1) := by decide +kernel
theorem dX11_luck_113 : decode cX11_luck 113 = .ok (.imul, 1) := by decide +kernel
theorem dX11_luck_114 : decode cX11_luck 114 = .ok (.istore 6, 2) := by decide +kernel
theorem dX11_luck_116 : decode cX11_luck 116 = .ok (.iinc 7 1, 3) := by decide +kernel
theorem dX11_luck_119 : decode cX11_luck 119 = .ok (.goto (-45), 3) := by decide +kernel
theorem dX11_luck_122 : decode cX11_luck 122 = .ok (.aload_n 0, 1) := by decide +kernel
theorem dX11_luck_123 : decode cX11_luck 123 = .ok (.invokevirtual 303, 3) := by decide +kernel
theorem dX11_luck_126 : decode cX11_luck 126 = .ok (.aload_n 0, 1) := by decide +kernel
theorem dX11_luck_127 : decode cX11_luck 127 = .ok (.getfield 35, 3) := by decide +kernel
theorem dX11_luck_130 : decode cX11_luck 130 = .ok (.bipush 82, 2) := by decide +kernel
theorem dX11_luck_132 : decode cX11_luck 132 = .ok (.aload_n 0, 1) := by decide +kernel
theorem dX11_luck_133 : decode cX11_luck 133 = .ok (.getfield 35, 3) := by decide +kernel
theorem dX11_luck_136 : decode cX11_luck 136 = .ok (.iconst 0, 1) := by decide +kernel
theorem dX11_luck_137 : decode cX11_luck 137 = .ok (.iaload, 1) := by decide +kernel
theorem dX11_luck_138 : decode cX11_luck 138 = .ok (.iload 5, 2) := by decide +kernel
theorem dX11_luck_140 : decode cX11_luck 140 = .ok (.iconst (-1), 1) := by decide +kernel
theorem dX11_luck_141 : decode cX11_luck 141 = .ok (.ixor, 1) := by decide +kernel
theorem dX11_luck_142 : decode cX11_luck 142 = .ok (.iand, 1) := by decide +kernel
theorem dX11_luck_143 : decode cX11_luck 143 = .ok (.iastore, 1) := by decide +kernel
theorem dX11_luck_144 : decode cX11_luck 144 = .ok (.iload_n 3, 1) := by decide +kernel
theorem dX11_luck_145 : decode cX11_luck 145 = .ok (.aload_n 0, 1) := by decide +kernel
theorem dX11_luck_146 : decode cX11_luck 146 = .ok (.bipush 82, 2) := by decide +kernel
theorem dX11_luck_148 : decode cX11_luck 148 = .ok (.iload_n 1, 1) := by decide +kernel
theorem dX11_luck_149 : decode cX11_luck 149 = .ok (.invokevirtual 344, 3) := by decide +kernel
theorem dX11_luck_152 : decode cX11_luck 152 = .ok (.ifCond .eq 8, 3) := by decide +kernel
theorem dX11_luck_155 : decode cX11_luck 155 = .ok (.iload 6, 2) := by decide +kernel
theorem dX11_luck_157 : decode cX11_luck 157 = .ok (.goto 4, 3) := by decide +kernel
theorem dX11_luck_160 : decode cX11_luck 160 = .ok (.iconst 0, 1) := by decide +kernel
theorem dX11_luck_161 : decode cX11_luck 161 = .ok (.iadd, 1) := by decide +kernel
theorem dX11_luck_162 : decode cX11_luck 162 = .ok (.istore_n 3, 1) := by decide +kernel
theorem dX11_luck_163 : decode cX11_luck 163 = .ok (.iinc 5 1, 3) := by decide +kernel
theorem dX11_luck_166 : decode cX11_luck 166 = .ok (.goto (-119), 3) := by decide +kernel
theorem dX11_luck_169 : decode cX11_luck 169 = .ok (.iload_n 3, 1) := by decide +kernel
theorem dX11_luck_170 : decode cX11_luck 170 = .ok (.ireturn, 1) := by decide +kernel
theorem dX11_draw_0 : decode cX11_draw 0 = .ok (.aload_n 0, 1) := by decide +kernel
theorem dX11_draw_1 : decode cX11_draw 1 = .ok (.aload_n 0, 1) := by decide +kernel
theorem dX11_draw_2 : decode cX11_draw 2 = .ok (.getfield 393, 3) := by decide +kernel
theorem dX11_draw_5 : decode cX11_draw 5 = .ok (.ldc_w 396, 3) := by decide +kernel
theorem dX11_draw_8 : decode cX11_draw 8 = .ok (.imul, 1) := by decide +kernel
theorem dX11_draw_9 : decode cX11_draw 9 = .ok (.sipush 12345, 3) := by decide +kernel
theorem dX11_draw_12 : decode cX11_draw 12 = .ok (.iadd, 1) := by decide +kernel
theorem dX11_draw_13 : decode cX11_draw 13 = .ok (.putfield 393, 3) := by decide +kernel
theorem dX11_draw_16 : decode cX11_draw 16 = .ok (.aload_n 0, 1) := by decide +kernel
theorem dX11_draw_17 : decode cX11_draw 17 = .ok (.getfield 393, 3) := by decide +kernel
theorem dX11_draw_20 : decode cX11_draw 20 = .ok (.bipush 16, 2) := by decide +kernel
theorem dX11_draw_22 : decode cX11_draw 22 = .ok (.ishr, 1) := by decide +kernel
theorem dX11_draw_23 : decode cX11_draw 23 = .ok (.sipush 32767, 3) := by decide +kernel
theorem dX11_draw_26 : decode cX11_draw 26 = .ok (.iand, 1) := by decide +kernel
theorem dX11_draw_27 : decode cX11_draw 27 = .ok (.iload_n 1, 1) := by decide +kernel
theorem dX11_draw_28 : decode cX11_draw 28 = .ok (.irem, 1) := by decide +kernel
theorem dX11_draw_29 : decode cX11_draw 29 = .ok (.ireturn, 1) := by decide +kernel
theorem dX11_happens_0 : decode cX11_happens 0 = .ok (.aload_n 0, 1) := by decide +kernel
theorem dX11_happens_1 : decode cX11_happens 1 = .ok (.iconst 4, 1) := by decide +kernel
theorem dX11_happens_2 : decode cX11_happens 2 = .ok (.invokevirtual 397, 3) := by decide +kernel
theorem dX11_happens_5 : decode cX11_happens 5 = .ok (.istore_n 1, 1) := by decide +kernel
theorem dX11_happens_6 : decode cX11_happens 6 = .ok (.iload_n 1, 1) := by decide +kernel
theorem dX11_happens_7 : decode cX11_happens 7 = .ok (.iconst 3, 1) := by decide +kernel
theorem dX11_happens_8 : decode cX11_happens 8 = .ok (.if_icmp .ge 13, 3) := by decide +kernel
theorem dX11_happens_11 : decode cX11_happens 11 = .ok (.aload_n 0, 1) := by decide +kernel
theorem dX11_happens_12 : decode cX11_happens 12 = .ok (.getfield 202, 3) := by decide +kernel
theorem dX11_happens_15 : decode cX11_happens 15 = .ok (.ifCond .ne 14, 3) := by decide +kernel
theorem dX11_happens_18 : decode cX11_happens 18 = .ok (.goto 10, 3) := by decide +kernel
theorem dX11_happens_21 : decode cX11_happens 21 = .ok (.aload_n 0, 1) := by decide +kernel
theorem dX11_happens_22 : decode cX11_happens 22 = .ok (.getfield 199, 3) := by decide +kernel
theorem dX11_happens_25 : decode cX11_happens 25 = .ok (.ifCond .ne 4, 3) := by decide +kernel
theorem dX11_happens_28 : decode cX11_happens 28 = .ok (.return_, 1) := by decide +kernel
theorem dX11_happens_29 : decode cX11_happens 29 = .ok (.aload_n 0, 1) := by decide +kernel
theorem dX11_happens_30 : decode cX11_happens 30 = .ok (.iload_n 1, 1) := by decide +kernel
theorem dX11_happens_31 : decode cX11_happens 31 = .ok (.iconst 3, 1) := by decide +kernel
theorem dX11_happens_32 : decode cX11_happens 32 = .ok (.if_icmp .ge 10, 3) := by decide +kernel
theorem dX11_happens_35 : decode cX11_happens 35 = .ok (.aload_n 0, 1) := by decide +kernel
theorem dX11_happens_36 : decode cX11_happens 36 = .ok (.getfield 202, 3) := by decide +kernel
theorem dX11_happens_39 : decode cX11_happens 39 = .ok (.goto 7, 3) := by decide +kernel
theorem dX11_happens_42 : decode cX11_happens 42 = .ok (.aload_n 0, 1) := by decide +kernel
theorem dX11_happens_43 : decode cX11_happens 43 = .ok (.getfield 199, 3) := by decide +kernel
theorem dX11_happens_46 : decode cX11_happens 46 = .ok (.invokevirtual 397, 3) := by decide +kernel
theorem dX11_happens_49 : decode cX11_happens 49 = .ok (.istore_n 2, 1) := by decide +kernel
theorem dX11_happens_50 : decode cX11_happens 50 = .ok (.iload_n 1, 1) := by decide +kernel
theorem dX11_happens_51 : decode cX11_happens 51 = .ok (.iconst 2, 1) := by decide +kernel
theorem dX11_happens_52 : decode cX11_happens 52 = .ok (.if_icmp .ge 44, 3) := by decide +kernel
theorem dX11_happens_55 : decode cX11_happens 55 = .ok (.aload_n 0, 1) := by decide +kernel
theorem dX11_happens_56 : decode cX11_happens 56 = .ok (.bipush 82, 2) := by decide +kernel
theorem dX11_happens_58 : decode cX11_happens 58 = .ok (.iload_n 2, 1) := by decide +kernel
theorem dX11_happens_59 : decode cX11_happens 59 = .ok (.invokevirtual 219, 3) := by decide +kernel
theorem dX11_happens_62 : decode cX11_happens 62 = .ok (.ifCond .ne 85, 3) := by decide +kernel
theorem dX11_happens_65 : decode cX11_happens 65 = .ok (.aload_n 0, 1) := by decide +kernel
theorem dX11_happens_66 : decode cX11_happens 66 = .ok (.bipush 82, 2) := by decide +kernel
theorem dX11_happens_68 : decode cX11_happens 68 = .ok (.iload_n 2, 1) := by decide +kernel
theorem dX11_happens_69 : decode cX11_happens 69 = .ok (.aload_n 0, 1) := by decide +kernel
theorem dX11_happens_70 : decode cX11_happens 70 = .ok (.getfield 35, 3) := by decide +kernel
theorem dX11_happens_73 : decode cX11_happens 73 = .ok (.bipush 83, 2) := by decide +kernel
theorem dX11_happens_75 : decode cX11_happens 75 = .ok (.iload_n 2, 1) := by decide +kernel
theorem dX11_happens_76 : decode cX11_happens 76 = .ok (.iadd, 1) := by decide +kernel
theorem dX11_happens_77 : decode cX11_happens 77 = .ok (.iaload, 1) := by decide +kernel
theorem dX11_happens_78 : decode cX11_happens 78 = .ok (.invokevirtual 287, 3) := by decide +kernel
theorem dX11_happens_81 : decode cX11_happens 81 = .ok (.ifCond .eq 66, 3) := by decide +kernel
theorem dX11_happens_84 : decode cX11_happens 84 = .ok (.aload_n 0, 1) := by decide +kernel
theorem dX11_happens_85 : decode cX11_happens 85 = .ok (.bipush 82, 2) := by decide +kernel
theorem dX11_happens_87 : decode cX11_happens 87 = .ok (.iconst 1, 1) := by decide +kernel
theorem dX11_happens_88 : decode cX11_happens 88 = .ok (.iload_n 2, 1) := by decide +kernel
theorem dX11_happens_89 : decode cX11_happens 89 = .ok (.ishl, 1) := by decide +kernel
theorem dX11_happens_90 : decode cX11_happens 90 = .ok (.invokevirtual 300, 3) := by decide +kernel
theorem dX11_happens_93 : decode cX11_happens 93 = .ok (.goto 54, 3) := by decide +kernel
theorem dX11_happens_96 : decode cX11_happens 96 = .ok (.iload_n 1, 1) := by decide +kernel
theorem dX11_happens_97 : decode cX11_happens 97 = .ok (.iconst 2, 1) := by decide +kernel
theorem dX11_happens_98 : decode cX11_happens 98 = .ok (.if_icmp .ne 16, 3) := by decide +kernel
theorem dX11_happens_101 : decode cX11_happens 101 = .ok (.aload_n 0, 1) := by decide +kernel
theorem dX11_happens_102 : decode cX11_happens 102 = .ok (.getfield 35, 3) := by decide +kernel
theorem dX11_happens_105 : decode cX11_happens 105 = .ok (.bipush 92, 2) := by decide +kernel
theorem dX11_happens_107 : decode cX11_happens 107 = .ok (.iload_n 2, 1) := by decide +kernel
theorem dX11_happens_108 : decode cX11_happens 108 = .ok (.iadd, 1) := by decide +kernel
theorem dX11_happens_109 : decode cX11_happens 109 = .ok (.iconst (-1), 1) := by decide +kernel
theorem dX11_happens_110 : decode cX11_happens 110 = .ok (.iastore, 1) := by decide +kernel
theorem dX11_happens_111 : decode cX11_happens 111 = .ok (.goto 36, 3) := by decide +kernel
theorem dX11_happens_114 : decode cX11_happens 114 = .ok (.aload_n 0, 1) := by decide +kernel
theorem dX11_happens_115 : decode cX11_happens 115 = .ok (.bipush 82, 2) := by decide +kernel
theorem dX11_happens_117 : decode cX11_happens 117 = .ok (.iload_n 2, 1) := by decide +kernel
theorem dX11_happens_118 : decode cX11_happens 118 = .ok (.invokevirtual 233, 3) := by decide +kernel
theorem dX11_happens_121 : decode cX11_happens 121 = .ok (.ifCond .eq 13, 3) := by decide +kernel
theorem dX11_happens_124 : decode cX11_happens 124 = .ok (.aload_n 0, 1) := by decide +kernel
theorem dX11_happens_125 : decode cX11_happens 125 = .ok (.bipush 82, 2) := by decide +kernel
theorem dX11_happens_127 : decode cX11_happens 127 = .ok (.iload_n 2, 1) := by decide +kernel
theorem dX11_happens_128 : decode cX11_happens 128 = .ok (.invokevirtual 306, 3) := by decide +kernel
theorem dX11_happens_131 : decode cX11_happens 131 = .ok (.goto 16, 3) := by decide +kernel
theorem dX11_happens_134 : decode cX11_happens 134 = .ok (.aload_n 0, 1) := by decide +kernel
theorem dX11_happens_135 : decode cX11_happens 135 = .ok (.getfield 35, 3) := by decide +kernel
theorem dX11_happens_138 : decode cX11_happens 138 = .ok (.bipush 82, 2) := by decide +kernel
theorem dX11_happens_140 : decode cX11_happens 140 = .ok (.dup2, 1) := by decide +kernel
theorem dX11_happens_141 : decode cX11_happens 141 = .ok (.iaload, 1) := by decide +kernel
theorem dX11_happens_142 : decode cX11_happens 142 = .ok (.iconst 1, 1) := by decide +kernel
theorem dX11_happens_143 : decode cX11_happens 143 = .ok (.iload_n 2, 1) := by decide +kernel
theorem dX11_happens_144 : decode cX11_happens 144 = .ok (.ishl, 1) := by decide +kernel
theorem dX11_happens_145 : decode cX11_happens 145 = .ok (.ior, 1) := by decide +kernel
theorem dX11_happens_146 : decode cX11_happens 146 = .ok (.iastore, 1) := by decide +kernel
theorem dX11_happens_147 : decode cX11_happens 147 = .ok (.return_, 1) := by decide +kernel
theorem dX11_years_0 : decode cX11_years 0 = .ok (.aload_n 0, 1) := by decide +kernel
theorem dX11_years_1 : decode cX11_years 1 = .ok (.iconst 0, 1) := by decide +kernel
theorem dX11_years_2 : decode cX11_years 2 = .ok (.putfield 96, 3) := by decide +kernel
theorem dX11_years_5 : decode cX11_years 5 = .ok (.aload_n 0, 1) := by decide +kernel
theorem dX11_years_6 : decode cX11_years 6 = .ok (.iload_n 3, 1) := by decide +kernel
theorem dX11_years_7 : decode cX11_years 7 = .ok (.iconst 2, 1) := by decide +kernel
theorem dX11_years_8 : decode cX11_years 8 = .ok (.invokevirtual 338, 3) := by decide +kernel
theorem dX11_years_11 : decode cX11_years 11 = .ok (.ifCond .eq 18, 3) := by decide +kernel
theorem dX11_years_14 : decode cX11_years 14 = .ok (.aload_n 0, 1) := by decide +kernel
theorem dX11_years_15 : decode cX11_years 15 = .ok (.iload_n 2, 1) := by decide +kernel
theorem dX11_years_16 : decode cX11_years 16 = .ok (.iconst 0, 1) := by decide +kernel
theorem dX11_years_17 : decode cX11_years 17 = .ok (.bipush 60, 2) := by decide +kernel
theorem dX11_years_19 : decode cX11_years 19 = .ok (.invokestatic 318, 3) := by decide +kernel
theorem dX11_years_22 : decode cX11_years 22 = .ok (.iconst 2, 1) := by decide +kernel
theorem dX11_years_23 : decode cX11_years 23 = .ok (.invokevirtual 192, 3) := by decide +kernel
theorem dX11_years_26 : decode cX11_years 26 = .ok (.ifCond .ne 5, 3) := by decide +kernel
theorem dX11_years_29 : decode cX11_years 29 = .ok (.iconst 0, 1) := by decide +kernel
theorem dX11_years_30 : decode cX11_years 30 = .ok (.ireturn, 1) := by decide +kernel
theorem dX11_years_31 : decode cX11_years 31 = .ok (.aload_n 0, 1) := by decide +kernel
theorem dX11_years_32 : decode cX11_years 32 = .ok (.invokevirtual 303, 3) := by decide +kernel
theorem dX11_years_35 : decode cX11_years 35 = .ok (.aload_n 0, 1) := by decide +kernel
theorem dX11_years_36 : decode cX11_years 36 = .ok (.iload_n 1, 1) := by decide +kernel
theorem dX11_years_37 : decode cX11_years 37 = .ok (.putfield 393, 3) := by decide +kernel
theorem dX11_years_40 : decode cX11_years 40 = .ok (.aload_n 0, 1) := by decide +kernel
theorem dX11_years_41 : decode cX11_years 41 = .ok (.iconst 0, 1) := by decide +kernel
theorem dX11_years_42 : decode cX11_years 42 = .ok (.putfield 297, 3) := by decide +kernel
theorem dX11_years_45 : decode cX11_years 45 = .ok (.iconst 0, 1) := by decide +kernel
theorem dX11_years_46 : decode cX11_years 46 = .ok (.istore 4, 2) := by decide +kernel
theorem dX11_years_48 : decode cX11_years 48 = .ok (.iload 4, 2) := by decide +kernel
theorem dX11_years_50 : decode cX11_years 50 = .ok (.iload_n 2, 1) := by decide +kernel
theorem dX11_years_51 : decode cX11_years 51 = .ok (.if_icmp .ge 13, 3) := by decide +kernel
theorem dX11_years_54 : decode cX11_years 54 = .ok (.aload_n 0, 1) := by decide +kernel
theorem dX11_years_55 : decode cX11_years 55 = .ok (.invokevirtual 400, 3) := by decide +kernel
theorem dX11_years_58 : decode cX11_years 58 = .ok (.iinc 4 1, 3) := by decide +kernel
theorem dX11_years_61 : decode cX11_years 61 = .ok (.goto (-13), 3) := by decide +kernel
