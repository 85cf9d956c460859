theorem dX10_luck_18 : decode cX10_luck 18 = .ok (.dup, 1) := by decide +kernel
theorem dX10_luck_19 : decode cX10_luck 19 = .ok (.ldc_w 399, 3) := by decide +kernel
theorem dX10_luck_22 : decode cX10_luck 22 = .ok (.invokespecial 105, 3) := by decide +kernel
theorem dX10_luck_25 : decode cX10_luck 25 = .ok (.athrow, 1) := by decide +kernel
theorem dX10_luck_26 : decode cX10_luck 26 = .ok (.aload_n 0, 1) := by decide +kernel
theorem dX10_luck_27 : decode cX10_luck 27 = .ok (.getfield 58, 3) := by decide +kernel
theorem dX10_luck_30 : decode cX10_luck 30 = .ok (.iload_n 1, 1) := by decide +kernel
theorem dX10_luck_31 : decode cX10_luck 31 = .ok (.invokevirtual 343, 3) := by decide +kernel
theorem dX10_luck_34 : decode cX10_luck 34 = .ok (.istore_n 3, 1) := by decide +kernel
theorem dX10_luck_35 : decode cX10_luck 35 = .ok (.sipush 256, 3) := by decide +kernel
theorem dX10_luck_38 : decode cX10_luck 38 = .ok (.istore 4, 2) := by decide +kernel
theorem dX10_luck_40 : decode cX10_luck 40 = .ok (.aload_n 0, 1) := by decide +kernel
theorem dX10_luck_41 : decode cX10_luck 41 = .ok (.getfield 46, 3) := by decide +kernel
theorem dX10_luck_44 : decode cX10_luck 44 = .ok (.getfield 145, 3) := by decide +kernel
theorem dX10_luck_47 : decode cX10_luck 47 = .ok (.iload 4, 2) := by decide +kernel
theorem dX10_luck_49 : decode cX10_luck 49 = .ok (.iconst 1, 1) := by decide +kernel
theorem dX10_luck_50 : decode cX10_luck 50 = .ok (.isub, 1) := by decide +kernel
theorem dX10_luck_51 : decode cX10_luck 51 = .ok (.iand, 1) := by decide +kernel
theorem dX10_luck_52 : decode cX10_luck 52 = .ok (.istore 5, 2) := by decide +kernel
theorem dX10_luck_54 : decode cX10_luck 54 = .ok (.iconst 0, 1) := by decide +kernel
theorem dX10_luck_55 : decode cX10_luck 55 = .ok (.istore 6, 2) := by decide +kernel
theorem dX10_luck_57 : decode cX10_luck 57 = .ok (.iconst 0, 1) := by decide +kernel
theorem dX10_luck_58 : decode cX10_luck 58 = .ok (.istore 7, 2) := by decide +kernel
theorem dX10_luck_60 : decode cX10_luck 60 = .ok (.iload 7, 2) := by decide +kernel
theorem dX10_luck_62 : decode cX10_luck 62 = .ok (.iload 4, 2) := by decide +kernel
theorem dX10_luck_64 : decode cX10_luck 64 = .ok (.if_icmp .ge 106, 3) := by decide +kernel
theorem dX10_luck_67 : decode cX10_luck 67 = .ok (.iload 7, 2) := by decide +kernel
theorem dX10_luck_69 : decode cX10_luck 69 = .ok (.iload 5, 2) := by decide +kernel
theorem dX10_luck_71 : decode cX10_luck 71 = .ok (.iconst (-1), 1) := by decide +kernel
theorem dX10_luck_72 : decode cX10_luck 72 = .ok (.ixor, 1) := by decide +kernel
theorem dX10_luck_73 : decode cX10_luck 73 = .ok (.iand, 1) := by decide +kernel
theorem dX10_luck_74 : decode cX10_luck 74 = .ok (.ifCond .eq 6, 3) := by decide +kernel
theorem dX10_luck_77 : decode cX10_luck 77 = .ok (.goto 87, 3) := by decide +kernel
theorem dX10_luck_80 : decode cX10_luck 80 = .ok (.iload_n 2, 1) := by decide +kernel
theorem dX10_luck_81 : decode cX10_luck 81 = .ok (.iload 7, 2) := by decide +kernel
theorem dX10_luck_83 : decode cX10_luck 83 = .ok (.invokestatic 194, 3) := by decide +kernel
theorem dX10_luck_86 : decode cX10_luck 86 = .ok (.invokestatic 401, 3) := by decide +kernel
theorem dX10_luck_89 : decode cX10_luck 89 = .ok (.bipush 10, 2) := by decide +kernel
theorem dX10_luck_91 : decode cX10_luck 91 = .ok (.iload_n 2, 1) := by decide +kernel
theorem dX10_luck_92 : decode cX10_luck 92 = .ok (.isub, 1) := by decide +kernel
theorem dX10_luck_93 : decode cX10_luck 93 = .ok (.iload 5, 2) := by decide +kernel
theorem dX10_luck_95 : decode cX10_luck 95 = .ok (.iload 7, 2) := by decide +kernel
theorem dX10_luck_97 : decode cX10_luck 97 = .ok (.iconst (-1), 1) := by decide +kernel
theorem dX10_luck_98 : decode cX10_luck 98 = .ok (.ixor, 1) := by decide +kernel
theorem dX10_luck_99 : decode cX10_luck 99 = .ok (.iand, 1) := by decide +kernel
theorem dX10_luck_100 : decode cX10_luck 100 = .ok (.invokestatic 194, 3) := by decide +kernel
theorem dX10_luck_103 : decode cX10_luck 103 = .ok (.invokestatic 401, 3) := by decide +kernel
theorem dX10_luck_106 : decode cX10_luck 106 = .ok (.imul, 1) := by decide +kernel
theorem dX10_luck_107 : decode cX10_luck 107 = .ok (.istore 8, 2) := by decide +kernel
theorem dX10_luck_109 : decode cX10_luck 109 = .ok (.iload 8, 2) := by decide +kernel
theorem dX10_luck_111 : decode cX10_luck 111 = .ok (.ifCond .eq 53, 3) := by decide +kernel
theorem dX10_luck_114 : decode cX10_luck 114 = .ok (.aload_n 0, 1) := by decide +kernel
theorem dX10_luck_115 : decode cX10_luck 115 = .ok (.getfield 39, 3) := by decide +kernel
theorem dX10_luck_118 : decode cX10_luck 118 = .ok (.iload_n 3, 1) := by decide +kernel
theorem dX10_luck_119 : decode cX10_luck 119 = .ok (.iload 7, 2) := by decide +kernel
theorem dX10_luck_121 : decode cX10_luck 121 = .ok (.iconst (-1), 1) := by decide +kernel
theorem dX10_luck_122 : decode cX10_luck 122 = .ok (.ixor, 1) := by decide +kernel
theorem dX10_luck_123 : decode cX10_luck 123 = .ok (.iand, 1) := by decide +kernel
theorem dX10_luck_124 : decode cX10_luck 124 = .ok (.aload_n 0, 1) := by decide +kernel
theorem dX10_luck_125 : decode cX10_luck 125 = .ok (.getfield 20, 3) := by decide +kernel
theorem dX10_luck_128 : decode cX10_luck 128 = .ok (.getfield 252, 3) := by decide +kernel
theorem dX10_luck_131 : decode cX10_luck 131 = .ok (.iload_n 1, 1) := by decide +kernel
theorem dX10_luck_132 : decode cX10_luck 132 = .ok (.iaload, 1) := by decide +kernel
theorem dX10_luck_133 : decode cX10_luck 133 = .ok (.aload_n 0, 1) := by decide +kernel
theorem dX10_luck_134 : decode cX10_luck 134 = .ok (.getfield 20, 3) := by decide +kernel
theorem dX10_luck_137 : decode cX10_luck 137 = .ok (.getfield 255, 3) := by decide +kernel
theorem dX10_luck_140 : decode cX10_luck 140 = .ok (.iload_n 1, 1) := by decide +kernel
theorem dX10_luck_141 : decode cX10_luck 141 = .ok (.iaload, 1) := by decide +kernel
theorem dX10_luck_142 : decode cX10_luck 142 = .ok (.aload_n 0, 1) := by decide +kernel
theorem dX10_luck_143 : decode cX10_luck 143 = .ok (.getfield 20, 3) := by decide +kernel
theorem dX10_luck_146 : decode cX10_luck 146 = .ok (.getfield 270, 3) := by decide +kernel
theorem dX10_luck_149 : decode cX10_luck 149 = .ok (.iload_n 1, 1) := by decide +kernel
theorem dX10_luck_150 : decode cX10_luck 150 = .ok (.iaload, 1) := by decide +kernel
theorem dX10_luck_151 : decode cX10_luck 151 = .ok (.invokevirtual 352, 3) := by decide +kernel
theorem dX10_luck_154 : decode cX10_luck 154 = .ok (.ifCond .eq 10, 3) := by decide +kernel
theorem dX10_luck_157 : decode cX10_luck 157 = .ok (.iload 6, 2) := by decide +kernel
theorem dX10_luck_159 : decode cX10_luck 159 = .ok (.iload 8, 2) := by decide +kernel
theorem dX10_luck_161 : decode cX10_luck 161 = .ok (.iadd, 1) := by decide +kernel
theorem dX10_luck_162 : decode cX10_luck 162 = .ok (.istore 6, 2) := by decide +kernel
theorem dX10_luck_164 : decode cX10_luck 164 = .ok (.iinc 7 1, 3) := by decide +kernel
theorem dX10_luck_167 : decode cX10_luck 167 = .ok (.goto (-107), 3) := by decide +kernel
theorem dX10_luck_170 : decode cX10_luck 170 = .ok (.iload 6, 2) := by decide +kernel
theorem dX10_luck_172 : decode cX10_luck 172 = .ok (.ireturn, 1) := by decide +kernel
theorem dX10_power_0 : decode cX10_power 0 = .ok (.iconst 1, 1) := by decide +kernel
theorem dX10_power_1 : decode cX10_power 1 = .ok (.istore_n 2, 1) := by decide +kernel
theorem dX10_power_2 : decode cX10_power 2 = .ok (.iconst 0, 1) := by decide +kernel
theorem dX10_power_3 : decode cX10_power 3 = .ok (.istore_n 3, 1) := by decide +kernel
theorem dX10_power_4 : decode cX10_power 4 = .ok (.iload_n 3, 1) := by decide +kernel
theorem dX10_power_5 : decode cX10_power 5 = .ok (.iload_n 1, 1) := by decide +kernel
theorem dX10_power_6 : decode cX10_power 6 = .ok (.if_icmp .ge 13, 3) := by decide +kernel
theorem dX10_power_9 : decode cX10_power 9 = .ok (.iload_n 2, 1) := by decide +kernel
theorem dX10_power_10 : decode cX10_power 10 = .ok (.iload_n 0, 1) := by decide +kernel
theorem dX10_power_11 : decode cX10_power 11 = .ok (.imul, 1) := by decide +kernel
theorem dX10_power_12 : decode cX10_power 12 = .ok (.istore_n 2, 1) := by decide +kernel
theorem dX10_power_13 : decode cX10_power 13 = .ok (.iinc 3 1, 3) := by decide +kernel
theorem dX10_power_16 : decode cX10_power 16 = .ok (.goto (-12), 3) := by decide +kernel
theorem dX10_power_19 : decode cX10_power 19 = .ok (.iload_n 2, 1) := by decide +kernel
theorem dX10_power_20 : decode cX10_power 20 = .ok (.ireturn, 1) := by decide +kernel
theorem dX10_years_0 : decode cX10_years 0 = .ok (.iload_n 3, 1) := by decide +kernel
theorem dX10_years_1 : decode cX10_years 1 = .ok (.ifCond .lt 8, 3) := by decide +kernel
theorem dX10_years_4 : decode cX10_years 4 = .ok (.iload_n 3, 1) := by decide +kernel
theorem dX10_years_5 : decode cX10_years 5 = .ok (.iconst 2, 1) := by decide +kernel
theorem dX10_years_6 : decode cX10_years 6 = .ok (.if_icmp .le 14, 3) := by decide +kernel
theorem dX10_years_9 : decode cX10_years 9 = .ok (.new 177, 3) := by decide +kernel
theorem dX10_years_12 : decode cX10_years 12 = .ok (.dup, 1) := by decide +kernel
theorem dX10_years_13 : decode cX10_years 13 = .ok (.ldc_w 404, 3) := by decide +kernel
theorem dX10_years_16 : decode cX10_years 16 = .ok (.invokespecial 181, 3) := by decide +kernel
theorem dX10_years_19 : decode cX10_years 19 = .ok (.athrow, 1) := by decide +kernel
theorem dX10_years_20 : decode cX10_years 20 = .ok (.iload_n 2, 1) := by decide +kernel
theorem dX10_years_21 : decode cX10_years 21 = .ok (.ifCond .lt 9, 3) := by decide +kernel
theorem dX10_years_24 : decode cX10_years 24 = .ok (.iload_n 2, 1) := by decide +kernel
theorem dX10_years_25 : decode cX10_years 25 = .ok (.bipush 60, 2) := by decide +kernel
theorem dX10_years_27 : decode cX10_years 27 = .ok (.if_icmp .le 14, 3) := by decide +kernel
theorem dX10_years_30 : decode cX10_years 30 = .ok (.new 101, 3) := by decide +kernel
theorem dX10_years_33 : decode cX10_years 33 = .ok (.dup, 1) := by decide +kernel
theorem dX10_years_34 : decode cX10_years 34 = .ok (.ldc_w 406, 3) := by decide +kernel
theorem dX10_years_37 : decode cX10_years 37 = .ok (.invokespecial 105, 3) := by decide +kernel
theorem dX10_years_40 : decode cX10_years 40 = .ok (.athrow, 1) := by decide +kernel
theorem dX10_years_41 : decode cX10_years 41 = .ok (.aload_n 0, 1) := by decide +kernel
theorem dX10_years_42 : decode cX10_years 42 = .ok (.getfield 50, 3) := by decide +kernel
theorem dX10_years_45 : decode cX10_years 45 = .ok (.aload_n 0, 1) := by decide +kernel
theorem dX10_years_46 : decode cX10_years 46 = .ok (.getfield 46, 3) := by decide +kernel
theorem dX10_years_49 : decode cX10_years 49 = .ok (.invokevirtual 185, 3) := by decide +kernel
theorem dX10_years_52 : decode cX10_years 52 = .ok (.new 408, 3) := by decide +kernel
theorem dX10_years_55 : decode cX10_years 55 = .ok (.dup, 1) := by decide +kernel
theorem dX10_years_56 : decode cX10_years 56 = .ok (.aload_n 0, 1) := by decide +kernel
theorem dX10_years_57 : decode cX10_years 57 = .ok (.getfield 20, 3) := by decide +kernel
theorem dX10_years_60 : decode cX10_years 60 = .ok (.aload_n 0, 1) := by decide +kernel
theorem dX10_years_61 : decode cX10_years 61 = .ok (.getfield 58, 3) := by decide +kernel
theorem dX10_years_64 : decode cX10_years 64 = .ok (.iload_n 1, 1) := by decide +kernel
theorem dX10_years_65 : decode cX10_years 65 = .ok (.invokespecial 410, 3) := by decide +kernel
theorem dX10_years_68 : decode cX10_years 68 = .ok (.astore 4, 2) := by decide +kernel
theorem dX10_years_70 : decode cX10_years 70 = .ok (.iconst 0, 1) := by decide +kernel
theorem dX10_years_71 : decode cX10_years 71 = .ok (.istore 5, 2) := by decide +kernel
theorem dX10_years_73 : decode cX10_years 73 = .ok (.iload 5, 2) := by decide +kernel
theorem dX10_years_75 : decode cX10_years 75 = .ok (.iload_n 2, 1) := by decide +kernel
theorem dX10_years_76 : decode cX10_years 76 = .ok (.if_icmp .ge 14, 3) := by decide +kernel
theorem dX10_years_79 : decode cX10_years 79 = .ok (.aload 4, 2) := by decide +kernel
theorem dX10_years_81 : decode cX10_years 81 = .ok (.invokevirtual 413, 3) := by decide +kernel
theorem dX10_years_84 : decode cX10_years 84 = .ok (.iinc 5 1, 3) := by decide +kernel
theorem dX10_years_87 : decode cX10_years 87 = .ok (.goto (-14), 3) := by decide +kernel
theorem dX10_years_90 : decode cX10_years 90 = .ok (.aload 4, 2) := by decide +kernel
theorem dX10_years_92 : decode cX10_years 92 = .ok (.getfield 416, 3) := by decide +kernel
theorem dX10_years_95 : decode cX10_years 95 = .ok (.istore 5, 2) := by decide +kernel
theorem dX10_years_97 : decode cX10_years 97 = .ok (.iload_n 3, 1) := by decide +kernel
theorem dX10_years_98 : decode cX10_years 98 = .ok (.ifCond .ne 18, 3) := by decide +kernel
theorem dX10_years_101 : decode cX10_years 101 = .ok (.aload_n 0, 1) := by decide +kernel
theorem dX10_years_102 : decode cX10_years 102 = .ok (.getfield 58, 3) := by decide +kernel
theorem dX10_years_105 : decode cX10_years 105 = .ok (.invokevirtual 141, 3) := by decide +kernel
theorem dX10_years_108 : decode cX10_years 108 = .ok (.invokestatic 194, 3) := by decide +kernel
theorem dX10_years_111 : decode cX10_years 111 = .ok (.istore 5, 2) := by decide +kernel
theorem dX10_years_113 : decode cX10_years 113 = .ok (.goto 17, 3) := by decide +kernel
theorem dX10_years_116 : decode cX10_years 116 = .ok (.iload_n 3, 1) := by decide +kernel
theorem dX10_years_117 : decode cX10_years 117 = .ok (.iconst 2, 1) := by decide +kernel
theorem dX10_years_118 : decode cX10_years 118 = .ok (.if_icmp .ne 12, 3) := by decide +kernel
theorem dX10_years_121 : decode cX10_years 121 = .ok (.aload_n 0, 1) := by decide +kernel
theorem dX10_years_122 : decode cX10_years 122 = .ok (.getfield 58, 3) := by decide +kernel
theorem dX10_years_125 : decode cX10_years 125 = .ok (.invokevirtual 148, 3) := by decide +kernel
theorem dX10_years_128 : decode cX10_years 128 = .ok (.istore 5, 2) := by decide +kernel
theorem dX10_years_130 : decode cX10_years 130 = .ok (.aload_n 0, 1) := by decide +kernel
theorem dX10_years_131 : decode cX10_years 131 = .ok (.getfield 46, 3) := by decide +kernel
theorem dX10_years_134 : decode cX10_years 134 = .ok (.aload_n 0, 1) := by decide +kernel
theorem dX10_years_135 : decode cX10_years 135 = .ok (.getfield 50, 3) := by decide +kernel
theorem dX10_years_138 : decode cX10_years 138 = .ok (.invokevirtual 185, 3) := by decide +kernel
theorem dX10_years_141 : decode cX10_years 141 = .ok (.iload 5, 2) := by decide +kernel
theorem dX10_years_143 : decode cX10_years 143 = .ok (.ireturn, 1) := by decide +kernel
theorem dX10_image_0 : decode cX10_image 0 = .ok (.aload_n 0, 1) := by decide +kernel
theorem dX10_image_1 : decode cX10_image 1 = .ok (.getfield 85, 3) := by decide +kernel
theorem dX10_image_4 : decode cX10_image 4 = .ok (.aload_n 0, 1) := by decide +kernel
theorem dX10_image_5 : decode cX10_image 5 = .ok (.getfield 46, 3) := by decide +kernel
theorem dX10_image_8 : decode cX10_image 8 = .ok (.invokevirtual 185, 3) := by decide +kernel
theorem dX10_image_11 : decode cX10_image 11 = .ok (.aload_n 0, 1) := by decide +kernel
theorem dX10_image_12 : decode cX10_image 12 = .ok (.getfield 88, 3) := by decide +kernel
theorem dX10_image_15 : decode cX10_image 15 = .ok (.aload_n 0, 1) := by decide +kernel
theorem dX10_image_16 : decode cX10_image 16 = .ok (.getfield 74, 3) := by decide +kernel
theorem dX10_image_19 : decode cX10_image 19 = .ok (.invokevirtual 419, 3) := by decide +kernel
theorem dX10_image_22 : decode cX10_image 22 = .ok (.aload_n 0, 1) := by decide +kernel
theorem dX10_image_23 : decode cX10_image 23 = .ok (.getfield 91, 3) := by decide +kernel
theorem dX10_image_26 : decode cX10_image 26 = .ok (.aload_n 0, 1) := by decide +kernel
theorem dX10_image_27 : decode cX10_image 27 = .ok (.getfield 81, 3) := by decide +kernel
theorem dX10_image_30 : decode cX10_image 30 = .ok (.invokevirtual 422, 3) := by decide +kernel
theorem dX10_image_33 : decode cX10_image 33 = .ok (.aload_n 0, 1) := by decide +kernel
theorem dX10_image_34 : decode cX10_image 34 = .ok (.iconst 1, 1) := by decide +kernel
theorem dX10_image_35 : decode cX10_image 35 = .ok (.putfield 128, 3) := by decide +kernel
theorem dX10_image_38 : decode cX10_image 38 = .ok (.return_, 1) := by decide +kernel
theorem dX10_restore_0 : decode cX10_restore 0 = .ok (.aload_n 0, 1) := by decide +kernel
theorem dX10_restore_1 : decode cX10_restore 1 = .ok (.getfield 128, 3) := by decide +kernel
theorem dX10_restore_4 : decode cX10_restore 4 = .ok (.ifCond .ne 5, 3) := by decide +kernel
theorem dX10_restore_7 : decode cX10_restore 7 = .ok (.iconst 0, 1) := by decide +kernel
theorem dX10_restore_8 : decode cX10_restore 8 = .ok (.ireturn, 1) := by decide +kernel
theorem dX10_restore_9 : decode cX10_restore 9 = .ok (.aload_n 0, 1) := by decide +kernel
theorem dX10_restore_10 : decode cX10_restore 10 = .ok (.getfield 46, 3) := by decide +kernel
theorem dX10_restore_13 : decode cX10_restore 13 = .ok (.aload_n 0, 1) := by decide +kernel
theorem dX10_restore_14 : decode cX10_restore 14 = .ok (.getfield 85, 3) := by decide +kernel
theorem dX10_restore_17 : decode cX10_restore 17 = .ok (.invokevirtual 185, 3) := by decide +kernel
theorem dX10_restore_20 : decode cX10_restore 20 = .ok (.aload_n 0, 1) := by decide +kernel
theorem dX10_restore_21 : decode cX10_restore 21 = .ok (.getfield 74, 3) := by decide +kernel
theorem dX10_restore_24 : decode cX10_restore 24 = .ok (.aload_n 0, 1) := by decide +kernel
theorem dX10_restore_25 : decode cX10_restore 25 = .ok (.getfield 88, 3) := by decide +kernel
theorem dX10_restore_28 : decode cX10_restore 28 = .ok (.invokevirtual 419, 3) := by decide +kernel
theorem dX10_restore_31 : decode cX10_restore 31 = .ok (.aload_n 0, 1) := by decide +kernel
theorem dX10_restore_32 : decode cX10_restore 32 = .ok (.getfield 81, 3) := by decide +kernel
theorem dX10_restore_35 : decode cX10_restore 35 = .ok (.aload_n 0, 1) := by decide +kernel
theorem dX10_restore_36 : decode cX10_restore 36 = .ok (.getfield 91, 3) := by decide +kernel
theorem dX10_restore_39 : decode cX10_restore 39 = .ok (.invokevirtual 422, 3) := by decide +kernel
theorem dX10_restore_42 : decode cX10_restore 42 = .ok (.iconst 1, 1) := by decide +kernel
theorem dX10_restore_43 : decode cX10_restore 43 = .ok (.ireturn, 1) := by decide +kernel
theorem dX11_init_0 : decode cX11_init 0 = .ok (.aload_n 0, 1) := by decide +kernel
theorem dX11_init_1 : decode cX11_init 1 = .ok (.invokespecial 1, 3) := by decide +kernel
theorem dX11_init_4 : decode cX11_init 4 = .ok (.aload_n 0, 1) := by decide +kernel
theorem dX11_init_5 : decode cX11_init 5 = .ok (.sipush 700, 3) := by decide +kernel
theorem dX11_init_8 : decode cX11_init 8 = .ok (.newarray .int, 2) := by decide +kernel
theorem dX11_init_10 : decode cX11_init 10 = .ok (.putfield 7, 3) := by decide +kernel
theorem dX11_init_13 : decode cX11_init 13 = .ok (.aload_n 0, 1) := by decide +kernel
theorem dX11_init_14 : decode cX11_init 14 = .ok (.iconst (-1), 1) := by decide +kernel
theorem dX11_init_15 : decode cX11_init 15 = .ok (.putfield 13, 3) := by decide +kernel
theorem dX11_init_18 : decode cX11_init 18 = .ok (.aload_n 0, 1) := by decide +kernel
theorem dX11_init_19 : decode cX11_init 19 = .ok (.iconst 3, 1) := by decide +kernel
theorem dX11_init_20 : decode cX11_init 20 = .ok (.newarray .int, 2) := by decide +kernel
theorem dX11_init_22 : decode cX11_init 22 = .ok (.putfield 17, 3) := by decide +kernel
theorem dX11_init_25 : decode cX11_init 25 = .ok (.aload_n 0, 1) := by decide +kernel
theorem dX11_init_26 : decode cX11_init 26 = .ok (.iconst 2, 1) := by decide +kernel
theorem dX11_init_27 : decode cX11_init 27 = .ok (.putfield 20, 3) := by decide +kernel
theorem dX11_init_30 : decode cX11_init 30 = .ok (.aload_n 0, 1) := by decide +kernel
theorem dX11_init_31 : decode cX11_init 31 = .ok (.bipush 80, 2) := by decide +kernel
theorem dX11_init_33 : decode cX11_init 33 = .ok (.newarray .int, 2) := by decide +kernel
theorem dX11_init_35 : decode cX11_init 35 = .ok (.putfield 23, 3) := by decide +kernel
theorem dX11_init_38 : decode cX11_init 38 = .ok (.aload_n 0, 1) := by decide +kernel
theorem dX11_init_39 : decode cX11_init 39 = .ok (.bipush 80, 2) := by decide +kernel
theorem dX11_init_41 : decode cX11_init 41 = .ok (.newarray .int, 2) := by decide +kernel
theorem dX11_init_43 : decode cX11_init 43 = .ok (.putfield 26, 3) := by decide +kernel
theorem dX11_init_46 : decode cX11_init 46 = .ok (.aload_n 0, 1) := by decide +kernel
theorem dX11_init_47 : decode cX11_init 47 = .ok (.bipush 63, 2) := by decide +kernel
theorem dX11_init_49 : decode cX11_init 49 = .ok (.newarray .int, 2) := by decide +kernel
theorem dX11_init_51 : decode cX11_init 51 = .ok (.putfield 29, 3) := by decide +kernel
theorem dX11_init_54 : decode cX11_init 54 = .ok (.aload_n 0, 1) := by decide +kernel
theorem dX11_init_55 : decode cX11_init 55 = .ok (.bipush 63, 2) := by decide +kernel
theorem dX11_init_57 : decode cX11_init 57 = .ok (.newarray .int, 2) := by decide +kernel
theorem dX11_init_59 : decode cX11_init 59 = .ok (.putfield 32, 3) := by decide +kernel
theorem dX11_init_62 : decode cX11_init 62 = .ok (.aload_n 0, 1) := by decide +kernel
theorem dX11_init_63 : decode cX11_init 63 = .ok (.sipush 164, 3) := by decide +kernel
theorem dX11_init_66 : decode cX11_init 66 = .ok (.newarray .int, 2) := by decide +kernel
theorem dX11_init_68 : decode cX11_init 68 = .ok (.putfield 35, 3) := by decide +kernel
theorem dX11_init_71 : decode cX11_init 71 = .ok (.aload_n 0, 1) := by decide +kernel
theorem dX11_init_72 : decode cX11_init 72 = .ok (.sipush 3280, 3) := by decide +kernel
theorem dX11_init_75 : decode cX11_init 75 = .ok (.newarray .int, 2) := by decide +kernel
theorem dX11_init_77 : decode cX11_init 77 = .ok (.putfield 38, 3) := by decide +kernel
theorem dX11_init_80 : decode cX11_init 80 = .ok (.aload_n 0, 1) := by decide +kernel
theorem dX11_init_81 : decode cX11_init 81 = .ok (.bipush 16, 2) := by decide +kernel
theorem dX11_init_83 : decode cX11_init 83 = .ok (.newarray .boolean, 2) := by decide +kernel
theorem dX11_init_85 : decode cX11_init 85 = .ok (.putfield 41, 3) := by decide +kernel
theorem dX11_init_88 : decode cX11_init 88 = .ok (.aload_n 0, 1) := by decide +kernel
theorem dX11_init_89 : decode cX11_init 89 = .ok (.bipush 16, 2) := by decide +kernel
theorem dX11_init_91 : decode cX11_init 91 = .ok (.newarray .int, 2) := by decide +kernel
theorem dX11_init_93 : decode cX11_init 93 = .ok (.putfield 45, 3) := by decide +kernel
theorem dX11_init_96 : decode cX11_init 96 = .ok (.aload_n 0, 1) := by decide +kernel
theorem dX11_init_97 : decode cX11_init 97 = .ok (.bipush 8, 2) := by decide +kernel
theorem dX11_init_99 : decode cX11_init 99 = .ok (.newarray .int, 2) := by decide +kernel
theorem dX11_init_101 : decode cX11_init 101 = .ok (.putfield 48, 3) := by decide +kernel
theorem dX11_init_104 : decode cX11_init 104 = .ok (.aload_n 0, 1) := by decide +kernel
theorem dX11_init_105 : decode cX11_init 105 = .ok (.bipush 7, 2) := by decide +kernel
theorem dX11_init_107 : decode cX11_init 107 = .ok (.newarray .int, 2) := by decide +kernel
theorem dX11_init_109 : decode cX11_init 109 = .ok (.putfield 51, 3) := by decide +kernel
theorem dX11_init_112 : decode cX11_init 112 = .ok (.aload_n 0, 1) := by decide +kernel
theorem dX11_init_113 : decode cX11_init 113 = .ok (.sipush 2048, 3) := by decide +kernel
theorem dX11_init_116 : decode cX11_init 116 = .ok (.newarray .int, 2) := by decide +kernel
theorem dX11_init_118 : decode cX11_init 118 = .ok (.putfield 54, 3) := by decide +kernel
theorem dX11_init_121 : decode cX11_init 121 = .ok (.aload_n 0, 1) := by decide +kernel
theorem dX11_init_122 : decode cX11_init 122 = .ok (.sipush 2048, 3) := by decide +kernel
theorem dX11_init_125 : decode cX11_init 125 = .ok (.newarray .int, 2) := by decide +kernel
theorem dX11_init_127 : decode cX11_init 127 = .ok (.putfield 57, 3) := by decide +kernel
theorem dX11_init_130 : decode cX11_init 130 = .ok (.aload_n 0, 1) := by decide +kernel
theorem dX11_init_131 : decode cX11_init 131 = .ok (.bipush 9, 2) := by decide +kernel
theorem dX11_init_133 : decode cX11_init 133 = .ok (.newarray .int, 2) := by decide +kernel
theorem dX11_init_135 : decode cX11_init 135 = .ok (.putfield 60, 3) := by decide +kernel
theorem dX11_init_138 : decode cX11_init 138 = .ok (.aload_n 0, 1) := by decide +kernel
theorem dX11_init_139 : decode cX11_init 139 = .ok (.bipush 63, 2) := by decide +kernel
theorem dX11_init_141 : decode cX11_init 141 = .ok (.newarray .int, 2) := by decide +kernel
theorem dX11_init_143 : decode cX11_init 143 = .ok (.putfield 63, 3) := by decide +kernel
theorem dX11_init_146 : decode cX11_init 146 = .ok (.aload_n 0, 1) := by decide +kernel
theorem dX11_init_147 : decode cX11_init 147 = .ok (.bipush 9, 2) := by decide +kernel
theorem dX11_init_149 : decode cX11_init 149 = .ok (.newarray .int, 2) := by decide +kernel
theorem dX11_init_151 : decode cX11_init 151 = .ok (.putfield 66, 3) := by decide +kernel
theorem dX11_init_154 : decode cX11_init 154 = .ok (.aload_n 0, 1) := by decide +kernel
theorem dX11_init_155 : decode cX11_init 155 = .ok (.sipush 512, 3) := by decide +kernel
theorem dX11_init_158 : decode cX11_init 158 = .ok (.newarray .boolean, 2) := by decide +kernel
theorem dX11_init_160 : decode cX11_init 160 = .ok (.putfield 69, 3) := by decide +kernel
theorem dX11_init_163 : decode cX11_init 163 = .ok (.aload_n 0, 1) := by decide +kernel
theorem dX11_init_164 : decode cX11_init 164 = .ok (.bipush 16, 2) := by decide +kernel
theorem dX11_init_166 : decode cX11_init 166 = .ok (.newarray .int, 2) := by decide +kernel
theorem dX11_init_168 : decode cX11_init 168 = .ok (.putfield 72, 3) := by decide +kernel
theorem dX11_init_171 : decode cX11_init 171 = .ok (.aload_n 0, 1) := by decide +kernel
theorem dX11_init_172 : decode cX11_init 172 = .ok (.bipush 16, 2) := by decide +kernel
theorem dX11_init_174 : decode cX11_init 174 = .ok (.newarray .int, 2) := by decide +kernel
theorem dX11_init_176 : decode cX11_init 176 = .ok (.putfield 75, 3) := by decide +kernel
theorem dX11_init_179 : decode cX11_init 179 = .ok (.aload_n 0, 1) := by decide +kernel
theorem dX11_init_180 : decode cX11_init 180 = .ok (.bipush 8, 2) := by decide +kernel
theorem dX11_init_182 : decode cX11_init 182 = .ok (.newarray .int, 2) := by decide +kernel
theorem dX11_init_184 : decode cX11_init 184 = .ok (.putfield 78, 3) := by decide +kernel
theorem dX11_init_187 : decode cX11_init 187 = .ok (.aload_n 0, 1) := by decide +kernel
theorem dX11_init_188 : decode cX11_init 188 = .ok (.bipush 8, 2) := by decide +kernel
theorem dX11_init_190 : decode cX11_init 190 = .ok (.newarray .int, 2) := by decide +kernel
theorem dX11_init_192 : decode cX11_init 192 = .ok (.putfield 81, 3) := by decide +kernel
theorem dX11_init_195 : decode cX11_init 195 = .ok (.aload_n 0, 1) := by decide +kernel
theorem dX11_init_196 : decode cX11_init 196 = .ok (.bipush 40, 2) := by decide +kernel
theorem dX11_init_198 : decode cX11_init 198 = .ok (.newarray .int, 2) := by decide +kernel
theorem dX11_init_200 : decode cX11_init 200 = .ok (.putfield 84, 3) := by decide +kernel
theorem dX11_init_203 : decode cX11_init 203 = .ok (.aload_n 0, 1) := by decide +kernel
theorem dX11_init_204 : decode cX11_init 204 = .ok (.bipush 82, 2) := by decide +kernel
theorem dX11_init_206 : decode cX11_init 206 = .ok (.newarray .int, 2) := by decide +kernel
theorem dX11_init_208 : decode cX11_init 208 = .ok (.putfield 87, 3) := by decide +kernel
theorem dX11_init_211 : decode cX11_init 211 = .ok (.aload_n 0, 1) := by decide +kernel
theorem dX11_init_212 : decode cX11_init 212 = .ok (.sipush 3280, 3) := by decide +kernel
theorem dX11_init_215 : decode cX11_init 215 = .ok (.newarray .int, 2) := by decide +kernel
theorem dX11_init_217 : decode cX11_init 217 = .ok (.putfield 90, 3) := by decide +kernel
theorem dX11_init_220 : decode cX11_init 220 = .ok (.aload_n 0, 1) := by decide +kernel
theorem dX11_init_221 : decode cX11_init 221 = .ok (.bipush 40, 2) := by decide +kernel
theorem dX11_init_223 : decode cX11_init 223 = .ok (.newarray .int, 2) := by decide +kernel
theorem dX11_init_225 : decode cX11_init 225 = .ok (.putfield 93, 3) := by decide +kernel
theorem dX11_init_228 : decode cX11_init 228 = .ok (.iconst 0, 1) := by decide +kernel
theorem dX11_init_229 : decode cX11_init 229 = .ok (.istore_n 1, 1) := by decide +kernel
theorem dX11_init_230 : decode cX11_init 230 = .ok (.iload_n 1, 1) := by decide +kernel
theorem dX11_init_231 : decode cX11_init 231 = .ok (.bipush 9, 2) := by decide +kernel
theorem dX11_init_233 : decode cX11_init 233 = .ok (.if_icmp .ge 19, 3) := by decide +kernel
theorem dX11_init_236 : decode cX11_init 236 = .ok (.aload_n 0, 1) := by decide +kernel
theorem dX11_init_237 : decode cX11_init 237 = .ok (.getfield 35, 3) := by decide +kernel
theorem dX11_init_240 : decode cX11_init 240 = .ok (.bipush 10, 2) := by decide +kernel
theorem dX11_init_242 : decode cX11_init 242 = .ok (.iload_n 1, 1) := by decide +kernel
theorem dX11_init_243 : decode cX11_init 243 = .ok (.iadd, 1) := by decide +kernel
theorem dX11_init_244 : decode cX11_init 244 = .ok (.iconst (-1), 1) := by decide +kernel
theorem dX11_init_245 : decode cX11_init 245 = .ok (.iastore, 1) := by decide +kernel
theorem dX11_init_246 : decode cX11_init 246 = .ok (.iinc 1 1, 3) := by decide +kernel
theorem dX11_init_249 : decode cX11_init 249 = .ok (.goto (-19), 3) := by decide +kernel
theorem dX11_init_252 : decode cX11_init 252 = .ok (.return_, 1) := by decide +kernel
theorem dX11_thrown_0 : decode cX11_thrown 0 = .ok (.aload_n 0, 1) := by decide +kernel
theorem dX11_thrown_1 : decode cX11_thrown 1 = .ok (.getfield 96, 3) := by decide +kernel
theorem dX11_thrown_4 : decode cX11_thrown 4 = .ok (.ireturn, 1) := by decide +kernel
theorem dX11_right_0 : decode cX11_right 0 = .ok (.aload_n 0, 1) := by decide +kernel
theorem dX11_right_1 : decode cX11_right 1 = .ok (.getfield 96, 3) := by decide +kernel
theorem dX11_right_4 : decode cX11_right 4 = .ok (.ifCond .ne 12, 3) := by decide +kernel
theorem dX11_right_7 : decode cX11_right 7 = .ok (.iload_n 1, 1) := by decide +kernel
theorem dX11_right_8 : decode cX11_right 8 = .ok (.ifCond .ne 8, 3) := by decide +kernel
theorem dX11_right_11 : decode cX11_right 11 = .ok (.aload_n 0, 1) := by decide +kernel
theorem dX11_right_12 : decode cX11_right 12 = .ok (.iload_n 2, 1) := by decide +kernel
theorem dX11_right_13 : decode cX11_right 13 = .ok (.putfield 96, 3) := by decide +kernel
theorem dX11_right_16 : decode cX11_right 16 = .ok (.aload_n 0, 1) := by decide +kernel
theorem dX11_right_17 : decode cX11_right 17 = .ok (.getfield 96, 3) := by decide +kernel
theorem dX11_right_20 : decode cX11_right 20 = .ok (.ifCond .ne 7, 3) := by decide +kernel
theorem dX11_right_23 : decode cX11_right 23 = .ok (.iconst 1, 1) := by decide +kernel
theorem dX11_right_24 : decode cX11_right 24 = .ok (.goto 4, 3) := by decide +kernel
theorem dX11_right_27 : decode cX11_right 27 = .ok (.iconst 0, 1) := by decide +kernel
theorem dX11_right_28 : decode cX11_right 28 = .ok (.ireturn, 1) := by decide +kernel
theorem dX11_within_0 : decode cX11_within 0 = .ok (.iload_n 0, 1) := by decide +kernel
theorem dX11_within_1 : decode cX11_within 1 = .ok (.iload_n 1, 1) := by decide +kernel
theorem dX11_within_2 : decode cX11_within 2 = .ok (.if_icmp .lt 12, 3) := by decide +kernel
theorem dX11_within_5 : decode cX11_within 5 = .ok (.iload_n 0, 1) := by decide +kernel
theorem dX11_within_6 : decode cX11_within 6 = .ok (.iload_n 2, 1) := by decide +kernel
theorem dX11_within_7 : decode cX11_within 7 = .ok (.if_icmp .gt 7, 3) := by decide +kernel
theorem dX11_within_10 : decode cX11_within 10 = .ok (.iconst 1, 1) := by decide +kernel
theorem dX11_within_11 : decode cX11_within 11 = .ok (.goto 4, 3) := by decide +kernel
theorem dX11_within_14 : decode cX11_within 14 = .ok (.iconst 0, 1) := by decide +kernel
theorem dX11_within_15 : decode cX11_within 15 = .ok (.ireturn, 1) := by decide +kernel
theorem dX11_lesser_0 : decode cX11_lesser 0 = .ok (.iload_n 0, 1) := by decide +kernel
theorem dX11_lesser_1 : decode cX11_lesser 1 = .ok (.iload_n 1, 1) := by decide +kernel
theorem dX11_lesser_2 : decode cX11_lesser 2 = .ok (.if_icmp .ge 7, 3) := by decide +kernel
theorem dX11_lesser_5 : decode cX11_lesser 5 = .ok (.iload_n 0, 1) := by decide +kernel
theorem dX11_lesser_6 : decode cX11_lesser 6 = .ok (.goto 4, 3) := by decide +kernel
theorem dX11_lesser_9 : decode cX11_lesser 9 = .ok (.iload_n 1, 1) := by decide +kernel
theorem dX11_lesser_10 : decode cX11_lesser 10 = .ok (.ireturn, 1) := by decide +kernel
theorem dX11_copies_0 : decode cX11_copies 0 = .ok (.iconst 0, 1) := by decide +kernel
theorem dX11_copies_1 : decode cX11_copies 1 = .ok (.istore_n 3, 1) := by decide +kernel
theorem dX11_copies_2 : decode cX11_copies 2 = .ok (.iload_n 3, 1) := by decide +kernel
theorem dX11_copies_3 : decode cX11_copies 3 = .ok (.aload_n 1, 1) := by decide +kernel
theorem dX11_copies_4 : decode cX11_copies 4 = .ok (.arraylength, 1) := by decide +kernel
theorem dX11_copies_5 : decode cX11_copies 5 = .ok (.if_icmp .ge 15, 3) := by decide +kernel
theorem dX11_copies_8 : decode cX11_copies 8 = .ok (.aload_n 2, 1) := by decide +kernel
theorem dX11_copies_9 : decode cX11_copies 9 = .ok (.iload_n 3, 1) := by decide +kernel
theorem dX11_copies_10 : decode cX11_copies 10 = .ok (.aload_n 1, 1) := by decide +kernel
theorem dX11_copies_11 : decode cX11_copies 11 = .ok (.iload_n 3, 1) := by decide +kernel
theorem dX11_copies_12 : decode cX11_copies 12 = .ok (.iaload, 1) := by decide +kernel
theorem dX11_copies_13 : decode cX11_copies 13 = .ok (.iastore, 1) := by decide +kernel
theorem dX11_copies_14 : decode cX11_copies 14 = .ok (.iinc 3 1, 3) := by decide +kernel
theorem dX11_copies_17 : decode cX11_copies 17 = .ok (.goto (-15), 3) := by decide +kernel
theorem dX11_copies_20 : decode cX11_copies 20 = .ok (.return_, 1) := by decide +kernel
theorem dX11_bits_0 : decode cX11_bits 0 = .ok (.iconst 0, 1) := by decide +kernel
theorem dX11_bits_1 : decode cX11_bits 1 = .ok (.istore_n 1, 1) := by decide +kernel
theorem dX11_bits_2 : decode cX11_bits 2 = .ok (.iconst 0, 1) := by decide +kernel
theorem dX11_bits_3 : decode cX11_bits 3 = .ok (.istore_n 2, 1) := by decide +kernel
theorem dX11_bits_4 : decode cX11_bits 4 = .ok (.iload_n 2, 1) := by decide +kernel
theorem dX11_bits_5 : decode cX11_bits 5 = .ok (.bipush 16, 2) := by decide +kernel
theorem dX11_bits_7 : decode cX11_bits 7 = .ok (.if_icmp .ge 17, 3) := by decide +kernel
theorem dX11_bits_10 : decode cX11_bits 10 = .ok (.iload_n 1, 1) := by decide +kernel
theorem dX11_bits_11 : decode cX11_bits 11 = .ok (.iload_n 0, 1) := by decide +kernel
theorem dX11_bits_12 : decode cX11_bits 12 = .ok (.iload_n 2, 1) := by decide +kernel
theorem dX11_bits_13 : decode cX11_bits 13 = .ok (.ishr, 1) := by decide +kernel
theorem dX11_bits_14 : decode cX11_bits 14 = .ok (.iconst 1, 1) := by decide +kernel
theorem dX11_bits_15 : decode cX11_bits 15 = .ok (.iand, 1) := by decide +kernel
theorem dX11_bits_16 : decode cX11_bits 16 = .ok (.iadd, 1) := by decide +kernel
theorem dX11_bits_17 : decode cX11_bits 17 = .ok (.istore_n 1, 1) := by decide +kernel
theorem dX11_bits_18 : decode cX11_bits 18 = .ok (.iinc 2 1, 3) := by decide +kernel
theorem dX11_bits_21 : decode cX11_bits 21 = .ok (.goto (-17), 3) := by decide +kernel
theorem dX11_bits_24 : decode cX11_bits 24 = .ok (.iload_n 1, 1) := by decide +kernel
theorem dX11_bits_25 : decode cX11_bits 25 = .ok (.ireturn, 1) := by decide +kernel
theorem dX11_feed_0 : decode cX11_feed 0 = .ok (.aload_n 0, 1) := by decide +kernel
theorem dX11_feed_1 : decode cX11_feed 1 = .ok (.iconst 0, 1) := by decide +kernel
theorem dX11_feed_2 : decode cX11_feed 2 = .ok (.putfield 96, 3) := by decide +kernel
theorem dX11_feed_5 : decode cX11_feed 5 = .ok (.aload_n 0, 1) := by decide +kernel
theorem dX11_feed_6 : decode cX11_feed 6 = .ok (.getfield 99, 3) := by decide +kernel
theorem dX11_feed_9 : decode cX11_feed 9 = .ok (.bipush 20, 2) := by decide +kernel
theorem dX11_feed_11 : decode cX11_feed 11 = .ok (.iadd, 1) := by decide +kernel
theorem dX11_feed_12 : decode cX11_feed 12 = .ok (.sipush 700, 3) := by decide +kernel
theorem dX11_feed_15 : decode cX11_feed 15 = .ok (.if_icmp .le 5, 3) := by decide +kernel
theorem dX11_feed_18 : decode cX11_feed 18 = .ok (.iconst (-1), 1) := by decide +kernel
theorem dX11_feed_19 : decode cX11_feed 19 = .ok (.ireturn, 1) := by decide +kernel
theorem dX11_feed_20 : decode cX11_feed 20 = .ok (.aload_n 0, 1) := by decide +kernel
theorem dX11_feed_21 : decode cX11_feed 21 = .ok (.iload_n 1, 1) := by decide +kernel
theorem dX11_feed_22 : decode cX11_feed 22 = .ok (.invokevirtual 102, 3) := by decide +kernel
theorem dX11_feed_25 : decode cX11_feed 25 = .ok (.aload_n 0, 1) := by decide +kernel
theorem dX11_feed_26 : decode cX11_feed 26 = .ok (.iload_n 2, 1) := by decide +kernel
theorem dX11_feed_27 : decode cX11_feed 27 = .ok (.invokevirtual 102, 3) := by decide +kernel
theorem dX11_feed_30 : decode cX11_feed 30 = .ok (.aload_n 0, 1) := by decide +kernel
theorem dX11_feed_31 : decode cX11_feed 31 = .ok (.iload_n 3, 1) := by decide +kernel
theorem dX11_feed_32 : decode cX11_feed 32 = .ok (.invokevirtual 102, 3) := by decide +kernel
theorem dX11_feed_35 : decode cX11_feed 35 = .ok (.aload_n 0, 1) := by decide +kernel
theorem dX11_feed_36 : decode cX11_feed 36 = .ok (.iload 4, 2) := by decide +kernel
theorem dX11_feed_38 : decode cX11_feed 38 = .ok (.invokevirtual 102, 3) := by decide +kernel
theorem dX11_feed_41 : decode cX11_feed 41 = .ok (.aload_n 0, 1) := by decide +kernel
theorem dX11_feed_42 : decode cX11_feed 42 = .ok (.iload 5, 2) := by decide +kernel
theorem dX11_feed_44 : decode cX11_feed 44 = .ok (.invokevirtual 102, 3) := by decide +kernel
theorem dX11_feed_47 : decode cX11_feed 47 = .ok (.aload_n 0, 1) := by decide +kernel
theorem dX11_feed_48 : decode cX11_feed 48 = .ok (.getfield 99, 3) := by decide +kernel
theorem dX11_feed_51 : decode cX11_feed 51 = .ok (.ireturn, 1) := by decide +kernel
theorem dX11_lays_0 : decode cX11_lays 0 = .ok (.bipush 24, 2) := by decide +kernel
theorem dX11_lays_2 : decode cX11_lays 2 = .ok (.istore_n 2, 1) := by decide +kernel
theorem dX11_lays_3 : decode cX11_lays 3 = .ok (.iload_n 2, 1) := by decide +kernel
theorem dX11_lays_4 : decode cX11_lays 4 = .ok (.ifCond .lt 35, 3) := by decide +kernel
theorem dX11_lays_7 : decode cX11_lays 7 = .ok (.aload_n 0, 1) := by decide +kernel
theorem dX11_lays_8 : decode cX11_lays 8 = .ok (.getfield 7, 3) := by decide +kernel
theorem dX11_lays_11 : decode cX11_lays 11 = .ok (.aload_n 0, 1) := by decide +kernel
theorem dX11_lays_12 : decode cX11_lays 12 = .ok (.getfield 99, 3) := by decide +kernel
theorem dX11_lays_15 : decode cX11_lays 15 = .ok (.iload_n 1, 1) := by decide +kernel
theorem dX11_lays_16 : decode cX11_lays 16 = .ok (.iload_n 2, 1) := by decide +kernel
theorem dX11_lays_17 : decode cX11_lays 17 = .ok (.ishr, 1) := by decide +kernel
theorem dX11_lays_18 : decode cX11_lays 18 = .ok (.sipush 255, 3) := by decide +kernel
theorem dX11_lays_21 : decode cX11_lays 21 = .ok (.iand, 1) := by decide +kernel
theorem dX11_lays_22 : decode cX11_lays 22 = .ok (.iastore, 1) := by decide +kernel
theorem dX11_lays_23 : decode cX11_lays 23 = .ok (.aload_n 0, 1) := by decide +kernel
theorem dX11_lays_24 : decode cX11_lays 24 = .ok (.dup, 1) := by decide +kernel
theorem dX11_lays_25 : decode cX11_lays 25 = .ok (.getfield 99, 3) := by decide +kernel
theorem dX11_lays_28 : decode cX11_lays 28 = .ok (.iconst 1, 1) := by decide +kernel
theorem dX11_lays_29 : decode cX11_lays 29 = .ok (.iadd, 1) := by decide +kernel
theorem dX11_lays_30 : decode cX11_lays 30 = .ok (.putfield 99, 3) := by decide +kernel
theorem dX11_lays_33 : decode cX11_lays 33 = .ok (.iinc 2 (-8), 3) := by decide +kernel
theorem dX11_lays_36 : decode cX11_lays 36 = .ok (.goto (-33), 3) := by decide +kernel
theorem dX11_lays_39 : decode cX11_lays 39 = .ok (.return_, 1) := by decide +kernel
theorem dX11_byteAt_0 : decode cX11_byteAt 0 = .ok (.iload_n 1, 1) := by decide +kernel
theorem dX11_byteAt_1 : decode cX11_byteAt 1 = .ok (.aload_n 0, 1) := by decide +kernel
theorem dX11_byteAt_2 : decode cX11_byteAt 2 = .ok (.getfield 106, 3) := by decide +kernel
theorem dX11_byteAt_5 : decode cX11_byteAt 5 = .ok (.if_icmp .ge 12, 3) := by decide +kernel
theorem dX11_byteAt_8 : decode cX11_byteAt 8 = .ok (.aload_n 0, 1) := by decide +kernel
theorem dX11_byteAt_9 : decode cX11_byteAt 9 = .ok (.getfield 7, 3) := by decide +kernel
theorem dX11_byteAt_12 : decode cX11_byteAt 12 = .ok (.iload_n 1, 1) := by decide +kernel
theorem dX11_byteAt_13 : decode cX11_byteAt 13 = .ok (.iaload, 1) := by decide +kernel
theorem dX11_byteAt_14 : decode cX11_byteAt 14 = .ok (.goto 4, 3) := by decide +kernel
theorem dX11_byteAt_17 : decode cX11_byteAt 17 = .ok (.iconst 0, 1) := by decide +kernel
theorem dX11_byteAt_18 : decode cX11_byteAt 18 = .ok (.ireturn, 1) := by decide +kernel
theorem dX11_isLetter_0 : decode cX11_isLetter 0 = .ok (.iload_n 0, 1) := by decide +kernel
theorem dX11_isLetter_1 : decode cX11_isLetter 1 = .ok (.bipush 97, 2) := by decide +kernel
theorem dX11_isLetter_3 : decode cX11_isLetter 3 = .ok (.if_icmp .lt 13, 3) := by decide +kernel
theorem dX11_isLetter_6 : decode cX11_isLetter 6 = .ok (.iload_n 0, 1) := by decide +kernel
theorem dX11_isLetter_7 : decode cX11_isLetter 7 = .ok (.bipush 122, 2) := by decide +kernel
theorem dX11_isLetter_9 : decode cX11_isLetter 9 = .ok (.if_icmp .gt 7, 3) := by decide +kernel
theorem dX11_isLetter_12 : decode cX11_isLetter 12 = .ok (.iconst 1, 1) := by decide +kernel
theorem dX11_isLetter_13 : decode cX11_isLetter 13 = .ok (.goto 4, 3) := by decide +kernel
theorem dX11_isLetter_16 : decode cX11_isLetter 16 = .ok (.iconst 0, 1) := by decide +kernel
theorem dX11_isLetter_17 : decode cX11_isLetter 17 = .ok (.ireturn, 1) := by decide +kernel
theorem dX11_isDigit_0 : decode cX11_isDigit 0 = .ok (.iload_n 0, 1) := by decide +kernel
theorem dX11_isDigit_1 : decode cX11_isDigit 1 = .ok (.bipush 48, 2) := by decide +kernel
theorem dX11_isDigit_3 : decode cX11_isDigit 3 = .ok (.if_icmp .lt 13, 3) := by decide +kernel
theorem dX11_isDigit_6 : decode cX11_isDigit 6 = .ok (.iload_n 0, 1) := by decide +kernel
theorem dX11_isDigit_7 : decode cX11_isDigit 7 = .ok (.bipush 57, 2) := by decide +kernel
theorem dX11_isDigit_9 : decode cX11_isDigit 9 = .ok (.if_icmp .gt 7, 3) := by decide +kernel
theorem dX11_isDigit_12 : decode cX11_isDigit 12 = .ok (.iconst 1, 1) := by decide +kernel
theorem dX11_isDigit_13 : decode cX11_isDigit 13 = .ok (.goto 4, 3) := by decide +kernel
theorem dX11_isDigit_16 : decode cX11_isDigit 16 = .ok (.iconst 0, 1) := by decide +kernel
theorem dX11_isDigit_17 : decode cX11_isDigit 17 = .ok (.ireturn, 1) := by decide +kernel
theorem dX11_goes_0 : decode cX11_goes 0 = .ok (.aload_n 0, 1) := by decide +kernel
theorem dX11_goes_1 : decode cX11_goes 1 = .ok (.getfield 109, 3) := by decide +kernel
theorem dX11_goes_4 : decode cX11_goes 4 = .ok (.aload_n 0, 1) := by decide +kernel
theorem dX11_goes_5 : decode cX11_goes 5 = .ok (.getfield 106, 3) := by decide +kernel
theorem dX11_goes_8 : decode cX11_goes 8 = .ok (.if_icmp .ge 42, 3) := by decide +kernel
theorem dX11_goes_11 : decode cX11_goes 11 = .ok (.aload_n 0, 1) := by decide +kernel
theorem dX11_goes_12 : decode cX11_goes 12 = .ok (.aload_n 0, 1) := by decide +kernel
theorem dX11_goes_13 : decode cX11_goes 13 = .ok (.getfield 109, 3) := by decide +kernel
theorem dX11_goes_16 : decode cX11_goes 16 = .ok (.invokevirtual 112, 3) := by decide +kernel
theorem dX11_goes_19 : decode cX11_goes 19 = .ok (.bipush 32, 2) := by decide +kernel
theorem dX11_goes_21 : decode cX11_goes 21 = .ok (.if_icmp .eq 16, 3) := by decide +kernel
theorem dX11_goes_24 : decode cX11_goes 24 = .ok (.aload_n 0, 1) := by decide +kernel
theorem dX11_goes_25 : decode cX11_goes 25 = .ok (.aload_n 0, 1) := by decide +kernel
theorem dX11_goes_26 : decode cX11_goes 26 = .ok (.getfield 109, 3) := by decide +kernel
theorem dX11_goes_29 : decode cX11_goes 29 = .ok (.invokevirtual 112, 3) := by decide +kernel
theorem dX11_goes_32 : decode cX11_goes 32 = .ok (.bipush 10, 2) := by decide +kernel
theorem dX11_goes_34 : decode cX11_goes 34 = .ok (.if_icmp .ne 16, 3) := by decide +kernel
theorem dX11_goes_37 : decode cX11_goes 37 = .ok (.aload_n 0, 1) := by decide +kernel
theorem dX11_goes_38 : decode cX11_goes 38 = .ok (.dup, 1) := by decide +kernel
theorem dX11_goes_39 : decode cX11_goes 39 = .ok (.getfield 109, 3) := by decide +kernel
theorem dX11_goes_42 : decode cX11_goes 42 = .ok (.iconst 1, 1) := by decide +kernel
theorem dX11_goes_43 : decode cX11_goes 43 = .ok (.iadd, 1) := by decide +kernel
theorem dX11_goes_44 : decode cX11_goes 44 = .ok (.putfield 109, 3) := by decide +kernel
theorem dX11_goes_47 : decode cX11_goes 47 = .ok (.goto (-47), 3) := by decide +kernel
theorem dX11_goes_50 : decode cX11_goes 50 = .ok (.aload_n 0, 1) := by decide +kernel
theorem dX11_goes_51 : decode cX11_goes 51 = .ok (.aload_n 0, 1) := by decide +kernel
theorem dX11_goes_52 : decode cX11_goes 52 = .ok (.getfield 109, 3) := by decide +kernel
theorem dX11_goes_55 : decode cX11_goes 55 = .ok (.putfield 116, 3) := by decide +kernel
theorem dX11_goes_58 : decode cX11_goes 58 = .ok (.aload_n 0, 1) := by decide +kernel
theorem dX11_goes_59 : decode cX11_goes 59 = .ok (.lconst 0, 1) := by decide +kernel
theorem dX11_goes_60 : decode cX11_goes 60 = .ok (.putfield 119, 3) := by decide +kernel
theorem dX11_goes_63 : decode cX11_goes 63 = .ok (.aload_n 0, 1) := by decide +kernel
theorem dX11_goes_64 : decode cX11_goes 64 = .ok (.iconst 0, 1) := by decide +kernel
theorem dX11_goes_65 : decode cX11_goes 65 = .ok (.putfield 123, 3) := by decide +kernel
theorem dX11_goes_68 : decode cX11_goes 68 = .ok (.aload_n 0, 1) := by decide +kernel
theorem dX11_goes_69 : decode cX11_goes 69 = .ok (.aload_n 0, 1) := by decide +kernel
theorem dX11_goes_70 : decode cX11_goes 70 = .ok (.getfield 109, 3) := by decide +kernel
theorem dX11_goes_73 : decode cX11_goes 73 = .ok (.invokevirtual 112, 3) := by decide +kernel
theorem dX11_goes_76 : decode cX11_goes 76 = .ok (.istore_n 1, 1) := by decide +kernel
theorem dX11_goes_77 : decode cX11_goes 77 = .ok (.aload_n 0, 1) := by decide +kernel
theorem dX11_goes_78 : decode cX11_goes 78 = .ok (.getfield 109, 3) := by decide +kernel
theorem dX11_goes_81 : decode cX11_goes 81 = .ok (.aload_n 0, 1) := by decide +kernel
theorem dX11_goes_82 : decode cX11_goes 82 = .ok (.getfield 106, 3) := by decide +kernel
theorem dX11_goes_85 : decode cX11_goes 85 = .ok (.if_icmp .lt 11, 3) := by decide +kernel
theorem dX11_goes_88 : decode cX11_goes 88 = .ok (.aload_n 0, 1) := by decide +kernel
theorem dX11_goes_89 : decode cX11_goes 89 = .ok (.iconst 0, 1) := by decide +kernel
theorem dX11_goes_90 : decode cX11_goes 90 = .ok (.putfield 126, 3) := by decide +kernel
theorem dX11_goes_93 : decode cX11_goes 93 = .ok (.goto 185, 3) := by decide +kernel
theorem dX11_goes_96 : decode cX11_goes 96 = .ok (.iload_n 1, 1) := by decide +kernel
theorem dX11_goes_97 : decode cX11_goes 97 = .ok (.invokestatic 129, 3) := by decide +kernel
theorem dX11_goes_100 : decode cX11_goes 100 = .ok (.ifCond .eq 75, 3) := by decide +kernel
theorem dX11_goes_103 : decode cX11_goes 103 = .ok (.aload_n 0, 1) := by decide +kernel
theorem dX11_goes_104 : decode cX11_goes 104 = .ok (.aload_n 0, 1) := by decide +kernel
theorem dX11_goes_105 : decode cX11_goes 105 = .ok (.getfield 109, 3) := by decide +kernel
theorem dX11_goes_108 : decode cX11_goes 108 = .ok (.invokevirtual 112, 3) := by decide +kernel
theorem dX11_goes_111 : decode cX11_goes 111 = .ok (.invokestatic 129, 3) := by decide +kernel
theorem dX11_goes_114 : decode cX11_goes 114 = .ok (.ifCond .eq 53, 3) := by decide +kernel
theorem dX11_goes_117 : decode cX11_goes 117 = .ok (.aload_n 0, 1) := by decide +kernel
theorem dX11_goes_118 : decode cX11_goes 118 = .ok (.getfield 109, 3) := by decide +kernel
theorem dX11_goes_121 : decode cX11_goes 121 = .ok (.aload_n 0, 1) := by decide +kernel
theorem dX11_goes_122 : decode cX11_goes 122 = .ok (.getfield 116, 3) := by decide +kernel
theorem dX11_goes_125 : decode cX11_goes 125 = .ok (.isub, 1) := by decide +kernel
theorem dX11_goes_126 : decode cX11_goes 126 = .ok (.bipush 6, 2) := by decide +kernel
theorem dX11_goes_128 : decode cX11_goes 128 = .ok (.if_icmp .ge 26, 3) := by decide +kernel
theorem dX11_goes_131 : decode cX11_goes 131 = .ok (.aload_n 0, 1) := by decide +kernel
theorem dX11_goes_132 : decode cX11_goes 132 = .ok (.aload_n 0, 1) := by decide +kernel
theorem dX11_goes_133 : decode cX11_goes 133 = .ok (.getfield 119, 3) := by decide +kernel
theorem dX11_goes_136 : decode cX11_goes 136 = .ok (.iconst 5, 1) := by decide +kernel
theorem dX11_goes_137 : decode cX11_goes 137 = .ok (.lshl, 1) := by decide +kernel
theorem dX11_goes_138 : decode cX11_goes 138 = .ok (.aload_n 0, 1) := by decide +kernel
theorem dX11_goes_139 : decode cX11_goes 139 = .ok (.aload_n 0, 1) := by decide +kernel
theorem dX11_goes_140 : decode cX11_goes 140 = .ok (.getfield 109, 3) := by decide +kernel
theorem dX11_goes_143 : decode cX11_goes 143 = .ok (.invokevirtual 112, 3) := by decide +kernel
theorem dX11_goes_146 : decode cX11_goes 146 = .ok (.bipush 96, 2) := by decide +kernel
theorem dX11_goes_148 : decode cX11_goes 148 = .ok (.isub, 1) := by decide +kernel
theorem dX11_goes_149 : decode cX11_goes 149 = .ok (.i2l, 1) := by decide +kernel
theorem dX11_goes_150 : decode cX11_goes 150 = .ok (.lor, 1) := by decide +kernel
theorem dX11_goes_151 : decode cX11_goes 151 = .ok (.putfield 119, 3) := by decide +kernel
theorem dX11_goes_154 : decode cX11_goes 154 = .ok (.aload_n 0, 1) := by decide +kernel
theorem dX11_goes_155 : decode cX11_goes 155 = .ok (.dup, 1) := by decide +kernel
theorem dX11_goes_156 : decode cX11_goes 156 = .ok (.getfield 109, 3) := by decide +kernel
theorem dX11_goes_159 : decode cX11_goes 159 = .ok (.iconst 1, 1) := by decide +kernel
theorem dX11_goes_160 : decode cX11_goes 160 = .ok (.iadd, 1) := by decide +kernel
theorem dX11_goes_161 : decode cX11_goes 161 = .ok (.putfield 109, 3) := by decide +kernel
theorem dX11_goes_164 : decode cX11_goes 164 = .ok (.goto (-61), 3) := by decide +kernel
theorem dX11_goes_167 : decode cX11_goes 167 = .ok (.aload_n 0, 1) := by decide +kernel
theorem dX11_goes_168 : decode cX11_goes 168 = .ok (.iconst 1, 1) := by decide +kernel
theorem dX11_goes_169 : decode cX11_goes 169 = .ok (.putfield 126, 3) := by decide +kernel
theorem dX11_goes_172 : decode cX11_goes 172 = .ok (.goto 106, 3) := by decide +kernel
theorem dX11_goes_175 : decode cX11_goes 175 = .ok (.iload_n 1, 1) := by decide +kernel
theorem dX11_goes_176 : decode cX11_goes 176 = .ok (.invokestatic 133, 3) := by decide +kernel
theorem dX11_goes_179 : decode cX11_goes 179 = .ok (.ifCond .eq 74, 3) := by decide +kernel
theorem dX11_goes_182 : decode cX11_goes 182 = .ok (.aload_n 0, 1) := by decide +kernel
theorem dX11_goes_183 : decode cX11_goes 183 = .ok (.aload_n 0, 1) := by decide +kernel
theorem dX11_goes_184 : decode cX11_goes 184 = .ok (.getfield 109, 3) := by decide +kernel
theorem dX11_goes_187 : decode cX11_goes 187 = .ok (.invokevirtual 112, 3) := by decide +kernel
theorem dX11_goes_190 : decode cX11_goes 190 = .ok (.invokestatic 133, 3) := by decide +kernel
theorem dX11_goes_193 : decode cX11_goes 193 = .ok (.ifCond .eq 52, 3) := by decide +kernel
theorem dX11_goes_196 : decode cX11_goes 196 = .ok (.aload_n 0, 1) := by decide +kernel
theorem dX11_goes_197 : decode cX11_goes 197 = .ok (.getfield 109, 3) := by decide +kernel
theorem dX11_goes_200 : decode cX11_goes 200 = .ok (.aload_n 0, 1) := by decide +kernel
theorem dX11_goes_201 : decode cX11_goes 201 = .ok (.getfield 116, 3) := by decide +kernel
theorem dX11_goes_204 : decode cX11_goes 204 = .ok (.isub, 1) := by decide +kernel
theorem dX11_goes_205 : decode cX11_goes 205 = .ok (.iconst 4, 1) := by decide +kernel
theorem dX11_goes_206 : decode cX11_goes 206 = .ok (.if_icmp .ge 26, 3) := by decide +kernel
theorem dX11_goes_209 : decode cX11_goes 209 = .ok (.aload_n 0, 1) := by decide +kernel
theorem dX11_goes_210 : decode cX11_goes 210 = .ok (.bipush 10, 2) := by decide +kernel
theorem dX11_goes_212 : decode cX11_goes 212 = .ok (.aload_n 0, 1) := by decide +kernel
theorem dX11_goes_213 : decode cX11_goes 213 = .ok (.getfield 123, 3) := by decide +kernel
theorem dX11_goes_216 : decode cX11_goes 216 = .ok (.imul, 1) := by decide +kernel
theorem dX11_goes_217 : decode cX11_goes 217 = .ok (.aload_n 0, 1) := by decide +kernel
theorem dX11_goes_218 : decode cX11_goes 218 = .ok (.aload_n 0, 1) := by decide +kernel
theorem dX11_goes_219 : decode cX11_goes 219 = .ok (.getfield 109, 3) := by decide +kernel
theorem dX11_goes_222 : decode cX11_goes 222 = .ok (.invokevirtual 112, 3) := by decide +kernel
theorem dX11_goes_225 : decode cX11_goes 225 = .ok (.iadd, 1) := by decide +kernel
theorem dX11_goes_226 : decode cX11_goes 226 = .ok (.bipush 48, 2) := by decide +kernel
theorem dX11_goes_228 : decode cX11_goes 228 = .ok (.isub, 1) := by decide +kernel
theorem dX11_goes_229 : decode cX11_goes 229 = .ok (.putfield 123, 3) := by decide +kernel
theorem dX11_goes_232 : decode cX11_goes 232 = .ok (.aload_n 0, 1) := by decide +kernel
theorem dX11_goes_233 : decode cX11_goes 233 = .ok (.dup, 1) := by decide +kernel
theorem dX11_goes_234 : decode cX11_goes 234 = .ok (.getfield 109, 3) := by decide +kernel
theorem dX11_goes_237 : decode cX11_goes 237 = .ok (.iconst 1, 1) := by decide +kernel
theorem dX11_goes_238 : decode cX11_goes 238 = .ok (.iadd, 1) := by decide +kernel
theorem dX11_goes_239 : decode cX11_goes 239 = .ok (.putfield 109, 3) := by decide +kernel
theorem dX11_goes_242 : decode cX11_goes 242 = .ok (.goto (-60), 3) := by decide +kernel
theorem dX11_goes_245 : decode cX11_goes 245 = .ok (.aload_n 0, 1) := by decide +kernel
theorem dX11_goes_246 : decode cX11_goes 246 = .ok (.iconst 2, 1) := by decide +kernel
theorem dX11_goes_247 : decode cX11_goes 247 = .ok (.putfield 126, 3) := by decide +kernel
theorem dX11_goes_250 : decode cX11_goes 250 = .ok (.goto 28, 3) := by decide +kernel
theorem dX11_goes_253 : decode cX11_goes 253 = .ok (.aload_n 0, 1) := by decide +kernel
theorem dX11_goes_254 : decode cX11_goes 254 = .ok (.dup, 1) := by decide +kernel
theorem dX11_goes_255 : decode cX11_goes 255 = .ok (.getfield 109, 3) := by decide +kernel
theorem dX11_goes_258 : decode cX11_goes 258 = .ok (.iconst 1, 1) := by decide +kernel
theorem dX11_goes_259 : decode cX11_goes 259 = .ok (.iadd, 1) := by decide +kernel
theorem dX11_goes_260 : decode cX11_goes 260 = .ok (.putfield 109, 3) := by decide +kernel
theorem dX11_goes_263 : decode cX11_goes 263 = .ok (.aload_n 0, 1) := by decide +kernel
theorem dX11_goes_264 : decode cX11_goes 264 = .ok (.iload_n 1, 1) := by decide +kernel
theorem dX11_goes_265 : decode cX11_goes 265 = .ok (.bipush 59, 2) := by decide +kernel
theorem dX11_goes_267 : decode cX11_goes 267 = .ok (.if_icmp .ne 7, 3) := by decide +kernel
theorem dX11_goes_270 : decode cX11_goes 270 = .ok (.iconst 3, 1) := by decide +kernel
theorem dX11_goes_271 : decode cX11_goes 271 = .ok (.goto 4, 3) := by decide +kernel
theorem dX11_goes_274 : decode cX11_goes 274 = .ok (.iconst 4, 1) := by decide +kernel
theorem dX11_goes_275 : decode cX11_goes 275 = .ok (.putfield 126, 3) := by decide +kernel
theorem dX11_goes_278 : decode cX11_goes 278 = .ok (.aload_n 0, 1) := by decide +kernel
theorem dX11_goes_279 : decode cX11_goes 279 = .ok (.aload_n 0, 1) := by decide +kernel
theorem dX11_goes_280 : decode cX11_goes 280 = .ok (.getfield 109, 3) := by decide +kernel
theorem dX11_goes_283 : decode cX11_goes 283 = .ok (.aload_n 0, 1) := by decide +kernel
theorem dX11_goes_284 : decode cX11_goes 284 = .ok (.getfield 116, 3) := by decide +kernel
theorem dX11_goes_287 : decode cX11_goes 287 = .ok (.isub, 1) := by decide +kernel
theorem dX11_goes_288 : decode cX11_goes 288 = .ok (.putfield 136, 3) := by decide +kernel
theorem dX11_goes_291 : decode cX11_goes 291 = .ok (.return_, 1) := by decide +kernel
theorem dX11_spelled_0 : decode cX11_spelled 0 = .ok (.iload_n 0, 1) := by decide +kernel
theorem dX11_spelled_1 : decode cX11_spelled 1 = .ok (.i2l, 1) := by decide +kernel
theorem dX11_spelled_2 : decode cX11_spelled 2 = .ok (.ldc2_w 139, 3) := by decide +kernel
theorem dX11_spelled_5 : decode cX11_spelled 5 = .ok (.lsub, 1) := by decide +kernel
theorem dX11_spelled_6 : decode cX11_spelled 6 = .ok (.iconst 5, 1) := by decide +kernel
theorem dX11_spelled_7 : decode cX11_spelled 7 = .ok (.lshl, 1) := by decide +kernel
theorem dX11_spelled_8 : decode cX11_spelled 8 = .ok (.iload_n 1, 1) := by decide +kernel
theorem dX11_spelled_9 : decode cX11_spelled 9 = .ok (.bipush 96, 2) := by decide +kernel
theorem dX11_spelled_11 : decode cX11_spelled 11 = .ok (.isub, 1) := by decide +kernel
theorem dX11_spelled_12 : decode cX11_spelled 12 = .ok (.i2l, 1) := by decide +kernel
theorem dX11_spelled_13 : decode cX11_spelled 13 = .ok (.lor, 1) := by decide +kernel
theorem dX11_spelled_14 : decode cX11_spelled 14 = .ok (.lstore 6, 2) := by decide +kernel
theorem dX11_spelled_16 : decode cX11_spelled 16 = .ok (.iload_n 2, 1) := by decide +kernel
theorem dX11_spelled_17 : decode cX11_spelled 17 = .ok (.ifCond .eq 15, 3) := by decide +kernel
theorem dX11_spelled_20 : decode cX11_spelled 20 = .ok (.lload 6, 2) := by decide +kernel
theorem dX11_spelled_22 : decode cX11_spelled 22 = .ok (.iconst 5, 1) := by decide +kernel
theorem dX11_spelled_23 : decode cX11_spelled 23 = .ok (.lshl, 1) := by decide +kernel
theorem dX11_spelled_24 : decode cX11_spelled 24 = .ok (.iload_n 2, 1) := by decide +kernel
theorem dX11_spelled_25 : decode cX11_spelled 25 = .ok (.bipush 96, 2) := by decide +kernel
theorem dX11_spelled_27 : decode cX11_spelled 27 = .ok (.isub, 1) := by decide +kernel
theorem dX11_spelled_28 : decode cX11_spelled 28 = .ok (.i2l, 1) := by decide +kernel
theorem dX11_spelled_29 : decode cX11_spelled 29 = .ok (.lor, 1) := by decide +kernel
theorem dX11_spelled_30 : decode cX11_spelled 30 = .ok (.lstore 6, 2) := by decide +kernel
theorem dX11_spelled_32 : decode cX11_spelled 32 = .ok (.iload_n 3, 1) := by decide +kernel
theorem dX11_spelled_33 : decode cX11_spelled 33 = .ok (.ifCond .eq 15, 3) := by decide +kernel
theorem dX11_spelled_36 : decode cX11_spelled 36 = .ok (.lload 6, 2) := by decide +kernel
theorem dX11_spelled_38 : decode cX11_spelled 38 = .ok (.iconst 5, 1) := by decide +kernel
theorem dX11_spelled_39 : decode cX11_spelled 39 = .ok (.lshl, 1) := by decide +kernel
theorem dX11_spelled_40 : decode cX11_spelled 40 = .ok (.iload_n 3, 1) := by decide +kernel
theorem dX11_spelled_41 : decode cX11_spelled 41 = .ok (.bipush 96, 2) := by decide +kernel
theorem dX11_spelled_43 : decode cX11_spelled 43 = .ok (.isub, 1) := by decide +kernel
theorem dX11_spelled_44 : decode cX11_spelled 44 = .ok (.i2l, 1) := by decide +kernel
theorem dX11_spelled_45 : decode cX11_spelled 45 = .ok (.lor, 1) := by decide +kernel
theorem dX11_spelled_46 : decode cX11_spelled 46 = .ok (.lstore 6, 2) := by decide +kernel
theorem dX11_spelled_48 : decode cX11_spelled 48 = .ok (.iload 4, 2) := by decide +kernel
theorem dX11_spelled_50 : decode cX11_spelled 50 = .ok (.ifCond .eq 16, 3) := by decide +kernel
theorem dX11_spelled_53 : decode cX11_spelled 53 = .ok (.lload 6, 2) := by decide +kernel
theorem dX11_spelled_55 : decode cX11_spelled 55 = .ok (.iconst 5, 1) := by decide +kernel
theorem dX11_spelled_56 : decode cX11_spelled 56 = .ok (.lshl, 1) := by decide +kernel
theorem dX11_spelled_57 : decode cX11_spelled 57 = .ok (.iload 4, 2) := by decide +kernel
theorem dX11_spelled_59 : decode cX11_spelled 59 = .ok (.bipush 96, 2) := by decide +kernel
theorem dX11_spelled_61 : decode cX11_spelled 61 = .ok (.isub, 1) := by decide +kernel
theorem dX11_spelled_62 : decode cX11_spelled 62 = .ok (.i2l, 1) := by decide +kernel
theorem dX11_spelled_63 : decode cX11_spelled 63 = .ok (.lor, 1) := by decide +kernel
theorem dX11_spelled_64 : decode cX11_spelled 64 = .ok (.lstore 6, 2) := by decide +kernel
theorem dX11_spelled_66 : decode cX11_spelled 66 = .ok (.iload 5, 2) := by decide +kernel
theorem dX11_spelled_68 : decode cX11_spelled 68 = .ok (.ifCond .eq 16, 3) := by decide +kernel
theorem dX11_spelled_71 : decode cX11_spelled 71 = .ok (.lload 6, 2) := by decide +kernel
theorem dX11_spelled_73 : decode cX11_spelled 73 = .ok (.iconst 5, 1) := by decide +kernel
theorem dX11_spelled_74 : decode cX11_spelled 74 = .ok (.lshl, 1) := by decide +kernel
theorem dX11_spelled_75 : decode cX11_spelled 75 = .ok (.iload 5, 2) := by decide +kernel
theorem dX11_spelled_77 : decode cX11_spelled 77 = .ok (.bipush 96, 2) := by decide +kernel
theorem dX11_spelled_79 : decode cX11_spelled 79 = .ok (.isub, 1) := by decide +kernel
theorem dX11_spelled_80 : decode cX11_spelled 80 = .ok (.i2l, 1) := by decide +kernel
theorem dX11_spelled_81 : decode cX11_spelled 81 = .ok (.lor, 1) := by decide +kernel
theorem dX11_spelled_82 : decode cX11_spelled 82 = .ok (.lstore 6, 2) := by decide +kernel
theorem dX11_spelled_84 : decode cX11_spelled 84 = .ok (.lload 6, 2) := by decide +kernel
theorem dX11_spelled_86 : decode cX11_spelled 86 = .ok (.lreturn, 1) := by decide +kernel
theorem dX11_isWord_0 : decode cX11_isWord 0 = .ok (.aload_n 0, 1) := by decide +kernel
theorem dX11_isWord_1 : decode cX11_isWord 1 = .ok (.getfield 126, 3) := by decide +kernel
theorem dX11_isWord_4 : decode cX11_isWord 4 = .ok (.iconst 1, 1) := by decide +kernel
theorem dX11_isWord_5 : decode cX11_isWord 5 = .ok (.if_icmp .ne 24, 3) := by decide +kernel
theorem dX11_isWord_8 : decode cX11_isWord 8 = .ok (.aload_n 0, 1) := by decide +kernel
theorem dX11_isWord_9 : decode cX11_isWord 9 = .ok (.getfield 136, 3) := by decide +kernel
theorem dX11_isWord_12 : decode cX11_isWord 12 = .ok (.iload_n 3, 1) := by decide +kernel
theorem dX11_isWord_13 : decode cX11_isWord 13 = .ok (.if_icmp .ne 16, 3) := by decide +kernel
theorem dX11_isWord_16 : decode cX11_isWord 16 = .ok (.aload_n 0, 1) := by decide +kernel
theorem dX11_isWord_17 : decode cX11_isWord 17 = .ok (.getfield 119, 3) := by decide +kernel
theorem dX11_isWord_20 : decode cX11_isWord 20 = .ok (.lload_n 1, 1) := by decide +kernel
theorem dX11_isWord_21 : decode cX11_isWord 21 = .ok (.lcmp, 1) := by decide +kernel
theorem dX11_isWord_22 : decode cX11_isWord 22 = .ok (.ifCond .ne 7, 3) := by decide +kernel
theorem dX11_isWord_25 : decode cX11_isWord 25 = .ok (.iconst 1, 1) := by decide +kernel
theorem dX11_isWord_26 : decode cX11_isWord 26 = .ok (.goto 4, 3) := by decide +kernel
theorem dX11_isWord_29 : decode cX11_isWord 29 = .ok (.iconst 0, 1) := by decide +kernel
theorem dX11_isWord_30 : decode cX11_isWord 30 = .ok (.ireturn, 1) := by decide +kernel
theorem dX11_wrong_0 : decode cX11_wrong 0 = .ok (.aload_n 0, 1) := by decide +kernel
theorem dX11_wrong_1 : decode cX11_wrong 1 = .ok (.getfield 141, 3) := by decide +kernel
theorem dX11_wrong_4 : decode cX11_wrong 4 = .ok (.ifCond .eq 4, 3) := by decide +kernel
theorem dX11_wrong_7 : decode cX11_wrong 7 = .ok (.return_, 1) := by decide +kernel
theorem dX11_wrong_8 : decode cX11_wrong 8 = .ok (.aload_n 0, 1) := by decide +kernel
theorem dX11_wrong_9 : decode cX11_wrong 9 = .ok (.iload_n 1, 1) := by decide +kernel
theorem dX11_wrong_10 : decode cX11_wrong 10 = .ok (.putfield 141, 3) := by decide +kernel
theorem dX11_wrong_13 : decode cX11_wrong 13 = .ok (.aload_n 0, 1) := by decide +kernel
theorem dX11_wrong_14 : decode cX11_wrong 14 = .ok (.aload_n 0, 1) := by decide +kernel
theorem dX11_wrong_15 : decode cX11_wrong 15 = .ok (.getfield 116, 3) := by decide +kernel
theorem dX11_wrong_18 : decode cX11_wrong 18 = .ok (.putfield 13, 3) := by decide +kernel
theorem dX11_wrong_21 : decode cX11_wrong 21 = .ok (.return_, 1) := by decide +kernel
theorem dX11_isGood_0 : decode cX11_isGood 0 = .ok (.aload_n 0, 1) := by decide +kernel
theorem dX11_isGood_1 : decode cX11_isGood 1 = .ok (.getfield 141, 3) := by decide +kernel
theorem dX11_isGood_4 : decode cX11_isGood 4 = .ok (.ifCond .ne 7, 3) := by decide +kernel
theorem dX11_isGood_7 : decode cX11_isGood 7 = .ok (.iconst 1, 1) := by decide +kernel
theorem dX11_isGood_8 : decode cX11_isGood 8 = .ok (.goto 4, 3) := by decide +kernel
theorem dX11_isGood_11 : decode cX11_isGood 11 = .ok (.iconst 0, 1) := by decide +kernel
theorem dX11_isGood_12 : decode cX11_isGood 12 = .ok (.ireturn, 1) := by decide +kernel
theorem dX11_need_0 : decode cX11_need 0 = .ok (.aload_n 0, 1) := by decide +kernel
theorem dX11_need_1 : decode cX11_need 1 = .ok (.invokevirtual 144, 3) := by decide +kernel
theorem dX11_need_4 : decode cX11_need 4 = .ok (.ifCond .ne 4, 3) := by decide +kernel
theorem dX11_need_7 : decode cX11_need 7 = .ok (.return_, 1) := by decide +kernel
theorem dX11_need_8 : decode cX11_need 8 = .ok (.iload_n 1, 1) := by decide +kernel
theorem dX11_need_9 : decode cX11_need 9 = .ok (.ifCond .eq 10, 3) := by decide +kernel
theorem dX11_need_12 : decode cX11_need 12 = .ok (.aload_n 0, 1) := by decide +kernel
theorem dX11_need_13 : decode cX11_need 13 = .ok (.invokevirtual 148, 3) := by decide +kernel
theorem dX11_need_16 : decode cX11_need 16 = .ok (.goto 8, 3) := by decide +kernel
theorem dX11_need_19 : decode cX11_need 19 = .ok (.aload_n 0, 1) := by decide +kernel
theorem dX11_need_20 : decode cX11_need 20 = .ok (.iconst 1, 1) := by decide +kernel
theorem dX11_need_21 : decode cX11_need 21 = .ok (.invokevirtual 151, 3) := by decide +kernel
theorem dX11_need_24 : decode cX11_need 24 = .ok (.return_, 1) := by decide +kernel
theorem dX11_number_0 : decode cX11_number 0 = .ok (.aload_n 0, 1) := by decide +kernel
theorem dX11_number_1 : decode cX11_number 1 = .ok (.invokevirtual 144, 3) := by decide +kernel
theorem dX11_number_4 : decode cX11_number 4 = .ok (.ifCond .ne 5, 3) := by decide +kernel
theorem dX11_number_7 : decode cX11_number 7 = .ok (.iconst 0, 1) := by decide +kernel
theorem dX11_number_8 : decode cX11_number 8 = .ok (.ireturn, 1) := by decide +kernel
theorem dX11_number_9 : decode cX11_number 9 = .ok (.aload_n 0, 1) := by decide +kernel
theorem dX11_number_10 : decode cX11_number 10 = .ok (.getfield 126, 3) := by decide +kernel
theorem dX11_number_13 : decode cX11_number 13 = .ok (.iconst 2, 1) := by decide +kernel
theorem dX11_number_14 : decode cX11_number 14 = .ok (.if_icmp .eq 11, 3) := by decide +kernel
theorem dX11_number_17 : decode cX11_number 17 = .ok (.aload_n 0, 1) := by decide +kernel
theorem dX11_number_18 : decode cX11_number 18 = .ok (.iconst 1, 1) := by decide +kernel
theorem dX11_number_19 : decode cX11_number 19 = .ok (.invokevirtual 151, 3) := by decide +kernel
theorem dX11_number_22 : decode cX11_number 22 = .ok (.goto 32, 3) := by decide +kernel
theorem dX11_number_25 : decode cX11_number 25 = .ok (.aload_n 0, 1) := by decide +kernel
theorem dX11_number_26 : decode cX11_number 26 = .ok (.getfield 136, 3) := by decide +kernel
theorem dX11_number_29 : decode cX11_number 29 = .ok (.iconst 4, 1) := by decide +kernel
theorem dX11_number_30 : decode cX11_number 30 = .ok (.if_icmp .gt 19, 3) := by decide +kernel
theorem dX11_number_33 : decode cX11_number 33 = .ok (.aload_n 0, 1) := by decide +kernel
theorem dX11_number_34 : decode cX11_number 34 = .ok (.getfield 123, 3) := by decide +kernel
theorem dX11_number_37 : decode cX11_number 37 = .ok (.iload_n 1, 1) := by decide +kernel
theorem dX11_number_38 : decode cX11_number 38 = .ok (.if_icmp .lt 11, 3) := by decide +kernel
theorem dX11_number_41 : decode cX11_number 41 = .ok (.aload_n 0, 1) := by decide +kernel
theorem dX11_number_42 : decode cX11_number 42 = .ok (.getfield 123, 3) := by decide +kernel
theorem dX11_number_45 : decode cX11_number 45 = .ok (.iload_n 2, 1) := by decide +kernel
theorem dX11_number_46 : decode cX11_number 46 = .ok (.if_icmp .le 8, 3) := by decide +kernel
theorem dX11_number_49 : decode cX11_number 49 = .ok (.aload_n 0, 1) := by decide +kernel
theorem dX11_number_50 : decode cX11_number 50 = .ok (.iconst 2, 1) := by decide +kernel
theorem dX11_number_51 : decode cX11_number 51 = .ok (.invokevirtual 151, 3) := by decide +kernel
theorem dX11_number_54 : decode cX11_number 54 = .ok (.aload_n 0, 1) := by decide +kernel
theorem dX11_number_55 : decode cX11_number 55 = .ok (.getfield 123, 3) := by decide +kernel
theorem dX11_number_58 : decode cX11_number 58 = .ok (.istore_n 3, 1) := by decide +kernel
theorem dX11_number_59 : decode cX11_number 59 = .ok (.aload_n 0, 1) := by decide +kernel
theorem dX11_number_60 : decode cX11_number 60 = .ok (.invokevirtual 144, 3) := by decide +kernel
theorem dX11_number_63 : decode cX11_number 63 = .ok (.ifCond .eq 7, 3) := by decide +kernel
theorem dX11_number_66 : decode cX11_number 66 = .ok (.aload_n 0, 1) := by decide +kernel
theorem dX11_number_67 : decode cX11_number 67 = .ok (.invokevirtual 148, 3) := by decide +kernel
theorem dX11_number_70 : decode cX11_number 70 = .ok (.iload_n 3, 1) := by decide +kernel
theorem dX11_number_71 : decode cX11_number 71 = .ok (.ireturn, 1) := by decide +kernel
theorem dX11_nodeBut_0 : decode cX11_nodeBut 0 = .ok (.aload_n 0, 1) := by decide +kernel
theorem dX11_nodeBut_1 : decode cX11_nodeBut 1 = .ok (.invokevirtual 144, 3) := by decide +kernel
theorem dX11_nodeBut_4 : decode cX11_nodeBut 4 = .ok (.ifCond .ne 5, 3) := by decide +kernel
theorem dX11_nodeBut_7 : decode cX11_nodeBut 7 = .ok (.iconst 0, 1) := by decide +kernel
theorem dX11_nodeBut_8 : decode cX11_nodeBut 8 = .ok (.ireturn, 1) := by decide +kernel
theorem dX11_nodeBut_9 : decode cX11_nodeBut 9 = .ok (.aload_n 0, 1) := by decide +kernel
theorem dX11_nodeBut_10 : decode cX11_nodeBut 10 = .ok (.getfield 126, 3) := by decide +kernel
theorem dX11_nodeBut_13 : decode cX11_nodeBut 13 = .ok (.iconst 2, 1) := by decide +kernel
theorem dX11_nodeBut_14 : decode cX11_nodeBut 14 = .ok (.if_icmp .eq 11, 3) := by decide +kernel
theorem dX11_nodeBut_17 : decode cX11_nodeBut 17 = .ok (.aload_n 0, 1) := by decide +kernel
theorem dX11_nodeBut_18 : decode cX11_nodeBut 18 = .ok (.iconst 1, 1) := by decide +kernel
theorem dX11_nodeBut_19 : decode cX11_nodeBut 19 = .ok (.invokevirtual 151, 3) := by decide +kernel
theorem dX11_nodeBut_22 : decode cX11_nodeBut 22 = .ok (.goto 51, 3) := by decide +kernel
theorem dX11_nodeBut_25 : decode cX11_nodeBut 25 = .ok (.aload_n 0, 1) := by decide +kernel
theorem dX11_nodeBut_26 : decode cX11_nodeBut 26 = .ok (.getfield 136, 3) := by decide +kernel
theorem dX11_nodeBut_29 : decode cX11_nodeBut 29 = .ok (.iconst 4, 1) := by decide +kernel
theorem dX11_nodeBut_30 : decode cX11_nodeBut 30 = .ok (.if_icmp .le 11, 3) := by decide +kernel
theorem dX11_nodeBut_33 : decode cX11_nodeBut 33 = .ok (.aload_n 0, 1) := by decide +kernel
theorem dX11_nodeBut_34 : decode cX11_nodeBut 34 = .ok (.iconst 2, 1) := by decide +kernel
theorem dX11_nodeBut_35 : decode cX11_nodeBut 35 = .ok (.invokevirtual 151, 3) := by decide +kernel
theorem dX11_nodeBut_38 : decode cX11_nodeBut 38 = .ok (.goto 35, 3) := by decide +kernel
theorem dX11_nodeBut_41 : decode cX11_nodeBut 41 = .ok (.aload_n 0, 1) := by decide +kernel
theorem dX11_nodeBut_42 : decode cX11_nodeBut 42 = .ok (.getfield 123, 3) := by decide +kernel
theorem dX11_nodeBut_45 : decode cX11_nodeBut 45 = .ok (.aload_n 0, 1) := by decide +kernel
theorem dX11_nodeBut_46 : decode cX11_nodeBut 46 = .ok (.getfield 154, 3) := by decide +kernel
theorem dX11_nodeBut_49 : decode cX11_nodeBut 49 = .ok (.if_icmp .lt 11, 3) := by decide +kernel
theorem dX11_nodeBut_52 : decode cX11_nodeBut 52 = .ok (.aload_n 0, 1) := by decide +kernel
theorem dX11_nodeBut_53 : decode cX11_nodeBut 53 = .ok (.iconst 3, 1) := by decide +kernel
theorem dX11_nodeBut_54 : decode cX11_nodeBut 54 = .ok (.invokevirtual 151, 3) := by decide +kernel
theorem dX11_nodeBut_57 : decode cX11_nodeBut 57 = .ok (.goto 16, 3) := by decide +kernel
theorem dX11_nodeBut_60 : decode cX11_nodeBut 60 = .ok (.aload_n 0, 1) := by decide +kernel
theorem dX11_nodeBut_61 : decode cX11_nodeBut 61 = .ok (.getfield 123, 3) := by decide +kernel
theorem dX11_nodeBut_64 : decode cX11_nodeBut 64 = .ok (.iload_n 1, 1) := by decide +kernel
theorem dX11_nodeBut_65 : decode cX11_nodeBut 65 = .ok (.if_icmp .ne 8, 3) := by decide +kernel
theorem dX11_nodeBut_68 : decode cX11_nodeBut 68 = .ok (.aload_n 0, 1) := by decide +kernel
theorem dX11_nodeBut_69 : decode cX11_nodeBut 69 = .ok (.iconst 4, 1) := by decide +kernel
theorem dX11_nodeBut_70 : decode cX11_nodeBut 70 = .ok (.invokevirtual 151, 3) := by decide +kernel
theorem dX11_nodeBut_73 : decode cX11_nodeBut 73 = .ok (.aload_n 0, 1) := by decide +kernel
theorem dX11_nodeBut_74 : decode cX11_nodeBut 74 = .ok (.getfield 123, 3) := by decide +kernel
theorem dX11_nodeBut_77 : decode cX11_nodeBut 77 = .ok (.istore_n 2, 1) := by decide +kernel
theorem dX11_nodeBut_78 : decode cX11_nodeBut 78 = .ok (.aload_n 0, 1) := by decide +kernel
theorem dX11_nodeBut_79 : decode cX11_nodeBut 79 = .ok (.invokevirtual 144, 3) := by decide +kernel
theorem dX11_nodeBut_82 : decode cX11_nodeBut 82 = .ok (.ifCond .eq 7, 3) := by decide +kernel
theorem dX11_nodeBut_85 : decode cX11_nodeBut 85 = .ok (.aload_n 0, 1) := by decide +kernel
theorem dX11_nodeBut_86 : decode cX11_nodeBut 86 = .ok (.invokevirtual 148, 3) := by decide +kernel
theorem dX11_nodeBut_89 : decode cX11_nodeBut 89 = .ok (.iload_n 2, 1) := by decide +kernel
theorem dX11_nodeBut_90 : decode cX11_nodeBut 90 = .ok (.ireturn, 1) := by decide +kernel
theorem dX11_begins_0 : decode cX11_begins 0 = .ok (.iload_n 1, 1) := by decide +kernel
theorem dX11_begins_1 : decode cX11_begins 1 = .ok (.ifCond .eq 8, 3) := by decide +kernel
theorem dX11_begins_4 : decode cX11_begins 4 = .ok (.aload_n 0, 1) := by decide +kernel
theorem dX11_begins_5 : decode cX11_begins 5 = .ok (.iconst 2, 1) := by decide +kernel
theorem dX11_begins_6 : decode cX11_begins 6 = .ok (.invokevirtual 151, 3) := by decide +kernel
theorem dX11_begins_9 : decode cX11_begins 9 = .ok (.aload_n 0, 1) := by decide +kernel
theorem dX11_begins_10 : decode cX11_begins 10 = .ok (.invokevirtual 144, 3) := by decide +kernel
theorem dX11_begins_13 : decode cX11_begins 13 = .ok (.ifCond .ne 5, 3) := by decide +kernel
theorem dX11_begins_16 : decode cX11_begins 16 = .ok (.iconst 0, 1) := by decide +kernel
theorem dX11_begins_17 : decode cX11_begins 17 = .ok (.ireturn, 1) := by decide +kernel
theorem dX11_begins_18 : decode cX11_begins 18 = .ok (.aload_n 0, 1) := by decide +kernel
theorem dX11_begins_19 : decode cX11_begins 19 = .ok (.invokevirtual 148, 3) := by decide +kernel
theorem dX11_begins_22 : decode cX11_begins 22 = .ok (.iconst 1, 1) := by decide +kernel
theorem dX11_begins_23 : decode cX11_begins 23 = .ok (.ireturn, 1) := by decide +kernel
theorem dX11_readsLink_0 : decode cX11_readsLink 0 = .ok (.iconst 5, 1) := by decide +kernel
theorem dX11_readsLink_1 : decode cX11_readsLink 1 = .ok (.aload_n 0, 1) := by decide +kernel
theorem dX11_readsLink_2 : decode cX11_readsLink 2 = .ok (.getfield 157, 3) := by decide +kernel
theorem dX11_readsLink_5 : decode cX11_readsLink 5 = .ok (.imul, 1) := by decide +kernel
theorem dX11_readsLink_6 : decode cX11_readsLink 6 = .ok (.istore_n 1, 1) := by decide +kernel
theorem dX11_readsLink_7 : decode cX11_readsLink 7 = .ok (.aload_n 0, 1) := by decide +kernel
theorem dX11_readsLink_8 : decode cX11_readsLink 8 = .ok (.getfield 26, 3) := by decide +kernel
theorem dX11_readsLink_11 : decode cX11_readsLink 11 = .ok (.iload_n 1, 1) := by decide +kernel
theorem dX11_readsLink_12 : decode cX11_readsLink 12 = .ok (.aload_n 0, 1) := by decide +kernel
theorem dX11_readsLink_13 : decode cX11_readsLink 13 = .ok (.iconst (-1), 1) := by decide +kernel
theorem dX11_readsLink_14 : decode cX11_readsLink 14 = .ok (.invokevirtual 160, 3) := by decide +kernel
theorem dX11_readsLink_17 : decode cX11_readsLink 17 = .ok (.iastore, 1) := by decide +kernel
theorem dX11_readsLink_18 : decode cX11_readsLink 18 = .ok (.aload_n 0, 1) := by decide +kernel
theorem dX11_readsLink_19 : decode cX11_readsLink 19 = .ok (.getfield 26, 3) := by decide +kernel
theorem dX11_readsLink_22 : decode cX11_readsLink 22 = .ok (.iload_n 1, 1) := by decide +kernel
theorem dX11_readsLink_23 : decode cX11_readsLink 23 = .ok (.iconst 1, 1) := by decide +kernel
theorem dX11_readsLink_24 : decode cX11_readsLink 24 = .ok (.iadd, 1) := by decide +kernel
theorem dX11_readsLink_25 : decode cX11_readsLink 25 = .ok (.aload_n 0, 1) := by decide +kernel
theorem dX11_readsLink_26 : decode cX11_readsLink 26 = .ok (.aload_n 0, 1) := by decide +kernel
theorem dX11_readsLink_27 : decode cX11_readsLink 27 = .ok (.getfield 26, 3) := by decide +kernel
theorem dX11_readsLink_30 : decode cX11_readsLink 30 = .ok (.iload_n 1, 1) := by decide +kernel
theorem dX11_readsLink_31 : decode cX11_readsLink 31 = .ok (.iaload, 1) := by decide +kernel
theorem dX11_readsLink_32 : decode cX11_readsLink 32 = .ok (.invokevirtual 160, 3) := by decide +kernel
theorem dX11_readsLink_35 : decode cX11_readsLink 35 = .ok (.iastore, 1) := by decide +kernel
theorem dX11_readsLink_36 : decode cX11_readsLink 36 = .ok (.aload_n 0, 1) := by decide +kernel
theorem dX11_readsLink_37 : decode cX11_readsLink 37 = .ok (.getfield 26, 3) := by decide +kernel
theorem dX11_readsLink_40 : decode cX11_readsLink 40 = .ok (.iload_n 1, 1) := by decide +kernel
theorem dX11_readsLink_41 : decode cX11_readsLink 41 = .ok (.iconst 2, 1) := by decide +kernel
theorem dX11_readsLink_42 : decode cX11_readsLink 42 = .ok (.iadd, 1) := by decide +kernel
theorem dX11_readsLink_43 : decode cX11_readsLink 43 = .ok (.aload_n 0, 1) := by decide +kernel
theorem dX11_readsLink_44 : decode cX11_readsLink 44 = .ok (.iconst 1, 1) := by decide +kernel
theorem dX11_readsLink_45 : decode cX11_readsLink 45 = .ok (.bipush 99, 2) := by decide +kernel
theorem dX11_readsLink_47 : decode cX11_readsLink 47 = .ok (.invokevirtual 163, 3) := by decide +kernel
theorem dX11_readsLink_50 : decode cX11_readsLink 50 = .ok (.iastore, 1) := by decide +kernel
theorem dX11_readsLink_51 : decode cX11_readsLink 51 = .ok (.aload_n 0, 1) := by decide +kernel
theorem dX11_readsLink_52 : decode cX11_readsLink 52 = .ok (.getfield 26, 3) := by decide +kernel
theorem dX11_readsLink_55 : decode cX11_readsLink 55 = .ok (.iload_n 1, 1) := by decide +kernel
theorem dX11_readsLink_56 : decode cX11_readsLink 56 = .ok (.iconst 3, 1) := by decide +kernel
theorem dX11_readsLink_57 : decode cX11_readsLink 57 = .ok (.iadd, 1) := by decide +kernel
theorem dX11_readsLink_58 : decode cX11_readsLink 58 = .ok (.aload_n 0, 1) := by decide +kernel
theorem dX11_readsLink_59 : decode cX11_readsLink 59 = .ok (.iconst 1, 1) := by decide +kernel
theorem dX11_readsLink_60 : decode cX11_readsLink 60 = .ok (.bipush 99, 2) := by decide +kernel
theorem dX11_readsLink_62 : decode cX11_readsLink 62 = .ok (.invokevirtual 163, 3) := by decide +kernel
theorem dX11_readsLink_65 : decode cX11_readsLink 65 = .ok (.iastore, 1) := by decide +kernel
theorem dX11_readsLink_66 : decode cX11_readsLink 66 = .ok (.aload_n 0, 1) := by decide +kernel
theorem dX11_readsLink_67 : decode cX11_readsLink 67 = .ok (.getfield 26, 3) := by decide +kernel
theorem dX11_readsLink_70 : decode cX11_readsLink 70 = .ok (.iload_n 1, 1) := by decide +kernel
theorem dX11_readsLink_71 : decode cX11_readsLink 71 = .ok (.iconst 4, 1) := by decide +kernel
theorem dX11_readsLink_72 : decode cX11_readsLink 72 = .ok (.iadd, 1) := by decide +kernel
theorem dX11_readsLink_73 : decode cX11_readsLink 73 = .ok (.aload_n 0, 1) := by decide +kernel
theorem dX11_readsLink_74 : decode cX11_readsLink 74 = .ok (.invokevirtual 144, 3) := by decide +kernel
theorem dX11_readsLink_77 : decode cX11_readsLink 77 = .ok (.ifCond .eq 21, 3) := by decide +kernel
theorem dX11_readsLink_80 : decode cX11_readsLink 80 = .ok (.aload_n 0, 1) := by decide +kernel
theorem dX11_readsLink_81 : decode cX11_readsLink 81 = .ok (.getfield 126, 3) := by decide +kernel
theorem dX11_readsLink_84 : decode cX11_readsLink 84 = .ok (.iconst 2, 1) := by decide +kernel
theorem dX11_readsLink_85 : decode cX11_readsLink 85 = .ok (.if_icmp .ne 13, 3) := by decide +kernel
theorem dX11_readsLink_88 : decode cX11_readsLink 88 = .ok (.aload_n 0, 1) := by decide +kernel
theorem dX11_readsLink_89 : decode cX11_readsLink 89 = .ok (.iconst 0, 1) := by decide +kernel
theorem dX11_readsLink_90 : decode cX11_readsLink 90 = .ok (.bipush 15, 2) := by decide +kernel
theorem dX11_readsLink_92 : decode cX11_readsLink 92 = .ok (.invokevirtual 163, 3) := by decide +kernel
theorem dX11_readsLink_95 : decode cX11_readsLink 95 = .ok (.goto 4, 3) := by decide +kernel
theorem dX11_readsLink_98 : decode cX11_readsLink 98 = .ok (.iconst 0, 1) := by decide +kernel
theorem dX11_readsLink_99 : decode cX11_readsLink 99 = .ok (.iastore, 1) := by decide +kernel
theorem dX11_readsLink_100 : decode cX11_readsLink 100 = .ok (.aload_n 0, 1) := by decide +kernel
theorem dX11_readsLink_101 : decode cX11_readsLink 101 = .ok (.invokevirtual 144, 3) := by decide +kernel
theorem dX11_readsLink_104 : decode cX11_readsLink 104 = .ok (.ifCond .eq 13, 3) := by decide +kernel
theorem dX11_readsLink_107 : decode cX11_readsLink 107 = .ok (.aload_n 0, 1) := by decide +kernel
theorem dX11_readsLink_108 : decode cX11_readsLink 108 = .ok (.dup, 1) := by decide +kernel
theorem dX11_readsLink_109 : decode cX11_readsLink 109 = .ok (.getfield 157, 3) := by decide +kernel
theorem dX11_readsLink_112 : decode cX11_readsLink 112 = .ok (.iconst 1, 1) := by decide +kernel
theorem dX11_readsLink_113 : decode cX11_readsLink 113 = .ok (.iadd, 1) := by decide +kernel
theorem dX11_readsLink_114 : decode cX11_readsLink 114 = .ok (.putfield 157, 3) := by decide +kernel
theorem dX11_readsLink_117 : decode cX11_readsLink 117 = .ok (.return_, 1) := by decide +kernel
theorem dX11_readsTunnel_0 : decode cX11_readsTunnel 0 = .ok (.bipush 7, 2) := by decide +kernel
theorem dX11_readsTunnel_2 : decode cX11_readsTunnel 2 = .ok (.aload_n 0, 1) := by decide +kernel
theorem dX11_readsTunnel_3 : decode cX11_readsTunnel 3 = .ok (.getfield 167, 3) := by decide +kernel
theorem dX11_readsTunnel_6 : decode cX11_readsTunnel 6 = .ok (.imul, 1) := by decide +kernel
theorem dX11_readsTunnel_7 : decode cX11_readsTunnel 7 = .ok (.istore_n 1, 1) := by decide +kernel
theorem dX11_readsTunnel_8 : decode cX11_readsTunnel 8 = .ok (.aload_n 0, 1) := by decide +kernel
theorem dX11_readsTunnel_9 : decode cX11_readsTunnel 9 = .ok (.getfield 32, 3) := by decide +kernel
theorem dX11_readsTunnel_12 : decode cX11_readsTunnel 12 = .ok (.iload_n 1, 1) := by decide +kernel
theorem dX11_readsTunnel_13 : decode cX11_readsTunnel 13 = .ok (.aload_n 0, 1) := by decide +kernel
theorem dX11_readsTunnel_14 : decode cX11_readsTunnel 14 = .ok (.iconst (-1), 1) := by decide +kernel
theorem dX11_readsTunnel_15 : decode cX11_readsTunnel 15 = .ok (.invokevirtual 160, 3) := by decide +kernel
theorem dX11_readsTunnel_18 : decode cX11_readsTunnel 18 = .ok (.iastore, 1) := by decide +kernel
theorem dX11_readsTunnel_19 : decode cX11_readsTunnel 19 = .ok (.aload_n 0, 1) := by decide +kernel
theorem dX11_readsTunnel_20 : decode cX11_readsTunnel 20 = .ok (.getfield 32, 3) := by decide +kernel
theorem dX11_readsTunnel_23 : decode cX11_readsTunnel 23 = .ok (.iload_n 1, 1) := by decide +kernel
theorem dX11_readsTunnel_24 : decode cX11_readsTunnel 24 = .ok (.iconst 1, 1) := by decide +kernel
theorem dX11_readsTunnel_25 : decode cX11_readsTunnel 25 = .ok (.iadd, 1) := by decide +kernel
theorem dX11_readsTunnel_26 : decode cX11_readsTunnel 26 = .ok (.aload_n 0, 1) := by decide +kernel
theorem dX11_readsTunnel_27 : decode cX11_readsTunnel 27 = .ok (.aload_n 0, 1) := by decide +kernel
theorem dX11_readsTunnel_28 : decode cX11_readsTunnel 28 = .ok (.getfield 32, 3) := by decide +kernel
theorem dX11_readsTunnel_31 : decode cX11_readsTunnel 31 = .ok (.iload_n 1, 1) := by decide +kernel
theorem dX11_readsTunnel_32 : decode cX11_readsTunnel 32 = .ok (.iaload, 1) := by decide +kernel
theorem dX11_readsTunnel_33 : decode cX11_readsTunnel 33 = .ok (.invokevirtual 160, 3) := by decide +kernel
theorem dX11_readsTunnel_36 : decode cX11_readsTunnel 36 = .ok (.iastore, 1) := by decide +kernel
theorem dX11_readsTunnel_37 : decode cX11_readsTunnel 37 = .ok (.aload_n 0, 1) := by decide +kernel
theorem dX11_readsTunnel_38 : decode cX11_readsTunnel 38 = .ok (.getfield 32, 3) := by decide +kernel
theorem dX11_readsTunnel_41 : decode cX11_readsTunnel 41 = .ok (.iload_n 1, 1) := by decide +kernel
theorem dX11_readsTunnel_42 : decode cX11_readsTunnel 42 = .ok (.iconst 2, 1) := by decide +kernel
theorem dX11_readsTunnel_43 : decode cX11_readsTunnel 43 = .ok (.iadd, 1) := by decide +kernel
theorem dX11_readsTunnel_44 : decode cX11_readsTunnel 44 = .ok (.aload_n 0, 1) := by decide +kernel
theorem dX11_readsTunnel_45 : decode cX11_readsTunnel 45 = .ok (.iconst 1, 1) := by decide +kernel
theorem dX11_readsTunnel_46 : decode cX11_readsTunnel 46 = .ok (.bipush 99, 2) := by decide +kernel
theorem dX11_readsTunnel_48 : decode cX11_readsTunnel 48 = .ok (.invokevirtual 163, 3) := by decide +kernel
theorem dX11_readsTunnel_51 : decode cX11_readsTunnel 51 = .ok (.iastore, 1) := by decide +kernel
theorem dX11_readsTunnel_52 : decode cX11_readsTunnel 52 = .ok (.aload_n 0, 1) := by decide +kernel
theorem dX11_readsTunnel_53 : decode cX11_readsTunnel 53 = .ok (.getfield 32, 3) := by decide +kernel
theorem dX11_readsTunnel_56 : decode cX11_readsTunnel 56 = .ok (.iload_n 1, 1) := by decide +kernel
theorem dX11_readsTunnel_57 : decode cX11_readsTunnel 57 = .ok (.iconst 3, 1) := by decide +kernel
theorem dX11_readsTunnel_58 : decode cX11_readsTunnel 58 = .ok (.iadd, 1) := by decide +kernel
theorem dX11_readsTunnel_59 : decode cX11_readsTunnel 59 = .ok (.aload_n 0, 1) := by decide +kernel
theorem dX11_readsTunnel_60 : decode cX11_readsTunnel 60 = .ok (.iconst 0, 1) := by decide +kernel
theorem dX11_readsTunnel_61 : decode cX11_readsTunnel 61 = .ok (.bipush 7, 2) := by decide +kernel
theorem dX11_readsTunnel_63 : decode cX11_readsTunnel 63 = .ok (.invokevirtual 163, 3) := by decide +kernel
theorem dX11_readsTunnel_66 : decode cX11_readsTunnel 66 = .ok (.iastore, 1) := by decide +kernel
theorem dX11_readsTunnel_67 : decode cX11_readsTunnel 67 = .ok (.aload_n 0, 1) := by decide +kernel
theorem dX11_readsTunnel_68 : decode cX11_readsTunnel 68 = .ok (.getfield 32, 3) := by decide +kernel
theorem dX11_readsTunnel_71 : decode cX11_readsTunnel 71 = .ok (.iload_n 1, 1) := by decide +kernel
theorem dX11_readsTunnel_72 : decode cX11_readsTunnel 72 = .ok (.iconst 4, 1) := by decide +kernel
theorem dX11_readsTunnel_73 : decode cX11_readsTunnel 73 = .ok (.iadd, 1) := by decide +kernel
theorem dX11_readsTunnel_74 : decode cX11_readsTunnel 74 = .ok (.aload_n 0, 1) := by decide +kernel
theorem dX11_readsTunnel_75 : decode cX11_readsTunnel 75 = .ok (.iconst 0, 1) := by decide +kernel
theorem dX11_readsTunnel_76 : decode cX11_readsTunnel 76 = .ok (.aload_n 0, 1) := by decide +kernel
theorem dX11_readsTunnel_77 : decode cX11_readsTunnel 77 = .ok (.getfield 32, 3) := by decide +kernel
theorem dX11_readsTunnel_80 : decode cX11_readsTunnel 80 = .ok (.iload_n 1, 1) := by decide +kernel
theorem dX11_readsTunnel_81 : decode cX11_readsTunnel 81 = .ok (.iconst 3, 1) := by decide +kernel
theorem dX11_readsTunnel_82 : decode cX11_readsTunnel 82 = .ok (.iadd, 1) := by decide +kernel
theorem dX11_readsTunnel_83 : decode cX11_readsTunnel 83 = .ok (.iaload, 1) := by decide +kernel
theorem dX11_readsTunnel_84 : decode cX11_readsTunnel 84 = .ok (.invokevirtual 163, 3) := by decide +kernel
theorem dX11_readsTunnel_87 : decode cX11_readsTunnel 87 = .ok (.iastore, 1) := by decide +kernel
theorem dX11_readsTunnel_88 : decode cX11_readsTunnel 88 = .ok (.aload_n 0, 1) := by decide +kernel
theorem dX11_readsTunnel_89 : decode cX11_readsTunnel 89 = .ok (.getfield 32, 3) := by decide +kernel
theorem dX11_readsTunnel_92 : decode cX11_readsTunnel 92 = .ok (.iload_n 1, 1) := by decide +kernel
theorem dX11_readsTunnel_93 : decode cX11_readsTunnel 93 = .ok (.iconst 5, 1) := by decide +kernel
theorem dX11_readsTunnel_94 : decode cX11_readsTunnel 94 = .ok (.iadd, 1) := by decide +kernel
theorem dX11_readsTunnel_95 : decode cX11_readsTunnel 95 = .ok (.iconst 0, 1) := by decide +kernel
theorem dX11_readsTunnel_96 : decode cX11_readsTunnel 96 = .ok (.iastore, 1) := by decide +kernel
theorem dX11_readsTunnel_97 : decode cX11_readsTunnel 97 = .ok (.aload_n 0, 1) := by decide +kernel
theorem dX11_readsTunnel_98 : decode cX11_readsTunnel 98 = .ok (.getfield 32, 3) := by decide +kernel
theorem dX11_readsTunnel_101 : decode cX11_readsTunnel 101 = .ok (.iload_n 1, 1) := by decide +kernel
theorem dX11_readsTunnel_102 : decode cX11_readsTunnel 102 = .ok (.bipush 6, 2) := by decide +kernel
theorem dX11_readsTunnel_104 : decode cX11_readsTunnel 104 = .ok (.iadd, 1) := by decide +kernel
theorem dX11_readsTunnel_105 : decode cX11_readsTunnel 105 = .ok (.bipush 7, 2) := by decide +kernel
theorem dX11_readsTunnel_107 : decode cX11_readsTunnel 107 = .ok (.iastore, 1) := by decide +kernel
theorem dX11_readsTunnel_108 : decode cX11_readsTunnel 108 = .ok (.aload_n 0, 1) := by decide +kernel
theorem dX11_readsTunnel_109 : decode cX11_readsTunnel 109 = .ok (.invokevirtual 144, 3) := by decide +kernel
theorem dX11_readsTunnel_112 : decode cX11_readsTunnel 112 = .ok (.ifCond .eq 57, 3) := by decide +kernel
theorem dX11_readsTunnel_115 : decode cX11_readsTunnel 115 = .ok (.aload_n 0, 1) := by decide +kernel
theorem dX11_readsTunnel_116 : decode cX11_readsTunnel 116 = .ok (.getfield 126, 3) := by decide +kernel
theorem dX11_readsTunnel_119 : decode cX11_readsTunnel 119 = .ok (.iconst 2, 1) := by decide +kernel
theorem dX11_readsTunnel_120 : decode cX11_readsTunnel 120 = .ok (.if_icmp .ne 49, 3) := by decide +kernel
theorem dX11_readsTunnel_123 : decode cX11_readsTunnel 123 = .ok (.aload_n 0, 1) := by decide +kernel
theorem dX11_readsTunnel_124 : decode cX11_readsTunnel 124 = .ok (.getfield 32, 3) := by decide +kernel
theorem dX11_readsTunnel_127 : decode cX11_readsTunnel 127 = .ok (.iload_n 1, 1) := by decide +kernel
theorem dX11_readsTunnel_128 : decode cX11_readsTunnel 128 = .ok (.iconst 5, 1) := by decide +kernel
theorem dX11_readsTunnel_129 : decode cX11_readsTunnel 129 = .ok (.iadd, 1) := by decide +kernel
theorem dX11_readsTunnel_130 : decode cX11_readsTunnel 130 = .ok (.aload_n 0, 1) := by decide +kernel
theorem dX11_readsTunnel_131 : decode cX11_readsTunnel 131 = .ok (.iconst 0, 1) := by decide +kernel
theorem dX11_readsTunnel_132 : decode cX11_readsTunnel 132 = .ok (.bipush 15, 2) := by decide +kernel
theorem dX11_readsTunnel_134 : decode cX11_readsTunnel 134 = .ok (.invokevirtual 163, 3) := by decide +kernel
theorem dX11_readsTunnel_137 : decode cX11_readsTunnel 137 = .ok (.iastore, 1) := by decide +kernel
theorem dX11_readsTunnel_138 : decode cX11_readsTunnel 138 = .ok (.aload_n 0, 1) := by decide +kernel
theorem dX11_readsTunnel_139 : decode cX11_readsTunnel 139 = .ok (.invokevirtual 144, 3) := by decide +kernel
theorem dX11_readsTunnel_142 : decode cX11_readsTunnel 142 = .ok (.ifCond .eq 27, 3) := by decide +kernel
theorem dX11_readsTunnel_145 : decode cX11_readsTunnel 145 = .ok (.aload_n 0, 1) := by decide +kernel
theorem dX11_readsTunnel_146 : decode cX11_readsTunnel 146 = .ok (.getfield 126, 3) := by decide +kernel
theorem dX11_readsTunnel_149 : decode cX11_readsTunnel 149 = .ok (.iconst 2, 1) := by decide +kernel
theorem dX11_readsTunnel_150 : decode cX11_readsTunnel 150 = .ok (.if_icmp .ne 19, 3) := by decide +kernel
theorem dX11_readsTunnel_153 : decode cX11_readsTunnel 153 = .ok (.aload_n 0, 1) := by decide +kernel
theorem dX11_readsTunnel_154 : decode cX11_readsTunnel 154 = .ok (.getfield 32, 3) := by decide +kernel
theorem dX11_readsTunnel_157 : decode cX11_readsTunnel 157 = .ok (.iload_n 1, 1) := by decide +kernel
theorem dX11_readsTunnel_158 : decode cX11_readsTunnel 158 = .ok (.bipush 6, 2) := by decide +kernel
theorem dX11_readsTunnel_160 : decode cX11_readsTunnel 160 = .ok (.iadd, 1) := by decide +kernel
theorem dX11_readsTunnel_161 : decode cX11_readsTunnel 161 = .ok (.aload_n 0, 1) := by decide +kernel
theorem dX11_readsTunnel_162 : decode cX11_readsTunnel 162 = .ok (.iconst 1, 1) := by decide +kernel
theorem dX11_readsTunnel_163 : decode cX11_readsTunnel 163 = .ok (.bipush 7, 2) := by decide +kernel
theorem dX11_readsTunnel_165 : decode cX11_readsTunnel 165 = .ok (.invokevirtual 163, 3) := by decide +kernel
theorem dX11_readsTunnel_168 : decode cX11_readsTunnel 168 = .ok (.iastore, 1) := by decide +kernel
theorem dX11_readsTunnel_169 : decode cX11_readsTunnel 169 = .ok (.aload_n 0, 1) := by decide +kernel
theorem dX11_readsTunnel_170 : decode cX11_readsTunnel 170 = .ok (.invokevirtual 144, 3) := by decide +kernel
theorem dX11_readsTunnel_173 : decode cX11_readsTunnel 173 = .ok (.ifCond .eq 13, 3) := by decide +kernel
theorem dX11_readsTunnel_176 : decode cX11_readsTunnel 176 = .ok (.aload_n 0, 1) := by decide +kernel
theorem dX11_readsTunnel_177 : decode cX11_readsTunnel 177 = .ok (.dup, 1) := by decide +kernel
theorem dX11_readsTunnel_178 : decode cX11_readsTunnel 178 = .ok (.getfield 167, 3) := by decide +kernel
theorem dX11_readsTunnel_181 : decode cX11_readsTunnel 181 = .ok (.iconst 1, 1) := by decide +kernel
theorem dX11_readsTunnel_182 : decode cX11_readsTunnel 182 = .ok (.iadd, 1) := by decide +kernel
theorem dX11_readsTunnel_183 : decode cX11_readsTunnel 183 = .ok (.putfield 167, 3) := by decide +kernel
theorem dX11_readsTunnel_186 : decode cX11_readsTunnel 186 = .ok (.return_, 1) := by decide +kernel
theorem dX11_line_0 : decode cX11_line 0 = .ok (.aload_n 0, 1) := by decide +kernel
theorem dX11_line_1 : decode cX11_line 1 = .ok (.bipush 108, 2) := by decide +kernel
theorem dX11_line_3 : decode cX11_line 3 = .ok (.bipush 105, 2) := by decide +kernel
theorem dX11_line_5 : decode cX11_line 5 = .ok (.bipush 110, 2) := by decide +kernel
theorem dX11_line_7 : decode cX11_line 7 = .ok (.bipush 107, 2) := by decide +kernel
theorem dX11_line_9 : decode cX11_line 9 = .ok (.iconst 0, 1) := by decide +kernel
theorem dX11_line_10 : decode cX11_line 10 = .ok (.iconst 0, 1) := by decide +kernel
theorem dX11_line_11 : decode cX11_line 11 = .ok (.invokestatic 170, 3) := by decide +kernel
theorem dX11_line_14 : decode cX11_line 14 = .ok (.iconst 4, 1) := by decide +kernel
theorem dX11_line_15 : decode cX11_line 15 = .ok (.invokevirtual 174, 3) := by decide +kernel
theorem dX11_line_18 : decode cX11_line 18 = .ok (.ifCond .eq 31, 3) := by decide +kernel
theorem dX11_line_21 : decode cX11_line 21 = .ok (.aload_n 0, 1) := by decide +kernel
theorem dX11_line_22 : decode cX11_line 22 = .ok (.aload_n 0, 1) := by decide +kernel
theorem dX11_line_23 : decode cX11_line 23 = .ok (.getfield 157, 3) := by decide +kernel
theorem dX11_line_26 : decode cX11_line 26 = .ok (.bipush 16, 2) := by decide +kernel
theorem dX11_line_28 : decode cX11_line 28 = .ok (.if_icmp .ne 7, 3) := by decide +kernel
theorem dX11_line_31 : decode cX11_line 31 = .ok (.iconst 1, 1) := by decide +kernel
theorem dX11_line_32 : decode cX11_line 32 = .ok (.goto 4, 3) := by decide +kernel
theorem dX11_line_35 : decode cX11_line 35 = .ok (.iconst 0, 1) := by decide +kernel
theorem dX11_line_36 : decode cX11_line 36 = .ok (.invokevirtual 178, 3) := by decide +kernel
theorem dX11_line_39 : decode cX11_line 39 = .ok (.ifCond .eq 67, 3) := by decide +kernel
theorem dX11_line_42 : decode cX11_line 42 = .ok (.aload_n 0, 1) := by decide +kernel
theorem dX11_line_43 : decode cX11_line 43 = .ok (.invokevirtual 182, 3) := by decide +kernel
theorem dX11_line_46 : decode cX11_line 46 = .ok (.goto 60, 3) := by decide +kernel
theorem dX11_line_49 : decode cX11_line 49 = .ok (.aload_n 0, 1) := by decide +kernel
theorem dX11_line_50 : decode cX11_line 50 = .ok (.bipush 116, 2) := by decide +kernel
theorem dX11_line_52 : decode cX11_line 52 = .ok (.bipush 117, 2) := by decide +kernel
theorem dX11_line_54 : decode cX11_line 54 = .ok (.bipush 110, 2) := by decide +kernel
theorem dX11_line_56 : decode cX11_line 56 = .ok (.bipush 110, 2) := by decide +kernel
theorem dX11_line_58 : decode cX11_line 58 = .ok (.bipush 101, 2) := by decide +kernel
theorem dX11_line_60 : decode cX11_line 60 = .ok (.bipush 108, 2) := by decide +kernel
theorem dX11_line_62 : decode cX11_line 62 = .ok (.invokestatic 170, 3) := by decide +kernel
theorem dX11_line_65 : decode cX11_line 65 = .ok (.bipush 6, 2) := by decide +kernel
theorem dX11_line_67 : decode cX11_line 67 = .ok (.invokevirtual 174, 3) := by decide +kernel
theorem dX11_line_70 : decode cX11_line 70 = .ok (.ifCond .eq 31, 3) := by decide +kernel
theorem dX11_line_73 : decode cX11_line 73 = .ok (.aload_n 0, 1) := by decide +kernel
theorem dX11_line_74 : decode cX11_line 74 = .ok (.aload_n 0, 1) := by decide +kernel
theorem dX11_line_75 : decode cX11_line 75 = .ok (.getfield 167, 3) := by decide +kernel
theorem dX11_line_78 : decode cX11_line 78 = .ok (.bipush 9, 2) := by decide +kernel
theorem dX11_line_80 : decode cX11_line 80 = .ok (.if_icmp .ne 7, 3) := by decide +kernel
theorem dX11_line_83 : decode cX11_line 83 = .ok (.iconst 1, 1) := by decide +kernel
theorem dX11_line_84 : decode cX11_line 84 = .ok (.goto 4, 3) := by decide +kernel
theorem dX11_line_87 : decode cX11_line 87 = .ok (.iconst 0, 1) := by decide +kernel
theorem dX11_line_88 : decode cX11_line 88 = .ok (.invokevirtual 178, 3) := by decide +kernel
theorem dX11_line_91 : decode cX11_line 91 = .ok (.ifCond .eq 15, 3) := by decide +kernel
theorem dX11_line_94 : decode cX11_line 94 = .ok (.aload_n 0, 1) := by decide +kernel
theorem dX11_line_95 : decode cX11_line 95 = .ok (.invokevirtual 185, 3) := by decide +kernel
theorem dX11_line_98 : decode cX11_line 98 = .ok (.goto 8, 3) := by decide +kernel
theorem dX11_line_101 : decode cX11_line 101 = .ok (.aload_n 0, 1) := by decide +kernel
theorem dX11_line_102 : decode cX11_line 102 = .ok (.iconst 1, 1) := by decide +kernel
theorem dX11_line_103 : decode cX11_line 103 = .ok (.invokevirtual 151, 3) := by decide +kernel
theorem dX11_line_106 : decode cX11_line 106 = .ok (.aload_n 0, 1) := by decide +kernel
theorem dX11_line_107 : decode cX11_line 107 = .ok (.aload_n 0, 1) := by decide +kernel
theorem dX11_line_108 : decode cX11_line 108 = .ok (.getfield 126, 3) := by decide +kernel
theorem dX11_line_111 : decode cX11_line 111 = .ok (.iconst 3, 1) := by decide +kernel
theorem dX11_line_112 : decode cX11_line 112 = .ok (.if_icmp .ne 7, 3) := by decide +kernel
theorem dX11_line_115 : decode cX11_line 115 = .ok (.iconst 1, 1) := by decide +kernel
theorem dX11_line_116 : decode cX11_line 116 = .ok (.goto 4, 3) := by decide +kernel
theorem dX11_line_119 : decode cX11_line 119 = .ok (.iconst 0, 1) := by decide +kernel
theorem dX11_line_120 : decode cX11_line 120 = .ok (.invokevirtual 188, 3) := by decide +kernel
theorem dX11_line_123 : decode cX11_line 123 = .ok (.return_, 1) := by decide +kernel
theorem dX11_network_0 : decode cX11_network 0 = .ok (.aload_n 0, 1) := by decide +kernel
theorem dX11_network_1 : decode cX11_network 1 = .ok (.iconst 0, 1) := by decide +kernel
theorem dX11_network_2 : decode cX11_network 2 = .ok (.putfield 96, 3) := by decide +kernel
theorem dX11_network_5 : decode cX11_network 5 = .ok (.aload_n 0, 1) := by decide +kernel
theorem dX11_network_6 : decode cX11_network 6 = .ok (.iload_n 1, 1) := by decide +kernel
theorem dX11_network_7 : decode cX11_network 7 = .ok (.ifCond .lt 15, 3) := by decide +kernel
theorem dX11_network_10 : decode cX11_network 10 = .ok (.iload_n 1, 1) := by decide +kernel
theorem dX11_network_11 : decode cX11_network 11 = .ok (.aload_n 0, 1) := by decide +kernel
theorem dX11_network_12 : decode cX11_network 12 = .ok (.getfield 99, 3) := by decide +kernel
theorem dX11_network_15 : decode cX11_network 15 = .ok (.if_icmp .gt 7, 3) := by decide +kernel
theorem dX11_network_18 : decode cX11_network 18 = .ok (.iconst 1, 1) := by decide +kernel
theorem dX11_network_19 : decode cX11_network 19 = .ok (.goto 4, 3) := by decide +kernel
theorem dX11_network_22 : decode cX11_network 22 = .ok (.iconst 0, 1) := by decide +kernel
theorem dX11_network_23 : decode cX11_network 23 = .ok (.iconst 1, 1) := by decide +kernel
theorem dX11_network_24 : decode cX11_network 24 = .ok (.invokevirtual 192, 3) := by decide +kernel
theorem dX11_network_27 : decode cX11_network 27 = .ok (.ifCond .ne 5, 3) := by decide +kernel
theorem dX11_network_30 : decode cX11_network 30 = .ok (.iconst 0, 1) := by decide +kernel
theorem dX11_network_31 : decode cX11_network 31 = .ok (.ireturn, 1) := by decide +kernel
theorem dX11_network_32 : decode cX11_network 32 = .ok (.aload_n 0, 1) := by decide +kernel
theorem dX11_network_33 : decode cX11_network 33 = .ok (.iconst 0, 1) := by decide +kernel
theorem dX11_network_34 : decode cX11_network 34 = .ok (.putfield 99, 3) := by decide +kernel
theorem dX11_network_37 : decode cX11_network 37 = .ok (.aload_n 0, 1) := by decide +kernel
theorem dX11_network_38 : decode cX11_network 38 = .ok (.iconst (-1), 1) := by decide +kernel
theorem dX11_network_39 : decode cX11_network 39 = .ok (.putfield 13, 3) := by decide +kernel
theorem dX11_network_42 : decode cX11_network 42 = .ok (.aload_n 0, 1) := by decide +kernel
theorem dX11_network_43 : decode cX11_network 43 = .ok (.iconst 0, 1) := by decide +kernel
theorem dX11_network_44 : decode cX11_network 44 = .ok (.putfield 141, 3) := by decide +kernel
theorem dX11_network_47 : decode cX11_network 47 = .ok (.aload_n 0, 1) := by decide +kernel
theorem dX11_network_48 : decode cX11_network 48 = .ok (.iload_n 1, 1) := by decide +kernel
theorem dX11_network_49 : decode cX11_network 49 = .ok (.putfield 106, 3) := by decide +kernel
theorem dX11_network_52 : decode cX11_network 52 = .ok (.aload_n 0, 1) := by decide +kernel
theorem dX11_network_53 : decode cX11_network 53 = .ok (.iconst 0, 1) := by decide +kernel
theorem dX11_network_54 : decode cX11_network 54 = .ok (.putfield 109, 3) := by decide +kernel
theorem dX11_network_57 : decode cX11_network 57 = .ok (.aload_n 0, 1) := by decide +kernel
theorem dX11_network_58 : decode cX11_network 58 = .ok (.iconst 2, 1) := by decide +kernel
theorem dX11_network_59 : decode cX11_network 59 = .ok (.putfield 154, 3) := by decide +kernel
theorem dX11_network_62 : decode cX11_network 62 = .ok (.aload_n 0, 1) := by decide +kernel
theorem dX11_network_63 : decode cX11_network 63 = .ok (.iconst 0, 1) := by decide +kernel
theorem dX11_network_64 : decode cX11_network 64 = .ok (.putfield 157, 3) := by decide +kernel
theorem dX11_network_67 : decode cX11_network 67 = .ok (.aload_n 0, 1) := by decide +kernel
theorem dX11_network_68 : decode cX11_network 68 = .ok (.iconst 0, 1) := by decide +kernel
theorem dX11_network_69 : decode cX11_network 69 = .ok (.putfield 167, 3) := by decide +kernel
theorem dX11_network_72 : decode cX11_network 72 = .ok (.aload_n 0, 1) := by decide +kernel
theorem dX11_network_73 : decode cX11_network 73 = .ok (.invokevirtual 148, 3) := by decide +kernel
theorem dX11_network_76 : decode cX11_network 76 = .ok (.aload_n 0, 1) := by decide +kernel
theorem dX11_network_77 : decode cX11_network 77 = .ok (.bipush 110, 2) := by decide +kernel
theorem dX11_network_79 : decode cX11_network 79 = .ok (.bipush 111, 2) := by decide +kernel
theorem dX11_network_81 : decode cX11_network 81 = .ok (.bipush 100, 2) := by decide +kernel
theorem dX11_network_83 : decode cX11_network 83 = .ok (.bipush 101, 2) := by decide +kernel
theorem dX11_network_85 : decode cX11_network 85 = .ok (.bipush 115, 2) := by decide +kernel
theorem dX11_network_87 : decode cX11_network 87 = .ok (.iconst 0, 1) := by decide +kernel
theorem dX11_network_88 : decode cX11_network 88 = .ok (.invokestatic 170, 3) := by decide +kernel
theorem dX11_network_91 : decode cX11_network 91 = .ok (.iconst 5, 1) := by decide +kernel
theorem dX11_network_92 : decode cX11_network 92 = .ok (.invokevirtual 174, 3) := by decide +kernel
theorem dX11_network_95 : decode cX11_network 95 = .ok (.ifCond .eq 35, 3) := by decide +kernel
theorem dX11_network_98 : decode cX11_network 98 = .ok (.aload_n 0, 1) := by decide +kernel
theorem dX11_network_99 : decode cX11_network 99 = .ok (.invokevirtual 148, 3) := by decide +kernel
theorem dX11_network_102 : decode cX11_network 102 = .ok (.aload_n 0, 1) := by decide +kernel
theorem dX11_network_103 : decode cX11_network 103 = .ok (.aload_n 0, 1) := by decide +kernel
theorem dX11_network_104 : decode cX11_network 104 = .ok (.iconst 2, 1) := by decide +kernel
theorem dX11_network_105 : decode cX11_network 105 = .ok (.bipush 8, 2) := by decide +kernel
theorem dX11_network_107 : decode cX11_network 107 = .ok (.invokevirtual 163, 3) := by decide +kernel
theorem dX11_network_110 : decode cX11_network 110 = .ok (.putfield 154, 3) := by decide +kernel
theorem dX11_network_113 : decode cX11_network 113 = .ok (.aload_n 0, 1) := by decide +kernel
theorem dX11_network_114 : decode cX11_network 114 = .ok (.aload_n 0, 1) := by decide +kernel
theorem dX11_network_115 : decode cX11_network 115 = .ok (.getfield 126, 3) := by decide +kernel
theorem dX11_network_118 : decode cX11_network 118 = .ok (.iconst 3, 1) := by decide +kernel
theorem dX11_network_119 : decode cX11_network 119 = .ok (.if_icmp .ne 7, 3) := by decide +kernel
theorem dX11_network_122 : decode cX11_network 122 = .ok (.iconst 1, 1) := by decide +kernel
theorem dX11_network_123 : decode cX11_network 123 = .ok (.goto 4, 3) := by decide +kernel
theorem dX11_network_126 : decode cX11_network 126 = .ok (.iconst 0, 1) := by decide +kernel
theorem dX11_network_127 : decode cX11_network 127 = .ok (.invokevirtual 188, 3) := by decide +kernel
theorem dX11_network_130 : decode cX11_network 130 = .ok (.aload_n 0, 1) := by decide +kernel
theorem dX11_network_131 : decode cX11_network 131 = .ok (.invokevirtual 144, 3) := by decide +kernel
theorem dX11_network_134 : decode cX11_network 134 = .ok (.ifCond .eq 17, 3) := by decide +kernel
theorem dX11_network_137 : decode cX11_network 137 = .ok (.aload_n 0, 1) := by decide +kernel
theorem dX11_network_138 : decode cX11_network 138 = .ok (.getfield 126, 3) := by decide +kernel
theorem dX11_network_141 : decode cX11_network 141 = .ok (.ifCond .eq 10, 3) := by decide +kernel
theorem dX11_network_144 : decode cX11_network 144 = .ok (.aload_n 0, 1) := by decide +kernel
theorem dX11_network_145 : decode cX11_network 145 = .ok (.invokevirtual 196, 3) := by decide +kernel
theorem dX11_network_148 : decode cX11_network 148 = .ok (.goto (-18), 3) := by decide +kernel
theorem dX11_network_151 : decode cX11_network 151 = .ok (.aload_n 0, 1) := by decide +kernel
theorem dX11_network_152 : decode cX11_network 152 = .ok (.invokevirtual 144, 3) := by decide +kernel
theorem dX11_network_155 : decode cX11_network 155 = .ok (.ifCond .ne 18, 3) := by decide +kernel
theorem dX11_network_158 : decode cX11_network 158 = .ok (.aload_n 0, 1) := by decide +kernel
theorem dX11_network_159 : decode cX11_network 159 = .ok (.getfield 17, 3) := by decide +kernel
theorem dX11_network_162 : decode cX11_network 162 = .ok (.iconst 0, 1) := by decide +kernel
theorem dX11_network_163 : decode cX11_network 163 = .ok (.dup2, 1) := by decide +kernel
theorem dX11_network_164 : decode cX11_network 164 = .ok (.iaload, 1) := by decide +kernel
theorem dX11_network_165 : decode cX11_network 165 = .ok (.iconst 1, 1) := by decide +kernel
theorem dX11_network_166 : decode cX11_network 166 = .ok (.iadd, 1) := by decide +kernel
theorem dX11_network_167 : decode cX11_network 167 = .ok (.iastore, 1) := by decide +kernel
theorem dX11_network_168 : decode cX11_network 168 = .ok (.aload_n 0, 1) := by decide +kernel
theorem dX11_network_169 : decode cX11_network 169 = .ok (.getfield 141, 3) := by decide +kernel
theorem dX11_network_172 : decode cX11_network 172 = .ok (.ireturn, 1) := by decide +kernel
theorem dX11_network_173 : decode cX11_network 173 = .ok (.aload_n 0, 1) := by decide +kernel
theorem dX11_network_174 : decode cX11_network 174 = .ok (.aload_n 0, 1) := by decide +kernel
theorem dX11_network_175 : decode cX11_network 175 = .ok (.getfield 154, 3) := by decide +kernel
theorem dX11_network_178 : decode cX11_network 178 = .ok (.putfield 20, 3) := by decide +kernel
theorem dX11_network_181 : decode cX11_network 181 = .ok (.aload_n 0, 1) := by decide +kernel
theorem dX11_network_182 : decode cX11_network 182 = .ok (.aload_n 0, 1) := by decide +kernel
theorem dX11_network_183 : decode cX11_network 183 = .ok (.getfield 157, 3) := by decide +kernel
theorem dX11_network_186 : decode cX11_network 186 = .ok (.putfield 199, 3) := by decide +kernel
theorem dX11_network_189 : decode cX11_network 189 = .ok (.aload_n 0, 1) := by decide +kernel
theorem dX11_network_190 : decode cX11_network 190 = .ok (.aload_n 0, 1) := by decide +kernel
theorem dX11_network_191 : decode cX11_network 191 = .ok (.getfield 167, 3) := by decide +kernel
theorem dX11_network_194 : decode cX11_network 194 = .ok (.putfield 202, 3) := by decide +kernel
theorem dX11_network_197 : decode cX11_network 197 = .ok (.aload_n 0, 1) := by decide +kernel
theorem dX11_network_198 : decode cX11_network 198 = .ok (.aload_n 0, 1) := by decide +kernel
theorem dX11_network_199 : decode cX11_network 199 = .ok (.getfield 26, 3) := by decide +kernel
theorem dX11_network_202 : decode cX11_network 202 = .ok (.aload_n 0, 1) := by decide +kernel
theorem dX11_network_203 : decode cX11_network 203 = .ok (.getfield 23, 3) := by decide +kernel
theorem dX11_network_206 : decode cX11_network 206 = .ok (.invokevirtual 205, 3) := by decide +kernel
theorem dX11_network_209 : decode cX11_network 209 = .ok (.aload_n 0, 1) := by decide +kernel
theorem dX11_network_210 : decode cX11_network 210 = .ok (.aload_n 0, 1) := by decide +kernel
theorem dX11_network_211 : decode cX11_network 211 = .ok (.getfield 32, 3) := by decide +kernel
theorem dX11_network_214 : decode cX11_network 214 = .ok (.aload_n 0, 1) := by decide +kernel
theorem dX11_network_215 : decode cX11_network 215 = .ok (.getfield 29, 3) := by decide +kernel
theorem dX11_network_218 : decode cX11_network 218 = .ok (.invokevirtual 205, 3) := by decide +kernel
theorem dX11_network_221 : decode cX11_network 221 = .ok (.aload_n 0, 1) := by decide +kernel
theorem dX11_network_222 : decode cX11_network 222 = .ok (.getfield 35, 3) := by decide +kernel
theorem dX11_network_225 : decode cX11_network 225 = .ok (.iconst 0, 1) := by decide +kernel
theorem dX11_network_226 : decode cX11_network 226 = .ok (.iconst 1, 1) := by decide +kernel
theorem dX11_network_227 : decode cX11_network 227 = .ok (.aload_n 0, 1) := by decide +kernel
theorem dX11_network_228 : decode cX11_network 228 = .ok (.getfield 199, 3) := by decide +kernel
theorem dX11_network_231 : decode cX11_network 231 = .ok (.ishl, 1) := by decide +kernel
theorem dX11_network_232 : decode cX11_network 232 = .ok (.iconst 1, 1) := by decide +kernel
theorem dX11_network_233 : decode cX11_network 233 = .ok (.isub, 1) := by decide +kernel
theorem dX11_network_234 : decode cX11_network 234 = .ok (.iastore, 1) := by decide +kernel
theorem dX11_network_235 : decode cX11_network 235 = .ok (.iconst 0, 1) := by decide +kernel
theorem dX11_network_236 : decode cX11_network 236 = .ok (.istore_n 2, 1) := by decide +kernel
theorem dX11_network_237 : decode cX11_network 237 = .ok (.iload_n 2, 1) := by decide +kernel
theorem dX11_network_238 : decode cX11_network 238 = .ok (.bipush 9, 2) := by decide +kernel
theorem dX11_network_240 : decode cX11_network 240 = .ok (.if_icmp .ge 50, 3) := by decide +kernel
theorem dX11_network_243 : decode cX11_network 243 = .ok (.aload_n 0, 1) := by decide +kernel
theorem dX11_network_244 : decode cX11_network 244 = .ok (.getfield 35, 3) := by decide +kernel
theorem dX11_network_247 : decode cX11_network 247 = .ok (.iconst 1, 1) := by decide +kernel
theorem dX11_network_248 : decode cX11_network 248 = .ok (.iload_n 2, 1) := by decide +kernel
theorem dX11_network_249 : decode cX11_network 249 = .ok (.iadd, 1) := by decide +kernel
theorem dX11_network_250 : decode cX11_network 250 = .ok (.iload_n 2, 1) := by decide +kernel
theorem dX11_network_251 : decode cX11_network 251 = .ok (.aload_n 0, 1) := by decide +kernel
theorem dX11_network_252 : decode cX11_network 252 = .ok (.getfield 202, 3) := by decide +kernel
theorem dX11_network_255 : decode cX11_network 255 = .ok (.if_icmp .ge 17, 3) := by decide +kernel
theorem dX11_network_258 : decode cX11_network 258 = .ok (.aload_n 0, 1) := by decide +kernel
theorem dX11_network_259 : decode cX11_network 259 = .ok (.getfield 29, 3) := by decide +kernel
theorem dX11_network_262 : decode cX11_network 262 = .ok (.bipush 7, 2) := by decide +kernel
theorem dX11_network_264 : decode cX11_network 264 = .ok (.iload_n 2, 1) := by decide +kernel
theorem dX11_network_265 : decode cX11_network 265 = .ok (.imul, 1) := by decide +kernel
theorem dX11_network_266 : decode cX11_network 266 = .ok (.iconst 2, 1) := by decide +kernel
theorem dX11_network_267 : decode cX11_network 267 = .ok (.iadd, 1) := by decide +kernel
theorem dX11_network_268 : decode cX11_network 268 = .ok (.iaload, 1) := by decide +kernel
theorem dX11_network_269 : decode cX11_network 269 = .ok (.goto 4, 3) := by decide +kernel
theorem dX11_network_272 : decode cX11_network 272 = .ok (.iconst 0, 1) := by decide +kernel
theorem dX11_network_273 : decode cX11_network 273 = .ok (.iastore, 1) := by decide +kernel
theorem dX11_network_274 : decode cX11_network 274 = .ok (.aload_n 0, 1) := by decide +kernel
theorem dX11_network_275 : decode cX11_network 275 = .ok (.getfield 35, 3) := by decide +kernel
theorem dX11_network_278 : decode cX11_network 278 = .ok (.bipush 10, 2) := by decide +kernel
theorem dX11_network_280 : decode cX11_network 280 = .ok (.iload_n 2, 1) := by decide +kernel
theorem dX11_network_281 : decode cX11_network 281 = .ok (.iadd, 1) := by decide +kernel
theorem dX11_network_282 : decode cX11_network 282 = .ok (.iconst (-1), 1) := by decide +kernel
theorem dX11_network_283 : decode cX11_network 283 = .ok (.iastore, 1) := by decide +kernel
theorem dX11_network_284 : decode cX11_network 284 = .ok (.iinc 2 1, 3) := by decide +kernel
theorem dX11_network_287 : decode cX11_network 287 = .ok (.goto (-50), 3) := by decide +kernel
theorem dX11_network_290 : decode cX11_network 290 = .ok (.aload_n 0, 1) := by decide +kernel
theorem dX11_network_291 : decode cX11_network 291 = .ok (.iconst 0, 1) := by decide +kernel
theorem dX11_network_292 : decode cX11_network 292 = .ok (.putfield 209, 3) := by decide +kernel
theorem dX11_network_295 : decode cX11_network 295 = .ok (.aload_n 0, 1) := by decide +kernel
theorem dX11_network_296 : decode cX11_network 296 = .ok (.iconst 0, 1) := by decide +kernel
theorem dX11_network_297 : decode cX11_network 297 = .ok (.putfield 212, 3) := by decide +kernel
theorem dX11_network_300 : decode cX11_network 300 = .ok (.aload_n 0, 1) := by decide +kernel
theorem dX11_network_301 : decode cX11_network 301 = .ok (.iconst 0, 1) := by decide +kernel
theorem dX11_network_302 : decode cX11_network 302 = .ok (.putfield 215, 3) := by decide +kernel
theorem dX11_network_305 : decode cX11_network 305 = .ok (.iconst 0, 1) := by decide +kernel
theorem dX11_network_306 : decode cX11_network 306 = .ok (.ireturn, 1) := by decide +kernel
theorem dX11_fault_0 : decode cX11_fault 0 = .ok (.aload_n 0, 1) := by decide +kernel
theorem dX11_fault_1 : decode cX11_fault 1 = .ok (.iconst 0, 1) := by decide +kernel
theorem dX11_fault_2 : decode cX11_fault 2 = .ok (.putfield 96, 3) := by decide +kernel
theorem dX11_fault_5 : decode cX11_fault 5 = .ok (.aload_n 0, 1) := by decide +kernel
theorem dX11_fault_6 : decode cX11_fault 6 = .ok (.getfield 13, 3) := by decide +kernel
theorem dX11_fault_9 : decode cX11_fault 9 = .ok (.ireturn, 1) := by decide +kernel
theorem dX11_keeps_0 : decode cX11_keeps 0 = .ok (.aload_n 0, 1) := by decide +kernel
theorem dX11_keeps_1 : decode cX11_keeps 1 = .ok (.getfield 209, 3) := by decide +kernel
theorem dX11_keeps_4 : decode cX11_keeps 4 = .ok (.bipush 40, 2) := by decide +kernel
theorem dX11_keeps_6 : decode cX11_keeps 6 = .ok (.if_icmp .ne 44, 3) := by decide +kernel
theorem dX11_keeps_9 : decode cX11_keeps 9 = .ok (.bipush 82, 2) := by decide +kernel
theorem dX11_keeps_11 : decode cX11_keeps 11 = .ok (.istore_n 1, 1) := by decide +kernel
theorem dX11_keeps_12 : decode cX11_keeps 12 = .ok (.iload_n 1, 1) := by decide +kernel
theorem dX11_keeps_13 : decode cX11_keeps 13 = .ok (.sipush 3280, 3) := by decide +kernel
theorem dX11_keeps_16 : decode cX11_keeps 16 = .ok (.if_icmp .ge 24, 3) := by decide +kernel
theorem dX11_keeps_19 : decode cX11_keeps 19 = .ok (.aload_n 0, 1) := by decide +kernel
theorem dX11_keeps_20 : decode cX11_keeps 20 = .ok (.getfield 38, 3) := by decide +kernel
theorem dX11_keeps_23 : decode cX11_keeps 23 = .ok (.iload_n 1, 1) := by decide +kernel
theorem dX11_keeps_24 : decode cX11_keeps 24 = .ok (.bipush 82, 2) := by decide +kernel
theorem dX11_keeps_26 : decode cX11_keeps 26 = .ok (.isub, 1) := by decide +kernel
theorem dX11_keeps_27 : decode cX11_keeps 27 = .ok (.aload_n 0, 1) := by decide +kernel
theorem dX11_keeps_28 : decode cX11_keeps 28 = .ok (.getfield 38, 3) := by decide +kernel
theorem dX11_keeps_31 : decode cX11_keeps 31 = .ok (.iload_n 1, 1) := by decide +kernel
theorem dX11_keeps_32 : decode cX11_keeps 32 = .ok (.iaload, 1) := by decide +kernel
theorem dX11_keeps_33 : decode cX11_keeps 33 = .ok (.iastore, 1) := by decide +kernel
theorem dX11_keeps_34 : decode cX11_keeps 34 = .ok (.iinc 1 1, 3) := by decide +kernel
theorem dX11_keeps_37 : decode cX11_keeps 37 = .ok (.goto (-25), 3) := by decide +kernel
theorem dX11_keeps_40 : decode cX11_keeps 40 = .ok (.aload_n 0, 1) := by decide +kernel
theorem dX11_keeps_41 : decode cX11_keeps 41 = .ok (.dup, 1) := by decide +kernel
theorem dX11_keeps_42 : decode cX11_keeps 42 = .ok (.getfield 209, 3) := by decide +kernel
theorem dX11_keeps_45 : decode cX11_keeps 45 = .ok (.iconst 1, 1) := by decide +kernel
theorem dX11_keeps_46 : decode cX11_keeps 46 = .ok (.isub, 1) := by decide +kernel
theorem dX11_keeps_47 : decode cX11_keeps 47 = .ok (.putfield 209, 3) := by decide +kernel
theorem dX11_keeps_50 : decode cX11_keeps 50 = .ok (.iconst 0, 1) := by decide +kernel
theorem dX11_keeps_51 : decode cX11_keeps 51 = .ok (.istore_n 1, 1) := by decide +kernel
theorem dX11_keeps_52 : decode cX11_keeps 52 = .ok (.iload_n 1, 1) := by decide +kernel
theorem dX11_keeps_53 : decode cX11_keeps 53 = .ok (.bipush 82, 2) := by decide +kernel
theorem dX11_keeps_55 : decode cX11_keeps 55 = .ok (.if_icmp .ge 29, 3) := by decide +kernel
theorem dX11_keeps_58 : decode cX11_keeps 58 = .ok (.aload_n 0, 1) := by decide +kernel
theorem dX11_keeps_59 : decode cX11_keeps 59 = .ok (.getfield 38, 3) := by decide +kernel
theorem dX11_keeps_62 : decode cX11_keeps 62 = .ok (.bipush 82, 2) := by decide +kernel
theorem dX11_keeps_64 : decode cX11_keeps 64 = .ok (.aload_n 0, 1) := by decide +kernel
theorem dX11_keeps_65 : decode cX11_keeps 65 = .ok (.getfield 209, 3) := by decide +kernel
theorem dX11_keeps_68 : decode cX11_keeps 68 = .ok (.imul, 1) := by decide +kernel
theorem dX11_keeps_69 : decode cX11_keeps 69 = .ok (.iload_n 1, 1) := by decide +kernel
theorem dX11_keeps_70 : decode cX11_keeps 70 = .ok (.iadd, 1) := by decide +kernel
theorem dX11_keeps_71 : decode cX11_keeps 71 = .ok (.aload_n 0, 1) := by decide +kernel
theorem dX11_keeps_72 : decode cX11_keeps 72 = .ok (.getfield 35, 3) := by decide +kernel
theorem dX11_keeps_75 : decode cX11_keeps 75 = .ok (.iload_n 1, 1) := by decide +kernel
theorem dX11_keeps_76 : decode cX11_keeps 76 = .ok (.iaload, 1) := by decide +kernel
theorem dX11_keeps_77 : decode cX11_keeps 77 = .ok (.iastore, 1) := by decide +kernel
theorem dX11_keeps_78 : decode cX11_keeps 78 = .ok (.iinc 1 1, 3) := by decide +kernel
theorem dX11_keeps_81 : decode cX11_keeps 81 = .ok (.goto (-29), 3) := by decide +kernel
theorem dX11_keeps_84 : decode cX11_keeps 84 = .ok (.aload_n 0, 1) := by decide +kernel
theorem dX11_keeps_85 : decode cX11_keeps 85 = .ok (.dup, 1) := by decide +kernel
theorem dX11_keeps_86 : decode cX11_keeps 86 = .ok (.getfield 209, 3) := by decide +kernel
theorem dX11_keeps_89 : decode cX11_keeps 89 = .ok (.iconst 1, 1) := by decide +kernel
theorem dX11_keeps_90 : decode cX11_keeps 90 = .ok (.iadd, 1) := by decide +kernel
theorem dX11_keeps_91 : decode cX11_keeps 91 = .ok (.putfield 209, 3) := by decide +kernel
theorem dX11_keeps_94 : decode cX11_keeps 94 = .ok (.return_, 1) := by decide +kernel
theorem dX11_refuses_0 : decode cX11_refuses 0 = .ok (.aload_n 0, 1) := by decide +kernel
theorem dX11_refuses_1 : decode cX11_refuses 1 = .ok (.getfield 17, 3) := by decide +kernel
theorem dX11_refuses_4 : decode cX11_refuses 4 = .ok (.iload_n 1, 1) := by decide +kernel
theorem dX11_refuses_5 : decode cX11_refuses 5 = .ok (.dup2, 1) := by decide +kernel
theorem dX11_refuses_6 : decode cX11_refuses 6 = .ok (.iaload, 1) := by decide +kernel
theorem dX11_refuses_7 : decode cX11_refuses 7 = .ok (.iconst 1, 1) := by decide +kernel
theorem dX11_refuses_8 : decode cX11_refuses 8 = .ok (.iadd, 1) := by decide +kernel
theorem dX11_refuses_9 : decode cX11_refuses 9 = .ok (.iastore, 1) := by decide +kernel
theorem dX11_refuses_10 : decode cX11_refuses 10 = .ok (.iconst (-1), 1) := by decide +kernel
theorem dX11_refuses_11 : decode cX11_refuses 11 = .ok (.ireturn, 1) := by decide +kernel
theorem dX11_undo_0 : decode cX11_undo 0 = .ok (.aload_n 0, 1) := by decide +kernel
theorem dX11_undo_1 : decode cX11_undo 1 = .ok (.iconst 0, 1) := by decide +kernel
theorem dX11_undo_2 : decode cX11_undo 2 = .ok (.putfield 96, 3) := by decide +kernel
theorem dX11_undo_5 : decode cX11_undo 5 = .ok (.aload_n 0, 1) := by decide +kernel
theorem dX11_undo_6 : decode cX11_undo 6 = .ok (.getfield 209, 3) := by decide +kernel
theorem dX11_undo_9 : decode cX11_undo 9 = .ok (.ifCond .ne 5, 3) := by decide +kernel
theorem dX11_undo_12 : decode cX11_undo 12 = .ok (.iconst (-1), 1) := by decide +kernel
theorem dX11_undo_13 : decode cX11_undo 13 = .ok (.ireturn, 1) := by decide +kernel
theorem dX11_undo_14 : decode cX11_undo 14 = .ok (.aload_n 0, 1) := by decide +kernel
theorem dX11_undo_15 : decode cX11_undo 15 = .ok (.dup, 1) := by decide +kernel
theorem dX11_undo_16 : decode cX11_undo 16 = .ok (.getfield 209, 3) := by decide +kernel
theorem dX11_undo_19 : decode cX11_undo 19 = .ok (.iconst 1, 1) := by decide +kernel
theorem dX11_undo_20 : decode cX11_undo 20 = .ok (.isub, 1) := by decide +kernel
theorem dX11_undo_21 : decode cX11_undo 21 = .ok (.putfield 209, 3) := by decide +kernel
theorem dX11_undo_24 : decode cX11_undo 24 = .ok (.iconst 0, 1) := by decide +kernel
theorem dX11_undo_25 : decode cX11_undo 25 = .ok (.istore_n 1, 1) := by decide +kernel
theorem dX11_undo_26 : decode cX11_undo 26 = .ok (.iload_n 1, 1) := by decide +kernel
theorem dX11_undo_27 : decode cX11_undo 27 = .ok (.bipush 82, 2) := by decide +kernel
theorem dX11_undo_29 : decode cX11_undo 29 = .ok (.if_icmp .ge 29, 3) := by decide +kernel
theorem dX11_undo_32 : decode cX11_undo 32 = .ok (.aload_n 0, 1) := by decide +kernel
theorem dX11_undo_33 : decode cX11_undo 33 = .ok (.getfield 35, 3) := by decide +kernel
theorem dX11_undo_36 : decode cX11_undo 36 = .ok (.iload_n 1, 1) := by decide +kernel
theorem dX11_undo_37 : decode cX11_undo 37 = .ok (.aload_n 0, 1) := by decide +kernel
theorem dX11_undo_38 : decode cX11_undo 38 = .ok (.getfield 38, 3) := by decide +kernel
theorem dX11_undo_41 : decode cX11_undo 41 = .ok (.bipush 82, 2) := by decide +kernel
theorem dX11_undo_43 : decode cX11_undo 43 = .ok (.aload_n 0, 1) := by decide +kernel
theorem dX11_undo_44 : decode cX11_undo 44 = .ok (.getfield 209, 3) := by decide +kernel
theorem dX11_undo_47 : decode cX11_undo 47 = .ok (.imul, 1) := by decide +kernel
theorem dX11_undo_48 : decode cX11_undo 48 = .ok (.iload_n 1, 1) := by decide +kernel
theorem dX11_undo_49 : decode cX11_undo 49 = .ok (.iadd, 1) := by decide +kernel
theorem dX11_undo_50 : decode cX11_undo 50 = .ok (.iaload, 1) := by decide +kernel
theorem dX11_undo_51 : decode cX11_undo 51 = .ok (.iastore, 1) := by decide +kernel
theorem dX11_undo_52 : decode cX11_undo 52 = .ok (.iinc 1 1, 3) := by decide +kernel
theorem dX11_undo_55 : decode cX11_undo 55 = .ok (.goto (-29), 3) := by decide +kernel
theorem dX11_undo_58 : decode cX11_undo 58 = .ok (.aload_n 0, 1) := by decide +kernel
theorem dX11_undo_59 : decode cX11_undo 59 = .ok (.getfield 209, 3) := by decide +kernel
theorem dX11_undo_62 : decode cX11_undo 62 = .ok (.ireturn, 1) := by decide +kernel
theorem dX11_tries_0 : decode cX11_tries 0 = .ok (.iconst 0, 1) := by decide +kernel
theorem dX11_tries_1 : decode cX11_tries 1 = .ok (.istore_n 1, 1) := by decide +kernel
theorem dX11_tries_2 : decode cX11_tries 2 = .ok (.iload_n 1, 1) := by decide +kernel
theorem dX11_tries_3 : decode cX11_tries 3 = .ok (.bipush 82, 2) := by decide +kernel
theorem dX11_tries_5 : decode cX11_tries 5 = .ok (.if_icmp .ge 24, 3) := by decide +kernel
theorem dX11_tries_8 : decode cX11_tries 8 = .ok (.aload_n 0, 1) := by decide +kernel
theorem dX11_tries_9 : decode cX11_tries 9 = .ok (.getfield 35, 3) := by decide +kernel
theorem dX11_tries_12 : decode cX11_tries 12 = .ok (.bipush 82, 2) := by decide +kernel
theorem dX11_tries_14 : decode cX11_tries 14 = .ok (.iload_n 1, 1) := by decide +kernel
theorem dX11_tries_15 : decode cX11_tries 15 = .ok (.iadd, 1) := by decide +kernel
theorem dX11_tries_16 : decode cX11_tries 16 = .ok (.aload_n 0, 1) := by decide +kernel
theorem dX11_tries_17 : decode cX11_tries 17 = .ok (.getfield 35, 3) := by decide +kernel
theorem dX11_tries_20 : decode cX11_tries 20 = .ok (.iload_n 1, 1) := by decide +kernel
theorem dX11_tries_21 : decode cX11_tries 21 = .ok (.iaload, 1) := by decide +kernel
theorem dX11_tries_22 : decode cX11_tries 22 = .ok (.iastore, 1) := by decide +kernel
theorem dX11_tries_23 : decode cX11_tries 23 = .ok (.iinc 1 1, 3) := by decide +kernel
theorem dX11_tries_26 : decode cX11_tries 26 = .ok (.goto (-24), 3) := by decide +kernel
theorem dX11_tries_29 : decode cX11_tries 29 = .ok (.return_, 1) := by decide +kernel
theorem dX11_isUp_0 : decode cX11_isUp 0 = .ok (.aload_n 0, 1) := by decide +kernel
theorem dX11_isUp_1 : decode cX11_isUp 1 = .ok (.getfield 35, 3) := by decide +kernel
theorem dX11_isUp_4 : decode cX11_isUp 4 = .ok (.iload_n 1, 1) := by decide +kernel
theorem dX11_isUp_5 : decode cX11_isUp 5 = .ok (.iconst 0, 1) := by decide +kernel
theorem dX11_isUp_6 : decode cX11_isUp 6 = .ok (.iadd, 1) := by decide +kernel
theorem dX11_isUp_7 : decode cX11_isUp 7 = .ok (.iaload, 1) := by decide +kernel
theorem dX11_isUp_8 : decode cX11_isUp 8 = .ok (.iload_n 2, 1) := by decide +kernel
theorem dX11_isUp_9 : decode cX11_isUp 9 = .ok (.ishr, 1) := by decide +kernel
theorem dX11_isUp_10 : decode cX11_isUp 10 = .ok (.iconst 1, 1) := by decide +kernel
theorem dX11_isUp_11 : decode cX11_isUp 11 = .ok (.iand, 1) := by decide +kernel
theorem dX11_isUp_12 : decode cX11_isUp 12 = .ok (.iconst 1, 1) := by decide +kernel
theorem dX11_isUp_13 : decode cX11_isUp 13 = .ok (.if_icmp .ne 7, 3) := by decide +kernel
theorem dX11_isUp_16 : decode cX11_isUp 16 = .ok (.iconst 1, 1) := by decide +kernel
theorem dX11_isUp_17 : decode cX11_isUp 17 = .ok (.goto 4, 3) := by decide +kernel
theorem dX11_isUp_20 : decode cX11_isUp 20 = .ok (.iconst 0, 1) := by decide +kernel
theorem dX11_isUp_21 : decode cX11_isUp 21 = .ok (.ireturn, 1) := by decide +kernel
theorem dX11_doesStand_0 : decode cX11_doesStand 0 = .ok (.aload_n 0, 1) := by decide +kernel
theorem dX11_doesStand_1 : decode cX11_doesStand 1 = .ok (.getfield 35, 3) := by decide +kernel
theorem dX11_doesStand_4 : decode cX11_doesStand 4 = .ok (.iload_n 1, 1) := by decide +kernel
theorem dX11_doesStand_5 : decode cX11_doesStand 5 = .ok (.bipush 10, 2) := by decide +kernel
theorem dX11_doesStand_7 : decode cX11_doesStand 7 = .ok (.iadd, 1) := by decide +kernel
theorem dX11_doesStand_8 : decode cX11_doesStand 8 = .ok (.iload_n 2, 1) := by decide +kernel
theorem dX11_doesStand_9 : decode cX11_doesStand 9 = .ok (.iadd, 1) := by decide +kernel
theorem dX11_doesStand_10 : decode cX11_doesStand 10 = .ok (.iaload, 1) := by decide +kernel
theorem dX11_doesStand_11 : decode cX11_doesStand 11 = .ok (.iconst (-1), 1) := by decide +kernel
theorem dX11_doesStand_12 : decode cX11_doesStand 12 = .ok (.if_icmp .eq 7, 3) := by decide +kernel
theorem dX11_doesStand_15 : decode cX11_doesStand 15 = .ok (.iconst 1, 1) := by decide +kernel
theorem dX11_doesStand_16 : decode cX11_doesStand 16 = .ok (.goto 4, 3) := by decide +kernel
theorem dX11_doesStand_19 : decode cX11_doesStand 19 = .ok (.iconst 0, 1) := by decide +kernel
theorem dX11_doesStand_20 : decode cX11_doesStand 20 = .ok (.ireturn, 1) := by decide +kernel
theorem dX11_standing_0 : decode cX11_standing 0 = .ok (.iconst 0, 1) := by decide +kernel
theorem dX11_standing_1 : decode cX11_standing 1 = .ok (.istore_n 2, 1) := by decide +kernel
theorem dX11_standing_2 : decode cX11_standing 2 = .ok (.iconst 0, 1) := by decide +kernel
theorem dX11_standing_3 : decode cX11_standing 3 = .ok (.istore_n 3, 1) := by decide +kernel
theorem dX11_standing_4 : decode cX11_standing 4 = .ok (.iload_n 3, 1) := by decide +kernel
theorem dX11_standing_5 : decode cX11_standing 5 = .ok (.aload_n 0, 1) := by decide +kernel
theorem dX11_standing_6 : decode cX11_standing 6 = .ok (.getfield 202, 3) := by decide +kernel
theorem dX11_standing_9 : decode cX11_standing 9 = .ok (.if_icmp .ge 28, 3) := by decide +kernel
theorem dX11_standing_12 : decode cX11_standing 12 = .ok (.iload_n 2, 1) := by decide +kernel
theorem dX11_standing_13 : decode cX11_standing 13 = .ok (.aload_n 0, 1) := by decide +kernel
theorem dX11_standing_14 : decode cX11_standing 14 = .ok (.iload_n 1, 1) := by decide +kernel
theorem dX11_standing_15 : decode cX11_standing 15 = .ok (.iload_n 3, 1) := by decide +kernel
theorem dX11_standing_16 : decode cX11_standing 16 = .ok (.invokevirtual 219, 3) := by decide +kernel
theorem dX11_standing_19 : decode cX11_standing 19 = .ok (.ifCond .eq 9, 3) := by decide +kernel
theorem dX11_standing_22 : decode cX11_standing 22 = .ok (.iconst 1, 1) := by decide +kernel
theorem dX11_standing_23 : decode cX11_standing 23 = .ok (.iload_n 3, 1) := by decide +kernel
theorem dX11_standing_24 : decode cX11_standing 24 = .ok (.ishl, 1) := by decide +kernel
theorem dX11_standing_25 : decode cX11_standing 25 = .ok (.goto 4, 3) := by decide +kernel
theorem dX11_standing_28 : decode cX11_standing 28 = .ok (.iconst 0, 1) := by decide +kernel
theorem dX11_standing_29 : decode cX11_standing 29 = .ok (.ior, 1) := by decide +kernel
theorem dX11_standing_30 : decode cX11_standing 30 = .ok (.istore_n 2, 1) := by decide +kernel
theorem dX11_standing_31 : decode cX11_standing 31 = .ok (.iinc 3 1, 3) := by decide +kernel
theorem dX11_standing_34 : decode cX11_standing 34 = .ok (.goto (-30), 3) := by decide +kernel
theorem dX11_standing_37 : decode cX11_standing 37 = .ok (.iload_n 2, 1) := by decide +kernel
theorem dX11_standing_38 : decode cX11_standing 38 = .ok (.ireturn, 1) := by decide +kernel
theorem dX11_wayBits_0 : decode cX11_wayBits 0 = .ok (.iconst 0, 1) := by decide +kernel
theorem dX11_wayBits_1 : decode cX11_wayBits 1 = .ok (.istore_n 3, 1) := by decide +kernel
theorem dX11_wayBits_2 : decode cX11_wayBits 2 = .ok (.iconst 0, 1) := by decide +kernel
theorem dX11_wayBits_3 : decode cX11_wayBits 3 = .ok (.istore 4, 2) := by decide +kernel
theorem dX11_wayBits_5 : decode cX11_wayBits 5 = .ok (.iload 4, 2) := by decide +kernel
theorem dX11_wayBits_7 : decode cX11_wayBits 7 = .ok (.aload_n 0, 1) := by decide +kernel
theorem dX11_wayBits_8 : decode cX11_wayBits 8 = .ok (.getfield 35, 3) := by decide +kernel
theorem dX11_wayBits_11 : decode cX11_wayBits 11 = .ok (.iload_n 1, 1) := by decide +kernel
theorem dX11_wayBits_12 : decode cX11_wayBits 12 = .ok (.bipush 10, 2) := by decide +kernel
theorem dX11_wayBits_14 : decode cX11_wayBits 14 = .ok (.iadd, 1) := by decide +kernel
theorem dX11_wayBits_15 : decode cX11_wayBits 15 = .ok (.iload_n 2, 1) := by decide +kernel
theorem dX11_wayBits_16 : decode cX11_wayBits 16 = .ok (.iadd, 1) := by decide +kernel
theorem dX11_wayBits_17 : decode cX11_wayBits 17 = .ok (.iaload, 1) := by decide +kernel
theorem dX11_wayBits_18 : decode cX11_wayBits 18 = .ok (.if_icmp .ge 31, 3) := by decide +kernel
theorem dX11_wayBits_21 : decode cX11_wayBits 21 = .ok (.iload_n 3, 1) := by decide +kernel
theorem dX11_wayBits_22 : decode cX11_wayBits 22 = .ok (.iconst 1, 1) := by decide +kernel
theorem dX11_wayBits_23 : decode cX11_wayBits 23 = .ok (.aload_n 0, 1) := by decide +kernel
theorem dX11_wayBits_24 : decode cX11_wayBits 24 = .ok (.getfield 35, 3) := by decide +kernel
theorem dX11_wayBits_27 : decode cX11_wayBits 27 = .ok (.iload_n 1, 1) := by decide +kernel
theorem dX11_wayBits_28 : decode cX11_wayBits 28 = .ok (.bipush 19, 2) := by decide +kernel
theorem dX11_wayBits_30 : decode cX11_wayBits 30 = .ok (.iadd, 1) := by decide +kernel
theorem dX11_wayBits_31 : decode cX11_wayBits 31 = .ok (.bipush 7, 2) := by decide +kernel
theorem dX11_wayBits_33 : decode cX11_wayBits 33 = .ok (.iload_n 2, 1) := by decide +kernel
theorem dX11_wayBits_34 : decode cX11_wayBits 34 = .ok (.imul, 1) := by decide +kernel
theorem dX11_wayBits_35 : decode cX11_wayBits 35 = .ok (.iadd, 1) := by decide +kernel
theorem dX11_wayBits_36 : decode cX11_wayBits 36 = .ok (.iload 4, 2) := by decide +kernel
theorem dX11_wayBits_38 : decode cX11_wayBits 38 = .ok (.iadd, 1) := by decide +kernel
theorem dX11_wayBits_39 : decode cX11_wayBits 39 = .ok (.iaload, 1) := by decide +kernel
theorem dX11_wayBits_40 : decode cX11_wayBits 40 = .ok (.ishl, 1) := by decide +kernel
theorem dX11_wayBits_41 : decode cX11_wayBits 41 = .ok (.ior, 1) := by decide +kernel
theorem dX11_wayBits_42 : decode cX11_wayBits 42 = .ok (.istore_n 3, 1) := by decide +kernel
theorem dX11_wayBits_43 : decode cX11_wayBits 43 = .ok (.iinc 4 1, 3) := by decide +kernel
theorem dX11_wayBits_46 : decode cX11_wayBits 46 = .ok (.goto (-41), 3) := by decide +kernel
theorem dX11_wayBits_49 : decode cX11_wayBits 49 = .ok (.iload_n 3, 1) := by decide +kernel
theorem dX11_wayBits_50 : decode cX11_wayBits 50 = .ok (.ireturn, 1) := by decide +kernel
theorem dX11_metric_0 : decode cX11_metric 0 = .ok (.iconst 0, 1) := by decide +kernel
theorem dX11_metric_1 : decode cX11_metric 1 = .ok (.istore_n 2, 1) := by decide +kernel
theorem dX11_metric_2 : decode cX11_metric 2 = .ok (.iconst 0, 1) := by decide +kernel
theorem dX11_metric_3 : decode cX11_metric 3 = .ok (.istore_n 3, 1) := by decide +kernel
theorem dX11_metric_4 : decode cX11_metric 4 = .ok (.iload_n 3, 1) := by decide +kernel
theorem dX11_metric_5 : decode cX11_metric 5 = .ok (.aload_n 0, 1) := by decide +kernel
theorem dX11_metric_6 : decode cX11_metric 6 = .ok (.getfield 199, 3) := by decide +kernel
theorem dX11_metric_9 : decode cX11_metric 9 = .ok (.if_icmp .ge 28, 3) := by decide +kernel
theorem dX11_metric_12 : decode cX11_metric 12 = .ok (.iload_n 2, 1) := by decide +kernel
theorem dX11_metric_13 : decode cX11_metric 13 = .ok (.iload_n 1, 1) := by decide +kernel
theorem dX11_metric_14 : decode cX11_metric 14 = .ok (.iload_n 3, 1) := by decide +kernel
theorem dX11_metric_15 : decode cX11_metric 15 = .ok (.ishr, 1) := by decide +kernel
theorem dX11_metric_16 : decode cX11_metric 16 = .ok (.iconst 1, 1) := by decide +kernel
theorem dX11_metric_17 : decode cX11_metric 17 = .ok (.iand, 1) := by decide +kernel
theorem dX11_metric_18 : decode cX11_metric 18 = .ok (.aload_n 0, 1) := by decide +kernel
theorem dX11_metric_19 : decode cX11_metric 19 = .ok (.getfield 23, 3) := by decide +kernel
theorem dX11_metric_22 : decode cX11_metric 22 = .ok (.iconst 5, 1) := by decide +kernel
theorem dX11_metric_23 : decode cX11_metric 23 = .ok (.iload_n 3, 1) := by decide +kernel
theorem dX11_metric_24 : decode cX11_metric 24 = .ok (.imul, 1) := by decide +kernel
theorem dX11_metric_25 : decode cX11_metric 25 = .ok (.iconst 2, 1) := by decide +kernel
theorem dX11_metric_26 : decode cX11_metric 26 = .ok (.iadd, 1) := by decide +kernel
theorem dX11_metric_27 : decode cX11_metric 27 = .ok (.iaload, 1) := by decide +kernel
theorem dX11_metric_28 : decode cX11_metric 28 = .ok (.imul, 1) := by decide +kernel
theorem dX11_metric_29 : decode cX11_metric 29 = .ok (.iadd, 1) := by decide +kernel
theorem dX11_metric_30 : decode cX11_metric 30 = .ok (.istore_n 2, 1) := by decide +kernel
theorem dX11_metric_31 : decode cX11_metric 31 = .ok (.iinc 3 1, 3) := by decide +kernel
theorem dX11_metric_34 : decode cX11_metric 34 = .ok (.goto (-30), 3) := by decide +kernel
theorem dX11_metric_37 : decode cX11_metric 37 = .ok (.iload_n 2, 1) := by decide +kernel
theorem dX11_metric_38 : decode cX11_metric 38 = .ok (.ireturn, 1) := by decide +kernel
theorem dX11_setupOf_0 : decode cX11_setupOf 0 = .ok (.aload_n 0, 1) := by decide +kernel
theorem dX11_setupOf_1 : decode cX11_setupOf 1 = .ok (.getfield 29, 3) := by decide +kernel
theorem dX11_setupOf_4 : decode cX11_setupOf 4 = .ok (.bipush 7, 2) := by decide +kernel
theorem dX11_setupOf_6 : decode cX11_setupOf 6 = .ok (.iload_n 1, 1) := by decide +kernel
theorem dX11_setupOf_7 : decode cX11_setupOf 7 = .ok (.imul, 1) := by decide +kernel
theorem dX11_setupOf_8 : decode cX11_setupOf 8 = .ok (.iconst 3, 1) := by decide +kernel
theorem dX11_setupOf_9 : decode cX11_setupOf 9 = .ok (.iadd, 1) := by decide +kernel
theorem dX11_setupOf_10 : decode cX11_setupOf 10 = .ok (.iaload, 1) := by decide +kernel
theorem dX11_setupOf_11 : decode cX11_setupOf 11 = .ok (.ireturn, 1) := by decide +kernel
theorem dX11_holdOf_0 : decode cX11_holdOf 0 = .ok (.aload_n 0, 1) := by decide +kernel
theorem dX11_holdOf_1 : decode cX11_holdOf 1 = .ok (.getfield 29, 3) := by decide +kernel
theorem dX11_holdOf_4 : decode cX11_holdOf 4 = .ok (.bipush 7, 2) := by decide +kernel
theorem dX11_holdOf_6 : decode cX11_holdOf 6 = .ok (.iload_n 1, 1) := by decide +kernel
theorem dX11_holdOf_7 : decode cX11_holdOf 7 = .ok (.imul, 1) := by decide +kernel
theorem dX11_holdOf_8 : decode cX11_holdOf 8 = .ok (.iconst 4, 1) := by decide +kernel
theorem dX11_holdOf_9 : decode cX11_holdOf 9 = .ok (.iadd, 1) := by decide +kernel
theorem dX11_holdOf_10 : decode cX11_holdOf 10 = .ok (.iaload, 1) := by decide +kernel
theorem dX11_holdOf_11 : decode cX11_holdOf 11 = .ok (.ireturn, 1) := by decide +kernel
theorem dX11_poolAt_0 : decode cX11_poolAt 0 = .ok (.aload_n 0, 1) := by decide +kernel
theorem dX11_poolAt_1 : decode cX11_poolAt 1 = .ok (.getfield 23, 3) := by decide +kernel
theorem dX11_poolAt_4 : decode cX11_poolAt 4 = .ok (.iconst 5, 1) := by decide +kernel
theorem dX11_poolAt_5 : decode cX11_poolAt 5 = .ok (.iload_n 2, 1) := by decide +kernel
theorem dX11_poolAt_6 : decode cX11_poolAt 6 = .ok (.imul, 1) := by decide +kernel
theorem dX11_poolAt_7 : decode cX11_poolAt 7 = .ok (.iconst 3, 1) := by decide +kernel
theorem dX11_poolAt_8 : decode cX11_poolAt 8 = .ok (.iadd, 1) := by decide +kernel
theorem dX11_poolAt_9 : decode cX11_poolAt 9 = .ok (.iaload, 1) := by decide +kernel
theorem dX11_poolAt_10 : decode cX11_poolAt 10 = .ok (.istore 4, 2) := by decide +kernel
theorem dX11_poolAt_12 : decode cX11_poolAt 12 = .ok (.iconst 0, 1) := by decide +kernel
theorem dX11_poolAt_13 : decode cX11_poolAt 13 = .ok (.istore 5, 2) := by decide +kernel
theorem dX11_poolAt_15 : decode cX11_poolAt 15 = .ok (.iload 5, 2) := by decide +kernel
theorem dX11_poolAt_17 : decode cX11_poolAt 17 = .ok (.aload_n 0, 1) := by decide +kernel
theorem dX11_poolAt_18 : decode cX11_poolAt 18 = .ok (.getfield 202, 3) := by decide +kernel
theorem dX11_poolAt_21 : decode cX11_poolAt 21 = .ok (.if_icmp .ge 50, 3) := by decide +kernel
theorem dX11_poolAt_24 : decode cX11_poolAt 24 = .ok (.aload_n 0, 1) := by decide +kernel
theorem dX11_poolAt_25 : decode cX11_poolAt 25 = .ok (.iload 5, 2) := by decide +kernel
theorem dX11_poolAt_27 : decode cX11_poolAt 27 = .ok (.invokevirtual 223, 3) := by decide +kernel
theorem dX11_poolAt_30 : decode cX11_poolAt 30 = .ok (.iload_n 3, 1) := by decide +kernel
theorem dX11_poolAt_31 : decode cX11_poolAt 31 = .ok (.if_icmp .gt 34, 3) := by decide +kernel
theorem dX11_poolAt_34 : decode cX11_poolAt 34 = .ok (.aload_n 0, 1) := by decide +kernel
theorem dX11_poolAt_35 : decode cX11_poolAt 35 = .ok (.iload_n 1, 1) := by decide +kernel
theorem dX11_poolAt_36 : decode cX11_poolAt 36 = .ok (.iload 5, 2) := by decide +kernel
theorem dX11_poolAt_38 : decode cX11_poolAt 38 = .ok (.invokevirtual 226, 3) := by decide +kernel
theorem dX11_poolAt_41 : decode cX11_poolAt 41 = .ok (.iload_n 2, 1) := by decide +kernel
theorem dX11_poolAt_42 : decode cX11_poolAt 42 = .ok (.ishr, 1) := by decide +kernel
theorem dX11_poolAt_43 : decode cX11_poolAt 43 = .ok (.iconst 1, 1) := by decide +kernel
theorem dX11_poolAt_44 : decode cX11_poolAt 44 = .ok (.iand, 1) := by decide +kernel
theorem dX11_poolAt_45 : decode cX11_poolAt 45 = .ok (.iconst 1, 1) := by decide +kernel
theorem dX11_poolAt_46 : decode cX11_poolAt 46 = .ok (.if_icmp .ne 19, 3) := by decide +kernel
theorem dX11_poolAt_49 : decode cX11_poolAt 49 = .ok (.iload 4, 2) := by decide +kernel
theorem dX11_poolAt_51 : decode cX11_poolAt 51 = .ok (.aload_n 0, 1) := by decide +kernel
theorem dX11_poolAt_52 : decode cX11_poolAt 52 = .ok (.getfield 35, 3) := by decide +kernel
theorem dX11_poolAt_55 : decode cX11_poolAt 55 = .ok (.iload_n 1, 1) := by decide +kernel
theorem dX11_poolAt_56 : decode cX11_poolAt 56 = .ok (.iconst 1, 1) := by decide +kernel
theorem dX11_poolAt_57 : decode cX11_poolAt 57 = .ok (.iadd, 1) := by decide +kernel
theorem dX11_poolAt_58 : decode cX11_poolAt 58 = .ok (.iload 5, 2) := by decide +kernel
theorem dX11_poolAt_60 : decode cX11_poolAt 60 = .ok (.iadd, 1) := by decide +kernel
theorem dX11_poolAt_61 : decode cX11_poolAt 61 = .ok (.iaload, 1) := by decide +kernel
theorem dX11_poolAt_62 : decode cX11_poolAt 62 = .ok (.isub, 1) := by decide +kernel
theorem dX11_poolAt_63 : decode cX11_poolAt 63 = .ok (.istore 4, 2) := by decide +kernel
theorem dX11_poolAt_65 : decode cX11_poolAt 65 = .ok (.iinc 5 1, 3) := by decide +kernel
theorem dX11_poolAt_68 : decode cX11_poolAt 68 = .ok (.goto (-53), 3) := by decide +kernel
theorem dX11_poolAt_71 : decode cX11_poolAt 71 = .ok (.iload 4, 2) := by decide +kernel
theorem dX11_poolAt_73 : decode cX11_poolAt 73 = .ok (.ireturn, 1) := by decide +kernel
theorem dX11_takenAt_0 : decode cX11_takenAt 0 = .ok (.aload_n 0, 1) := by decide +kernel
theorem dX11_takenAt_1 : decode cX11_takenAt 1 = .ok (.getfield 23, 3) := by decide +kernel
theorem dX11_takenAt_4 : decode cX11_takenAt 4 = .ok (.iconst 5, 1) := by decide +kernel
theorem dX11_takenAt_5 : decode cX11_takenAt 5 = .ok (.iload_n 2, 1) := by decide +kernel
theorem dX11_takenAt_6 : decode cX11_takenAt 6 = .ok (.imul, 1) := by decide +kernel
theorem dX11_takenAt_7 : decode cX11_takenAt 7 = .ok (.iconst 3, 1) := by decide +kernel
theorem dX11_takenAt_8 : decode cX11_takenAt 8 = .ok (.iadd, 1) := by decide +kernel
theorem dX11_takenAt_9 : decode cX11_takenAt 9 = .ok (.iaload, 1) := by decide +kernel
theorem dX11_takenAt_10 : decode cX11_takenAt 10 = .ok (.aload_n 0, 1) := by decide +kernel
theorem dX11_takenAt_11 : decode cX11_takenAt 11 = .ok (.iload_n 1, 1) := by decide +kernel
theorem dX11_takenAt_12 : decode cX11_takenAt 12 = .ok (.iload_n 2, 1) := by decide +kernel
theorem dX11_takenAt_13 : decode cX11_takenAt 13 = .ok (.bipush 7, 2) := by decide +kernel
theorem dX11_takenAt_15 : decode cX11_takenAt 15 = .ok (.invokevirtual 229, 3) := by decide +kernel
theorem dX11_takenAt_18 : decode cX11_takenAt 18 = .ok (.isub, 1) := by decide +kernel
theorem dX11_takenAt_19 : decode cX11_takenAt 19 = .ok (.ireturn, 1) := by decide +kernel
theorem dX11_laysPools_0 : decode cX11_laysPools 0 = .ok (.iload_n 2, 1) := by decide +kernel
theorem dX11_laysPools_1 : decode cX11_laysPools 1 = .ok (.iconst (-1), 1) := by decide +kernel
theorem dX11_laysPools_2 : decode cX11_laysPools 2 = .ok (.if_icmp .ne 7, 3) := by decide +kernel
theorem dX11_laysPools_5 : decode cX11_laysPools 5 = .ok (.iconst 0, 1) := by decide +kernel
theorem dX11_laysPools_6 : decode cX11_laysPools 6 = .ok (.goto 9, 3) := by decide +kernel
theorem dX11_laysPools_9 : decode cX11_laysPools 9 = .ok (.aload_n 0, 1) := by decide +kernel
theorem dX11_laysPools_10 : decode cX11_laysPools 10 = .ok (.iload_n 1, 1) := by decide +kernel
theorem dX11_laysPools_11 : decode cX11_laysPools 11 = .ok (.iload_n 2, 1) := by decide +kernel
theorem dX11_laysPools_12 : decode cX11_laysPools 12 = .ok (.invokevirtual 226, 3) := by decide +kernel
theorem dX11_laysPools_15 : decode cX11_laysPools 15 = .ok (.istore 6, 2) := by decide +kernel
theorem dX11_laysPools_17 : decode cX11_laysPools 17 = .ok (.iconst 0, 1) := by decide +kernel
theorem dX11_laysPools_18 : decode cX11_laysPools 18 = .ok (.istore 7, 2) := by decide +kernel
theorem dX11_laysPools_20 : decode cX11_laysPools 20 = .ok (.iload 7, 2) := by decide +kernel
theorem dX11_laysPools_22 : decode cX11_laysPools 22 = .ok (.aload_n 0, 1) := by decide +kernel
theorem dX11_laysPools_23 : decode cX11_laysPools 23 = .ok (.getfield 199, 3) := by decide +kernel
theorem dX11_laysPools_26 : decode cX11_laysPools 26 = .ok (.if_icmp .ge 116, 3) := by decide +kernel
theorem dX11_laysPools_29 : decode cX11_laysPools 29 = .ok (.iload 6, 2) := by decide +kernel
theorem dX11_laysPools_31 : decode cX11_laysPools 31 = .ok (.iload 7, 2) := by decide +kernel
theorem dX11_laysPools_33 : decode cX11_laysPools 33 = .ok (.ishr, 1) := by decide +kernel
theorem dX11_laysPools_34 : decode cX11_laysPools 34 = .ok (.iconst 1, 1) := by decide +kernel
theorem dX11_laysPools_35 : decode cX11_laysPools 35 = .ok (.iand, 1) := by decide +kernel
theorem dX11_laysPools_36 : decode cX11_laysPools 36 = .ok (.iconst 1, 1) := by decide +kernel
theorem dX11_laysPools_37 : decode cX11_laysPools 37 = .ok (.if_icmp .ne 16, 3) := by decide +kernel
theorem dX11_laysPools_40 : decode cX11_laysPools 40 = .ok (.aload_n 0, 1) := by decide +kernel
theorem dX11_laysPools_41 : decode cX11_laysPools 41 = .ok (.getfield 35, 3) := by decide +kernel
theorem dX11_laysPools_44 : decode cX11_laysPools 44 = .ok (.iload_n 1, 1) := by decide +kernel
theorem dX11_laysPools_45 : decode cX11_laysPools 45 = .ok (.iconst 1, 1) := by decide +kernel
theorem dX11_laysPools_46 : decode cX11_laysPools 46 = .ok (.iadd, 1) := by decide +kernel
theorem dX11_laysPools_47 : decode cX11_laysPools 47 = .ok (.iload_n 2, 1) := by decide +kernel
theorem dX11_laysPools_48 : decode cX11_laysPools 48 = .ok (.iadd, 1) := by decide +kernel
theorem dX11_laysPools_49 : decode cX11_laysPools 49 = .ok (.iaload, 1) := by decide +kernel
theorem dX11_laysPools_50 : decode cX11_laysPools 50 = .ok (.goto 4, 3) := by decide +kernel
theorem dX11_laysPools_53 : decode cX11_laysPools 53 = .ok (.iconst 0, 1) := by decide +kernel
theorem dX11_laysPools_54 : decode cX11_laysPools 54 = .ok (.istore 8, 2) := by decide +kernel
theorem dX11_laysPools_56 : decode cX11_laysPools 56 = .ok (.aload_n 0, 1) := by decide +kernel
theorem dX11_laysPools_57 : decode cX11_laysPools 57 = .ok (.getfield 45, 3) := by decide +kernel
theorem dX11_laysPools_60 : decode cX11_laysPools 60 = .ok (.iload 7, 2) := by decide +kernel
theorem dX11_laysPools_62 : decode cX11_laysPools 62 = .ok (.aload_n 0, 1) := by decide +kernel
theorem dX11_laysPools_63 : decode cX11_laysPools 63 = .ok (.iload_n 1, 1) := by decide +kernel
theorem dX11_laysPools_64 : decode cX11_laysPools 64 = .ok (.iload 7, 2) := by decide +kernel
theorem dX11_laysPools_66 : decode cX11_laysPools 66 = .ok (.bipush 7, 2) := by decide +kernel
theorem dX11_laysPools_68 : decode cX11_laysPools 68 = .ok (.invokevirtual 229, 3) := by decide +kernel
theorem dX11_laysPools_71 : decode cX11_laysPools 71 = .ok (.iload 8, 2) := by decide +kernel
theorem dX11_laysPools_73 : decode cX11_laysPools 73 = .ok (.iadd, 1) := by decide +kernel
theorem dX11_laysPools_74 : decode cX11_laysPools 74 = .ok (.iastore, 1) := by decide +kernel
theorem dX11_laysPools_75 : decode cX11_laysPools 75 = .ok (.aload_n 0, 1) := by decide +kernel
theorem dX11_laysPools_76 : decode cX11_laysPools 76 = .ok (.getfield 41, 3) := by decide +kernel
theorem dX11_laysPools_79 : decode cX11_laysPools 79 = .ok (.iload 7, 2) := by decide +kernel
theorem dX11_laysPools_81 : decode cX11_laysPools 81 = .ok (.aload_n 0, 1) := by decide +kernel
theorem dX11_laysPools_82 : decode cX11_laysPools 82 = .ok (.iload_n 1, 1) := by decide +kernel
theorem dX11_laysPools_83 : decode cX11_laysPools 83 = .ok (.iload 7, 2) := by decide +kernel
theorem dX11_laysPools_85 : decode cX11_laysPools 85 = .ok (.invokevirtual 233, 3) := by decide +kernel
theorem dX11_laysPools_88 : decode cX11_laysPools 88 = .ok (.ifCond .eq 46, 3) := by decide +kernel
theorem dX11_laysPools_91 : decode cX11_laysPools 91 = .ok (.aload_n 0, 1) := by decide +kernel
theorem dX11_laysPools_92 : decode cX11_laysPools 92 = .ok (.getfield 23, 3) := by decide +kernel
theorem dX11_laysPools_95 : decode cX11_laysPools 95 = .ok (.iconst 5, 1) := by decide +kernel
theorem dX11_laysPools_96 : decode cX11_laysPools 96 = .ok (.iload 7, 2) := by decide +kernel
theorem dX11_laysPools_98 : decode cX11_laysPools 98 = .ok (.imul, 1) := by decide +kernel
theorem dX11_laysPools_99 : decode cX11_laysPools 99 = .ok (.iconst 4, 1) := by decide +kernel
theorem dX11_laysPools_100 : decode cX11_laysPools 100 = .ok (.iadd, 1) := by decide +kernel
theorem dX11_laysPools_101 : decode cX11_laysPools 101 = .ok (.iaload, 1) := by decide +kernel
theorem dX11_laysPools_102 : decode cX11_laysPools 102 = .ok (.iload 5, 2) := by decide +kernel
theorem dX11_laysPools_104 : decode cX11_laysPools 104 = .ok (.iand, 1) := by decide +kernel
theorem dX11_laysPools_105 : decode cX11_laysPools 105 = .ok (.ifCond .ne 29, 3) := by decide +kernel
theorem dX11_laysPools_108 : decode cX11_laysPools 108 = .ok (.iload 4, 2) := by decide +kernel
theorem dX11_laysPools_110 : decode cX11_laysPools 110 = .ok (.iconst (-1), 1) := by decide +kernel
theorem dX11_laysPools_111 : decode cX11_laysPools 111 = .ok (.if_icmp .eq 19, 3) := by decide +kernel
theorem dX11_laysPools_114 : decode cX11_laysPools 114 = .ok (.aload_n 0, 1) := by decide +kernel
theorem dX11_laysPools_115 : decode cX11_laysPools 115 = .ok (.iload_n 1, 1) := by decide +kernel
theorem dX11_laysPools_116 : decode cX11_laysPools 116 = .ok (.iload 7, 2) := by decide +kernel
theorem dX11_laysPools_118 : decode cX11_laysPools 118 = .ok (.iload 4, 2) := by decide +kernel
theorem dX11_laysPools_120 : decode cX11_laysPools 120 = .ok (.invokevirtual 229, 3) := by decide +kernel
theorem dX11_laysPools_123 : decode cX11_laysPools 123 = .ok (.iload 8, 2) := by decide +kernel
theorem dX11_laysPools_125 : decode cX11_laysPools 125 = .ok (.iadd, 1) := by decide +kernel
theorem dX11_laysPools_126 : decode cX11_laysPools 126 = .ok (.iload_n 3, 1) := by decide +kernel
theorem dX11_laysPools_127 : decode cX11_laysPools 127 = .ok (.if_icmp .lt 7, 3) := by decide +kernel
theorem dX11_laysPools_130 : decode cX11_laysPools 130 = .ok (.iconst 1, 1) := by decide +kernel
theorem dX11_laysPools_131 : decode cX11_laysPools 131 = .ok (.goto 4, 3) := by decide +kernel
theorem dX11_laysPools_134 : decode cX11_laysPools 134 = .ok (.iconst 0, 1) := by decide +kernel
theorem dX11_laysPools_135 : decode cX11_laysPools 135 = .ok (.bastore, 1) := by decide +kernel
theorem dX11_laysPools_136 : decode cX11_laysPools 136 = .ok (.iinc 7 1, 3) := by decide +kernel
theorem dX11_laysPools_139 : decode cX11_laysPools 139 = .ok (.goto (-119), 3) := by decide +kernel
theorem dX11_laysPools_142 : decode cX11_laysPools 142 = .ok (.return_, 1) := by decide +kernel
theorem dX11_laysBest_0 : decode cX11_laysBest 0 = .ok (.iconst 0, 1) := by decide +kernel
theorem dX11_laysBest_1 : decode cX11_laysBest 1 = .ok (.istore_n 2, 1) := by decide +kernel
theorem dX11_laysBest_2 : decode cX11_laysBest 2 = .ok (.ldc 236, 2) := by decide +kernel
theorem dX11_laysBest_4 : decode cX11_laysBest 4 = .ok (.istore_n 3, 1) := by decide +kernel
theorem dX11_laysBest_5 : decode cX11_laysBest 5 = .ok (.iconst 0, 1) := by decide +kernel
theorem dX11_laysBest_6 : decode cX11_laysBest 6 = .ok (.istore 4, 2) := by decide +kernel
theorem dX11_laysBest_8 : decode cX11_laysBest 8 = .ok (.iload 4, 2) := by decide +kernel
theorem dX11_laysBest_10 : decode cX11_laysBest 10 = .ok (.iload_n 1, 1) := by decide +kernel
theorem dX11_laysBest_11 : decode cX11_laysBest 11 = .ok (.if_icmp .ge 38, 3) := by decide +kernel
theorem dX11_laysBest_14 : decode cX11_laysBest 14 = .ok (.iload_n 2, 1) := by decide +kernel
theorem dX11_laysBest_15 : decode cX11_laysBest 15 = .ok (.iconst 1, 1) := by decide +kernel
theorem dX11_laysBest_16 : decode cX11_laysBest 16 = .ok (.aload_n 0, 1) := by decide +kernel
theorem dX11_laysBest_17 : decode cX11_laysBest 17 = .ok (.getfield 48, 3) := by decide +kernel
theorem dX11_laysBest_20 : decode cX11_laysBest 20 = .ok (.iload 4, 2) := by decide +kernel
theorem dX11_laysBest_22 : decode cX11_laysBest 22 = .ok (.iaload, 1) := by decide +kernel
theorem dX11_laysBest_23 : decode cX11_laysBest 23 = .ok (.ishl, 1) := by decide +kernel
theorem dX11_laysBest_24 : decode cX11_laysBest 24 = .ok (.ior, 1) := by decide +kernel
theorem dX11_laysBest_25 : decode cX11_laysBest 25 = .ok (.istore_n 2, 1) := by decide +kernel
theorem dX11_laysBest_26 : decode cX11_laysBest 26 = .ok (.iload_n 3, 1) := by decide +kernel
theorem dX11_laysBest_27 : decode cX11_laysBest 27 = .ok (.aload_n 0, 1) := by decide +kernel
theorem dX11_laysBest_28 : decode cX11_laysBest 28 = .ok (.getfield 45, 3) := by decide +kernel
theorem dX11_laysBest_31 : decode cX11_laysBest 31 = .ok (.aload_n 0, 1) := by decide +kernel
theorem dX11_laysBest_32 : decode cX11_laysBest 32 = .ok (.getfield 48, 3) := by decide +kernel
theorem dX11_laysBest_35 : decode cX11_laysBest 35 = .ok (.iload 4, 2) := by decide +kernel
theorem dX11_laysBest_37 : decode cX11_laysBest 37 = .ok (.iaload, 1) := by decide +kernel
theorem dX11_laysBest_38 : decode cX11_laysBest 38 = .ok (.iaload, 1) := by decide +kernel
theorem dX11_laysBest_39 : decode cX11_laysBest 39 = .ok (.invokestatic 237, 3) := by decide +kernel
theorem dX11_laysBest_42 : decode cX11_laysBest 42 = .ok (.istore_n 3, 1) := by decide +kernel
theorem dX11_laysBest_43 : decode cX11_laysBest 43 = .ok (.iinc 4 1, 3) := by decide +kernel
theorem dX11_laysBest_46 : decode cX11_laysBest 46 = .ok (.goto (-38), 3) := by decide +kernel
theorem dX11_laysBest_49 : decode cX11_laysBest 49 = .ok (.aload_n 0, 1) := by decide +kernel
theorem dX11_laysBest_50 : decode cX11_laysBest 50 = .ok (.iload_n 2, 1) := by decide +kernel
theorem dX11_laysBest_51 : decode cX11_laysBest 51 = .ok (.invokevirtual 240, 3) := by decide +kernel
theorem dX11_laysBest_54 : decode cX11_laysBest 54 = .ok (.istore 4, 2) := by decide +kernel
theorem dX11_laysBest_56 : decode cX11_laysBest 56 = .ok (.aload_n 0, 1) := by decide +kernel
theorem dX11_laysBest_57 : decode cX11_laysBest 57 = .ok (.getfield 243, 3) := by decide +kernel
theorem dX11_laysBest_60 : decode cX11_laysBest 60 = .ok (.sipush 2048, 3) := by decide +kernel
theorem dX11_laysBest_63 : decode cX11_laysBest 63 = .ok (.if_icmp .ge 34, 3) := by decide +kernel
theorem dX11_laysBest_66 : decode cX11_laysBest 66 = .ok (.aload_n 0, 1) := by decide +kernel
theorem dX11_laysBest_67 : decode cX11_laysBest 67 = .ok (.getfield 54, 3) := by decide +kernel
theorem dX11_laysBest_70 : decode cX11_laysBest 70 = .ok (.aload_n 0, 1) := by decide +kernel
theorem dX11_laysBest_71 : decode cX11_laysBest 71 = .ok (.getfield 243, 3) := by decide +kernel
theorem dX11_laysBest_74 : decode cX11_laysBest 74 = .ok (.iload_n 2, 1) := by decide +kernel
theorem dX11_laysBest_75 : decode cX11_laysBest 75 = .ok (.iastore, 1) := by decide +kernel
theorem dX11_laysBest_76 : decode cX11_laysBest 76 = .ok (.aload_n 0, 1) := by decide +kernel
theorem dX11_laysBest_77 : decode cX11_laysBest 77 = .ok (.getfield 57, 3) := by decide +kernel
theorem dX11_laysBest_80 : decode cX11_laysBest 80 = .ok (.aload_n 0, 1) := by decide +kernel
theorem dX11_laysBest_81 : decode cX11_laysBest 81 = .ok (.getfield 243, 3) := by decide +kernel
theorem dX11_laysBest_84 : decode cX11_laysBest 84 = .ok (.iload 4, 2) := by decide +kernel
theorem dX11_laysBest_86 : decode cX11_laysBest 86 = .ok (.iastore, 1) := by decide +kernel
theorem dX11_laysBest_87 : decode cX11_laysBest 87 = .ok (.aload_n 0, 1) := by decide +kernel
theorem dX11_laysBest_88 : decode cX11_laysBest 88 = .ok (.dup, 1) := by decide +kernel
theorem dX11_laysBest_89 : decode cX11_laysBest 89 = .ok (.getfield 243, 3) := by decide +kernel
theorem dX11_laysBest_92 : decode cX11_laysBest 92 = .ok (.iconst 1, 1) := by decide +kernel
theorem dX11_laysBest_93 : decode cX11_laysBest 93 = .ok (.iadd, 1) := by decide +kernel
theorem dX11_laysBest_94 : decode cX11_laysBest 94 = .ok (.putfield 243, 3) := by decide +kernel
theorem dX11_laysBest_97 : decode cX11_laysBest 97 = .ok (.aload_n 0, 1) := by decide +kernel
theorem dX11_laysBest_98 : decode cX11_laysBest 98 = .ok (.getfield 246, 3) := by decide +kernel
theorem dX11_laysBest_101 : decode cX11_laysBest 101 = .ok (.iconst (-1), 1) := by decide +kernel
theorem dX11_laysBest_102 : decode cX11_laysBest 102 = .ok (.if_icmp .eq 12, 3) := by decide +kernel
theorem dX11_laysBest_105 : decode cX11_laysBest 105 = .ok (.iload 4, 2) := by decide +kernel
theorem dX11_laysBest_107 : decode cX11_laysBest 107 = .ok (.aload_n 0, 1) := by decide +kernel
theorem dX11_laysBest_108 : decode cX11_laysBest 108 = .ok (.getfield 249, 3) := by decide +kernel
theorem dX11_laysBest_111 : decode cX11_laysBest 111 = .ok (.if_icmp .ge 7, 3) := by decide +kernel
theorem dX11_laysBest_114 : decode cX11_laysBest 114 = .ok (.iconst 1, 1) := by decide +kernel
theorem dX11_laysBest_115 : decode cX11_laysBest 115 = .ok (.goto 4, 3) := by decide +kernel
theorem dX11_laysBest_118 : decode cX11_laysBest 118 = .ok (.iconst 0, 1) := by decide +kernel
theorem dX11_laysBest_119 : decode cX11_laysBest 119 = .ok (.istore 5, 2) := by decide +kernel
theorem dX11_laysBest_121 : decode cX11_laysBest 121 = .ok (.aload_n 0, 1) := by decide +kernel
theorem dX11_laysBest_122 : decode cX11_laysBest 122 = .ok (.getfield 246, 3) := by decide +kernel
theorem dX11_laysBest_125 : decode cX11_laysBest 125 = .ok (.iconst (-1), 1) := by decide +kernel
theorem dX11_laysBest_126 : decode cX11_laysBest 126 = .ok (.if_icmp .eq 43, 3) := by decide +kernel
theorem dX11_laysBest_129 : decode cX11_laysBest 129 = .ok (.iload 4, 2) := by decide +kernel
theorem dX11_laysBest_131 : decode cX11_laysBest 131 = .ok (.aload_n 0, 1) := by decide +kernel
theorem dX11_laysBest_132 : decode cX11_laysBest 132 = .ok (.getfield 249, 3) := by decide +kernel
theorem dX11_laysBest_135 : decode cX11_laysBest 135 = .ok (.if_icmp .ne 34, 3) := by decide +kernel
theorem dX11_laysBest_138 : decode cX11_laysBest 138 = .ok (.iload_n 1, 1) := by decide +kernel
theorem dX11_laysBest_139 : decode cX11_laysBest 139 = .ok (.aload_n 0, 1) := by decide +kernel
theorem dX11_laysBest_140 : decode cX11_laysBest 140 = .ok (.getfield 246, 3) := by decide +kernel
theorem dX11_laysBest_143 : decode cX11_laysBest 143 = .ok (.if_icmp .lt 19, 3) := by decide +kernel
theorem dX11_laysBest_146 : decode cX11_laysBest 146 = .ok (.iload_n 1, 1) := by decide +kernel
theorem dX11_laysBest_147 : decode cX11_laysBest 147 = .ok (.aload_n 0, 1) := by decide +kernel
theorem dX11_laysBest_148 : decode cX11_laysBest 148 = .ok (.getfield 246, 3) := by decide +kernel
theorem dX11_laysBest_151 : decode cX11_laysBest 151 = .ok (.if_icmp .ne 15, 3) := by decide +kernel
theorem dX11_laysBest_154 : decode cX11_laysBest 154 = .ok (.iload_n 3, 1) := by decide +kernel
theorem dX11_laysBest_155 : decode cX11_laysBest 155 = .ok (.aload_n 0, 1) := by decide +kernel
theorem dX11_laysBest_156 : decode cX11_laysBest 156 = .ok (.getfield 252, 3) := by decide +kernel
theorem dX11_laysBest_159 : decode cX11_laysBest 159 = .ok (.if_icmp .le 7, 3) := by decide +kernel
theorem dX11_laysBest_162 : decode cX11_laysBest 162 = .ok (.iconst 1, 1) := by decide +kernel
theorem dX11_laysBest_163 : decode cX11_laysBest 163 = .ok (.goto 4, 3) := by decide +kernel
theorem dX11_laysBest_166 : decode cX11_laysBest 166 = .ok (.iconst 0, 1) := by decide +kernel
theorem dX11_laysBest_167 : decode cX11_laysBest 167 = .ok (.istore 5, 2) := by decide +kernel
theorem dX11_laysBest_169 : decode cX11_laysBest 169 = .ok (.iload 5, 2) := by decide +kernel
theorem dX11_laysBest_171 : decode cX11_laysBest 171 = .ok (.ifCond .ne 4, 3) := by decide +kernel
theorem dX11_laysBest_174 : decode cX11_laysBest 174 = .ok (.return_, 1) := by decide +kernel
theorem dX11_laysBest_175 : decode cX11_laysBest 175 = .ok (.aload_n 0, 1) := by decide +kernel
theorem dX11_laysBest_176 : decode cX11_laysBest 176 = .ok (.iload_n 1, 1) := by decide +kernel
theorem dX11_laysBest_177 : decode cX11_laysBest 177 = .ok (.putfield 246, 3) := by decide +kernel
theorem dX11_laysBest_180 : decode cX11_laysBest 180 = .ok (.aload_n 0, 1) := by decide +kernel
theorem dX11_laysBest_181 : decode cX11_laysBest 181 = .ok (.iload 4, 2) := by decide +kernel
theorem dX11_laysBest_183 : decode cX11_laysBest 183 = .ok (.putfield 249, 3) := by decide +kernel
theorem dX11_laysBest_186 : decode cX11_laysBest 186 = .ok (.aload_n 0, 1) := by decide +kernel
theorem dX11_laysBest_187 : decode cX11_laysBest 187 = .ok (.iload_n 3, 1) := by decide +kernel
theorem dX11_laysBest_188 : decode cX11_laysBest 188 = .ok (.putfield 252, 3) := by decide +kernel
theorem dX11_laysBest_191 : decode cX11_laysBest 191 = .ok (.iconst 0, 1) := by decide +kernel
theorem dX11_laysBest_192 : decode cX11_laysBest 192 = .ok (.istore 6, 2) := by decide +kernel
theorem dX11_laysBest_194 : decode cX11_laysBest 194 = .ok (.iload 6, 2) := by decide +kernel
theorem dX11_laysBest_196 : decode cX11_laysBest 196 = .ok (.iload_n 1, 1) := by decide +kernel
theorem dX11_laysBest_197 : decode cX11_laysBest 197 = .ok (.if_icmp .ge 23, 3) := by decide +kernel
theorem dX11_laysBest_200 : decode cX11_laysBest 200 = .ok (.aload_n 0, 1) := by decide +kernel
theorem dX11_laysBest_201 : decode cX11_laysBest 201 = .ok (.getfield 51, 3) := by decide +kernel
theorem dX11_laysBest_204 : decode cX11_laysBest 204 = .ok (.iload 6, 2) := by decide +kernel
theorem dX11_laysBest_206 : decode cX11_laysBest 206 = .ok (.aload_n 0, 1) := by decide +kernel
theorem dX11_laysBest_207 : decode cX11_laysBest 207 = .ok (.getfield 48, 3) := by decide +kernel
theorem dX11_laysBest_210 : decode cX11_laysBest 210 = .ok (.iload 6, 2) := by decide +kernel
theorem dX11_laysBest_212 : decode cX11_laysBest 212 = .ok (.iaload, 1) := by decide +kernel
theorem dX11_laysBest_213 : decode cX11_laysBest 213 = .ok (.iastore, 1) := by decide +kernel
theorem dX11_laysBest_214 : decode cX11_laysBest 214 = .ok (.iinc 6 1, 3) := by decide +kernel
theorem dX11_laysBest_217 : decode cX11_laysBest 217 = .ok (.goto (-23), 3) := by decide +kernel
theorem dX11_laysBest_220 : decode cX11_laysBest 220 = .ok (.return_, 1) := by decide +kernel
theorem dX11_isFound_0 : decode cX11_isFound 0 = .ok (.aload_n 0, 1) := by decide +kernel
theorem dX11_isFound_1 : decode cX11_isFound 1 = .ok (.iconst (-1), 1) := by decide +kernel
theorem dX11_isFound_2 : decode cX11_isFound 2 = .ok (.putfield 246, 3) := by decide +kernel
theorem dX11_isFound_5 : decode cX11_isFound 5 = .ok (.aload_n 0, 1) := by decide +kernel
theorem dX11_isFound_6 : decode cX11_isFound 6 = .ok (.iconst 0, 1) := by decide +kernel
theorem dX11_isFound_7 : decode cX11_isFound 7 = .ok (.putfield 243, 3) := by decide +kernel
theorem dX11_isFound_10 : decode cX11_isFound 10 = .ok (.iconst 0, 1) := by decide +kernel
theorem dX11_isFound_11 : decode cX11_isFound 11 = .ok (.istore 4, 2) := by decide +kernel
theorem dX11_isFound_13 : decode cX11_isFound 13 = .ok (.iconst 1, 1) := by decide +kernel
theorem dX11_isFound_14 : decode cX11_isFound 14 = .ok (.iload_n 1, 1) := by decide +kernel
theorem dX11_isFound_15 : decode cX11_isFound 15 = .ok (.ishl, 1) := by decide +kernel
theorem dX11_isFound_16 : decode cX11_isFound 16 = .ok (.istore 5, 2) := by decide +kernel
theorem dX11_isFound_18 : decode cX11_isFound 18 = .ok (.iload_n 1, 1) := by decide +kernel
theorem dX11_isFound_19 : decode cX11_isFound 19 = .ok (.istore 6, 2) := by decide +kernel
theorem dX11_isFound_21 : decode cX11_isFound 21 = .ok (.aload_n 0, 1) := by decide +kernel
theorem dX11_isFound_22 : decode cX11_isFound 22 = .ok (.getfield 48, 3) := by decide +kernel
theorem dX11_isFound_25 : decode cX11_isFound 25 = .ok (.iconst 0, 1) := by decide +kernel
theorem dX11_isFound_26 : decode cX11_isFound 26 = .ok (.iconst (-1), 1) := by decide +kernel
theorem dX11_isFound_27 : decode cX11_isFound 27 = .ok (.iastore, 1) := by decide +kernel
theorem dX11_isFound_28 : decode cX11_isFound 28 = .ok (.iload 4, 2) := by decide +kernel
theorem dX11_isFound_30 : decode cX11_isFound 30 = .ok (.ifCond .lt 193, 3) := by decide +kernel
theorem dX11_isFound_33 : decode cX11_isFound 33 = .ok (.aload_n 0, 1) := by decide +kernel
theorem dX11_isFound_34 : decode cX11_isFound 34 = .ok (.getfield 48, 3) := by decide +kernel
theorem dX11_isFound_37 : decode cX11_isFound 37 = .ok (.iload 4, 2) := by decide +kernel
theorem dX11_isFound_39 : decode cX11_isFound 39 = .ok (.dup2, 1) := by decide +kernel
theorem dX11_isFound_40 : decode cX11_isFound 40 = .ok (.iaload, 1) := by decide +kernel
theorem dX11_isFound_41 : decode cX11_isFound 41 = .ok (.iconst 1, 1) := by decide +kernel
theorem dX11_isFound_42 : decode cX11_isFound 42 = .ok (.iadd, 1) := by decide +kernel
theorem dX11_isFound_43 : decode cX11_isFound 43 = .ok (.iastore, 1) := by decide +kernel
theorem dX11_isFound_44 : decode cX11_isFound 44 = .ok (.aload_n 0, 1) := by decide +kernel
theorem dX11_isFound_45 : decode cX11_isFound 45 = .ok (.getfield 48, 3) := by decide +kernel
theorem dX11_isFound_48 : decode cX11_isFound 48 = .ok (.iload 4, 2) := by decide +kernel
theorem dX11_isFound_50 : decode cX11_isFound 50 = .ok (.iaload, 1) := by decide +kernel
theorem dX11_isFound_51 : decode cX11_isFound 51 = .ok (.istore 7, 2) := by decide +kernel
theorem dX11_isFound_53 : decode cX11_isFound 53 = .ok (.iload 7, 2) := by decide +kernel
theorem dX11_isFound_55 : decode cX11_isFound 55 = .ok (.aload_n 0, 1) := by decide +kernel
theorem dX11_isFound_56 : decode cX11_isFound 56 = .ok (.getfield 199, 3) := by decide +kernel
theorem dX11_isFound_59 : decode cX11_isFound 59 = .ok (.if_icmp .lt 58, 3) := by decide +kernel
theorem dX11_isFound_62 : decode cX11_isFound 62 = .ok (.iinc 4 (-1), 3) := by decide +kernel
theorem dX11_isFound_65 : decode cX11_isFound 65 = .ok (.iload 4, 2) := by decide +kernel
theorem dX11_isFound_67 : decode cX11_isFound 67 = .ok (.ifCond .ge 6, 3) := by decide +kernel
theorem dX11_isFound_70 : decode cX11_isFound 70 = .ok (.goto (-42), 3) := by decide +kernel
theorem dX11_isFound_73 : decode cX11_isFound 73 = .ok (.iload 5, 2) := by decide +kernel
theorem dX11_isFound_75 : decode cX11_isFound 75 = .ok (.iconst 1, 1) := by decide +kernel
theorem dX11_isFound_76 : decode cX11_isFound 76 = .ok (.aload_n 0, 1) := by decide +kernel
theorem dX11_isFound_77 : decode cX11_isFound 77 = .ok (.getfield 23, 3) := by decide +kernel
theorem dX11_isFound_80 : decode cX11_isFound 80 = .ok (.iconst 5, 1) := by decide +kernel
theorem dX11_isFound_81 : decode cX11_isFound 81 = .ok (.aload_n 0, 1) := by decide +kernel
theorem dX11_isFound_82 : decode cX11_isFound 82 = .ok (.getfield 48, 3) := by decide +kernel
theorem dX11_isFound_85 : decode cX11_isFound 85 = .ok (.iload 4, 2) := by decide +kernel
theorem dX11_isFound_87 : decode cX11_isFound 87 = .ok (.iaload, 1) := by decide +kernel
theorem dX11_isFound_88 : decode cX11_isFound 88 = .ok (.imul, 1) := by decide +kernel
theorem dX11_isFound_89 : decode cX11_isFound 89 = .ok (.iconst 1, 1) := by decide +kernel
theorem dX11_isFound_90 : decode cX11_isFound 90 = .ok (.iadd, 1) := by decide +kernel
theorem dX11_isFound_91 : decode cX11_isFound 91 = .ok (.iaload, 1) := by decide +kernel
theorem dX11_isFound_92 : decode cX11_isFound 92 = .ok (.ishl, 1) := by decide +kernel
theorem dX11_isFound_93 : decode cX11_isFound 93 = .ok (.iconst (-1), 1) := by decide +kernel
theorem dX11_isFound_94 : decode cX11_isFound 94 = .ok (.ixor, 1) := by decide +kernel
theorem dX11_isFound_95 : decode cX11_isFound 95 = .ok (.iand, 1) := by decide +kernel
theorem dX11_isFound_96 : decode cX11_isFound 96 = .ok (.istore 5, 2) := by decide +kernel
theorem dX11_isFound_98 : decode cX11_isFound 98 = .ok (.aload_n 0, 1) := by decide +kernel
theorem dX11_isFound_99 : decode cX11_isFound 99 = .ok (.getfield 23, 3) := by decide +kernel
theorem dX11_isFound_102 : decode cX11_isFound 102 = .ok (.iconst 5, 1) := by decide +kernel
theorem dX11_isFound_103 : decode cX11_isFound 103 = .ok (.aload_n 0, 1) := by decide +kernel
theorem dX11_isFound_104 : decode cX11_isFound 104 = .ok (.getfield 48, 3) := by decide +kernel
theorem dX11_isFound_107 : decode cX11_isFound 107 = .ok (.iload 4, 2) := by decide +kernel
theorem dX11_isFound_109 : decode cX11_isFound 109 = .ok (.iaload, 1) := by decide +kernel
theorem dX11_isFound_110 : decode cX11_isFound 110 = .ok (.imul, 1) := by decide +kernel
theorem dX11_isFound_111 : decode cX11_isFound 111 = .ok (.iaload, 1) := by decide +kernel
theorem dX11_isFound_112 : decode cX11_isFound 112 = .ok (.istore 6, 2) := by decide +kernel
theorem dX11_isFound_114 : decode cX11_isFound 114 = .ok (.goto (-86), 3) := by decide +kernel
theorem dX11_isFound_117 : decode cX11_isFound 117 = .ok (.aload_n 0, 1) := by decide +kernel
theorem dX11_isFound_118 : decode cX11_isFound 118 = .ok (.getfield 23, 3) := by decide +kernel
theorem dX11_isFound_121 : decode cX11_isFound 121 = .ok (.iconst 5, 1) := by decide +kernel
theorem dX11_isFound_122 : decode cX11_isFound 122 = .ok (.iload 7, 2) := by decide +kernel
theorem dX11_isFound_124 : decode cX11_isFound 124 = .ok (.imul, 1) := by decide +kernel
theorem dX11_isFound_125 : decode cX11_isFound 125 = .ok (.iconst 1, 1) := by decide +kernel
theorem dX11_isFound_126 : decode cX11_isFound 126 = .ok (.iadd, 1) := by decide +kernel
theorem dX11_isFound_127 : decode cX11_isFound 127 = .ok (.iaload, 1) := by decide +kernel
theorem dX11_isFound_128 : decode cX11_isFound 128 = .ok (.istore 8, 2) := by decide +kernel
theorem dX11_isFound_130 : decode cX11_isFound 130 = .ok (.aload_n 0, 1) := by decide +kernel
theorem dX11_isFound_131 : decode cX11_isFound 131 = .ok (.getfield 41, 3) := by decide +kernel
theorem dX11_isFound_134 : decode cX11_isFound 134 = .ok (.iload 7, 2) := by decide +kernel
theorem dX11_isFound_136 : decode cX11_isFound 136 = .ok (.baload, 1) := by decide +kernel
theorem dX11_isFound_137 : decode cX11_isFound 137 = .ok (.ifCond .eq (-109), 3) := by decide +kernel
theorem dX11_isFound_140 : decode cX11_isFound 140 = .ok (.aload_n 0, 1) := by decide +kernel
theorem dX11_isFound_141 : decode cX11_isFound 141 = .ok (.getfield 23, 3) := by decide +kernel
theorem dX11_isFound_144 : decode cX11_isFound 144 = .ok (.iconst 5, 1) := by decide +kernel
theorem dX11_isFound_145 : decode cX11_isFound 145 = .ok (.iload 7, 2) := by decide +kernel
theorem dX11_isFound_147 : decode cX11_isFound 147 = .ok (.imul, 1) := by decide +kernel
theorem dX11_isFound_148 : decode cX11_isFound 148 = .ok (.iaload, 1) := by decide +kernel
theorem dX11_isFound_149 : decode cX11_isFound 149 = .ok (.iload 6, 2) := by decide +kernel
theorem dX11_isFound_151 : decode cX11_isFound 151 = .ok (.if_icmp .ne (-123), 3) := by decide +kernel
theorem dX11_isFound_154 : decode cX11_isFound 154 = .ok (.iload 5, 2) := by decide +kernel
theorem dX11_isFound_156 : decode cX11_isFound 156 = .ok (.iload 8, 2) := by decide +kernel
theorem dX11_isFound_158 : decode cX11_isFound 158 = .ok (.ishr, 1) := by decide +kernel
theorem dX11_isFound_159 : decode cX11_isFound 159 = .ok (.iconst 1, 1) := by decide +kernel
theorem dX11_isFound_160 : decode cX11_isFound 160 = .ok (.iand, 1) := by decide +kernel
theorem dX11_isFound_161 : decode cX11_isFound 161 = .ok (.iconst 1, 1) := by decide +kernel
theorem dX11_isFound_162 : decode cX11_isFound 162 = .ok (.if_icmp .ne 6, 3) := by decide +kernel
theorem dX11_isFound_165 : decode cX11_isFound 165 = .ok (.goto (-137), 3) := by decide +kernel
theorem dX11_isFound_168 : decode cX11_isFound 168 = .ok (.iload 8, 2) := by decide +kernel
theorem dX11_isFound_170 : decode cX11_isFound 170 = .ok (.iload_n 2, 1) := by decide +kernel
theorem dX11_isFound_171 : decode cX11_isFound 171 = .ok (.if_icmp .ne 14, 3) := by decide +kernel
theorem dX11_isFound_174 : decode cX11_isFound 174 = .ok (.aload_n 0, 1) := by decide +kernel
theorem dX11_isFound_175 : decode cX11_isFound 175 = .ok (.iload 4, 2) := by decide +kernel
theorem dX11_isFound_177 : decode cX11_isFound 177 = .ok (.iconst 1, 1) := by decide +kernel
theorem dX11_isFound_178 : decode cX11_isFound 178 = .ok (.iadd, 1) := by decide +kernel
theorem dX11_isFound_179 : decode cX11_isFound 179 = .ok (.invokevirtual 255, 3) := by decide +kernel
theorem dX11_isFound_182 : decode cX11_isFound 182 = .ok (.goto (-154), 3) := by decide +kernel
theorem dX11_isFound_185 : decode cX11_isFound 185 = .ok (.iload 4, 2) := by decide +kernel
theorem dX11_isFound_187 : decode cX11_isFound 187 = .ok (.iconst 1, 1) := by decide +kernel
theorem dX11_isFound_188 : decode cX11_isFound 188 = .ok (.iadd, 1) := by decide +kernel
theorem dX11_isFound_189 : decode cX11_isFound 189 = .ok (.iload_n 3, 1) := by decide +kernel
theorem dX11_isFound_190 : decode cX11_isFound 190 = .ok (.if_icmp .ne 6, 3) := by decide +kernel
theorem dX11_isFound_193 : decode cX11_isFound 193 = .ok (.goto (-165), 3) := by decide +kernel
theorem dX11_isFound_196 : decode cX11_isFound 196 = .ok (.iload 5, 2) := by decide +kernel
theorem dX11_isFound_198 : decode cX11_isFound 198 = .ok (.iconst 1, 1) := by decide +kernel
theorem dX11_isFound_199 : decode cX11_isFound 199 = .ok (.iload 8, 2) := by decide +kernel
theorem dX11_isFound_201 : decode cX11_isFound 201 = .ok (.ishl, 1) := by decide +kernel
theorem dX11_isFound_202 : decode cX11_isFound 202 = .ok (.ior, 1) := by decide +kernel
theorem dX11_isFound_203 : decode cX11_isFound 203 = .ok (.istore 5, 2) := by decide +kernel
theorem dX11_isFound_205 : decode cX11_isFound 205 = .ok (.iload 8, 2) := by decide +kernel
theorem dX11_isFound_207 : decode cX11_isFound 207 = .ok (.istore 6, 2) := by decide +kernel
theorem dX11_isFound_209 : decode cX11_isFound 209 = .ok (.iinc 4 1, 3) := by decide +kernel
theorem dX11_isFound_212 : decode cX11_isFound 212 = .ok (.aload_n 0, 1) := by decide +kernel
theorem dX11_isFound_213 : decode cX11_isFound 213 = .ok (.getfield 48, 3) := by decide +kernel
theorem dX11_isFound_216 : decode cX11_isFound 216 = .ok (.iload 4, 2) := by decide +kernel
theorem dX11_isFound_218 : decode cX11_isFound 218 = .ok (.iconst (-1), 1) := by decide +kernel
theorem dX11_isFound_219 : decode cX11_isFound 219 = .ok (.iastore, 1) := by decide +kernel
theorem dX11_isFound_220 : decode cX11_isFound 220 = .ok (.goto (-192), 3) := by decide +kernel
theorem dX11_isFound_223 : decode cX11_isFound 223 = .ok (.aload_n 0, 1) := by decide +kernel
theorem dX11_isFound_224 : decode cX11_isFound 224 = .ok (.getfield 246, 3) := by decide +kernel
theorem dX11_isFound_227 : decode cX11_isFound 227 = .ok (.iconst (-1), 1) := by decide +kernel
theorem dX11_isFound_228 : decode cX11_isFound 228 = .ok (.if_icmp .eq 7, 3) := by decide +kernel
theorem dX11_isFound_231 : decode cX11_isFound 231 = .ok (.iconst 1, 1) := by decide +kernel
theorem dX11_isFound_232 : decode cX11_isFound 232 = .ok (.goto 4, 3) := by decide +kernel
theorem dX11_isFound_235 : decode cX11_isFound 235 = .ok (.iconst 0, 1) := by decide +kernel
theorem dX11_isFound_236 : decode cX11_isFound 236 = .ok (.ireturn, 1) := by decide +kernel
theorem dX11_hasBest_0 : decode cX11_hasBest 0 = .ok (.aload_n 0, 1) := by decide +kernel
theorem dX11_hasBest_1 : decode cX11_hasBest 1 = .ok (.iload_n 1, 1) := by decide +kernel
theorem dX11_hasBest_2 : decode cX11_hasBest 2 = .ok (.iload_n 2, 1) := by decide +kernel
theorem dX11_hasBest_3 : decode cX11_hasBest 3 = .ok (.iload_n 3, 1) := by decide +kernel
theorem dX11_hasBest_4 : decode cX11_hasBest 4 = .ok (.aload_n 0, 1) := by decide +kernel
theorem dX11_hasBest_5 : decode cX11_hasBest 5 = .ok (.iload_n 2, 1) := by decide +kernel
theorem dX11_hasBest_6 : decode cX11_hasBest 6 = .ok (.invokevirtual 258, 3) := by decide +kernel
theorem dX11_hasBest_9 : decode cX11_hasBest 9 = .ok (.aload_n 0, 1) := by decide +kernel
theorem dX11_hasBest_10 : decode cX11_hasBest 10 = .ok (.getfield 29, 3) := by decide +kernel
theorem dX11_hasBest_13 : decode cX11_hasBest 13 = .ok (.bipush 7, 2) := by decide +kernel
theorem dX11_hasBest_15 : decode cX11_hasBest 15 = .ok (.iload_n 2, 1) := by decide +kernel
theorem dX11_hasBest_16 : decode cX11_hasBest 16 = .ok (.imul, 1) := by decide +kernel
theorem dX11_hasBest_17 : decode cX11_hasBest 17 = .ok (.iconst 5, 1) := by decide +kernel
theorem dX11_hasBest_18 : decode cX11_hasBest 18 = .ok (.iadd, 1) := by decide +kernel
theorem dX11_hasBest_19 : decode cX11_hasBest 19 = .ok (.iaload, 1) := by decide +kernel
theorem dX11_hasBest_20 : decode cX11_hasBest 20 = .ok (.invokevirtual 261, 3) := by decide +kernel
theorem dX11_hasBest_23 : decode cX11_hasBest 23 = .ok (.aload_n 0, 1) := by decide +kernel
theorem dX11_hasBest_24 : decode cX11_hasBest 24 = .ok (.aload_n 0, 1) := by decide +kernel
theorem dX11_hasBest_25 : decode cX11_hasBest 25 = .ok (.getfield 29, 3) := by decide +kernel
theorem dX11_hasBest_28 : decode cX11_hasBest 28 = .ok (.bipush 7, 2) := by decide +kernel
theorem dX11_hasBest_30 : decode cX11_hasBest 30 = .ok (.iload_n 2, 1) := by decide +kernel
theorem dX11_hasBest_31 : decode cX11_hasBest 31 = .ok (.imul, 1) := by decide +kernel
theorem dX11_hasBest_32 : decode cX11_hasBest 32 = .ok (.iaload, 1) := by decide +kernel
theorem dX11_hasBest_33 : decode cX11_hasBest 33 = .ok (.aload_n 0, 1) := by decide +kernel
theorem dX11_hasBest_34 : decode cX11_hasBest 34 = .ok (.getfield 29, 3) := by decide +kernel
theorem dX11_hasBest_37 : decode cX11_hasBest 37 = .ok (.bipush 7, 2) := by decide +kernel
theorem dX11_hasBest_39 : decode cX11_hasBest 39 = .ok (.iload_n 2, 1) := by decide +kernel
theorem dX11_hasBest_40 : decode cX11_hasBest 40 = .ok (.imul, 1) := by decide +kernel
theorem dX11_hasBest_41 : decode cX11_hasBest 41 = .ok (.iconst 1, 1) := by decide +kernel
theorem dX11_hasBest_42 : decode cX11_hasBest 42 = .ok (.iadd, 1) := by decide +kernel
theorem dX11_hasBest_43 : decode cX11_hasBest 43 = .ok (.iaload, 1) := by decide +kernel
theorem dX11_hasBest_44 : decode cX11_hasBest 44 = .ok (.aload_n 0, 1) := by decide +kernel
theorem dX11_hasBest_45 : decode cX11_hasBest 45 = .ok (.getfield 29, 3) := by decide +kernel
theorem dX11_hasBest_48 : decode cX11_hasBest 48 = .ok (.bipush 7, 2) := by decide +kernel
theorem dX11_hasBest_50 : decode cX11_hasBest 50 = .ok (.iload_n 2, 1) := by decide +kernel
theorem dX11_hasBest_51 : decode cX11_hasBest 51 = .ok (.imul, 1) := by decide +kernel
theorem dX11_hasBest_52 : decode cX11_hasBest 52 = .ok (.bipush 6, 2) := by decide +kernel
theorem dX11_hasBest_54 : decode cX11_hasBest 54 = .ok (.iadd, 1) := by decide +kernel
theorem dX11_hasBest_55 : decode cX11_hasBest 55 = .ok (.iaload, 1) := by decide +kernel
theorem dX11_hasBest_56 : decode cX11_hasBest 56 = .ok (.invokevirtual 265, 3) := by decide +kernel
theorem dX11_hasBest_59 : decode cX11_hasBest 59 = .ok (.ireturn, 1) := by decide +kernel
theorem dX11_hasAny_0 : decode cX11_hasAny 0 = .ok (.aload_n 0, 1) := by decide +kernel
theorem dX11_hasAny_1 : decode cX11_hasAny 1 = .ok (.iload_n 1, 1) := by decide +kernel
theorem dX11_hasAny_2 : decode cX11_hasAny 2 = .ok (.iconst (-1), 1) := by decide +kernel
theorem dX11_hasAny_3 : decode cX11_hasAny 3 = .ok (.iconst 0, 1) := by decide +kernel
theorem dX11_hasAny_4 : decode cX11_hasAny 4 = .ok (.iconst (-1), 1) := by decide +kernel
theorem dX11_hasAny_5 : decode cX11_hasAny 5 = .ok (.aload_n 0, 1) := by decide +kernel
theorem dX11_hasAny_6 : decode cX11_hasAny 6 = .ok (.getfield 29, 3) := by decide +kernel
theorem dX11_hasAny_9 : decode cX11_hasAny 9 = .ok (.bipush 7, 2) := by decide +kernel
theorem dX11_hasAny_11 : decode cX11_hasAny 11 = .ok (.iload_n 2, 1) := by decide +kernel
theorem dX11_hasAny_12 : decode cX11_hasAny 12 = .ok (.imul, 1) := by decide +kernel
theorem dX11_hasAny_13 : decode cX11_hasAny 13 = .ok (.iconst 5, 1) := by decide +kernel
theorem dX11_hasAny_14 : decode cX11_hasAny 14 = .ok (.iadd, 1) := by decide +kernel
theorem dX11_hasAny_15 : decode cX11_hasAny 15 = .ok (.iaload, 1) := by decide +kernel
theorem dX11_hasAny_16 : decode cX11_hasAny 16 = .ok (.invokevirtual 261, 3) := by decide +kernel
theorem dX11_hasAny_19 : decode cX11_hasAny 19 = .ok (.aload_n 0, 1) := by decide +kernel
theorem dX11_hasAny_20 : decode cX11_hasAny 20 = .ok (.aload_n 0, 1) := by decide +kernel
theorem dX11_hasAny_21 : decode cX11_hasAny 21 = .ok (.getfield 29, 3) := by decide +kernel
theorem dX11_hasAny_24 : decode cX11_hasAny 24 = .ok (.bipush 7, 2) := by decide +kernel
theorem dX11_hasAny_26 : decode cX11_hasAny 26 = .ok (.iload_n 2, 1) := by decide +kernel
theorem dX11_hasAny_27 : decode cX11_hasAny 27 = .ok (.imul, 1) := by decide +kernel
theorem dX11_hasAny_28 : decode cX11_hasAny 28 = .ok (.iaload, 1) := by decide +kernel
theorem dX11_hasAny_29 : decode cX11_hasAny 29 = .ok (.aload_n 0, 1) := by decide +kernel
theorem dX11_hasAny_30 : decode cX11_hasAny 30 = .ok (.getfield 29, 3) := by decide +kernel
theorem dX11_hasAny_33 : decode cX11_hasAny 33 = .ok (.bipush 7, 2) := by decide +kernel
theorem dX11_hasAny_35 : decode cX11_hasAny 35 = .ok (.iload_n 2, 1) := by decide +kernel
theorem dX11_hasAny_36 : decode cX11_hasAny 36 = .ok (.imul, 1) := by decide +kernel
theorem dX11_hasAny_37 : decode cX11_hasAny 37 = .ok (.iconst 1, 1) := by decide +kernel
theorem dX11_hasAny_38 : decode cX11_hasAny 38 = .ok (.iadd, 1) := by decide +kernel
theorem dX11_hasAny_39 : decode cX11_hasAny 39 = .ok (.iaload, 1) := by decide +kernel
theorem dX11_hasAny_40 : decode cX11_hasAny 40 = .ok (.aload_n 0, 1) := by decide +kernel
theorem dX11_hasAny_41 : decode cX11_hasAny 41 = .ok (.getfield 29, 3) := by decide +kernel
theorem dX11_hasAny_44 : decode cX11_hasAny 44 = .ok (.bipush 7, 2) := by decide +kernel
theorem dX11_hasAny_46 : decode cX11_hasAny 46 = .ok (.iload_n 2, 1) := by decide +kernel
theorem dX11_hasAny_47 : decode cX11_hasAny 47 = .ok (.imul, 1) := by decide +kernel
theorem dX11_hasAny_48 : decode cX11_hasAny 48 = .ok (.bipush 6, 2) := by decide +kernel
theorem dX11_hasAny_50 : decode cX11_hasAny 50 = .ok (.iadd, 1) := by decide +kernel
theorem dX11_hasAny_51 : decode cX11_hasAny 51 = .ok (.iaload, 1) := by decide +kernel
theorem dX11_hasAny_52 : decode cX11_hasAny 52 = .ok (.invokevirtual 265, 3) := by decide +kernel
theorem dX11_hasAny_55 : decode cX11_hasAny 55 = .ok (.ireturn, 1) := by decide +kernel
theorem dX11_takes_0 : decode cX11_takes 0 = .ok (.aload_n 0, 1) := by decide +kernel
theorem dX11_takes_1 : decode cX11_takes 1 = .ok (.getfield 35, 3) := by decide +kernel
theorem dX11_takes_4 : decode cX11_takes 4 = .ok (.iload_n 1, 1) := by decide +kernel
theorem dX11_takes_5 : decode cX11_takes 5 = .ok (.bipush 10, 2) := by decide +kernel
theorem dX11_takes_7 : decode cX11_takes 7 = .ok (.iadd, 1) := by decide +kernel
theorem dX11_takes_8 : decode cX11_takes 8 = .ok (.iload_n 2, 1) := by decide +kernel
theorem dX11_takes_9 : decode cX11_takes 9 = .ok (.iadd, 1) := by decide +kernel
theorem dX11_takes_10 : decode cX11_takes 10 = .ok (.aload_n 0, 1) := by decide +kernel
theorem dX11_takes_11 : decode cX11_takes 11 = .ok (.getfield 246, 3) := by decide +kernel
theorem dX11_takes_14 : decode cX11_takes 14 = .ok (.iastore, 1) := by decide +kernel
theorem dX11_takes_15 : decode cX11_takes 15 = .ok (.iconst 0, 1) := by decide +kernel
theorem dX11_takes_16 : decode cX11_takes 16 = .ok (.istore_n 3, 1) := by decide +kernel
theorem dX11_takes_17 : decode cX11_takes 17 = .ok (.iload_n 3, 1) := by decide +kernel
theorem dX11_takes_18 : decode cX11_takes 18 = .ok (.aload_n 0, 1) := by decide +kernel
theorem dX11_takes_19 : decode cX11_takes 19 = .ok (.getfield 246, 3) := by decide +kernel
theorem dX11_takes_22 : decode cX11_takes 22 = .ok (.if_icmp .ge 31, 3) := by decide +kernel
theorem dX11_takes_25 : decode cX11_takes 25 = .ok (.aload_n 0, 1) := by decide +kernel
theorem dX11_takes_26 : decode cX11_takes 26 = .ok (.getfield 35, 3) := by decide +kernel
theorem dX11_takes_29 : decode cX11_takes 29 = .ok (.iload_n 1, 1) := by decide +kernel
theorem dX11_takes_30 : decode cX11_takes 30 = .ok (.bipush 19, 2) := by decide +kernel
theorem dX11_takes_32 : decode cX11_takes 32 = .ok (.iadd, 1) := by decide +kernel
theorem dX11_takes_33 : decode cX11_takes 33 = .ok (.bipush 7, 2) := by decide +kernel
theorem dX11_takes_35 : decode cX11_takes 35 = .ok (.iload_n 2, 1) := by decide +kernel
theorem dX11_takes_36 : decode cX11_takes 36 = .ok (.imul, 1) := by decide +kernel
theorem dX11_takes_37 : decode cX11_takes 37 = .ok (.iadd, 1) := by decide +kernel
theorem dX11_takes_38 : decode cX11_takes 38 = .ok (.iload_n 3, 1) := by decide +kernel
theorem dX11_takes_39 : decode cX11_takes 39 = .ok (.iadd, 1) := by decide +kernel
theorem dX11_takes_40 : decode cX11_takes 40 = .ok (.aload_n 0, 1) := by decide +kernel
theorem dX11_takes_41 : decode cX11_takes 41 = .ok (.getfield 51, 3) := by decide +kernel
theorem dX11_takes_44 : decode cX11_takes 44 = .ok (.iload_n 3, 1) := by decide +kernel
theorem dX11_takes_45 : decode cX11_takes 45 = .ok (.iaload, 1) := by decide +kernel
theorem dX11_takes_46 : decode cX11_takes 46 = .ok (.iastore, 1) := by decide +kernel
theorem dX11_takes_47 : decode cX11_takes 47 = .ok (.iinc 3 1, 3) := by decide +kernel
theorem dX11_takes_50 : decode cX11_takes 50 = .ok (.goto (-33), 3) := by decide +kernel
theorem dX11_takes_53 : decode cX11_takes 53 = .ok (.return_, 1) := by decide +kernel
theorem dX11_isEnough_0 : decode cX11_isEnough 0 = .ok (.iconst 0, 1) := by decide +kernel
theorem dX11_isEnough_1 : decode cX11_isEnough 1 = .ok (.istore 4, 2) := by decide +kernel
theorem dX11_isEnough_3 : decode cX11_isEnough 3 = .ok (.iload 4, 2) := by decide +kernel
theorem dX11_isEnough_5 : decode cX11_isEnough 5 = .ok (.aload_n 0, 1) := by decide +kernel
theorem dX11_isEnough_6 : decode cX11_isEnough 6 = .ok (.getfield 35, 3) := by decide +kernel
theorem dX11_isEnough_9 : decode cX11_isEnough 9 = .ok (.iload_n 1, 1) := by decide +kernel
theorem dX11_isEnough_10 : decode cX11_isEnough 10 = .ok (.bipush 10, 2) := by decide +kernel
theorem dX11_isEnough_12 : decode cX11_isEnough 12 = .ok (.iadd, 1) := by decide +kernel
theorem dX11_isEnough_13 : decode cX11_isEnough 13 = .ok (.iload_n 2, 1) := by decide +kernel
theorem dX11_isEnough_14 : decode cX11_isEnough 14 = .ok (.iadd, 1) := by decide +kernel
theorem dX11_isEnough_15 : decode cX11_isEnough 15 = .ok (.iaload, 1) := by decide +kernel
theorem dX11_isEnough_16 : decode cX11_isEnough 16 = .ok (.if_icmp .ge 115, 3) := by decide +kernel
theorem dX11_isEnough_19 : decode cX11_isEnough 19 = .ok (.aload_n 0, 1) := by decide +kernel
theorem dX11_isEnough_20 : decode cX11_isEnough 20 = .ok (.getfield 35, 3) := by decide +kernel
theorem dX11_isEnough_23 : decode cX11_isEnough 23 = .ok (.iload_n 1, 1) := by decide +kernel
theorem dX11_isEnough_24 : decode cX11_isEnough 24 = .ok (.bipush 19, 2) := by decide +kernel
theorem dX11_isEnough_26 : decode cX11_isEnough 26 = .ok (.iadd, 1) := by decide +kernel
theorem dX11_isEnough_27 : decode cX11_isEnough 27 = .ok (.bipush 7, 2) := by decide +kernel
theorem dX11_isEnough_29 : decode cX11_isEnough 29 = .ok (.iload_n 2, 1) := by decide +kernel
theorem dX11_isEnough_30 : decode cX11_isEnough 30 = .ok (.imul, 1) := by decide +kernel
theorem dX11_isEnough_31 : decode cX11_isEnough 31 = .ok (.iadd, 1) := by decide +kernel
theorem dX11_isEnough_32 : decode cX11_isEnough 32 = .ok (.iload 4, 2) := by decide +kernel
theorem dX11_isEnough_34 : decode cX11_isEnough 34 = .ok (.iadd, 1) := by decide +kernel
theorem dX11_isEnough_35 : decode cX11_isEnough 35 = .ok (.iaload, 1) := by decide +kernel
theorem dX11_isEnough_36 : decode cX11_isEnough 36 = .ok (.istore 5, 2) := by decide +kernel
theorem dX11_isEnough_38 : decode cX11_isEnough 38 = .ok (.aload_n 0, 1) := by decide +kernel
theorem dX11_isEnough_39 : decode cX11_isEnough 39 = .ok (.iload_n 1, 1) := by decide +kernel
theorem dX11_isEnough_40 : decode cX11_isEnough 40 = .ok (.iload 5, 2) := by decide +kernel
theorem dX11_isEnough_42 : decode cX11_isEnough 42 = .ok (.invokevirtual 269, 3) := by decide +kernel
theorem dX11_isEnough_45 : decode cX11_isEnough 45 = .ok (.istore 6, 2) := by decide +kernel
theorem dX11_isEnough_47 : decode cX11_isEnough 47 = .ok (.iconst 0, 1) := by decide +kernel
theorem dX11_isEnough_48 : decode cX11_isEnough 48 = .ok (.istore 7, 2) := by decide +kernel
theorem dX11_isEnough_50 : decode cX11_isEnough 50 = .ok (.iload 7, 2) := by decide +kernel
theorem dX11_isEnough_52 : decode cX11_isEnough 52 = .ok (.aload_n 0, 1) := by decide +kernel
theorem dX11_isEnough_53 : decode cX11_isEnough 53 = .ok (.getfield 202, 3) := by decide +kernel
theorem dX11_isEnough_56 : decode cX11_isEnough 56 = .ok (.if_icmp .ge 51, 3) := by decide +kernel
theorem dX11_isEnough_59 : decode cX11_isEnough 59 = .ok (.iload_n 3, 1) := by decide +kernel
theorem dX11_isEnough_60 : decode cX11_isEnough 60 = .ok (.iload 7, 2) := by decide +kernel
theorem dX11_isEnough_62 : decode cX11_isEnough 62 = .ok (.ishr, 1) := by decide +kernel
theorem dX11_isEnough_63 : decode cX11_isEnough 63 = .ok (.iconst 1, 1) := by decide +kernel
theorem dX11_isEnough_64 : decode cX11_isEnough 64 = .ok (.iand, 1) := by decide +kernel
theorem dX11_isEnough_65 : decode cX11_isEnough 65 = .ok (.iconst 1, 1) := by decide +kernel
theorem dX11_isEnough_66 : decode cX11_isEnough 66 = .ok (.if_icmp .ne 35, 3) := by decide +kernel
theorem dX11_isEnough_69 : decode cX11_isEnough 69 = .ok (.aload_n 0, 1) := by decide +kernel
theorem dX11_isEnough_70 : decode cX11_isEnough 70 = .ok (.iload_n 1, 1) := by decide +kernel
theorem dX11_isEnough_71 : decode cX11_isEnough 71 = .ok (.iload 7, 2) := by decide +kernel
theorem dX11_isEnough_73 : decode cX11_isEnough 73 = .ok (.invokevirtual 226, 3) := by decide +kernel
theorem dX11_isEnough_76 : decode cX11_isEnough 76 = .ok (.iload 5, 2) := by decide +kernel
theorem dX11_isEnough_78 : decode cX11_isEnough 78 = .ok (.ishr, 1) := by decide +kernel
theorem dX11_isEnough_79 : decode cX11_isEnough 79 = .ok (.iconst 1, 1) := by decide +kernel
theorem dX11_isEnough_80 : decode cX11_isEnough 80 = .ok (.iand, 1) := by decide +kernel
theorem dX11_isEnough_81 : decode cX11_isEnough 81 = .ok (.iconst 1, 1) := by decide +kernel
theorem dX11_isEnough_82 : decode cX11_isEnough 82 = .ok (.if_icmp .ne 19, 3) := by decide +kernel
theorem dX11_isEnough_85 : decode cX11_isEnough 85 = .ok (.iload 6, 2) := by decide +kernel
theorem dX11_isEnough_87 : decode cX11_isEnough 87 = .ok (.aload_n 0, 1) := by decide +kernel
theorem dX11_isEnough_88 : decode cX11_isEnough 88 = .ok (.getfield 35, 3) := by decide +kernel
theorem dX11_isEnough_91 : decode cX11_isEnough 91 = .ok (.iload_n 1, 1) := by decide +kernel
theorem dX11_isEnough_92 : decode cX11_isEnough 92 = .ok (.iconst 1, 1) := by decide +kernel
theorem dX11_isEnough_93 : decode cX11_isEnough 93 = .ok (.iadd, 1) := by decide +kernel
theorem dX11_isEnough_94 : decode cX11_isEnough 94 = .ok (.iload 7, 2) := by decide +kernel
theorem dX11_isEnough_96 : decode cX11_isEnough 96 = .ok (.iadd, 1) := by decide +kernel
theorem dX11_isEnough_97 : decode cX11_isEnough 97 = .ok (.iaload, 1) := by decide +kernel
theorem dX11_isEnough_98 : decode cX11_isEnough 98 = .ok (.isub, 1) := by decide +kernel
theorem dX11_isEnough_99 : decode cX11_isEnough 99 = .ok (.istore 6, 2) := by decide +kernel
theorem dX11_isEnough_101 : decode cX11_isEnough 101 = .ok (.iinc 7 1, 3) := by decide +kernel
theorem dX11_isEnough_104 : decode cX11_isEnough 104 = .ok (.goto (-54), 3) := by decide +kernel
theorem dX11_isEnough_107 : decode cX11_isEnough 107 = .ok (.iload 6, 2) := by decide +kernel
theorem dX11_isEnough_109 : decode cX11_isEnough 109 = .ok (.aload_n 0, 1) := by decide +kernel
theorem dX11_isEnough_110 : decode cX11_isEnough 110 = .ok (.getfield 23, 3) := by decide +kernel
theorem dX11_isEnough_113 : decode cX11_isEnough 113 = .ok (.iconst 5, 1) := by decide +kernel
theorem dX11_isEnough_114 : decode cX11_isEnough 114 = .ok (.iload 5, 2) := by decide +kernel
theorem dX11_isEnough_116 : decode cX11_isEnough 116 = .ok (.imul, 1) := by decide +kernel
theorem dX11_isEnough_117 : decode cX11_isEnough 117 = .ok (.iconst 3, 1) := by decide +kernel
theorem dX11_isEnough_118 : decode cX11_isEnough 118 = .ok (.iadd, 1) := by decide +kernel
theorem dX11_isEnough_119 : decode cX11_isEnough 119 = .ok (.iaload, 1) := by decide +kernel
theorem dX11_isEnough_120 : decode cX11_isEnough 120 = .ok (.if_icmp .le 5, 3) := by decide +kernel
theorem dX11_isEnough_123 : decode cX11_isEnough 123 = .ok (.iconst 0, 1) := by decide +kernel
theorem dX11_isEnough_124 : decode cX11_isEnough 124 = .ok (.ireturn, 1) := by decide +kernel
theorem dX11_isEnough_125 : decode cX11_isEnough 125 = .ok (.iinc 4 1, 3) := by decide +kernel
theorem dX11_isEnough_128 : decode cX11_isEnough 128 = .ok (.goto (-125), 3) := by decide +kernel
theorem dX11_isEnough_131 : decode cX11_isEnough 131 = .ok (.iconst 1, 1) := by decide +kernel
theorem dX11_isEnough_132 : decode cX11_isEnough 132 = .ok (.ireturn, 1) := by decide +kernel
theorem dX11_harm_0 : decode cX11_harm 0 = .ok (.iconst 0, 1) := by decide +kernel
theorem dX11_harm_1 : decode cX11_harm 1 = .ok (.istore_n 2, 1) := by decide +kernel
theorem dX11_harm_2 : decode cX11_harm 2 = .ok (.iconst 0, 1) := by decide +kernel
theorem dX11_harm_3 : decode cX11_harm 3 = .ok (.istore_n 3, 1) := by decide +kernel
theorem dX11_harm_4 : decode cX11_harm 4 = .ok (.iload_n 3, 1) := by decide +kernel
theorem dX11_harm_5 : decode cX11_harm 5 = .ok (.aload_n 0, 1) := by decide +kernel
theorem dX11_harm_6 : decode cX11_harm 6 = .ok (.getfield 202, 3) := by decide +kernel
theorem dX11_harm_9 : decode cX11_harm 9 = .ok (.if_icmp .ge 26, 3) := by decide +kernel
theorem dX11_harm_12 : decode cX11_harm 12 = .ok (.iload_n 2, 1) := by decide +kernel
theorem dX11_harm_13 : decode cX11_harm 13 = .ok (.iload_n 1, 1) := by decide +kernel
theorem dX11_harm_14 : decode cX11_harm 14 = .ok (.iload_n 3, 1) := by decide +kernel
theorem dX11_harm_15 : decode cX11_harm 15 = .ok (.ishr, 1) := by decide +kernel
theorem dX11_harm_16 : decode cX11_harm 16 = .ok (.iconst 1, 1) := by decide +kernel
theorem dX11_harm_17 : decode cX11_harm 17 = .ok (.iand, 1) := by decide +kernel
theorem dX11_harm_18 : decode cX11_harm 18 = .ok (.bipush 8, 2) := by decide +kernel
theorem dX11_harm_20 : decode cX11_harm 20 = .ok (.aload_n 0, 1) := by decide +kernel
theorem dX11_harm_21 : decode cX11_harm 21 = .ok (.iload_n 3, 1) := by decide +kernel
theorem dX11_harm_22 : decode cX11_harm 22 = .ok (.invokevirtual 223, 3) := by decide +kernel
theorem dX11_harm_25 : decode cX11_harm 25 = .ok (.isub, 1) := by decide +kernel
theorem dX11_harm_26 : decode cX11_harm 26 = .ok (.imul, 1) := by decide +kernel
theorem dX11_harm_27 : decode cX11_harm 27 = .ok (.iadd, 1) := by decide +kernel
theorem dX11_harm_28 : decode cX11_harm 28 = .ok (.istore_n 2, 1) := by decide +kernel
theorem dX11_harm_29 : decode cX11_harm 29 = .ok (.iinc 3 1, 3) := by decide +kernel
theorem dX11_harm_32 : decode cX11_harm 32 = .ok (.goto (-28), 3) := by decide +kernel
theorem dX11_harm_35 : decode cX11_harm 35 = .ok (.iload_n 2, 1) := by decide +kernel
theorem dX11_harm_36 : decode cX11_harm 36 = .ok (.ireturn, 1) := by decide +kernel
theorem dX11_bandOf_0 : decode cX11_bandOf 0 = .ok (.iconst 0, 1) := by decide +kernel
theorem dX11_bandOf_1 : decode cX11_bandOf 1 = .ok (.istore_n 3, 1) := by decide +kernel
theorem dX11_bandOf_2 : decode cX11_bandOf 2 = .ok (.iconst 0, 1) := by decide +kernel
theorem dX11_bandOf_3 : decode cX11_bandOf 3 = .ok (.istore 4, 2) := by decide +kernel
theorem dX11_bandOf_5 : decode cX11_bandOf 5 = .ok (.iload 4, 2) := by decide +kernel
theorem dX11_bandOf_7 : decode cX11_bandOf 7 = .ok (.aload_n 0, 1) := by decide +kernel
theorem dX11_bandOf_8 : decode cX11_bandOf 8 = .ok (.getfield 202, 3) := by decide +kernel
theorem dX11_bandOf_11 : decode cX11_bandOf 11 = .ok (.if_icmp .ge 30, 3) := by decide +kernel
theorem dX11_bandOf_14 : decode cX11_bandOf 14 = .ok (.iload_n 3, 1) := by decide +kernel
theorem dX11_bandOf_15 : decode cX11_bandOf 15 = .ok (.iload_n 2, 1) := by decide +kernel
theorem dX11_bandOf_16 : decode cX11_bandOf 16 = .ok (.iload 4, 2) := by decide +kernel
theorem dX11_bandOf_18 : decode cX11_bandOf 18 = .ok (.ishr, 1) := by decide +kernel
theorem dX11_bandOf_19 : decode cX11_bandOf 19 = .ok (.iconst 1, 1) := by decide +kernel
theorem dX11_bandOf_20 : decode cX11_bandOf 20 = .ok (.iand, 1) := by decide +kernel
theorem dX11_bandOf_21 : decode cX11_bandOf 21 = .ok (.aload_n 0, 1) := by decide +kernel
theorem dX11_bandOf_22 : decode cX11_bandOf 22 = .ok (.getfield 35, 3) := by decide +kernel
theorem dX11_bandOf_25 : decode cX11_bandOf 25 = .ok (.iload_n 1, 1) := by decide +kernel
theorem dX11_bandOf_26 : decode cX11_bandOf 26 = .ok (.iconst 1, 1) := by decide +kernel
theorem dX11_bandOf_27 : decode cX11_bandOf 27 = .ok (.iadd, 1) := by decide +kernel
theorem dX11_bandOf_28 : decode cX11_bandOf 28 = .ok (.iload 4, 2) := by decide +kernel
theorem dX11_bandOf_30 : decode cX11_bandOf 30 = .ok (.iadd, 1) := by decide +kernel
theorem dX11_bandOf_31 : decode cX11_bandOf 31 = .ok (.iaload, 1) := by decide +kernel
theorem dX11_bandOf_32 : decode cX11_bandOf 32 = .ok (.imul, 1) := by decide +kernel
theorem dX11_bandOf_33 : decode cX11_bandOf 33 = .ok (.iadd, 1) := by decide +kernel
theorem dX11_bandOf_34 : decode cX11_bandOf 34 = .ok (.istore_n 3, 1) := by decide +kernel
theorem dX11_bandOf_35 : decode cX11_bandOf 35 = .ok (.iinc 4 1, 3) := by decide +kernel
theorem dX11_bandOf_38 : decode cX11_bandOf 38 = .ok (.goto (-33), 3) := by decide +kernel
theorem dX11_bandOf_41 : decode cX11_bandOf 41 = .ok (.iload_n 3, 1) := by decide +kernel
theorem dX11_bandOf_42 : decode cX11_bandOf 42 = .ok (.ireturn, 1) := by decide +kernel
theorem dX11_isLess_0 : decode cX11_isLess 0 = .ok (.aload_n 0, 1) := by decide +kernel
theorem dX11_isLess_1 : decode cX11_isLess 1 = .ok (.iload_n 2, 1) := by decide +kernel
theorem dX11_isLess_2 : decode cX11_isLess 2 = .ok (.invokevirtual 272, 3) := by decide +kernel
theorem dX11_isLess_5 : decode cX11_isLess 5 = .ok (.aload_n 0, 1) := by decide +kernel
theorem dX11_isLess_6 : decode cX11_isLess 6 = .ok (.iload_n 3, 1) := by decide +kernel
theorem dX11_isLess_7 : decode cX11_isLess 7 = .ok (.invokevirtual 272, 3) := by decide +kernel
theorem dX11_isLess_10 : decode cX11_isLess 10 = .ok (.if_icmp .eq 22, 3) := by decide +kernel
theorem dX11_isLess_13 : decode cX11_isLess 13 = .ok (.aload_n 0, 1) := by decide +kernel
theorem dX11_isLess_14 : decode cX11_isLess 14 = .ok (.iload_n 2, 1) := by decide +kernel
theorem dX11_isLess_15 : decode cX11_isLess 15 = .ok (.invokevirtual 272, 3) := by decide +kernel
theorem dX11_isLess_18 : decode cX11_isLess 18 = .ok (.aload_n 0, 1) := by decide +kernel
theorem dX11_isLess_19 : decode cX11_isLess 19 = .ok (.iload_n 3, 1) := by decide +kernel
theorem dX11_isLess_20 : decode cX11_isLess 20 = .ok (.invokevirtual 272, 3) := by decide +kernel
theorem dX11_isLess_23 : decode cX11_isLess 23 = .ok (.if_icmp .ge 7, 3) := by decide +kernel
theorem dX11_isLess_26 : decode cX11_isLess 26 = .ok (.iconst 1, 1) := by decide +kernel
theorem dX11_isLess_27 : decode cX11_isLess 27 = .ok (.goto 4, 3) := by decide +kernel
theorem dX11_isLess_30 : decode cX11_isLess 30 = .ok (.iconst 0, 1) := by decide +kernel
theorem dX11_isLess_31 : decode cX11_isLess 31 = .ok (.ireturn, 1) := by decide +kernel
theorem dX11_isLess_32 : decode cX11_isLess 32 = .ok (.iload_n 2, 1) := by decide +kernel
theorem dX11_isLess_33 : decode cX11_isLess 33 = .ok (.invokestatic 275, 3) := by decide +kernel
theorem dX11_isLess_36 : decode cX11_isLess 36 = .ok (.iload_n 3, 1) := by decide +kernel
theorem dX11_isLess_37 : decode cX11_isLess 37 = .ok (.invokestatic 275, 3) := by decide +kernel
theorem dX11_isLess_40 : decode cX11_isLess 40 = .ok (.if_icmp .eq 20, 3) := by decide +kernel
theorem dX11_isLess_43 : decode cX11_isLess 43 = .ok (.iload_n 2, 1) := by decide +kernel
theorem dX11_isLess_44 : decode cX11_isLess 44 = .ok (.invokestatic 275, 3) := by decide +kernel
theorem dX11_isLess_47 : decode cX11_isLess 47 = .ok (.iload_n 3, 1) := by decide +kernel
theorem dX11_isLess_48 : decode cX11_isLess 48 = .ok (.invokestatic 275, 3) := by decide +kernel
theorem dX11_isLess_51 : decode cX11_isLess 51 = .ok (.if_icmp .ge 7, 3) := by decide +kernel
theorem dX11_isLess_54 : decode cX11_isLess 54 = .ok (.iconst 1, 1) := by decide +kernel
theorem dX11_isLess_55 : decode cX11_isLess 55 = .ok (.goto 4, 3) := by decide +kernel
theorem dX11_isLess_58 : decode cX11_isLess 58 = .ok (.iconst 0, 1) := by decide +kernel
theorem dX11_isLess_59 : decode cX11_isLess 59 = .ok (.ireturn, 1) := by decide +kernel
theorem dX11_isLess_60 : decode cX11_isLess 60 = .ok (.aload_n 0, 1) := by decide +kernel
theorem dX11_isLess_61 : decode cX11_isLess 61 = .ok (.iload_n 1, 1) := by decide +kernel
theorem dX11_isLess_62 : decode cX11_isLess 62 = .ok (.iload_n 2, 1) := by decide +kernel
theorem dX11_isLess_63 : decode cX11_isLess 63 = .ok (.invokevirtual 278, 3) := by decide +kernel
theorem dX11_isLess_66 : decode cX11_isLess 66 = .ok (.aload_n 0, 1) := by decide +kernel
theorem dX11_isLess_67 : decode cX11_isLess 67 = .ok (.iload_n 1, 1) := by decide +kernel
theorem dX11_isLess_68 : decode cX11_isLess 68 = .ok (.iload_n 3, 1) := by decide +kernel
theorem dX11_isLess_69 : decode cX11_isLess 69 = .ok (.invokevirtual 278, 3) := by decide +kernel
theorem dX11_isLess_72 : decode cX11_isLess 72 = .ok (.if_icmp .ge 7, 3) := by decide +kernel
theorem dX11_isLess_75 : decode cX11_isLess 75 = .ok (.iconst 1, 1) := by decide +kernel
theorem dX11_isLess_76 : decode cX11_isLess 76 = .ok (.goto 4, 3) := by decide +kernel
theorem dX11_isLess_79 : decode cX11_isLess 79 = .ok (.iconst 0, 1) := by decide +kernel
theorem dX11_isLess_80 : decode cX11_isLess 80 = .ok (.ireturn, 1) := by decide +kernel
theorem dX11_pushedBy_0 : decode cX11_pushedBy 0 = .ok (.iconst 0, 1) := by decide +kernel
theorem dX11_pushedBy_1 : decode cX11_pushedBy 1 = .ok (.istore_n 3, 1) := by decide +kernel
theorem dX11_pushedBy_2 : decode cX11_pushedBy 2 = .ok (.iconst 0, 1) := by decide +kernel
theorem dX11_pushedBy_3 : decode cX11_pushedBy 3 = .ok (.istore 4, 2) := by decide +kernel
theorem dX11_pushedBy_5 : decode cX11_pushedBy 5 = .ok (.iload 4, 2) := by decide +kernel
theorem dX11_pushedBy_7 : decode cX11_pushedBy 7 = .ok (.aload_n 0, 1) := by decide +kernel
theorem dX11_pushedBy_8 : decode cX11_pushedBy 8 = .ok (.getfield 202, 3) := by decide +kernel
theorem dX11_pushedBy_11 : decode cX11_pushedBy 11 = .ok (.if_icmp .ge 44, 3) := by decide +kernel
theorem dX11_pushedBy_14 : decode cX11_pushedBy 14 = .ok (.iload_n 3, 1) := by decide +kernel
theorem dX11_pushedBy_15 : decode cX11_pushedBy 15 = .ok (.aload_n 0, 1) := by decide +kernel
theorem dX11_pushedBy_16 : decode cX11_pushedBy 16 = .ok (.iload_n 1, 1) := by decide +kernel
theorem dX11_pushedBy_17 : decode cX11_pushedBy 17 = .ok (.iload 4, 2) := by decide +kernel
theorem dX11_pushedBy_19 : decode cX11_pushedBy 19 = .ok (.invokevirtual 219, 3) := by decide +kernel
theorem dX11_pushedBy_22 : decode cX11_pushedBy 22 = .ok (.ifCond .eq 24, 3) := by decide +kernel
theorem dX11_pushedBy_25 : decode cX11_pushedBy 25 = .ok (.aload_n 0, 1) := by decide +kernel
theorem dX11_pushedBy_26 : decode cX11_pushedBy 26 = .ok (.iload 4, 2) := by decide +kernel
theorem dX11_pushedBy_28 : decode cX11_pushedBy 28 = .ok (.invokevirtual 223, 3) := by decide +kernel
theorem dX11_pushedBy_31 : decode cX11_pushedBy 31 = .ok (.aload_n 0, 1) := by decide +kernel
theorem dX11_pushedBy_32 : decode cX11_pushedBy 32 = .ok (.iload_n 2, 1) := by decide +kernel
theorem dX11_pushedBy_33 : decode cX11_pushedBy 33 = .ok (.invokevirtual 258, 3) := by decide +kernel
theorem dX11_pushedBy_36 : decode cX11_pushedBy 36 = .ok (.if_icmp .le 10, 3) := by decide +kernel
theorem dX11_pushedBy_39 : decode cX11_pushedBy 39 = .ok (.iconst 1, 1) := by decide +kernel
theorem dX11_pushedBy_40 : decode cX11_pushedBy 40 = .ok (.iload 4, 2) := by decide +kernel
theorem dX11_pushedBy_42 : decode cX11_pushedBy 42 = .ok (.ishl, 1) := by decide +kernel
theorem dX11_pushedBy_43 : decode cX11_pushedBy 43 = .ok (.goto 4, 3) := by decide +kernel
theorem dX11_pushedBy_46 : decode cX11_pushedBy 46 = .ok (.iconst 0, 1) := by decide +kernel
theorem dX11_pushedBy_47 : decode cX11_pushedBy 47 = .ok (.ior, 1) := by decide +kernel
theorem dX11_pushedBy_48 : decode cX11_pushedBy 48 = .ok (.istore_n 3, 1) := by decide +kernel
theorem dX11_pushedBy_49 : decode cX11_pushedBy 49 = .ok (.iinc 4 1, 3) := by decide +kernel
theorem dX11_pushedBy_52 : decode cX11_pushedBy 52 = .ok (.goto (-47), 3) := by decide +kernel
theorem dX11_pushedBy_55 : decode cX11_pushedBy 55 = .ok (.iconst (-1), 1) := by decide +kernel
theorem dX11_pushedBy_56 : decode cX11_pushedBy 56 = .ok (.istore 4, 2) := by decide +kernel
theorem dX11_pushedBy_58 : decode cX11_pushedBy 58 = .ok (.iconst 0, 1) := by decide +kernel
theorem dX11_pushedBy_59 : decode cX11_pushedBy 59 = .ok (.istore 5, 2) := by decide +kernel
theorem dX11_pushedBy_61 : decode cX11_pushedBy 61 = .ok (.iload 5, 2) := by decide +kernel
theorem dX11_pushedBy_63 : decode cX11_pushedBy 63 = .ok (.iconst 1, 1) := by decide +kernel
theorem dX11_pushedBy_64 : decode cX11_pushedBy 64 = .ok (.aload_n 0, 1) := by decide +kernel
theorem dX11_pushedBy_65 : decode cX11_pushedBy 65 = .ok (.getfield 202, 3) := by decide +kernel
theorem dX11_pushedBy_68 : decode cX11_pushedBy 68 = .ok (.ishl, 1) := by decide +kernel
theorem dX11_pushedBy_69 : decode cX11_pushedBy 69 = .ok (.if_icmp .ge 54, 3) := by decide +kernel
theorem dX11_pushedBy_72 : decode cX11_pushedBy 72 = .ok (.iload 5, 2) := by decide +kernel
theorem dX11_pushedBy_74 : decode cX11_pushedBy 74 = .ok (.iload_n 3, 1) := by decide +kernel
theorem dX11_pushedBy_75 : decode cX11_pushedBy 75 = .ok (.iconst (-1), 1) := by decide +kernel
theorem dX11_pushedBy_76 : decode cX11_pushedBy 76 = .ok (.ixor, 1) := by decide +kernel
theorem dX11_pushedBy_77 : decode cX11_pushedBy 77 = .ok (.iand, 1) := by decide +kernel
theorem dX11_pushedBy_78 : decode cX11_pushedBy 78 = .ok (.ifCond .ne 39, 3) := by decide +kernel
theorem dX11_pushedBy_81 : decode cX11_pushedBy 81 = .ok (.aload_n 0, 1) := by decide +kernel
theorem dX11_pushedBy_82 : decode cX11_pushedBy 82 = .ok (.iload_n 1, 1) := by decide +kernel
theorem dX11_pushedBy_83 : decode cX11_pushedBy 83 = .ok (.iload_n 2, 1) := by decide +kernel
theorem dX11_pushedBy_84 : decode cX11_pushedBy 84 = .ok (.iload 5, 2) := by decide +kernel
theorem dX11_pushedBy_86 : decode cX11_pushedBy 86 = .ok (.invokevirtual 281, 3) := by decide +kernel
theorem dX11_pushedBy_89 : decode cX11_pushedBy 89 = .ok (.ifCond .ne 6, 3) := by decide +kernel
theorem dX11_pushedBy_92 : decode cX11_pushedBy 92 = .ok (.goto 25, 3) := by decide +kernel
theorem dX11_pushedBy_95 : decode cX11_pushedBy 95 = .ok (.iload 4, 2) := by decide +kernel
theorem dX11_pushedBy_97 : decode cX11_pushedBy 97 = .ok (.iconst (-1), 1) := by decide +kernel
theorem dX11_pushedBy_98 : decode cX11_pushedBy 98 = .ok (.if_icmp .eq 15, 3) := by decide +kernel
theorem dX11_pushedBy_101 : decode cX11_pushedBy 101 = .ok (.aload_n 0, 1) := by decide +kernel
theorem dX11_pushedBy_102 : decode cX11_pushedBy 102 = .ok (.iload_n 1, 1) := by decide +kernel
theorem dX11_pushedBy_103 : decode cX11_pushedBy 103 = .ok (.iload 5, 2) := by decide +kernel
theorem dX11_pushedBy_105 : decode cX11_pushedBy 105 = .ok (.iload 4, 2) := by decide +kernel
theorem dX11_pushedBy_107 : decode cX11_pushedBy 107 = .ok (.invokevirtual 284, 3) := by decide +kernel
theorem dX11_pushedBy_110 : decode cX11_pushedBy 110 = .ok (.ifCond .eq 7, 3) := by decide +kernel
theorem dX11_pushedBy_113 : decode cX11_pushedBy 113 = .ok (.iload 5, 2) := by decide +kernel
theorem dX11_pushedBy_115 : decode cX11_pushedBy 115 = .ok (.istore 4, 2) := by decide +kernel
theorem dX11_pushedBy_117 : decode cX11_pushedBy 117 = .ok (.iinc 5 1, 3) := by decide +kernel
theorem dX11_pushedBy_120 : decode cX11_pushedBy 120 = .ok (.goto (-59), 3) := by decide +kernel
theorem dX11_pushedBy_123 : decode cX11_pushedBy 123 = .ok (.iload 4, 2) := by decide +kernel
theorem dX11_pushedBy_125 : decode cX11_pushedBy 125 = .ok (.ireturn, 1) := by decide +kernel
theorem dX11_settles_0 : decode cX11_settles 0 = .ok (.iload_n 2, 1) := by decide +kernel
theorem dX11_settles_1 : decode cX11_settles 1 = .ok (.istore_n 3, 1) := by decide +kernel
theorem dX11_settles_2 : decode cX11_settles 2 = .ok (.iload_n 3, 1) := by decide +kernel
theorem dX11_settles_3 : decode cX11_settles 3 = .ok (.ifCond .eq 172, 3) := by decide +kernel
theorem dX11_settles_6 : decode cX11_settles 6 = .ok (.iconst (-1), 1) := by decide +kernel
theorem dX11_settles_7 : decode cX11_settles 7 = .ok (.istore 4, 2) := by decide +kernel
theorem dX11_settles_9 : decode cX11_settles 9 = .ok (.iconst 0, 1) := by decide +kernel
theorem dX11_settles_10 : decode cX11_settles 10 = .ok (.istore 5, 2) := by decide +kernel
theorem dX11_settles_12 : decode cX11_settles 12 = .ok (.iload 5, 2) := by decide +kernel
theorem dX11_settles_14 : decode cX11_settles 14 = .ok (.aload_n 0, 1) := by decide +kernel
theorem dX11_settles_15 : decode cX11_settles 15 = .ok (.getfield 202, 3) := by decide +kernel
theorem dX11_settles_18 : decode cX11_settles 18 = .ok (.if_icmp .ge 44, 3) := by decide +kernel
theorem dX11_settles_21 : decode cX11_settles 21 = .ok (.iload_n 3, 1) := by decide +kernel
theorem dX11_settles_22 : decode cX11_settles 22 = .ok (.iload 5, 2) := by decide +kernel
theorem dX11_settles_24 : decode cX11_settles 24 = .ok (.ishr, 1) := by decide +kernel
theorem dX11_settles_25 : decode cX11_settles 25 = .ok (.iconst 1, 1) := by decide +kernel
theorem dX11_settles_26 : decode cX11_settles 26 = .ok (.iand, 1) := by decide +kernel
theorem dX11_settles_27 : decode cX11_settles 27 = .ok (.iconst 1, 1) := by decide +kernel
theorem dX11_settles_28 : decode cX11_settles 28 = .ok (.if_icmp .ne 28, 3) := by decide +kernel
theorem dX11_settles_31 : decode cX11_settles 31 = .ok (.iload 4, 2) := by decide +kernel
theorem dX11_settles_33 : decode cX11_settles 33 = .ok (.iconst (-1), 1) := by decide +kernel
theorem dX11_settles_34 : decode cX11_settles 34 = .ok (.if_icmp .eq 18, 3) := by decide +kernel
theorem dX11_settles_37 : decode cX11_settles 37 = .ok (.aload_n 0, 1) := by decide +kernel
theorem dX11_settles_38 : decode cX11_settles 38 = .ok (.iload 5, 2) := by decide +kernel
theorem dX11_settles_40 : decode cX11_settles 40 = .ok (.invokevirtual 258, 3) := by decide +kernel
theorem dX11_settles_43 : decode cX11_settles 43 = .ok (.aload_n 0, 1) := by decide +kernel
theorem dX11_settles_44 : decode cX11_settles 44 = .ok (.iload 4, 2) := by decide +kernel
theorem dX11_settles_46 : decode cX11_settles 46 = .ok (.invokevirtual 258, 3) := by decide +kernel
theorem dX11_settles_49 : decode cX11_settles 49 = .ok (.if_icmp .ge 7, 3) := by decide +kernel
theorem dX11_settles_52 : decode cX11_settles 52 = .ok (.iload 5, 2) := by decide +kernel
theorem dX11_settles_54 : decode cX11_settles 54 = .ok (.istore 4, 2) := by decide +kernel
theorem dX11_settles_56 : decode cX11_settles 56 = .ok (.iinc 5 1, 3) := by decide +kernel
theorem dX11_settles_59 : decode cX11_settles 59 = .ok (.goto (-47), 3) := by decide +kernel
theorem dX11_settles_62 : decode cX11_settles 62 = .ok (.iload_n 3, 1) := by decide +kernel
theorem dX11_settles_63 : decode cX11_settles 63 = .ok (.iconst 1, 1) := by decide +kernel
theorem dX11_settles_64 : decode cX11_settles 64 = .ok (.iload 4, 2) := by decide +kernel
theorem dX11_settles_66 : decode cX11_settles 66 = .ok (.ishl, 1) := by decide +kernel
theorem dX11_settles_67 : decode cX11_settles 67 = .ok (.iconst (-1), 1) := by decide +kernel
theorem dX11_settles_68 : decode cX11_settles 68 = .ok (.ixor, 1) := by decide +kernel
theorem dX11_settles_69 : decode cX11_settles 69 = .ok (.iand, 1) := by decide +kernel
theorem dX11_settles_70 : decode cX11_settles 70 = .ok (.istore_n 3, 1) := by decide +kernel
theorem dX11_settles_71 : decode cX11_settles 71 = .ok (.aload_n 0, 1) := by decide +kernel
theorem dX11_settles_72 : decode cX11_settles 72 = .ok (.iload_n 1, 1) := by decide +kernel
theorem dX11_settles_73 : decode cX11_settles 73 = .ok (.iload 4, 2) := by decide +kernel
theorem dX11_settles_75 : decode cX11_settles 75 = .ok (.aload_n 0, 1) := by decide +kernel
theorem dX11_settles_76 : decode cX11_settles 76 = .ok (.getfield 35, 3) := by decide +kernel
theorem dX11_settles_79 : decode cX11_settles 79 = .ok (.iload_n 1, 1) := by decide +kernel
theorem dX11_settles_80 : decode cX11_settles 80 = .ok (.iconst 1, 1) := by decide +kernel
theorem dX11_settles_81 : decode cX11_settles 81 = .ok (.iadd, 1) := by decide +kernel
theorem dX11_settles_82 : decode cX11_settles 82 = .ok (.iload 4, 2) := by decide +kernel
theorem dX11_settles_84 : decode cX11_settles 84 = .ok (.iadd, 1) := by decide +kernel
theorem dX11_settles_85 : decode cX11_settles 85 = .ok (.iaload, 1) := by decide +kernel
theorem dX11_settles_86 : decode cX11_settles 86 = .ok (.invokevirtual 287, 3) := by decide +kernel
theorem dX11_settles_89 : decode cX11_settles 89 = .ok (.ifCond .ne 6, 3) := by decide +kernel
theorem dX11_settles_92 : decode cX11_settles 92 = .ok (.goto (-90), 3) := by decide +kernel
theorem dX11_settles_95 : decode cX11_settles 95 = .ok (.aload_n 0, 1) := by decide +kernel
theorem dX11_settles_96 : decode cX11_settles 96 = .ok (.iload_n 1, 1) := by decide +kernel
theorem dX11_settles_97 : decode cX11_settles 97 = .ok (.iload 4, 2) := by decide +kernel
theorem dX11_settles_99 : decode cX11_settles 99 = .ok (.invokevirtual 290, 3) := by decide +kernel
theorem dX11_settles_102 : decode cX11_settles 102 = .ok (.aload_n 0, 1) := by decide +kernel
theorem dX11_settles_103 : decode cX11_settles 103 = .ok (.iload_n 1, 1) := by decide +kernel
theorem dX11_settles_104 : decode cX11_settles 104 = .ok (.iload 4, 2) := by decide +kernel
theorem dX11_settles_106 : decode cX11_settles 106 = .ok (.invokevirtual 294, 3) := by decide +kernel
theorem dX11_settles_109 : decode cX11_settles 109 = .ok (.istore 5, 2) := by decide +kernel
theorem dX11_settles_111 : decode cX11_settles 111 = .ok (.aload_n 0, 1) := by decide +kernel
theorem dX11_settles_112 : decode cX11_settles 112 = .ok (.dup, 1) := by decide +kernel
theorem dX11_settles_113 : decode cX11_settles 113 = .ok (.getfield 297, 3) := by decide +kernel
theorem dX11_settles_116 : decode cX11_settles 116 = .ok (.iload 5, 2) := by decide +kernel
theorem dX11_settles_118 : decode cX11_settles 118 = .ok (.invokestatic 275, 3) := by decide +kernel
theorem dX11_settles_121 : decode cX11_settles 121 = .ok (.iadd, 1) := by decide +kernel
theorem dX11_settles_122 : decode cX11_settles 122 = .ok (.putfield 297, 3) := by decide +kernel
theorem dX11_settles_125 : decode cX11_settles 125 = .ok (.iconst 0, 1) := by decide +kernel
theorem dX11_settles_126 : decode cX11_settles 126 = .ok (.istore 6, 2) := by decide +kernel
theorem dX11_settles_128 : decode cX11_settles 128 = .ok (.iload 6, 2) := by decide +kernel
theorem dX11_settles_130 : decode cX11_settles 130 = .ok (.aload_n 0, 1) := by decide +kernel
theorem dX11_settles_131 : decode cX11_settles 131 = .ok (.getfield 202, 3) := by decide +kernel
theorem dX11_settles_134 : decode cX11_settles 134 = .ok (.if_icmp .ge 33, 3) := by decide +kernel
theorem dX11_settles_137 : decode cX11_settles 137 = .ok (.iload 5, 2) := by decide +kernel
theorem dX11_settles_139 : decode cX11_settles 139 = .ok (.iload 6, 2) := by decide +kernel
theorem dX11_settles_141 : decode cX11_settles 141 = .ok (.ishr, 1) := by decide +kernel
theorem dX11_settles_142 : decode cX11_settles 142 = .ok (.iconst 1, 1) := by decide +kernel
theorem dX11_settles_143 : decode cX11_settles 143 = .ok (.iand, 1) := by decide +kernel
theorem dX11_settles_144 : decode cX11_settles 144 = .ok (.iconst 1, 1) := by decide +kernel
theorem dX11_settles_145 : decode cX11_settles 145 = .ok (.if_icmp .ne 16, 3) := by decide +kernel
theorem dX11_settles_148 : decode cX11_settles 148 = .ok (.aload_n 0, 1) := by decide +kernel
theorem dX11_settles_149 : decode cX11_settles 149 = .ok (.getfield 35, 3) := by decide +kernel
theorem dX11_settles_152 : decode cX11_settles 152 = .ok (.iload_n 1, 1) := by decide +kernel
theorem dX11_settles_153 : decode cX11_settles 153 = .ok (.bipush 10, 2) := by decide +kernel
theorem dX11_settles_155 : decode cX11_settles 155 = .ok (.iadd, 1) := by decide +kernel
theorem dX11_settles_156 : decode cX11_settles 156 = .ok (.iload 6, 2) := by decide +kernel
theorem dX11_settles_158 : decode cX11_settles 158 = .ok (.iadd, 1) := by decide +kernel
theorem dX11_settles_159 : decode cX11_settles 159 = .ok (.iconst (-1), 1) := by decide +kernel
theorem dX11_settles_160 : decode cX11_settles 160 = .ok (.iastore, 1) := by decide +kernel
theorem dX11_settles_161 : decode cX11_settles 161 = .ok (.iinc 6 1, 3) := by decide +kernel
theorem dX11_settles_164 : decode cX11_settles 164 = .ok (.goto (-36), 3) := by decide +kernel
theorem dX11_settles_167 : decode cX11_settles 167 = .ok (.iload_n 3, 1) := by decide +kernel
theorem dX11_settles_168 : decode cX11_settles 168 = .ok (.iload 5, 2) := by decide +kernel
theorem dX11_settles_170 : decode cX11_settles 170 = .ok (.ior, 1) := by decide +kernel
theorem dX11_settles_171 : decode cX11_settles 171 = .ok (.istore_n 3, 1) := by decide +kernel
theorem dX11_settles_172 : decode cX11_settles 172 = .ok (.goto (-170), 3) := by decide +kernel
theorem dX11_settles_175 : decode cX11_settles 175 = .ok (.return_, 1) := by decide +kernel
theorem dX11_fails_0 : decode cX11_fails 0 = .ok (.iconst 0, 1) := by decide +kernel
theorem dX11_fails_1 : decode cX11_fails 1 = .ok (.istore_n 3, 1) := by decide +kernel
theorem dX11_fails_2 : decode cX11_fails 2 = .ok (.aload_n 0, 1) := by decide +kernel
theorem dX11_fails_3 : decode cX11_fails 3 = .ok (.getfield 35, 3) := by decide +kernel
theorem dX11_fails_6 : decode cX11_fails 6 = .ok (.iload_n 1, 1) := by decide +kernel
theorem dX11_fails_7 : decode cX11_fails 7 = .ok (.iconst 0, 1) := by decide +kernel
theorem dX11_fails_8 : decode cX11_fails 8 = .ok (.iadd, 1) := by decide +kernel
theorem dX11_fails_9 : decode cX11_fails 9 = .ok (.dup2, 1) := by decide +kernel
theorem dX11_fails_10 : decode cX11_fails 10 = .ok (.iaload, 1) := by decide +kernel
theorem dX11_fails_11 : decode cX11_fails 11 = .ok (.iconst 1, 1) := by decide +kernel
theorem dX11_fails_12 : decode cX11_fails 12 = .ok (.iload_n 2, 1) := by decide +kernel
theorem dX11_fails_13 : decode cX11_fails 13 = .ok (.ishl, 1) := by decide +kernel
theorem dX11_fails_14 : decode cX11_fails 14 = .ok (.iconst (-1), 1) := by decide +kernel
theorem dX11_fails_15 : decode cX11_fails 15 = .ok (.ixor, 1) := by decide +kernel
theorem dX11_fails_16 : decode cX11_fails 16 = .ok (.iand, 1) := by decide +kernel
theorem dX11_fails_17 : decode cX11_fails 17 = .ok (.iastore, 1) := by decide +kernel
theorem dX11_fails_18 : decode cX11_fails 18 = .ok (.iconst 0, 1) := by decide +kernel
theorem dX11_fails_19 : decode cX11_fails 19 = .ok (.istore 4, 2) := by decide +kernel
theorem dX11_fails_21 : decode cX11_fails 21 = .ok (.iload 4, 2) := by decide +kernel
theorem dX11_fails_23 : decode cX11_fails 23 = .ok (.aload_n 0, 1) := by decide +kernel
theorem dX11_fails_24 : decode cX11_fails 24 = .ok (.getfield 202, 3) := by decide +kernel
theorem dX11_fails_27 : decode cX11_fails 27 = .ok (.if_icmp .ge 46, 3) := by decide +kernel
theorem dX11_fails_30 : decode cX11_fails 30 = .ok (.aload_n 0, 1) := by decide +kernel
theorem dX11_fails_31 : decode cX11_fails 31 = .ok (.iload_n 1, 1) := by decide +kernel
theorem dX11_fails_32 : decode cX11_fails 32 = .ok (.iload 4, 2) := by decide +kernel
theorem dX11_fails_34 : decode cX11_fails 34 = .ok (.invokevirtual 226, 3) := by decide +kernel
theorem dX11_fails_37 : decode cX11_fails 37 = .ok (.iload_n 2, 1) := by decide +kernel
theorem dX11_fails_38 : decode cX11_fails 38 = .ok (.ishr, 1) := by decide +kernel
theorem dX11_fails_39 : decode cX11_fails 39 = .ok (.iconst 1, 1) := by decide +kernel
theorem dX11_fails_40 : decode cX11_fails 40 = .ok (.iand, 1) := by decide +kernel
theorem dX11_fails_41 : decode cX11_fails 41 = .ok (.ifCond .ne 6, 3) := by decide +kernel
theorem dX11_fails_44 : decode cX11_fails 44 = .ok (.goto 23, 3) := by decide +kernel
theorem dX11_fails_47 : decode cX11_fails 47 = .ok (.iload_n 3, 1) := by decide +kernel
theorem dX11_fails_48 : decode cX11_fails 48 = .ok (.iconst 1, 1) := by decide +kernel
theorem dX11_fails_49 : decode cX11_fails 49 = .ok (.iload 4, 2) := by decide +kernel
theorem dX11_fails_51 : decode cX11_fails 51 = .ok (.ishl, 1) := by decide +kernel
theorem dX11_fails_52 : decode cX11_fails 52 = .ok (.ior, 1) := by decide +kernel
theorem dX11_fails_53 : decode cX11_fails 53 = .ok (.istore_n 3, 1) := by decide +kernel
theorem dX11_fails_54 : decode cX11_fails 54 = .ok (.aload_n 0, 1) := by decide +kernel
theorem dX11_fails_55 : decode cX11_fails 55 = .ok (.getfield 35, 3) := by decide +kernel
theorem dX11_fails_58 : decode cX11_fails 58 = .ok (.iload_n 1, 1) := by decide +kernel
theorem dX11_fails_59 : decode cX11_fails 59 = .ok (.bipush 10, 2) := by decide +kernel
theorem dX11_fails_61 : decode cX11_fails 61 = .ok (.iadd, 1) := by decide +kernel
theorem dX11_fails_62 : decode cX11_fails 62 = .ok (.iload 4, 2) := by decide +kernel
theorem dX11_fails_64 : decode cX11_fails 64 = .ok (.iadd, 1) := by decide +kernel
theorem dX11_fails_65 : decode cX11_fails 65 = .ok (.iconst (-1), 1) := by decide +kernel
theorem dX11_fails_66 : decode cX11_fails 66 = .ok (.iastore, 1) := by decide +kernel
theorem dX11_fails_67 : decode cX11_fails 67 = .ok (.iinc 4 1, 3) := by decide +kernel
theorem dX11_fails_70 : decode cX11_fails 70 = .ok (.goto (-49), 3) := by decide +kernel
theorem dX11_fails_73 : decode cX11_fails 73 = .ok (.aload_n 0, 1) := by decide +kernel
theorem dX11_fails_74 : decode cX11_fails 74 = .ok (.iload_n 1, 1) := by decide +kernel
theorem dX11_fails_75 : decode cX11_fails 75 = .ok (.iload_n 3, 1) := by decide +kernel
theorem dX11_fails_76 : decode cX11_fails 76 = .ok (.invokevirtual 300, 3) := by decide +kernel
theorem dX11_fails_79 : decode cX11_fails 79 = .ok (.return_, 1) := by decide +kernel
theorem dX11_lossBy_0 : decode cX11_lossBy 0 = .ok (.aload_n 0, 1) := by decide +kernel
theorem dX11_lossBy_1 : decode cX11_lossBy 1 = .ok (.invokevirtual 303, 3) := by decide +kernel
theorem dX11_lossBy_4 : decode cX11_lossBy 4 = .ok (.aload_n 0, 1) := by decide +kernel
theorem dX11_lossBy_5 : decode cX11_lossBy 5 = .ok (.bipush 82, 2) := by decide +kernel
theorem dX11_lossBy_7 : decode cX11_lossBy 7 = .ok (.iload_n 1, 1) := by decide +kernel
theorem dX11_lossBy_8 : decode cX11_lossBy 8 = .ok (.invokevirtual 306, 3) := by decide +kernel
theorem dX11_lossBy_11 : decode cX11_lossBy 11 = .ok (.aload_n 0, 1) := by decide +kernel
theorem dX11_lossBy_12 : decode cX11_lossBy 12 = .ok (.iconst 0, 1) := by decide +kernel
theorem dX11_lossBy_13 : decode cX11_lossBy 13 = .ok (.invokevirtual 309, 3) := by decide +kernel
theorem dX11_lossBy_16 : decode cX11_lossBy 16 = .ok (.aload_n 0, 1) := by decide +kernel
theorem dX11_lossBy_17 : decode cX11_lossBy 17 = .ok (.bipush 82, 2) := by decide +kernel
theorem dX11_lossBy_19 : decode cX11_lossBy 19 = .ok (.invokevirtual 309, 3) := by decide +kernel
theorem dX11_lossBy_22 : decode cX11_lossBy 22 = .ok (.iconst (-1), 1) := by decide +kernel
theorem dX11_lossBy_23 : decode cX11_lossBy 23 = .ok (.ixor, 1) := by decide +kernel
theorem dX11_lossBy_24 : decode cX11_lossBy 24 = .ok (.iand, 1) := by decide +kernel
theorem dX11_lossBy_25 : decode cX11_lossBy 25 = .ok (.invokestatic 275, 3) := by decide +kernel
theorem dX11_lossBy_28 : decode cX11_lossBy 28 = .ok (.ireturn, 1) := by decide +kernel
theorem dX11_takenAll_0 : decode cX11_takenAll 0 = .ok (.iconst 0, 1) := by decide +kernel
theorem dX11_takenAll_1 : decode cX11_takenAll 1 = .ok (.istore_n 2, 1) := by decide +kernel
theorem dX11_takenAll_2 : decode cX11_takenAll 2 = .ok (.iconst 0, 1) := by decide +kernel
theorem dX11_takenAll_3 : decode cX11_takenAll 3 = .ok (.istore_n 3, 1) := by decide +kernel
theorem dX11_takenAll_4 : decode cX11_takenAll 4 = .ok (.iload_n 3, 1) := by decide +kernel
theorem dX11_takenAll_5 : decode cX11_takenAll 5 = .ok (.aload_n 0, 1) := by decide +kernel
theorem dX11_takenAll_6 : decode cX11_takenAll 6 = .ok (.getfield 199, 3) := by decide +kernel
theorem dX11_takenAll_9 : decode cX11_takenAll 9 = .ok (.if_icmp .ge 18, 3) := by decide +kernel
theorem dX11_takenAll_12 : decode cX11_takenAll 12 = .ok (.iload_n 2, 1) := by decide +kernel
theorem dX11_takenAll_13 : decode cX11_takenAll 13 = .ok (.aload_n 0, 1) := by decide +kernel
theorem dX11_takenAll_14 : decode cX11_takenAll 14 = .ok (.iload_n 1, 1) := by decide +kernel
theorem dX11_takenAll_15 : decode cX11_takenAll 15 = .ok (.iload_n 3, 1) := by decide +kernel
theorem dX11_takenAll_16 : decode cX11_takenAll 16 = .ok (.invokevirtual 269, 3) := by decide +kernel
theorem dX11_takenAll_19 : decode cX11_takenAll 19 = .ok (.iadd, 1) := by decide +kernel
theorem dX11_takenAll_20 : decode cX11_takenAll 20 = .ok (.istore_n 2, 1) := by decide +kernel
theorem dX11_takenAll_21 : decode cX11_takenAll 21 = .ok (.iinc 3 1, 3) := by decide +kernel
theorem dX11_takenAll_24 : decode cX11_takenAll 24 = .ok (.goto (-20), 3) := by decide +kernel
theorem dX11_takenAll_27 : decode cX11_takenAll 27 = .ok (.iload_n 2, 1) := by decide +kernel
theorem dX11_takenAll_28 : decode cX11_takenAll 28 = .ok (.ireturn, 1) := by decide +kernel
theorem dX11_metricAll_0 : decode cX11_metricAll 0 = .ok (.iconst 0, 1) := by decide +kernel
theorem dX11_metricAll_1 : decode cX11_metricAll 1 = .ok (.istore_n 1, 1) := by decide +kernel
theorem dX11_metricAll_2 : decode cX11_metricAll 2 = .ok (.iconst 0, 1) := by decide +kernel
theorem dX11_metricAll_3 : decode cX11_metricAll 3 = .ok (.istore_n 2, 1) := by decide +kernel
theorem dX11_metricAll_4 : decode cX11_metricAll 4 = .ok (.iload_n 2, 1) := by decide +kernel
theorem dX11_metricAll_5 : decode cX11_metricAll 5 = .ok (.aload_n 0, 1) := by decide +kernel
theorem dX11_metricAll_6 : decode cX11_metricAll 6 = .ok (.getfield 202, 3) := by decide +kernel
theorem dX11_metricAll_9 : decode cX11_metricAll 9 = .ok (.if_icmp .ge 22, 3) := by decide +kernel
theorem dX11_metricAll_12 : decode cX11_metricAll 12 = .ok (.iload_n 1, 1) := by decide +kernel
theorem dX11_metricAll_13 : decode cX11_metricAll 13 = .ok (.aload_n 0, 1) := by decide +kernel
theorem dX11_metricAll_14 : decode cX11_metricAll 14 = .ok (.aload_n 0, 1) := by decide +kernel
theorem dX11_metricAll_15 : decode cX11_metricAll 15 = .ok (.iconst 0, 1) := by decide +kernel
theorem dX11_metricAll_16 : decode cX11_metricAll 16 = .ok (.iload_n 2, 1) := by decide +kernel
theorem dX11_metricAll_17 : decode cX11_metricAll 17 = .ok (.invokevirtual 226, 3) := by decide +kernel
theorem dX11_metricAll_20 : decode cX11_metricAll 20 = .ok (.invokevirtual 240, 3) := by decide +kernel
theorem dX11_metricAll_23 : decode cX11_metricAll 23 = .ok (.iadd, 1) := by decide +kernel
theorem dX11_metricAll_24 : decode cX11_metricAll 24 = .ok (.istore_n 1, 1) := by decide +kernel
theorem dX11_metricAll_25 : decode cX11_metricAll 25 = .ok (.iinc 2 1, 3) := by decide +kernel
theorem dX11_metricAll_28 : decode cX11_metricAll 28 = .ok (.goto (-24), 3) := by decide +kernel
theorem dX11_metricAll_31 : decode cX11_metricAll 31 = .ok (.iload_n 1, 1) := by decide +kernel
theorem dX11_metricAll_32 : decode cX11_metricAll 32 = .ok (.ireturn, 1) := by decide +kernel
theorem dX11_loadAt_0 : decode cX11_loadAt 0 = .ok (.bipush 100, 2) := by decide +kernel
theorem dX11_loadAt_2 : decode cX11_loadAt 2 = .ok (.aload_n 0, 1) := by decide +kernel
theorem dX11_loadAt_3 : decode cX11_loadAt 3 = .ok (.iconst 0, 1) := by decide +kernel
theorem dX11_loadAt_4 : decode cX11_loadAt 4 = .ok (.iload_n 1, 1) := by decide +kernel
theorem dX11_loadAt_5 : decode cX11_loadAt 5 = .ok (.invokevirtual 269, 3) := by decide +kernel
theorem dX11_loadAt_8 : decode cX11_loadAt 8 = .ok (.imul, 1) := by decide +kernel
theorem dX11_loadAt_9 : decode cX11_loadAt 9 = .ok (.aload_n 0, 1) := by decide +kernel
theorem dX11_loadAt_10 : decode cX11_loadAt 10 = .ok (.getfield 23, 3) := by decide +kernel
theorem dX11_loadAt_13 : decode cX11_loadAt 13 = .ok (.iconst 5, 1) := by decide +kernel
theorem dX11_loadAt_14 : decode cX11_loadAt 14 = .ok (.iload_n 1, 1) := by decide +kernel
theorem dX11_loadAt_15 : decode cX11_loadAt 15 = .ok (.imul, 1) := by decide +kernel
theorem dX11_loadAt_16 : decode cX11_loadAt 16 = .ok (.iconst 3, 1) := by decide +kernel
theorem dX11_loadAt_17 : decode cX11_loadAt 17 = .ok (.iadd, 1) := by decide +kernel
theorem dX11_loadAt_18 : decode cX11_loadAt 18 = .ok (.iaload, 1) := by decide +kernel
theorem dX11_loadAt_19 : decode cX11_loadAt 19 = .ok (.idiv, 1) := by decide +kernel
theorem dX11_loadAt_20 : decode cX11_loadAt 20 = .ok (.ireturn, 1) := by decide +kernel
theorem dX11_heaviest_0 : decode cX11_heaviest 0 = .ok (.iconst (-1), 1) := by decide +kernel
theorem dX11_heaviest_1 : decode cX11_heaviest 1 = .ok (.istore_n 1, 1) := by decide +kernel
theorem dX11_heaviest_2 : decode cX11_heaviest 2 = .ok (.iconst 0, 1) := by decide +kernel
theorem dX11_heaviest_3 : decode cX11_heaviest 3 = .ok (.istore_n 2, 1) := by decide +kernel
theorem dX11_heaviest_4 : decode cX11_heaviest 4 = .ok (.iload_n 2, 1) := by decide +kernel
theorem dX11_heaviest_5 : decode cX11_heaviest 5 = .ok (.aload_n 0, 1) := by decide +kernel
theorem dX11_heaviest_6 : decode cX11_heaviest 6 = .ok (.getfield 199, 3) := by decide +kernel
theorem dX11_heaviest_9 : decode cX11_heaviest 9 = .ok (.if_icmp .ge 38, 3) := by decide +kernel
theorem dX11_heaviest_12 : decode cX11_heaviest 12 = .ok (.aload_n 0, 1) := by decide +kernel
theorem dX11_heaviest_13 : decode cX11_heaviest 13 = .ok (.iconst 0, 1) := by decide +kernel
theorem dX11_heaviest_14 : decode cX11_heaviest 14 = .ok (.iload_n 2, 1) := by decide +kernel
theorem dX11_heaviest_15 : decode cX11_heaviest 15 = .ok (.invokevirtual 233, 3) := by decide +kernel
theorem dX11_heaviest_18 : decode cX11_heaviest 18 = .ok (.ifCond .eq 23, 3) := by decide +kernel
theorem dX11_heaviest_21 : decode cX11_heaviest 21 = .ok (.iload_n 1, 1) := by decide +kernel
theorem dX11_heaviest_22 : decode cX11_heaviest 22 = .ok (.iconst (-1), 1) := by decide +kernel
theorem dX11_heaviest_23 : decode cX11_heaviest 23 = .ok (.if_icmp .eq 16, 3) := by decide +kernel
theorem dX11_heaviest_26 : decode cX11_heaviest 26 = .ok (.aload_n 0, 1) := by decide +kernel
theorem dX11_heaviest_27 : decode cX11_heaviest 27 = .ok (.iload_n 2, 1) := by decide +kernel
theorem dX11_heaviest_28 : decode cX11_heaviest 28 = .ok (.invokevirtual 312, 3) := by decide +kernel
theorem dX11_heaviest_31 : decode cX11_heaviest 31 = .ok (.aload_n 0, 1) := by decide +kernel
theorem dX11_heaviest_32 : decode cX11_heaviest 32 = .ok (.iload_n 1, 1) := by decide +kernel
theorem dX11_heaviest_33 : decode cX11_heaviest 33 = .ok (.invokevirtual 312, 3) := by decide +kernel
theorem dX11_heaviest_36 : decode cX11_heaviest 36 = .ok (.if_icmp .le 5, 3) := by decide +kernel
theorem dX11_heaviest_39 : decode cX11_heaviest 39 = .ok (.iload_n 2, 1) := by decide +kernel
theorem dX11_heaviest_40 : decode cX11_heaviest 40 = .ok (.istore_n 1, 1) := by decide +kernel
theorem dX11_heaviest_41 : decode cX11_heaviest 41 = .ok (.iinc 2 1, 3) := by decide +kernel
theorem dX11_heaviest_44 : decode cX11_heaviest 44 = .ok (.goto (-40), 3) := by decide +kernel
theorem dX11_heaviest_47 : decode cX11_heaviest 47 = .ok (.iload_n 1, 1) := by decide +kernel
theorem dX11_heaviest_48 : decode cX11_heaviest 48 = .ok (.ireturn, 1) := by decide +kernel
theorem dX11_worst_0 : decode cX11_worst 0 = .ok (.iconst (-1), 1) := by decide +kernel
theorem dX11_worst_1 : decode cX11_worst 1 = .ok (.istore_n 2, 1) := by decide +kernel
theorem dX11_worst_2 : decode cX11_worst 2 = .ok (.iconst 0, 1) := by decide +kernel
theorem dX11_worst_3 : decode cX11_worst 3 = .ok (.istore_n 3, 1) := by decide +kernel
theorem dX11_worst_4 : decode cX11_worst 4 = .ok (.iconst 0, 1) := by decide +kernel
theorem dX11_worst_5 : decode cX11_worst 5 = .ok (.istore 4, 2) := by decide +kernel
theorem dX11_worst_7 : decode cX11_worst 7 = .ok (.iload 4, 2) := by decide +kernel
theorem dX11_worst_9 : decode cX11_worst 9 = .ok (.aload_n 0, 1) := by decide +kernel
theorem dX11_worst_10 : decode cX11_worst 10 = .ok (.getfield 199, 3) := by decide +kernel
theorem dX11_worst_13 : decode cX11_worst 13 = .ok (.if_icmp .ge 45, 3) := by decide +kernel
theorem dX11_worst_16 : decode cX11_worst 16 = .ok (.aload_n 0, 1) := by decide +kernel
theorem dX11_worst_17 : decode cX11_worst 17 = .ok (.iconst 0, 1) := by decide +kernel
theorem dX11_worst_18 : decode cX11_worst 18 = .ok (.iload 4, 2) := by decide +kernel
theorem dX11_worst_20 : decode cX11_worst 20 = .ok (.invokevirtual 233, 3) := by decide +kernel
theorem dX11_worst_23 : decode cX11_worst 23 = .ok (.ifCond .ne 6, 3) := by decide +kernel
theorem dX11_worst_26 : decode cX11_worst 26 = .ok (.goto 26, 3) := by decide +kernel
theorem dX11_worst_29 : decode cX11_worst 29 = .ok (.aload_n 0, 1) := by decide +kernel
theorem dX11_worst_30 : decode cX11_worst 30 = .ok (.iload 4, 2) := by decide +kernel
theorem dX11_worst_32 : decode cX11_worst 32 = .ok (.invokevirtual 315, 3) := by decide +kernel
theorem dX11_worst_35 : decode cX11_worst 35 = .ok (.istore 5, 2) := by decide +kernel
theorem dX11_worst_37 : decode cX11_worst 37 = .ok (.iload 5, 2) := by decide +kernel
theorem dX11_worst_39 : decode cX11_worst 39 = .ok (.iload_n 3, 1) := by decide +kernel
theorem dX11_worst_40 : decode cX11_worst 40 = .ok (.if_icmp .gt 6, 3) := by decide +kernel
theorem dX11_worst_43 : decode cX11_worst 43 = .ok (.goto 9, 3) := by decide +kernel
theorem dX11_worst_46 : decode cX11_worst 46 = .ok (.iload 4, 2) := by decide +kernel
theorem dX11_worst_48 : decode cX11_worst 48 = .ok (.istore_n 2, 1) := by decide +kernel
theorem dX11_worst_49 : decode cX11_worst 49 = .ok (.iload 5, 2) := by decide +kernel
theorem dX11_worst_51 : decode cX11_worst 51 = .ok (.istore_n 3, 1) := by decide +kernel
theorem dX11_worst_52 : decode cX11_worst 52 = .ok (.iinc 4 1, 3) := by decide +kernel
theorem dX11_worst_55 : decode cX11_worst 55 = .ok (.goto (-48), 3) := by decide +kernel
theorem dX11_worst_58 : decode cX11_worst 58 = .ok (.iload_n 1, 1) := by decide +kernel
theorem dX11_worst_59 : decode cX11_worst 59 = .ok (.ifCond .eq 7, 3) := by decide +kernel
theorem dX11_worst_62 : decode cX11_worst 62 = .ok (.iload_n 3, 1) := by decide +kernel
theorem dX11_worst_63 : decode cX11_worst 63 = .ok (.goto 4, 3) := by decide +kernel
theorem dX11_worst_66 : decode cX11_worst 66 = .ok (.iload_n 2, 1) := by decide +kernel
theorem dX11_worst_67 : decode cX11_worst 67 = .ok (.ireturn, 1) := by decide +kernel
theorem dX11_count_0 : decode cX11_count 0 = .ok (.aload_n 0, 1) := by decide +kernel
theorem dX11_count_1 : decode cX11_count 1 = .ok (.iconst 0, 1) := by decide +kernel
theorem dX11_count_2 : decode cX11_count 2 = .ok (.putfield 96, 3) := by decide +kernel
theorem dX11_count_5 : decode cX11_count 5 = .ok (.aload_n 0, 1) := by decide +kernel
theorem dX11_count_6 : decode cX11_count 6 = .ok (.iload_n 1, 1) := by decide +kernel
theorem dX11_count_7 : decode cX11_count 7 = .ok (.iconst 0, 1) := by decide +kernel
theorem dX11_count_8 : decode cX11_count 8 = .ok (.bipush 16, 2) := by decide +kernel
theorem dX11_count_10 : decode cX11_count 10 = .ok (.invokestatic 318, 3) := by decide +kernel
theorem dX11_count_13 : decode cX11_count 13 = .ok (.iconst 1, 1) := by decide +kernel
theorem dX11_count_14 : decode cX11_count 14 = .ok (.invokevirtual 192, 3) := by decide +kernel
