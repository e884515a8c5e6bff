theorem d_C_fillUnitRows_0 : decode (m_C_fillUnitRows).2.1 0 = .ok (.aload_n 0, 1) := by decide +kernel
theorem d_C_fillUnitRows_1 : decode (m_C_fillUnitRows).2.1 1 = .ok (.getfield 43, 3) := by decide +kernel
theorem d_C_fillUnitRows_4 : decode (m_C_fillUnitRows).2.1 4 = .ok (.aload_n 0, 1) := by decide +kernel
theorem d_C_fillUnitRows_5 : decode (m_C_fillUnitRows).2.1 5 = .ok (.getfield 46, 3) := by decide +kernel
theorem d_C_fillUnitRows_8 : decode (m_C_fillUnitRows).2.1 8 = .ok (.iadd, 1) := by decide +kernel
theorem d_C_fillUnitRows_9 : decode (m_C_fillUnitRows).2.1 9 = .ok (.istore_n 3, 1) := by decide +kernel
theorem d_C_fillUnitRows_10 : decode (m_C_fillUnitRows).2.1 10 = .ok (.iconst 0, 1) := by decide +kernel
theorem d_C_fillUnitRows_11 : decode (m_C_fillUnitRows).2.1 11 = .ok (.istore 4, 2) := by decide +kernel
theorem d_C_fillUnitRows_13 : decode (m_C_fillUnitRows).2.1 13 = .ok (.iload 4, 2) := by decide +kernel
theorem d_C_fillUnitRows_15 : decode (m_C_fillUnitRows).2.1 15 = .ok (.aload_n 0, 1) := by decide +kernel
theorem d_C_fillUnitRows_16 : decode (m_C_fillUnitRows).2.1 16 = .ok (.getfield 46, 3) := by decide +kernel
theorem d_C_fillUnitRows_19 : decode (m_C_fillUnitRows).2.1 19 = .ok (.if_icmp .ge 26, 3) := by decide +kernel
theorem d_C_fillUnitRows_22 : decode (m_C_fillUnitRows).2.1 22 = .ok (.aload_n 0, 1) := by decide +kernel
theorem d_C_fillUnitRows_23 : decode (m_C_fillUnitRows).2.1 23 = .ok (.getfield 26, 3) := by decide +kernel
theorem d_C_fillUnitRows_26 : decode (m_C_fillUnitRows).2.1 26 = .ok (.iload 4, 2) := by decide +kernel
theorem d_C_fillUnitRows_28 : decode (m_C_fillUnitRows).2.1 28 = .ok (.aaload, 1) := by decide +kernel
theorem d_C_fillUnitRows_29 : decode (m_C_fillUnitRows).2.1 29 = .ok (.iconst 0, 1) := by decide +kernel
theorem d_C_fillUnitRows_30 : decode (m_C_fillUnitRows).2.1 30 = .ok (.aload_n 1, 1) := by decide +kernel
theorem d_C_fillUnitRows_31 : decode (m_C_fillUnitRows).2.1 31 = .ok (.iload 4, 2) := by decide +kernel
theorem d_C_fillUnitRows_33 : decode (m_C_fillUnitRows).2.1 33 = .ok (.aaload, 1) := by decide +kernel
theorem d_C_fillUnitRows_34 : decode (m_C_fillUnitRows).2.1 34 = .ok (.iconst 0, 1) := by decide +kernel
theorem d_C_fillUnitRows_35 : decode (m_C_fillUnitRows).2.1 35 = .ok (.iload_n 3, 1) := by decide +kernel
theorem d_C_fillUnitRows_36 : decode (m_C_fillUnitRows).2.1 36 = .ok (.invokestatic 78, 3) := by decide +kernel
theorem d_C_fillUnitRows_39 : decode (m_C_fillUnitRows).2.1 39 = .ok (.iinc 4 1, 3) := by decide +kernel
theorem d_C_fillUnitRows_42 : decode (m_C_fillUnitRows).2.1 42 = .ok (.goto (-29), 3) := by decide +kernel
theorem d_C_fillUnitRows_45 : decode (m_C_fillUnitRows).2.1 45 = .ok (.iconst 0, 1) := by decide +kernel
theorem d_C_fillUnitRows_46 : decode (m_C_fillUnitRows).2.1 46 = .ok (.istore 4, 2) := by decide +kernel
theorem d_C_fillUnitRows_48 : decode (m_C_fillUnitRows).2.1 48 = .ok (.iload 4, 2) := by decide +kernel
theorem d_C_fillUnitRows_50 : decode (m_C_fillUnitRows).2.1 50 = .ok (.aload_n 0, 1) := by decide +kernel
theorem d_C_fillUnitRows_51 : decode (m_C_fillUnitRows).2.1 51 = .ok (.getfield 46, 3) := by decide +kernel
theorem d_C_fillUnitRows_54 : decode (m_C_fillUnitRows).2.1 54 = .ok (.if_icmp .ge 117, 3) := by decide +kernel
theorem d_C_fillUnitRows_57 : decode (m_C_fillUnitRows).2.1 57 = .ok (.aload_n 0, 1) := by decide +kernel
theorem d_C_fillUnitRows_58 : decode (m_C_fillUnitRows).2.1 58 = .ok (.getfield 35, 3) := by decide +kernel
theorem d_C_fillUnitRows_61 : decode (m_C_fillUnitRows).2.1 61 = .ok (.iconst 1, 1) := by decide +kernel
theorem d_C_fillUnitRows_62 : decode (m_C_fillUnitRows).2.1 62 = .ok (.aload_n 1, 1) := by decide +kernel
theorem d_C_fillUnitRows_63 : decode (m_C_fillUnitRows).2.1 63 = .ok (.iload 4, 2) := by decide +kernel
theorem d_C_fillUnitRows_65 : decode (m_C_fillUnitRows).2.1 65 = .ok (.aaload, 1) := by decide +kernel
theorem d_C_fillUnitRows_66 : decode (m_C_fillUnitRows).2.1 66 = .ok (.iload_n 2, 1) := by decide +kernel
theorem d_C_fillUnitRows_67 : decode (m_C_fillUnitRows).2.1 67 = .ok (.iload 4, 2) := by decide +kernel
theorem d_C_fillUnitRows_69 : decode (m_C_fillUnitRows).2.1 69 = .ok (.iadd, 1) := by decide +kernel
theorem d_C_fillUnitRows_70 : decode (m_C_fillUnitRows).2.1 70 = .ok (.iaload, 1) := by decide +kernel
theorem d_C_fillUnitRows_71 : decode (m_C_fillUnitRows).2.1 71 = .ok (.invokevirtual 72, 3) := by decide +kernel
theorem d_C_fillUnitRows_74 : decode (m_C_fillUnitRows).2.1 74 = .ok (.istore 5, 2) := by decide +kernel
theorem d_C_fillUnitRows_76 : decode (m_C_fillUnitRows).2.1 76 = .ok (.iconst 0, 1) := by decide +kernel
theorem d_C_fillUnitRows_77 : decode (m_C_fillUnitRows).2.1 77 = .ok (.istore 6, 2) := by decide +kernel
theorem d_C_fillUnitRows_79 : decode (m_C_fillUnitRows).2.1 79 = .ok (.iload 6, 2) := by decide +kernel
theorem d_C_fillUnitRows_81 : decode (m_C_fillUnitRows).2.1 81 = .ok (.iload_n 3, 1) := by decide +kernel
theorem d_C_fillUnitRows_82 : decode (m_C_fillUnitRows).2.1 82 = .ok (.if_icmp .ge 32, 3) := by decide +kernel
theorem d_C_fillUnitRows_85 : decode (m_C_fillUnitRows).2.1 85 = .ok (.aload_n 1, 1) := by decide +kernel
theorem d_C_fillUnitRows_86 : decode (m_C_fillUnitRows).2.1 86 = .ok (.iload 4, 2) := by decide +kernel
theorem d_C_fillUnitRows_88 : decode (m_C_fillUnitRows).2.1 88 = .ok (.aaload, 1) := by decide +kernel
theorem d_C_fillUnitRows_89 : decode (m_C_fillUnitRows).2.1 89 = .ok (.iload 6, 2) := by decide +kernel
theorem d_C_fillUnitRows_91 : decode (m_C_fillUnitRows).2.1 91 = .ok (.aload_n 0, 1) := by decide +kernel
theorem d_C_fillUnitRows_92 : decode (m_C_fillUnitRows).2.1 92 = .ok (.getfield 35, 3) := by decide +kernel
theorem d_C_fillUnitRows_95 : decode (m_C_fillUnitRows).2.1 95 = .ok (.iload 5, 2) := by decide +kernel
theorem d_C_fillUnitRows_97 : decode (m_C_fillUnitRows).2.1 97 = .ok (.aload_n 1, 1) := by decide +kernel
theorem d_C_fillUnitRows_98 : decode (m_C_fillUnitRows).2.1 98 = .ok (.iload 4, 2) := by decide +kernel
theorem d_C_fillUnitRows_100 : decode (m_C_fillUnitRows).2.1 100 = .ok (.aaload, 1) := by decide +kernel
theorem d_C_fillUnitRows_101 : decode (m_C_fillUnitRows).2.1 101 = .ok (.iload 6, 2) := by decide +kernel
theorem d_C_fillUnitRows_103 : decode (m_C_fillUnitRows).2.1 103 = .ok (.iaload, 1) := by decide +kernel
theorem d_C_fillUnitRows_104 : decode (m_C_fillUnitRows).2.1 104 = .ok (.invokevirtual 68, 3) := by decide +kernel
theorem d_C_fillUnitRows_107 : decode (m_C_fillUnitRows).2.1 107 = .ok (.iastore, 1) := by decide +kernel
theorem d_C_fillUnitRows_108 : decode (m_C_fillUnitRows).2.1 108 = .ok (.iinc 6 1, 3) := by decide +kernel
theorem d_C_fillUnitRows_111 : decode (m_C_fillUnitRows).2.1 111 = .ok (.goto (-32), 3) := by decide +kernel
theorem d_C_fillUnitRows_114 : decode (m_C_fillUnitRows).2.1 114 = .ok (.iconst 0, 1) := by decide +kernel
theorem d_C_fillUnitRows_115 : decode (m_C_fillUnitRows).2.1 115 = .ok (.istore 6, 2) := by decide +kernel
theorem d_C_fillUnitRows_117 : decode (m_C_fillUnitRows).2.1 117 = .ok (.iload 6, 2) := by decide +kernel
theorem d_C_fillUnitRows_119 : decode (m_C_fillUnitRows).2.1 119 = .ok (.aload_n 0, 1) := by decide +kernel
theorem d_C_fillUnitRows_120 : decode (m_C_fillUnitRows).2.1 120 = .ok (.getfield 46, 3) := by decide +kernel
theorem d_C_fillUnitRows_123 : decode (m_C_fillUnitRows).2.1 123 = .ok (.if_icmp .ge 42, 3) := by decide +kernel
theorem d_C_fillUnitRows_126 : decode (m_C_fillUnitRows).2.1 126 = .ok (.iload 6, 2) := by decide +kernel
theorem d_C_fillUnitRows_128 : decode (m_C_fillUnitRows).2.1 128 = .ok (.iload 4, 2) := by decide +kernel
theorem d_C_fillUnitRows_130 : decode (m_C_fillUnitRows).2.1 130 = .ok (.if_icmp .eq 29, 3) := by decide +kernel
theorem d_C_fillUnitRows_133 : decode (m_C_fillUnitRows).2.1 133 = .ok (.aload_n 0, 1) := by decide +kernel
theorem d_C_fillUnitRows_134 : decode (m_C_fillUnitRows).2.1 134 = .ok (.getfield 35, 3) := by decide +kernel
theorem d_C_fillUnitRows_137 : decode (m_C_fillUnitRows).2.1 137 = .ok (.aload_n 1, 1) := by decide +kernel
theorem d_C_fillUnitRows_138 : decode (m_C_fillUnitRows).2.1 138 = .ok (.iload 6, 2) := by decide +kernel
theorem d_C_fillUnitRows_140 : decode (m_C_fillUnitRows).2.1 140 = .ok (.aaload, 1) := by decide +kernel
theorem d_C_fillUnitRows_141 : decode (m_C_fillUnitRows).2.1 141 = .ok (.aload_n 1, 1) := by decide +kernel
theorem d_C_fillUnitRows_142 : decode (m_C_fillUnitRows).2.1 142 = .ok (.iload 6, 2) := by decide +kernel
theorem d_C_fillUnitRows_144 : decode (m_C_fillUnitRows).2.1 144 = .ok (.aaload, 1) := by decide +kernel
theorem d_C_fillUnitRows_145 : decode (m_C_fillUnitRows).2.1 145 = .ok (.iload_n 2, 1) := by decide +kernel
theorem d_C_fillUnitRows_146 : decode (m_C_fillUnitRows).2.1 146 = .ok (.iload 4, 2) := by decide +kernel
theorem d_C_fillUnitRows_148 : decode (m_C_fillUnitRows).2.1 148 = .ok (.iadd, 1) := by decide +kernel
theorem d_C_fillUnitRows_149 : decode (m_C_fillUnitRows).2.1 149 = .ok (.iaload, 1) := by decide +kernel
theorem d_C_fillUnitRows_150 : decode (m_C_fillUnitRows).2.1 150 = .ok (.aload_n 1, 1) := by decide +kernel
theorem d_C_fillUnitRows_151 : decode (m_C_fillUnitRows).2.1 151 = .ok (.iload 4, 2) := by decide +kernel
theorem d_C_fillUnitRows_153 : decode (m_C_fillUnitRows).2.1 153 = .ok (.aaload, 1) := by decide +kernel
theorem d_C_fillUnitRows_154 : decode (m_C_fillUnitRows).2.1 154 = .ok (.iconst 0, 1) := by decide +kernel
theorem d_C_fillUnitRows_155 : decode (m_C_fillUnitRows).2.1 155 = .ok (.iload_n 3, 1) := by decide +kernel
theorem d_C_fillUnitRows_156 : decode (m_C_fillUnitRows).2.1 156 = .ok (.invokevirtual 84, 3) := by decide +kernel
theorem d_C_fillUnitRows_159 : decode (m_C_fillUnitRows).2.1 159 = .ok (.iinc 6 1, 3) := by decide +kernel
theorem d_C_fillUnitRows_162 : decode (m_C_fillUnitRows).2.1 162 = .ok (.goto (-45), 3) := by decide +kernel
theorem d_C_fillUnitRows_165 : decode (m_C_fillUnitRows).2.1 165 = .ok (.iinc 4 1, 3) := by decide +kernel
theorem d_C_fillUnitRows_168 : decode (m_C_fillUnitRows).2.1 168 = .ok (.goto (-120), 3) := by decide +kernel
theorem d_C_fillUnitRows_171 : decode (m_C_fillUnitRows).2.1 171 = .ok (.return_, 1) := by decide +kernel
theorem d_C_mixed_0 : decode (m_C_mixed).2.1 0 = .ok (.iconst 0, 1) := by decide +kernel
theorem d_C_mixed_1 : decode (m_C_mixed).2.1 1 = .ok (.istore 4, 2) := by decide +kernel
theorem d_C_mixed_3 : decode (m_C_mixed).2.1 3 = .ok (.iconst 0, 1) := by decide +kernel
theorem d_C_mixed_4 : decode (m_C_mixed).2.1 4 = .ok (.istore 5, 2) := by decide +kernel
theorem d_C_mixed_6 : decode (m_C_mixed).2.1 6 = .ok (.iload 5, 2) := by decide +kernel
theorem d_C_mixed_8 : decode (m_C_mixed).2.1 8 = .ok (.aload_n 0, 1) := by decide +kernel
theorem d_C_mixed_9 : decode (m_C_mixed).2.1 9 = .ok (.getfield 46, 3) := by decide +kernel
theorem d_C_mixed_12 : decode (m_C_mixed).2.1 12 = .ok (.if_icmp .ge 31, 3) := by decide +kernel
theorem d_C_mixed_15 : decode (m_C_mixed).2.1 15 = .ok (.iload 4, 2) := by decide +kernel
theorem d_C_mixed_17 : decode (m_C_mixed).2.1 17 = .ok (.aload_n 0, 1) := by decide +kernel
theorem d_C_mixed_18 : decode (m_C_mixed).2.1 18 = .ok (.getfield 35, 3) := by decide +kernel
theorem d_C_mixed_21 : decode (m_C_mixed).2.1 21 = .ok (.aload_n 2, 1) := by decide +kernel
theorem d_C_mixed_22 : decode (m_C_mixed).2.1 22 = .ok (.iload 5, 2) := by decide +kernel
theorem d_C_mixed_24 : decode (m_C_mixed).2.1 24 = .ok (.iaload, 1) := by decide +kernel
theorem d_C_mixed_25 : decode (m_C_mixed).2.1 25 = .ok (.aload_n 1, 1) := by decide +kernel
theorem d_C_mixed_26 : decode (m_C_mixed).2.1 26 = .ok (.iload 5, 2) := by decide +kernel
theorem d_C_mixed_28 : decode (m_C_mixed).2.1 28 = .ok (.aaload, 1) := by decide +kernel
theorem d_C_mixed_29 : decode (m_C_mixed).2.1 29 = .ok (.iload_n 3, 1) := by decide +kernel
theorem d_C_mixed_30 : decode (m_C_mixed).2.1 30 = .ok (.iaload, 1) := by decide +kernel
theorem d_C_mixed_31 : decode (m_C_mixed).2.1 31 = .ok (.invokevirtual 68, 3) := by decide +kernel
theorem d_C_mixed_34 : decode (m_C_mixed).2.1 34 = .ok (.ixor, 1) := by decide +kernel
theorem d_C_mixed_35 : decode (m_C_mixed).2.1 35 = .ok (.istore 4, 2) := by decide +kernel
theorem d_C_mixed_37 : decode (m_C_mixed).2.1 37 = .ok (.iinc 5 1, 3) := by decide +kernel
theorem d_C_mixed_40 : decode (m_C_mixed).2.1 40 = .ok (.goto (-34), 3) := by decide +kernel
theorem d_C_mixed_43 : decode (m_C_mixed).2.1 43 = .ok (.iload 4, 2) := by decide +kernel
theorem d_C_mixed_45 : decode (m_C_mixed).2.1 45 = .ok (.ireturn, 1) := by decide +kernel
theorem d_C_toldBy_0 : decode (m_C_toldBy).2.1 0 = .ok (.aload_n 0, 1) := by decide +kernel
theorem d_C_toldBy_1 : decode (m_C_toldBy).2.1 1 = .ok (.aload_n 0, 1) := by decide +kernel
theorem d_C_toldBy_2 : decode (m_C_toldBy).2.1 2 = .ok (.getfield 29, 3) := by decide +kernel
theorem d_C_toldBy_5 : decode (m_C_toldBy).2.1 5 = .ok (.aload_n 1, 1) := by decide +kernel
theorem d_C_toldBy_6 : decode (m_C_toldBy).2.1 6 = .ok (.aload_n 0, 1) := by decide +kernel
theorem d_C_toldBy_7 : decode (m_C_toldBy).2.1 7 = .ok (.getfield 43, 3) := by decide +kernel
theorem d_C_toldBy_10 : decode (m_C_toldBy).2.1 10 = .ok (.iload_n 2, 1) := by decide +kernel
theorem d_C_toldBy_11 : decode (m_C_toldBy).2.1 11 = .ok (.iadd, 1) := by decide +kernel
theorem d_C_toldBy_12 : decode (m_C_toldBy).2.1 12 = .ok (.invokevirtual 88, 3) := by decide +kernel
theorem d_C_toldBy_15 : decode (m_C_toldBy).2.1 15 = .ok (.ireturn, 1) := by decide +kernel
theorem d_F_init_0 : decode (m_F_init).2.1 0 = .ok (.aload_n 0, 1) := by decide +kernel
theorem d_F_init_1 : decode (m_F_init).2.1 1 = .ok (.invokespecial 3, 3) := by decide +kernel
theorem d_F_init_4 : decode (m_F_init).2.1 4 = .ok (.aload_n 0, 1) := by decide +kernel
theorem d_F_init_5 : decode (m_F_init).2.1 5 = .ok (.bipush 32, 2) := by decide +kernel
theorem d_F_init_7 : decode (m_F_init).2.1 7 = .ok (.newarray .int, 2) := by decide +kernel
theorem d_F_init_9 : decode (m_F_init).2.1 9 = .ok (.putfield 9, 3) := by decide +kernel
theorem d_F_init_12 : decode (m_F_init).2.1 12 = .ok (.aload_n 0, 1) := by decide +kernel
theorem d_F_init_13 : decode (m_F_init).2.1 13 = .ok (.bipush 32, 2) := by decide +kernel
theorem d_F_init_15 : decode (m_F_init).2.1 15 = .ok (.newarray .int, 2) := by decide +kernel
theorem d_F_init_17 : decode (m_F_init).2.1 17 = .ok (.putfield 15, 3) := by decide +kernel
theorem d_F_init_20 : decode (m_F_init).2.1 20 = .ok (.aload_n 0, 1) := by decide +kernel
theorem d_F_init_21 : decode (m_F_init).2.1 21 = .ok (.sipush 1024, 3) := by decide +kernel
theorem d_F_init_24 : decode (m_F_init).2.1 24 = .ok (.newarray .int, 2) := by decide +kernel
theorem d_F_init_26 : decode (m_F_init).2.1 26 = .ok (.putfield 18, 3) := by decide +kernel
theorem d_F_init_29 : decode (m_F_init).2.1 29 = .ok (.return_, 1) := by decide +kernel
theorem d_F_degreeOf_0 : decode (m_F_degreeOf).2.1 0 = .ok (.iload_n 0, 1) := by decide +kernel
theorem d_F_degreeOf_1 : decode (m_F_degreeOf).2.1 1 = .ok (.bipush 16, 2) := by decide +kernel
theorem d_F_degreeOf_3 : decode (m_F_degreeOf).2.1 3 = .ok (.if_icmp .ge 7, 3) := by decide +kernel
theorem d_F_degreeOf_6 : decode (m_F_degreeOf).2.1 6 = .ok (.iconst 3, 1) := by decide +kernel
theorem d_F_degreeOf_7 : decode (m_F_degreeOf).2.1 7 = .ok (.goto 14, 3) := by decide +kernel
theorem d_F_degreeOf_10 : decode (m_F_degreeOf).2.1 10 = .ok (.iload_n 0, 1) := by decide +kernel
theorem d_F_degreeOf_11 : decode (m_F_degreeOf).2.1 11 = .ok (.bipush 32, 2) := by decide +kernel
theorem d_F_degreeOf_13 : decode (m_F_degreeOf).2.1 13 = .ok (.if_icmp .ge 7, 3) := by decide +kernel
theorem d_F_degreeOf_16 : decode (m_F_degreeOf).2.1 16 = .ok (.iconst 4, 1) := by decide +kernel
theorem d_F_degreeOf_17 : decode (m_F_degreeOf).2.1 17 = .ok (.goto 4, 3) := by decide +kernel
theorem d_F_degreeOf_20 : decode (m_F_degreeOf).2.1 20 = .ok (.iconst 5, 1) := by decide +kernel
theorem d_F_degreeOf_21 : decode (m_F_degreeOf).2.1 21 = .ok (.ireturn, 1) := by decide +kernel
theorem d_F_timesX_0 : decode (m_F_timesX).2.1 0 = .ok (.iload_n 0, 1) := by decide +kernel
theorem d_F_timesX_1 : decode (m_F_timesX).2.1 1 = .ok (.iconst 1, 1) := by decide +kernel
theorem d_F_timesX_2 : decode (m_F_timesX).2.1 2 = .ok (.ishl, 1) := by decide +kernel
theorem d_F_timesX_3 : decode (m_F_timesX).2.1 3 = .ok (.istore_n 2, 1) := by decide +kernel
theorem d_F_timesX_4 : decode (m_F_timesX).2.1 4 = .ok (.iload_n 2, 1) := by decide +kernel
theorem d_F_timesX_5 : decode (m_F_timesX).2.1 5 = .ok (.iload_n 1, 1) := by decide +kernel
theorem d_F_timesX_6 : decode (m_F_timesX).2.1 6 = .ok (.invokestatic 21, 3) := by decide +kernel
theorem d_F_timesX_9 : decode (m_F_timesX).2.1 9 = .ok (.ishr, 1) := by decide +kernel
theorem d_F_timesX_10 : decode (m_F_timesX).2.1 10 = .ok (.ifCond .ne 7, 3) := by decide +kernel
theorem d_F_timesX_13 : decode (m_F_timesX).2.1 13 = .ok (.iload_n 2, 1) := by decide +kernel
theorem d_F_timesX_14 : decode (m_F_timesX).2.1 14 = .ok (.goto 6, 3) := by decide +kernel
theorem d_F_timesX_17 : decode (m_F_timesX).2.1 17 = .ok (.iload_n 2, 1) := by decide +kernel
theorem d_F_timesX_18 : decode (m_F_timesX).2.1 18 = .ok (.iload_n 1, 1) := by decide +kernel
theorem d_F_timesX_19 : decode (m_F_timesX).2.1 19 = .ok (.ixor, 1) := by decide +kernel
theorem d_F_timesX_20 : decode (m_F_timesX).2.1 20 = .ok (.ireturn, 1) := by decide +kernel
theorem d_F_isPrimitive_0 : decode (m_F_isPrimitive).2.1 0 = .ok (.iconst 1, 1) := by decide +kernel
theorem d_F_isPrimitive_1 : decode (m_F_isPrimitive).2.1 1 = .ok (.iload_n 0, 1) := by decide +kernel
theorem d_F_isPrimitive_2 : decode (m_F_isPrimitive).2.1 2 = .ok (.invokestatic 21, 3) := by decide +kernel
theorem d_F_isPrimitive_5 : decode (m_F_isPrimitive).2.1 5 = .ok (.ishl, 1) := by decide +kernel
theorem d_F_isPrimitive_6 : decode (m_F_isPrimitive).2.1 6 = .ok (.iconst 1, 1) := by decide +kernel
theorem d_F_isPrimitive_7 : decode (m_F_isPrimitive).2.1 7 = .ok (.isub, 1) := by decide +kernel
theorem d_F_isPrimitive_8 : decode (m_F_isPrimitive).2.1 8 = .ok (.istore_n 1, 1) := by decide +kernel
theorem d_F_isPrimitive_9 : decode (m_F_isPrimitive).2.1 9 = .ok (.iconst 1, 1) := by decide +kernel
theorem d_F_isPrimitive_10 : decode (m_F_isPrimitive).2.1 10 = .ok (.istore_n 2, 1) := by decide +kernel
theorem d_F_isPrimitive_11 : decode (m_F_isPrimitive).2.1 11 = .ok (.iconst 1, 1) := by decide +kernel
theorem d_F_isPrimitive_12 : decode (m_F_isPrimitive).2.1 12 = .ok (.istore_n 3, 1) := by decide +kernel
theorem d_F_isPrimitive_13 : decode (m_F_isPrimitive).2.1 13 = .ok (.iload_n 3, 1) := by decide +kernel
theorem d_F_isPrimitive_14 : decode (m_F_isPrimitive).2.1 14 = .ok (.iload_n 1, 1) := by decide +kernel
theorem d_F_isPrimitive_15 : decode (m_F_isPrimitive).2.1 15 = .ok (.if_icmp .ge 22, 3) := by decide +kernel
theorem d_F_isPrimitive_18 : decode (m_F_isPrimitive).2.1 18 = .ok (.iload_n 2, 1) := by decide +kernel
theorem d_F_isPrimitive_19 : decode (m_F_isPrimitive).2.1 19 = .ok (.iload_n 0, 1) := by decide +kernel
theorem d_F_isPrimitive_20 : decode (m_F_isPrimitive).2.1 20 = .ok (.invokestatic 25, 3) := by decide +kernel
theorem d_F_isPrimitive_23 : decode (m_F_isPrimitive).2.1 23 = .ok (.istore_n 2, 1) := by decide +kernel
theorem d_F_isPrimitive_24 : decode (m_F_isPrimitive).2.1 24 = .ok (.iload_n 2, 1) := by decide +kernel
theorem d_F_isPrimitive_25 : decode (m_F_isPrimitive).2.1 25 = .ok (.iconst 1, 1) := by decide +kernel
theorem d_F_isPrimitive_26 : decode (m_F_isPrimitive).2.1 26 = .ok (.if_icmp .ne 5, 3) := by decide +kernel
theorem d_F_isPrimitive_29 : decode (m_F_isPrimitive).2.1 29 = .ok (.iconst 0, 1) := by decide +kernel
theorem d_F_isPrimitive_30 : decode (m_F_isPrimitive).2.1 30 = .ok (.ireturn, 1) := by decide +kernel
theorem d_F_isPrimitive_31 : decode (m_F_isPrimitive).2.1 31 = .ok (.iinc 3 1, 3) := by decide +kernel
theorem d_F_isPrimitive_34 : decode (m_F_isPrimitive).2.1 34 = .ok (.goto (-21), 3) := by decide +kernel
theorem d_F_isPrimitive_37 : decode (m_F_isPrimitive).2.1 37 = .ok (.iload_n 2, 1) := by decide +kernel
theorem d_F_isPrimitive_38 : decode (m_F_isPrimitive).2.1 38 = .ok (.iload_n 0, 1) := by decide +kernel
theorem d_F_isPrimitive_39 : decode (m_F_isPrimitive).2.1 39 = .ok (.invokestatic 25, 3) := by decide +kernel
theorem d_F_isPrimitive_42 : decode (m_F_isPrimitive).2.1 42 = .ok (.iconst 1, 1) := by decide +kernel
theorem d_F_isPrimitive_43 : decode (m_F_isPrimitive).2.1 43 = .ok (.if_icmp .ne 7, 3) := by decide +kernel
theorem d_F_isPrimitive_46 : decode (m_F_isPrimitive).2.1 46 = .ok (.iconst 1, 1) := by decide +kernel
theorem d_F_isPrimitive_47 : decode (m_F_isPrimitive).2.1 47 = .ok (.goto 4, 3) := by decide +kernel
theorem d_F_isPrimitive_50 : decode (m_F_isPrimitive).2.1 50 = .ok (.iconst 0, 1) := by decide +kernel
theorem d_F_isPrimitive_51 : decode (m_F_isPrimitive).2.1 51 = .ok (.ireturn, 1) := by decide +kernel
theorem d_F_begin_0 : decode (m_F_begin).2.1 0 = .ok (.aload_n 0, 1) := by decide +kernel
theorem d_F_begin_1 : decode (m_F_begin).2.1 1 = .ok (.iload_n 1, 1) := by decide +kernel
theorem d_F_begin_2 : decode (m_F_begin).2.1 2 = .ok (.invokestatic 21, 3) := by decide +kernel
theorem d_F_begin_5 : decode (m_F_begin).2.1 5 = .ok (.putfield 29, 3) := by decide +kernel
theorem d_F_begin_8 : decode (m_F_begin).2.1 8 = .ok (.aload_n 0, 1) := by decide +kernel
theorem d_F_begin_9 : decode (m_F_begin).2.1 9 = .ok (.iconst 1, 1) := by decide +kernel
theorem d_F_begin_10 : decode (m_F_begin).2.1 10 = .ok (.aload_n 0, 1) := by decide +kernel
theorem d_F_begin_11 : decode (m_F_begin).2.1 11 = .ok (.getfield 29, 3) := by decide +kernel
theorem d_F_begin_14 : decode (m_F_begin).2.1 14 = .ok (.ishl, 1) := by decide +kernel
theorem d_F_begin_15 : decode (m_F_begin).2.1 15 = .ok (.putfield 33, 3) := by decide +kernel
theorem d_F_begin_18 : decode (m_F_begin).2.1 18 = .ok (.iconst 1, 1) := by decide +kernel
theorem d_F_begin_19 : decode (m_F_begin).2.1 19 = .ok (.istore_n 2, 1) := by decide +kernel
theorem d_F_begin_20 : decode (m_F_begin).2.1 20 = .ok (.iconst 0, 1) := by decide +kernel
theorem d_F_begin_21 : decode (m_F_begin).2.1 21 = .ok (.istore_n 3, 1) := by decide +kernel
theorem d_F_begin_22 : decode (m_F_begin).2.1 22 = .ok (.iload_n 3, 1) := by decide +kernel
theorem d_F_begin_23 : decode (m_F_begin).2.1 23 = .ok (.aload_n 0, 1) := by decide +kernel
theorem d_F_begin_24 : decode (m_F_begin).2.1 24 = .ok (.getfield 33, 3) := by decide +kernel
theorem d_F_begin_27 : decode (m_F_begin).2.1 27 = .ok (.iconst 1, 1) := by decide +kernel
theorem d_F_begin_28 : decode (m_F_begin).2.1 28 = .ok (.isub, 1) := by decide +kernel
theorem d_F_begin_29 : decode (m_F_begin).2.1 29 = .ok (.if_icmp .ge 29, 3) := by decide +kernel
theorem d_F_begin_32 : decode (m_F_begin).2.1 32 = .ok (.aload_n 0, 1) := by decide +kernel
theorem d_F_begin_33 : decode (m_F_begin).2.1 33 = .ok (.getfield 9, 3) := by decide +kernel
theorem d_F_begin_36 : decode (m_F_begin).2.1 36 = .ok (.iload_n 3, 1) := by decide +kernel
theorem d_F_begin_37 : decode (m_F_begin).2.1 37 = .ok (.iload_n 2, 1) := by decide +kernel
theorem d_F_begin_38 : decode (m_F_begin).2.1 38 = .ok (.iastore, 1) := by decide +kernel
theorem d_F_begin_39 : decode (m_F_begin).2.1 39 = .ok (.aload_n 0, 1) := by decide +kernel
theorem d_F_begin_40 : decode (m_F_begin).2.1 40 = .ok (.getfield 15, 3) := by decide +kernel
theorem d_F_begin_43 : decode (m_F_begin).2.1 43 = .ok (.iload_n 2, 1) := by decide +kernel
theorem d_F_begin_44 : decode (m_F_begin).2.1 44 = .ok (.iload_n 3, 1) := by decide +kernel
theorem d_F_begin_45 : decode (m_F_begin).2.1 45 = .ok (.iastore, 1) := by decide +kernel
theorem d_F_begin_46 : decode (m_F_begin).2.1 46 = .ok (.iload_n 2, 1) := by decide +kernel
theorem d_F_begin_47 : decode (m_F_begin).2.1 47 = .ok (.iload_n 1, 1) := by decide +kernel
theorem d_F_begin_48 : decode (m_F_begin).2.1 48 = .ok (.invokestatic 25, 3) := by decide +kernel
theorem d_F_begin_51 : decode (m_F_begin).2.1 51 = .ok (.istore_n 2, 1) := by decide +kernel
theorem d_F_begin_52 : decode (m_F_begin).2.1 52 = .ok (.iinc 3 1, 3) := by decide +kernel
theorem d_F_begin_55 : decode (m_F_begin).2.1 55 = .ok (.goto (-33), 3) := by decide +kernel
theorem d_F_begin_58 : decode (m_F_begin).2.1 58 = .ok (.iconst 1, 1) := by decide +kernel
theorem d_F_begin_59 : decode (m_F_begin).2.1 59 = .ok (.istore_n 3, 1) := by decide +kernel
theorem d_F_begin_60 : decode (m_F_begin).2.1 60 = .ok (.iload_n 3, 1) := by decide +kernel
theorem d_F_begin_61 : decode (m_F_begin).2.1 61 = .ok (.aload_n 0, 1) := by decide +kernel
theorem d_F_begin_62 : decode (m_F_begin).2.1 62 = .ok (.getfield 33, 3) := by decide +kernel
theorem d_F_begin_65 : decode (m_F_begin).2.1 65 = .ok (.if_icmp .ge 84, 3) := by decide +kernel
theorem d_F_begin_68 : decode (m_F_begin).2.1 68 = .ok (.iconst 1, 1) := by decide +kernel
theorem d_F_begin_69 : decode (m_F_begin).2.1 69 = .ok (.istore 4, 2) := by decide +kernel
theorem d_F_begin_71 : decode (m_F_begin).2.1 71 = .ok (.iload 4, 2) := by decide +kernel
theorem d_F_begin_73 : decode (m_F_begin).2.1 73 = .ok (.aload_n 0, 1) := by decide +kernel
theorem d_F_begin_74 : decode (m_F_begin).2.1 74 = .ok (.getfield 33, 3) := by decide +kernel
theorem d_F_begin_77 : decode (m_F_begin).2.1 77 = .ok (.if_icmp .ge 66, 3) := by decide +kernel
theorem d_F_begin_80 : decode (m_F_begin).2.1 80 = .ok (.aload_n 0, 1) := by decide +kernel
theorem d_F_begin_81 : decode (m_F_begin).2.1 81 = .ok (.getfield 15, 3) := by decide +kernel
theorem d_F_begin_84 : decode (m_F_begin).2.1 84 = .ok (.iload_n 3, 1) := by decide +kernel
theorem d_F_begin_85 : decode (m_F_begin).2.1 85 = .ok (.iaload, 1) := by decide +kernel
theorem d_F_begin_86 : decode (m_F_begin).2.1 86 = .ok (.aload_n 0, 1) := by decide +kernel
theorem d_F_begin_87 : decode (m_F_begin).2.1 87 = .ok (.getfield 15, 3) := by decide +kernel
theorem d_F_begin_90 : decode (m_F_begin).2.1 90 = .ok (.iload 4, 2) := by decide +kernel
theorem d_F_begin_92 : decode (m_F_begin).2.1 92 = .ok (.iaload, 1) := by decide +kernel
theorem d_F_begin_93 : decode (m_F_begin).2.1 93 = .ok (.iadd, 1) := by decide +kernel
theorem d_F_begin_94 : decode (m_F_begin).2.1 94 = .ok (.istore 5, 2) := by decide +kernel
theorem d_F_begin_96 : decode (m_F_begin).2.1 96 = .ok (.aload_n 0, 1) := by decide +kernel
theorem d_F_begin_97 : decode (m_F_begin).2.1 97 = .ok (.getfield 18, 3) := by decide +kernel
theorem d_F_begin_100 : decode (m_F_begin).2.1 100 = .ok (.iload_n 3, 1) := by decide +kernel
theorem d_F_begin_101 : decode (m_F_begin).2.1 101 = .ok (.iconst 5, 1) := by decide +kernel
theorem d_F_begin_102 : decode (m_F_begin).2.1 102 = .ok (.ishl, 1) := by decide +kernel
theorem d_F_begin_103 : decode (m_F_begin).2.1 103 = .ok (.iload 4, 2) := by decide +kernel
theorem d_F_begin_105 : decode (m_F_begin).2.1 105 = .ok (.ior, 1) := by decide +kernel
theorem d_F_begin_106 : decode (m_F_begin).2.1 106 = .ok (.aload_n 0, 1) := by decide +kernel
theorem d_F_begin_107 : decode (m_F_begin).2.1 107 = .ok (.getfield 9, 3) := by decide +kernel
theorem d_F_begin_110 : decode (m_F_begin).2.1 110 = .ok (.iload 5, 2) := by decide +kernel
theorem d_F_begin_112 : decode (m_F_begin).2.1 112 = .ok (.aload_n 0, 1) := by decide +kernel
theorem d_F_begin_113 : decode (m_F_begin).2.1 113 = .ok (.getfield 33, 3) := by decide +kernel
theorem d_F_begin_116 : decode (m_F_begin).2.1 116 = .ok (.iconst 1, 1) := by decide +kernel
theorem d_F_begin_117 : decode (m_F_begin).2.1 117 = .ok (.isub, 1) := by decide +kernel
theorem d_F_begin_118 : decode (m_F_begin).2.1 118 = .ok (.if_icmp .ge 8, 3) := by decide +kernel
theorem d_F_begin_121 : decode (m_F_begin).2.1 121 = .ok (.iload 5, 2) := by decide +kernel
theorem d_F_begin_123 : decode (m_F_begin).2.1 123 = .ok (.goto 12, 3) := by decide +kernel
theorem d_F_begin_126 : decode (m_F_begin).2.1 126 = .ok (.iload 5, 2) := by decide +kernel
theorem d_F_begin_128 : decode (m_F_begin).2.1 128 = .ok (.aload_n 0, 1) := by decide +kernel
theorem d_F_begin_129 : decode (m_F_begin).2.1 129 = .ok (.getfield 33, 3) := by decide +kernel
theorem d_F_begin_132 : decode (m_F_begin).2.1 132 = .ok (.isub, 1) := by decide +kernel
theorem d_F_begin_133 : decode (m_F_begin).2.1 133 = .ok (.iconst 1, 1) := by decide +kernel
theorem d_F_begin_134 : decode (m_F_begin).2.1 134 = .ok (.iadd, 1) := by decide +kernel
theorem d_F_begin_135 : decode (m_F_begin).2.1 135 = .ok (.iaload, 1) := by decide +kernel
theorem d_F_begin_136 : decode (m_F_begin).2.1 136 = .ok (.iastore, 1) := by decide +kernel
theorem d_F_begin_137 : decode (m_F_begin).2.1 137 = .ok (.iinc 4 1, 3) := by decide +kernel
theorem d_F_begin_140 : decode (m_F_begin).2.1 140 = .ok (.goto (-69), 3) := by decide +kernel
theorem d_F_begin_143 : decode (m_F_begin).2.1 143 = .ok (.iinc 3 1, 3) := by decide +kernel
theorem d_F_begin_146 : decode (m_F_begin).2.1 146 = .ok (.goto (-86), 3) := by decide +kernel
theorem d_F_begin_149 : decode (m_F_begin).2.1 149 = .ok (.return_, 1) := by decide +kernel
theorem d_F_has_0 : decode (m_F_has).2.1 0 = .ok (.iload_n 1, 1) := by decide +kernel
theorem d_F_has_1 : decode (m_F_has).2.1 1 = .ok (.ifCond .lt 15, 3) := by decide +kernel
theorem d_F_has_4 : decode (m_F_has).2.1 4 = .ok (.iload_n 1, 1) := by decide +kernel
theorem d_F_has_5 : decode (m_F_has).2.1 5 = .ok (.aload_n 0, 1) := by decide +kernel
theorem d_F_has_6 : decode (m_F_has).2.1 6 = .ok (.getfield 33, 3) := by decide +kernel
theorem d_F_has_9 : decode (m_F_has).2.1 9 = .ok (.if_icmp .ge 7, 3) := by decide +kernel
theorem d_F_has_12 : decode (m_F_has).2.1 12 = .ok (.iconst 1, 1) := by decide +kernel
theorem d_F_has_13 : decode (m_F_has).2.1 13 = .ok (.goto 4, 3) := by decide +kernel
theorem d_F_has_16 : decode (m_F_has).2.1 16 = .ok (.iconst 0, 1) := by decide +kernel
theorem d_F_has_17 : decode (m_F_has).2.1 17 = .ok (.ireturn, 1) := by decide +kernel
theorem d_F_product_0 : decode (m_F_product).2.1 0 = .ok (.aload_n 0, 1) := by decide +kernel
theorem d_F_product_1 : decode (m_F_product).2.1 1 = .ok (.getfield 18, 3) := by decide +kernel
theorem d_F_product_4 : decode (m_F_product).2.1 4 = .ok (.iload_n 1, 1) := by decide +kernel
theorem d_F_product_5 : decode (m_F_product).2.1 5 = .ok (.iconst 5, 1) := by decide +kernel
theorem d_F_product_6 : decode (m_F_product).2.1 6 = .ok (.ishl, 1) := by decide +kernel
theorem d_F_product_7 : decode (m_F_product).2.1 7 = .ok (.iload_n 2, 1) := by decide +kernel
theorem d_F_product_8 : decode (m_F_product).2.1 8 = .ok (.ior, 1) := by decide +kernel
theorem d_F_product_9 : decode (m_F_product).2.1 9 = .ok (.iaload, 1) := by decide +kernel
theorem d_F_product_10 : decode (m_F_product).2.1 10 = .ok (.ireturn, 1) := by decide +kernel
theorem d_F_quotient_0 : decode (m_F_quotient).2.1 0 = .ok (.iload_n 1, 1) := by decide +kernel
theorem d_F_quotient_1 : decode (m_F_quotient).2.1 1 = .ok (.ifCond .ne 5, 3) := by decide +kernel
theorem d_F_quotient_4 : decode (m_F_quotient).2.1 4 = .ok (.iconst 0, 1) := by decide +kernel
theorem d_F_quotient_5 : decode (m_F_quotient).2.1 5 = .ok (.ireturn, 1) := by decide +kernel
theorem d_F_quotient_6 : decode (m_F_quotient).2.1 6 = .ok (.aload_n 0, 1) := by decide +kernel
theorem d_F_quotient_7 : decode (m_F_quotient).2.1 7 = .ok (.getfield 15, 3) := by decide +kernel
theorem d_F_quotient_10 : decode (m_F_quotient).2.1 10 = .ok (.iload_n 1, 1) := by decide +kernel
theorem d_F_quotient_11 : decode (m_F_quotient).2.1 11 = .ok (.iaload, 1) := by decide +kernel
theorem d_F_quotient_12 : decode (m_F_quotient).2.1 12 = .ok (.aload_n 0, 1) := by decide +kernel
theorem d_F_quotient_13 : decode (m_F_quotient).2.1 13 = .ok (.getfield 15, 3) := by decide +kernel
theorem d_F_quotient_16 : decode (m_F_quotient).2.1 16 = .ok (.iload_n 2, 1) := by decide +kernel
theorem d_F_quotient_17 : decode (m_F_quotient).2.1 17 = .ok (.iaload, 1) := by decide +kernel
theorem d_F_quotient_18 : decode (m_F_quotient).2.1 18 = .ok (.isub, 1) := by decide +kernel
theorem d_F_quotient_19 : decode (m_F_quotient).2.1 19 = .ok (.istore_n 3, 1) := by decide +kernel
theorem d_F_quotient_20 : decode (m_F_quotient).2.1 20 = .ok (.aload_n 0, 1) := by decide +kernel
theorem d_F_quotient_21 : decode (m_F_quotient).2.1 21 = .ok (.getfield 9, 3) := by decide +kernel
theorem d_F_quotient_24 : decode (m_F_quotient).2.1 24 = .ok (.iload_n 3, 1) := by decide +kernel
theorem d_F_quotient_25 : decode (m_F_quotient).2.1 25 = .ok (.ifCond .lt 7, 3) := by decide +kernel
theorem d_F_quotient_28 : decode (m_F_quotient).2.1 28 = .ok (.iload_n 3, 1) := by decide +kernel
theorem d_F_quotient_29 : decode (m_F_quotient).2.1 29 = .ok (.goto 11, 3) := by decide +kernel
theorem d_F_quotient_32 : decode (m_F_quotient).2.1 32 = .ok (.iload_n 3, 1) := by decide +kernel
theorem d_F_quotient_33 : decode (m_F_quotient).2.1 33 = .ok (.aload_n 0, 1) := by decide +kernel
theorem d_F_quotient_34 : decode (m_F_quotient).2.1 34 = .ok (.getfield 33, 3) := by decide +kernel
theorem d_F_quotient_37 : decode (m_F_quotient).2.1 37 = .ok (.iadd, 1) := by decide +kernel
theorem d_F_quotient_38 : decode (m_F_quotient).2.1 38 = .ok (.iconst 1, 1) := by decide +kernel
theorem d_F_quotient_39 : decode (m_F_quotient).2.1 39 = .ok (.isub, 1) := by decide +kernel
theorem d_F_quotient_40 : decode (m_F_quotient).2.1 40 = .ok (.iaload, 1) := by decide +kernel
theorem d_F_quotient_41 : decode (m_F_quotient).2.1 41 = .ok (.ireturn, 1) := by decide +kernel
theorem d_F_addMultiple_0 : decode (m_F_addMultiple).2.1 0 = .ok (.iload_n 2, 1) := by decide +kernel
theorem d_F_addMultiple_1 : decode (m_F_addMultiple).2.1 1 = .ok (.iconst 5, 1) := by decide +kernel
theorem d_F_addMultiple_2 : decode (m_F_addMultiple).2.1 2 = .ok (.ishl, 1) := by decide +kernel
theorem d_F_addMultiple_3 : decode (m_F_addMultiple).2.1 3 = .ok (.istore 6, 2) := by decide +kernel
theorem d_F_addMultiple_5 : decode (m_F_addMultiple).2.1 5 = .ok (.iload 4, 2) := by decide +kernel
theorem d_F_addMultiple_7 : decode (m_F_addMultiple).2.1 7 = .ok (.istore 7, 2) := by decide +kernel
theorem d_F_addMultiple_9 : decode (m_F_addMultiple).2.1 9 = .ok (.iload 7, 2) := by decide +kernel
theorem d_F_addMultiple_11 : decode (m_F_addMultiple).2.1 11 = .ok (.iload 5, 2) := by decide +kernel
theorem d_F_addMultiple_13 : decode (m_F_addMultiple).2.1 13 = .ok (.if_icmp .ge 28, 3) := by decide +kernel
theorem d_F_addMultiple_16 : decode (m_F_addMultiple).2.1 16 = .ok (.aload_n 1, 1) := by decide +kernel
theorem d_F_addMultiple_17 : decode (m_F_addMultiple).2.1 17 = .ok (.iload 7, 2) := by decide +kernel
theorem d_F_addMultiple_19 : decode (m_F_addMultiple).2.1 19 = .ok (.dup2, 1) := by decide +kernel
theorem d_F_addMultiple_20 : decode (m_F_addMultiple).2.1 20 = .ok (.iaload, 1) := by decide +kernel
theorem d_F_addMultiple_21 : decode (m_F_addMultiple).2.1 21 = .ok (.aload_n 0, 1) := by decide +kernel
theorem d_F_addMultiple_22 : decode (m_F_addMultiple).2.1 22 = .ok (.getfield 18, 3) := by decide +kernel
theorem d_F_addMultiple_25 : decode (m_F_addMultiple).2.1 25 = .ok (.iload 6, 2) := by decide +kernel
theorem d_F_addMultiple_27 : decode (m_F_addMultiple).2.1 27 = .ok (.aload_n 3, 1) := by decide +kernel
theorem d_F_addMultiple_28 : decode (m_F_addMultiple).2.1 28 = .ok (.iload 7, 2) := by decide +kernel
theorem d_F_addMultiple_30 : decode (m_F_addMultiple).2.1 30 = .ok (.iaload, 1) := by decide +kernel
theorem d_F_addMultiple_31 : decode (m_F_addMultiple).2.1 31 = .ok (.ior, 1) := by decide +kernel
theorem d_F_addMultiple_32 : decode (m_F_addMultiple).2.1 32 = .ok (.iaload, 1) := by decide +kernel
theorem d_F_addMultiple_33 : decode (m_F_addMultiple).2.1 33 = .ok (.ixor, 1) := by decide +kernel
theorem d_F_addMultiple_34 : decode (m_F_addMultiple).2.1 34 = .ok (.iastore, 1) := by decide +kernel
theorem d_F_addMultiple_35 : decode (m_F_addMultiple).2.1 35 = .ok (.iinc 7 1, 3) := by decide +kernel
theorem d_F_addMultiple_38 : decode (m_F_addMultiple).2.1 38 = .ok (.goto (-29), 3) := by decide +kernel
theorem d_F_addMultiple_41 : decode (m_F_addMultiple).2.1 41 = .ok (.return_, 1) := by decide +kernel
theorem d_F_power_0 : decode (m_F_power).2.1 0 = .ok (.iconst 1, 1) := by decide +kernel
theorem d_F_power_1 : decode (m_F_power).2.1 1 = .ok (.istore_n 3, 1) := by decide +kernel
theorem d_F_power_2 : decode (m_F_power).2.1 2 = .ok (.iconst 0, 1) := by decide +kernel
theorem d_F_power_3 : decode (m_F_power).2.1 3 = .ok (.istore 4, 2) := by decide +kernel
theorem d_F_power_5 : decode (m_F_power).2.1 5 = .ok (.iload 4, 2) := by decide +kernel
theorem d_F_power_7 : decode (m_F_power).2.1 7 = .ok (.iload_n 2, 1) := by decide +kernel
theorem d_F_power_8 : decode (m_F_power).2.1 8 = .ok (.if_icmp .ge 16, 3) := by decide +kernel
theorem d_F_power_11 : decode (m_F_power).2.1 11 = .ok (.aload_n 0, 1) := by decide +kernel
theorem d_F_power_12 : decode (m_F_power).2.1 12 = .ok (.iload_n 3, 1) := by decide +kernel
theorem d_F_power_13 : decode (m_F_power).2.1 13 = .ok (.iload_n 1, 1) := by decide +kernel
theorem d_F_power_14 : decode (m_F_power).2.1 14 = .ok (.invokevirtual 36, 3) := by decide +kernel
theorem d_F_power_17 : decode (m_F_power).2.1 17 = .ok (.istore_n 3, 1) := by decide +kernel
theorem d_F_power_18 : decode (m_F_power).2.1 18 = .ok (.iinc 4 1, 3) := by decide +kernel
theorem d_F_power_21 : decode (m_F_power).2.1 21 = .ok (.goto (-16), 3) := by decide +kernel
theorem d_F_power_24 : decode (m_F_power).2.1 24 = .ok (.iload_n 3, 1) := by decide +kernel
theorem d_F_power_25 : decode (m_F_power).2.1 25 = .ok (.ireturn, 1) := by decide +kernel
theorem d_N_init_0 : decode (m_N_init).2.1 0 = .ok (.aload_n 0, 1) := by decide +kernel
theorem d_N_init_1 : decode (m_N_init).2.1 1 = .ok (.invokespecial 3, 3) := by decide +kernel
theorem d_N_init_4 : decode (m_N_init).2.1 4 = .ok (.aload_n 0, 1) := by decide +kernel
theorem d_N_init_5 : decode (m_N_init).2.1 5 = .ok (.aload_n 1, 1) := by decide +kernel
theorem d_N_init_6 : decode (m_N_init).2.1 6 = .ok (.putfield 9, 3) := by decide +kernel
theorem d_N_init_9 : decode (m_N_init).2.1 9 = .ok (.aload_n 0, 1) := by decide +kernel
theorem d_N_init_10 : decode (m_N_init).2.1 10 = .ok (.iload_n 2, 1) := by decide +kernel
theorem d_N_init_11 : decode (m_N_init).2.1 11 = .ok (.bipush 20, 2) := by decide +kernel
theorem d_N_init_13 : decode (m_N_init).2.1 13 = .ok (.multianewarray 15 2, 4) := by decide +kernel
theorem d_N_init_17 : decode (m_N_init).2.1 17 = .ok (.putfield 17, 3) := by decide +kernel
theorem d_N_init_20 : decode (m_N_init).2.1 20 = .ok (.aload_n 0, 1) := by decide +kernel
theorem d_N_init_21 : decode (m_N_init).2.1 21 = .ok (.iload_n 2, 1) := by decide +kernel
theorem d_N_init_22 : decode (m_N_init).2.1 22 = .ok (.newarray .int, 2) := by decide +kernel
theorem d_N_init_24 : decode (m_N_init).2.1 24 = .ok (.putfield 20, 3) := by decide +kernel
theorem d_N_init_27 : decode (m_N_init).2.1 27 = .ok (.return_, 1) := by decide +kernel
theorem d_N_has_0 : decode (m_N_has).2.1 0 = .ok (.iload_n 1, 1) := by decide +kernel
theorem d_N_has_1 : decode (m_N_has).2.1 1 = .ok (.ifCond .lt 15, 3) := by decide +kernel
theorem d_N_has_4 : decode (m_N_has).2.1 4 = .ok (.iload_n 1, 1) := by decide +kernel
theorem d_N_has_5 : decode (m_N_has).2.1 5 = .ok (.aload_n 0, 1) := by decide +kernel
theorem d_N_has_6 : decode (m_N_has).2.1 6 = .ok (.getfield 24, 3) := by decide +kernel
theorem d_N_has_9 : decode (m_N_has).2.1 9 = .ok (.if_icmp .ge 7, 3) := by decide +kernel
theorem d_N_has_12 : decode (m_N_has).2.1 12 = .ok (.iconst 1, 1) := by decide +kernel
theorem d_N_has_13 : decode (m_N_has).2.1 13 = .ok (.goto 4, 3) := by decide +kernel
theorem d_N_has_16 : decode (m_N_has).2.1 16 = .ok (.iconst 0, 1) := by decide +kernel
theorem d_N_has_17 : decode (m_N_has).2.1 17 = .ok (.ireturn, 1) := by decide +kernel
theorem d_N_add_0 : decode (m_N_add).2.1 0 = .ok (.aload_n 0, 1) := by decide +kernel
theorem d_N_add_1 : decode (m_N_add).2.1 1 = .ok (.getfield 24, 3) := by decide +kernel
theorem d_N_add_4 : decode (m_N_add).2.1 4 = .ok (.aload_n 0, 1) := by decide +kernel
theorem d_N_add_5 : decode (m_N_add).2.1 5 = .ok (.getfield 20, 3) := by decide +kernel
theorem d_N_add_8 : decode (m_N_add).2.1 8 = .ok (.arraylength, 1) := by decide +kernel
theorem d_N_add_9 : decode (m_N_add).2.1 9 = .ok (.if_icmp .ge 69, 3) := by decide +kernel
theorem d_N_add_12 : decode (m_N_add).2.1 12 = .ok (.iconst 0, 1) := by decide +kernel
theorem d_N_add_13 : decode (m_N_add).2.1 13 = .ok (.istore_n 3, 1) := by decide +kernel
theorem d_N_add_14 : decode (m_N_add).2.1 14 = .ok (.iload_n 3, 1) := by decide +kernel
theorem d_N_add_15 : decode (m_N_add).2.1 15 = .ok (.aload_n 0, 1) := by decide +kernel
theorem d_N_add_16 : decode (m_N_add).2.1 16 = .ok (.getfield 9, 3) := by decide +kernel
theorem d_N_add_19 : decode (m_N_add).2.1 19 = .ok (.getfield 28, 3) := by decide +kernel
theorem d_N_add_22 : decode (m_N_add).2.1 22 = .ok (.if_icmp .ge 36, 3) := by decide +kernel
theorem d_N_add_25 : decode (m_N_add).2.1 25 = .ok (.aload_n 0, 1) := by decide +kernel
theorem d_N_add_26 : decode (m_N_add).2.1 26 = .ok (.getfield 17, 3) := by decide +kernel
theorem d_N_add_29 : decode (m_N_add).2.1 29 = .ok (.aload_n 0, 1) := by decide +kernel
theorem d_N_add_30 : decode (m_N_add).2.1 30 = .ok (.getfield 24, 3) := by decide +kernel
theorem d_N_add_33 : decode (m_N_add).2.1 33 = .ok (.aaload, 1) := by decide +kernel
theorem d_N_add_34 : decode (m_N_add).2.1 34 = .ok (.iload_n 3, 1) := by decide +kernel
theorem d_N_add_35 : decode (m_N_add).2.1 35 = .ok (.aload_n 0, 1) := by decide +kernel
theorem d_N_add_36 : decode (m_N_add).2.1 36 = .ok (.getfield 9, 3) := by decide +kernel
theorem d_N_add_39 : decode (m_N_add).2.1 39 = .ok (.aload_n 0, 1) := by decide +kernel
theorem d_N_add_40 : decode (m_N_add).2.1 40 = .ok (.getfield 9, 3) := by decide +kernel
theorem d_N_add_43 : decode (m_N_add).2.1 43 = .ok (.getfield 33, 3) := by decide +kernel
theorem d_N_add_46 : decode (m_N_add).2.1 46 = .ok (.aload_n 1, 1) := by decide +kernel
theorem d_N_add_47 : decode (m_N_add).2.1 47 = .ok (.iload_n 3, 1) := by decide +kernel
theorem d_N_add_48 : decode (m_N_add).2.1 48 = .ok (.invokevirtual 36, 3) := by decide +kernel
theorem d_N_add_51 : decode (m_N_add).2.1 51 = .ok (.iastore, 1) := by decide +kernel
theorem d_N_add_52 : decode (m_N_add).2.1 52 = .ok (.iinc 3 1, 3) := by decide +kernel
theorem d_N_add_55 : decode (m_N_add).2.1 55 = .ok (.goto (-41), 3) := by decide +kernel
theorem d_N_add_58 : decode (m_N_add).2.1 58 = .ok (.aload_n 0, 1) := by decide +kernel
theorem d_N_add_59 : decode (m_N_add).2.1 59 = .ok (.getfield 20, 3) := by decide +kernel
theorem d_N_add_62 : decode (m_N_add).2.1 62 = .ok (.aload_n 0, 1) := by decide +kernel
theorem d_N_add_63 : decode (m_N_add).2.1 63 = .ok (.getfield 24, 3) := by decide +kernel
theorem d_N_add_66 : decode (m_N_add).2.1 66 = .ok (.iload_n 2, 1) := by decide +kernel
theorem d_N_add_67 : decode (m_N_add).2.1 67 = .ok (.iastore, 1) := by decide +kernel
theorem d_N_add_68 : decode (m_N_add).2.1 68 = .ok (.aload_n 0, 1) := by decide +kernel
theorem d_N_add_69 : decode (m_N_add).2.1 69 = .ok (.dup, 1) := by decide +kernel
theorem d_N_add_70 : decode (m_N_add).2.1 70 = .ok (.getfield 24, 3) := by decide +kernel
theorem d_N_add_73 : decode (m_N_add).2.1 73 = .ok (.iconst 1, 1) := by decide +kernel
theorem d_N_add_74 : decode (m_N_add).2.1 74 = .ok (.iadd, 1) := by decide +kernel
theorem d_N_add_75 : decode (m_N_add).2.1 75 = .ok (.putfield 24, 3) := by decide +kernel
theorem d_N_add_78 : decode (m_N_add).2.1 78 = .ok (.return_, 1) := by decide +kernel
theorem d_P_init_0 : decode (m_P_init).2.1 0 = .ok (.aload_n 0, 1) := by decide +kernel
theorem d_P_init_1 : decode (m_P_init).2.1 1 = .ok (.invokespecial 3, 3) := by decide +kernel
theorem d_P_init_4 : decode (m_P_init).2.1 4 = .ok (.aload_n 0, 1) := by decide +kernel
theorem d_P_init_5 : decode (m_P_init).2.1 5 = .ok (.bipush 20, 2) := by decide +kernel
theorem d_P_init_7 : decode (m_P_init).2.1 7 = .ok (.newarray .int, 2) := by decide +kernel
theorem d_P_init_9 : decode (m_P_init).2.1 9 = .ok (.putfield 9, 3) := by decide +kernel
theorem d_P_init_12 : decode (m_P_init).2.1 12 = .ok (.aload_n 0, 1) := by decide +kernel
theorem d_P_init_13 : decode (m_P_init).2.1 13 = .ok (.bipush 20, 2) := by decide +kernel
theorem d_P_init_15 : decode (m_P_init).2.1 15 = .ok (.newarray .int, 2) := by decide +kernel
theorem d_P_init_17 : decode (m_P_init).2.1 17 = .ok (.putfield 15, 3) := by decide +kernel
theorem d_P_init_20 : decode (m_P_init).2.1 20 = .ok (.aload_n 0, 1) := by decide +kernel
theorem d_P_init_21 : decode (m_P_init).2.1 21 = .ok (.bipush 120, 2) := by decide +kernel
theorem d_P_init_23 : decode (m_P_init).2.1 23 = .ok (.newarray .boolean, 2) := by decide +kernel
theorem d_P_init_25 : decode (m_P_init).2.1 25 = .ok (.putfield 18, 3) := by decide +kernel
theorem d_P_init_28 : decode (m_P_init).2.1 28 = .ok (.aload_n 0, 1) := by decide +kernel
theorem d_P_init_29 : decode (m_P_init).2.1 29 = .ok (.bipush 16, 2) := by decide +kernel
theorem d_P_init_31 : decode (m_P_init).2.1 31 = .ok (.newarray .int, 2) := by decide +kernel
theorem d_P_init_33 : decode (m_P_init).2.1 33 = .ok (.putfield 22, 3) := by decide +kernel
theorem d_P_init_36 : decode (m_P_init).2.1 36 = .ok (.aload_n 0, 1) := by decide +kernel
theorem d_P_init_37 : decode (m_P_init).2.1 37 = .ok (.bipush 16, 2) := by decide +kernel
theorem d_P_init_39 : decode (m_P_init).2.1 39 = .ok (.bipush 120, 2) := by decide +kernel
theorem d_P_init_41 : decode (m_P_init).2.1 41 = .ok (.multianewarray 25 2, 4) := by decide +kernel
theorem d_P_init_45 : decode (m_P_init).2.1 45 = .ok (.putfield 27, 3) := by decide +kernel
theorem d_P_init_48 : decode (m_P_init).2.1 48 = .ok (.aload_n 0, 1) := by decide +kernel
theorem d_P_init_49 : decode (m_P_init).2.1 49 = .ok (.aload_n 1, 1) := by decide +kernel
theorem d_P_init_50 : decode (m_P_init).2.1 50 = .ok (.putfield 30, 3) := by decide +kernel
theorem d_P_init_53 : decode (m_P_init).2.1 53 = .ok (.aload_n 0, 1) := by decide +kernel
theorem d_P_init_54 : decode (m_P_init).2.1 54 = .ok (.aload_n 2, 1) := by decide +kernel
theorem d_P_init_55 : decode (m_P_init).2.1 55 = .ok (.putfield 34, 3) := by decide +kernel
theorem d_P_init_58 : decode (m_P_init).2.1 58 = .ok (.aload_n 0, 1) := by decide +kernel
theorem d_P_init_59 : decode (m_P_init).2.1 59 = .ok (.aload_n 3, 1) := by decide +kernel
theorem d_P_init_60 : decode (m_P_init).2.1 60 = .ok (.putfield 38, 3) := by decide +kernel
theorem d_P_init_63 : decode (m_P_init).2.1 63 = .ok (.return_, 1) := by decide +kernel
theorem d_P_leastWeight_0 : decode (m_P_leastWeight).2.1 0 = .ok (.aload_n 0, 1) := by decide +kernel
theorem d_P_leastWeight_1 : decode (m_P_leastWeight).2.1 1 = .ok (.invokevirtual 42, 3) := by decide +kernel
theorem d_P_leastWeight_4 : decode (m_P_leastWeight).2.1 4 = .ok (.aload_n 0, 1) := by decide +kernel
theorem d_P_leastWeight_5 : decode (m_P_leastWeight).2.1 5 = .ok (.iload_n 1, 1) := by decide +kernel
theorem d_P_leastWeight_6 : decode (m_P_leastWeight).2.1 6 = .ok (.iload_n 1, 1) := by decide +kernel
theorem d_P_leastWeight_7 : decode (m_P_leastWeight).2.1 7 = .ok (.iconst 1, 1) := by decide +kernel
theorem d_P_leastWeight_8 : decode (m_P_leastWeight).2.1 8 = .ok (.iadd, 1) := by decide +kernel
theorem d_P_leastWeight_9 : decode (m_P_leastWeight).2.1 9 = .ok (.imul, 1) := by decide +kernel
theorem d_P_leastWeight_10 : decode (m_P_leastWeight).2.1 10 = .ok (.iconst 2, 1) := by decide +kernel
theorem d_P_leastWeight_11 : decode (m_P_leastWeight).2.1 11 = .ok (.idiv, 1) := by decide +kernel
theorem d_P_leastWeight_12 : decode (m_P_leastWeight).2.1 12 = .ok (.putfield 45, 3) := by decide +kernel
theorem d_P_leastWeight_15 : decode (m_P_leastWeight).2.1 15 = .ok (.aload_n 0, 1) := by decide +kernel
theorem d_P_leastWeight_16 : decode (m_P_leastWeight).2.1 16 = .ok (.iload_n 2, 1) := by decide +kernel
theorem d_P_leastWeight_17 : decode (m_P_leastWeight).2.1 17 = .ok (.aload_n 0, 1) := by decide +kernel
theorem d_P_leastWeight_18 : decode (m_P_leastWeight).2.1 18 = .ok (.getfield 34, 3) := by decide +kernel
theorem d_P_leastWeight_21 : decode (m_P_leastWeight).2.1 21 = .ok (.getfield 49, 3) := by decide +kernel
theorem d_P_leastWeight_24 : decode (m_P_leastWeight).2.1 24 = .ok (.iconst 1, 1) := by decide +kernel
theorem d_P_leastWeight_25 : decode (m_P_leastWeight).2.1 25 = .ok (.isub, 1) := by decide +kernel
theorem d_P_leastWeight_26 : decode (m_P_leastWeight).2.1 26 = .ok (.idiv, 1) := by decide +kernel
theorem d_P_leastWeight_27 : decode (m_P_leastWeight).2.1 27 = .ok (.iconst 1, 1) := by decide +kernel
theorem d_P_leastWeight_28 : decode (m_P_leastWeight).2.1 28 = .ok (.iadd, 1) := by decide +kernel
theorem d_P_leastWeight_29 : decode (m_P_leastWeight).2.1 29 = .ok (.bipush 16, 2) := by decide +kernel
theorem d_P_leastWeight_31 : decode (m_P_leastWeight).2.1 31 = .ok (.invokestatic 54, 3) := by decide +kernel
theorem d_P_leastWeight_34 : decode (m_P_leastWeight).2.1 34 = .ok (.putfield 60, 3) := by decide +kernel
theorem d_P_leastWeight_37 : decode (m_P_leastWeight).2.1 37 = .ok (.iconst 0, 1) := by decide +kernel
theorem d_P_leastWeight_38 : decode (m_P_leastWeight).2.1 38 = .ok (.istore_n 3, 1) := by decide +kernel
theorem d_P_leastWeight_39 : decode (m_P_leastWeight).2.1 39 = .ok (.iload_n 3, 1) := by decide +kernel
theorem d_P_leastWeight_40 : decode (m_P_leastWeight).2.1 40 = .ok (.aload_n 0, 1) := by decide +kernel
theorem d_P_leastWeight_41 : decode (m_P_leastWeight).2.1 41 = .ok (.getfield 60, 3) := by decide +kernel
theorem d_P_leastWeight_44 : decode (m_P_leastWeight).2.1 44 = .ok (.if_icmp .ge 52, 3) := by decide +kernel
theorem d_P_leastWeight_47 : decode (m_P_leastWeight).2.1 47 = .ok (.aload_n 0, 1) := by decide +kernel
theorem d_P_leastWeight_48 : decode (m_P_leastWeight).2.1 48 = .ok (.getfield 22, 3) := by decide +kernel
theorem d_P_leastWeight_51 : decode (m_P_leastWeight).2.1 51 = .ok (.iload_n 3, 1) := by decide +kernel
theorem d_P_leastWeight_52 : decode (m_P_leastWeight).2.1 52 = .ok (.iload_n 3, 1) := by decide +kernel
theorem d_P_leastWeight_53 : decode (m_P_leastWeight).2.1 53 = .ok (.aload_n 0, 1) := by decide +kernel
theorem d_P_leastWeight_54 : decode (m_P_leastWeight).2.1 54 = .ok (.getfield 34, 3) := by decide +kernel
theorem d_P_leastWeight_57 : decode (m_P_leastWeight).2.1 57 = .ok (.getfield 49, 3) := by decide +kernel
theorem d_P_leastWeight_60 : decode (m_P_leastWeight).2.1 60 = .ok (.iconst 1, 1) := by decide +kernel
theorem d_P_leastWeight_61 : decode (m_P_leastWeight).2.1 61 = .ok (.isub, 1) := by decide +kernel
theorem d_P_leastWeight_62 : decode (m_P_leastWeight).2.1 62 = .ok (.imul, 1) := by decide +kernel
theorem d_P_leastWeight_63 : decode (m_P_leastWeight).2.1 63 = .ok (.iastore, 1) := by decide +kernel
theorem d_P_leastWeight_64 : decode (m_P_leastWeight).2.1 64 = .ok (.iconst 0, 1) := by decide +kernel
theorem d_P_leastWeight_65 : decode (m_P_leastWeight).2.1 65 = .ok (.istore 4, 2) := by decide +kernel
theorem d_P_leastWeight_67 : decode (m_P_leastWeight).2.1 67 = .ok (.iload 4, 2) := by decide +kernel
theorem d_P_leastWeight_69 : decode (m_P_leastWeight).2.1 69 = .ok (.aload_n 0, 1) := by decide +kernel
theorem d_P_leastWeight_70 : decode (m_P_leastWeight).2.1 70 = .ok (.getfield 63, 3) := by decide +kernel
theorem d_P_leastWeight_73 : decode (m_P_leastWeight).2.1 73 = .ok (.if_icmp .ge 17, 3) := by decide +kernel
theorem d_P_leastWeight_76 : decode (m_P_leastWeight).2.1 76 = .ok (.aload_n 0, 1) := by decide +kernel
theorem d_P_leastWeight_77 : decode (m_P_leastWeight).2.1 77 = .ok (.iload_n 3, 1) := by decide +kernel
theorem d_P_leastWeight_78 : decode (m_P_leastWeight).2.1 78 = .ok (.iload 4, 2) := by decide +kernel
theorem d_P_leastWeight_80 : decode (m_P_leastWeight).2.1 80 = .ok (.iload_n 1, 1) := by decide +kernel
theorem d_P_leastWeight_81 : decode (m_P_leastWeight).2.1 81 = .ok (.invokevirtual 66, 3) := by decide +kernel
theorem d_P_leastWeight_84 : decode (m_P_leastWeight).2.1 84 = .ok (.iinc 4 1, 3) := by decide +kernel
theorem d_P_leastWeight_87 : decode (m_P_leastWeight).2.1 87 = .ok (.goto (-20), 3) := by decide +kernel
theorem d_P_leastWeight_90 : decode (m_P_leastWeight).2.1 90 = .ok (.iinc 3 1, 3) := by decide +kernel
theorem d_P_leastWeight_93 : decode (m_P_leastWeight).2.1 93 = .ok (.goto (-54), 3) := by decide +kernel
theorem d_P_leastWeight_96 : decode (m_P_leastWeight).2.1 96 = .ok (.iconst 0, 1) := by decide +kernel
theorem d_P_leastWeight_97 : decode (m_P_leastWeight).2.1 97 = .ok (.istore_n 3, 1) := by decide +kernel
theorem d_P_leastWeight_98 : decode (m_P_leastWeight).2.1 98 = .ok (.iload_n 3, 1) := by decide +kernel
theorem d_P_leastWeight_99 : decode (m_P_leastWeight).2.1 99 = .ok (.aload_n 0, 1) := by decide +kernel
theorem d_P_leastWeight_100 : decode (m_P_leastWeight).2.1 100 = .ok (.getfield 63, 3) := by decide +kernel
theorem d_P_leastWeight_103 : decode (m_P_leastWeight).2.1 103 = .ok (.aload_n 0, 1) := by decide +kernel
theorem d_P_leastWeight_104 : decode (m_P_leastWeight).2.1 104 = .ok (.getfield 45, 3) := by decide +kernel
theorem d_P_leastWeight_107 : decode (m_P_leastWeight).2.1 107 = .ok (.imul, 1) := by decide +kernel
theorem d_P_leastWeight_108 : decode (m_P_leastWeight).2.1 108 = .ok (.if_icmp .ge 20, 3) := by decide +kernel
theorem d_P_leastWeight_111 : decode (m_P_leastWeight).2.1 111 = .ok (.aload_n 0, 1) := by decide +kernel
theorem d_P_leastWeight_112 : decode (m_P_leastWeight).2.1 112 = .ok (.iload_n 3, 1) := by decide +kernel
theorem d_P_leastWeight_113 : decode (m_P_leastWeight).2.1 113 = .ok (.iload_n 3, 1) := by decide +kernel
theorem d_P_leastWeight_114 : decode (m_P_leastWeight).2.1 114 = .ok (.aload_n 0, 1) := by decide +kernel
theorem d_P_leastWeight_115 : decode (m_P_leastWeight).2.1 115 = .ok (.getfield 45, 3) := by decide +kernel
theorem d_P_leastWeight_118 : decode (m_P_leastWeight).2.1 118 = .ok (.idiv, 1) := by decide +kernel
theorem d_P_leastWeight_119 : decode (m_P_leastWeight).2.1 119 = .ok (.invokevirtual 70, 3) := by decide +kernel
theorem d_P_leastWeight_122 : decode (m_P_leastWeight).2.1 122 = .ok (.iinc 3 1, 3) := by decide +kernel
theorem d_P_leastWeight_125 : decode (m_P_leastWeight).2.1 125 = .ok (.goto (-27), 3) := by decide +kernel
theorem d_P_leastWeight_128 : decode (m_P_leastWeight).2.1 128 = .ok (.iload_n 2, 1) := by decide +kernel
theorem d_P_leastWeight_129 : decode (m_P_leastWeight).2.1 129 = .ok (.istore_n 3, 1) := by decide +kernel
theorem d_P_leastWeight_130 : decode (m_P_leastWeight).2.1 130 = .ok (.iconst 0, 1) := by decide +kernel
theorem d_P_leastWeight_131 : decode (m_P_leastWeight).2.1 131 = .ok (.istore 4, 2) := by decide +kernel
theorem d_P_leastWeight_133 : decode (m_P_leastWeight).2.1 133 = .ok (.iload 4, 2) := by decide +kernel
theorem d_P_leastWeight_135 : decode (m_P_leastWeight).2.1 135 = .ok (.aload_n 0, 1) := by decide +kernel
theorem d_P_leastWeight_136 : decode (m_P_leastWeight).2.1 136 = .ok (.getfield 60, 3) := by decide +kernel
theorem d_P_leastWeight_139 : decode (m_P_leastWeight).2.1 139 = .ok (.if_icmp .ge 21, 3) := by decide +kernel
theorem d_P_leastWeight_142 : decode (m_P_leastWeight).2.1 142 = .ok (.iload_n 3, 1) := by decide +kernel
theorem d_P_leastWeight_143 : decode (m_P_leastWeight).2.1 143 = .ok (.aload_n 0, 1) := by decide +kernel
theorem d_P_leastWeight_144 : decode (m_P_leastWeight).2.1 144 = .ok (.getfield 22, 3) := by decide +kernel
theorem d_P_leastWeight_147 : decode (m_P_leastWeight).2.1 147 = .ok (.iload 4, 2) := by decide +kernel
theorem d_P_leastWeight_149 : decode (m_P_leastWeight).2.1 149 = .ok (.iaload, 1) := by decide +kernel
theorem d_P_leastWeight_150 : decode (m_P_leastWeight).2.1 150 = .ok (.invokestatic 54, 3) := by decide +kernel
theorem d_P_leastWeight_153 : decode (m_P_leastWeight).2.1 153 = .ok (.istore_n 3, 1) := by decide +kernel
theorem d_P_leastWeight_154 : decode (m_P_leastWeight).2.1 154 = .ok (.iinc 4 1, 3) := by decide +kernel
theorem d_P_leastWeight_157 : decode (m_P_leastWeight).2.1 157 = .ok (.goto (-24), 3) := by decide +kernel
theorem d_P_leastWeight_160 : decode (m_P_leastWeight).2.1 160 = .ok (.iload_n 3, 1) := by decide +kernel
theorem d_P_leastWeight_161 : decode (m_P_leastWeight).2.1 161 = .ok (.ireturn, 1) := by decide +kernel
theorem d_P_setPlaces_0 : decode (m_P_setPlaces).2.1 0 = .ok (.aload_n 0, 1) := by decide +kernel
theorem d_P_setPlaces_1 : decode (m_P_setPlaces).2.1 1 = .ok (.iconst 0, 1) := by decide +kernel
theorem d_P_setPlaces_2 : decode (m_P_setPlaces).2.1 2 = .ok (.putfield 63, 3) := by decide +kernel
theorem d_P_setPlaces_5 : decode (m_P_setPlaces).2.1 5 = .ok (.iconst 0, 1) := by decide +kernel
theorem d_P_setPlaces_6 : decode (m_P_setPlaces).2.1 6 = .ok (.istore_n 1, 1) := by decide +kernel
theorem d_P_setPlaces_7 : decode (m_P_setPlaces).2.1 7 = .ok (.iload_n 1, 1) := by decide +kernel
theorem d_P_setPlaces_8 : decode (m_P_setPlaces).2.1 8 = .ok (.aload_n 0, 1) := by decide +kernel
theorem d_P_setPlaces_9 : decode (m_P_setPlaces).2.1 9 = .ok (.getfield 34, 3) := by decide +kernel
theorem d_P_setPlaces_12 : decode (m_P_setPlaces).2.1 12 = .ok (.getfield 74, 3) := by decide +kernel
theorem d_P_setPlaces_15 : decode (m_P_setPlaces).2.1 15 = .ok (.if_icmp .ge 83, 3) := by decide +kernel
theorem d_P_setPlaces_18 : decode (m_P_setPlaces).2.1 18 = .ok (.aload_n 0, 1) := by decide +kernel
theorem d_P_setPlaces_19 : decode (m_P_setPlaces).2.1 19 = .ok (.getfield 38, 3) := by decide +kernel
theorem d_P_setPlaces_22 : decode (m_P_setPlaces).2.1 22 = .ok (.getfield 77, 3) := by decide +kernel
theorem d_P_setPlaces_25 : decode (m_P_setPlaces).2.1 25 = .ok (.iload_n 1, 1) := by decide +kernel
theorem d_P_setPlaces_26 : decode (m_P_setPlaces).2.1 26 = .ok (.baload, 1) := by decide +kernel
theorem d_P_setPlaces_27 : decode (m_P_setPlaces).2.1 27 = .ok (.ifCond .ne 65, 3) := by decide +kernel
theorem d_P_setPlaces_30 : decode (m_P_setPlaces).2.1 30 = .ok (.aload_n 0, 1) := by decide +kernel
theorem d_P_setPlaces_31 : decode (m_P_setPlaces).2.1 31 = .ok (.getfield 9, 3) := by decide +kernel
theorem d_P_setPlaces_34 : decode (m_P_setPlaces).2.1 34 = .ok (.aload_n 0, 1) := by decide +kernel
theorem d_P_setPlaces_35 : decode (m_P_setPlaces).2.1 35 = .ok (.getfield 63, 3) := by decide +kernel
theorem d_P_setPlaces_38 : decode (m_P_setPlaces).2.1 38 = .ok (.aload_n 0, 1) := by decide +kernel
theorem d_P_setPlaces_39 : decode (m_P_setPlaces).2.1 39 = .ok (.getfield 34, 3) := by decide +kernel
theorem d_P_setPlaces_42 : decode (m_P_setPlaces).2.1 42 = .ok (.getfield 82, 3) := by decide +kernel
theorem d_P_setPlaces_45 : decode (m_P_setPlaces).2.1 45 = .ok (.iload_n 1, 1) := by decide +kernel
theorem d_P_setPlaces_46 : decode (m_P_setPlaces).2.1 46 = .ok (.iaload, 1) := by decide +kernel
theorem d_P_setPlaces_47 : decode (m_P_setPlaces).2.1 47 = .ok (.iastore, 1) := by decide +kernel
theorem d_P_setPlaces_48 : decode (m_P_setPlaces).2.1 48 = .ok (.aload_n 0, 1) := by decide +kernel
theorem d_P_setPlaces_49 : decode (m_P_setPlaces).2.1 49 = .ok (.getfield 15, 3) := by decide +kernel
theorem d_P_setPlaces_52 : decode (m_P_setPlaces).2.1 52 = .ok (.aload_n 0, 1) := by decide +kernel
theorem d_P_setPlaces_53 : decode (m_P_setPlaces).2.1 53 = .ok (.getfield 63, 3) := by decide +kernel
theorem d_P_setPlaces_56 : decode (m_P_setPlaces).2.1 56 = .ok (.aload_n 0, 1) := by decide +kernel
theorem d_P_setPlaces_57 : decode (m_P_setPlaces).2.1 57 = .ok (.getfield 30, 3) := by decide +kernel
theorem d_P_setPlaces_60 : decode (m_P_setPlaces).2.1 60 = .ok (.aload_n 0, 1) := by decide +kernel
theorem d_P_setPlaces_61 : decode (m_P_setPlaces).2.1 61 = .ok (.getfield 38, 3) := by decide +kernel
theorem d_P_setPlaces_64 : decode (m_P_setPlaces).2.1 64 = .ok (.getfield 85, 3) := by decide +kernel
theorem d_P_setPlaces_67 : decode (m_P_setPlaces).2.1 67 = .ok (.iload_n 1, 1) := by decide +kernel
theorem d_P_setPlaces_68 : decode (m_P_setPlaces).2.1 68 = .ok (.iaload, 1) := by decide +kernel
theorem d_P_setPlaces_69 : decode (m_P_setPlaces).2.1 69 = .ok (.aload_n 0, 1) := by decide +kernel
theorem d_P_setPlaces_70 : decode (m_P_setPlaces).2.1 70 = .ok (.getfield 34, 3) := by decide +kernel
theorem d_P_setPlaces_73 : decode (m_P_setPlaces).2.1 73 = .ok (.getfield 88, 3) := by decide +kernel
theorem d_P_setPlaces_76 : decode (m_P_setPlaces).2.1 76 = .ok (.iload_n 1, 1) := by decide +kernel
theorem d_P_setPlaces_77 : decode (m_P_setPlaces).2.1 77 = .ok (.iaload, 1) := by decide +kernel
theorem d_P_setPlaces_78 : decode (m_P_setPlaces).2.1 78 = .ok (.invokevirtual 91, 3) := by decide +kernel
theorem d_P_setPlaces_81 : decode (m_P_setPlaces).2.1 81 = .ok (.iastore, 1) := by decide +kernel
theorem d_P_setPlaces_82 : decode (m_P_setPlaces).2.1 82 = .ok (.aload_n 0, 1) := by decide +kernel
theorem d_P_setPlaces_83 : decode (m_P_setPlaces).2.1 83 = .ok (.dup, 1) := by decide +kernel
theorem d_P_setPlaces_84 : decode (m_P_setPlaces).2.1 84 = .ok (.getfield 63, 3) := by decide +kernel
theorem d_P_setPlaces_87 : decode (m_P_setPlaces).2.1 87 = .ok (.iconst 1, 1) := by decide +kernel
theorem d_P_setPlaces_88 : decode (m_P_setPlaces).2.1 88 = .ok (.iadd, 1) := by decide +kernel
theorem d_P_setPlaces_89 : decode (m_P_setPlaces).2.1 89 = .ok (.putfield 63, 3) := by decide +kernel
theorem d_P_setPlaces_92 : decode (m_P_setPlaces).2.1 92 = .ok (.iinc 1 1, 3) := by decide +kernel
theorem d_P_setPlaces_95 : decode (m_P_setPlaces).2.1 95 = .ok (.goto (-88), 3) := by decide +kernel
theorem d_P_setPlaces_98 : decode (m_P_setPlaces).2.1 98 = .ok (.return_, 1) := by decide +kernel
theorem d_P_setValues_0 : decode (m_P_setValues).2.1 0 = .ok (.iload_n 2, 1) := by decide +kernel
theorem d_P_setValues_1 : decode (m_P_setValues).2.1 1 = .ok (.aload_n 0, 1) := by decide +kernel
theorem d_P_setValues_2 : decode (m_P_setValues).2.1 2 = .ok (.getfield 45, 3) := by decide +kernel
theorem d_P_setValues_5 : decode (m_P_setValues).2.1 5 = .ok (.imul, 1) := by decide +kernel
theorem d_P_setValues_6 : decode (m_P_setValues).2.1 6 = .ok (.istore 4, 2) := by decide +kernel
theorem d_P_setValues_8 : decode (m_P_setValues).2.1 8 = .ok (.iconst 0, 1) := by decide +kernel
theorem d_P_setValues_9 : decode (m_P_setValues).2.1 9 = .ok (.istore 5, 2) := by decide +kernel
theorem d_P_setValues_11 : decode (m_P_setValues).2.1 11 = .ok (.iload 5, 2) := by decide +kernel
theorem d_P_setValues_13 : decode (m_P_setValues).2.1 13 = .ok (.iload_n 3, 1) := by decide +kernel
theorem d_P_setValues_14 : decode (m_P_setValues).2.1 14 = .ok (.if_icmp .ge 103, 3) := by decide +kernel
theorem d_P_setValues_17 : decode (m_P_setValues).2.1 17 = .ok (.iconst 0, 1) := by decide +kernel
theorem d_P_setValues_18 : decode (m_P_setValues).2.1 18 = .ok (.istore 6, 2) := by decide +kernel
theorem d_P_setValues_20 : decode (m_P_setValues).2.1 20 = .ok (.iload 6, 2) := by decide +kernel
theorem d_P_setValues_22 : decode (m_P_setValues).2.1 22 = .ok (.iload_n 3, 1) := by decide +kernel
theorem d_P_setValues_23 : decode (m_P_setValues).2.1 23 = .ok (.iload 5, 2) := by decide +kernel
theorem d_P_setValues_25 : decode (m_P_setValues).2.1 25 = .ok (.isub, 1) := by decide +kernel
theorem d_P_setValues_26 : decode (m_P_setValues).2.1 26 = .ok (.if_icmp .ge 85, 3) := by decide +kernel
theorem d_P_setValues_29 : decode (m_P_setValues).2.1 29 = .ok (.iload 6, 2) := by decide +kernel
theorem d_P_setValues_31 : decode (m_P_setValues).2.1 31 = .ok (.ifCond .ne 16, 3) := by decide +kernel
theorem d_P_setValues_34 : decode (m_P_setValues).2.1 34 = .ok (.iload 5, 2) := by decide +kernel
theorem d_P_setValues_36 : decode (m_P_setValues).2.1 36 = .ok (.iload_n 1, 1) := by decide +kernel
theorem d_P_setValues_37 : decode (m_P_setValues).2.1 37 = .ok (.iconst (-1), 1) := by decide +kernel
theorem d_P_setValues_38 : decode (m_P_setValues).2.1 38 = .ok (.ixor, 1) := by decide +kernel
theorem d_P_setValues_39 : decode (m_P_setValues).2.1 39 = .ok (.iand, 1) := by decide +kernel
theorem d_P_setValues_40 : decode (m_P_setValues).2.1 40 = .ok (.ifCond .ne 7, 3) := by decide +kernel
theorem d_P_setValues_43 : decode (m_P_setValues).2.1 43 = .ok (.iconst 1, 1) := by decide +kernel
theorem d_P_setValues_44 : decode (m_P_setValues).2.1 44 = .ok (.goto 4, 3) := by decide +kernel
theorem d_P_setValues_47 : decode (m_P_setValues).2.1 47 = .ok (.iconst 0, 1) := by decide +kernel
theorem d_P_setValues_48 : decode (m_P_setValues).2.1 48 = .ok (.istore 7, 2) := by decide +kernel
theorem d_P_setValues_50 : decode (m_P_setValues).2.1 50 = .ok (.aload_n 0, 1) := by decide +kernel
theorem d_P_setValues_51 : decode (m_P_setValues).2.1 51 = .ok (.getfield 27, 3) := by decide +kernel
theorem d_P_setValues_54 : decode (m_P_setValues).2.1 54 = .ok (.iload_n 1, 1) := by decide +kernel
theorem d_P_setValues_55 : decode (m_P_setValues).2.1 55 = .ok (.aaload, 1) := by decide +kernel
theorem d_P_setValues_56 : decode (m_P_setValues).2.1 56 = .ok (.iload 4, 2) := by decide +kernel
theorem d_P_setValues_58 : decode (m_P_setValues).2.1 58 = .ok (.iload 7, 2) := by decide +kernel
theorem d_P_setValues_60 : decode (m_P_setValues).2.1 60 = .ok (.ifCond .eq 23, 3) := by decide +kernel
theorem d_P_setValues_63 : decode (m_P_setValues).2.1 63 = .ok (.aload_n 0, 1) := by decide +kernel
theorem d_P_setValues_64 : decode (m_P_setValues).2.1 64 = .ok (.getfield 30, 3) := by decide +kernel
theorem d_P_setValues_67 : decode (m_P_setValues).2.1 67 = .ok (.aload_n 0, 1) := by decide +kernel
theorem d_P_setValues_68 : decode (m_P_setValues).2.1 68 = .ok (.getfield 15, 3) := by decide +kernel
theorem d_P_setValues_71 : decode (m_P_setValues).2.1 71 = .ok (.iload_n 2, 1) := by decide +kernel
theorem d_P_setValues_72 : decode (m_P_setValues).2.1 72 = .ok (.iaload, 1) := by decide +kernel
theorem d_P_setValues_73 : decode (m_P_setValues).2.1 73 = .ok (.iload_n 1, 1) := by decide +kernel
theorem d_P_setValues_74 : decode (m_P_setValues).2.1 74 = .ok (.iload 5, 2) := by decide +kernel
theorem d_P_setValues_76 : decode (m_P_setValues).2.1 76 = .ok (.isub, 1) := by decide +kernel
theorem d_P_setValues_77 : decode (m_P_setValues).2.1 77 = .ok (.invokevirtual 96, 3) := by decide +kernel
theorem d_P_setValues_80 : decode (m_P_setValues).2.1 80 = .ok (.goto 4, 3) := by decide +kernel
theorem d_P_setValues_83 : decode (m_P_setValues).2.1 83 = .ok (.iconst 0, 1) := by decide +kernel
theorem d_P_setValues_84 : decode (m_P_setValues).2.1 84 = .ok (.iastore, 1) := by decide +kernel
theorem d_P_setValues_85 : decode (m_P_setValues).2.1 85 = .ok (.aload_n 0, 1) := by decide +kernel
theorem d_P_setValues_86 : decode (m_P_setValues).2.1 86 = .ok (.getfield 18, 3) := by decide +kernel
theorem d_P_setValues_89 : decode (m_P_setValues).2.1 89 = .ok (.iload 4, 2) := by decide +kernel
theorem d_P_setValues_91 : decode (m_P_setValues).2.1 91 = .ok (.iload 6, 2) := by decide +kernel
theorem d_P_setValues_93 : decode (m_P_setValues).2.1 93 = .ok (.ifCond .ne 7, 3) := by decide +kernel
theorem d_P_setValues_96 : decode (m_P_setValues).2.1 96 = .ok (.iconst 1, 1) := by decide +kernel
theorem d_P_setValues_97 : decode (m_P_setValues).2.1 97 = .ok (.goto 4, 3) := by decide +kernel
theorem d_P_setValues_100 : decode (m_P_setValues).2.1 100 = .ok (.iconst 0, 1) := by decide +kernel
theorem d_P_setValues_101 : decode (m_P_setValues).2.1 101 = .ok (.bastore, 1) := by decide +kernel
theorem d_P_setValues_102 : decode (m_P_setValues).2.1 102 = .ok (.iinc 4 1, 3) := by decide +kernel
theorem d_P_setValues_105 : decode (m_P_setValues).2.1 105 = .ok (.iinc 6 1, 3) := by decide +kernel
theorem d_P_setValues_108 : decode (m_P_setValues).2.1 108 = .ok (.goto (-88), 3) := by decide +kernel
theorem d_P_setValues_111 : decode (m_P_setValues).2.1 111 = .ok (.iinc 5 1, 3) := by decide +kernel
theorem d_P_setValues_114 : decode (m_P_setValues).2.1 114 = .ok (.goto (-103), 3) := by decide +kernel
theorem d_P_setValues_117 : decode (m_P_setValues).2.1 117 = .ok (.return_, 1) := by decide +kernel
theorem d_P_meet_0 : decode (m_P_meet).2.1 0 = .ok (.aload_n 0, 1) := by decide +kernel
theorem d_P_meet_1 : decode (m_P_meet).2.1 1 = .ok (.iload_n 1, 1) := by decide +kernel
theorem d_P_meet_2 : decode (m_P_meet).2.1 2 = .ok (.invokevirtual 99, 3) := by decide +kernel
theorem d_P_meet_5 : decode (m_P_meet).2.1 5 = .ok (.istore_n 3, 1) := by decide +kernel
theorem d_P_meet_6 : decode (m_P_meet).2.1 6 = .ok (.iload_n 3, 1) := by decide +kernel
theorem d_P_meet_7 : decode (m_P_meet).2.1 7 = .ok (.ifCond .ge 4, 3) := by decide +kernel
theorem d_P_meet_10 : decode (m_P_meet).2.1 10 = .ok (.return_, 1) := by decide +kernel
theorem d_P_meet_11 : decode (m_P_meet).2.1 11 = .ok (.aload_n 0, 1) := by decide +kernel
theorem d_P_meet_12 : decode (m_P_meet).2.1 12 = .ok (.getfield 27, 3) := by decide +kernel
theorem d_P_meet_15 : decode (m_P_meet).2.1 15 = .ok (.iload_n 3, 1) := by decide +kernel
theorem d_P_meet_16 : decode (m_P_meet).2.1 16 = .ok (.aaload, 1) := by decide +kernel
theorem d_P_meet_17 : decode (m_P_meet).2.1 17 = .ok (.astore 4, 2) := by decide +kernel
theorem d_P_meet_19 : decode (m_P_meet).2.1 19 = .ok (.iconst 0, 1) := by decide +kernel
theorem d_P_meet_20 : decode (m_P_meet).2.1 20 = .ok (.istore 5, 2) := by decide +kernel
theorem d_P_meet_22 : decode (m_P_meet).2.1 22 = .ok (.iload 5, 2) := by decide +kernel
theorem d_P_meet_24 : decode (m_P_meet).2.1 24 = .ok (.aload_n 0, 1) := by decide +kernel
theorem d_P_meet_25 : decode (m_P_meet).2.1 25 = .ok (.getfield 60, 3) := by decide +kernel
theorem d_P_meet_28 : decode (m_P_meet).2.1 28 = .ok (.if_icmp .ge 77, 3) := by decide +kernel
theorem d_P_meet_31 : decode (m_P_meet).2.1 31 = .ok (.iload 5, 2) := by decide +kernel
theorem d_P_meet_33 : decode (m_P_meet).2.1 33 = .ok (.iload_n 3, 1) := by decide +kernel
theorem d_P_meet_34 : decode (m_P_meet).2.1 34 = .ok (.if_icmp .eq 65, 3) := by decide +kernel
theorem d_P_meet_37 : decode (m_P_meet).2.1 37 = .ok (.aload_n 0, 1) := by decide +kernel
theorem d_P_meet_38 : decode (m_P_meet).2.1 38 = .ok (.getfield 27, 3) := by decide +kernel
theorem d_P_meet_41 : decode (m_P_meet).2.1 41 = .ok (.iload 5, 2) := by decide +kernel
theorem d_P_meet_43 : decode (m_P_meet).2.1 43 = .ok (.aaload, 1) := by decide +kernel
theorem d_P_meet_44 : decode (m_P_meet).2.1 44 = .ok (.iload_n 1, 1) := by decide +kernel
theorem d_P_meet_45 : decode (m_P_meet).2.1 45 = .ok (.iaload, 1) := by decide +kernel
theorem d_P_meet_46 : decode (m_P_meet).2.1 46 = .ok (.ifCond .eq 53, 3) := by decide +kernel
theorem d_P_meet_49 : decode (m_P_meet).2.1 49 = .ok (.aload_n 0, 1) := by decide +kernel
theorem d_P_meet_50 : decode (m_P_meet).2.1 50 = .ok (.getfield 30, 3) := by decide +kernel
theorem d_P_meet_53 : decode (m_P_meet).2.1 53 = .ok (.aload_n 0, 1) := by decide +kernel
theorem d_P_meet_54 : decode (m_P_meet).2.1 54 = .ok (.getfield 27, 3) := by decide +kernel
theorem d_P_meet_57 : decode (m_P_meet).2.1 57 = .ok (.iload 5, 2) := by decide +kernel
theorem d_P_meet_59 : decode (m_P_meet).2.1 59 = .ok (.aaload, 1) := by decide +kernel
theorem d_P_meet_60 : decode (m_P_meet).2.1 60 = .ok (.iload_n 1, 1) := by decide +kernel
theorem d_P_meet_61 : decode (m_P_meet).2.1 61 = .ok (.iaload, 1) := by decide +kernel
theorem d_P_meet_62 : decode (m_P_meet).2.1 62 = .ok (.aload 4, 2) := by decide +kernel
theorem d_P_meet_64 : decode (m_P_meet).2.1 64 = .ok (.iload_n 1, 1) := by decide +kernel
theorem d_P_meet_65 : decode (m_P_meet).2.1 65 = .ok (.iaload, 1) := by decide +kernel
theorem d_P_meet_66 : decode (m_P_meet).2.1 66 = .ok (.invokevirtual 91, 3) := by decide +kernel
theorem d_P_meet_69 : decode (m_P_meet).2.1 69 = .ok (.istore 6, 2) := by decide +kernel
theorem d_P_meet_71 : decode (m_P_meet).2.1 71 = .ok (.aload_n 0, 1) := by decide +kernel
theorem d_P_meet_72 : decode (m_P_meet).2.1 72 = .ok (.getfield 30, 3) := by decide +kernel
theorem d_P_meet_75 : decode (m_P_meet).2.1 75 = .ok (.aload_n 0, 1) := by decide +kernel
theorem d_P_meet_76 : decode (m_P_meet).2.1 76 = .ok (.getfield 27, 3) := by decide +kernel
theorem d_P_meet_79 : decode (m_P_meet).2.1 79 = .ok (.iload 5, 2) := by decide +kernel
theorem d_P_meet_81 : decode (m_P_meet).2.1 81 = .ok (.aaload, 1) := by decide +kernel
theorem d_P_meet_82 : decode (m_P_meet).2.1 82 = .ok (.iload 6, 2) := by decide +kernel
theorem d_P_meet_84 : decode (m_P_meet).2.1 84 = .ok (.aload 4, 2) := by decide +kernel
theorem d_P_meet_86 : decode (m_P_meet).2.1 86 = .ok (.iload_n 1, 1) := by decide +kernel
theorem d_P_meet_87 : decode (m_P_meet).2.1 87 = .ok (.aload_n 0, 1) := by decide +kernel
theorem d_P_meet_88 : decode (m_P_meet).2.1 88 = .ok (.getfield 63, 3) := by decide +kernel
theorem d_P_meet_91 : decode (m_P_meet).2.1 91 = .ok (.aload_n 0, 1) := by decide +kernel
theorem d_P_meet_92 : decode (m_P_meet).2.1 92 = .ok (.getfield 45, 3) := by decide +kernel
theorem d_P_meet_95 : decode (m_P_meet).2.1 95 = .ok (.imul, 1) := by decide +kernel
theorem d_P_meet_96 : decode (m_P_meet).2.1 96 = .ok (.invokevirtual 103, 3) := by decide +kernel
theorem d_P_meet_99 : decode (m_P_meet).2.1 99 = .ok (.iinc 5 1, 3) := by decide +kernel
theorem d_P_meet_102 : decode (m_P_meet).2.1 102 = .ok (.goto (-80), 3) := by decide +kernel
theorem d_P_meet_105 : decode (m_P_meet).2.1 105 = .ok (.aload_n 0, 1) := by decide +kernel
theorem d_P_meet_106 : decode (m_P_meet).2.1 106 = .ok (.aload 4, 2) := by decide +kernel
theorem d_P_meet_108 : decode (m_P_meet).2.1 108 = .ok (.iload_n 2, 1) := by decide +kernel
theorem d_P_meet_109 : decode (m_P_meet).2.1 109 = .ok (.invokevirtual 107, 3) := by decide +kernel
theorem d_P_meet_112 : decode (m_P_meet).2.1 112 = .ok (.aload_n 0, 1) := by decide +kernel
theorem d_P_meet_113 : decode (m_P_meet).2.1 113 = .ok (.getfield 22, 3) := by decide +kernel
theorem d_P_meet_116 : decode (m_P_meet).2.1 116 = .ok (.iload_n 3, 1) := by decide +kernel
theorem d_P_meet_117 : decode (m_P_meet).2.1 117 = .ok (.dup2, 1) := by decide +kernel
theorem d_P_meet_118 : decode (m_P_meet).2.1 118 = .ok (.iaload, 1) := by decide +kernel
theorem d_P_meet_119 : decode (m_P_meet).2.1 119 = .ok (.iconst 1, 1) := by decide +kernel
theorem d_P_meet_120 : decode (m_P_meet).2.1 120 = .ok (.iadd, 1) := by decide +kernel
theorem d_P_meet_121 : decode (m_P_meet).2.1 121 = .ok (.iastore, 1) := by decide +kernel
theorem d_P_meet_122 : decode (m_P_meet).2.1 122 = .ok (.return_, 1) := by decide +kernel
theorem d_P_failingLeast_0 : decode (m_P_failingLeast).2.1 0 = .ok (.iconst (-1), 1) := by decide +kernel
theorem d_P_failingLeast_1 : decode (m_P_failingLeast).2.1 1 = .ok (.istore_n 2, 1) := by decide +kernel
theorem d_P_failingLeast_2 : decode (m_P_failingLeast).2.1 2 = .ok (.iconst 0, 1) := by decide +kernel
theorem d_P_failingLeast_3 : decode (m_P_failingLeast).2.1 3 = .ok (.istore_n 3, 1) := by decide +kernel
theorem d_P_failingLeast_4 : decode (m_P_failingLeast).2.1 4 = .ok (.iload_n 3, 1) := by decide +kernel
theorem d_P_failingLeast_5 : decode (m_P_failingLeast).2.1 5 = .ok (.aload_n 0, 1) := by decide +kernel
theorem d_P_failingLeast_6 : decode (m_P_failingLeast).2.1 6 = .ok (.getfield 60, 3) := by decide +kernel
theorem d_P_failingLeast_9 : decode (m_P_failingLeast).2.1 9 = .ok (.if_icmp .ge 41, 3) := by decide +kernel
theorem d_P_failingLeast_12 : decode (m_P_failingLeast).2.1 12 = .ok (.aload_n 0, 1) := by decide +kernel
theorem d_P_failingLeast_13 : decode (m_P_failingLeast).2.1 13 = .ok (.getfield 27, 3) := by decide +kernel
theorem d_P_failingLeast_16 : decode (m_P_failingLeast).2.1 16 = .ok (.iload_n 3, 1) := by decide +kernel
theorem d_P_failingLeast_17 : decode (m_P_failingLeast).2.1 17 = .ok (.aaload, 1) := by decide +kernel
theorem d_P_failingLeast_18 : decode (m_P_failingLeast).2.1 18 = .ok (.iload_n 1, 1) := by decide +kernel
theorem d_P_failingLeast_19 : decode (m_P_failingLeast).2.1 19 = .ok (.iaload, 1) := by decide +kernel
theorem d_P_failingLeast_20 : decode (m_P_failingLeast).2.1 20 = .ok (.ifCond .eq 24, 3) := by decide +kernel
theorem d_P_failingLeast_23 : decode (m_P_failingLeast).2.1 23 = .ok (.iload_n 2, 1) := by decide +kernel
theorem d_P_failingLeast_24 : decode (m_P_failingLeast).2.1 24 = .ok (.ifCond .lt 18, 3) := by decide +kernel
theorem d_P_failingLeast_27 : decode (m_P_failingLeast).2.1 27 = .ok (.aload_n 0, 1) := by decide +kernel
theorem d_P_failingLeast_28 : decode (m_P_failingLeast).2.1 28 = .ok (.getfield 22, 3) := by decide +kernel
theorem d_P_failingLeast_31 : decode (m_P_failingLeast).2.1 31 = .ok (.iload_n 3, 1) := by decide +kernel
theorem d_P_failingLeast_32 : decode (m_P_failingLeast).2.1 32 = .ok (.iaload, 1) := by decide +kernel
theorem d_P_failingLeast_33 : decode (m_P_failingLeast).2.1 33 = .ok (.aload_n 0, 1) := by decide +kernel
theorem d_P_failingLeast_34 : decode (m_P_failingLeast).2.1 34 = .ok (.getfield 22, 3) := by decide +kernel
theorem d_P_failingLeast_37 : decode (m_P_failingLeast).2.1 37 = .ok (.iload_n 2, 1) := by decide +kernel
theorem d_P_failingLeast_38 : decode (m_P_failingLeast).2.1 38 = .ok (.iaload, 1) := by decide +kernel
theorem d_P_failingLeast_39 : decode (m_P_failingLeast).2.1 39 = .ok (.if_icmp .ge 5, 3) := by decide +kernel
theorem d_P_failingLeast_42 : decode (m_P_failingLeast).2.1 42 = .ok (.iload_n 3, 1) := by decide +kernel
theorem d_P_failingLeast_43 : decode (m_P_failingLeast).2.1 43 = .ok (.istore_n 2, 1) := by decide +kernel
theorem d_P_failingLeast_44 : decode (m_P_failingLeast).2.1 44 = .ok (.iinc 3 1, 3) := by decide +kernel
theorem d_P_failingLeast_47 : decode (m_P_failingLeast).2.1 47 = .ok (.goto (-43), 3) := by decide +kernel
theorem d_P_failingLeast_50 : decode (m_P_failingLeast).2.1 50 = .ok (.iload_n 2, 1) := by decide +kernel
theorem d_P_failingLeast_51 : decode (m_P_failingLeast).2.1 51 = .ok (.ireturn, 1) := by decide +kernel
theorem d_P_timesLinear_0 : decode (m_P_timesLinear).2.1 0 = .ok (.iload_n 2, 1) := by decide +kernel
theorem d_P_timesLinear_1 : decode (m_P_timesLinear).2.1 1 = .ok (.istore_n 3, 1) := by decide +kernel
theorem d_P_timesLinear_2 : decode (m_P_timesLinear).2.1 2 = .ok (.iload_n 3, 1) := by decide +kernel
theorem d_P_timesLinear_3 : decode (m_P_timesLinear).2.1 3 = .ok (.aload_n 0, 1) := by decide +kernel
theorem d_P_timesLinear_4 : decode (m_P_timesLinear).2.1 4 = .ok (.getfield 63, 3) := by decide +kernel
theorem d_P_timesLinear_7 : decode (m_P_timesLinear).2.1 7 = .ok (.if_icmp .ge 95, 3) := by decide +kernel
theorem d_P_timesLinear_10 : decode (m_P_timesLinear).2.1 10 = .ok (.aload_n 0, 1) := by decide +kernel
theorem d_P_timesLinear_11 : decode (m_P_timesLinear).2.1 11 = .ok (.getfield 9, 3) := by decide +kernel
theorem d_P_timesLinear_14 : decode (m_P_timesLinear).2.1 14 = .ok (.iload_n 3, 1) := by decide +kernel
theorem d_P_timesLinear_15 : decode (m_P_timesLinear).2.1 15 = .ok (.iaload, 1) := by decide +kernel
theorem d_P_timesLinear_16 : decode (m_P_timesLinear).2.1 16 = .ok (.aload_n 0, 1) := by decide +kernel
theorem d_P_timesLinear_17 : decode (m_P_timesLinear).2.1 17 = .ok (.getfield 9, 3) := by decide +kernel
theorem d_P_timesLinear_20 : decode (m_P_timesLinear).2.1 20 = .ok (.iload_n 2, 1) := by decide +kernel
theorem d_P_timesLinear_21 : decode (m_P_timesLinear).2.1 21 = .ok (.iaload, 1) := by decide +kernel
theorem d_P_timesLinear_22 : decode (m_P_timesLinear).2.1 22 = .ok (.ixor, 1) := by decide +kernel
theorem d_P_timesLinear_23 : decode (m_P_timesLinear).2.1 23 = .ok (.istore 4, 2) := by decide +kernel
theorem d_P_timesLinear_25 : decode (m_P_timesLinear).2.1 25 = .ok (.iload_n 3, 1) := by decide +kernel
theorem d_P_timesLinear_26 : decode (m_P_timesLinear).2.1 26 = .ok (.iconst 1, 1) := by decide +kernel
theorem d_P_timesLinear_27 : decode (m_P_timesLinear).2.1 27 = .ok (.iadd, 1) := by decide +kernel
theorem d_P_timesLinear_28 : decode (m_P_timesLinear).2.1 28 = .ok (.aload_n 0, 1) := by decide +kernel
theorem d_P_timesLinear_29 : decode (m_P_timesLinear).2.1 29 = .ok (.getfield 45, 3) := by decide +kernel
theorem d_P_timesLinear_32 : decode (m_P_timesLinear).2.1 32 = .ok (.imul, 1) := by decide +kernel
theorem d_P_timesLinear_33 : decode (m_P_timesLinear).2.1 33 = .ok (.iconst 1, 1) := by decide +kernel
theorem d_P_timesLinear_34 : decode (m_P_timesLinear).2.1 34 = .ok (.isub, 1) := by decide +kernel
theorem d_P_timesLinear_35 : decode (m_P_timesLinear).2.1 35 = .ok (.istore 5, 2) := by decide +kernel
theorem d_P_timesLinear_37 : decode (m_P_timesLinear).2.1 37 = .ok (.iload 5, 2) := by decide +kernel
theorem d_P_timesLinear_39 : decode (m_P_timesLinear).2.1 39 = .ok (.iload_n 3, 1) := by decide +kernel
theorem d_P_timesLinear_40 : decode (m_P_timesLinear).2.1 40 = .ok (.aload_n 0, 1) := by decide +kernel
theorem d_P_timesLinear_41 : decode (m_P_timesLinear).2.1 41 = .ok (.getfield 45, 3) := by decide +kernel
theorem d_P_timesLinear_44 : decode (m_P_timesLinear).2.1 44 = .ok (.imul, 1) := by decide +kernel
theorem d_P_timesLinear_45 : decode (m_P_timesLinear).2.1 45 = .ok (.if_icmp .lt 51, 3) := by decide +kernel
theorem d_P_timesLinear_48 : decode (m_P_timesLinear).2.1 48 = .ok (.aload_n 0, 1) := by decide +kernel
theorem d_P_timesLinear_49 : decode (m_P_timesLinear).2.1 49 = .ok (.getfield 18, 3) := by decide +kernel
theorem d_P_timesLinear_52 : decode (m_P_timesLinear).2.1 52 = .ok (.iload 5, 2) := by decide +kernel
theorem d_P_timesLinear_54 : decode (m_P_timesLinear).2.1 54 = .ok (.baload, 1) := by decide +kernel
theorem d_P_timesLinear_55 : decode (m_P_timesLinear).2.1 55 = .ok (.ifCond .eq 7, 3) := by decide +kernel
theorem d_P_timesLinear_58 : decode (m_P_timesLinear).2.1 58 = .ok (.iconst 0, 1) := by decide +kernel
theorem d_P_timesLinear_59 : decode (m_P_timesLinear).2.1 59 = .ok (.goto 9, 3) := by decide +kernel
theorem d_P_timesLinear_62 : decode (m_P_timesLinear).2.1 62 = .ok (.aload_n 1, 1) := by decide +kernel
theorem d_P_timesLinear_63 : decode (m_P_timesLinear).2.1 63 = .ok (.iload 5, 2) := by decide +kernel
theorem d_P_timesLinear_65 : decode (m_P_timesLinear).2.1 65 = .ok (.iconst 1, 1) := by decide +kernel
theorem d_P_timesLinear_66 : decode (m_P_timesLinear).2.1 66 = .ok (.isub, 1) := by decide +kernel
theorem d_P_timesLinear_67 : decode (m_P_timesLinear).2.1 67 = .ok (.iaload, 1) := by decide +kernel
theorem d_P_timesLinear_68 : decode (m_P_timesLinear).2.1 68 = .ok (.istore 6, 2) := by decide +kernel
theorem d_P_timesLinear_70 : decode (m_P_timesLinear).2.1 70 = .ok (.aload_n 1, 1) := by decide +kernel
theorem d_P_timesLinear_71 : decode (m_P_timesLinear).2.1 71 = .ok (.iload 5, 2) := by decide +kernel
theorem d_P_timesLinear_73 : decode (m_P_timesLinear).2.1 73 = .ok (.iload 6, 2) := by decide +kernel
theorem d_P_timesLinear_75 : decode (m_P_timesLinear).2.1 75 = .ok (.aload_n 0, 1) := by decide +kernel
theorem d_P_timesLinear_76 : decode (m_P_timesLinear).2.1 76 = .ok (.getfield 30, 3) := by decide +kernel
theorem d_P_timesLinear_79 : decode (m_P_timesLinear).2.1 79 = .ok (.iload 4, 2) := by decide +kernel
theorem d_P_timesLinear_81 : decode (m_P_timesLinear).2.1 81 = .ok (.aload_n 1, 1) := by decide +kernel
theorem d_P_timesLinear_82 : decode (m_P_timesLinear).2.1 82 = .ok (.iload 5, 2) := by decide +kernel
theorem d_P_timesLinear_84 : decode (m_P_timesLinear).2.1 84 = .ok (.iaload, 1) := by decide +kernel
theorem d_P_timesLinear_85 : decode (m_P_timesLinear).2.1 85 = .ok (.invokevirtual 111, 3) := by decide +kernel
theorem d_P_timesLinear_88 : decode (m_P_timesLinear).2.1 88 = .ok (.ixor, 1) := by decide +kernel
theorem d_P_timesLinear_89 : decode (m_P_timesLinear).2.1 89 = .ok (.iastore, 1) := by decide +kernel
theorem d_P_timesLinear_90 : decode (m_P_timesLinear).2.1 90 = .ok (.iinc 5 (-1), 3) := by decide +kernel
theorem d_P_timesLinear_93 : decode (m_P_timesLinear).2.1 93 = .ok (.goto (-56), 3) := by decide +kernel
theorem d_P_timesLinear_96 : decode (m_P_timesLinear).2.1 96 = .ok (.iinc 3 1, 3) := by decide +kernel
theorem d_P_timesLinear_99 : decode (m_P_timesLinear).2.1 99 = .ok (.goto (-97), 3) := by decide +kernel
theorem d_P_timesLinear_102 : decode (m_P_timesLinear).2.1 102 = .ok (.return_, 1) := by decide +kernel
theorem d_S_init_0 : decode (m_S_init).2.1 0 = .ok (.aload_n 0, 1) := by decide +kernel
theorem d_S_init_1 : decode (m_S_init).2.1 1 = .ok (.invokespecial 3, 3) := by decide +kernel
theorem d_S_init_4 : decode (m_S_init).2.1 4 = .ok (.aload_n 0, 1) := by decide +kernel
theorem d_S_init_5 : decode (m_S_init).2.1 5 = .ok (.iconst 4, 1) := by decide +kernel
theorem d_S_init_6 : decode (m_S_init).2.1 6 = .ok (.newarray .int, 2) := by decide +kernel
theorem d_S_init_8 : decode (m_S_init).2.1 8 = .ok (.putfield 9, 3) := by decide +kernel
theorem d_S_init_11 : decode (m_S_init).2.1 11 = .ok (.aload_n 0, 1) := by decide +kernel
theorem d_S_init_12 : decode (m_S_init).2.1 12 = .ok (.bipush 32, 2) := by decide +kernel
theorem d_S_init_14 : decode (m_S_init).2.1 14 = .ok (.newarray .int, 2) := by decide +kernel
theorem d_S_init_16 : decode (m_S_init).2.1 16 = .ok (.putfield 15, 3) := by decide +kernel
theorem d_S_init_19 : decode (m_S_init).2.1 19 = .ok (.aload_n 0, 1) := by decide +kernel
theorem d_S_init_20 : decode (m_S_init).2.1 20 = .ok (.aload_n 1, 1) := by decide +kernel
theorem d_S_init_21 : decode (m_S_init).2.1 21 = .ok (.putfield 18, 3) := by decide +kernel
theorem d_S_init_24 : decode (m_S_init).2.1 24 = .ok (.aload_n 0, 1) := by decide +kernel
theorem d_S_init_25 : decode (m_S_init).2.1 25 = .ok (.aload_n 2, 1) := by decide +kernel
theorem d_S_init_26 : decode (m_S_init).2.1 26 = .ok (.putfield 22, 3) := by decide +kernel
theorem d_S_init_29 : decode (m_S_init).2.1 29 = .ok (.aload_n 0, 1) := by decide +kernel
theorem d_S_init_30 : decode (m_S_init).2.1 30 = .ok (.aload_n 3, 1) := by decide +kernel
theorem d_S_init_31 : decode (m_S_init).2.1 31 = .ok (.putfield 26, 3) := by decide +kernel
theorem d_S_init_34 : decode (m_S_init).2.1 34 = .ok (.return_, 1) := by decide +kernel
theorem d_S_find_0 : decode (m_S_find).2.1 0 = .ok (.aload_n 2, 1) := by decide +kernel
theorem d_S_find_1 : decode (m_S_find).2.1 1 = .ok (.iconst 0, 1) := by decide +kernel
theorem d_S_find_2 : decode (m_S_find).2.1 2 = .ok (.putfield 30, 3) := by decide +kernel
theorem d_S_find_5 : decode (m_S_find).2.1 5 = .ok (.aload_n 0, 1) := by decide +kernel
theorem d_S_find_6 : decode (m_S_find).2.1 6 = .ok (.getfield 22, 3) := by decide +kernel
theorem d_S_find_9 : decode (m_S_find).2.1 9 = .ok (.getfield 36, 3) := by decide +kernel
theorem d_S_find_12 : decode (m_S_find).2.1 12 = .ok (.iconst 1, 1) := by decide +kernel
theorem d_S_find_13 : decode (m_S_find).2.1 13 = .ok (.isub, 1) := by decide +kernel
theorem d_S_find_14 : decode (m_S_find).2.1 14 = .ok (.istore_n 3, 1) := by decide +kernel
theorem d_S_find_15 : decode (m_S_find).2.1 15 = .ok (.iconst 1, 1) := by decide +kernel
theorem d_S_find_16 : decode (m_S_find).2.1 16 = .ok (.aload_n 0, 1) := by decide +kernel
theorem d_S_find_17 : decode (m_S_find).2.1 17 = .ok (.getfield 18, 3) := by decide +kernel
theorem d_S_find_20 : decode (m_S_find).2.1 20 = .ok (.getfield 41, 3) := by decide +kernel
theorem d_S_find_23 : decode (m_S_find).2.1 23 = .ok (.iload_n 3, 1) := by decide +kernel
theorem d_S_find_24 : decode (m_S_find).2.1 24 = .ok (.imul, 1) := by decide +kernel
theorem d_S_find_25 : decode (m_S_find).2.1 25 = .ok (.ishl, 1) := by decide +kernel
theorem d_S_find_26 : decode (m_S_find).2.1 26 = .ok (.istore 4, 2) := by decide +kernel
theorem d_S_find_28 : decode (m_S_find).2.1 28 = .ok (.iconst 0, 1) := by decide +kernel
theorem d_S_find_29 : decode (m_S_find).2.1 29 = .ok (.istore 5, 2) := by decide +kernel
theorem d_S_find_31 : decode (m_S_find).2.1 31 = .ok (.iload 5, 2) := by decide +kernel
theorem d_S_find_33 : decode (m_S_find).2.1 33 = .ok (.iload 4, 2) := by decide +kernel
theorem d_S_find_35 : decode (m_S_find).2.1 35 = .ok (.if_icmp .ge 88, 3) := by decide +kernel
theorem d_S_find_38 : decode (m_S_find).2.1 38 = .ok (.aload_n 0, 1) := by decide +kernel
theorem d_S_find_39 : decode (m_S_find).2.1 39 = .ok (.iload 5, 2) := by decide +kernel
theorem d_S_find_41 : decode (m_S_find).2.1 41 = .ok (.iload_n 3, 1) := by decide +kernel
theorem d_S_find_42 : decode (m_S_find).2.1 42 = .ok (.invokevirtual 46, 3) := by decide +kernel
theorem d_S_find_45 : decode (m_S_find).2.1 45 = .ok (.aload_n 0, 1) := by decide +kernel
theorem d_S_find_46 : decode (m_S_find).2.1 46 = .ok (.iload_n 3, 1) := by decide +kernel
theorem d_S_find_47 : decode (m_S_find).2.1 47 = .ok (.invokevirtual 50, 3) := by decide +kernel
theorem d_S_find_50 : decode (m_S_find).2.1 50 = .ok (.iconst 0, 1) := by decide +kernel
theorem d_S_find_51 : decode (m_S_find).2.1 51 = .ok (.istore 6, 2) := by decide +kernel
theorem d_S_find_53 : decode (m_S_find).2.1 53 = .ok (.iload 6, 2) := by decide +kernel
theorem d_S_find_55 : decode (m_S_find).2.1 55 = .ok (.aload_n 0, 1) := by decide +kernel
theorem d_S_find_56 : decode (m_S_find).2.1 56 = .ok (.getfield 18, 3) := by decide +kernel
theorem d_S_find_59 : decode (m_S_find).2.1 59 = .ok (.getfield 54, 3) := by decide +kernel
theorem d_S_find_62 : decode (m_S_find).2.1 62 = .ok (.if_icmp .ge 55, 3) := by decide +kernel
theorem d_S_find_65 : decode (m_S_find).2.1 65 = .ok (.aload_n 0, 1) := by decide +kernel
theorem d_S_find_66 : decode (m_S_find).2.1 66 = .ok (.getfield 26, 3) := by decide +kernel
theorem d_S_find_69 : decode (m_S_find).2.1 69 = .ok (.getfield 57, 3) := by decide +kernel
theorem d_S_find_72 : decode (m_S_find).2.1 72 = .ok (.aload_n 0, 1) := by decide +kernel
theorem d_S_find_73 : decode (m_S_find).2.1 73 = .ok (.getfield 62, 3) := by decide +kernel
theorem d_S_find_76 : decode (m_S_find).2.1 76 = .ok (.isub, 1) := by decide +kernel
theorem d_S_find_77 : decode (m_S_find).2.1 77 = .ok (.aload_n 0, 1) := by decide +kernel
theorem d_S_find_78 : decode (m_S_find).2.1 78 = .ok (.getfield 15, 3) := by decide +kernel
theorem d_S_find_81 : decode (m_S_find).2.1 81 = .ok (.iload 6, 2) := by decide +kernel
theorem d_S_find_83 : decode (m_S_find).2.1 83 = .ok (.iaload, 1) := by decide +kernel
theorem d_S_find_84 : decode (m_S_find).2.1 84 = .ok (.isub, 1) := by decide +kernel
theorem d_S_find_85 : decode (m_S_find).2.1 85 = .ok (.istore 7, 2) := by decide +kernel
theorem d_S_find_87 : decode (m_S_find).2.1 87 = .ok (.iload 7, 2) := by decide +kernel
theorem d_S_find_89 : decode (m_S_find).2.1 89 = .ok (.iload_n 1, 1) := by decide +kernel
theorem d_S_find_90 : decode (m_S_find).2.1 90 = .ok (.if_icmp .gt 21, 3) := by decide +kernel
theorem d_S_find_93 : decode (m_S_find).2.1 93 = .ok (.aload_n 0, 1) := by decide +kernel
theorem d_S_find_94 : decode (m_S_find).2.1 94 = .ok (.getfield 9, 3) := by decide +kernel
theorem d_S_find_97 : decode (m_S_find).2.1 97 = .ok (.iload_n 3, 1) := by decide +kernel
theorem d_S_find_98 : decode (m_S_find).2.1 98 = .ok (.iload 6, 2) := by decide +kernel
theorem d_S_find_100 : decode (m_S_find).2.1 100 = .ok (.iastore, 1) := by decide +kernel
theorem d_S_find_101 : decode (m_S_find).2.1 101 = .ok (.aload_n 2, 1) := by decide +kernel
theorem d_S_find_102 : decode (m_S_find).2.1 102 = .ok (.aload_n 0, 1) := by decide +kernel
theorem d_S_find_103 : decode (m_S_find).2.1 103 = .ok (.getfield 9, 3) := by decide +kernel
theorem d_S_find_106 : decode (m_S_find).2.1 106 = .ok (.iload 7, 2) := by decide +kernel
theorem d_S_find_108 : decode (m_S_find).2.1 108 = .ok (.invokevirtual 65, 3) := by decide +kernel
theorem d_S_find_111 : decode (m_S_find).2.1 111 = .ok (.iinc 6 1, 3) := by decide +kernel
theorem d_S_find_114 : decode (m_S_find).2.1 114 = .ok (.goto (-61), 3) := by decide +kernel
theorem d_S_find_117 : decode (m_S_find).2.1 117 = .ok (.iinc 5 1, 3) := by decide +kernel
theorem d_S_find_120 : decode (m_S_find).2.1 120 = .ok (.goto (-89), 3) := by decide +kernel
theorem d_S_find_123 : decode (m_S_find).2.1 123 = .ok (.return_, 1) := by decide +kernel
