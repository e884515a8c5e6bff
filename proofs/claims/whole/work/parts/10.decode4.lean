theorem d_S_setStart_0 : decode (m_S_setStart).2.1 0 = .ok (.iload_n 1, 1) := by decide +kernel
theorem d_S_setStart_1 : decode (m_S_setStart).2.1 1 = .ok (.istore_n 3, 1) := by decide +kernel
theorem d_S_setStart_2 : decode (m_S_setStart).2.1 2 = .ok (.iload_n 2, 1) := by decide +kernel
theorem d_S_setStart_3 : decode (m_S_setStart).2.1 3 = .ok (.iconst 1, 1) := by decide +kernel
theorem d_S_setStart_4 : decode (m_S_setStart).2.1 4 = .ok (.isub, 1) := by decide +kernel
theorem d_S_setStart_5 : decode (m_S_setStart).2.1 5 = .ok (.istore 4, 2) := by decide +kernel
theorem d_S_setStart_7 : decode (m_S_setStart).2.1 7 = .ok (.iload 4, 2) := by decide +kernel
theorem d_S_setStart_9 : decode (m_S_setStart).2.1 9 = .ok (.ifCond .lt 37, 3) := by decide +kernel
theorem d_S_setStart_12 : decode (m_S_setStart).2.1 12 = .ok (.aload_n 0, 1) := by decide +kernel
theorem d_S_setStart_13 : decode (m_S_setStart).2.1 13 = .ok (.getfield 9, 3) := by decide +kernel
theorem d_S_setStart_16 : decode (m_S_setStart).2.1 16 = .ok (.iload 4, 2) := by decide +kernel
theorem d_S_setStart_18 : decode (m_S_setStart).2.1 18 = .ok (.iload_n 3, 1) := by decide +kernel
theorem d_S_setStart_19 : decode (m_S_setStart).2.1 19 = .ok (.aload_n 0, 1) := by decide +kernel
theorem d_S_setStart_20 : decode (m_S_setStart).2.1 20 = .ok (.getfield 18, 3) := by decide +kernel
theorem d_S_setStart_23 : decode (m_S_setStart).2.1 23 = .ok (.getfield 54, 3) := by decide +kernel
theorem d_S_setStart_26 : decode (m_S_setStart).2.1 26 = .ok (.iconst 1, 1) := by decide +kernel
theorem d_S_setStart_27 : decode (m_S_setStart).2.1 27 = .ok (.isub, 1) := by decide +kernel
theorem d_S_setStart_28 : decode (m_S_setStart).2.1 28 = .ok (.iand, 1) := by decide +kernel
theorem d_S_setStart_29 : decode (m_S_setStart).2.1 29 = .ok (.iastore, 1) := by decide +kernel
theorem d_S_setStart_30 : decode (m_S_setStart).2.1 30 = .ok (.iload_n 3, 1) := by decide +kernel
theorem d_S_setStart_31 : decode (m_S_setStart).2.1 31 = .ok (.aload_n 0, 1) := by decide +kernel
theorem d_S_setStart_32 : decode (m_S_setStart).2.1 32 = .ok (.getfield 18, 3) := by decide +kernel
theorem d_S_setStart_35 : decode (m_S_setStart).2.1 35 = .ok (.getfield 41, 3) := by decide +kernel
theorem d_S_setStart_38 : decode (m_S_setStart).2.1 38 = .ok (.ishr, 1) := by decide +kernel
theorem d_S_setStart_39 : decode (m_S_setStart).2.1 39 = .ok (.istore_n 3, 1) := by decide +kernel
theorem d_S_setStart_40 : decode (m_S_setStart).2.1 40 = .ok (.iinc 4 (-1), 3) := by decide +kernel
theorem d_S_setStart_43 : decode (m_S_setStart).2.1 43 = .ok (.goto (-36), 3) := by decide +kernel
theorem d_S_setStart_46 : decode (m_S_setStart).2.1 46 = .ok (.aload_n 0, 1) := by decide +kernel
theorem d_S_setStart_47 : decode (m_S_setStart).2.1 47 = .ok (.getfield 9, 3) := by decide +kernel
theorem d_S_setStart_50 : decode (m_S_setStart).2.1 50 = .ok (.iload_n 2, 1) := by decide +kernel
theorem d_S_setStart_51 : decode (m_S_setStart).2.1 51 = .ok (.iconst 0, 1) := by decide +kernel
theorem d_S_setStart_52 : decode (m_S_setStart).2.1 52 = .ok (.iastore, 1) := by decide +kernel
theorem d_S_setStart_53 : decode (m_S_setStart).2.1 53 = .ok (.return_, 1) := by decide +kernel
theorem d_S_countVotes_0 : decode (m_S_countVotes).2.1 0 = .ok (.iconst 0, 1) := by decide +kernel
theorem d_S_countVotes_1 : decode (m_S_countVotes).2.1 1 = .ok (.istore_n 2, 1) := by decide +kernel
theorem d_S_countVotes_2 : decode (m_S_countVotes).2.1 2 = .ok (.iload_n 2, 1) := by decide +kernel
theorem d_S_countVotes_3 : decode (m_S_countVotes).2.1 3 = .ok (.aload_n 0, 1) := by decide +kernel
theorem d_S_countVotes_4 : decode (m_S_countVotes).2.1 4 = .ok (.getfield 18, 3) := by decide +kernel
theorem d_S_countVotes_7 : decode (m_S_countVotes).2.1 7 = .ok (.getfield 54, 3) := by decide +kernel
theorem d_S_countVotes_10 : decode (m_S_countVotes).2.1 10 = .ok (.if_icmp .ge 16, 3) := by decide +kernel
theorem d_S_countVotes_13 : decode (m_S_countVotes).2.1 13 = .ok (.aload_n 0, 1) := by decide +kernel
theorem d_S_countVotes_14 : decode (m_S_countVotes).2.1 14 = .ok (.getfield 15, 3) := by decide +kernel
theorem d_S_countVotes_17 : decode (m_S_countVotes).2.1 17 = .ok (.iload_n 2, 1) := by decide +kernel
theorem d_S_countVotes_18 : decode (m_S_countVotes).2.1 18 = .ok (.iconst 0, 1) := by decide +kernel
theorem d_S_countVotes_19 : decode (m_S_countVotes).2.1 19 = .ok (.iastore, 1) := by decide +kernel
theorem d_S_countVotes_20 : decode (m_S_countVotes).2.1 20 = .ok (.iinc 2 1, 3) := by decide +kernel
theorem d_S_countVotes_23 : decode (m_S_countVotes).2.1 23 = .ok (.goto (-21), 3) := by decide +kernel
theorem d_S_countVotes_26 : decode (m_S_countVotes).2.1 26 = .ok (.aload_n 0, 1) := by decide +kernel
theorem d_S_countVotes_27 : decode (m_S_countVotes).2.1 27 = .ok (.iconst 0, 1) := by decide +kernel
theorem d_S_countVotes_28 : decode (m_S_countVotes).2.1 28 = .ok (.putfield 62, 3) := by decide +kernel
theorem d_S_countVotes_31 : decode (m_S_countVotes).2.1 31 = .ok (.iconst 0, 1) := by decide +kernel
theorem d_S_countVotes_32 : decode (m_S_countVotes).2.1 32 = .ok (.istore_n 2, 1) := by decide +kernel
theorem d_S_countVotes_33 : decode (m_S_countVotes).2.1 33 = .ok (.iload_n 2, 1) := by decide +kernel
theorem d_S_countVotes_34 : decode (m_S_countVotes).2.1 34 = .ok (.aload_n 0, 1) := by decide +kernel
theorem d_S_countVotes_35 : decode (m_S_countVotes).2.1 35 = .ok (.getfield 22, 3) := by decide +kernel
theorem d_S_countVotes_38 : decode (m_S_countVotes).2.1 38 = .ok (.getfield 69, 3) := by decide +kernel
theorem d_S_countVotes_41 : decode (m_S_countVotes).2.1 41 = .ok (.if_icmp .ge 105, 3) := by decide +kernel
theorem d_S_countVotes_44 : decode (m_S_countVotes).2.1 44 = .ok (.aload_n 0, 1) := by decide +kernel
theorem d_S_countVotes_45 : decode (m_S_countVotes).2.1 45 = .ok (.getfield 26, 3) := by decide +kernel
theorem d_S_countVotes_48 : decode (m_S_countVotes).2.1 48 = .ok (.getfield 72, 3) := by decide +kernel
theorem d_S_countVotes_51 : decode (m_S_countVotes).2.1 51 = .ok (.iload_n 2, 1) := by decide +kernel
theorem d_S_countVotes_52 : decode (m_S_countVotes).2.1 52 = .ok (.baload, 1) := by decide +kernel
theorem d_S_countVotes_53 : decode (m_S_countVotes).2.1 53 = .ok (.ifCond .ne 87, 3) := by decide +kernel
theorem d_S_countVotes_56 : decode (m_S_countVotes).2.1 56 = .ok (.aload_n 0, 1) := by decide +kernel
theorem d_S_countVotes_57 : decode (m_S_countVotes).2.1 57 = .ok (.getfield 26, 3) := by decide +kernel
theorem d_S_countVotes_60 : decode (m_S_countVotes).2.1 60 = .ok (.getfield 76, 3) := by decide +kernel
theorem d_S_countVotes_63 : decode (m_S_countVotes).2.1 63 = .ok (.iload_n 2, 1) := by decide +kernel
theorem d_S_countVotes_64 : decode (m_S_countVotes).2.1 64 = .ok (.iaload, 1) := by decide +kernel
theorem d_S_countVotes_65 : decode (m_S_countVotes).2.1 65 = .ok (.aload_n 0, 1) := by decide +kernel
theorem d_S_countVotes_66 : decode (m_S_countVotes).2.1 66 = .ok (.getfield 22, 3) := by decide +kernel
theorem d_S_countVotes_69 : decode (m_S_countVotes).2.1 69 = .ok (.aload_n 0, 1) := by decide +kernel
theorem d_S_countVotes_70 : decode (m_S_countVotes).2.1 70 = .ok (.getfield 22, 3) := by decide +kernel
theorem d_S_countVotes_73 : decode (m_S_countVotes).2.1 73 = .ok (.getfield 79, 3) := by decide +kernel
theorem d_S_countVotes_76 : decode (m_S_countVotes).2.1 76 = .ok (.aload_n 0, 1) := by decide +kernel
theorem d_S_countVotes_77 : decode (m_S_countVotes).2.1 77 = .ok (.getfield 9, 3) := by decide +kernel
theorem d_S_countVotes_80 : decode (m_S_countVotes).2.1 80 = .ok (.iload_n 2, 1) := by decide +kernel
theorem d_S_countVotes_81 : decode (m_S_countVotes).2.1 81 = .ok (.invokevirtual 83, 3) := by decide +kernel
theorem d_S_countVotes_84 : decode (m_S_countVotes).2.1 84 = .ok (.ixor, 1) := by decide +kernel
theorem d_S_countVotes_85 : decode (m_S_countVotes).2.1 85 = .ok (.istore_n 3, 1) := by decide +kernel
theorem d_S_countVotes_86 : decode (m_S_countVotes).2.1 86 = .ok (.aload_n 0, 1) := by decide +kernel
theorem d_S_countVotes_87 : decode (m_S_countVotes).2.1 87 = .ok (.getfield 22, 3) := by decide +kernel
theorem d_S_countVotes_90 : decode (m_S_countVotes).2.1 90 = .ok (.getfield 79, 3) := by decide +kernel
theorem d_S_countVotes_93 : decode (m_S_countVotes).2.1 93 = .ok (.iload_n 1, 1) := by decide +kernel
theorem d_S_countVotes_94 : decode (m_S_countVotes).2.1 94 = .ok (.aaload, 1) := by decide +kernel
theorem d_S_countVotes_95 : decode (m_S_countVotes).2.1 95 = .ok (.iload_n 2, 1) := by decide +kernel
theorem d_S_countVotes_96 : decode (m_S_countVotes).2.1 96 = .ok (.iaload, 1) := by decide +kernel
theorem d_S_countVotes_97 : decode (m_S_countVotes).2.1 97 = .ok (.istore 4, 2) := by decide +kernel
theorem d_S_countVotes_99 : decode (m_S_countVotes).2.1 99 = .ok (.iload 4, 2) := by decide +kernel
theorem d_S_countVotes_101 : decode (m_S_countVotes).2.1 101 = .ok (.ifCond .eq 25, 3) := by decide +kernel
theorem d_S_countVotes_104 : decode (m_S_countVotes).2.1 104 = .ok (.aload_n 0, 1) := by decide +kernel
theorem d_S_countVotes_105 : decode (m_S_countVotes).2.1 105 = .ok (.getfield 15, 3) := by decide +kernel
theorem d_S_countVotes_108 : decode (m_S_countVotes).2.1 108 = .ok (.aload_n 0, 1) := by decide +kernel
theorem d_S_countVotes_109 : decode (m_S_countVotes).2.1 109 = .ok (.getfield 18, 3) := by decide +kernel
theorem d_S_countVotes_112 : decode (m_S_countVotes).2.1 112 = .ok (.iload_n 3, 1) := by decide +kernel
theorem d_S_countVotes_113 : decode (m_S_countVotes).2.1 113 = .ok (.iload 4, 2) := by decide +kernel
theorem d_S_countVotes_115 : decode (m_S_countVotes).2.1 115 = .ok (.invokevirtual 87, 3) := by decide +kernel
theorem d_S_countVotes_118 : decode (m_S_countVotes).2.1 118 = .ok (.dup2, 1) := by decide +kernel
theorem d_S_countVotes_119 : decode (m_S_countVotes).2.1 119 = .ok (.iaload, 1) := by decide +kernel
theorem d_S_countVotes_120 : decode (m_S_countVotes).2.1 120 = .ok (.iconst 1, 1) := by decide +kernel
theorem d_S_countVotes_121 : decode (m_S_countVotes).2.1 121 = .ok (.iadd, 1) := by decide +kernel
theorem d_S_countVotes_122 : decode (m_S_countVotes).2.1 122 = .ok (.iastore, 1) := by decide +kernel
theorem d_S_countVotes_123 : decode (m_S_countVotes).2.1 123 = .ok (.goto 17, 3) := by decide +kernel
theorem d_S_countVotes_126 : decode (m_S_countVotes).2.1 126 = .ok (.iload_n 3, 1) := by decide +kernel
theorem d_S_countVotes_127 : decode (m_S_countVotes).2.1 127 = .ok (.ifCond .ne 13, 3) := by decide +kernel
theorem d_S_countVotes_130 : decode (m_S_countVotes).2.1 130 = .ok (.aload_n 0, 1) := by decide +kernel
theorem d_S_countVotes_131 : decode (m_S_countVotes).2.1 131 = .ok (.dup, 1) := by decide +kernel
theorem d_S_countVotes_132 : decode (m_S_countVotes).2.1 132 = .ok (.getfield 62, 3) := by decide +kernel
theorem d_S_countVotes_135 : decode (m_S_countVotes).2.1 135 = .ok (.iconst 1, 1) := by decide +kernel
theorem d_S_countVotes_136 : decode (m_S_countVotes).2.1 136 = .ok (.iadd, 1) := by decide +kernel
theorem d_S_countVotes_137 : decode (m_S_countVotes).2.1 137 = .ok (.putfield 62, 3) := by decide +kernel
theorem d_S_countVotes_140 : decode (m_S_countVotes).2.1 140 = .ok (.iinc 2 1, 3) := by decide +kernel
theorem d_S_countVotes_143 : decode (m_S_countVotes).2.1 143 = .ok (.goto (-110), 3) := by decide +kernel
theorem d_S_countVotes_146 : decode (m_S_countVotes).2.1 146 = .ok (.return_, 1) := by decide +kernel
theorem d_W_init_0 : decode (m_W_init).2.1 0 = .ok (.aload_n 0, 1) := by decide +kernel
theorem d_W_init_1 : decode (m_W_init).2.1 1 = .ok (.invokespecial 3, 3) := by decide +kernel
theorem d_W_init_4 : decode (m_W_init).2.1 4 = .ok (.aload_n 0, 1) := by decide +kernel
theorem d_W_init_5 : decode (m_W_init).2.1 5 = .ok (.bipush 20, 2) := by decide +kernel
theorem d_W_init_7 : decode (m_W_init).2.1 7 = .ok (.newarray .int, 2) := by decide +kernel
theorem d_W_init_9 : decode (m_W_init).2.1 9 = .ok (.putfield 9, 3) := by decide +kernel
theorem d_W_init_12 : decode (m_W_init).2.1 12 = .ok (.aload_n 0, 1) := by decide +kernel
theorem d_W_init_13 : decode (m_W_init).2.1 13 = .ok (.bipush 20, 2) := by decide +kernel
theorem d_W_init_15 : decode (m_W_init).2.1 15 = .ok (.newarray .boolean, 2) := by decide +kernel
theorem d_W_init_17 : decode (m_W_init).2.1 17 = .ok (.putfield 15, 3) := by decide +kernel
theorem d_W_init_20 : decode (m_W_init).2.1 20 = .ok (.return_, 1) := by decide +kernel
theorem d_W_begin_0 : decode (m_W_begin).2.1 0 = .ok (.iconst 0, 1) := by decide +kernel
theorem d_W_begin_1 : decode (m_W_begin).2.1 1 = .ok (.istore_n 2, 1) := by decide +kernel
theorem d_W_begin_2 : decode (m_W_begin).2.1 2 = .ok (.iload_n 2, 1) := by decide +kernel
theorem d_W_begin_3 : decode (m_W_begin).2.1 3 = .ok (.bipush 20, 2) := by decide +kernel
theorem d_W_begin_5 : decode (m_W_begin).2.1 5 = .ok (.if_icmp .ge 23, 3) := by decide +kernel
theorem d_W_begin_8 : decode (m_W_begin).2.1 8 = .ok (.aload_n 0, 1) := by decide +kernel
theorem d_W_begin_9 : decode (m_W_begin).2.1 9 = .ok (.getfield 9, 3) := by decide +kernel
theorem d_W_begin_12 : decode (m_W_begin).2.1 12 = .ok (.iload_n 2, 1) := by decide +kernel
theorem d_W_begin_13 : decode (m_W_begin).2.1 13 = .ok (.iconst 0, 1) := by decide +kernel
theorem d_W_begin_14 : decode (m_W_begin).2.1 14 = .ok (.iastore, 1) := by decide +kernel
theorem d_W_begin_15 : decode (m_W_begin).2.1 15 = .ok (.aload_n 0, 1) := by decide +kernel
theorem d_W_begin_16 : decode (m_W_begin).2.1 16 = .ok (.getfield 15, 3) := by decide +kernel
theorem d_W_begin_19 : decode (m_W_begin).2.1 19 = .ok (.iload_n 2, 1) := by decide +kernel
theorem d_W_begin_20 : decode (m_W_begin).2.1 20 = .ok (.iconst 0, 1) := by decide +kernel
theorem d_W_begin_21 : decode (m_W_begin).2.1 21 = .ok (.bastore, 1) := by decide +kernel
theorem d_W_begin_22 : decode (m_W_begin).2.1 22 = .ok (.iinc 2 1, 3) := by decide +kernel
theorem d_W_begin_25 : decode (m_W_begin).2.1 25 = .ok (.goto (-23), 3) := by decide +kernel
theorem d_W_begin_28 : decode (m_W_begin).2.1 28 = .ok (.aload_n 0, 1) := by decide +kernel
theorem d_W_begin_29 : decode (m_W_begin).2.1 29 = .ok (.iload_n 1, 1) := by decide +kernel
theorem d_W_begin_30 : decode (m_W_begin).2.1 30 = .ok (.putfield 19, 3) := by decide +kernel
theorem d_W_begin_33 : decode (m_W_begin).2.1 33 = .ok (.return_, 1) := by decide +kernel
theorem d_W_put_0 : decode (m_W_put).2.1 0 = .ok (.aload_n 0, 1) := by decide +kernel
theorem d_W_put_1 : decode (m_W_put).2.1 1 = .ok (.getfield 15, 3) := by decide +kernel
theorem d_W_put_4 : decode (m_W_put).2.1 4 = .ok (.iload_n 1, 1) := by decide +kernel
theorem d_W_put_5 : decode (m_W_put).2.1 5 = .ok (.baload, 1) := by decide +kernel
theorem d_W_put_6 : decode (m_W_put).2.1 6 = .ok (.ifCond .eq 20, 3) := by decide +kernel
theorem d_W_put_9 : decode (m_W_put).2.1 9 = .ok (.aload_n 0, 1) := by decide +kernel
theorem d_W_put_10 : decode (m_W_put).2.1 10 = .ok (.getfield 15, 3) := by decide +kernel
theorem d_W_put_13 : decode (m_W_put).2.1 13 = .ok (.iload_n 1, 1) := by decide +kernel
theorem d_W_put_14 : decode (m_W_put).2.1 14 = .ok (.iconst 0, 1) := by decide +kernel
theorem d_W_put_15 : decode (m_W_put).2.1 15 = .ok (.bastore, 1) := by decide +kernel
theorem d_W_put_16 : decode (m_W_put).2.1 16 = .ok (.aload_n 0, 1) := by decide +kernel
theorem d_W_put_17 : decode (m_W_put).2.1 17 = .ok (.dup, 1) := by decide +kernel
theorem d_W_put_18 : decode (m_W_put).2.1 18 = .ok (.getfield 19, 3) := by decide +kernel
theorem d_W_put_21 : decode (m_W_put).2.1 21 = .ok (.iconst 1, 1) := by decide +kernel
theorem d_W_put_22 : decode (m_W_put).2.1 22 = .ok (.iadd, 1) := by decide +kernel
theorem d_W_put_23 : decode (m_W_put).2.1 23 = .ok (.putfield 19, 3) := by decide +kernel
theorem d_W_put_26 : decode (m_W_put).2.1 26 = .ok (.aload_n 0, 1) := by decide +kernel
theorem d_W_put_27 : decode (m_W_put).2.1 27 = .ok (.getfield 9, 3) := by decide +kernel
theorem d_W_put_30 : decode (m_W_put).2.1 30 = .ok (.iload_n 1, 1) := by decide +kernel
theorem d_W_put_31 : decode (m_W_put).2.1 31 = .ok (.iload_n 2, 1) := by decide +kernel
theorem d_W_put_32 : decode (m_W_put).2.1 32 = .ok (.iastore, 1) := by decide +kernel
theorem d_W_put_33 : decode (m_W_put).2.1 33 = .ok (.return_, 1) := by decide +kernel
theorem d_W_strike_0 : decode (m_W_strike).2.1 0 = .ok (.aload_n 0, 1) := by decide +kernel
theorem d_W_strike_1 : decode (m_W_strike).2.1 1 = .ok (.getfield 15, 3) := by decide +kernel
theorem d_W_strike_4 : decode (m_W_strike).2.1 4 = .ok (.iload_n 1, 1) := by decide +kernel
theorem d_W_strike_5 : decode (m_W_strike).2.1 5 = .ok (.iconst 1, 1) := by decide +kernel
theorem d_W_strike_6 : decode (m_W_strike).2.1 6 = .ok (.bastore, 1) := by decide +kernel
theorem d_W_strike_7 : decode (m_W_strike).2.1 7 = .ok (.aload_n 0, 1) := by decide +kernel
theorem d_W_strike_8 : decode (m_W_strike).2.1 8 = .ok (.dup, 1) := by decide +kernel
theorem d_W_strike_9 : decode (m_W_strike).2.1 9 = .ok (.getfield 19, 3) := by decide +kernel
theorem d_W_strike_12 : decode (m_W_strike).2.1 12 = .ok (.iconst 1, 1) := by decide +kernel
theorem d_W_strike_13 : decode (m_W_strike).2.1 13 = .ok (.isub, 1) := by decide +kernel
theorem d_W_strike_14 : decode (m_W_strike).2.1 14 = .ok (.putfield 19, 3) := by decide +kernel
theorem d_W_strike_17 : decode (m_W_strike).2.1 17 = .ok (.return_, 1) := by decide +kernel
theorem d_L_law_0 : decode (m_L_law).2.1 0 = .ok (.new 7, 3) := by decide +kernel
theorem d_L_law_3 : decode (m_L_law).2.1 3 = .ok (.dup, 1) := by decide +kernel
theorem d_L_law_4 : decode (m_L_law).2.1 4 = .ok (.invokespecial 9, 3) := by decide +kernel
theorem d_L_law_7 : decode (m_L_law).2.1 7 = .ok (.astore_n 1, 1) := by decide +kernel
theorem d_L_law_8 : decode (m_L_law).2.1 8 = .ok (.new 10, 3) := by decide +kernel
theorem d_L_law_11 : decode (m_L_law).2.1 11 = .ok (.dup, 1) := by decide +kernel
theorem d_L_law_12 : decode (m_L_law).2.1 12 = .ok (.invokespecial 12, 3) := by decide +kernel
theorem d_L_law_15 : decode (m_L_law).2.1 15 = .ok (.astore_n 2, 1) := by decide +kernel
theorem d_L_law_16 : decode (m_L_law).2.1 16 = .ok (.iconst 0, 1) := by decide +kernel
theorem d_L_law_17 : decode (m_L_law).2.1 17 = .ok (.istore_n 3, 1) := by decide +kernel
theorem d_L_law_18 : decode (m_L_law).2.1 18 = .ok (.iload_n 3, 1) := by decide +kernel
theorem d_L_law_19 : decode (m_L_law).2.1 19 = .ok (.aload_n 0, 1) := by decide +kernel
theorem d_L_law_20 : decode (m_L_law).2.1 20 = .ok (.arraylength, 1) := by decide +kernel
theorem d_L_law_21 : decode (m_L_law).2.1 21 = .ok (.iconst 4, 1) := by decide +kernel
theorem d_L_law_22 : decode (m_L_law).2.1 22 = .ok (.isub, 1) := by decide +kernel
theorem d_L_law_23 : decode (m_L_law).2.1 23 = .ok (.if_icmp .gt 673, 3) := by decide +kernel
theorem d_L_law_26 : decode (m_L_law).2.1 26 = .ok (.aload_n 0, 1) := by decide +kernel
theorem d_L_law_27 : decode (m_L_law).2.1 27 = .ok (.iload_n 3, 1) := by decide +kernel
theorem d_L_law_28 : decode (m_L_law).2.1 28 = .ok (.iaload, 1) := by decide +kernel
theorem d_L_law_29 : decode (m_L_law).2.1 29 = .ok (.bipush 31, 2) := by decide +kernel
theorem d_L_law_31 : decode (m_L_law).2.1 31 = .ok (.iand, 1) := by decide +kernel
theorem d_L_law_32 : decode (m_L_law).2.1 32 = .ok (.tableswitch 658 0 19 #[96, 119, 152, 185, 208, 251, 284, 323, 356, 379, 402, 425, 464, 487, 510, 533, 556, 589, 612, 635], 96) := by decide +kernel
theorem d_L_law_128 : decode (m_L_law).2.1 128 = .ok (.aload_n 1, 1) := by decide +kernel
theorem d_L_law_129 : decode (m_L_law).2.1 129 = .ok (.aload_n 0, 1) := by decide +kernel
theorem d_L_law_130 : decode (m_L_law).2.1 130 = .ok (.iload_n 3, 1) := by decide +kernel
theorem d_L_law_131 : decode (m_L_law).2.1 131 = .ok (.iconst 1, 1) := by decide +kernel
theorem d_L_law_132 : decode (m_L_law).2.1 132 = .ok (.iadd, 1) := by decide +kernel
theorem d_L_law_133 : decode (m_L_law).2.1 133 = .ok (.iaload, 1) := by decide +kernel
theorem d_L_law_134 : decode (m_L_law).2.1 134 = .ok (.invokevirtual 13, 3) := by decide +kernel
theorem d_L_law_137 : decode (m_L_law).2.1 137 = .ok (.aload_n 2, 1) := by decide +kernel
theorem d_L_law_138 : decode (m_L_law).2.1 138 = .ok (.aload_n 0, 1) := by decide +kernel
theorem d_L_law_139 : decode (m_L_law).2.1 139 = .ok (.iload_n 3, 1) := by decide +kernel
theorem d_L_law_140 : decode (m_L_law).2.1 140 = .ok (.iconst 1, 1) := by decide +kernel
theorem d_L_law_141 : decode (m_L_law).2.1 141 = .ok (.iadd, 1) := by decide +kernel
theorem d_L_law_142 : decode (m_L_law).2.1 142 = .ok (.iaload, 1) := by decide +kernel
theorem d_L_law_143 : decode (m_L_law).2.1 143 = .ok (.invokevirtual 17, 3) := by decide +kernel
theorem d_L_law_146 : decode (m_L_law).2.1 146 = .ok (.if_icmp .eq 544, 3) := by decide +kernel
theorem d_L_law_149 : decode (m_L_law).2.1 149 = .ok (.iconst 0, 1) := by decide +kernel
theorem d_L_law_150 : decode (m_L_law).2.1 150 = .ok (.ireturn, 1) := by decide +kernel
theorem d_L_law_151 : decode (m_L_law).2.1 151 = .ok (.aload_n 1, 1) := by decide +kernel
theorem d_L_law_152 : decode (m_L_law).2.1 152 = .ok (.aload_n 0, 1) := by decide +kernel
theorem d_L_law_153 : decode (m_L_law).2.1 153 = .ok (.iload_n 3, 1) := by decide +kernel
theorem d_L_law_154 : decode (m_L_law).2.1 154 = .ok (.iconst 1, 1) := by decide +kernel
theorem d_L_law_155 : decode (m_L_law).2.1 155 = .ok (.iadd, 1) := by decide +kernel
theorem d_L_law_156 : decode (m_L_law).2.1 156 = .ok (.iaload, 1) := by decide +kernel
theorem d_L_law_157 : decode (m_L_law).2.1 157 = .ok (.aload_n 0, 1) := by decide +kernel
theorem d_L_law_158 : decode (m_L_law).2.1 158 = .ok (.iload_n 3, 1) := by decide +kernel
theorem d_L_law_159 : decode (m_L_law).2.1 159 = .ok (.iconst 2, 1) := by decide +kernel
theorem d_L_law_160 : decode (m_L_law).2.1 160 = .ok (.iadd, 1) := by decide +kernel
theorem d_L_law_161 : decode (m_L_law).2.1 161 = .ok (.iaload, 1) := by decide +kernel
theorem d_L_law_162 : decode (m_L_law).2.1 162 = .ok (.invokevirtual 18, 3) := by decide +kernel
theorem d_L_law_165 : decode (m_L_law).2.1 165 = .ok (.aload_n 2, 1) := by decide +kernel
theorem d_L_law_166 : decode (m_L_law).2.1 166 = .ok (.aload_n 0, 1) := by decide +kernel
theorem d_L_law_167 : decode (m_L_law).2.1 167 = .ok (.iload_n 3, 1) := by decide +kernel
theorem d_L_law_168 : decode (m_L_law).2.1 168 = .ok (.iconst 1, 1) := by decide +kernel
theorem d_L_law_169 : decode (m_L_law).2.1 169 = .ok (.iadd, 1) := by decide +kernel
theorem d_L_law_170 : decode (m_L_law).2.1 170 = .ok (.iaload, 1) := by decide +kernel
theorem d_L_law_171 : decode (m_L_law).2.1 171 = .ok (.aload_n 0, 1) := by decide +kernel
theorem d_L_law_172 : decode (m_L_law).2.1 172 = .ok (.iload_n 3, 1) := by decide +kernel
theorem d_L_law_173 : decode (m_L_law).2.1 173 = .ok (.iconst 2, 1) := by decide +kernel
theorem d_L_law_174 : decode (m_L_law).2.1 174 = .ok (.iadd, 1) := by decide +kernel
theorem d_L_law_175 : decode (m_L_law).2.1 175 = .ok (.iaload, 1) := by decide +kernel
theorem d_L_law_176 : decode (m_L_law).2.1 176 = .ok (.invokevirtual 22, 3) := by decide +kernel
theorem d_L_law_179 : decode (m_L_law).2.1 179 = .ok (.if_icmp .eq 511, 3) := by decide +kernel
theorem d_L_law_182 : decode (m_L_law).2.1 182 = .ok (.iconst 0, 1) := by decide +kernel
theorem d_L_law_183 : decode (m_L_law).2.1 183 = .ok (.ireturn, 1) := by decide +kernel
theorem d_L_law_184 : decode (m_L_law).2.1 184 = .ok (.aload_n 1, 1) := by decide +kernel
theorem d_L_law_185 : decode (m_L_law).2.1 185 = .ok (.aload_n 0, 1) := by decide +kernel
theorem d_L_law_186 : decode (m_L_law).2.1 186 = .ok (.iload_n 3, 1) := by decide +kernel
theorem d_L_law_187 : decode (m_L_law).2.1 187 = .ok (.iconst 1, 1) := by decide +kernel
theorem d_L_law_188 : decode (m_L_law).2.1 188 = .ok (.iadd, 1) := by decide +kernel
theorem d_L_law_189 : decode (m_L_law).2.1 189 = .ok (.iaload, 1) := by decide +kernel
theorem d_L_law_190 : decode (m_L_law).2.1 190 = .ok (.aload_n 0, 1) := by decide +kernel
theorem d_L_law_191 : decode (m_L_law).2.1 191 = .ok (.iload_n 3, 1) := by decide +kernel
theorem d_L_law_192 : decode (m_L_law).2.1 192 = .ok (.iconst 2, 1) := by decide +kernel
theorem d_L_law_193 : decode (m_L_law).2.1 193 = .ok (.iadd, 1) := by decide +kernel
theorem d_L_law_194 : decode (m_L_law).2.1 194 = .ok (.iaload, 1) := by decide +kernel
theorem d_L_law_195 : decode (m_L_law).2.1 195 = .ok (.invokevirtual 23, 3) := by decide +kernel
theorem d_L_law_198 : decode (m_L_law).2.1 198 = .ok (.aload_n 2, 1) := by decide +kernel
theorem d_L_law_199 : decode (m_L_law).2.1 199 = .ok (.aload_n 0, 1) := by decide +kernel
theorem d_L_law_200 : decode (m_L_law).2.1 200 = .ok (.iload_n 3, 1) := by decide +kernel
theorem d_L_law_201 : decode (m_L_law).2.1 201 = .ok (.iconst 1, 1) := by decide +kernel
theorem d_L_law_202 : decode (m_L_law).2.1 202 = .ok (.iadd, 1) := by decide +kernel
theorem d_L_law_203 : decode (m_L_law).2.1 203 = .ok (.iaload, 1) := by decide +kernel
theorem d_L_law_204 : decode (m_L_law).2.1 204 = .ok (.aload_n 0, 1) := by decide +kernel
theorem d_L_law_205 : decode (m_L_law).2.1 205 = .ok (.iload_n 3, 1) := by decide +kernel
theorem d_L_law_206 : decode (m_L_law).2.1 206 = .ok (.iconst 2, 1) := by decide +kernel
theorem d_L_law_207 : decode (m_L_law).2.1 207 = .ok (.iadd, 1) := by decide +kernel
theorem d_L_law_208 : decode (m_L_law).2.1 208 = .ok (.iaload, 1) := by decide +kernel
theorem d_L_law_209 : decode (m_L_law).2.1 209 = .ok (.invokevirtual 26, 3) := by decide +kernel
theorem d_L_law_212 : decode (m_L_law).2.1 212 = .ok (.if_icmp .eq 478, 3) := by decide +kernel
theorem d_L_law_215 : decode (m_L_law).2.1 215 = .ok (.iconst 0, 1) := by decide +kernel
theorem d_L_law_216 : decode (m_L_law).2.1 216 = .ok (.ireturn, 1) := by decide +kernel
theorem d_L_law_217 : decode (m_L_law).2.1 217 = .ok (.aload_n 1, 1) := by decide +kernel
theorem d_L_law_218 : decode (m_L_law).2.1 218 = .ok (.aload_n 0, 1) := by decide +kernel
theorem d_L_law_219 : decode (m_L_law).2.1 219 = .ok (.iload_n 3, 1) := by decide +kernel
theorem d_L_law_220 : decode (m_L_law).2.1 220 = .ok (.iconst 1, 1) := by decide +kernel
theorem d_L_law_221 : decode (m_L_law).2.1 221 = .ok (.iadd, 1) := by decide +kernel
theorem d_L_law_222 : decode (m_L_law).2.1 222 = .ok (.iaload, 1) := by decide +kernel
theorem d_L_law_223 : decode (m_L_law).2.1 223 = .ok (.invokevirtual 27, 3) := by decide +kernel
theorem d_L_law_226 : decode (m_L_law).2.1 226 = .ok (.aload_n 2, 1) := by decide +kernel
theorem d_L_law_227 : decode (m_L_law).2.1 227 = .ok (.aload_n 0, 1) := by decide +kernel
theorem d_L_law_228 : decode (m_L_law).2.1 228 = .ok (.iload_n 3, 1) := by decide +kernel
theorem d_L_law_229 : decode (m_L_law).2.1 229 = .ok (.iconst 1, 1) := by decide +kernel
theorem d_L_law_230 : decode (m_L_law).2.1 230 = .ok (.iadd, 1) := by decide +kernel
theorem d_L_law_231 : decode (m_L_law).2.1 231 = .ok (.iaload, 1) := by decide +kernel
theorem d_L_law_232 : decode (m_L_law).2.1 232 = .ok (.invokevirtual 30, 3) := by decide +kernel
theorem d_L_law_235 : decode (m_L_law).2.1 235 = .ok (.if_icmp .eq 455, 3) := by decide +kernel
theorem d_L_law_238 : decode (m_L_law).2.1 238 = .ok (.iconst 0, 1) := by decide +kernel
theorem d_L_law_239 : decode (m_L_law).2.1 239 = .ok (.ireturn, 1) := by decide +kernel
theorem d_L_law_240 : decode (m_L_law).2.1 240 = .ok (.aload_n 1, 1) := by decide +kernel
theorem d_L_law_241 : decode (m_L_law).2.1 241 = .ok (.aload_n 0, 1) := by decide +kernel
theorem d_L_law_242 : decode (m_L_law).2.1 242 = .ok (.iload_n 3, 1) := by decide +kernel
theorem d_L_law_243 : decode (m_L_law).2.1 243 = .ok (.iconst 1, 1) := by decide +kernel
theorem d_L_law_244 : decode (m_L_law).2.1 244 = .ok (.iadd, 1) := by decide +kernel
theorem d_L_law_245 : decode (m_L_law).2.1 245 = .ok (.iaload, 1) := by decide +kernel
theorem d_L_law_246 : decode (m_L_law).2.1 246 = .ok (.aload_n 0, 1) := by decide +kernel
theorem d_L_law_247 : decode (m_L_law).2.1 247 = .ok (.iload_n 3, 1) := by decide +kernel
theorem d_L_law_248 : decode (m_L_law).2.1 248 = .ok (.iconst 2, 1) := by decide +kernel
theorem d_L_law_249 : decode (m_L_law).2.1 249 = .ok (.iadd, 1) := by decide +kernel
theorem d_L_law_250 : decode (m_L_law).2.1 250 = .ok (.iaload, 1) := by decide +kernel
theorem d_L_law_251 : decode (m_L_law).2.1 251 = .ok (.aload_n 0, 1) := by decide +kernel
theorem d_L_law_252 : decode (m_L_law).2.1 252 = .ok (.iload_n 3, 1) := by decide +kernel
theorem d_L_law_253 : decode (m_L_law).2.1 253 = .ok (.iconst 3, 1) := by decide +kernel
theorem d_L_law_254 : decode (m_L_law).2.1 254 = .ok (.iadd, 1) := by decide +kernel
theorem d_L_law_255 : decode (m_L_law).2.1 255 = .ok (.iaload, 1) := by decide +kernel
theorem d_L_law_256 : decode (m_L_law).2.1 256 = .ok (.invokevirtual 31, 3) := by decide +kernel
theorem d_L_law_259 : decode (m_L_law).2.1 259 = .ok (.aload_n 2, 1) := by decide +kernel
theorem d_L_law_260 : decode (m_L_law).2.1 260 = .ok (.aload_n 0, 1) := by decide +kernel
theorem d_L_law_261 : decode (m_L_law).2.1 261 = .ok (.iload_n 3, 1) := by decide +kernel
theorem d_L_law_262 : decode (m_L_law).2.1 262 = .ok (.iconst 1, 1) := by decide +kernel
theorem d_L_law_263 : decode (m_L_law).2.1 263 = .ok (.iadd, 1) := by decide +kernel
theorem d_L_law_264 : decode (m_L_law).2.1 264 = .ok (.iaload, 1) := by decide +kernel
theorem d_L_law_265 : decode (m_L_law).2.1 265 = .ok (.aload_n 0, 1) := by decide +kernel
theorem d_L_law_266 : decode (m_L_law).2.1 266 = .ok (.iload_n 3, 1) := by decide +kernel
theorem d_L_law_267 : decode (m_L_law).2.1 267 = .ok (.iconst 2, 1) := by decide +kernel
theorem d_L_law_268 : decode (m_L_law).2.1 268 = .ok (.iadd, 1) := by decide +kernel
theorem d_L_law_269 : decode (m_L_law).2.1 269 = .ok (.iaload, 1) := by decide +kernel
theorem d_L_law_270 : decode (m_L_law).2.1 270 = .ok (.aload_n 0, 1) := by decide +kernel
theorem d_L_law_271 : decode (m_L_law).2.1 271 = .ok (.iload_n 3, 1) := by decide +kernel
theorem d_L_law_272 : decode (m_L_law).2.1 272 = .ok (.iconst 3, 1) := by decide +kernel
theorem d_L_law_273 : decode (m_L_law).2.1 273 = .ok (.iadd, 1) := by decide +kernel
theorem d_L_law_274 : decode (m_L_law).2.1 274 = .ok (.iaload, 1) := by decide +kernel
theorem d_L_law_275 : decode (m_L_law).2.1 275 = .ok (.invokevirtual 35, 3) := by decide +kernel
theorem d_L_law_278 : decode (m_L_law).2.1 278 = .ok (.if_icmp .eq 412, 3) := by decide +kernel
theorem d_L_law_281 : decode (m_L_law).2.1 281 = .ok (.iconst 0, 1) := by decide +kernel
theorem d_L_law_282 : decode (m_L_law).2.1 282 = .ok (.ireturn, 1) := by decide +kernel
theorem d_L_law_283 : decode (m_L_law).2.1 283 = .ok (.aload_n 1, 1) := by decide +kernel
theorem d_L_law_284 : decode (m_L_law).2.1 284 = .ok (.aload_n 0, 1) := by decide +kernel
theorem d_L_law_285 : decode (m_L_law).2.1 285 = .ok (.iload_n 3, 1) := by decide +kernel
theorem d_L_law_286 : decode (m_L_law).2.1 286 = .ok (.iconst 1, 1) := by decide +kernel
theorem d_L_law_287 : decode (m_L_law).2.1 287 = .ok (.iadd, 1) := by decide +kernel
theorem d_L_law_288 : decode (m_L_law).2.1 288 = .ok (.iaload, 1) := by decide +kernel
theorem d_L_law_289 : decode (m_L_law).2.1 289 = .ok (.aload_n 0, 1) := by decide +kernel
theorem d_L_law_290 : decode (m_L_law).2.1 290 = .ok (.iload_n 3, 1) := by decide +kernel
theorem d_L_law_291 : decode (m_L_law).2.1 291 = .ok (.iconst 2, 1) := by decide +kernel
theorem d_L_law_292 : decode (m_L_law).2.1 292 = .ok (.iadd, 1) := by decide +kernel
theorem d_L_law_293 : decode (m_L_law).2.1 293 = .ok (.iaload, 1) := by decide +kernel
theorem d_L_law_294 : decode (m_L_law).2.1 294 = .ok (.invokevirtual 36, 3) := by decide +kernel
theorem d_L_law_297 : decode (m_L_law).2.1 297 = .ok (.aload_n 2, 1) := by decide +kernel
theorem d_L_law_298 : decode (m_L_law).2.1 298 = .ok (.aload_n 0, 1) := by decide +kernel
theorem d_L_law_299 : decode (m_L_law).2.1 299 = .ok (.iload_n 3, 1) := by decide +kernel
theorem d_L_law_300 : decode (m_L_law).2.1 300 = .ok (.iconst 1, 1) := by decide +kernel
theorem d_L_law_301 : decode (m_L_law).2.1 301 = .ok (.iadd, 1) := by decide +kernel
theorem d_L_law_302 : decode (m_L_law).2.1 302 = .ok (.iaload, 1) := by decide +kernel
theorem d_L_law_303 : decode (m_L_law).2.1 303 = .ok (.aload_n 0, 1) := by decide +kernel
theorem d_L_law_304 : decode (m_L_law).2.1 304 = .ok (.iload_n 3, 1) := by decide +kernel
theorem d_L_law_305 : decode (m_L_law).2.1 305 = .ok (.iconst 2, 1) := by decide +kernel
theorem d_L_law_306 : decode (m_L_law).2.1 306 = .ok (.iadd, 1) := by decide +kernel
theorem d_L_law_307 : decode (m_L_law).2.1 307 = .ok (.iaload, 1) := by decide +kernel
theorem d_L_law_308 : decode (m_L_law).2.1 308 = .ok (.invokevirtual 40, 3) := by decide +kernel
theorem d_L_law_311 : decode (m_L_law).2.1 311 = .ok (.if_icmp .eq 379, 3) := by decide +kernel
theorem d_L_law_314 : decode (m_L_law).2.1 314 = .ok (.iconst 0, 1) := by decide +kernel
theorem d_L_law_315 : decode (m_L_law).2.1 315 = .ok (.ireturn, 1) := by decide +kernel
theorem d_L_law_316 : decode (m_L_law).2.1 316 = .ok (.aload_n 1, 1) := by decide +kernel
theorem d_L_law_317 : decode (m_L_law).2.1 317 = .ok (.aload_n 0, 1) := by decide +kernel
theorem d_L_law_318 : decode (m_L_law).2.1 318 = .ok (.iload_n 3, 1) := by decide +kernel
theorem d_L_law_319 : decode (m_L_law).2.1 319 = .ok (.iconst 1, 1) := by decide +kernel
theorem d_L_law_320 : decode (m_L_law).2.1 320 = .ok (.iadd, 1) := by decide +kernel
theorem d_L_law_321 : decode (m_L_law).2.1 321 = .ok (.iaload, 1) := by decide +kernel
theorem d_L_law_322 : decode (m_L_law).2.1 322 = .ok (.ifCond .eq 7, 3) := by decide +kernel
theorem d_L_law_325 : decode (m_L_law).2.1 325 = .ok (.iconst 1, 1) := by decide +kernel
theorem d_L_law_326 : decode (m_L_law).2.1 326 = .ok (.goto 4, 3) := by decide +kernel
theorem d_L_law_329 : decode (m_L_law).2.1 329 = .ok (.iconst 0, 1) := by decide +kernel
theorem d_L_law_330 : decode (m_L_law).2.1 330 = .ok (.invokevirtual 41, 3) := by decide +kernel
theorem d_L_law_333 : decode (m_L_law).2.1 333 = .ok (.aload_n 2, 1) := by decide +kernel
theorem d_L_law_334 : decode (m_L_law).2.1 334 = .ok (.aload_n 0, 1) := by decide +kernel
theorem d_L_law_335 : decode (m_L_law).2.1 335 = .ok (.iload_n 3, 1) := by decide +kernel
theorem d_L_law_336 : decode (m_L_law).2.1 336 = .ok (.iconst 1, 1) := by decide +kernel
theorem d_L_law_337 : decode (m_L_law).2.1 337 = .ok (.iadd, 1) := by decide +kernel
theorem d_L_law_338 : decode (m_L_law).2.1 338 = .ok (.iaload, 1) := by decide +kernel
theorem d_L_law_339 : decode (m_L_law).2.1 339 = .ok (.ifCond .eq 7, 3) := by decide +kernel
theorem d_L_law_342 : decode (m_L_law).2.1 342 = .ok (.iconst 1, 1) := by decide +kernel
theorem d_L_law_343 : decode (m_L_law).2.1 343 = .ok (.goto 4, 3) := by decide +kernel
theorem d_L_law_346 : decode (m_L_law).2.1 346 = .ok (.iconst 0, 1) := by decide +kernel
theorem d_L_law_347 : decode (m_L_law).2.1 347 = .ok (.invokevirtual 45, 3) := by decide +kernel
theorem d_L_law_350 : decode (m_L_law).2.1 350 = .ok (.if_icmp .eq 340, 3) := by decide +kernel
theorem d_L_law_353 : decode (m_L_law).2.1 353 = .ok (.iconst 0, 1) := by decide +kernel
theorem d_L_law_354 : decode (m_L_law).2.1 354 = .ok (.ireturn, 1) := by decide +kernel
theorem d_L_law_355 : decode (m_L_law).2.1 355 = .ok (.aload_n 1, 1) := by decide +kernel
theorem d_L_law_356 : decode (m_L_law).2.1 356 = .ok (.aload_n 0, 1) := by decide +kernel
theorem d_L_law_357 : decode (m_L_law).2.1 357 = .ok (.iload_n 3, 1) := by decide +kernel
theorem d_L_law_358 : decode (m_L_law).2.1 358 = .ok (.iconst 1, 1) := by decide +kernel
theorem d_L_law_359 : decode (m_L_law).2.1 359 = .ok (.iadd, 1) := by decide +kernel
theorem d_L_law_360 : decode (m_L_law).2.1 360 = .ok (.iaload, 1) := by decide +kernel
theorem d_L_law_361 : decode (m_L_law).2.1 361 = .ok (.aload_n 0, 1) := by decide +kernel
theorem d_L_law_362 : decode (m_L_law).2.1 362 = .ok (.iload_n 3, 1) := by decide +kernel
theorem d_L_law_363 : decode (m_L_law).2.1 363 = .ok (.iconst 2, 1) := by decide +kernel
theorem d_L_law_364 : decode (m_L_law).2.1 364 = .ok (.iadd, 1) := by decide +kernel
theorem d_L_law_365 : decode (m_L_law).2.1 365 = .ok (.iaload, 1) := by decide +kernel
theorem d_L_law_366 : decode (m_L_law).2.1 366 = .ok (.invokevirtual 46, 3) := by decide +kernel
theorem d_L_law_369 : decode (m_L_law).2.1 369 = .ok (.aload_n 2, 1) := by decide +kernel
theorem d_L_law_370 : decode (m_L_law).2.1 370 = .ok (.aload_n 0, 1) := by decide +kernel
theorem d_L_law_371 : decode (m_L_law).2.1 371 = .ok (.iload_n 3, 1) := by decide +kernel
theorem d_L_law_372 : decode (m_L_law).2.1 372 = .ok (.iconst 1, 1) := by decide +kernel
theorem d_L_law_373 : decode (m_L_law).2.1 373 = .ok (.iadd, 1) := by decide +kernel
theorem d_L_law_374 : decode (m_L_law).2.1 374 = .ok (.iaload, 1) := by decide +kernel
theorem d_L_law_375 : decode (m_L_law).2.1 375 = .ok (.aload_n 0, 1) := by decide +kernel
theorem d_L_law_376 : decode (m_L_law).2.1 376 = .ok (.iload_n 3, 1) := by decide +kernel
theorem d_L_law_377 : decode (m_L_law).2.1 377 = .ok (.iconst 2, 1) := by decide +kernel
theorem d_L_law_378 : decode (m_L_law).2.1 378 = .ok (.iadd, 1) := by decide +kernel
theorem d_L_law_379 : decode (m_L_law).2.1 379 = .ok (.iaload, 1) := by decide +kernel
theorem d_L_law_380 : decode (m_L_law).2.1 380 = .ok (.invokevirtual 49, 3) := by decide +kernel
theorem d_L_law_383 : decode (m_L_law).2.1 383 = .ok (.if_icmp .eq 307, 3) := by decide +kernel
theorem d_L_law_386 : decode (m_L_law).2.1 386 = .ok (.iconst 0, 1) := by decide +kernel
theorem d_L_law_387 : decode (m_L_law).2.1 387 = .ok (.ireturn, 1) := by decide +kernel
theorem d_L_law_388 : decode (m_L_law).2.1 388 = .ok (.aload_n 1, 1) := by decide +kernel
theorem d_L_law_389 : decode (m_L_law).2.1 389 = .ok (.aload_n 0, 1) := by decide +kernel
theorem d_L_law_390 : decode (m_L_law).2.1 390 = .ok (.iload_n 3, 1) := by decide +kernel
theorem d_L_law_391 : decode (m_L_law).2.1 391 = .ok (.iconst 1, 1) := by decide +kernel
theorem d_L_law_392 : decode (m_L_law).2.1 392 = .ok (.iadd, 1) := by decide +kernel
theorem d_L_law_393 : decode (m_L_law).2.1 393 = .ok (.iaload, 1) := by decide +kernel
theorem d_L_law_394 : decode (m_L_law).2.1 394 = .ok (.invokevirtual 50, 3) := by decide +kernel
theorem d_L_law_397 : decode (m_L_law).2.1 397 = .ok (.aload_n 2, 1) := by decide +kernel
theorem d_L_law_398 : decode (m_L_law).2.1 398 = .ok (.aload_n 0, 1) := by decide +kernel
theorem d_L_law_399 : decode (m_L_law).2.1 399 = .ok (.iload_n 3, 1) := by decide +kernel
theorem d_L_law_400 : decode (m_L_law).2.1 400 = .ok (.iconst 1, 1) := by decide +kernel
theorem d_L_law_401 : decode (m_L_law).2.1 401 = .ok (.iadd, 1) := by decide +kernel
theorem d_L_law_402 : decode (m_L_law).2.1 402 = .ok (.iaload, 1) := by decide +kernel
theorem d_L_law_403 : decode (m_L_law).2.1 403 = .ok (.invokevirtual 54, 3) := by decide +kernel
theorem d_L_law_406 : decode (m_L_law).2.1 406 = .ok (.if_icmp .eq 284, 3) := by decide +kernel
theorem d_L_law_409 : decode (m_L_law).2.1 409 = .ok (.iconst 0, 1) := by decide +kernel
theorem d_L_law_410 : decode (m_L_law).2.1 410 = .ok (.ireturn, 1) := by decide +kernel
theorem d_L_law_411 : decode (m_L_law).2.1 411 = .ok (.aload_n 1, 1) := by decide +kernel
theorem d_L_law_412 : decode (m_L_law).2.1 412 = .ok (.aload_n 0, 1) := by decide +kernel
theorem d_L_law_413 : decode (m_L_law).2.1 413 = .ok (.iload_n 3, 1) := by decide +kernel
theorem d_L_law_414 : decode (m_L_law).2.1 414 = .ok (.iconst 1, 1) := by decide +kernel
theorem d_L_law_415 : decode (m_L_law).2.1 415 = .ok (.iadd, 1) := by decide +kernel
theorem d_L_law_416 : decode (m_L_law).2.1 416 = .ok (.iaload, 1) := by decide +kernel
theorem d_L_law_417 : decode (m_L_law).2.1 417 = .ok (.invokevirtual 55, 3) := by decide +kernel
theorem d_L_law_420 : decode (m_L_law).2.1 420 = .ok (.aload_n 2, 1) := by decide +kernel
theorem d_L_law_421 : decode (m_L_law).2.1 421 = .ok (.aload_n 0, 1) := by decide +kernel
theorem d_L_law_422 : decode (m_L_law).2.1 422 = .ok (.iload_n 3, 1) := by decide +kernel
theorem d_L_law_423 : decode (m_L_law).2.1 423 = .ok (.iconst 1, 1) := by decide +kernel
theorem d_L_law_424 : decode (m_L_law).2.1 424 = .ok (.iadd, 1) := by decide +kernel
theorem d_L_law_425 : decode (m_L_law).2.1 425 = .ok (.iaload, 1) := by decide +kernel
theorem d_L_law_426 : decode (m_L_law).2.1 426 = .ok (.invokevirtual 58, 3) := by decide +kernel
theorem d_L_law_429 : decode (m_L_law).2.1 429 = .ok (.if_icmp .eq 261, 3) := by decide +kernel
theorem d_L_law_432 : decode (m_L_law).2.1 432 = .ok (.iconst 0, 1) := by decide +kernel
theorem d_L_law_433 : decode (m_L_law).2.1 433 = .ok (.ireturn, 1) := by decide +kernel
theorem d_L_law_434 : decode (m_L_law).2.1 434 = .ok (.aload_n 1, 1) := by decide +kernel
theorem d_L_law_435 : decode (m_L_law).2.1 435 = .ok (.aload_n 0, 1) := by decide +kernel
theorem d_L_law_436 : decode (m_L_law).2.1 436 = .ok (.iload_n 3, 1) := by decide +kernel
theorem d_L_law_437 : decode (m_L_law).2.1 437 = .ok (.iconst 1, 1) := by decide +kernel
theorem d_L_law_438 : decode (m_L_law).2.1 438 = .ok (.iadd, 1) := by decide +kernel
theorem d_L_law_439 : decode (m_L_law).2.1 439 = .ok (.iaload, 1) := by decide +kernel
theorem d_L_law_440 : decode (m_L_law).2.1 440 = .ok (.invokevirtual 59, 3) := by decide +kernel
theorem d_L_law_443 : decode (m_L_law).2.1 443 = .ok (.aload_n 2, 1) := by decide +kernel
theorem d_L_law_444 : decode (m_L_law).2.1 444 = .ok (.aload_n 0, 1) := by decide +kernel
theorem d_L_law_445 : decode (m_L_law).2.1 445 = .ok (.iload_n 3, 1) := by decide +kernel
theorem d_L_law_446 : decode (m_L_law).2.1 446 = .ok (.iconst 1, 1) := by decide +kernel
theorem d_L_law_447 : decode (m_L_law).2.1 447 = .ok (.iadd, 1) := by decide +kernel
theorem d_L_law_448 : decode (m_L_law).2.1 448 = .ok (.iaload, 1) := by decide +kernel
theorem d_L_law_449 : decode (m_L_law).2.1 449 = .ok (.invokevirtual 62, 3) := by decide +kernel
theorem d_L_law_452 : decode (m_L_law).2.1 452 = .ok (.if_icmp .eq 238, 3) := by decide +kernel
theorem d_L_law_455 : decode (m_L_law).2.1 455 = .ok (.iconst 0, 1) := by decide +kernel
theorem d_L_law_456 : decode (m_L_law).2.1 456 = .ok (.ireturn, 1) := by decide +kernel
theorem d_L_law_457 : decode (m_L_law).2.1 457 = .ok (.aload_n 1, 1) := by decide +kernel
theorem d_L_law_458 : decode (m_L_law).2.1 458 = .ok (.aload_n 0, 1) := by decide +kernel
theorem d_L_law_459 : decode (m_L_law).2.1 459 = .ok (.iload_n 3, 1) := by decide +kernel
theorem d_L_law_460 : decode (m_L_law).2.1 460 = .ok (.iconst 1, 1) := by decide +kernel
theorem d_L_law_461 : decode (m_L_law).2.1 461 = .ok (.iadd, 1) := by decide +kernel
theorem d_L_law_462 : decode (m_L_law).2.1 462 = .ok (.iaload, 1) := by decide +kernel
theorem d_L_law_463 : decode (m_L_law).2.1 463 = .ok (.ifCond .eq 7, 3) := by decide +kernel
theorem d_L_law_466 : decode (m_L_law).2.1 466 = .ok (.iconst 1, 1) := by decide +kernel
theorem d_L_law_467 : decode (m_L_law).2.1 467 = .ok (.goto 4, 3) := by decide +kernel
theorem d_L_law_470 : decode (m_L_law).2.1 470 = .ok (.iconst 0, 1) := by decide +kernel
theorem d_L_law_471 : decode (m_L_law).2.1 471 = .ok (.invokevirtual 63, 3) := by decide +kernel
theorem d_L_law_474 : decode (m_L_law).2.1 474 = .ok (.aload_n 2, 1) := by decide +kernel
theorem d_L_law_475 : decode (m_L_law).2.1 475 = .ok (.aload_n 0, 1) := by decide +kernel
theorem d_L_law_476 : decode (m_L_law).2.1 476 = .ok (.iload_n 3, 1) := by decide +kernel
theorem d_L_law_477 : decode (m_L_law).2.1 477 = .ok (.iconst 1, 1) := by decide +kernel
theorem d_L_law_478 : decode (m_L_law).2.1 478 = .ok (.iadd, 1) := by decide +kernel
theorem d_L_law_479 : decode (m_L_law).2.1 479 = .ok (.iaload, 1) := by decide +kernel
theorem d_L_law_480 : decode (m_L_law).2.1 480 = .ok (.ifCond .eq 7, 3) := by decide +kernel
theorem d_L_law_483 : decode (m_L_law).2.1 483 = .ok (.iconst 1, 1) := by decide +kernel
theorem d_L_law_484 : decode (m_L_law).2.1 484 = .ok (.goto 4, 3) := by decide +kernel
theorem d_L_law_487 : decode (m_L_law).2.1 487 = .ok (.iconst 0, 1) := by decide +kernel
theorem d_L_law_488 : decode (m_L_law).2.1 488 = .ok (.invokevirtual 66, 3) := by decide +kernel
theorem d_L_law_491 : decode (m_L_law).2.1 491 = .ok (.if_icmp .eq 199, 3) := by decide +kernel
theorem d_L_law_494 : decode (m_L_law).2.1 494 = .ok (.iconst 0, 1) := by decide +kernel
theorem d_L_law_495 : decode (m_L_law).2.1 495 = .ok (.ireturn, 1) := by decide +kernel
theorem d_L_law_496 : decode (m_L_law).2.1 496 = .ok (.aload_n 1, 1) := by decide +kernel
theorem d_L_law_497 : decode (m_L_law).2.1 497 = .ok (.aload_n 0, 1) := by decide +kernel
theorem d_L_law_498 : decode (m_L_law).2.1 498 = .ok (.iload_n 3, 1) := by decide +kernel
theorem d_L_law_499 : decode (m_L_law).2.1 499 = .ok (.iconst 1, 1) := by decide +kernel
theorem d_L_law_500 : decode (m_L_law).2.1 500 = .ok (.iadd, 1) := by decide +kernel
theorem d_L_law_501 : decode (m_L_law).2.1 501 = .ok (.iaload, 1) := by decide +kernel
theorem d_L_law_502 : decode (m_L_law).2.1 502 = .ok (.invokevirtual 67, 3) := by decide +kernel
theorem d_L_law_505 : decode (m_L_law).2.1 505 = .ok (.aload_n 2, 1) := by decide +kernel
theorem d_L_law_506 : decode (m_L_law).2.1 506 = .ok (.aload_n 0, 1) := by decide +kernel
theorem d_L_law_507 : decode (m_L_law).2.1 507 = .ok (.iload_n 3, 1) := by decide +kernel
theorem d_L_law_508 : decode (m_L_law).2.1 508 = .ok (.iconst 1, 1) := by decide +kernel
theorem d_L_law_509 : decode (m_L_law).2.1 509 = .ok (.iadd, 1) := by decide +kernel
theorem d_L_law_510 : decode (m_L_law).2.1 510 = .ok (.iaload, 1) := by decide +kernel
theorem d_L_law_511 : decode (m_L_law).2.1 511 = .ok (.invokevirtual 70, 3) := by decide +kernel
theorem d_L_law_514 : decode (m_L_law).2.1 514 = .ok (.if_icmp .eq 176, 3) := by decide +kernel
theorem d_L_law_517 : decode (m_L_law).2.1 517 = .ok (.iconst 0, 1) := by decide +kernel
theorem d_L_law_518 : decode (m_L_law).2.1 518 = .ok (.ireturn, 1) := by decide +kernel
theorem d_L_law_519 : decode (m_L_law).2.1 519 = .ok (.aload_n 1, 1) := by decide +kernel
theorem d_L_law_520 : decode (m_L_law).2.1 520 = .ok (.aload_n 0, 1) := by decide +kernel
theorem d_L_law_521 : decode (m_L_law).2.1 521 = .ok (.iload_n 3, 1) := by decide +kernel
theorem d_L_law_522 : decode (m_L_law).2.1 522 = .ok (.iconst 1, 1) := by decide +kernel
theorem d_L_law_523 : decode (m_L_law).2.1 523 = .ok (.iadd, 1) := by decide +kernel
theorem d_L_law_524 : decode (m_L_law).2.1 524 = .ok (.iaload, 1) := by decide +kernel
theorem d_L_law_525 : decode (m_L_law).2.1 525 = .ok (.invokevirtual 71, 3) := by decide +kernel
theorem d_L_law_528 : decode (m_L_law).2.1 528 = .ok (.aload_n 2, 1) := by decide +kernel
theorem d_L_law_529 : decode (m_L_law).2.1 529 = .ok (.aload_n 0, 1) := by decide +kernel
theorem d_L_law_530 : decode (m_L_law).2.1 530 = .ok (.iload_n 3, 1) := by decide +kernel
theorem d_L_law_531 : decode (m_L_law).2.1 531 = .ok (.iconst 1, 1) := by decide +kernel
theorem d_L_law_532 : decode (m_L_law).2.1 532 = .ok (.iadd, 1) := by decide +kernel
theorem d_L_law_533 : decode (m_L_law).2.1 533 = .ok (.iaload, 1) := by decide +kernel
theorem d_L_law_534 : decode (m_L_law).2.1 534 = .ok (.invokevirtual 74, 3) := by decide +kernel
theorem d_L_law_537 : decode (m_L_law).2.1 537 = .ok (.if_icmp .eq 153, 3) := by decide +kernel
theorem d_L_law_540 : decode (m_L_law).2.1 540 = .ok (.iconst 0, 1) := by decide +kernel
theorem d_L_law_541 : decode (m_L_law).2.1 541 = .ok (.ireturn, 1) := by decide +kernel
theorem d_L_law_542 : decode (m_L_law).2.1 542 = .ok (.aload_n 1, 1) := by decide +kernel
theorem d_L_law_543 : decode (m_L_law).2.1 543 = .ok (.aload_n 0, 1) := by decide +kernel
theorem d_L_law_544 : decode (m_L_law).2.1 544 = .ok (.iload_n 3, 1) := by decide +kernel
theorem d_L_law_545 : decode (m_L_law).2.1 545 = .ok (.iconst 1, 1) := by decide +kernel
theorem d_L_law_546 : decode (m_L_law).2.1 546 = .ok (.iadd, 1) := by decide +kernel
theorem d_L_law_547 : decode (m_L_law).2.1 547 = .ok (.iaload, 1) := by decide +kernel
theorem d_L_law_548 : decode (m_L_law).2.1 548 = .ok (.invokevirtual 75, 3) := by decide +kernel
theorem d_L_law_551 : decode (m_L_law).2.1 551 = .ok (.aload_n 2, 1) := by decide +kernel
theorem d_L_law_552 : decode (m_L_law).2.1 552 = .ok (.aload_n 0, 1) := by decide +kernel
theorem d_L_law_553 : decode (m_L_law).2.1 553 = .ok (.iload_n 3, 1) := by decide +kernel
theorem d_L_law_554 : decode (m_L_law).2.1 554 = .ok (.iconst 1, 1) := by decide +kernel
theorem d_L_law_555 : decode (m_L_law).2.1 555 = .ok (.iadd, 1) := by decide +kernel
theorem d_L_law_556 : decode (m_L_law).2.1 556 = .ok (.iaload, 1) := by decide +kernel
theorem d_L_law_557 : decode (m_L_law).2.1 557 = .ok (.invokevirtual 78, 3) := by decide +kernel
theorem d_L_law_560 : decode (m_L_law).2.1 560 = .ok (.if_icmp .eq 130, 3) := by decide +kernel
theorem d_L_law_563 : decode (m_L_law).2.1 563 = .ok (.iconst 0, 1) := by decide +kernel
theorem d_L_law_564 : decode (m_L_law).2.1 564 = .ok (.ireturn, 1) := by decide +kernel
theorem d_L_law_565 : decode (m_L_law).2.1 565 = .ok (.aload_n 1, 1) := by decide +kernel
theorem d_L_law_566 : decode (m_L_law).2.1 566 = .ok (.aload_n 0, 1) := by decide +kernel
theorem d_L_law_567 : decode (m_L_law).2.1 567 = .ok (.iload_n 3, 1) := by decide +kernel
theorem d_L_law_568 : decode (m_L_law).2.1 568 = .ok (.iconst 1, 1) := by decide +kernel
theorem d_L_law_569 : decode (m_L_law).2.1 569 = .ok (.iadd, 1) := by decide +kernel
theorem d_L_law_570 : decode (m_L_law).2.1 570 = .ok (.iaload, 1) := by decide +kernel
theorem d_L_law_571 : decode (m_L_law).2.1 571 = .ok (.invokevirtual 79, 3) := by decide +kernel
theorem d_L_law_574 : decode (m_L_law).2.1 574 = .ok (.aload_n 2, 1) := by decide +kernel
theorem d_L_law_575 : decode (m_L_law).2.1 575 = .ok (.aload_n 0, 1) := by decide +kernel
theorem d_L_law_576 : decode (m_L_law).2.1 576 = .ok (.iload_n 3, 1) := by decide +kernel
theorem d_L_law_577 : decode (m_L_law).2.1 577 = .ok (.iconst 1, 1) := by decide +kernel
theorem d_L_law_578 : decode (m_L_law).2.1 578 = .ok (.iadd, 1) := by decide +kernel
theorem d_L_law_579 : decode (m_L_law).2.1 579 = .ok (.iaload, 1) := by decide +kernel
theorem d_L_law_580 : decode (m_L_law).2.1 580 = .ok (.invokevirtual 82, 3) := by decide +kernel
theorem d_L_law_583 : decode (m_L_law).2.1 583 = .ok (.if_icmp .eq 107, 3) := by decide +kernel
theorem d_L_law_586 : decode (m_L_law).2.1 586 = .ok (.iconst 0, 1) := by decide +kernel
theorem d_L_law_587 : decode (m_L_law).2.1 587 = .ok (.ireturn, 1) := by decide +kernel
theorem d_L_law_588 : decode (m_L_law).2.1 588 = .ok (.aload_n 1, 1) := by decide +kernel
theorem d_L_law_589 : decode (m_L_law).2.1 589 = .ok (.aload_n 0, 1) := by decide +kernel
theorem d_L_law_590 : decode (m_L_law).2.1 590 = .ok (.iload_n 3, 1) := by decide +kernel
theorem d_L_law_591 : decode (m_L_law).2.1 591 = .ok (.iconst 1, 1) := by decide +kernel
theorem d_L_law_592 : decode (m_L_law).2.1 592 = .ok (.iadd, 1) := by decide +kernel
theorem d_L_law_593 : decode (m_L_law).2.1 593 = .ok (.iaload, 1) := by decide +kernel
theorem d_L_law_594 : decode (m_L_law).2.1 594 = .ok (.aload_n 0, 1) := by decide +kernel
theorem d_L_law_595 : decode (m_L_law).2.1 595 = .ok (.iload_n 3, 1) := by decide +kernel
theorem d_L_law_596 : decode (m_L_law).2.1 596 = .ok (.iconst 2, 1) := by decide +kernel
theorem d_L_law_597 : decode (m_L_law).2.1 597 = .ok (.iadd, 1) := by decide +kernel
theorem d_L_law_598 : decode (m_L_law).2.1 598 = .ok (.iaload, 1) := by decide +kernel
theorem d_L_law_599 : decode (m_L_law).2.1 599 = .ok (.invokevirtual 83, 3) := by decide +kernel
theorem d_L_law_602 : decode (m_L_law).2.1 602 = .ok (.aload_n 2, 1) := by decide +kernel
theorem d_L_law_603 : decode (m_L_law).2.1 603 = .ok (.aload_n 0, 1) := by decide +kernel
theorem d_L_law_604 : decode (m_L_law).2.1 604 = .ok (.iload_n 3, 1) := by decide +kernel
theorem d_L_law_605 : decode (m_L_law).2.1 605 = .ok (.iconst 1, 1) := by decide +kernel
theorem d_L_law_606 : decode (m_L_law).2.1 606 = .ok (.iadd, 1) := by decide +kernel
theorem d_L_law_607 : decode (m_L_law).2.1 607 = .ok (.iaload, 1) := by decide +kernel
theorem d_L_law_608 : decode (m_L_law).2.1 608 = .ok (.aload_n 0, 1) := by decide +kernel
theorem d_L_law_609 : decode (m_L_law).2.1 609 = .ok (.iload_n 3, 1) := by decide +kernel
theorem d_L_law_610 : decode (m_L_law).2.1 610 = .ok (.iconst 2, 1) := by decide +kernel
theorem d_L_law_611 : decode (m_L_law).2.1 611 = .ok (.iadd, 1) := by decide +kernel
theorem d_L_law_612 : decode (m_L_law).2.1 612 = .ok (.iaload, 1) := by decide +kernel
theorem d_L_law_613 : decode (m_L_law).2.1 613 = .ok (.invokevirtual 86, 3) := by decide +kernel
theorem d_L_law_616 : decode (m_L_law).2.1 616 = .ok (.if_icmp .eq 74, 3) := by decide +kernel
theorem d_L_law_619 : decode (m_L_law).2.1 619 = .ok (.iconst 0, 1) := by decide +kernel
theorem d_L_law_620 : decode (m_L_law).2.1 620 = .ok (.ireturn, 1) := by decide +kernel
theorem d_L_law_621 : decode (m_L_law).2.1 621 = .ok (.aload_n 1, 1) := by decide +kernel
theorem d_L_law_622 : decode (m_L_law).2.1 622 = .ok (.aload_n 0, 1) := by decide +kernel
theorem d_L_law_623 : decode (m_L_law).2.1 623 = .ok (.iload_n 3, 1) := by decide +kernel
theorem d_L_law_624 : decode (m_L_law).2.1 624 = .ok (.iconst 1, 1) := by decide +kernel
theorem d_L_law_625 : decode (m_L_law).2.1 625 = .ok (.iadd, 1) := by decide +kernel
theorem d_L_law_626 : decode (m_L_law).2.1 626 = .ok (.iaload, 1) := by decide +kernel
theorem d_L_law_627 : decode (m_L_law).2.1 627 = .ok (.invokevirtual 87, 3) := by decide +kernel
theorem d_L_law_630 : decode (m_L_law).2.1 630 = .ok (.aload_n 2, 1) := by decide +kernel
theorem d_L_law_631 : decode (m_L_law).2.1 631 = .ok (.aload_n 0, 1) := by decide +kernel
theorem d_L_law_632 : decode (m_L_law).2.1 632 = .ok (.iload_n 3, 1) := by decide +kernel
theorem d_L_law_633 : decode (m_L_law).2.1 633 = .ok (.iconst 1, 1) := by decide +kernel
theorem d_L_law_634 : decode (m_L_law).2.1 634 = .ok (.iadd, 1) := by decide +kernel
theorem d_L_law_635 : decode (m_L_law).2.1 635 = .ok (.iaload, 1) := by decide +kernel
theorem d_L_law_636 : decode (m_L_law).2.1 636 = .ok (.invokevirtual 90, 3) := by decide +kernel
theorem d_L_law_639 : decode (m_L_law).2.1 639 = .ok (.if_icmp .eq 51, 3) := by decide +kernel
theorem d_L_law_642 : decode (m_L_law).2.1 642 = .ok (.iconst 0, 1) := by decide +kernel
theorem d_L_law_643 : decode (m_L_law).2.1 643 = .ok (.ireturn, 1) := by decide +kernel
theorem d_L_law_644 : decode (m_L_law).2.1 644 = .ok (.aload_n 1, 1) := by decide +kernel
theorem d_L_law_645 : decode (m_L_law).2.1 645 = .ok (.aload_n 0, 1) := by decide +kernel
theorem d_L_law_646 : decode (m_L_law).2.1 646 = .ok (.iload_n 3, 1) := by decide +kernel
theorem d_L_law_647 : decode (m_L_law).2.1 647 = .ok (.iconst 1, 1) := by decide +kernel
theorem d_L_law_648 : decode (m_L_law).2.1 648 = .ok (.iadd, 1) := by decide +kernel
theorem d_L_law_649 : decode (m_L_law).2.1 649 = .ok (.iaload, 1) := by decide +kernel
theorem d_L_law_650 : decode (m_L_law).2.1 650 = .ok (.invokevirtual 91, 3) := by decide +kernel
theorem d_L_law_653 : decode (m_L_law).2.1 653 = .ok (.aload_n 2, 1) := by decide +kernel
theorem d_L_law_654 : decode (m_L_law).2.1 654 = .ok (.aload_n 0, 1) := by decide +kernel
theorem d_L_law_655 : decode (m_L_law).2.1 655 = .ok (.iload_n 3, 1) := by decide +kernel
theorem d_L_law_656 : decode (m_L_law).2.1 656 = .ok (.iconst 1, 1) := by decide +kernel
theorem d_L_law_657 : decode (m_L_law).2.1 657 = .ok (.iadd, 1) := by decide +kernel
theorem d_L_law_658 : decode (m_L_law).2.1 658 = .ok (.iaload, 1) := by decide +kernel
theorem d_L_law_659 : decode (m_L_law).2.1 659 = .ok (.invokevirtual 94, 3) := by decide +kernel
theorem d_L_law_662 : decode (m_L_law).2.1 662 = .ok (.if_icmp .eq 28, 3) := by decide +kernel
theorem d_L_law_665 : decode (m_L_law).2.1 665 = .ok (.iconst 0, 1) := by decide +kernel
theorem d_L_law_666 : decode (m_L_law).2.1 666 = .ok (.ireturn, 1) := by decide +kernel
theorem d_L_law_667 : decode (m_L_law).2.1 667 = .ok (.aload_n 1, 1) := by decide +kernel
theorem d_L_law_668 : decode (m_L_law).2.1 668 = .ok (.aload_n 0, 1) := by decide +kernel
theorem d_L_law_669 : decode (m_L_law).2.1 669 = .ok (.iload_n 3, 1) := by decide +kernel
theorem d_L_law_670 : decode (m_L_law).2.1 670 = .ok (.iconst 1, 1) := by decide +kernel
theorem d_L_law_671 : decode (m_L_law).2.1 671 = .ok (.iadd, 1) := by decide +kernel
theorem d_L_law_672 : decode (m_L_law).2.1 672 = .ok (.iaload, 1) := by decide +kernel
theorem d_L_law_673 : decode (m_L_law).2.1 673 = .ok (.invokevirtual 95, 3) := by decide +kernel
theorem d_L_law_676 : decode (m_L_law).2.1 676 = .ok (.aload_n 2, 1) := by decide +kernel
theorem d_L_law_677 : decode (m_L_law).2.1 677 = .ok (.aload_n 0, 1) := by decide +kernel
theorem d_L_law_678 : decode (m_L_law).2.1 678 = .ok (.iload_n 3, 1) := by decide +kernel
theorem d_L_law_679 : decode (m_L_law).2.1 679 = .ok (.iconst 1, 1) := by decide +kernel
theorem d_L_law_680 : decode (m_L_law).2.1 680 = .ok (.iadd, 1) := by decide +kernel
theorem d_L_law_681 : decode (m_L_law).2.1 681 = .ok (.iaload, 1) := by decide +kernel
theorem d_L_law_682 : decode (m_L_law).2.1 682 = .ok (.invokevirtual 98, 3) := by decide +kernel
theorem d_L_law_685 : decode (m_L_law).2.1 685 = .ok (.if_icmp .eq 5, 3) := by decide +kernel
theorem d_L_law_688 : decode (m_L_law).2.1 688 = .ok (.iconst 0, 1) := by decide +kernel
theorem d_L_law_689 : decode (m_L_law).2.1 689 = .ok (.ireturn, 1) := by decide +kernel
theorem d_L_law_690 : decode (m_L_law).2.1 690 = .ok (.iinc 3 4, 3) := by decide +kernel
theorem d_L_law_693 : decode (m_L_law).2.1 693 = .ok (.goto (-675), 3) := by decide +kernel
theorem d_L_law_696 : decode (m_L_law).2.1 696 = .ok (.iconst 1, 1) := by decide +kernel
theorem d_L_law_697 : decode (m_L_law).2.1 697 = .ok (.ireturn, 1) := by decide +kernel
