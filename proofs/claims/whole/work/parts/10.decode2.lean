theorem d_M_decoded_0 : decode (m_M_decoded).2.1 0 = .ok (.aload_n 0, 1) := by decide +kernel
theorem d_M_decoded_1 : decode (m_M_decoded).2.1 1 = .ok (.iload_n 1, 1) := by decide +kernel
theorem d_M_decoded_2 : decode (m_M_decoded).2.1 2 = .ok (.invokevirtual 117, 3) := by decide +kernel
theorem d_M_decoded_5 : decode (m_M_decoded).2.1 5 = .ok (.ifCond .ne 7, 3) := by decide +kernel
theorem d_M_decoded_8 : decode (m_M_decoded).2.1 8 = .ok (.iconst (-1), 1) := by decide +kernel
theorem d_M_decoded_9 : decode (m_M_decoded).2.1 9 = .ok (.goto 24, 3) := by decide +kernel
theorem d_M_decoded_12 : decode (m_M_decoded).2.1 12 = .ok (.aload_n 0, 1) := by decide +kernel
theorem d_M_decoded_13 : decode (m_M_decoded).2.1 13 = .ok (.getfield 93, 3) := by decide +kernel
theorem d_M_decoded_16 : decode (m_M_decoded).2.1 16 = .ok (.ifCond .ge 8, 3) := by decide +kernel
theorem d_M_decoded_19 : decode (m_M_decoded).2.1 19 = .ok (.bipush (-2), 2) := by decide +kernel
theorem d_M_decoded_21 : decode (m_M_decoded).2.1 21 = .ok (.goto 12, 3) := by decide +kernel
theorem d_M_decoded_24 : decode (m_M_decoded).2.1 24 = .ok (.aload_n 0, 1) := by decide +kernel
theorem d_M_decoded_25 : decode (m_M_decoded).2.1 25 = .ok (.aload_n 0, 1) := by decide +kernel
theorem d_M_decoded_26 : decode (m_M_decoded).2.1 26 = .ok (.getfield 93, 3) := by decide +kernel
theorem d_M_decoded_29 : decode (m_M_decoded).2.1 29 = .ok (.iload_n 1, 1) := by decide +kernel
theorem d_M_decoded_30 : decode (m_M_decoded).2.1 30 = .ok (.invokevirtual 102, 3) := by decide +kernel
theorem d_M_decoded_33 : decode (m_M_decoded).2.1 33 = .ok (.ireturn, 1) := by decide +kernel
theorem d_M_sent_0 : decode (m_M_sent).2.1 0 = .ok (.iload_n 1, 1) := by decide +kernel
theorem d_M_sent_1 : decode (m_M_sent).2.1 1 = .ok (.ifCond .lt 11, 3) := by decide +kernel
theorem d_M_sent_4 : decode (m_M_sent).2.1 4 = .ok (.iload_n 1, 1) := by decide +kernel
theorem d_M_sent_5 : decode (m_M_sent).2.1 5 = .ok (.aload_n 0, 1) := by decide +kernel
theorem d_M_sent_6 : decode (m_M_sent).2.1 6 = .ok (.getfield 90, 3) := by decide +kernel
theorem d_M_sent_9 : decode (m_M_sent).2.1 9 = .ok (.if_icmp .lt 7, 3) := by decide +kernel
theorem d_M_sent_12 : decode (m_M_sent).2.1 12 = .ok (.iconst (-1), 1) := by decide +kernel
theorem d_M_sent_13 : decode (m_M_sent).2.1 13 = .ok (.goto 24, 3) := by decide +kernel
theorem d_M_sent_16 : decode (m_M_sent).2.1 16 = .ok (.aload_n 0, 1) := by decide +kernel
theorem d_M_sent_17 : decode (m_M_sent).2.1 17 = .ok (.getfield 93, 3) := by decide +kernel
theorem d_M_sent_20 : decode (m_M_sent).2.1 20 = .ok (.ifCond .ge 8, 3) := by decide +kernel
theorem d_M_sent_23 : decode (m_M_sent).2.1 23 = .ok (.bipush (-2), 2) := by decide +kernel
theorem d_M_sent_25 : decode (m_M_sent).2.1 25 = .ok (.goto 12, 3) := by decide +kernel
theorem d_M_sent_28 : decode (m_M_sent).2.1 28 = .ok (.aload_n 0, 1) := by decide +kernel
theorem d_M_sent_29 : decode (m_M_sent).2.1 29 = .ok (.aload_n 0, 1) := by decide +kernel
theorem d_M_sent_30 : decode (m_M_sent).2.1 30 = .ok (.getfield 93, 3) := by decide +kernel
theorem d_M_sent_33 : decode (m_M_sent).2.1 33 = .ok (.iload_n 1, 1) := by decide +kernel
theorem d_M_sent_34 : decode (m_M_sent).2.1 34 = .ok (.invokevirtual 99, 3) := by decide +kernel
theorem d_M_sent_37 : decode (m_M_sent).2.1 37 = .ok (.ireturn, 1) := by decide +kernel
theorem d_M_locator_0 : decode (m_M_locator).2.1 0 = .ok (.iload_n 1, 1) := by decide +kernel
theorem d_M_locator_1 : decode (m_M_locator).2.1 1 = .ok (.ifCond .lt 16, 3) := by decide +kernel
theorem d_M_locator_4 : decode (m_M_locator).2.1 4 = .ok (.iload_n 1, 1) := by decide +kernel
theorem d_M_locator_5 : decode (m_M_locator).2.1 5 = .ok (.aload_n 0, 1) := by decide +kernel
theorem d_M_locator_6 : decode (m_M_locator).2.1 6 = .ok (.getfield 87, 3) := by decide +kernel
theorem d_M_locator_9 : decode (m_M_locator).2.1 9 = .ok (.aload_n 0, 1) := by decide +kernel
theorem d_M_locator_10 : decode (m_M_locator).2.1 10 = .ok (.getfield 90, 3) := by decide +kernel
theorem d_M_locator_13 : decode (m_M_locator).2.1 13 = .ok (.isub, 1) := by decide +kernel
theorem d_M_locator_14 : decode (m_M_locator).2.1 14 = .ok (.if_icmp .le 5, 3) := by decide +kernel
theorem d_M_locator_17 : decode (m_M_locator).2.1 17 = .ok (.iconst (-1), 1) := by decide +kernel
theorem d_M_locator_18 : decode (m_M_locator).2.1 18 = .ok (.ireturn, 1) := by decide +kernel
theorem d_M_locator_19 : decode (m_M_locator).2.1 19 = .ok (.aload_n 0, 1) := by decide +kernel
theorem d_M_locator_20 : decode (m_M_locator).2.1 20 = .ok (.getfield 93, 3) := by decide +kernel
theorem d_M_locator_23 : decode (m_M_locator).2.1 23 = .ok (.ifCond .ge 6, 3) := by decide +kernel
theorem d_M_locator_26 : decode (m_M_locator).2.1 26 = .ok (.bipush (-2), 2) := by decide +kernel
theorem d_M_locator_28 : decode (m_M_locator).2.1 28 = .ok (.ireturn, 1) := by decide +kernel
theorem d_M_locator_29 : decode (m_M_locator).2.1 29 = .ok (.iconst 0, 1) := by decide +kernel
theorem d_M_locator_30 : decode (m_M_locator).2.1 30 = .ok (.istore_n 2, 1) := by decide +kernel
theorem d_M_locator_31 : decode (m_M_locator).2.1 31 = .ok (.iload_n 2, 1) := by decide +kernel
theorem d_M_locator_32 : decode (m_M_locator).2.1 32 = .ok (.bipush 21, 2) := by decide +kernel
theorem d_M_locator_34 : decode (m_M_locator).2.1 34 = .ok (.if_icmp .ge 24, 3) := by decide +kernel
theorem d_M_locator_37 : decode (m_M_locator).2.1 37 = .ok (.aload_n 0, 1) := by decide +kernel
theorem d_M_locator_38 : decode (m_M_locator).2.1 38 = .ok (.getfield 35, 3) := by decide +kernel
theorem d_M_locator_41 : decode (m_M_locator).2.1 41 = .ok (.iload_n 2, 1) := by decide +kernel
theorem d_M_locator_42 : decode (m_M_locator).2.1 42 = .ok (.iload_n 2, 1) := by decide +kernel
theorem d_M_locator_43 : decode (m_M_locator).2.1 43 = .ok (.ifCond .ne 7, 3) := by decide +kernel
theorem d_M_locator_46 : decode (m_M_locator).2.1 46 = .ok (.iconst 1, 1) := by decide +kernel
theorem d_M_locator_47 : decode (m_M_locator).2.1 47 = .ok (.goto 4, 3) := by decide +kernel
theorem d_M_locator_50 : decode (m_M_locator).2.1 50 = .ok (.iconst 0, 1) := by decide +kernel
theorem d_M_locator_51 : decode (m_M_locator).2.1 51 = .ok (.iastore, 1) := by decide +kernel
theorem d_M_locator_52 : decode (m_M_locator).2.1 52 = .ok (.iinc 2 1, 3) := by decide +kernel
theorem d_M_locator_55 : decode (m_M_locator).2.1 55 = .ok (.goto (-24), 3) := by decide +kernel
theorem d_M_locator_58 : decode (m_M_locator).2.1 58 = .ok (.iconst 0, 1) := by decide +kernel
theorem d_M_locator_59 : decode (m_M_locator).2.1 59 = .ok (.istore_n 2, 1) := by decide +kernel
theorem d_M_locator_60 : decode (m_M_locator).2.1 60 = .ok (.iload_n 2, 1) := by decide +kernel
theorem d_M_locator_61 : decode (m_M_locator).2.1 61 = .ok (.aload_n 0, 1) := by decide +kernel
theorem d_M_locator_62 : decode (m_M_locator).2.1 62 = .ok (.getfield 87, 3) := by decide +kernel
theorem d_M_locator_65 : decode (m_M_locator).2.1 65 = .ok (.if_icmp .ge 69, 3) := by decide +kernel
theorem d_M_locator_68 : decode (m_M_locator).2.1 68 = .ok (.aload_n 0, 1) := by decide +kernel
theorem d_M_locator_69 : decode (m_M_locator).2.1 69 = .ok (.getfield 87, 3) := by decide +kernel
theorem d_M_locator_72 : decode (m_M_locator).2.1 72 = .ok (.istore_n 3, 1) := by decide +kernel
theorem d_M_locator_73 : decode (m_M_locator).2.1 73 = .ok (.iload_n 3, 1) := by decide +kernel
theorem d_M_locator_74 : decode (m_M_locator).2.1 74 = .ok (.ifCond .le 54, 3) := by decide +kernel
theorem d_M_locator_77 : decode (m_M_locator).2.1 77 = .ok (.aload_n 0, 1) := by decide +kernel
theorem d_M_locator_78 : decode (m_M_locator).2.1 78 = .ok (.getfield 32, 3) := by decide +kernel
theorem d_M_locator_81 : decode (m_M_locator).2.1 81 = .ok (.iload_n 2, 1) := by decide +kernel
theorem d_M_locator_82 : decode (m_M_locator).2.1 82 = .ok (.baload, 1) := by decide +kernel
theorem d_M_locator_83 : decode (m_M_locator).2.1 83 = .ok (.ifCond .eq 45, 3) := by decide +kernel
theorem d_M_locator_86 : decode (m_M_locator).2.1 86 = .ok (.aload_n 0, 1) := by decide +kernel
theorem d_M_locator_87 : decode (m_M_locator).2.1 87 = .ok (.getfield 35, 3) := by decide +kernel
theorem d_M_locator_90 : decode (m_M_locator).2.1 90 = .ok (.iload_n 3, 1) := by decide +kernel
theorem d_M_locator_91 : decode (m_M_locator).2.1 91 = .ok (.aload_n 0, 1) := by decide +kernel
theorem d_M_locator_92 : decode (m_M_locator).2.1 92 = .ok (.getfield 35, 3) := by decide +kernel
theorem d_M_locator_95 : decode (m_M_locator).2.1 95 = .ok (.iload_n 3, 1) := by decide +kernel
theorem d_M_locator_96 : decode (m_M_locator).2.1 96 = .ok (.iaload, 1) := by decide +kernel
theorem d_M_locator_97 : decode (m_M_locator).2.1 97 = .ok (.aload_n 0, 1) := by decide +kernel
theorem d_M_locator_98 : decode (m_M_locator).2.1 98 = .ok (.getfield 7, 3) := by decide +kernel
theorem d_M_locator_101 : decode (m_M_locator).2.1 101 = .ok (.bipush 32, 2) := by decide +kernel
theorem d_M_locator_103 : decode (m_M_locator).2.1 103 = .ok (.aload_n 0, 1) := by decide +kernel
theorem d_M_locator_104 : decode (m_M_locator).2.1 104 = .ok (.getfield 35, 3) := by decide +kernel
theorem d_M_locator_107 : decode (m_M_locator).2.1 107 = .ok (.iload_n 3, 1) := by decide +kernel
theorem d_M_locator_108 : decode (m_M_locator).2.1 108 = .ok (.iconst 1, 1) := by decide +kernel
theorem d_M_locator_109 : decode (m_M_locator).2.1 109 = .ok (.isub, 1) := by decide +kernel
theorem d_M_locator_110 : decode (m_M_locator).2.1 110 = .ok (.iaload, 1) := by decide +kernel
theorem d_M_locator_111 : decode (m_M_locator).2.1 111 = .ok (.imul, 1) := by decide +kernel
theorem d_M_locator_112 : decode (m_M_locator).2.1 112 = .ok (.aload_n 0, 1) := by decide +kernel
theorem d_M_locator_113 : decode (m_M_locator).2.1 113 = .ok (.getfield 13, 3) := by decide +kernel
theorem d_M_locator_116 : decode (m_M_locator).2.1 116 = .ok (.iload_n 2, 1) := by decide +kernel
theorem d_M_locator_117 : decode (m_M_locator).2.1 117 = .ok (.iaload, 1) := by decide +kernel
theorem d_M_locator_118 : decode (m_M_locator).2.1 118 = .ok (.iadd, 1) := by decide +kernel
theorem d_M_locator_119 : decode (m_M_locator).2.1 119 = .ok (.iaload, 1) := by decide +kernel
theorem d_M_locator_120 : decode (m_M_locator).2.1 120 = .ok (.ixor, 1) := by decide +kernel
theorem d_M_locator_121 : decode (m_M_locator).2.1 121 = .ok (.iastore, 1) := by decide +kernel
theorem d_M_locator_122 : decode (m_M_locator).2.1 122 = .ok (.iinc 3 (-1), 3) := by decide +kernel
theorem d_M_locator_125 : decode (m_M_locator).2.1 125 = .ok (.goto (-52), 3) := by decide +kernel
theorem d_M_locator_128 : decode (m_M_locator).2.1 128 = .ok (.iinc 2 1, 3) := by decide +kernel
theorem d_M_locator_131 : decode (m_M_locator).2.1 131 = .ok (.goto (-71), 3) := by decide +kernel
theorem d_M_locator_134 : decode (m_M_locator).2.1 134 = .ok (.aload_n 0, 1) := by decide +kernel
theorem d_M_locator_135 : decode (m_M_locator).2.1 135 = .ok (.getfield 35, 3) := by decide +kernel
theorem d_M_locator_138 : decode (m_M_locator).2.1 138 = .ok (.iload_n 1, 1) := by decide +kernel
theorem d_M_locator_139 : decode (m_M_locator).2.1 139 = .ok (.iaload, 1) := by decide +kernel
theorem d_M_locator_140 : decode (m_M_locator).2.1 140 = .ok (.ireturn, 1) := by decide +kernel
theorem d_M_pairs_0 : decode (m_M_pairs).2.1 0 = .ok (.iload_n 1, 1) := by decide +kernel
theorem d_M_pairs_1 : decode (m_M_pairs).2.1 1 = .ok (.iload_n 1, 1) := by decide +kernel
theorem d_M_pairs_2 : decode (m_M_pairs).2.1 2 = .ok (.iconst 1, 1) := by decide +kernel
theorem d_M_pairs_3 : decode (m_M_pairs).2.1 3 = .ok (.iadd, 1) := by decide +kernel
theorem d_M_pairs_4 : decode (m_M_pairs).2.1 4 = .ok (.imul, 1) := by decide +kernel
theorem d_M_pairs_5 : decode (m_M_pairs).2.1 5 = .ok (.iconst 2, 1) := by decide +kernel
theorem d_M_pairs_6 : decode (m_M_pairs).2.1 6 = .ok (.idiv, 1) := by decide +kernel
theorem d_M_pairs_7 : decode (m_M_pairs).2.1 7 = .ok (.ireturn, 1) := by decide +kernel
theorem d_M_boundFor_0 : decode (m_M_boundFor).2.1 0 = .ok (.iconst (-1), 1) := by decide +kernel
theorem d_M_boundFor_1 : decode (m_M_boundFor).2.1 1 = .ok (.istore_n 3, 1) := by decide +kernel
theorem d_M_boundFor_2 : decode (m_M_boundFor).2.1 2 = .ok (.iconst 0, 1) := by decide +kernel
theorem d_M_boundFor_3 : decode (m_M_boundFor).2.1 3 = .ok (.istore 4, 2) := by decide +kernel
theorem d_M_boundFor_5 : decode (m_M_boundFor).2.1 5 = .ok (.iload 4, 2) := by decide +kernel
theorem d_M_boundFor_7 : decode (m_M_boundFor).2.1 7 = .ok (.iload_n 2, 1) := by decide +kernel
theorem d_M_boundFor_8 : decode (m_M_boundFor).2.1 8 = .ok (.aload_n 0, 1) := by decide +kernel
theorem d_M_boundFor_9 : decode (m_M_boundFor).2.1 9 = .ok (.iload_n 1, 1) := by decide +kernel
theorem d_M_boundFor_10 : decode (m_M_boundFor).2.1 10 = .ok (.invokevirtual 133, 3) := by decide +kernel
theorem d_M_boundFor_13 : decode (m_M_boundFor).2.1 13 = .ok (.imul, 1) := by decide +kernel
theorem d_M_boundFor_14 : decode (m_M_boundFor).2.1 14 = .ok (.if_icmp .gt 24, 3) := by decide +kernel
theorem d_M_boundFor_17 : decode (m_M_boundFor).2.1 17 = .ok (.iinc 3 1, 3) := by decide +kernel
theorem d_M_boundFor_20 : decode (m_M_boundFor).2.1 20 = .ok (.iload 4, 2) := by decide +kernel
theorem d_M_boundFor_22 : decode (m_M_boundFor).2.1 22 = .ok (.iload_n 3, 1) := by decide +kernel
theorem d_M_boundFor_23 : decode (m_M_boundFor).2.1 23 = .ok (.aload_n 0, 1) := by decide +kernel
theorem d_M_boundFor_24 : decode (m_M_boundFor).2.1 24 = .ok (.getfield 90, 3) := by decide +kernel
theorem d_M_boundFor_27 : decode (m_M_boundFor).2.1 27 = .ok (.iconst 1, 1) := by decide +kernel
theorem d_M_boundFor_28 : decode (m_M_boundFor).2.1 28 = .ok (.isub, 1) := by decide +kernel
theorem d_M_boundFor_29 : decode (m_M_boundFor).2.1 29 = .ok (.idiv, 1) := by decide +kernel
theorem d_M_boundFor_30 : decode (m_M_boundFor).2.1 30 = .ok (.iadd, 1) := by decide +kernel
theorem d_M_boundFor_31 : decode (m_M_boundFor).2.1 31 = .ok (.iconst 1, 1) := by decide +kernel
theorem d_M_boundFor_32 : decode (m_M_boundFor).2.1 32 = .ok (.iadd, 1) := by decide +kernel
theorem d_M_boundFor_33 : decode (m_M_boundFor).2.1 33 = .ok (.istore 4, 2) := by decide +kernel
theorem d_M_boundFor_35 : decode (m_M_boundFor).2.1 35 = .ok (.goto (-30), 3) := by decide +kernel
theorem d_M_boundFor_38 : decode (m_M_boundFor).2.1 38 = .ok (.iload_n 3, 1) := by decide +kernel
theorem d_M_boundFor_39 : decode (m_M_boundFor).2.1 39 = .ok (.ireturn, 1) := by decide +kernel
theorem d_M_radiusFor_0 : decode (m_M_radiusFor).2.1 0 = .ok (.iload_n 2, 1) := by decide +kernel
theorem d_M_radiusFor_1 : decode (m_M_radiusFor).2.1 1 = .ok (.aload_n 0, 1) := by decide +kernel
theorem d_M_radiusFor_2 : decode (m_M_radiusFor).2.1 2 = .ok (.getfield 90, 3) := by decide +kernel
theorem d_M_radiusFor_5 : decode (m_M_radiusFor).2.1 5 = .ok (.isub, 1) := by decide +kernel
theorem d_M_radiusFor_6 : decode (m_M_radiusFor).2.1 6 = .ok (.iconst 2, 1) := by decide +kernel
theorem d_M_radiusFor_7 : decode (m_M_radiusFor).2.1 7 = .ok (.idiv, 1) := by decide +kernel
theorem d_M_radiusFor_8 : decode (m_M_radiusFor).2.1 8 = .ok (.istore_n 3, 1) := by decide +kernel
theorem d_M_radiusFor_9 : decode (m_M_radiusFor).2.1 9 = .ok (.iload_n 2, 1) := by decide +kernel
theorem d_M_radiusFor_10 : decode (m_M_radiusFor).2.1 10 = .ok (.iconst 1, 1) := by decide +kernel
theorem d_M_radiusFor_11 : decode (m_M_radiusFor).2.1 11 = .ok (.isub, 1) := by decide +kernel
theorem d_M_radiusFor_12 : decode (m_M_radiusFor).2.1 12 = .ok (.aload_n 0, 1) := by decide +kernel
theorem d_M_radiusFor_13 : decode (m_M_radiusFor).2.1 13 = .ok (.iload_n 1, 1) := by decide +kernel
theorem d_M_radiusFor_14 : decode (m_M_radiusFor).2.1 14 = .ok (.iload_n 2, 1) := by decide +kernel
theorem d_M_radiusFor_15 : decode (m_M_radiusFor).2.1 15 = .ok (.invokevirtual 136, 3) := by decide +kernel
theorem d_M_radiusFor_18 : decode (m_M_radiusFor).2.1 18 = .ok (.iload_n 1, 1) := by decide +kernel
theorem d_M_radiusFor_19 : decode (m_M_radiusFor).2.1 19 = .ok (.idiv, 1) := by decide +kernel
theorem d_M_radiusFor_20 : decode (m_M_radiusFor).2.1 20 = .ok (.isub, 1) := by decide +kernel
theorem d_M_radiusFor_21 : decode (m_M_radiusFor).2.1 21 = .ok (.istore 4, 2) := by decide +kernel
theorem d_M_radiusFor_23 : decode (m_M_radiusFor).2.1 23 = .ok (.iload 4, 2) := by decide +kernel
theorem d_M_radiusFor_25 : decode (m_M_radiusFor).2.1 25 = .ok (.iload_n 3, 1) := by decide +kernel
theorem d_M_radiusFor_26 : decode (m_M_radiusFor).2.1 26 = .ok (.if_icmp .le 8, 3) := by decide +kernel
theorem d_M_radiusFor_29 : decode (m_M_radiusFor).2.1 29 = .ok (.iload 4, 2) := by decide +kernel
theorem d_M_radiusFor_31 : decode (m_M_radiusFor).2.1 31 = .ok (.goto 4, 3) := by decide +kernel
theorem d_M_radiusFor_34 : decode (m_M_radiusFor).2.1 34 = .ok (.iload_n 3, 1) := by decide +kernel
theorem d_M_radiusFor_35 : decode (m_M_radiusFor).2.1 35 = .ok (.ireturn, 1) := by decide +kernel
theorem d_M_isBefore_0 : decode (m_M_isBefore).2.1 0 = .ok (.iconst 0, 1) := by decide +kernel
theorem d_M_isBefore_1 : decode (m_M_isBefore).2.1 1 = .ok (.istore_n 3, 1) := by decide +kernel
theorem d_M_isBefore_2 : decode (m_M_isBefore).2.1 2 = .ok (.iload_n 3, 1) := by decide +kernel
theorem d_M_isBefore_3 : decode (m_M_isBefore).2.1 3 = .ok (.aload_n 0, 1) := by decide +kernel
theorem d_M_isBefore_4 : decode (m_M_isBefore).2.1 4 = .ok (.getfield 87, 3) := by decide +kernel
theorem d_M_isBefore_7 : decode (m_M_isBefore).2.1 7 = .ok (.iconst 1, 1) := by decide +kernel
theorem d_M_isBefore_8 : decode (m_M_isBefore).2.1 8 = .ok (.isub, 1) := by decide +kernel
theorem d_M_isBefore_9 : decode (m_M_isBefore).2.1 9 = .ok (.if_icmp .ge 24, 3) := by decide +kernel
theorem d_M_isBefore_12 : decode (m_M_isBefore).2.1 12 = .ok (.aload_n 0, 1) := by decide +kernel
theorem d_M_isBefore_13 : decode (m_M_isBefore).2.1 13 = .ok (.iload_n 1, 1) := by decide +kernel
theorem d_M_isBefore_14 : decode (m_M_isBefore).2.1 14 = .ok (.iload_n 3, 1) := by decide +kernel
theorem d_M_isBefore_15 : decode (m_M_isBefore).2.1 15 = .ok (.invokevirtual 102, 3) := by decide +kernel
theorem d_M_isBefore_18 : decode (m_M_isBefore).2.1 18 = .ok (.aload_n 0, 1) := by decide +kernel
theorem d_M_isBefore_19 : decode (m_M_isBefore).2.1 19 = .ok (.iload_n 2, 1) := by decide +kernel
theorem d_M_isBefore_20 : decode (m_M_isBefore).2.1 20 = .ok (.iload_n 3, 1) := by decide +kernel
theorem d_M_isBefore_21 : decode (m_M_isBefore).2.1 21 = .ok (.invokevirtual 102, 3) := by decide +kernel
theorem d_M_isBefore_24 : decode (m_M_isBefore).2.1 24 = .ok (.if_icmp .ne 9, 3) := by decide +kernel
theorem d_M_isBefore_27 : decode (m_M_isBefore).2.1 27 = .ok (.iinc 3 1, 3) := by decide +kernel
theorem d_M_isBefore_30 : decode (m_M_isBefore).2.1 30 = .ok (.goto (-28), 3) := by decide +kernel
theorem d_M_isBefore_33 : decode (m_M_isBefore).2.1 33 = .ok (.aload_n 0, 1) := by decide +kernel
theorem d_M_isBefore_34 : decode (m_M_isBefore).2.1 34 = .ok (.iload_n 1, 1) := by decide +kernel
theorem d_M_isBefore_35 : decode (m_M_isBefore).2.1 35 = .ok (.iload_n 3, 1) := by decide +kernel
theorem d_M_isBefore_36 : decode (m_M_isBefore).2.1 36 = .ok (.invokevirtual 102, 3) := by decide +kernel
theorem d_M_isBefore_39 : decode (m_M_isBefore).2.1 39 = .ok (.aload_n 0, 1) := by decide +kernel
theorem d_M_isBefore_40 : decode (m_M_isBefore).2.1 40 = .ok (.iload_n 2, 1) := by decide +kernel
theorem d_M_isBefore_41 : decode (m_M_isBefore).2.1 41 = .ok (.iload_n 3, 1) := by decide +kernel
theorem d_M_isBefore_42 : decode (m_M_isBefore).2.1 42 = .ok (.invokevirtual 102, 3) := by decide +kernel
theorem d_M_isBefore_45 : decode (m_M_isBefore).2.1 45 = .ok (.if_icmp .ge 7, 3) := by decide +kernel
theorem d_M_isBefore_48 : decode (m_M_isBefore).2.1 48 = .ok (.iconst 1, 1) := by decide +kernel
theorem d_M_isBefore_49 : decode (m_M_isBefore).2.1 49 = .ok (.goto 4, 3) := by decide +kernel
theorem d_M_isBefore_52 : decode (m_M_isBefore).2.1 52 = .ok (.iconst 0, 1) := by decide +kernel
theorem d_M_isBefore_53 : decode (m_M_isBefore).2.1 53 = .ok (.ireturn, 1) := by decide +kernel
theorem d_M_list_0 : decode (m_M_list).2.1 0 = .ok (.iload_n 1, 1) := by decide +kernel
theorem d_M_list_1 : decode (m_M_list).2.1 1 = .ok (.iconst 1, 1) := by decide +kernel
theorem d_M_list_2 : decode (m_M_list).2.1 2 = .ok (.if_icmp .lt 8, 3) := by decide +kernel
theorem d_M_list_5 : decode (m_M_list).2.1 5 = .ok (.iload_n 1, 1) := by decide +kernel
theorem d_M_list_6 : decode (m_M_list).2.1 6 = .ok (.iconst 3, 1) := by decide +kernel
theorem d_M_list_7 : decode (m_M_list).2.1 7 = .ok (.if_icmp .le 5, 3) := by decide +kernel
theorem d_M_list_10 : decode (m_M_list).2.1 10 = .ok (.iconst (-1), 1) := by decide +kernel
theorem d_M_list_11 : decode (m_M_list).2.1 11 = .ok (.ireturn, 1) := by decide +kernel
theorem d_M_list_12 : decode (m_M_list).2.1 12 = .ok (.aload_n 0, 1) := by decide +kernel
theorem d_M_list_13 : decode (m_M_list).2.1 13 = .ok (.invokevirtual 127, 3) := by decide +kernel
theorem d_M_list_16 : decode (m_M_list).2.1 16 = .ok (.istore_n 2, 1) := by decide +kernel
theorem d_M_list_17 : decode (m_M_list).2.1 17 = .ok (.iload_n 2, 1) := by decide +kernel
theorem d_M_list_18 : decode (m_M_list).2.1 18 = .ok (.aload_n 0, 1) := by decide +kernel
theorem d_M_list_19 : decode (m_M_list).2.1 19 = .ok (.getfield 90, 3) := by decide +kernel
theorem d_M_list_22 : decode (m_M_list).2.1 22 = .ok (.if_icmp .ge 6, 3) := by decide +kernel
theorem d_M_list_25 : decode (m_M_list).2.1 25 = .ok (.bipush (-3), 2) := by decide +kernel
theorem d_M_list_27 : decode (m_M_list).2.1 27 = .ok (.ireturn, 1) := by decide +kernel
theorem d_M_list_28 : decode (m_M_list).2.1 28 = .ok (.aload_n 0, 1) := by decide +kernel
theorem d_M_list_29 : decode (m_M_list).2.1 29 = .ok (.iload_n 1, 1) := by decide +kernel
theorem d_M_list_30 : decode (m_M_list).2.1 30 = .ok (.iload_n 2, 1) := by decide +kernel
theorem d_M_list_31 : decode (m_M_list).2.1 31 = .ok (.invokevirtual 139, 3) := by decide +kernel
theorem d_M_list_34 : decode (m_M_list).2.1 34 = .ok (.istore_n 3, 1) := by decide +kernel
theorem d_M_list_35 : decode (m_M_list).2.1 35 = .ok (.aload_n 0, 1) := by decide +kernel
theorem d_M_list_36 : decode (m_M_list).2.1 36 = .ok (.iconst 0, 1) := by decide +kernel
theorem d_M_list_37 : decode (m_M_list).2.1 37 = .ok (.putfield 96, 3) := by decide +kernel
theorem d_M_list_40 : decode (m_M_list).2.1 40 = .ok (.iconst 0, 1) := by decide +kernel
theorem d_M_list_41 : decode (m_M_list).2.1 41 = .ok (.istore 4, 2) := by decide +kernel
theorem d_M_list_43 : decode (m_M_list).2.1 43 = .ok (.iload 4, 2) := by decide +kernel
theorem d_M_list_45 : decode (m_M_list).2.1 45 = .ok (.aload_n 0, 1) := by decide +kernel
theorem d_M_list_46 : decode (m_M_list).2.1 46 = .ok (.invokevirtual 105, 3) := by decide +kernel
theorem d_M_list_49 : decode (m_M_list).2.1 49 = .ok (.if_icmp .ge 119, 3) := by decide +kernel
theorem d_M_list_52 : decode (m_M_list).2.1 52 = .ok (.aload_n 0, 1) := by decide +kernel
theorem d_M_list_53 : decode (m_M_list).2.1 53 = .ok (.iload 4, 2) := by decide +kernel
theorem d_M_list_55 : decode (m_M_list).2.1 55 = .ok (.iload_n 3, 1) := by decide +kernel
theorem d_M_list_56 : decode (m_M_list).2.1 56 = .ok (.invokevirtual 130, 3) := by decide +kernel
theorem d_M_list_59 : decode (m_M_list).2.1 59 = .ok (.istore 5, 2) := by decide +kernel
theorem d_M_list_61 : decode (m_M_list).2.1 61 = .ok (.iload 5, 2) := by decide +kernel
theorem d_M_list_63 : decode (m_M_list).2.1 63 = .ok (.iload_n 3, 1) := by decide +kernel
theorem d_M_list_64 : decode (m_M_list).2.1 64 = .ok (.if_icmp .gt 98, 3) := by decide +kernel
theorem d_M_list_67 : decode (m_M_list).2.1 67 = .ok (.aload_n 0, 1) := by decide +kernel
theorem d_M_list_68 : decode (m_M_list).2.1 68 = .ok (.getfield 96, 3) := by decide +kernel
theorem d_M_list_71 : decode (m_M_list).2.1 71 = .ok (.istore 6, 2) := by decide +kernel
theorem d_M_list_73 : decode (m_M_list).2.1 73 = .ok (.iload 6, 2) := by decide +kernel
theorem d_M_list_75 : decode (m_M_list).2.1 75 = .ok (.ifCond .le 59, 3) := by decide +kernel
theorem d_M_list_78 : decode (m_M_list).2.1 78 = .ok (.aload_n 0, 1) := by decide +kernel
theorem d_M_list_79 : decode (m_M_list).2.1 79 = .ok (.iload 4, 2) := by decide +kernel
theorem d_M_list_81 : decode (m_M_list).2.1 81 = .ok (.aload_n 0, 1) := by decide +kernel
theorem d_M_list_82 : decode (m_M_list).2.1 82 = .ok (.getfield 38, 3) := by decide +kernel
theorem d_M_list_85 : decode (m_M_list).2.1 85 = .ok (.iload 6, 2) := by decide +kernel
theorem d_M_list_87 : decode (m_M_list).2.1 87 = .ok (.iconst 1, 1) := by decide +kernel
theorem d_M_list_88 : decode (m_M_list).2.1 88 = .ok (.isub, 1) := by decide +kernel
theorem d_M_list_89 : decode (m_M_list).2.1 89 = .ok (.iaload, 1) := by decide +kernel
theorem d_M_list_90 : decode (m_M_list).2.1 90 = .ok (.invokevirtual 142, 3) := by decide +kernel
theorem d_M_list_93 : decode (m_M_list).2.1 93 = .ok (.ifCond .eq 41, 3) := by decide +kernel
theorem d_M_list_96 : decode (m_M_list).2.1 96 = .ok (.aload_n 0, 1) := by decide +kernel
theorem d_M_list_97 : decode (m_M_list).2.1 97 = .ok (.getfield 38, 3) := by decide +kernel
theorem d_M_list_100 : decode (m_M_list).2.1 100 = .ok (.iload 6, 2) := by decide +kernel
theorem d_M_list_102 : decode (m_M_list).2.1 102 = .ok (.aload_n 0, 1) := by decide +kernel
theorem d_M_list_103 : decode (m_M_list).2.1 103 = .ok (.getfield 38, 3) := by decide +kernel
theorem d_M_list_106 : decode (m_M_list).2.1 106 = .ok (.iload 6, 2) := by decide +kernel
theorem d_M_list_108 : decode (m_M_list).2.1 108 = .ok (.iconst 1, 1) := by decide +kernel
theorem d_M_list_109 : decode (m_M_list).2.1 109 = .ok (.isub, 1) := by decide +kernel
theorem d_M_list_110 : decode (m_M_list).2.1 110 = .ok (.iaload, 1) := by decide +kernel
theorem d_M_list_111 : decode (m_M_list).2.1 111 = .ok (.iastore, 1) := by decide +kernel
theorem d_M_list_112 : decode (m_M_list).2.1 112 = .ok (.aload_n 0, 1) := by decide +kernel
theorem d_M_list_113 : decode (m_M_list).2.1 113 = .ok (.getfield 41, 3) := by decide +kernel
theorem d_M_list_116 : decode (m_M_list).2.1 116 = .ok (.iload 6, 2) := by decide +kernel
theorem d_M_list_118 : decode (m_M_list).2.1 118 = .ok (.aload_n 0, 1) := by decide +kernel
theorem d_M_list_119 : decode (m_M_list).2.1 119 = .ok (.getfield 41, 3) := by decide +kernel
theorem d_M_list_122 : decode (m_M_list).2.1 122 = .ok (.iload 6, 2) := by decide +kernel
theorem d_M_list_124 : decode (m_M_list).2.1 124 = .ok (.iconst 1, 1) := by decide +kernel
theorem d_M_list_125 : decode (m_M_list).2.1 125 = .ok (.isub, 1) := by decide +kernel
theorem d_M_list_126 : decode (m_M_list).2.1 126 = .ok (.iaload, 1) := by decide +kernel
theorem d_M_list_127 : decode (m_M_list).2.1 127 = .ok (.iastore, 1) := by decide +kernel
theorem d_M_list_128 : decode (m_M_list).2.1 128 = .ok (.iinc 6 (-1), 3) := by decide +kernel
theorem d_M_list_131 : decode (m_M_list).2.1 131 = .ok (.goto (-58), 3) := by decide +kernel
theorem d_M_list_134 : decode (m_M_list).2.1 134 = .ok (.aload_n 0, 1) := by decide +kernel
theorem d_M_list_135 : decode (m_M_list).2.1 135 = .ok (.getfield 38, 3) := by decide +kernel
theorem d_M_list_138 : decode (m_M_list).2.1 138 = .ok (.iload 6, 2) := by decide +kernel
theorem d_M_list_140 : decode (m_M_list).2.1 140 = .ok (.iload 4, 2) := by decide +kernel
theorem d_M_list_142 : decode (m_M_list).2.1 142 = .ok (.iastore, 1) := by decide +kernel
theorem d_M_list_143 : decode (m_M_list).2.1 143 = .ok (.aload_n 0, 1) := by decide +kernel
theorem d_M_list_144 : decode (m_M_list).2.1 144 = .ok (.getfield 41, 3) := by decide +kernel
theorem d_M_list_147 : decode (m_M_list).2.1 147 = .ok (.iload 6, 2) := by decide +kernel
theorem d_M_list_149 : decode (m_M_list).2.1 149 = .ok (.iload 5, 2) := by decide +kernel
theorem d_M_list_151 : decode (m_M_list).2.1 151 = .ok (.iastore, 1) := by decide +kernel
theorem d_M_list_152 : decode (m_M_list).2.1 152 = .ok (.aload_n 0, 1) := by decide +kernel
theorem d_M_list_153 : decode (m_M_list).2.1 153 = .ok (.dup, 1) := by decide +kernel
theorem d_M_list_154 : decode (m_M_list).2.1 154 = .ok (.getfield 96, 3) := by decide +kernel
theorem d_M_list_157 : decode (m_M_list).2.1 157 = .ok (.iconst 1, 1) := by decide +kernel
theorem d_M_list_158 : decode (m_M_list).2.1 158 = .ok (.iadd, 1) := by decide +kernel
theorem d_M_list_159 : decode (m_M_list).2.1 159 = .ok (.putfield 96, 3) := by decide +kernel
theorem d_M_list_162 : decode (m_M_list).2.1 162 = .ok (.iinc 4 1, 3) := by decide +kernel
theorem d_M_list_165 : decode (m_M_list).2.1 165 = .ok (.goto (-122), 3) := by decide +kernel
theorem d_M_list_168 : decode (m_M_list).2.1 168 = .ok (.aload_n 0, 1) := by decide +kernel
theorem d_M_list_169 : decode (m_M_list).2.1 169 = .ok (.getfield 96, 3) := by decide +kernel
theorem d_M_list_172 : decode (m_M_list).2.1 172 = .ok (.ireturn, 1) := by decide +kernel
theorem d_M_listed_0 : decode (m_M_listed).2.1 0 = .ok (.iload_n 1, 1) := by decide +kernel
theorem d_M_listed_1 : decode (m_M_listed).2.1 1 = .ok (.ifCond .lt 19, 3) := by decide +kernel
theorem d_M_listed_4 : decode (m_M_listed).2.1 4 = .ok (.iload_n 1, 1) := by decide +kernel
theorem d_M_listed_5 : decode (m_M_listed).2.1 5 = .ok (.aload_n 0, 1) := by decide +kernel
theorem d_M_listed_6 : decode (m_M_listed).2.1 6 = .ok (.getfield 96, 3) := by decide +kernel
theorem d_M_listed_9 : decode (m_M_listed).2.1 9 = .ok (.if_icmp .ge 11, 3) := by decide +kernel
theorem d_M_listed_12 : decode (m_M_listed).2.1 12 = .ok (.aload_n 0, 1) := by decide +kernel
theorem d_M_listed_13 : decode (m_M_listed).2.1 13 = .ok (.iload_n 2, 1) := by decide +kernel
theorem d_M_listed_14 : decode (m_M_listed).2.1 14 = .ok (.invokevirtual 117, 3) := by decide +kernel
theorem d_M_listed_17 : decode (m_M_listed).2.1 17 = .ok (.ifCond .ne 7, 3) := by decide +kernel
theorem d_M_listed_20 : decode (m_M_listed).2.1 20 = .ok (.iconst (-1), 1) := by decide +kernel
theorem d_M_listed_21 : decode (m_M_listed).2.1 21 = .ok (.goto 14, 3) := by decide +kernel
theorem d_M_listed_24 : decode (m_M_listed).2.1 24 = .ok (.aload_n 0, 1) := by decide +kernel
theorem d_M_listed_25 : decode (m_M_listed).2.1 25 = .ok (.aload_n 0, 1) := by decide +kernel
theorem d_M_listed_26 : decode (m_M_listed).2.1 26 = .ok (.getfield 38, 3) := by decide +kernel
theorem d_M_listed_29 : decode (m_M_listed).2.1 29 = .ok (.iload_n 1, 1) := by decide +kernel
theorem d_M_listed_30 : decode (m_M_listed).2.1 30 = .ok (.iaload, 1) := by decide +kernel
theorem d_M_listed_31 : decode (m_M_listed).2.1 31 = .ok (.iload_n 2, 1) := by decide +kernel
theorem d_M_listed_32 : decode (m_M_listed).2.1 32 = .ok (.invokevirtual 102, 3) := by decide +kernel
theorem d_M_listed_35 : decode (m_M_listed).2.1 35 = .ok (.ireturn, 1) := by decide +kernel
theorem d_M_distance_0 : decode (m_M_distance).2.1 0 = .ok (.iload_n 1, 1) := by decide +kernel
theorem d_M_distance_1 : decode (m_M_distance).2.1 1 = .ok (.ifCond .lt 11, 3) := by decide +kernel
theorem d_M_distance_4 : decode (m_M_distance).2.1 4 = .ok (.iload_n 1, 1) := by decide +kernel
theorem d_M_distance_5 : decode (m_M_distance).2.1 5 = .ok (.aload_n 0, 1) := by decide +kernel
theorem d_M_distance_6 : decode (m_M_distance).2.1 6 = .ok (.getfield 96, 3) := by decide +kernel
theorem d_M_distance_9 : decode (m_M_distance).2.1 9 = .ok (.if_icmp .lt 7, 3) := by decide +kernel
theorem d_M_distance_12 : decode (m_M_distance).2.1 12 = .ok (.iconst (-1), 1) := by decide +kernel
theorem d_M_distance_13 : decode (m_M_distance).2.1 13 = .ok (.goto 9, 3) := by decide +kernel
theorem d_M_distance_16 : decode (m_M_distance).2.1 16 = .ok (.aload_n 0, 1) := by decide +kernel
theorem d_M_distance_17 : decode (m_M_distance).2.1 17 = .ok (.getfield 41, 3) := by decide +kernel
theorem d_M_distance_20 : decode (m_M_distance).2.1 20 = .ok (.iload_n 1, 1) := by decide +kernel
theorem d_M_distance_21 : decode (m_M_distance).2.1 21 = .ok (.iaload, 1) := by decide +kernel
theorem d_M_distance_22 : decode (m_M_distance).2.1 22 = .ok (.ireturn, 1) := by decide +kernel
theorem d_M_radius_0 : decode (m_M_radius).2.1 0 = .ok (.iload_n 1, 1) := by decide +kernel
theorem d_M_radius_1 : decode (m_M_radius).2.1 1 = .ok (.iconst 1, 1) := by decide +kernel
theorem d_M_radius_2 : decode (m_M_radius).2.1 2 = .ok (.if_icmp .lt 8, 3) := by decide +kernel
theorem d_M_radius_5 : decode (m_M_radius).2.1 5 = .ok (.iload_n 1, 1) := by decide +kernel
theorem d_M_radius_6 : decode (m_M_radius).2.1 6 = .ok (.iconst 3, 1) := by decide +kernel
theorem d_M_radius_7 : decode (m_M_radius).2.1 7 = .ok (.if_icmp .le 5, 3) := by decide +kernel
theorem d_M_radius_10 : decode (m_M_radius).2.1 10 = .ok (.iconst (-1), 1) := by decide +kernel
theorem d_M_radius_11 : decode (m_M_radius).2.1 11 = .ok (.ireturn, 1) := by decide +kernel
theorem d_M_radius_12 : decode (m_M_radius).2.1 12 = .ok (.aload_n 0, 1) := by decide +kernel
theorem d_M_radius_13 : decode (m_M_radius).2.1 13 = .ok (.invokevirtual 127, 3) := by decide +kernel
theorem d_M_radius_16 : decode (m_M_radius).2.1 16 = .ok (.istore_n 2, 1) := by decide +kernel
theorem d_M_radius_17 : decode (m_M_radius).2.1 17 = .ok (.iload_n 2, 1) := by decide +kernel
theorem d_M_radius_18 : decode (m_M_radius).2.1 18 = .ok (.aload_n 0, 1) := by decide +kernel
theorem d_M_radius_19 : decode (m_M_radius).2.1 19 = .ok (.getfield 90, 3) := by decide +kernel
theorem d_M_radius_22 : decode (m_M_radius).2.1 22 = .ok (.if_icmp .ge 8, 3) := by decide +kernel
theorem d_M_radius_25 : decode (m_M_radius).2.1 25 = .ok (.bipush (-3), 2) := by decide +kernel
theorem d_M_radius_27 : decode (m_M_radius).2.1 27 = .ok (.goto 9, 3) := by decide +kernel
theorem d_M_radius_30 : decode (m_M_radius).2.1 30 = .ok (.aload_n 0, 1) := by decide +kernel
theorem d_M_radius_31 : decode (m_M_radius).2.1 31 = .ok (.iload_n 1, 1) := by decide +kernel
theorem d_M_radius_32 : decode (m_M_radius).2.1 32 = .ok (.iload_n 2, 1) := by decide +kernel
theorem d_M_radius_33 : decode (m_M_radius).2.1 33 = .ok (.invokevirtual 139, 3) := by decide +kernel
theorem d_M_radius_36 : decode (m_M_radius).2.1 36 = .ok (.ireturn, 1) := by decide +kernel
theorem d_M_condition_0 : decode (m_M_condition).2.1 0 = .ok (.iload_n 1, 1) := by decide +kernel
theorem d_M_condition_1 : decode (m_M_condition).2.1 1 = .ok (.iload_n 3, 1) := by decide +kernel
theorem d_M_condition_2 : decode (m_M_condition).2.1 2 = .ok (.iand, 1) := by decide +kernel
theorem d_M_condition_3 : decode (m_M_condition).2.1 3 = .ok (.iload_n 3, 1) := by decide +kernel
theorem d_M_condition_4 : decode (m_M_condition).2.1 4 = .ok (.if_icmp .ne 16, 3) := by decide +kernel
theorem d_M_condition_7 : decode (m_M_condition).2.1 7 = .ok (.iload_n 2, 1) := by decide +kernel
theorem d_M_condition_8 : decode (m_M_condition).2.1 8 = .ok (.iload 4, 2) := by decide +kernel
theorem d_M_condition_10 : decode (m_M_condition).2.1 10 = .ok (.iand, 1) := by decide +kernel
theorem d_M_condition_11 : decode (m_M_condition).2.1 11 = .ok (.iload 4, 2) := by decide +kernel
theorem d_M_condition_13 : decode (m_M_condition).2.1 13 = .ok (.if_icmp .ne 7, 3) := by decide +kernel
theorem d_M_condition_16 : decode (m_M_condition).2.1 16 = .ok (.iconst 1, 1) := by decide +kernel
theorem d_M_condition_17 : decode (m_M_condition).2.1 17 = .ok (.goto 4, 3) := by decide +kernel
theorem d_M_condition_20 : decode (m_M_condition).2.1 20 = .ok (.iconst 0, 1) := by decide +kernel
theorem d_M_condition_21 : decode (m_M_condition).2.1 21 = .ok (.istore 6, 2) := by decide +kernel
theorem d_M_condition_23 : decode (m_M_condition).2.1 23 = .ok (.iload 6, 2) := by decide +kernel
theorem d_M_condition_25 : decode (m_M_condition).2.1 25 = .ok (.ifCond .ne 5, 3) := by decide +kernel
theorem d_M_condition_28 : decode (m_M_condition).2.1 28 = .ok (.iconst 0, 1) := by decide +kernel
theorem d_M_condition_29 : decode (m_M_condition).2.1 29 = .ok (.ireturn, 1) := by decide +kernel
theorem d_M_condition_30 : decode (m_M_condition).2.1 30 = .ok (.aload_n 0, 1) := by decide +kernel
theorem d_M_condition_31 : decode (m_M_condition).2.1 31 = .ok (.getfield 84, 3) := by decide +kernel
theorem d_M_condition_34 : decode (m_M_condition).2.1 34 = .ok (.ifCond .ne 7, 3) := by decide +kernel
theorem d_M_condition_37 : decode (m_M_condition).2.1 37 = .ok (.iconst 1, 1) := by decide +kernel
theorem d_M_condition_38 : decode (m_M_condition).2.1 38 = .ok (.goto 30, 3) := by decide +kernel
theorem d_M_condition_41 : decode (m_M_condition).2.1 41 = .ok (.aload_n 0, 1) := by decide +kernel
theorem d_M_condition_42 : decode (m_M_condition).2.1 42 = .ok (.iconst 1, 1) := by decide +kernel
theorem d_M_condition_43 : decode (m_M_condition).2.1 43 = .ok (.aload_n 0, 1) := by decide +kernel
theorem d_M_condition_44 : decode (m_M_condition).2.1 44 = .ok (.getfield 7, 3) := by decide +kernel
theorem d_M_condition_47 : decode (m_M_condition).2.1 47 = .ok (.bipush 32, 2) := by decide +kernel
theorem d_M_condition_49 : decode (m_M_condition).2.1 49 = .ok (.aload_n 0, 1) := by decide +kernel
theorem d_M_condition_50 : decode (m_M_condition).2.1 50 = .ok (.getfield 13, 3) := by decide +kernel
theorem d_M_condition_53 : decode (m_M_condition).2.1 53 = .ok (.iload 5, 2) := by decide +kernel
theorem d_M_condition_55 : decode (m_M_condition).2.1 55 = .ok (.iaload, 1) := by decide +kernel
theorem d_M_condition_56 : decode (m_M_condition).2.1 56 = .ok (.imul, 1) := by decide +kernel
theorem d_M_condition_57 : decode (m_M_condition).2.1 57 = .ok (.aload_n 0, 1) := by decide +kernel
theorem d_M_condition_58 : decode (m_M_condition).2.1 58 = .ok (.iload 5, 2) := by decide +kernel
theorem d_M_condition_60 : decode (m_M_condition).2.1 60 = .ok (.invokevirtual 120, 3) := by decide +kernel
theorem d_M_condition_63 : decode (m_M_condition).2.1 63 = .ok (.iadd, 1) := by decide +kernel
theorem d_M_condition_64 : decode (m_M_condition).2.1 64 = .ok (.iaload, 1) := by decide +kernel
theorem d_M_condition_65 : decode (m_M_condition).2.1 65 = .ok (.invokevirtual 80, 3) := by decide +kernel
theorem d_M_condition_68 : decode (m_M_condition).2.1 68 = .ok (.istore 7, 2) := by decide +kernel
theorem d_M_condition_70 : decode (m_M_condition).2.1 70 = .ok (.aload_n 0, 1) := by decide +kernel
theorem d_M_condition_71 : decode (m_M_condition).2.1 71 = .ok (.aload_n 0, 1) := by decide +kernel
theorem d_M_condition_72 : decode (m_M_condition).2.1 72 = .ok (.getfield 22, 3) := by decide +kernel
theorem d_M_condition_75 : decode (m_M_condition).2.1 75 = .ok (.iload 5, 2) := by decide +kernel
theorem d_M_condition_77 : decode (m_M_condition).2.1 77 = .ok (.iaload, 1) := by decide +kernel
theorem d_M_condition_78 : decode (m_M_condition).2.1 78 = .ok (.iload 7, 2) := by decide +kernel
theorem d_M_condition_80 : decode (m_M_condition).2.1 80 = .ok (.invokevirtual 80, 3) := by decide +kernel
theorem d_M_condition_83 : decode (m_M_condition).2.1 83 = .ok (.istore 8, 2) := by decide +kernel
theorem d_M_condition_85 : decode (m_M_condition).2.1 85 = .ok (.aload_n 0, 1) := by decide +kernel
theorem d_M_condition_86 : decode (m_M_condition).2.1 86 = .ok (.getfield 7, 3) := by decide +kernel
theorem d_M_condition_89 : decode (m_M_condition).2.1 89 = .ok (.bipush 32, 2) := by decide +kernel
theorem d_M_condition_91 : decode (m_M_condition).2.1 91 = .ok (.aload_n 0, 1) := by decide +kernel
theorem d_M_condition_92 : decode (m_M_condition).2.1 92 = .ok (.aload_n 0, 1) := by decide +kernel
theorem d_M_condition_93 : decode (m_M_condition).2.1 93 = .ok (.getfield 13, 3) := by decide +kernel
theorem d_M_condition_96 : decode (m_M_condition).2.1 96 = .ok (.iload 5, 2) := by decide +kernel
theorem d_M_condition_98 : decode (m_M_condition).2.1 98 = .ok (.iaload, 1) := by decide +kernel
theorem d_M_condition_99 : decode (m_M_condition).2.1 99 = .ok (.iload_n 1, 1) := by decide +kernel
theorem d_M_condition_100 : decode (m_M_condition).2.1 100 = .ok (.iload_n 3, 1) := by decide +kernel
theorem d_M_condition_101 : decode (m_M_condition).2.1 101 = .ok (.isub, 1) := by decide +kernel
theorem d_M_condition_102 : decode (m_M_condition).2.1 102 = .ok (.invokevirtual 124, 3) := by decide +kernel
theorem d_M_condition_105 : decode (m_M_condition).2.1 105 = .ok (.imul, 1) := by decide +kernel
theorem d_M_condition_106 : decode (m_M_condition).2.1 106 = .ok (.aload_n 0, 1) := by decide +kernel
theorem d_M_condition_107 : decode (m_M_condition).2.1 107 = .ok (.iload 8, 2) := by decide +kernel
theorem d_M_condition_109 : decode (m_M_condition).2.1 109 = .ok (.iload_n 2, 1) := by decide +kernel
theorem d_M_condition_110 : decode (m_M_condition).2.1 110 = .ok (.iload 4, 2) := by decide +kernel
theorem d_M_condition_112 : decode (m_M_condition).2.1 112 = .ok (.isub, 1) := by decide +kernel
theorem d_M_condition_113 : decode (m_M_condition).2.1 113 = .ok (.invokevirtual 124, 3) := by decide +kernel
theorem d_M_condition_116 : decode (m_M_condition).2.1 116 = .ok (.iadd, 1) := by decide +kernel
theorem d_M_condition_117 : decode (m_M_condition).2.1 117 = .ok (.iaload, 1) := by decide +kernel
theorem d_M_condition_118 : decode (m_M_condition).2.1 118 = .ok (.ireturn, 1) := by decide +kernel
theorem d_M_layTerm_0 : decode (m_M_layTerm).2.1 0 = .ok (.iconst 0, 1) := by decide +kernel
theorem d_M_layTerm_1 : decode (m_M_layTerm).2.1 1 = .ok (.istore 4, 2) := by decide +kernel
theorem d_M_layTerm_3 : decode (m_M_layTerm).2.1 3 = .ok (.iconst 0, 1) := by decide +kernel
theorem d_M_layTerm_4 : decode (m_M_layTerm).2.1 4 = .ok (.istore 5, 2) := by decide +kernel
theorem d_M_layTerm_6 : decode (m_M_layTerm).2.1 6 = .ok (.iload 5, 2) := by decide +kernel
theorem d_M_layTerm_8 : decode (m_M_layTerm).2.1 8 = .ok (.aload_n 0, 1) := by decide +kernel
theorem d_M_layTerm_9 : decode (m_M_layTerm).2.1 9 = .ok (.getfield 87, 3) := by decide +kernel
theorem d_M_layTerm_12 : decode (m_M_layTerm).2.1 12 = .ok (.if_icmp .ge 79, 3) := by decide +kernel
theorem d_M_layTerm_15 : decode (m_M_layTerm).2.1 15 = .ok (.iconst 0, 1) := by decide +kernel
theorem d_M_layTerm_16 : decode (m_M_layTerm).2.1 16 = .ok (.istore 6, 2) := by decide +kernel
theorem d_M_layTerm_18 : decode (m_M_layTerm).2.1 18 = .ok (.iload 6, 2) := by decide +kernel
theorem d_M_layTerm_20 : decode (m_M_layTerm).2.1 20 = .ok (.iload_n 3, 1) := by decide +kernel
theorem d_M_layTerm_21 : decode (m_M_layTerm).2.1 21 = .ok (.iload_n 3, 1) := by decide +kernel
theorem d_M_layTerm_22 : decode (m_M_layTerm).2.1 22 = .ok (.imul, 1) := by decide +kernel
theorem d_M_layTerm_23 : decode (m_M_layTerm).2.1 23 = .ok (.if_icmp .ge 62, 3) := by decide +kernel
theorem d_M_layTerm_26 : decode (m_M_layTerm).2.1 26 = .ok (.aload_n 0, 1) := by decide +kernel
theorem d_M_layTerm_27 : decode (m_M_layTerm).2.1 27 = .ok (.getfield 25, 3) := by decide +kernel
theorem d_M_layTerm_30 : decode (m_M_layTerm).2.1 30 = .ok (.iload 5, 2) := by decide +kernel
theorem d_M_layTerm_32 : decode (m_M_layTerm).2.1 32 = .ok (.baload, 1) := by decide +kernel
theorem d_M_layTerm_33 : decode (m_M_layTerm).2.1 33 = .ok (.ifCond .ne 52, 3) := by decide +kernel
theorem d_M_layTerm_36 : decode (m_M_layTerm).2.1 36 = .ok (.iload 6, 2) := by decide +kernel
theorem d_M_layTerm_38 : decode (m_M_layTerm).2.1 38 = .ok (.iload_n 3, 1) := by decide +kernel
theorem d_M_layTerm_39 : decode (m_M_layTerm).2.1 39 = .ok (.idiv, 1) := by decide +kernel
theorem d_M_layTerm_40 : decode (m_M_layTerm).2.1 40 = .ok (.istore 7, 2) := by decide +kernel
theorem d_M_layTerm_42 : decode (m_M_layTerm).2.1 42 = .ok (.iload 6, 2) := by decide +kernel
theorem d_M_layTerm_44 : decode (m_M_layTerm).2.1 44 = .ok (.iload_n 3, 1) := by decide +kernel
theorem d_M_layTerm_45 : decode (m_M_layTerm).2.1 45 = .ok (.irem, 1) := by decide +kernel
theorem d_M_layTerm_46 : decode (m_M_layTerm).2.1 46 = .ok (.istore 8, 2) := by decide +kernel
theorem d_M_layTerm_48 : decode (m_M_layTerm).2.1 48 = .ok (.iload 7, 2) := by decide +kernel
theorem d_M_layTerm_50 : decode (m_M_layTerm).2.1 50 = .ok (.iload 8, 2) := by decide +kernel
theorem d_M_layTerm_52 : decode (m_M_layTerm).2.1 52 = .ok (.iadd, 1) := by decide +kernel
theorem d_M_layTerm_53 : decode (m_M_layTerm).2.1 53 = .ok (.iload_n 3, 1) := by decide +kernel
theorem d_M_layTerm_54 : decode (m_M_layTerm).2.1 54 = .ok (.if_icmp .ge 25, 3) := by decide +kernel
theorem d_M_layTerm_57 : decode (m_M_layTerm).2.1 57 = .ok (.aload_n 0, 1) := by decide +kernel
theorem d_M_layTerm_58 : decode (m_M_layTerm).2.1 58 = .ok (.getfield 50, 3) := by decide +kernel
theorem d_M_layTerm_61 : decode (m_M_layTerm).2.1 61 = .ok (.iload 4, 2) := by decide +kernel
theorem d_M_layTerm_63 : decode (m_M_layTerm).2.1 63 = .ok (.aload_n 0, 1) := by decide +kernel
theorem d_M_layTerm_64 : decode (m_M_layTerm).2.1 64 = .ok (.iload_n 1, 1) := by decide +kernel
theorem d_M_layTerm_65 : decode (m_M_layTerm).2.1 65 = .ok (.iload_n 2, 1) := by decide +kernel
theorem d_M_layTerm_66 : decode (m_M_layTerm).2.1 66 = .ok (.iload 7, 2) := by decide +kernel
theorem d_M_layTerm_68 : decode (m_M_layTerm).2.1 68 = .ok (.iload 8, 2) := by decide +kernel
theorem d_M_layTerm_70 : decode (m_M_layTerm).2.1 70 = .ok (.iload 5, 2) := by decide +kernel
theorem d_M_layTerm_72 : decode (m_M_layTerm).2.1 72 = .ok (.invokevirtual 145, 3) := by decide +kernel
theorem d_M_layTerm_75 : decode (m_M_layTerm).2.1 75 = .ok (.iastore, 1) := by decide +kernel
theorem d_M_layTerm_76 : decode (m_M_layTerm).2.1 76 = .ok (.iinc 4 1, 3) := by decide +kernel
theorem d_M_layTerm_79 : decode (m_M_layTerm).2.1 79 = .ok (.iinc 6 1, 3) := by decide +kernel
theorem d_M_layTerm_82 : decode (m_M_layTerm).2.1 82 = .ok (.goto (-64), 3) := by decide +kernel
theorem d_M_layTerm_85 : decode (m_M_layTerm).2.1 85 = .ok (.iinc 5 1, 3) := by decide +kernel
theorem d_M_layTerm_88 : decode (m_M_layTerm).2.1 88 = .ok (.goto (-82), 3) := by decide +kernel
theorem d_M_layTerm_91 : decode (m_M_layTerm).2.1 91 = .ok (.iload 4, 2) := by decide +kernel
theorem d_M_layTerm_93 : decode (m_M_layTerm).2.1 93 = .ok (.ireturn, 1) := by decide +kernel
theorem d_M_isNew_0 : decode (m_M_isNew).2.1 0 = .ok (.iconst 0, 1) := by decide +kernel
theorem d_M_isNew_1 : decode (m_M_isNew).2.1 1 = .ok (.istore_n 3, 1) := by decide +kernel
theorem d_M_isNew_2 : decode (m_M_isNew).2.1 2 = .ok (.iload_n 3, 1) := by decide +kernel
theorem d_M_isNew_3 : decode (m_M_isNew).2.1 3 = .ok (.iload_n 2, 1) := by decide +kernel
theorem d_M_isNew_4 : decode (m_M_isNew).2.1 4 = .ok (.if_icmp .ge 85, 3) := by decide +kernel
theorem d_M_isNew_7 : decode (m_M_isNew).2.1 7 = .ok (.aload_n 0, 1) := by decide +kernel
theorem d_M_isNew_8 : decode (m_M_isNew).2.1 8 = .ok (.getfield 50, 3) := by decide +kernel
theorem d_M_isNew_11 : decode (m_M_isNew).2.1 11 = .ok (.aload_n 0, 1) := by decide +kernel
theorem d_M_isNew_12 : decode (m_M_isNew).2.1 12 = .ok (.getfield 47, 3) := by decide +kernel
theorem d_M_isNew_15 : decode (m_M_isNew).2.1 15 = .ok (.iload_n 3, 1) := by decide +kernel
theorem d_M_isNew_16 : decode (m_M_isNew).2.1 16 = .ok (.iaload, 1) := by decide +kernel
theorem d_M_isNew_17 : decode (m_M_isNew).2.1 17 = .ok (.iaload, 1) := by decide +kernel
theorem d_M_isNew_18 : decode (m_M_isNew).2.1 18 = .ok (.istore 4, 2) := by decide +kernel
theorem d_M_isNew_20 : decode (m_M_isNew).2.1 20 = .ok (.aload_n 0, 1) := by decide +kernel
theorem d_M_isNew_21 : decode (m_M_isNew).2.1 21 = .ok (.getfield 47, 3) := by decide +kernel
theorem d_M_isNew_24 : decode (m_M_isNew).2.1 24 = .ok (.iload_n 3, 1) := by decide +kernel
theorem d_M_isNew_25 : decode (m_M_isNew).2.1 25 = .ok (.iaload, 1) := by decide +kernel
theorem d_M_isNew_26 : decode (m_M_isNew).2.1 26 = .ok (.istore 5, 2) := by decide +kernel
theorem d_M_isNew_28 : decode (m_M_isNew).2.1 28 = .ok (.iload 5, 2) := by decide +kernel
theorem d_M_isNew_30 : decode (m_M_isNew).2.1 30 = .ok (.iload_n 1, 1) := by decide +kernel
theorem d_M_isNew_31 : decode (m_M_isNew).2.1 31 = .ok (.if_icmp .ge 52, 3) := by decide +kernel
theorem d_M_isNew_34 : decode (m_M_isNew).2.1 34 = .ok (.iload 4, 2) := by decide +kernel
theorem d_M_isNew_36 : decode (m_M_isNew).2.1 36 = .ok (.ifCond .eq 47, 3) := by decide +kernel
theorem d_M_isNew_39 : decode (m_M_isNew).2.1 39 = .ok (.aload_n 0, 1) := by decide +kernel
theorem d_M_isNew_40 : decode (m_M_isNew).2.1 40 = .ok (.getfield 50, 3) := by decide +kernel
theorem d_M_isNew_43 : decode (m_M_isNew).2.1 43 = .ok (.iload 5, 2) := by decide +kernel
theorem d_M_isNew_45 : decode (m_M_isNew).2.1 45 = .ok (.aload_n 0, 1) := by decide +kernel
theorem d_M_isNew_46 : decode (m_M_isNew).2.1 46 = .ok (.getfield 50, 3) := by decide +kernel
theorem d_M_isNew_49 : decode (m_M_isNew).2.1 49 = .ok (.iload 5, 2) := by decide +kernel
theorem d_M_isNew_51 : decode (m_M_isNew).2.1 51 = .ok (.iaload, 1) := by decide +kernel
theorem d_M_isNew_52 : decode (m_M_isNew).2.1 52 = .ok (.aload_n 0, 1) := by decide +kernel
theorem d_M_isNew_53 : decode (m_M_isNew).2.1 53 = .ok (.getfield 7, 3) := by decide +kernel
theorem d_M_isNew_56 : decode (m_M_isNew).2.1 56 = .ok (.bipush 32, 2) := by decide +kernel
theorem d_M_isNew_58 : decode (m_M_isNew).2.1 58 = .ok (.iload 4, 2) := by decide +kernel
theorem d_M_isNew_60 : decode (m_M_isNew).2.1 60 = .ok (.imul, 1) := by decide +kernel
theorem d_M_isNew_61 : decode (m_M_isNew).2.1 61 = .ok (.aload_n 0, 1) := by decide +kernel
theorem d_M_isNew_62 : decode (m_M_isNew).2.1 62 = .ok (.getfield 44, 3) := by decide +kernel
theorem d_M_isNew_65 : decode (m_M_isNew).2.1 65 = .ok (.bipush 120, 2) := by decide +kernel
theorem d_M_isNew_67 : decode (m_M_isNew).2.1 67 = .ok (.iload_n 3, 1) := by decide +kernel
theorem d_M_isNew_68 : decode (m_M_isNew).2.1 68 = .ok (.imul, 1) := by decide +kernel
theorem d_M_isNew_69 : decode (m_M_isNew).2.1 69 = .ok (.iload 5, 2) := by decide +kernel
theorem d_M_isNew_71 : decode (m_M_isNew).2.1 71 = .ok (.iadd, 1) := by decide +kernel
theorem d_M_isNew_72 : decode (m_M_isNew).2.1 72 = .ok (.iaload, 1) := by decide +kernel
theorem d_M_isNew_73 : decode (m_M_isNew).2.1 73 = .ok (.iadd, 1) := by decide +kernel
theorem d_M_isNew_74 : decode (m_M_isNew).2.1 74 = .ok (.iaload, 1) := by decide +kernel
theorem d_M_isNew_75 : decode (m_M_isNew).2.1 75 = .ok (.ixor, 1) := by decide +kernel
theorem d_M_isNew_76 : decode (m_M_isNew).2.1 76 = .ok (.iastore, 1) := by decide +kernel
theorem d_M_isNew_77 : decode (m_M_isNew).2.1 77 = .ok (.iinc 5 1, 3) := by decide +kernel
theorem d_M_isNew_80 : decode (m_M_isNew).2.1 80 = .ok (.goto (-52), 3) := by decide +kernel
theorem d_M_isNew_83 : decode (m_M_isNew).2.1 83 = .ok (.iinc 3 1, 3) := by decide +kernel
theorem d_M_isNew_86 : decode (m_M_isNew).2.1 86 = .ok (.goto (-84), 3) := by decide +kernel
theorem d_M_isNew_89 : decode (m_M_isNew).2.1 89 = .ok (.iconst 0, 1) := by decide +kernel
theorem d_M_isNew_90 : decode (m_M_isNew).2.1 90 = .ok (.istore_n 3, 1) := by decide +kernel
theorem d_M_isNew_91 : decode (m_M_isNew).2.1 91 = .ok (.iload_n 3, 1) := by decide +kernel
theorem d_M_isNew_92 : decode (m_M_isNew).2.1 92 = .ok (.iload_n 1, 1) := by decide +kernel
theorem d_M_isNew_93 : decode (m_M_isNew).2.1 93 = .ok (.if_icmp .ge 18, 3) := by decide +kernel
theorem d_M_isNew_96 : decode (m_M_isNew).2.1 96 = .ok (.aload_n 0, 1) := by decide +kernel
theorem d_M_isNew_97 : decode (m_M_isNew).2.1 97 = .ok (.getfield 50, 3) := by decide +kernel
theorem d_M_isNew_100 : decode (m_M_isNew).2.1 100 = .ok (.iload_n 3, 1) := by decide +kernel
theorem d_M_isNew_101 : decode (m_M_isNew).2.1 101 = .ok (.iaload, 1) := by decide +kernel
theorem d_M_isNew_102 : decode (m_M_isNew).2.1 102 = .ok (.ifCond .ne 9, 3) := by decide +kernel
theorem d_M_isNew_105 : decode (m_M_isNew).2.1 105 = .ok (.iinc 3 1, 3) := by decide +kernel
theorem d_M_isNew_108 : decode (m_M_isNew).2.1 108 = .ok (.goto (-17), 3) := by decide +kernel
theorem d_M_isNew_111 : decode (m_M_isNew).2.1 111 = .ok (.iload_n 3, 1) := by decide +kernel
theorem d_M_isNew_112 : decode (m_M_isNew).2.1 112 = .ok (.iload_n 1, 1) := by decide +kernel
theorem d_M_isNew_113 : decode (m_M_isNew).2.1 113 = .ok (.if_icmp .ne 5, 3) := by decide +kernel
theorem d_M_isNew_116 : decode (m_M_isNew).2.1 116 = .ok (.iconst 0, 1) := by decide +kernel
theorem d_M_isNew_117 : decode (m_M_isNew).2.1 117 = .ok (.ireturn, 1) := by decide +kernel
theorem d_M_isNew_118 : decode (m_M_isNew).2.1 118 = .ok (.aload_n 0, 1) := by decide +kernel
theorem d_M_isNew_119 : decode (m_M_isNew).2.1 119 = .ok (.getfield 47, 3) := by decide +kernel
theorem d_M_isNew_122 : decode (m_M_isNew).2.1 122 = .ok (.iload_n 2, 1) := by decide +kernel
theorem d_M_isNew_123 : decode (m_M_isNew).2.1 123 = .ok (.iload_n 3, 1) := by decide +kernel
theorem d_M_isNew_124 : decode (m_M_isNew).2.1 124 = .ok (.iastore, 1) := by decide +kernel
theorem d_M_isNew_125 : decode (m_M_isNew).2.1 125 = .ok (.aload_n 0, 1) := by decide +kernel
theorem d_M_isNew_126 : decode (m_M_isNew).2.1 126 = .ok (.iconst 1, 1) := by decide +kernel
theorem d_M_isNew_127 : decode (m_M_isNew).2.1 127 = .ok (.aload_n 0, 1) := by decide +kernel
theorem d_M_isNew_128 : decode (m_M_isNew).2.1 128 = .ok (.getfield 50, 3) := by decide +kernel
theorem d_M_isNew_131 : decode (m_M_isNew).2.1 131 = .ok (.iload_n 3, 1) := by decide +kernel
theorem d_M_isNew_132 : decode (m_M_isNew).2.1 132 = .ok (.iaload, 1) := by decide +kernel
theorem d_M_isNew_133 : decode (m_M_isNew).2.1 133 = .ok (.invokevirtual 80, 3) := by decide +kernel
theorem d_M_isNew_136 : decode (m_M_isNew).2.1 136 = .ok (.istore 4, 2) := by decide +kernel
theorem d_M_isNew_138 : decode (m_M_isNew).2.1 138 = .ok (.iconst 0, 1) := by decide +kernel
theorem d_M_isNew_139 : decode (m_M_isNew).2.1 139 = .ok (.istore 5, 2) := by decide +kernel
theorem d_M_isNew_141 : decode (m_M_isNew).2.1 141 = .ok (.iload 5, 2) := by decide +kernel
theorem d_M_isNew_143 : decode (m_M_isNew).2.1 143 = .ok (.iload_n 1, 1) := by decide +kernel
theorem d_M_isNew_144 : decode (m_M_isNew).2.1 144 = .ok (.if_icmp .ge 39, 3) := by decide +kernel
theorem d_M_isNew_147 : decode (m_M_isNew).2.1 147 = .ok (.aload_n 0, 1) := by decide +kernel
theorem d_M_isNew_148 : decode (m_M_isNew).2.1 148 = .ok (.getfield 44, 3) := by decide +kernel
theorem d_M_isNew_151 : decode (m_M_isNew).2.1 151 = .ok (.bipush 120, 2) := by decide +kernel
theorem d_M_isNew_153 : decode (m_M_isNew).2.1 153 = .ok (.iload_n 2, 1) := by decide +kernel
theorem d_M_isNew_154 : decode (m_M_isNew).2.1 154 = .ok (.imul, 1) := by decide +kernel
theorem d_M_isNew_155 : decode (m_M_isNew).2.1 155 = .ok (.iload 5, 2) := by decide +kernel
theorem d_M_isNew_157 : decode (m_M_isNew).2.1 157 = .ok (.iadd, 1) := by decide +kernel
theorem d_M_isNew_158 : decode (m_M_isNew).2.1 158 = .ok (.aload_n 0, 1) := by decide +kernel
theorem d_M_isNew_159 : decode (m_M_isNew).2.1 159 = .ok (.getfield 7, 3) := by decide +kernel
theorem d_M_isNew_162 : decode (m_M_isNew).2.1 162 = .ok (.bipush 32, 2) := by decide +kernel
theorem d_M_isNew_164 : decode (m_M_isNew).2.1 164 = .ok (.iload 4, 2) := by decide +kernel
theorem d_M_isNew_166 : decode (m_M_isNew).2.1 166 = .ok (.imul, 1) := by decide +kernel
theorem d_M_isNew_167 : decode (m_M_isNew).2.1 167 = .ok (.aload_n 0, 1) := by decide +kernel
theorem d_M_isNew_168 : decode (m_M_isNew).2.1 168 = .ok (.getfield 50, 3) := by decide +kernel
theorem d_M_isNew_171 : decode (m_M_isNew).2.1 171 = .ok (.iload 5, 2) := by decide +kernel
theorem d_M_isNew_173 : decode (m_M_isNew).2.1 173 = .ok (.iaload, 1) := by decide +kernel
theorem d_M_isNew_174 : decode (m_M_isNew).2.1 174 = .ok (.iadd, 1) := by decide +kernel
theorem d_M_isNew_175 : decode (m_M_isNew).2.1 175 = .ok (.iaload, 1) := by decide +kernel
theorem d_M_isNew_176 : decode (m_M_isNew).2.1 176 = .ok (.iastore, 1) := by decide +kernel
theorem d_M_isNew_177 : decode (m_M_isNew).2.1 177 = .ok (.iinc 5 1, 3) := by decide +kernel
theorem d_M_isNew_180 : decode (m_M_isNew).2.1 180 = .ok (.goto (-39), 3) := by decide +kernel
theorem d_M_isNew_183 : decode (m_M_isNew).2.1 183 = .ok (.iconst 1, 1) := by decide +kernel
theorem d_M_isNew_184 : decode (m_M_isNew).2.1 184 = .ok (.ireturn, 1) := by decide +kernel
theorem d_M_weight_0 : decode (m_M_weight).2.1 0 = .ok (.iload_n 1, 1) := by decide +kernel
theorem d_M_weight_1 : decode (m_M_weight).2.1 1 = .ok (.iconst 1, 1) := by decide +kernel
theorem d_M_weight_2 : decode (m_M_weight).2.1 2 = .ok (.if_icmp .lt 8, 3) := by decide +kernel
theorem d_M_weight_5 : decode (m_M_weight).2.1 5 = .ok (.iload_n 1, 1) := by decide +kernel
theorem d_M_weight_6 : decode (m_M_weight).2.1 6 = .ok (.iconst 3, 1) := by decide +kernel
theorem d_M_weight_7 : decode (m_M_weight).2.1 7 = .ok (.if_icmp .le 5, 3) := by decide +kernel
theorem d_M_weight_10 : decode (m_M_weight).2.1 10 = .ok (.iconst (-1), 1) := by decide +kernel
theorem d_M_weight_11 : decode (m_M_weight).2.1 11 = .ok (.ireturn, 1) := by decide +kernel
theorem d_M_weight_12 : decode (m_M_weight).2.1 12 = .ok (.aload_n 0, 1) := by decide +kernel
theorem d_M_weight_13 : decode (m_M_weight).2.1 13 = .ok (.invokevirtual 127, 3) := by decide +kernel
theorem d_M_weight_16 : decode (m_M_weight).2.1 16 = .ok (.aload_n 0, 1) := by decide +kernel
theorem d_M_weight_17 : decode (m_M_weight).2.1 17 = .ok (.getfield 90, 3) := by decide +kernel
theorem d_M_weight_20 : decode (m_M_weight).2.1 20 = .ok (.if_icmp .ge 6, 3) := by decide +kernel
theorem d_M_weight_23 : decode (m_M_weight).2.1 23 = .ok (.bipush (-3), 2) := by decide +kernel
theorem d_M_weight_25 : decode (m_M_weight).2.1 25 = .ok (.ireturn, 1) := by decide +kernel
theorem d_M_weight_26 : decode (m_M_weight).2.1 26 = .ok (.iconst 0, 1) := by decide +kernel
theorem d_M_weight_27 : decode (m_M_weight).2.1 27 = .ok (.istore_n 2, 1) := by decide +kernel
theorem d_M_weight_28 : decode (m_M_weight).2.1 28 = .ok (.iconst 0, 1) := by decide +kernel
theorem d_M_weight_29 : decode (m_M_weight).2.1 29 = .ok (.istore_n 3, 1) := by decide +kernel
theorem d_M_weight_30 : decode (m_M_weight).2.1 30 = .ok (.iload_n 3, 1) := by decide +kernel
theorem d_M_weight_31 : decode (m_M_weight).2.1 31 = .ok (.sipush 200, 3) := by decide +kernel
theorem d_M_weight_34 : decode (m_M_weight).2.1 34 = .ok (.if_icmp .ge 66, 3) := by decide +kernel
theorem d_M_weight_37 : decode (m_M_weight).2.1 37 = .ok (.iconst 0, 1) := by decide +kernel
theorem d_M_weight_38 : decode (m_M_weight).2.1 38 = .ok (.istore 4, 2) := by decide +kernel
theorem d_M_weight_40 : decode (m_M_weight).2.1 40 = .ok (.aload_n 0, 1) := by decide +kernel
theorem d_M_weight_41 : decode (m_M_weight).2.1 41 = .ok (.getfield 90, 3) := by decide +kernel
theorem d_M_weight_44 : decode (m_M_weight).2.1 44 = .ok (.iconst 1, 1) := by decide +kernel
theorem d_M_weight_45 : decode (m_M_weight).2.1 45 = .ok (.isub, 1) := by decide +kernel
theorem d_M_weight_46 : decode (m_M_weight).2.1 46 = .ok (.iload 4, 2) := by decide +kernel
theorem d_M_weight_48 : decode (m_M_weight).2.1 48 = .ok (.imul, 1) := by decide +kernel
theorem d_M_weight_49 : decode (m_M_weight).2.1 49 = .ok (.iload_n 3, 1) := by decide +kernel
theorem d_M_weight_50 : decode (m_M_weight).2.1 50 = .ok (.if_icmp .gt 44, 3) := by decide +kernel
theorem d_M_weight_53 : decode (m_M_weight).2.1 53 = .ok (.aload_n 0, 1) := by decide +kernel
theorem d_M_weight_54 : decode (m_M_weight).2.1 54 = .ok (.iload_n 3, 1) := by decide +kernel
theorem d_M_weight_55 : decode (m_M_weight).2.1 55 = .ok (.aload_n 0, 1) := by decide +kernel
theorem d_M_weight_56 : decode (m_M_weight).2.1 56 = .ok (.getfield 90, 3) := by decide +kernel
theorem d_M_weight_59 : decode (m_M_weight).2.1 59 = .ok (.iconst 1, 1) := by decide +kernel
theorem d_M_weight_60 : decode (m_M_weight).2.1 60 = .ok (.isub, 1) := by decide +kernel
theorem d_M_weight_61 : decode (m_M_weight).2.1 61 = .ok (.iload 4, 2) := by decide +kernel
theorem d_M_weight_63 : decode (m_M_weight).2.1 63 = .ok (.imul, 1) := by decide +kernel
theorem d_M_weight_64 : decode (m_M_weight).2.1 64 = .ok (.isub, 1) := by decide +kernel
theorem d_M_weight_65 : decode (m_M_weight).2.1 65 = .ok (.iload 4, 2) := by decide +kernel
theorem d_M_weight_67 : decode (m_M_weight).2.1 67 = .ok (.iload_n 1, 1) := by decide +kernel
theorem d_M_weight_68 : decode (m_M_weight).2.1 68 = .ok (.invokevirtual 149, 3) := by decide +kernel
theorem d_M_weight_71 : decode (m_M_weight).2.1 71 = .ok (.istore 5, 2) := by decide +kernel
theorem d_M_weight_73 : decode (m_M_weight).2.1 73 = .ok (.aload_n 0, 1) := by decide +kernel
theorem d_M_weight_74 : decode (m_M_weight).2.1 74 = .ok (.iload 5, 2) := by decide +kernel
theorem d_M_weight_76 : decode (m_M_weight).2.1 76 = .ok (.iload_n 2, 1) := by decide +kernel
theorem d_M_weight_77 : decode (m_M_weight).2.1 77 = .ok (.invokevirtual 153, 3) := by decide +kernel
theorem d_M_weight_80 : decode (m_M_weight).2.1 80 = .ok (.ifCond .ne 5, 3) := by decide +kernel
theorem d_M_weight_83 : decode (m_M_weight).2.1 83 = .ok (.iload_n 3, 1) := by decide +kernel
theorem d_M_weight_84 : decode (m_M_weight).2.1 84 = .ok (.ireturn, 1) := by decide +kernel
theorem d_M_weight_85 : decode (m_M_weight).2.1 85 = .ok (.iinc 2 1, 3) := by decide +kernel
theorem d_M_weight_88 : decode (m_M_weight).2.1 88 = .ok (.iinc 4 1, 3) := by decide +kernel
theorem d_M_weight_91 : decode (m_M_weight).2.1 91 = .ok (.goto (-51), 3) := by decide +kernel
theorem d_M_weight_94 : decode (m_M_weight).2.1 94 = .ok (.iinc 3 1, 3) := by decide +kernel
theorem d_M_weight_97 : decode (m_M_weight).2.1 97 = .ok (.goto (-67), 3) := by decide +kernel
theorem d_M_weight_100 : decode (m_M_weight).2.1 100 = .ok (.iload_n 3, 1) := by decide +kernel
theorem d_M_weight_101 : decode (m_M_weight).2.1 101 = .ok (.ireturn, 1) := by decide +kernel
theorem d_C_init_0 : decode (m_C_init).2.1 0 = .ok (.aload_n 0, 1) := by decide +kernel
theorem d_C_init_1 : decode (m_C_init).2.1 1 = .ok (.invokespecial 3, 3) := by decide +kernel
theorem d_C_init_4 : decode (m_C_init).2.1 4 = .ok (.aload_n 0, 1) := by decide +kernel
theorem d_C_init_5 : decode (m_C_init).2.1 5 = .ok (.bipush 20, 2) := by decide +kernel
theorem d_C_init_7 : decode (m_C_init).2.1 7 = .ok (.newarray .int, 2) := by decide +kernel
theorem d_C_init_9 : decode (m_C_init).2.1 9 = .ok (.putfield 9, 3) := by decide +kernel
theorem d_C_init_12 : decode (m_C_init).2.1 12 = .ok (.aload_n 0, 1) := by decide +kernel
theorem d_C_init_13 : decode (m_C_init).2.1 13 = .ok (.bipush 20, 2) := by decide +kernel
theorem d_C_init_15 : decode (m_C_init).2.1 15 = .ok (.newarray .int, 2) := by decide +kernel
theorem d_C_init_17 : decode (m_C_init).2.1 17 = .ok (.putfield 15, 3) := by decide +kernel
theorem d_C_init_20 : decode (m_C_init).2.1 20 = .ok (.aload_n 0, 1) := by decide +kernel
theorem d_C_init_21 : decode (m_C_init).2.1 21 = .ok (.bipush 20, 2) := by decide +kernel
theorem d_C_init_23 : decode (m_C_init).2.1 23 = .ok (.newarray .int, 2) := by decide +kernel
theorem d_C_init_25 : decode (m_C_init).2.1 25 = .ok (.putfield 18, 3) := by decide +kernel
theorem d_C_init_28 : decode (m_C_init).2.1 28 = .ok (.aload_n 0, 1) := by decide +kernel
theorem d_C_init_29 : decode (m_C_init).2.1 29 = .ok (.bipush 20, 2) := by decide +kernel
theorem d_C_init_31 : decode (m_C_init).2.1 31 = .ok (.newarray .int, 2) := by decide +kernel
theorem d_C_init_33 : decode (m_C_init).2.1 33 = .ok (.putfield 21, 3) := by decide +kernel
theorem d_C_init_36 : decode (m_C_init).2.1 36 = .ok (.aload_n 0, 1) := by decide +kernel
theorem d_C_init_37 : decode (m_C_init).2.1 37 = .ok (.iconst 4, 1) := by decide +kernel
theorem d_C_init_38 : decode (m_C_init).2.1 38 = .ok (.bipush 24, 2) := by decide +kernel
theorem d_C_init_40 : decode (m_C_init).2.1 40 = .ok (.multianewarray 24 2, 4) := by decide +kernel
theorem d_C_init_44 : decode (m_C_init).2.1 44 = .ok (.putfield 26, 3) := by decide +kernel
theorem d_C_init_47 : decode (m_C_init).2.1 47 = .ok (.aload_n 0, 1) := by decide +kernel
theorem d_C_init_48 : decode (m_C_init).2.1 48 = .ok (.iconst 4, 1) := by decide +kernel
theorem d_C_init_49 : decode (m_C_init).2.1 49 = .ok (.bipush 24, 2) := by decide +kernel
theorem d_C_init_51 : decode (m_C_init).2.1 51 = .ok (.multianewarray 24 2, 4) := by decide +kernel
theorem d_C_init_55 : decode (m_C_init).2.1 55 = .ok (.putfield 29, 3) := by decide +kernel
theorem d_C_init_58 : decode (m_C_init).2.1 58 = .ok (.aload_n 0, 1) := by decide +kernel
theorem d_C_init_59 : decode (m_C_init).2.1 59 = .ok (.iconst 4, 1) := by decide +kernel
theorem d_C_init_60 : decode (m_C_init).2.1 60 = .ok (.bipush 24, 2) := by decide +kernel
theorem d_C_init_62 : decode (m_C_init).2.1 62 = .ok (.multianewarray 24 2, 4) := by decide +kernel
theorem d_C_init_66 : decode (m_C_init).2.1 66 = .ok (.putfield 32, 3) := by decide +kernel
theorem d_C_init_69 : decode (m_C_init).2.1 69 = .ok (.aload_n 0, 1) := by decide +kernel
theorem d_C_init_70 : decode (m_C_init).2.1 70 = .ok (.aload_n 1, 1) := by decide +kernel
theorem d_C_init_71 : decode (m_C_init).2.1 71 = .ok (.putfield 35, 3) := by decide +kernel
theorem d_C_init_74 : decode (m_C_init).2.1 74 = .ok (.return_, 1) := by decide +kernel
theorem d_C_begin_0 : decode (m_C_begin).2.1 0 = .ok (.aload_n 0, 1) := by decide +kernel
theorem d_C_begin_1 : decode (m_C_begin).2.1 1 = .ok (.iload_n 1, 1) := by decide +kernel
theorem d_C_begin_2 : decode (m_C_begin).2.1 2 = .ok (.putfield 39, 3) := by decide +kernel
theorem d_C_begin_5 : decode (m_C_begin).2.1 5 = .ok (.aload_n 0, 1) := by decide +kernel
theorem d_C_begin_6 : decode (m_C_begin).2.1 6 = .ok (.iload_n 2, 1) := by decide +kernel
theorem d_C_begin_7 : decode (m_C_begin).2.1 7 = .ok (.putfield 43, 3) := by decide +kernel
theorem d_C_begin_10 : decode (m_C_begin).2.1 10 = .ok (.aload_n 0, 1) := by decide +kernel
theorem d_C_begin_11 : decode (m_C_begin).2.1 11 = .ok (.iload_n 3, 1) := by decide +kernel
theorem d_C_begin_12 : decode (m_C_begin).2.1 12 = .ok (.putfield 46, 3) := by decide +kernel
theorem d_C_begin_15 : decode (m_C_begin).2.1 15 = .ok (.iconst 0, 1) := by decide +kernel
theorem d_C_begin_16 : decode (m_C_begin).2.1 16 = .ok (.istore 4, 2) := by decide +kernel
theorem d_C_begin_18 : decode (m_C_begin).2.1 18 = .ok (.iload 4, 2) := by decide +kernel
theorem d_C_begin_20 : decode (m_C_begin).2.1 20 = .ok (.iload_n 2, 1) := by decide +kernel
theorem d_C_begin_21 : decode (m_C_begin).2.1 21 = .ok (.if_icmp .ge 26, 3) := by decide +kernel
theorem d_C_begin_24 : decode (m_C_begin).2.1 24 = .ok (.aload_n 0, 1) := by decide +kernel
theorem d_C_begin_25 : decode (m_C_begin).2.1 25 = .ok (.getfield 9, 3) := by decide +kernel
theorem d_C_begin_28 : decode (m_C_begin).2.1 28 = .ok (.iload 4, 2) := by decide +kernel
theorem d_C_begin_30 : decode (m_C_begin).2.1 30 = .ok (.aload_n 0, 1) := by decide +kernel
theorem d_C_begin_31 : decode (m_C_begin).2.1 31 = .ok (.getfield 35, 3) := by decide +kernel
theorem d_C_begin_34 : decode (m_C_begin).2.1 34 = .ok (.getfield 49, 3) := by decide +kernel
theorem d_C_begin_37 : decode (m_C_begin).2.1 37 = .ok (.iload 4, 2) := by decide +kernel
theorem d_C_begin_39 : decode (m_C_begin).2.1 39 = .ok (.iaload, 1) := by decide +kernel
theorem d_C_begin_40 : decode (m_C_begin).2.1 40 = .ok (.iastore, 1) := by decide +kernel
theorem d_C_begin_41 : decode (m_C_begin).2.1 41 = .ok (.iinc 4 1, 3) := by decide +kernel
theorem d_C_begin_44 : decode (m_C_begin).2.1 44 = .ok (.goto (-26), 3) := by decide +kernel
theorem d_C_begin_47 : decode (m_C_begin).2.1 47 = .ok (.iconst 0, 1) := by decide +kernel
theorem d_C_begin_48 : decode (m_C_begin).2.1 48 = .ok (.istore 4, 2) := by decide +kernel
theorem d_C_begin_50 : decode (m_C_begin).2.1 50 = .ok (.iload 4, 2) := by decide +kernel
theorem d_C_begin_52 : decode (m_C_begin).2.1 52 = .ok (.iload_n 2, 1) := by decide +kernel
theorem d_C_begin_53 : decode (m_C_begin).2.1 53 = .ok (.if_icmp .ge 15, 3) := by decide +kernel
theorem d_C_begin_56 : decode (m_C_begin).2.1 56 = .ok (.aload_n 0, 1) := by decide +kernel
theorem d_C_begin_57 : decode (m_C_begin).2.1 57 = .ok (.iload 4, 2) := by decide +kernel
theorem d_C_begin_59 : decode (m_C_begin).2.1 59 = .ok (.invokevirtual 54, 3) := by decide +kernel
theorem d_C_begin_62 : decode (m_C_begin).2.1 62 = .ok (.iinc 4 1, 3) := by decide +kernel
theorem d_C_begin_65 : decode (m_C_begin).2.1 65 = .ok (.goto (-15), 3) := by decide +kernel
theorem d_C_begin_68 : decode (m_C_begin).2.1 68 = .ok (.aload_n 0, 1) := by decide +kernel
theorem d_C_begin_69 : decode (m_C_begin).2.1 69 = .ok (.invokevirtual 58, 3) := by decide +kernel
theorem d_C_begin_72 : decode (m_C_begin).2.1 72 = .ok (.iconst 0, 1) := by decide +kernel
theorem d_C_begin_73 : decode (m_C_begin).2.1 73 = .ok (.istore 4, 2) := by decide +kernel
theorem d_C_begin_75 : decode (m_C_begin).2.1 75 = .ok (.iload 4, 2) := by decide +kernel
theorem d_C_begin_77 : decode (m_C_begin).2.1 77 = .ok (.iload_n 3, 1) := by decide +kernel
theorem d_C_begin_78 : decode (m_C_begin).2.1 78 = .ok (.if_icmp .ge 15, 3) := by decide +kernel
theorem d_C_begin_81 : decode (m_C_begin).2.1 81 = .ok (.aload_n 0, 1) := by decide +kernel
theorem d_C_begin_82 : decode (m_C_begin).2.1 82 = .ok (.iload 4, 2) := by decide +kernel
theorem d_C_begin_84 : decode (m_C_begin).2.1 84 = .ok (.invokevirtual 61, 3) := by decide +kernel
theorem d_C_begin_87 : decode (m_C_begin).2.1 87 = .ok (.iinc 4 1, 3) := by decide +kernel
theorem d_C_begin_90 : decode (m_C_begin).2.1 90 = .ok (.goto (-15), 3) := by decide +kernel
theorem d_C_begin_93 : decode (m_C_begin).2.1 93 = .ok (.aload_n 0, 1) := by decide +kernel
theorem d_C_begin_94 : decode (m_C_begin).2.1 94 = .ok (.aload_n 0, 1) := by decide +kernel
theorem d_C_begin_95 : decode (m_C_begin).2.1 95 = .ok (.getfield 29, 3) := by decide +kernel
theorem d_C_begin_98 : decode (m_C_begin).2.1 98 = .ok (.iconst 0, 1) := by decide +kernel
theorem d_C_begin_99 : decode (m_C_begin).2.1 99 = .ok (.invokevirtual 64, 3) := by decide +kernel
theorem d_C_begin_102 : decode (m_C_begin).2.1 102 = .ok (.aload_n 0, 1) := by decide +kernel
theorem d_C_begin_103 : decode (m_C_begin).2.1 103 = .ok (.aload_n 0, 1) := by decide +kernel
theorem d_C_begin_104 : decode (m_C_begin).2.1 104 = .ok (.getfield 32, 3) := by decide +kernel
theorem d_C_begin_107 : decode (m_C_begin).2.1 107 = .ok (.iload_n 2, 1) := by decide +kernel
theorem d_C_begin_108 : decode (m_C_begin).2.1 108 = .ok (.iload_n 3, 1) := by decide +kernel
theorem d_C_begin_109 : decode (m_C_begin).2.1 109 = .ok (.isub, 1) := by decide +kernel
theorem d_C_begin_110 : decode (m_C_begin).2.1 110 = .ok (.invokevirtual 64, 3) := by decide +kernel
theorem d_C_begin_113 : decode (m_C_begin).2.1 113 = .ok (.return_, 1) := by decide +kernel
theorem d_C_fillFactors_0 : decode (m_C_fillFactors).2.1 0 = .ok (.iconst 1, 1) := by decide +kernel
theorem d_C_fillFactors_1 : decode (m_C_fillFactors).2.1 1 = .ok (.istore_n 2, 1) := by decide +kernel
theorem d_C_fillFactors_2 : decode (m_C_fillFactors).2.1 2 = .ok (.iconst 0, 1) := by decide +kernel
theorem d_C_fillFactors_3 : decode (m_C_fillFactors).2.1 3 = .ok (.istore_n 3, 1) := by decide +kernel
theorem d_C_fillFactors_4 : decode (m_C_fillFactors).2.1 4 = .ok (.iload_n 3, 1) := by decide +kernel
theorem d_C_fillFactors_5 : decode (m_C_fillFactors).2.1 5 = .ok (.aload_n 0, 1) := by decide +kernel
theorem d_C_fillFactors_6 : decode (m_C_fillFactors).2.1 6 = .ok (.getfield 43, 3) := by decide +kernel
theorem d_C_fillFactors_9 : decode (m_C_fillFactors).2.1 9 = .ok (.if_icmp .ge 36, 3) := by decide +kernel
theorem d_C_fillFactors_12 : decode (m_C_fillFactors).2.1 12 = .ok (.iload_n 3, 1) := by decide +kernel
theorem d_C_fillFactors_13 : decode (m_C_fillFactors).2.1 13 = .ok (.iload_n 1, 1) := by decide +kernel
theorem d_C_fillFactors_14 : decode (m_C_fillFactors).2.1 14 = .ok (.if_icmp .eq 25, 3) := by decide +kernel
theorem d_C_fillFactors_17 : decode (m_C_fillFactors).2.1 17 = .ok (.aload_n 0, 1) := by decide +kernel
theorem d_C_fillFactors_18 : decode (m_C_fillFactors).2.1 18 = .ok (.getfield 35, 3) := by decide +kernel
theorem d_C_fillFactors_21 : decode (m_C_fillFactors).2.1 21 = .ok (.iload_n 2, 1) := by decide +kernel
theorem d_C_fillFactors_22 : decode (m_C_fillFactors).2.1 22 = .ok (.aload_n 0, 1) := by decide +kernel
theorem d_C_fillFactors_23 : decode (m_C_fillFactors).2.1 23 = .ok (.getfield 9, 3) := by decide +kernel
theorem d_C_fillFactors_26 : decode (m_C_fillFactors).2.1 26 = .ok (.iload_n 1, 1) := by decide +kernel
theorem d_C_fillFactors_27 : decode (m_C_fillFactors).2.1 27 = .ok (.iaload, 1) := by decide +kernel
theorem d_C_fillFactors_28 : decode (m_C_fillFactors).2.1 28 = .ok (.aload_n 0, 1) := by decide +kernel
theorem d_C_fillFactors_29 : decode (m_C_fillFactors).2.1 29 = .ok (.getfield 9, 3) := by decide +kernel
theorem d_C_fillFactors_32 : decode (m_C_fillFactors).2.1 32 = .ok (.iload_n 3, 1) := by decide +kernel
theorem d_C_fillFactors_33 : decode (m_C_fillFactors).2.1 33 = .ok (.iaload, 1) := by decide +kernel
theorem d_C_fillFactors_34 : decode (m_C_fillFactors).2.1 34 = .ok (.ixor, 1) := by decide +kernel
theorem d_C_fillFactors_35 : decode (m_C_fillFactors).2.1 35 = .ok (.invokevirtual 68, 3) := by decide +kernel
theorem d_C_fillFactors_38 : decode (m_C_fillFactors).2.1 38 = .ok (.istore_n 2, 1) := by decide +kernel
theorem d_C_fillFactors_39 : decode (m_C_fillFactors).2.1 39 = .ok (.iinc 3 1, 3) := by decide +kernel
theorem d_C_fillFactors_42 : decode (m_C_fillFactors).2.1 42 = .ok (.goto (-38), 3) := by decide +kernel
theorem d_C_fillFactors_45 : decode (m_C_fillFactors).2.1 45 = .ok (.aload_n 0, 1) := by decide +kernel
theorem d_C_fillFactors_46 : decode (m_C_fillFactors).2.1 46 = .ok (.getfield 39, 3) := by decide +kernel
theorem d_C_fillFactors_49 : decode (m_C_fillFactors).2.1 49 = .ok (.ifCond .ne 28, 3) := by decide +kernel
theorem d_C_fillFactors_52 : decode (m_C_fillFactors).2.1 52 = .ok (.aload_n 0, 1) := by decide +kernel
theorem d_C_fillFactors_53 : decode (m_C_fillFactors).2.1 53 = .ok (.getfield 15, 3) := by decide +kernel
theorem d_C_fillFactors_56 : decode (m_C_fillFactors).2.1 56 = .ok (.iload_n 1, 1) := by decide +kernel
theorem d_C_fillFactors_57 : decode (m_C_fillFactors).2.1 57 = .ok (.iconst 1, 1) := by decide +kernel
theorem d_C_fillFactors_58 : decode (m_C_fillFactors).2.1 58 = .ok (.iastore, 1) := by decide +kernel
theorem d_C_fillFactors_59 : decode (m_C_fillFactors).2.1 59 = .ok (.aload_n 0, 1) := by decide +kernel
theorem d_C_fillFactors_60 : decode (m_C_fillFactors).2.1 60 = .ok (.getfield 18, 3) := by decide +kernel
theorem d_C_fillFactors_63 : decode (m_C_fillFactors).2.1 63 = .ok (.iload_n 1, 1) := by decide +kernel
theorem d_C_fillFactors_64 : decode (m_C_fillFactors).2.1 64 = .ok (.aload_n 0, 1) := by decide +kernel
theorem d_C_fillFactors_65 : decode (m_C_fillFactors).2.1 65 = .ok (.getfield 35, 3) := by decide +kernel
theorem d_C_fillFactors_68 : decode (m_C_fillFactors).2.1 68 = .ok (.iconst 1, 1) := by decide +kernel
theorem d_C_fillFactors_69 : decode (m_C_fillFactors).2.1 69 = .ok (.iload_n 2, 1) := by decide +kernel
theorem d_C_fillFactors_70 : decode (m_C_fillFactors).2.1 70 = .ok (.invokevirtual 72, 3) := by decide +kernel
theorem d_C_fillFactors_73 : decode (m_C_fillFactors).2.1 73 = .ok (.iastore, 1) := by decide +kernel
theorem d_C_fillFactors_74 : decode (m_C_fillFactors).2.1 74 = .ok (.goto 43, 3) := by decide +kernel
theorem d_C_fillFactors_77 : decode (m_C_fillFactors).2.1 77 = .ok (.aload_n 0, 1) := by decide +kernel
theorem d_C_fillFactors_78 : decode (m_C_fillFactors).2.1 78 = .ok (.getfield 15, 3) := by decide +kernel
theorem d_C_fillFactors_81 : decode (m_C_fillFactors).2.1 81 = .ok (.iload_n 1, 1) := by decide +kernel
theorem d_C_fillFactors_82 : decode (m_C_fillFactors).2.1 82 = .ok (.aload_n 0, 1) := by decide +kernel
theorem d_C_fillFactors_83 : decode (m_C_fillFactors).2.1 83 = .ok (.getfield 35, 3) := by decide +kernel
theorem d_C_fillFactors_86 : decode (m_C_fillFactors).2.1 86 = .ok (.iconst 1, 1) := by decide +kernel
theorem d_C_fillFactors_87 : decode (m_C_fillFactors).2.1 87 = .ok (.aload_n 0, 1) := by decide +kernel
theorem d_C_fillFactors_88 : decode (m_C_fillFactors).2.1 88 = .ok (.getfield 35, 3) := by decide +kernel
theorem d_C_fillFactors_91 : decode (m_C_fillFactors).2.1 91 = .ok (.aload_n 0, 1) := by decide +kernel
theorem d_C_fillFactors_92 : decode (m_C_fillFactors).2.1 92 = .ok (.getfield 9, 3) := by decide +kernel
theorem d_C_fillFactors_95 : decode (m_C_fillFactors).2.1 95 = .ok (.iload_n 1, 1) := by decide +kernel
theorem d_C_fillFactors_96 : decode (m_C_fillFactors).2.1 96 = .ok (.iaload, 1) := by decide +kernel
theorem d_C_fillFactors_97 : decode (m_C_fillFactors).2.1 97 = .ok (.iload_n 2, 1) := by decide +kernel
theorem d_C_fillFactors_98 : decode (m_C_fillFactors).2.1 98 = .ok (.invokevirtual 68, 3) := by decide +kernel
theorem d_C_fillFactors_101 : decode (m_C_fillFactors).2.1 101 = .ok (.invokevirtual 72, 3) := by decide +kernel
theorem d_C_fillFactors_104 : decode (m_C_fillFactors).2.1 104 = .ok (.iastore, 1) := by decide +kernel
theorem d_C_fillFactors_105 : decode (m_C_fillFactors).2.1 105 = .ok (.aload_n 0, 1) := by decide +kernel
theorem d_C_fillFactors_106 : decode (m_C_fillFactors).2.1 106 = .ok (.getfield 18, 3) := by decide +kernel
theorem d_C_fillFactors_109 : decode (m_C_fillFactors).2.1 109 = .ok (.iload_n 1, 1) := by decide +kernel
theorem d_C_fillFactors_110 : decode (m_C_fillFactors).2.1 110 = .ok (.aload_n 0, 1) := by decide +kernel
theorem d_C_fillFactors_111 : decode (m_C_fillFactors).2.1 111 = .ok (.getfield 9, 3) := by decide +kernel
theorem d_C_fillFactors_114 : decode (m_C_fillFactors).2.1 114 = .ok (.iload_n 1, 1) := by decide +kernel
theorem d_C_fillFactors_115 : decode (m_C_fillFactors).2.1 115 = .ok (.iaload, 1) := by decide +kernel
theorem d_C_fillFactors_116 : decode (m_C_fillFactors).2.1 116 = .ok (.iastore, 1) := by decide +kernel
theorem d_C_fillFactors_117 : decode (m_C_fillFactors).2.1 117 = .ok (.return_, 1) := by decide +kernel
theorem d_C_fillGenerator_0 : decode (m_C_fillGenerator).2.1 0 = .ok (.iconst 0, 1) := by decide +kernel
theorem d_C_fillGenerator_1 : decode (m_C_fillGenerator).2.1 1 = .ok (.istore_n 1, 1) := by decide +kernel
theorem d_C_fillGenerator_2 : decode (m_C_fillGenerator).2.1 2 = .ok (.iload_n 1, 1) := by decide +kernel
theorem d_C_fillGenerator_3 : decode (m_C_fillGenerator).2.1 3 = .ok (.aload_n 0, 1) := by decide +kernel
theorem d_C_fillGenerator_4 : decode (m_C_fillGenerator).2.1 4 = .ok (.getfield 43, 3) := by decide +kernel
theorem d_C_fillGenerator_7 : decode (m_C_fillGenerator).2.1 7 = .ok (.if_icmp .ge 16, 3) := by decide +kernel
theorem d_C_fillGenerator_10 : decode (m_C_fillGenerator).2.1 10 = .ok (.aload_n 0, 1) := by decide +kernel
theorem d_C_fillGenerator_11 : decode (m_C_fillGenerator).2.1 11 = .ok (.getfield 21, 3) := by decide +kernel
theorem d_C_fillGenerator_14 : decode (m_C_fillGenerator).2.1 14 = .ok (.iload_n 1, 1) := by decide +kernel
theorem d_C_fillGenerator_15 : decode (m_C_fillGenerator).2.1 15 = .ok (.iconst 0, 1) := by decide +kernel
theorem d_C_fillGenerator_16 : decode (m_C_fillGenerator).2.1 16 = .ok (.iastore, 1) := by decide +kernel
theorem d_C_fillGenerator_17 : decode (m_C_fillGenerator).2.1 17 = .ok (.iinc 1 1, 3) := by decide +kernel
theorem d_C_fillGenerator_20 : decode (m_C_fillGenerator).2.1 20 = .ok (.goto (-18), 3) := by decide +kernel
theorem d_C_fillGenerator_23 : decode (m_C_fillGenerator).2.1 23 = .ok (.aload_n 0, 1) := by decide +kernel
theorem d_C_fillGenerator_24 : decode (m_C_fillGenerator).2.1 24 = .ok (.getfield 21, 3) := by decide +kernel
theorem d_C_fillGenerator_27 : decode (m_C_fillGenerator).2.1 27 = .ok (.iconst 0, 1) := by decide +kernel
theorem d_C_fillGenerator_28 : decode (m_C_fillGenerator).2.1 28 = .ok (.iconst 1, 1) := by decide +kernel
theorem d_C_fillGenerator_29 : decode (m_C_fillGenerator).2.1 29 = .ok (.iastore, 1) := by decide +kernel
theorem d_C_fillGenerator_30 : decode (m_C_fillGenerator).2.1 30 = .ok (.iconst 1, 1) := by decide +kernel
theorem d_C_fillGenerator_31 : decode (m_C_fillGenerator).2.1 31 = .ok (.istore_n 1, 1) := by decide +kernel
theorem d_C_fillGenerator_32 : decode (m_C_fillGenerator).2.1 32 = .ok (.iload_n 1, 1) := by decide +kernel
theorem d_C_fillGenerator_33 : decode (m_C_fillGenerator).2.1 33 = .ok (.aload_n 0, 1) := by decide +kernel
theorem d_C_fillGenerator_34 : decode (m_C_fillGenerator).2.1 34 = .ok (.getfield 43, 3) := by decide +kernel
theorem d_C_fillGenerator_37 : decode (m_C_fillGenerator).2.1 37 = .ok (.aload_n 0, 1) := by decide +kernel
theorem d_C_fillGenerator_38 : decode (m_C_fillGenerator).2.1 38 = .ok (.getfield 46, 3) := by decide +kernel
theorem d_C_fillGenerator_41 : decode (m_C_fillGenerator).2.1 41 = .ok (.isub, 1) := by decide +kernel
theorem d_C_fillGenerator_42 : decode (m_C_fillGenerator).2.1 42 = .ok (.if_icmp .gt 80, 3) := by decide +kernel
theorem d_C_fillGenerator_45 : decode (m_C_fillGenerator).2.1 45 = .ok (.iload_n 1, 1) := by decide +kernel
theorem d_C_fillGenerator_46 : decode (m_C_fillGenerator).2.1 46 = .ok (.istore_n 2, 1) := by decide +kernel
theorem d_C_fillGenerator_47 : decode (m_C_fillGenerator).2.1 47 = .ok (.iload_n 2, 1) := by decide +kernel
theorem d_C_fillGenerator_48 : decode (m_C_fillGenerator).2.1 48 = .ok (.ifCond .le 43, 3) := by decide +kernel
theorem d_C_fillGenerator_51 : decode (m_C_fillGenerator).2.1 51 = .ok (.aload_n 0, 1) := by decide +kernel
theorem d_C_fillGenerator_52 : decode (m_C_fillGenerator).2.1 52 = .ok (.getfield 21, 3) := by decide +kernel
theorem d_C_fillGenerator_55 : decode (m_C_fillGenerator).2.1 55 = .ok (.iload_n 2, 1) := by decide +kernel
theorem d_C_fillGenerator_56 : decode (m_C_fillGenerator).2.1 56 = .ok (.aload_n 0, 1) := by decide +kernel
theorem d_C_fillGenerator_57 : decode (m_C_fillGenerator).2.1 57 = .ok (.getfield 21, 3) := by decide +kernel
theorem d_C_fillGenerator_60 : decode (m_C_fillGenerator).2.1 60 = .ok (.iload_n 2, 1) := by decide +kernel
theorem d_C_fillGenerator_61 : decode (m_C_fillGenerator).2.1 61 = .ok (.iconst 1, 1) := by decide +kernel
theorem d_C_fillGenerator_62 : decode (m_C_fillGenerator).2.1 62 = .ok (.isub, 1) := by decide +kernel
theorem d_C_fillGenerator_63 : decode (m_C_fillGenerator).2.1 63 = .ok (.iaload, 1) := by decide +kernel
theorem d_C_fillGenerator_64 : decode (m_C_fillGenerator).2.1 64 = .ok (.aload_n 0, 1) := by decide +kernel
theorem d_C_fillGenerator_65 : decode (m_C_fillGenerator).2.1 65 = .ok (.getfield 35, 3) := by decide +kernel
theorem d_C_fillGenerator_68 : decode (m_C_fillGenerator).2.1 68 = .ok (.aload_n 0, 1) := by decide +kernel
theorem d_C_fillGenerator_69 : decode (m_C_fillGenerator).2.1 69 = .ok (.getfield 9, 3) := by decide +kernel
theorem d_C_fillGenerator_72 : decode (m_C_fillGenerator).2.1 72 = .ok (.iload_n 1, 1) := by decide +kernel
theorem d_C_fillGenerator_73 : decode (m_C_fillGenerator).2.1 73 = .ok (.iaload, 1) := by decide +kernel
theorem d_C_fillGenerator_74 : decode (m_C_fillGenerator).2.1 74 = .ok (.aload_n 0, 1) := by decide +kernel
theorem d_C_fillGenerator_75 : decode (m_C_fillGenerator).2.1 75 = .ok (.getfield 21, 3) := by decide +kernel
theorem d_C_fillGenerator_78 : decode (m_C_fillGenerator).2.1 78 = .ok (.iload_n 2, 1) := by decide +kernel
theorem d_C_fillGenerator_79 : decode (m_C_fillGenerator).2.1 79 = .ok (.iaload, 1) := by decide +kernel
theorem d_C_fillGenerator_80 : decode (m_C_fillGenerator).2.1 80 = .ok (.invokevirtual 68, 3) := by decide +kernel
theorem d_C_fillGenerator_83 : decode (m_C_fillGenerator).2.1 83 = .ok (.ixor, 1) := by decide +kernel
theorem d_C_fillGenerator_84 : decode (m_C_fillGenerator).2.1 84 = .ok (.iastore, 1) := by decide +kernel
theorem d_C_fillGenerator_85 : decode (m_C_fillGenerator).2.1 85 = .ok (.iinc 2 (-1), 3) := by decide +kernel
theorem d_C_fillGenerator_88 : decode (m_C_fillGenerator).2.1 88 = .ok (.goto (-41), 3) := by decide +kernel
theorem d_C_fillGenerator_91 : decode (m_C_fillGenerator).2.1 91 = .ok (.aload_n 0, 1) := by decide +kernel
theorem d_C_fillGenerator_92 : decode (m_C_fillGenerator).2.1 92 = .ok (.getfield 21, 3) := by decide +kernel
theorem d_C_fillGenerator_95 : decode (m_C_fillGenerator).2.1 95 = .ok (.iconst 0, 1) := by decide +kernel
theorem d_C_fillGenerator_96 : decode (m_C_fillGenerator).2.1 96 = .ok (.aload_n 0, 1) := by decide +kernel
theorem d_C_fillGenerator_97 : decode (m_C_fillGenerator).2.1 97 = .ok (.getfield 35, 3) := by decide +kernel
theorem d_C_fillGenerator_100 : decode (m_C_fillGenerator).2.1 100 = .ok (.aload_n 0, 1) := by decide +kernel
theorem d_C_fillGenerator_101 : decode (m_C_fillGenerator).2.1 101 = .ok (.getfield 9, 3) := by decide +kernel
theorem d_C_fillGenerator_104 : decode (m_C_fillGenerator).2.1 104 = .ok (.iload_n 1, 1) := by decide +kernel
theorem d_C_fillGenerator_105 : decode (m_C_fillGenerator).2.1 105 = .ok (.iaload, 1) := by decide +kernel
theorem d_C_fillGenerator_106 : decode (m_C_fillGenerator).2.1 106 = .ok (.aload_n 0, 1) := by decide +kernel
theorem d_C_fillGenerator_107 : decode (m_C_fillGenerator).2.1 107 = .ok (.getfield 21, 3) := by decide +kernel
theorem d_C_fillGenerator_110 : decode (m_C_fillGenerator).2.1 110 = .ok (.iconst 0, 1) := by decide +kernel
theorem d_C_fillGenerator_111 : decode (m_C_fillGenerator).2.1 111 = .ok (.iaload, 1) := by decide +kernel
theorem d_C_fillGenerator_112 : decode (m_C_fillGenerator).2.1 112 = .ok (.invokevirtual 68, 3) := by decide +kernel
theorem d_C_fillGenerator_115 : decode (m_C_fillGenerator).2.1 115 = .ok (.iastore, 1) := by decide +kernel
theorem d_C_fillGenerator_116 : decode (m_C_fillGenerator).2.1 116 = .ok (.iinc 1 1, 3) := by decide +kernel
theorem d_C_fillGenerator_119 : decode (m_C_fillGenerator).2.1 119 = .ok (.goto (-87), 3) := by decide +kernel
theorem d_C_fillGenerator_122 : decode (m_C_fillGenerator).2.1 122 = .ok (.return_, 1) := by decide +kernel
theorem d_C_fillPlainRow_0 : decode (m_C_fillPlainRow).2.1 0 = .ok (.iconst 0, 1) := by decide +kernel
theorem d_C_fillPlainRow_1 : decode (m_C_fillPlainRow).2.1 1 = .ok (.istore_n 2, 1) := by decide +kernel
theorem d_C_fillPlainRow_2 : decode (m_C_fillPlainRow).2.1 2 = .ok (.iload_n 2, 1) := by decide +kernel
theorem d_C_fillPlainRow_3 : decode (m_C_fillPlainRow).2.1 3 = .ok (.aload_n 0, 1) := by decide +kernel
theorem d_C_fillPlainRow_4 : decode (m_C_fillPlainRow).2.1 4 = .ok (.getfield 43, 3) := by decide +kernel
theorem d_C_fillPlainRow_7 : decode (m_C_fillPlainRow).2.1 7 = .ok (.if_icmp .ge 66, 3) := by decide +kernel
theorem d_C_fillPlainRow_10 : decode (m_C_fillPlainRow).2.1 10 = .ok (.aload_n 0, 1) := by decide +kernel
theorem d_C_fillPlainRow_11 : decode (m_C_fillPlainRow).2.1 11 = .ok (.getfield 39, 3) := by decide +kernel
theorem d_C_fillPlainRow_14 : decode (m_C_fillPlainRow).2.1 14 = .ok (.ifCond .ne 28, 3) := by decide +kernel
theorem d_C_fillPlainRow_17 : decode (m_C_fillPlainRow).2.1 17 = .ok (.aload_n 0, 1) := by decide +kernel
theorem d_C_fillPlainRow_18 : decode (m_C_fillPlainRow).2.1 18 = .ok (.getfield 26, 3) := by decide +kernel
theorem d_C_fillPlainRow_21 : decode (m_C_fillPlainRow).2.1 21 = .ok (.iload_n 1, 1) := by decide +kernel
theorem d_C_fillPlainRow_22 : decode (m_C_fillPlainRow).2.1 22 = .ok (.aaload, 1) := by decide +kernel
theorem d_C_fillPlainRow_23 : decode (m_C_fillPlainRow).2.1 23 = .ok (.iload_n 2, 1) := by decide +kernel
theorem d_C_fillPlainRow_24 : decode (m_C_fillPlainRow).2.1 24 = .ok (.aload_n 0, 1) := by decide +kernel
theorem d_C_fillPlainRow_25 : decode (m_C_fillPlainRow).2.1 25 = .ok (.getfield 35, 3) := by decide +kernel
theorem d_C_fillPlainRow_28 : decode (m_C_fillPlainRow).2.1 28 = .ok (.aload_n 0, 1) := by decide +kernel
theorem d_C_fillPlainRow_29 : decode (m_C_fillPlainRow).2.1 29 = .ok (.getfield 9, 3) := by decide +kernel
theorem d_C_fillPlainRow_32 : decode (m_C_fillPlainRow).2.1 32 = .ok (.iload_n 2, 1) := by decide +kernel
theorem d_C_fillPlainRow_33 : decode (m_C_fillPlainRow).2.1 33 = .ok (.iaload, 1) := by decide +kernel
theorem d_C_fillPlainRow_34 : decode (m_C_fillPlainRow).2.1 34 = .ok (.iload_n 1, 1) := by decide +kernel
theorem d_C_fillPlainRow_35 : decode (m_C_fillPlainRow).2.1 35 = .ok (.invokevirtual 75, 3) := by decide +kernel
theorem d_C_fillPlainRow_38 : decode (m_C_fillPlainRow).2.1 38 = .ok (.iastore, 1) := by decide +kernel
theorem d_C_fillPlainRow_39 : decode (m_C_fillPlainRow).2.1 39 = .ok (.goto 28, 3) := by decide +kernel
theorem d_C_fillPlainRow_42 : decode (m_C_fillPlainRow).2.1 42 = .ok (.aload_n 0, 1) := by decide +kernel
theorem d_C_fillPlainRow_43 : decode (m_C_fillPlainRow).2.1 43 = .ok (.getfield 26, 3) := by decide +kernel
theorem d_C_fillPlainRow_46 : decode (m_C_fillPlainRow).2.1 46 = .ok (.iload_n 1, 1) := by decide +kernel
theorem d_C_fillPlainRow_47 : decode (m_C_fillPlainRow).2.1 47 = .ok (.aaload, 1) := by decide +kernel
theorem d_C_fillPlainRow_48 : decode (m_C_fillPlainRow).2.1 48 = .ok (.iload_n 2, 1) := by decide +kernel
theorem d_C_fillPlainRow_49 : decode (m_C_fillPlainRow).2.1 49 = .ok (.iload_n 2, 1) := by decide +kernel
theorem d_C_fillPlainRow_50 : decode (m_C_fillPlainRow).2.1 50 = .ok (.iload_n 1, 1) := by decide +kernel
theorem d_C_fillPlainRow_51 : decode (m_C_fillPlainRow).2.1 51 = .ok (.if_icmp .ge 7, 3) := by decide +kernel
theorem d_C_fillPlainRow_54 : decode (m_C_fillPlainRow).2.1 54 = .ok (.iconst 0, 1) := by decide +kernel
theorem d_C_fillPlainRow_55 : decode (m_C_fillPlainRow).2.1 55 = .ok (.goto 11, 3) := by decide +kernel
theorem d_C_fillPlainRow_58 : decode (m_C_fillPlainRow).2.1 58 = .ok (.aload_n 0, 1) := by decide +kernel
theorem d_C_fillPlainRow_59 : decode (m_C_fillPlainRow).2.1 59 = .ok (.getfield 21, 3) := by decide +kernel
theorem d_C_fillPlainRow_62 : decode (m_C_fillPlainRow).2.1 62 = .ok (.iload_n 2, 1) := by decide +kernel
theorem d_C_fillPlainRow_63 : decode (m_C_fillPlainRow).2.1 63 = .ok (.iload_n 1, 1) := by decide +kernel
theorem d_C_fillPlainRow_64 : decode (m_C_fillPlainRow).2.1 64 = .ok (.isub, 1) := by decide +kernel
theorem d_C_fillPlainRow_65 : decode (m_C_fillPlainRow).2.1 65 = .ok (.iaload, 1) := by decide +kernel
theorem d_C_fillPlainRow_66 : decode (m_C_fillPlainRow).2.1 66 = .ok (.iastore, 1) := by decide +kernel
theorem d_C_fillPlainRow_67 : decode (m_C_fillPlainRow).2.1 67 = .ok (.iinc 2 1, 3) := by decide +kernel
theorem d_C_fillPlainRow_70 : decode (m_C_fillPlainRow).2.1 70 = .ok (.goto (-68), 3) := by decide +kernel
theorem d_C_fillPlainRow_73 : decode (m_C_fillPlainRow).2.1 73 = .ok (.iconst 0, 1) := by decide +kernel
theorem d_C_fillPlainRow_74 : decode (m_C_fillPlainRow).2.1 74 = .ok (.istore_n 2, 1) := by decide +kernel
theorem d_C_fillPlainRow_75 : decode (m_C_fillPlainRow).2.1 75 = .ok (.iload_n 2, 1) := by decide +kernel
theorem d_C_fillPlainRow_76 : decode (m_C_fillPlainRow).2.1 76 = .ok (.aload_n 0, 1) := by decide +kernel
theorem d_C_fillPlainRow_77 : decode (m_C_fillPlainRow).2.1 77 = .ok (.getfield 46, 3) := by decide +kernel
theorem d_C_fillPlainRow_80 : decode (m_C_fillPlainRow).2.1 80 = .ok (.if_icmp .ge 32, 3) := by decide +kernel
theorem d_C_fillPlainRow_83 : decode (m_C_fillPlainRow).2.1 83 = .ok (.aload_n 0, 1) := by decide +kernel
theorem d_C_fillPlainRow_84 : decode (m_C_fillPlainRow).2.1 84 = .ok (.getfield 26, 3) := by decide +kernel
theorem d_C_fillPlainRow_87 : decode (m_C_fillPlainRow).2.1 87 = .ok (.iload_n 1, 1) := by decide +kernel
theorem d_C_fillPlainRow_88 : decode (m_C_fillPlainRow).2.1 88 = .ok (.aaload, 1) := by decide +kernel
theorem d_C_fillPlainRow_89 : decode (m_C_fillPlainRow).2.1 89 = .ok (.aload_n 0, 1) := by decide +kernel
theorem d_C_fillPlainRow_90 : decode (m_C_fillPlainRow).2.1 90 = .ok (.getfield 43, 3) := by decide +kernel
theorem d_C_fillPlainRow_93 : decode (m_C_fillPlainRow).2.1 93 = .ok (.iload_n 2, 1) := by decide +kernel
theorem d_C_fillPlainRow_94 : decode (m_C_fillPlainRow).2.1 94 = .ok (.iadd, 1) := by decide +kernel
theorem d_C_fillPlainRow_95 : decode (m_C_fillPlainRow).2.1 95 = .ok (.iload_n 1, 1) := by decide +kernel
theorem d_C_fillPlainRow_96 : decode (m_C_fillPlainRow).2.1 96 = .ok (.iload_n 2, 1) := by decide +kernel
theorem d_C_fillPlainRow_97 : decode (m_C_fillPlainRow).2.1 97 = .ok (.if_icmp .ne 7, 3) := by decide +kernel
theorem d_C_fillPlainRow_100 : decode (m_C_fillPlainRow).2.1 100 = .ok (.iconst 1, 1) := by decide +kernel
theorem d_C_fillPlainRow_101 : decode (m_C_fillPlainRow).2.1 101 = .ok (.goto 4, 3) := by decide +kernel
theorem d_C_fillPlainRow_104 : decode (m_C_fillPlainRow).2.1 104 = .ok (.iconst 0, 1) := by decide +kernel
theorem d_C_fillPlainRow_105 : decode (m_C_fillPlainRow).2.1 105 = .ok (.iastore, 1) := by decide +kernel
theorem d_C_fillPlainRow_106 : decode (m_C_fillPlainRow).2.1 106 = .ok (.iinc 2 1, 3) := by decide +kernel
theorem d_C_fillPlainRow_109 : decode (m_C_fillPlainRow).2.1 109 = .ok (.goto (-34), 3) := by decide +kernel
theorem d_C_fillPlainRow_112 : decode (m_C_fillPlainRow).2.1 112 = .ok (.return_, 1) := by decide +kernel
