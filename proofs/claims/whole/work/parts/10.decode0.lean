theorem d_D_init_0 : decode (m_D_init).2.1 0 = .ok (.aload_n 0, 1) := by decide +kernel
theorem d_D_init_1 : decode (m_D_init).2.1 1 = .ok (.invokespecial 3, 3) := by decide +kernel
theorem d_D_init_4 : decode (m_D_init).2.1 4 = .ok (.aload_n 0, 1) := by decide +kernel
theorem d_D_init_5 : decode (m_D_init).2.1 5 = .ok (.new 9, 3) := by decide +kernel
theorem d_D_init_8 : decode (m_D_init).2.1 8 = .ok (.dup, 1) := by decide +kernel
theorem d_D_init_9 : decode (m_D_init).2.1 9 = .ok (.invokespecial 11, 3) := by decide +kernel
theorem d_D_init_12 : decode (m_D_init).2.1 12 = .ok (.putfield 12, 3) := by decide +kernel
theorem d_D_init_15 : decode (m_D_init).2.1 15 = .ok (.aload_n 0, 1) := by decide +kernel
theorem d_D_init_16 : decode (m_D_init).2.1 16 = .ok (.new 16, 3) := by decide +kernel
theorem d_D_init_19 : decode (m_D_init).2.1 19 = .ok (.dup, 1) := by decide +kernel
theorem d_D_init_20 : decode (m_D_init).2.1 20 = .ok (.aload_n 0, 1) := by decide +kernel
theorem d_D_init_21 : decode (m_D_init).2.1 21 = .ok (.getfield 12, 3) := by decide +kernel
theorem d_D_init_24 : decode (m_D_init).2.1 24 = .ok (.invokespecial 18, 3) := by decide +kernel
theorem d_D_init_27 : decode (m_D_init).2.1 27 = .ok (.putfield 21, 3) := by decide +kernel
theorem d_D_init_30 : decode (m_D_init).2.1 30 = .ok (.aload_n 0, 1) := by decide +kernel
theorem d_D_init_31 : decode (m_D_init).2.1 31 = .ok (.iconst 4, 1) := by decide +kernel
theorem d_D_init_32 : decode (m_D_init).2.1 32 = .ok (.newarray .int, 2) := by decide +kernel
theorem d_D_init_34 : decode (m_D_init).2.1 34 = .ok (.putfield 25, 3) := by decide +kernel
theorem d_D_init_37 : decode (m_D_init).2.1 37 = .ok (.aload_n 0, 1) := by decide +kernel
theorem d_D_init_38 : decode (m_D_init).2.1 38 = .ok (.new 29, 3) := by decide +kernel
theorem d_D_init_41 : decode (m_D_init).2.1 41 = .ok (.dup, 1) := by decide +kernel
theorem d_D_init_42 : decode (m_D_init).2.1 42 = .ok (.invokespecial 31, 3) := by decide +kernel
theorem d_D_init_45 : decode (m_D_init).2.1 45 = .ok (.putfield 32, 3) := by decide +kernel
theorem d_D_init_48 : decode (m_D_init).2.1 48 = .ok (.aload_n 0, 1) := by decide +kernel
theorem d_D_init_49 : decode (m_D_init).2.1 49 = .ok (.new 36, 3) := by decide +kernel
theorem d_D_init_52 : decode (m_D_init).2.1 52 = .ok (.dup, 1) := by decide +kernel
theorem d_D_init_53 : decode (m_D_init).2.1 53 = .ok (.aload_n 0, 1) := by decide +kernel
theorem d_D_init_54 : decode (m_D_init).2.1 54 = .ok (.getfield 12, 3) := by decide +kernel
theorem d_D_init_57 : decode (m_D_init).2.1 57 = .ok (.aload_n 0, 1) := by decide +kernel
theorem d_D_init_58 : decode (m_D_init).2.1 58 = .ok (.getfield 21, 3) := by decide +kernel
theorem d_D_init_61 : decode (m_D_init).2.1 61 = .ok (.aload_n 0, 1) := by decide +kernel
theorem d_D_init_62 : decode (m_D_init).2.1 62 = .ok (.getfield 32, 3) := by decide +kernel
theorem d_D_init_65 : decode (m_D_init).2.1 65 = .ok (.invokespecial 38, 3) := by decide +kernel
theorem d_D_init_68 : decode (m_D_init).2.1 68 = .ok (.putfield 41, 3) := by decide +kernel
theorem d_D_init_71 : decode (m_D_init).2.1 71 = .ok (.aload_n 0, 1) := by decide +kernel
theorem d_D_init_72 : decode (m_D_init).2.1 72 = .ok (.new 45, 3) := by decide +kernel
theorem d_D_init_75 : decode (m_D_init).2.1 75 = .ok (.dup, 1) := by decide +kernel
theorem d_D_init_76 : decode (m_D_init).2.1 76 = .ok (.aload_n 0, 1) := by decide +kernel
theorem d_D_init_77 : decode (m_D_init).2.1 77 = .ok (.getfield 21, 3) := by decide +kernel
theorem d_D_init_80 : decode (m_D_init).2.1 80 = .ok (.iconst 1, 1) := by decide +kernel
theorem d_D_init_81 : decode (m_D_init).2.1 81 = .ok (.invokespecial 47, 3) := by decide +kernel
theorem d_D_init_84 : decode (m_D_init).2.1 84 = .ok (.putfield 50, 3) := by decide +kernel
theorem d_D_init_87 : decode (m_D_init).2.1 87 = .ok (.aload_n 0, 1) := by decide +kernel
theorem d_D_init_88 : decode (m_D_init).2.1 88 = .ok (.new 45, 3) := by decide +kernel
theorem d_D_init_91 : decode (m_D_init).2.1 91 = .ok (.dup, 1) := by decide +kernel
theorem d_D_init_92 : decode (m_D_init).2.1 92 = .ok (.aload_n 0, 1) := by decide +kernel
theorem d_D_init_93 : decode (m_D_init).2.1 93 = .ok (.getfield 21, 3) := by decide +kernel
theorem d_D_init_96 : decode (m_D_init).2.1 96 = .ok (.bipush 16, 2) := by decide +kernel
theorem d_D_init_98 : decode (m_D_init).2.1 98 = .ok (.invokespecial 47, 3) := by decide +kernel
theorem d_D_init_101 : decode (m_D_init).2.1 101 = .ok (.putfield 54, 3) := by decide +kernel
theorem d_D_init_104 : decode (m_D_init).2.1 104 = .ok (.aload_n 0, 1) := by decide +kernel
theorem d_D_init_105 : decode (m_D_init).2.1 105 = .ok (.bipush 20, 2) := by decide +kernel
theorem d_D_init_107 : decode (m_D_init).2.1 107 = .ok (.newarray .int, 2) := by decide +kernel
theorem d_D_init_109 : decode (m_D_init).2.1 109 = .ok (.putfield 57, 3) := by decide +kernel
theorem d_D_init_112 : decode (m_D_init).2.1 112 = .ok (.aload_n 0, 1) := by decide +kernel
theorem d_D_init_113 : decode (m_D_init).2.1 113 = .ok (.new 60, 3) := by decide +kernel
theorem d_D_init_116 : decode (m_D_init).2.1 116 = .ok (.dup, 1) := by decide +kernel
theorem d_D_init_117 : decode (m_D_init).2.1 117 = .ok (.aload_n 0, 1) := by decide +kernel
theorem d_D_init_118 : decode (m_D_init).2.1 118 = .ok (.getfield 12, 3) := by decide +kernel
theorem d_D_init_121 : decode (m_D_init).2.1 121 = .ok (.aload_n 0, 1) := by decide +kernel
theorem d_D_init_122 : decode (m_D_init).2.1 122 = .ok (.getfield 21, 3) := by decide +kernel
theorem d_D_init_125 : decode (m_D_init).2.1 125 = .ok (.aload_n 0, 1) := by decide +kernel
theorem d_D_init_126 : decode (m_D_init).2.1 126 = .ok (.getfield 32, 3) := by decide +kernel
theorem d_D_init_129 : decode (m_D_init).2.1 129 = .ok (.invokespecial 62, 3) := by decide +kernel
theorem d_D_init_132 : decode (m_D_init).2.1 132 = .ok (.putfield 63, 3) := by decide +kernel
theorem d_D_init_135 : decode (m_D_init).2.1 135 = .ok (.aload_n 0, 1) := by decide +kernel
theorem d_D_init_136 : decode (m_D_init).2.1 136 = .ok (.bipush 11, 2) := by decide +kernel
theorem d_D_init_138 : decode (m_D_init).2.1 138 = .ok (.invokevirtual 67, 3) := by decide +kernel
theorem d_D_init_141 : decode (m_D_init).2.1 141 = .ok (.return_, 1) := by decide +kernel
theorem d_D_field_0 : decode (m_D_field).2.1 0 = .ok (.iload_n 1, 1) := by decide +kernel
theorem d_D_field_1 : decode (m_D_field).2.1 1 = .ok (.bipush 8, 2) := by decide +kernel
theorem d_D_field_3 : decode (m_D_field).2.1 3 = .ok (.if_icmp .lt 9, 3) := by decide +kernel
theorem d_D_field_6 : decode (m_D_field).2.1 6 = .ok (.iload_n 1, 1) := by decide +kernel
theorem d_D_field_7 : decode (m_D_field).2.1 7 = .ok (.bipush 64, 2) := by decide +kernel
theorem d_D_field_9 : decode (m_D_field).2.1 9 = .ok (.if_icmp .lt 5, 3) := by decide +kernel
theorem d_D_field_12 : decode (m_D_field).2.1 12 = .ok (.iconst (-1), 1) := by decide +kernel
theorem d_D_field_13 : decode (m_D_field).2.1 13 = .ok (.ireturn, 1) := by decide +kernel
theorem d_D_field_14 : decode (m_D_field).2.1 14 = .ok (.iload_n 1, 1) := by decide +kernel
theorem d_D_field_15 : decode (m_D_field).2.1 15 = .ok (.invokestatic 71, 3) := by decide +kernel
theorem d_D_field_18 : decode (m_D_field).2.1 18 = .ok (.ifCond .ne 6, 3) := by decide +kernel
theorem d_D_field_21 : decode (m_D_field).2.1 21 = .ok (.bipush (-4), 2) := by decide +kernel
theorem d_D_field_23 : decode (m_D_field).2.1 23 = .ok (.ireturn, 1) := by decide +kernel
theorem d_D_field_24 : decode (m_D_field).2.1 24 = .ok (.aload_n 0, 1) := by decide +kernel
theorem d_D_field_25 : decode (m_D_field).2.1 25 = .ok (.iload_n 1, 1) := by decide +kernel
theorem d_D_field_26 : decode (m_D_field).2.1 26 = .ok (.invokevirtual 67, 3) := by decide +kernel
theorem d_D_field_29 : decode (m_D_field).2.1 29 = .ok (.aload_n 0, 1) := by decide +kernel
theorem d_D_field_30 : decode (m_D_field).2.1 30 = .ok (.getfield 12, 3) := by decide +kernel
theorem d_D_field_33 : decode (m_D_field).2.1 33 = .ok (.getfield 75, 3) := by decide +kernel
theorem d_D_field_36 : decode (m_D_field).2.1 36 = .ok (.ireturn, 1) := by decide +kernel
theorem d_D_times_0 : decode (m_D_times).2.1 0 = .ok (.aload_n 0, 1) := by decide +kernel
theorem d_D_times_1 : decode (m_D_times).2.1 1 = .ok (.getfield 12, 3) := by decide +kernel
theorem d_D_times_4 : decode (m_D_times).2.1 4 = .ok (.iload_n 1, 1) := by decide +kernel
theorem d_D_times_5 : decode (m_D_times).2.1 5 = .ok (.invokevirtual 79, 3) := by decide +kernel
theorem d_D_times_8 : decode (m_D_times).2.1 8 = .ok (.ifCond .eq 26, 3) := by decide +kernel
theorem d_D_times_11 : decode (m_D_times).2.1 11 = .ok (.aload_n 0, 1) := by decide +kernel
theorem d_D_times_12 : decode (m_D_times).2.1 12 = .ok (.getfield 12, 3) := by decide +kernel
theorem d_D_times_15 : decode (m_D_times).2.1 15 = .ok (.iload_n 2, 1) := by decide +kernel
theorem d_D_times_16 : decode (m_D_times).2.1 16 = .ok (.invokevirtual 79, 3) := by decide +kernel
theorem d_D_times_19 : decode (m_D_times).2.1 19 = .ok (.ifCond .eq 15, 3) := by decide +kernel
theorem d_D_times_22 : decode (m_D_times).2.1 22 = .ok (.aload_n 0, 1) := by decide +kernel
theorem d_D_times_23 : decode (m_D_times).2.1 23 = .ok (.getfield 12, 3) := by decide +kernel
theorem d_D_times_26 : decode (m_D_times).2.1 26 = .ok (.iload_n 1, 1) := by decide +kernel
theorem d_D_times_27 : decode (m_D_times).2.1 27 = .ok (.iload_n 2, 1) := by decide +kernel
theorem d_D_times_28 : decode (m_D_times).2.1 28 = .ok (.invokevirtual 82, 3) := by decide +kernel
theorem d_D_times_31 : decode (m_D_times).2.1 31 = .ok (.goto 4, 3) := by decide +kernel
theorem d_D_times_34 : decode (m_D_times).2.1 34 = .ok (.iconst (-1), 1) := by decide +kernel
theorem d_D_times_35 : decode (m_D_times).2.1 35 = .ok (.ireturn, 1) := by decide +kernel
theorem d_D_over_0 : decode (m_D_over).2.1 0 = .ok (.aload_n 0, 1) := by decide +kernel
theorem d_D_over_1 : decode (m_D_over).2.1 1 = .ok (.getfield 12, 3) := by decide +kernel
theorem d_D_over_4 : decode (m_D_over).2.1 4 = .ok (.iload_n 1, 1) := by decide +kernel
theorem d_D_over_5 : decode (m_D_over).2.1 5 = .ok (.invokevirtual 79, 3) := by decide +kernel
theorem d_D_over_8 : decode (m_D_over).2.1 8 = .ok (.ifCond .eq 14, 3) := by decide +kernel
theorem d_D_over_11 : decode (m_D_over).2.1 11 = .ok (.aload_n 0, 1) := by decide +kernel
theorem d_D_over_12 : decode (m_D_over).2.1 12 = .ok (.getfield 12, 3) := by decide +kernel
theorem d_D_over_15 : decode (m_D_over).2.1 15 = .ok (.iload_n 2, 1) := by decide +kernel
theorem d_D_over_16 : decode (m_D_over).2.1 16 = .ok (.invokevirtual 79, 3) := by decide +kernel
theorem d_D_over_19 : decode (m_D_over).2.1 19 = .ok (.ifCond .ne 5, 3) := by decide +kernel
theorem d_D_over_22 : decode (m_D_over).2.1 22 = .ok (.iconst (-1), 1) := by decide +kernel
theorem d_D_over_23 : decode (m_D_over).2.1 23 = .ok (.ireturn, 1) := by decide +kernel
theorem d_D_over_24 : decode (m_D_over).2.1 24 = .ok (.iload_n 2, 1) := by decide +kernel
theorem d_D_over_25 : decode (m_D_over).2.1 25 = .ok (.ifCond .ne 8, 3) := by decide +kernel
theorem d_D_over_28 : decode (m_D_over).2.1 28 = .ok (.bipush (-2), 2) := by decide +kernel
theorem d_D_over_30 : decode (m_D_over).2.1 30 = .ok (.goto 12, 3) := by decide +kernel
theorem d_D_over_33 : decode (m_D_over).2.1 33 = .ok (.aload_n 0, 1) := by decide +kernel
theorem d_D_over_34 : decode (m_D_over).2.1 34 = .ok (.getfield 12, 3) := by decide +kernel
theorem d_D_over_37 : decode (m_D_over).2.1 37 = .ok (.iload_n 1, 1) := by decide +kernel
theorem d_D_over_38 : decode (m_D_over).2.1 38 = .ok (.iload_n 2, 1) := by decide +kernel
theorem d_D_over_39 : decode (m_D_over).2.1 39 = .ok (.invokevirtual 86, 3) := by decide +kernel
theorem d_D_over_42 : decode (m_D_over).2.1 42 = .ok (.ireturn, 1) := by decide +kernel
theorem d_D_log_0 : decode (m_D_log).2.1 0 = .ok (.aload_n 0, 1) := by decide +kernel
theorem d_D_log_1 : decode (m_D_log).2.1 1 = .ok (.getfield 12, 3) := by decide +kernel
theorem d_D_log_4 : decode (m_D_log).2.1 4 = .ok (.iload_n 1, 1) := by decide +kernel
theorem d_D_log_5 : decode (m_D_log).2.1 5 = .ok (.invokevirtual 79, 3) := by decide +kernel
theorem d_D_log_8 : decode (m_D_log).2.1 8 = .ok (.ifCond .ne 5, 3) := by decide +kernel
theorem d_D_log_11 : decode (m_D_log).2.1 11 = .ok (.iconst (-1), 1) := by decide +kernel
theorem d_D_log_12 : decode (m_D_log).2.1 12 = .ok (.ireturn, 1) := by decide +kernel
theorem d_D_log_13 : decode (m_D_log).2.1 13 = .ok (.iload_n 1, 1) := by decide +kernel
theorem d_D_log_14 : decode (m_D_log).2.1 14 = .ok (.ifCond .ne 8, 3) := by decide +kernel
theorem d_D_log_17 : decode (m_D_log).2.1 17 = .ok (.bipush (-2), 2) := by decide +kernel
theorem d_D_log_19 : decode (m_D_log).2.1 19 = .ok (.goto 12, 3) := by decide +kernel
theorem d_D_log_22 : decode (m_D_log).2.1 22 = .ok (.aload_n 0, 1) := by decide +kernel
theorem d_D_log_23 : decode (m_D_log).2.1 23 = .ok (.getfield 12, 3) := by decide +kernel
theorem d_D_log_26 : decode (m_D_log).2.1 26 = .ok (.getfield 89, 3) := by decide +kernel
theorem d_D_log_29 : decode (m_D_log).2.1 29 = .ok (.iload_n 1, 1) := by decide +kernel
theorem d_D_log_30 : decode (m_D_log).2.1 30 = .ok (.iaload, 1) := by decide +kernel
theorem d_D_log_31 : decode (m_D_log).2.1 31 = .ok (.ireturn, 1) := by decide +kernel
theorem d_D_code_0 : decode (m_D_code).2.1 0 = .ok (.iload_n 1, 1) := by decide +kernel
theorem d_D_code_1 : decode (m_D_code).2.1 1 = .ok (.ifCond .lt 25, 3) := by decide +kernel
theorem d_D_code_4 : decode (m_D_code).2.1 4 = .ok (.iload_n 1, 1) := by decide +kernel
theorem d_D_code_5 : decode (m_D_code).2.1 5 = .ok (.iconst 1, 1) := by decide +kernel
theorem d_D_code_6 : decode (m_D_code).2.1 6 = .ok (.if_icmp .gt 20, 3) := by decide +kernel
theorem d_D_code_9 : decode (m_D_code).2.1 9 = .ok (.iload_n 2, 1) := by decide +kernel
theorem d_D_code_10 : decode (m_D_code).2.1 10 = .ok (.bipush 20, 2) := by decide +kernel
theorem d_D_code_12 : decode (m_D_code).2.1 12 = .ok (.if_icmp .gt 14, 3) := by decide +kernel
theorem d_D_code_15 : decode (m_D_code).2.1 15 = .ok (.iload_n 2, 1) := by decide +kernel
theorem d_D_code_16 : decode (m_D_code).2.1 16 = .ok (.aload_n 0, 1) := by decide +kernel
theorem d_D_code_17 : decode (m_D_code).2.1 17 = .ok (.getfield 12, 3) := by decide +kernel
theorem d_D_code_20 : decode (m_D_code).2.1 20 = .ok (.getfield 92, 3) := by decide +kernel
theorem d_D_code_23 : decode (m_D_code).2.1 23 = .ok (.if_icmp .lt 5, 3) := by decide +kernel
theorem d_D_code_26 : decode (m_D_code).2.1 26 = .ok (.iconst 0, 1) := by decide +kernel
theorem d_D_code_27 : decode (m_D_code).2.1 27 = .ok (.ireturn, 1) := by decide +kernel
theorem d_D_code_28 : decode (m_D_code).2.1 28 = .ok (.iload_n 3, 1) := by decide +kernel
theorem d_D_code_29 : decode (m_D_code).2.1 29 = .ok (.iconst 2, 1) := by decide +kernel
theorem d_D_code_30 : decode (m_D_code).2.1 30 = .ok (.if_icmp .lt 22, 3) := by decide +kernel
theorem d_D_code_33 : decode (m_D_code).2.1 33 = .ok (.iload_n 3, 1) := by decide +kernel
theorem d_D_code_34 : decode (m_D_code).2.1 34 = .ok (.iload_n 2, 1) := by decide +kernel
theorem d_D_code_35 : decode (m_D_code).2.1 35 = .ok (.if_icmp .ge 17, 3) := by decide +kernel
theorem d_D_code_38 : decode (m_D_code).2.1 38 = .ok (.aload_n 0, 1) := by decide +kernel
theorem d_D_code_39 : decode (m_D_code).2.1 39 = .ok (.getfield 12, 3) := by decide +kernel
theorem d_D_code_42 : decode (m_D_code).2.1 42 = .ok (.getfield 75, 3) := by decide +kernel
theorem d_D_code_45 : decode (m_D_code).2.1 45 = .ok (.iload_n 3, 1) := by decide +kernel
theorem d_D_code_46 : decode (m_D_code).2.1 46 = .ok (.imul, 1) := by decide +kernel
theorem d_D_code_47 : decode (m_D_code).2.1 47 = .ok (.bipush 12, 2) := by decide +kernel
theorem d_D_code_49 : decode (m_D_code).2.1 49 = .ok (.if_icmp .le 5, 3) := by decide +kernel
theorem d_D_code_52 : decode (m_D_code).2.1 52 = .ok (.iconst 0, 1) := by decide +kernel
theorem d_D_code_53 : decode (m_D_code).2.1 53 = .ok (.ireturn, 1) := by decide +kernel
theorem d_D_code_54 : decode (m_D_code).2.1 54 = .ok (.aload_n 0, 1) := by decide +kernel
theorem d_D_code_55 : decode (m_D_code).2.1 55 = .ok (.iload_n 1, 1) := by decide +kernel
theorem d_D_code_56 : decode (m_D_code).2.1 56 = .ok (.iload_n 2, 1) := by decide +kernel
theorem d_D_code_57 : decode (m_D_code).2.1 57 = .ok (.iload_n 3, 1) := by decide +kernel
theorem d_D_code_58 : decode (m_D_code).2.1 58 = .ok (.invokevirtual 95, 3) := by decide +kernel
theorem d_D_code_61 : decode (m_D_code).2.1 61 = .ok (.iconst 1, 1) := by decide +kernel
theorem d_D_code_62 : decode (m_D_code).2.1 62 = .ok (.ireturn, 1) := by decide +kernel
theorem d_D_tell_0 : decode (m_D_tell).2.1 0 = .ok (.aload_n 0, 1) := by decide +kernel
theorem d_D_tell_1 : decode (m_D_tell).2.1 1 = .ok (.iload_n 1, 1) := by decide +kernel
theorem d_D_tell_2 : decode (m_D_tell).2.1 2 = .ok (.invokevirtual 99, 3) := by decide +kernel
theorem d_D_tell_5 : decode (m_D_tell).2.1 5 = .ok (.ifCond .eq 14, 3) := by decide +kernel
theorem d_D_tell_8 : decode (m_D_tell).2.1 8 = .ok (.aload_n 0, 1) := by decide +kernel
theorem d_D_tell_9 : decode (m_D_tell).2.1 9 = .ok (.getfield 12, 3) := by decide +kernel
theorem d_D_tell_12 : decode (m_D_tell).2.1 12 = .ok (.iload_n 2, 1) := by decide +kernel
theorem d_D_tell_13 : decode (m_D_tell).2.1 13 = .ok (.invokevirtual 79, 3) := by decide +kernel
theorem d_D_tell_16 : decode (m_D_tell).2.1 16 = .ok (.ifCond .ne 5, 3) := by decide +kernel
theorem d_D_tell_19 : decode (m_D_tell).2.1 19 = .ok (.iconst 0, 1) := by decide +kernel
theorem d_D_tell_20 : decode (m_D_tell).2.1 20 = .ok (.ireturn, 1) := by decide +kernel
theorem d_D_tell_21 : decode (m_D_tell).2.1 21 = .ok (.aload_n 0, 1) := by decide +kernel
theorem d_D_tell_22 : decode (m_D_tell).2.1 22 = .ok (.getfield 25, 3) := by decide +kernel
theorem d_D_tell_25 : decode (m_D_tell).2.1 25 = .ok (.iload_n 1, 1) := by decide +kernel
theorem d_D_tell_26 : decode (m_D_tell).2.1 26 = .ok (.iload_n 2, 1) := by decide +kernel
theorem d_D_tell_27 : decode (m_D_tell).2.1 27 = .ok (.iastore, 1) := by decide +kernel
theorem d_D_tell_28 : decode (m_D_tell).2.1 28 = .ok (.iconst 1, 1) := by decide +kernel
theorem d_D_tell_29 : decode (m_D_tell).2.1 29 = .ok (.ireturn, 1) := by decide +kernel
theorem d_D_encode_0 : decode (m_D_encode).2.1 0 = .ok (.iload_n 1, 1) := by decide +kernel
theorem d_D_encode_1 : decode (m_D_encode).2.1 1 = .ok (.ifCond .eq 13, 3) := by decide +kernel
theorem d_D_encode_4 : decode (m_D_encode).2.1 4 = .ok (.aload_n 0, 1) := by decide +kernel
theorem d_D_encode_5 : decode (m_D_encode).2.1 5 = .ok (.getfield 21, 3) := by decide +kernel
theorem d_D_encode_8 : decode (m_D_encode).2.1 8 = .ok (.getfield 102, 3) := by decide +kernel
theorem d_D_encode_11 : decode (m_D_encode).2.1 11 = .ok (.goto 10, 3) := by decide +kernel
theorem d_D_encode_14 : decode (m_D_encode).2.1 14 = .ok (.aload_n 0, 1) := by decide +kernel
theorem d_D_encode_15 : decode (m_D_encode).2.1 15 = .ok (.getfield 21, 3) := by decide +kernel
theorem d_D_encode_18 : decode (m_D_encode).2.1 18 = .ok (.getfield 106, 3) := by decide +kernel
theorem d_D_encode_21 : decode (m_D_encode).2.1 21 = .ok (.astore_n 2, 1) := by decide +kernel
theorem d_D_encode_22 : decode (m_D_encode).2.1 22 = .ok (.iconst 0, 1) := by decide +kernel
theorem d_D_encode_23 : decode (m_D_encode).2.1 23 = .ok (.istore_n 3, 1) := by decide +kernel
theorem d_D_encode_24 : decode (m_D_encode).2.1 24 = .ok (.iconst 0, 1) := by decide +kernel
theorem d_D_encode_25 : decode (m_D_encode).2.1 25 = .ok (.istore 4, 2) := by decide +kernel
theorem d_D_encode_27 : decode (m_D_encode).2.1 27 = .ok (.iload 4, 2) := by decide +kernel
theorem d_D_encode_29 : decode (m_D_encode).2.1 29 = .ok (.aload_n 0, 1) := by decide +kernel
theorem d_D_encode_30 : decode (m_D_encode).2.1 30 = .ok (.getfield 21, 3) := by decide +kernel
theorem d_D_encode_33 : decode (m_D_encode).2.1 33 = .ok (.getfield 109, 3) := by decide +kernel
theorem d_D_encode_36 : decode (m_D_encode).2.1 36 = .ok (.if_icmp .ge 44, 3) := by decide +kernel
theorem d_D_encode_39 : decode (m_D_encode).2.1 39 = .ok (.aload_n 0, 1) := by decide +kernel
theorem d_D_encode_40 : decode (m_D_encode).2.1 40 = .ok (.getfield 21, 3) := by decide +kernel
theorem d_D_encode_43 : decode (m_D_encode).2.1 43 = .ok (.aload_n 2, 1) := by decide +kernel
theorem d_D_encode_44 : decode (m_D_encode).2.1 44 = .ok (.aload_n 0, 1) := by decide +kernel
theorem d_D_encode_45 : decode (m_D_encode).2.1 45 = .ok (.getfield 25, 3) := by decide +kernel
theorem d_D_encode_48 : decode (m_D_encode).2.1 48 = .ok (.iload 4, 2) := by decide +kernel
theorem d_D_encode_50 : decode (m_D_encode).2.1 50 = .ok (.invokevirtual 112, 3) := by decide +kernel
theorem d_D_encode_53 : decode (m_D_encode).2.1 53 = .ok (.istore 5, 2) := by decide +kernel
theorem d_D_encode_55 : decode (m_D_encode).2.1 55 = .ok (.aload_n 0, 1) := by decide +kernel
theorem d_D_encode_56 : decode (m_D_encode).2.1 56 = .ok (.getfield 32, 3) := by decide +kernel
theorem d_D_encode_59 : decode (m_D_encode).2.1 59 = .ok (.iload 4, 2) := by decide +kernel
theorem d_D_encode_61 : decode (m_D_encode).2.1 61 = .ok (.iload 5, 2) := by decide +kernel
theorem d_D_encode_63 : decode (m_D_encode).2.1 63 = .ok (.invokevirtual 116, 3) := by decide +kernel
theorem d_D_encode_66 : decode (m_D_encode).2.1 66 = .ok (.iload 5, 2) := by decide +kernel
theorem d_D_encode_68 : decode (m_D_encode).2.1 68 = .ok (.ifCond .eq 6, 3) := by decide +kernel
theorem d_D_encode_71 : decode (m_D_encode).2.1 71 = .ok (.iinc 3 1, 3) := by decide +kernel
theorem d_D_encode_74 : decode (m_D_encode).2.1 74 = .ok (.iinc 4 1, 3) := by decide +kernel
theorem d_D_encode_77 : decode (m_D_encode).2.1 77 = .ok (.goto (-50), 3) := by decide +kernel
theorem d_D_encode_80 : decode (m_D_encode).2.1 80 = .ok (.iload_n 3, 1) := by decide +kernel
theorem d_D_encode_81 : decode (m_D_encode).2.1 81 = .ok (.ireturn, 1) := by decide +kernel
theorem d_D_receive_0 : decode (m_D_receive).2.1 0 = .ok (.aload_n 0, 1) := by decide +kernel
theorem d_D_receive_1 : decode (m_D_receive).2.1 1 = .ok (.iload_n 1, 1) := by decide +kernel
theorem d_D_receive_2 : decode (m_D_receive).2.1 2 = .ok (.invokevirtual 120, 3) := by decide +kernel
theorem d_D_receive_5 : decode (m_D_receive).2.1 5 = .ok (.ifCond .eq 14, 3) := by decide +kernel
theorem d_D_receive_8 : decode (m_D_receive).2.1 8 = .ok (.aload_n 0, 1) := by decide +kernel
theorem d_D_receive_9 : decode (m_D_receive).2.1 9 = .ok (.getfield 12, 3) := by decide +kernel
theorem d_D_receive_12 : decode (m_D_receive).2.1 12 = .ok (.iload_n 2, 1) := by decide +kernel
theorem d_D_receive_13 : decode (m_D_receive).2.1 13 = .ok (.invokevirtual 79, 3) := by decide +kernel
theorem d_D_receive_16 : decode (m_D_receive).2.1 16 = .ok (.ifCond .ne 5, 3) := by decide +kernel
theorem d_D_receive_19 : decode (m_D_receive).2.1 19 = .ok (.iconst 0, 1) := by decide +kernel
theorem d_D_receive_20 : decode (m_D_receive).2.1 20 = .ok (.ireturn, 1) := by decide +kernel
theorem d_D_receive_21 : decode (m_D_receive).2.1 21 = .ok (.aload_n 0, 1) := by decide +kernel
theorem d_D_receive_22 : decode (m_D_receive).2.1 22 = .ok (.getfield 32, 3) := by decide +kernel
theorem d_D_receive_25 : decode (m_D_receive).2.1 25 = .ok (.iload_n 1, 1) := by decide +kernel
theorem d_D_receive_26 : decode (m_D_receive).2.1 26 = .ok (.iload_n 2, 1) := by decide +kernel
theorem d_D_receive_27 : decode (m_D_receive).2.1 27 = .ok (.invokevirtual 116, 3) := by decide +kernel
theorem d_D_receive_30 : decode (m_D_receive).2.1 30 = .ok (.iconst 1, 1) := by decide +kernel
theorem d_D_receive_31 : decode (m_D_receive).2.1 31 = .ok (.ireturn, 1) := by decide +kernel
theorem d_D_erase_0 : decode (m_D_erase).2.1 0 = .ok (.aload_n 0, 1) := by decide +kernel
theorem d_D_erase_1 : decode (m_D_erase).2.1 1 = .ok (.iload_n 1, 1) := by decide +kernel
theorem d_D_erase_2 : decode (m_D_erase).2.1 2 = .ok (.invokevirtual 120, 3) := by decide +kernel
theorem d_D_erase_5 : decode (m_D_erase).2.1 5 = .ok (.ifCond .eq 15, 3) := by decide +kernel
theorem d_D_erase_8 : decode (m_D_erase).2.1 8 = .ok (.aload_n 0, 1) := by decide +kernel
theorem d_D_erase_9 : decode (m_D_erase).2.1 9 = .ok (.getfield 32, 3) := by decide +kernel
theorem d_D_erase_12 : decode (m_D_erase).2.1 12 = .ok (.getfield 123, 3) := by decide +kernel
theorem d_D_erase_15 : decode (m_D_erase).2.1 15 = .ok (.iload_n 1, 1) := by decide +kernel
theorem d_D_erase_16 : decode (m_D_erase).2.1 16 = .ok (.baload, 1) := by decide +kernel
theorem d_D_erase_17 : decode (m_D_erase).2.1 17 = .ok (.ifCond .eq 5, 3) := by decide +kernel
theorem d_D_erase_20 : decode (m_D_erase).2.1 20 = .ok (.iconst 0, 1) := by decide +kernel
theorem d_D_erase_21 : decode (m_D_erase).2.1 21 = .ok (.ireturn, 1) := by decide +kernel
theorem d_D_erase_22 : decode (m_D_erase).2.1 22 = .ok (.aload_n 0, 1) := by decide +kernel
theorem d_D_erase_23 : decode (m_D_erase).2.1 23 = .ok (.getfield 32, 3) := by decide +kernel
theorem d_D_erase_26 : decode (m_D_erase).2.1 26 = .ok (.iload_n 1, 1) := by decide +kernel
theorem d_D_erase_27 : decode (m_D_erase).2.1 27 = .ok (.invokevirtual 127, 3) := by decide +kernel
theorem d_D_erase_30 : decode (m_D_erase).2.1 30 = .ok (.iconst 1, 1) := by decide +kernel
theorem d_D_erase_31 : decode (m_D_erase).2.1 31 = .ok (.ireturn, 1) := by decide +kernel
theorem d_D_word_0 : decode (m_D_word).2.1 0 = .ok (.aload_n 0, 1) := by decide +kernel
theorem d_D_word_1 : decode (m_D_word).2.1 1 = .ok (.iload_n 1, 1) := by decide +kernel
theorem d_D_word_2 : decode (m_D_word).2.1 2 = .ok (.invokevirtual 120, 3) := by decide +kernel
theorem d_D_word_5 : decode (m_D_word).2.1 5 = .ok (.ifCond .ne 5, 3) := by decide +kernel
theorem d_D_word_8 : decode (m_D_word).2.1 8 = .ok (.iconst (-1), 1) := by decide +kernel
theorem d_D_word_9 : decode (m_D_word).2.1 9 = .ok (.ireturn, 1) := by decide +kernel
theorem d_D_word_10 : decode (m_D_word).2.1 10 = .ok (.aload_n 0, 1) := by decide +kernel
theorem d_D_word_11 : decode (m_D_word).2.1 11 = .ok (.getfield 32, 3) := by decide +kernel
theorem d_D_word_14 : decode (m_D_word).2.1 14 = .ok (.getfield 123, 3) := by decide +kernel
theorem d_D_word_17 : decode (m_D_word).2.1 17 = .ok (.iload_n 1, 1) := by decide +kernel
theorem d_D_word_18 : decode (m_D_word).2.1 18 = .ok (.baload, 1) := by decide +kernel
theorem d_D_word_19 : decode (m_D_word).2.1 19 = .ok (.ifCond .eq 8, 3) := by decide +kernel
theorem d_D_word_22 : decode (m_D_word).2.1 22 = .ok (.bipush (-2), 2) := by decide +kernel
theorem d_D_word_24 : decode (m_D_word).2.1 24 = .ok (.goto 12, 3) := by decide +kernel
theorem d_D_word_27 : decode (m_D_word).2.1 27 = .ok (.aload_n 0, 1) := by decide +kernel
theorem d_D_word_28 : decode (m_D_word).2.1 28 = .ok (.getfield 32, 3) := by decide +kernel
theorem d_D_word_31 : decode (m_D_word).2.1 31 = .ok (.getfield 130, 3) := by decide +kernel
theorem d_D_word_34 : decode (m_D_word).2.1 34 = .ok (.iload_n 1, 1) := by decide +kernel
theorem d_D_word_35 : decode (m_D_word).2.1 35 = .ok (.iaload, 1) := by decide +kernel
theorem d_D_word_36 : decode (m_D_word).2.1 36 = .ok (.ireturn, 1) := by decide +kernel
theorem d_D_syndrome_0 : decode (m_D_syndrome).2.1 0 = .ok (.iload_n 1, 1) := by decide +kernel
theorem d_D_syndrome_1 : decode (m_D_syndrome).2.1 1 = .ok (.ifCond .lt 22, 3) := by decide +kernel
theorem d_D_syndrome_4 : decode (m_D_syndrome).2.1 4 = .ok (.iload_n 1, 1) := by decide +kernel
theorem d_D_syndrome_5 : decode (m_D_syndrome).2.1 5 = .ok (.aload_n 0, 1) := by decide +kernel
theorem d_D_syndrome_6 : decode (m_D_syndrome).2.1 6 = .ok (.getfield 21, 3) := by decide +kernel
theorem d_D_syndrome_9 : decode (m_D_syndrome).2.1 9 = .ok (.getfield 109, 3) := by decide +kernel
theorem d_D_syndrome_12 : decode (m_D_syndrome).2.1 12 = .ok (.aload_n 0, 1) := by decide +kernel
theorem d_D_syndrome_13 : decode (m_D_syndrome).2.1 13 = .ok (.getfield 21, 3) := by decide +kernel
theorem d_D_syndrome_16 : decode (m_D_syndrome).2.1 16 = .ok (.getfield 133, 3) := by decide +kernel
theorem d_D_syndrome_19 : decode (m_D_syndrome).2.1 19 = .ok (.isub, 1) := by decide +kernel
theorem d_D_syndrome_20 : decode (m_D_syndrome).2.1 20 = .ok (.if_icmp .lt 5, 3) := by decide +kernel
theorem d_D_syndrome_23 : decode (m_D_syndrome).2.1 23 = .ok (.iconst (-1), 1) := by decide +kernel
theorem d_D_syndrome_24 : decode (m_D_syndrome).2.1 24 = .ok (.ireturn, 1) := by decide +kernel
theorem d_D_syndrome_25 : decode (m_D_syndrome).2.1 25 = .ok (.iconst 0, 1) := by decide +kernel
theorem d_D_syndrome_26 : decode (m_D_syndrome).2.1 26 = .ok (.istore_n 2, 1) := by decide +kernel
theorem d_D_syndrome_27 : decode (m_D_syndrome).2.1 27 = .ok (.iconst 0, 1) := by decide +kernel
theorem d_D_syndrome_28 : decode (m_D_syndrome).2.1 28 = .ok (.istore_n 3, 1) := by decide +kernel
theorem d_D_syndrome_29 : decode (m_D_syndrome).2.1 29 = .ok (.iload_n 3, 1) := by decide +kernel
theorem d_D_syndrome_30 : decode (m_D_syndrome).2.1 30 = .ok (.aload_n 0, 1) := by decide +kernel
theorem d_D_syndrome_31 : decode (m_D_syndrome).2.1 31 = .ok (.getfield 21, 3) := by decide +kernel
theorem d_D_syndrome_34 : decode (m_D_syndrome).2.1 34 = .ok (.getfield 109, 3) := by decide +kernel
theorem d_D_syndrome_37 : decode (m_D_syndrome).2.1 37 = .ok (.if_icmp .ge 77, 3) := by decide +kernel
theorem d_D_syndrome_40 : decode (m_D_syndrome).2.1 40 = .ok (.aload_n 0, 1) := by decide +kernel
theorem d_D_syndrome_41 : decode (m_D_syndrome).2.1 41 = .ok (.getfield 32, 3) := by decide +kernel
theorem d_D_syndrome_44 : decode (m_D_syndrome).2.1 44 = .ok (.getfield 123, 3) := by decide +kernel
theorem d_D_syndrome_47 : decode (m_D_syndrome).2.1 47 = .ok (.iload_n 3, 1) := by decide +kernel
theorem d_D_syndrome_48 : decode (m_D_syndrome).2.1 48 = .ok (.baload, 1) := by decide +kernel
theorem d_D_syndrome_49 : decode (m_D_syndrome).2.1 49 = .ok (.ifCond .ne 59, 3) := by decide +kernel
theorem d_D_syndrome_52 : decode (m_D_syndrome).2.1 52 = .ok (.aload_n 0, 1) := by decide +kernel
theorem d_D_syndrome_53 : decode (m_D_syndrome).2.1 53 = .ok (.getfield 12, 3) := by decide +kernel
theorem d_D_syndrome_56 : decode (m_D_syndrome).2.1 56 = .ok (.aload_n 0, 1) := by decide +kernel
theorem d_D_syndrome_57 : decode (m_D_syndrome).2.1 57 = .ok (.getfield 21, 3) := by decide +kernel
theorem d_D_syndrome_60 : decode (m_D_syndrome).2.1 60 = .ok (.getfield 136, 3) := by decide +kernel
theorem d_D_syndrome_63 : decode (m_D_syndrome).2.1 63 = .ok (.iload_n 3, 1) := by decide +kernel
theorem d_D_syndrome_64 : decode (m_D_syndrome).2.1 64 = .ok (.iaload, 1) := by decide +kernel
theorem d_D_syndrome_65 : decode (m_D_syndrome).2.1 65 = .ok (.aload_n 0, 1) := by decide +kernel
theorem d_D_syndrome_66 : decode (m_D_syndrome).2.1 66 = .ok (.getfield 32, 3) := by decide +kernel
theorem d_D_syndrome_69 : decode (m_D_syndrome).2.1 69 = .ok (.getfield 130, 3) := by decide +kernel
theorem d_D_syndrome_72 : decode (m_D_syndrome).2.1 72 = .ok (.iload_n 3, 1) := by decide +kernel
theorem d_D_syndrome_73 : decode (m_D_syndrome).2.1 73 = .ok (.iaload, 1) := by decide +kernel
theorem d_D_syndrome_74 : decode (m_D_syndrome).2.1 74 = .ok (.invokevirtual 82, 3) := by decide +kernel
theorem d_D_syndrome_77 : decode (m_D_syndrome).2.1 77 = .ok (.istore 4, 2) := by decide +kernel
theorem d_D_syndrome_79 : decode (m_D_syndrome).2.1 79 = .ok (.iload_n 2, 1) := by decide +kernel
theorem d_D_syndrome_80 : decode (m_D_syndrome).2.1 80 = .ok (.aload_n 0, 1) := by decide +kernel
theorem d_D_syndrome_81 : decode (m_D_syndrome).2.1 81 = .ok (.getfield 12, 3) := by decide +kernel
theorem d_D_syndrome_84 : decode (m_D_syndrome).2.1 84 = .ok (.iload 4, 2) := by decide +kernel
theorem d_D_syndrome_86 : decode (m_D_syndrome).2.1 86 = .ok (.aload_n 0, 1) := by decide +kernel
theorem d_D_syndrome_87 : decode (m_D_syndrome).2.1 87 = .ok (.getfield 12, 3) := by decide +kernel
theorem d_D_syndrome_90 : decode (m_D_syndrome).2.1 90 = .ok (.aload_n 0, 1) := by decide +kernel
theorem d_D_syndrome_91 : decode (m_D_syndrome).2.1 91 = .ok (.getfield 21, 3) := by decide +kernel
theorem d_D_syndrome_94 : decode (m_D_syndrome).2.1 94 = .ok (.getfield 139, 3) := by decide +kernel
theorem d_D_syndrome_97 : decode (m_D_syndrome).2.1 97 = .ok (.iload_n 3, 1) := by decide +kernel
theorem d_D_syndrome_98 : decode (m_D_syndrome).2.1 98 = .ok (.iaload, 1) := by decide +kernel
theorem d_D_syndrome_99 : decode (m_D_syndrome).2.1 99 = .ok (.iload_n 1, 1) := by decide +kernel
theorem d_D_syndrome_100 : decode (m_D_syndrome).2.1 100 = .ok (.invokevirtual 142, 3) := by decide +kernel
theorem d_D_syndrome_103 : decode (m_D_syndrome).2.1 103 = .ok (.invokevirtual 82, 3) := by decide +kernel
theorem d_D_syndrome_106 : decode (m_D_syndrome).2.1 106 = .ok (.ixor, 1) := by decide +kernel
theorem d_D_syndrome_107 : decode (m_D_syndrome).2.1 107 = .ok (.istore_n 2, 1) := by decide +kernel
theorem d_D_syndrome_108 : decode (m_D_syndrome).2.1 108 = .ok (.iinc 3 1, 3) := by decide +kernel
theorem d_D_syndrome_111 : decode (m_D_syndrome).2.1 111 = .ok (.goto (-82), 3) := by decide +kernel
theorem d_D_syndrome_114 : decode (m_D_syndrome).2.1 114 = .ok (.iload_n 2, 1) := by decide +kernel
theorem d_D_syndrome_115 : decode (m_D_syndrome).2.1 115 = .ok (.ireturn, 1) := by decide +kernel
theorem d_D_decode_0 : decode (m_D_decode).2.1 0 = .ok (.aload_n 0, 1) := by decide +kernel
theorem d_D_decode_1 : decode (m_D_decode).2.1 1 = .ok (.invokevirtual 145, 3) := by decide +kernel
theorem d_D_decode_4 : decode (m_D_decode).2.1 4 = .ok (.ifCond .eq 6, 3) := by decide +kernel
theorem d_D_decode_7 : decode (m_D_decode).2.1 7 = .ok (.bipush (-3), 2) := by decide +kernel
theorem d_D_decode_9 : decode (m_D_decode).2.1 9 = .ok (.ireturn, 1) := by decide +kernel
theorem d_D_decode_10 : decode (m_D_decode).2.1 10 = .ok (.aload_n 0, 1) := by decide +kernel
theorem d_D_decode_11 : decode (m_D_decode).2.1 11 = .ok (.getfield 41, 3) := by decide +kernel
theorem d_D_decode_14 : decode (m_D_decode).2.1 14 = .ok (.aload_n 0, 1) := by decide +kernel
theorem d_D_decode_15 : decode (m_D_decode).2.1 15 = .ok (.invokevirtual 149, 3) := by decide +kernel
theorem d_D_decode_18 : decode (m_D_decode).2.1 18 = .ok (.aload_n 0, 1) := by decide +kernel
theorem d_D_decode_19 : decode (m_D_decode).2.1 19 = .ok (.getfield 50, 3) := by decide +kernel
theorem d_D_decode_22 : decode (m_D_decode).2.1 22 = .ok (.invokevirtual 153, 3) := by decide +kernel
theorem d_D_decode_25 : decode (m_D_decode).2.1 25 = .ok (.aload_n 0, 1) := by decide +kernel
theorem d_D_decode_26 : decode (m_D_decode).2.1 26 = .ok (.getfield 50, 3) := by decide +kernel
theorem d_D_decode_29 : decode (m_D_decode).2.1 29 = .ok (.getfield 157, 3) := by decide +kernel
theorem d_D_decode_32 : decode (m_D_decode).2.1 32 = .ok (.ifCond .ne 6, 3) := by decide +kernel
theorem d_D_decode_35 : decode (m_D_decode).2.1 35 = .ok (.bipush (-2), 2) := by decide +kernel
theorem d_D_decode_37 : decode (m_D_decode).2.1 37 = .ok (.ireturn, 1) := by decide +kernel
theorem d_D_decode_38 : decode (m_D_decode).2.1 38 = .ok (.aload_n 0, 1) := by decide +kernel
theorem d_D_decode_39 : decode (m_D_decode).2.1 39 = .ok (.invokevirtual 160, 3) := by decide +kernel
theorem d_D_decode_42 : decode (m_D_decode).2.1 42 = .ok (.aload_n 0, 1) := by decide +kernel
theorem d_D_decode_43 : decode (m_D_decode).2.1 43 = .ok (.getfield 50, 3) := by decide +kernel
theorem d_D_decode_46 : decode (m_D_decode).2.1 46 = .ok (.getfield 163, 3) := by decide +kernel
theorem d_D_decode_49 : decode (m_D_decode).2.1 49 = .ok (.iconst 0, 1) := by decide +kernel
theorem d_D_decode_50 : decode (m_D_decode).2.1 50 = .ok (.iaload, 1) := by decide +kernel
theorem d_D_decode_51 : decode (m_D_decode).2.1 51 = .ok (.ireturn, 1) := by decide +kernel
theorem d_D_decoded_0 : decode (m_D_decoded).2.1 0 = .ok (.aload_n 0, 1) := by decide +kernel
theorem d_D_decoded_1 : decode (m_D_decoded).2.1 1 = .ok (.iload_n 1, 1) := by decide +kernel
theorem d_D_decoded_2 : decode (m_D_decoded).2.1 2 = .ok (.invokevirtual 120, 3) := by decide +kernel
theorem d_D_decoded_5 : decode (m_D_decoded).2.1 5 = .ok (.ifCond .ne 5, 3) := by decide +kernel
theorem d_D_decoded_8 : decode (m_D_decoded).2.1 8 = .ok (.iconst (-1), 1) := by decide +kernel
theorem d_D_decoded_9 : decode (m_D_decoded).2.1 9 = .ok (.ireturn, 1) := by decide +kernel
theorem d_D_decoded_10 : decode (m_D_decoded).2.1 10 = .ok (.aload_n 0, 1) := by decide +kernel
theorem d_D_decoded_11 : decode (m_D_decoded).2.1 11 = .ok (.getfield 50, 3) := by decide +kernel
theorem d_D_decoded_14 : decode (m_D_decoded).2.1 14 = .ok (.getfield 157, 3) := by decide +kernel
theorem d_D_decoded_17 : decode (m_D_decoded).2.1 17 = .ok (.ifCond .ne 8, 3) := by decide +kernel
theorem d_D_decoded_20 : decode (m_D_decoded).2.1 20 = .ok (.bipush (-2), 2) := by decide +kernel
theorem d_D_decoded_22 : decode (m_D_decoded).2.1 22 = .ok (.goto 14, 3) := by decide +kernel
theorem d_D_decoded_25 : decode (m_D_decoded).2.1 25 = .ok (.aload_n 0, 1) := by decide +kernel
theorem d_D_decoded_26 : decode (m_D_decoded).2.1 26 = .ok (.getfield 50, 3) := by decide +kernel
theorem d_D_decoded_29 : decode (m_D_decoded).2.1 29 = .ok (.getfield 166, 3) := by decide +kernel
theorem d_D_decoded_32 : decode (m_D_decoded).2.1 32 = .ok (.iconst 0, 1) := by decide +kernel
theorem d_D_decoded_33 : decode (m_D_decoded).2.1 33 = .ok (.aaload, 1) := by decide +kernel
theorem d_D_decoded_34 : decode (m_D_decoded).2.1 34 = .ok (.iload_n 1, 1) := by decide +kernel
theorem d_D_decoded_35 : decode (m_D_decoded).2.1 35 = .ok (.iaload, 1) := by decide +kernel
theorem d_D_decoded_36 : decode (m_D_decoded).2.1 36 = .ok (.ireturn, 1) := by decide +kernel
theorem d_D_sent_0 : decode (m_D_sent).2.1 0 = .ok (.aload_n 0, 1) := by decide +kernel
theorem d_D_sent_1 : decode (m_D_sent).2.1 1 = .ok (.iload_n 1, 1) := by decide +kernel
theorem d_D_sent_2 : decode (m_D_sent).2.1 2 = .ok (.invokevirtual 99, 3) := by decide +kernel
theorem d_D_sent_5 : decode (m_D_sent).2.1 5 = .ok (.ifCond .ne 5, 3) := by decide +kernel
theorem d_D_sent_8 : decode (m_D_sent).2.1 8 = .ok (.iconst (-1), 1) := by decide +kernel
theorem d_D_sent_9 : decode (m_D_sent).2.1 9 = .ok (.ireturn, 1) := by decide +kernel
theorem d_D_sent_10 : decode (m_D_sent).2.1 10 = .ok (.aload_n 0, 1) := by decide +kernel
theorem d_D_sent_11 : decode (m_D_sent).2.1 11 = .ok (.getfield 50, 3) := by decide +kernel
theorem d_D_sent_14 : decode (m_D_sent).2.1 14 = .ok (.getfield 157, 3) := by decide +kernel
theorem d_D_sent_17 : decode (m_D_sent).2.1 17 = .ok (.ifCond .ne 8, 3) := by decide +kernel
theorem d_D_sent_20 : decode (m_D_sent).2.1 20 = .ok (.bipush (-2), 2) := by decide +kernel
theorem d_D_sent_22 : decode (m_D_sent).2.1 22 = .ok (.goto 20, 3) := by decide +kernel
theorem d_D_sent_25 : decode (m_D_sent).2.1 25 = .ok (.aload_n 0, 1) := by decide +kernel
theorem d_D_sent_26 : decode (m_D_sent).2.1 26 = .ok (.getfield 21, 3) := by decide +kernel
theorem d_D_sent_29 : decode (m_D_sent).2.1 29 = .ok (.aload_n 0, 1) := by decide +kernel
theorem d_D_sent_30 : decode (m_D_sent).2.1 30 = .ok (.getfield 50, 3) := by decide +kernel
theorem d_D_sent_33 : decode (m_D_sent).2.1 33 = .ok (.getfield 166, 3) := by decide +kernel
theorem d_D_sent_36 : decode (m_D_sent).2.1 36 = .ok (.iconst 0, 1) := by decide +kernel
theorem d_D_sent_37 : decode (m_D_sent).2.1 37 = .ok (.aaload, 1) := by decide +kernel
theorem d_D_sent_38 : decode (m_D_sent).2.1 38 = .ok (.iload_n 1, 1) := by decide +kernel
theorem d_D_sent_39 : decode (m_D_sent).2.1 39 = .ok (.invokevirtual 169, 3) := by decide +kernel
theorem d_D_sent_42 : decode (m_D_sent).2.1 42 = .ok (.ireturn, 1) := by decide +kernel
theorem d_D_locator_0 : decode (m_D_locator).2.1 0 = .ok (.iload_n 1, 1) := by decide +kernel
theorem d_D_locator_1 : decode (m_D_locator).2.1 1 = .ok (.ifCond .lt 22, 3) := by decide +kernel
theorem d_D_locator_4 : decode (m_D_locator).2.1 4 = .ok (.iload_n 1, 1) := by decide +kernel
theorem d_D_locator_5 : decode (m_D_locator).2.1 5 = .ok (.aload_n 0, 1) := by decide +kernel
theorem d_D_locator_6 : decode (m_D_locator).2.1 6 = .ok (.getfield 21, 3) := by decide +kernel
theorem d_D_locator_9 : decode (m_D_locator).2.1 9 = .ok (.getfield 109, 3) := by decide +kernel
theorem d_D_locator_12 : decode (m_D_locator).2.1 12 = .ok (.aload_n 0, 1) := by decide +kernel
theorem d_D_locator_13 : decode (m_D_locator).2.1 13 = .ok (.getfield 21, 3) := by decide +kernel
theorem d_D_locator_16 : decode (m_D_locator).2.1 16 = .ok (.getfield 133, 3) := by decide +kernel
theorem d_D_locator_19 : decode (m_D_locator).2.1 19 = .ok (.isub, 1) := by decide +kernel
theorem d_D_locator_20 : decode (m_D_locator).2.1 20 = .ok (.if_icmp .le 5, 3) := by decide +kernel
theorem d_D_locator_23 : decode (m_D_locator).2.1 23 = .ok (.iconst (-1), 1) := by decide +kernel
theorem d_D_locator_24 : decode (m_D_locator).2.1 24 = .ok (.ireturn, 1) := by decide +kernel
theorem d_D_locator_25 : decode (m_D_locator).2.1 25 = .ok (.aload_n 0, 1) := by decide +kernel
theorem d_D_locator_26 : decode (m_D_locator).2.1 26 = .ok (.getfield 50, 3) := by decide +kernel
theorem d_D_locator_29 : decode (m_D_locator).2.1 29 = .ok (.getfield 157, 3) := by decide +kernel
theorem d_D_locator_32 : decode (m_D_locator).2.1 32 = .ok (.ifCond .ne 8, 3) := by decide +kernel
theorem d_D_locator_35 : decode (m_D_locator).2.1 35 = .ok (.bipush (-2), 2) := by decide +kernel
theorem d_D_locator_37 : decode (m_D_locator).2.1 37 = .ok (.goto 9, 3) := by decide +kernel
theorem d_D_locator_40 : decode (m_D_locator).2.1 40 = .ok (.aload_n 0, 1) := by decide +kernel
theorem d_D_locator_41 : decode (m_D_locator).2.1 41 = .ok (.getfield 57, 3) := by decide +kernel
theorem d_D_locator_44 : decode (m_D_locator).2.1 44 = .ok (.iload_n 1, 1) := by decide +kernel
theorem d_D_locator_45 : decode (m_D_locator).2.1 45 = .ok (.iaload, 1) := by decide +kernel
theorem d_D_locator_46 : decode (m_D_locator).2.1 46 = .ok (.ireturn, 1) := by decide +kernel
theorem d_D_list_0 : decode (m_D_list).2.1 0 = .ok (.iload_n 1, 1) := by decide +kernel
theorem d_D_list_1 : decode (m_D_list).2.1 1 = .ok (.invokestatic 173, 3) := by decide +kernel
theorem d_D_list_4 : decode (m_D_list).2.1 4 = .ok (.ifCond .ne 5, 3) := by decide +kernel
theorem d_D_list_7 : decode (m_D_list).2.1 7 = .ok (.iconst (-1), 1) := by decide +kernel
theorem d_D_list_8 : decode (m_D_list).2.1 8 = .ok (.ireturn, 1) := by decide +kernel
theorem d_D_list_9 : decode (m_D_list).2.1 9 = .ok (.aload_n 0, 1) := by decide +kernel
theorem d_D_list_10 : decode (m_D_list).2.1 10 = .ok (.invokevirtual 145, 3) := by decide +kernel
theorem d_D_list_13 : decode (m_D_list).2.1 13 = .ok (.ifCond .eq 6, 3) := by decide +kernel
theorem d_D_list_16 : decode (m_D_list).2.1 16 = .ok (.bipush (-3), 2) := by decide +kernel
theorem d_D_list_18 : decode (m_D_list).2.1 18 = .ok (.ireturn, 1) := by decide +kernel
theorem d_D_list_19 : decode (m_D_list).2.1 19 = .ok (.aload_n 0, 1) := by decide +kernel
theorem d_D_list_20 : decode (m_D_list).2.1 20 = .ok (.getfield 41, 3) := by decide +kernel
theorem d_D_list_23 : decode (m_D_list).2.1 23 = .ok (.aload_n 0, 1) := by decide +kernel
theorem d_D_list_24 : decode (m_D_list).2.1 24 = .ok (.iload_n 1, 1) := by decide +kernel
theorem d_D_list_25 : decode (m_D_list).2.1 25 = .ok (.invokevirtual 176, 3) := by decide +kernel
theorem d_D_list_28 : decode (m_D_list).2.1 28 = .ok (.aload_n 0, 1) := by decide +kernel
theorem d_D_list_29 : decode (m_D_list).2.1 29 = .ok (.getfield 54, 3) := by decide +kernel
theorem d_D_list_32 : decode (m_D_list).2.1 32 = .ok (.invokevirtual 153, 3) := by decide +kernel
theorem d_D_list_35 : decode (m_D_list).2.1 35 = .ok (.aload_n 0, 1) := by decide +kernel
theorem d_D_list_36 : decode (m_D_list).2.1 36 = .ok (.getfield 54, 3) := by decide +kernel
theorem d_D_list_39 : decode (m_D_list).2.1 39 = .ok (.getfield 157, 3) := by decide +kernel
theorem d_D_list_42 : decode (m_D_list).2.1 42 = .ok (.ireturn, 1) := by decide +kernel
theorem d_D_listed_0 : decode (m_D_listed).2.1 0 = .ok (.aload_n 0, 1) := by decide +kernel
theorem d_D_listed_1 : decode (m_D_listed).2.1 1 = .ok (.getfield 54, 3) := by decide +kernel
theorem d_D_listed_4 : decode (m_D_listed).2.1 4 = .ok (.iload_n 1, 1) := by decide +kernel
theorem d_D_listed_5 : decode (m_D_listed).2.1 5 = .ok (.invokevirtual 180, 3) := by decide +kernel
theorem d_D_listed_8 : decode (m_D_listed).2.1 8 = .ok (.ifCond .eq 25, 3) := by decide +kernel
theorem d_D_listed_11 : decode (m_D_listed).2.1 11 = .ok (.aload_n 0, 1) := by decide +kernel
theorem d_D_listed_12 : decode (m_D_listed).2.1 12 = .ok (.iload_n 2, 1) := by decide +kernel
theorem d_D_listed_13 : decode (m_D_listed).2.1 13 = .ok (.invokevirtual 120, 3) := by decide +kernel
theorem d_D_listed_16 : decode (m_D_listed).2.1 16 = .ok (.ifCond .eq 17, 3) := by decide +kernel
theorem d_D_listed_19 : decode (m_D_listed).2.1 19 = .ok (.aload_n 0, 1) := by decide +kernel
theorem d_D_listed_20 : decode (m_D_listed).2.1 20 = .ok (.getfield 54, 3) := by decide +kernel
theorem d_D_listed_23 : decode (m_D_listed).2.1 23 = .ok (.getfield 166, 3) := by decide +kernel
theorem d_D_listed_26 : decode (m_D_listed).2.1 26 = .ok (.iload_n 1, 1) := by decide +kernel
theorem d_D_listed_27 : decode (m_D_listed).2.1 27 = .ok (.aaload, 1) := by decide +kernel
theorem d_D_listed_28 : decode (m_D_listed).2.1 28 = .ok (.iload_n 2, 1) := by decide +kernel
theorem d_D_listed_29 : decode (m_D_listed).2.1 29 = .ok (.iaload, 1) := by decide +kernel
theorem d_D_listed_30 : decode (m_D_listed).2.1 30 = .ok (.goto 4, 3) := by decide +kernel
theorem d_D_listed_33 : decode (m_D_listed).2.1 33 = .ok (.iconst (-1), 1) := by decide +kernel
theorem d_D_listed_34 : decode (m_D_listed).2.1 34 = .ok (.ireturn, 1) := by decide +kernel
theorem d_D_distance_0 : decode (m_D_distance).2.1 0 = .ok (.aload_n 0, 1) := by decide +kernel
theorem d_D_distance_1 : decode (m_D_distance).2.1 1 = .ok (.getfield 54, 3) := by decide +kernel
theorem d_D_distance_4 : decode (m_D_distance).2.1 4 = .ok (.iload_n 1, 1) := by decide +kernel
theorem d_D_distance_5 : decode (m_D_distance).2.1 5 = .ok (.invokevirtual 180, 3) := by decide +kernel
theorem d_D_distance_8 : decode (m_D_distance).2.1 8 = .ok (.ifCond .eq 15, 3) := by decide +kernel
theorem d_D_distance_11 : decode (m_D_distance).2.1 11 = .ok (.aload_n 0, 1) := by decide +kernel
theorem d_D_distance_12 : decode (m_D_distance).2.1 12 = .ok (.getfield 54, 3) := by decide +kernel
theorem d_D_distance_15 : decode (m_D_distance).2.1 15 = .ok (.getfield 163, 3) := by decide +kernel
theorem d_D_distance_18 : decode (m_D_distance).2.1 18 = .ok (.iload_n 1, 1) := by decide +kernel
theorem d_D_distance_19 : decode (m_D_distance).2.1 19 = .ok (.iaload, 1) := by decide +kernel
theorem d_D_distance_20 : decode (m_D_distance).2.1 20 = .ok (.goto 4, 3) := by decide +kernel
theorem d_D_distance_23 : decode (m_D_distance).2.1 23 = .ok (.iconst (-1), 1) := by decide +kernel
theorem d_D_distance_24 : decode (m_D_distance).2.1 24 = .ok (.ireturn, 1) := by decide +kernel
theorem d_D_radius_0 : decode (m_D_radius).2.1 0 = .ok (.iload_n 1, 1) := by decide +kernel
theorem d_D_radius_1 : decode (m_D_radius).2.1 1 = .ok (.invokestatic 173, 3) := by decide +kernel
theorem d_D_radius_4 : decode (m_D_radius).2.1 4 = .ok (.ifCond .ne 5, 3) := by decide +kernel
theorem d_D_radius_7 : decode (m_D_radius).2.1 7 = .ok (.iconst (-1), 1) := by decide +kernel
theorem d_D_radius_8 : decode (m_D_radius).2.1 8 = .ok (.ireturn, 1) := by decide +kernel
theorem d_D_radius_9 : decode (m_D_radius).2.1 9 = .ok (.aload_n 0, 1) := by decide +kernel
theorem d_D_radius_10 : decode (m_D_radius).2.1 10 = .ok (.invokevirtual 145, 3) := by decide +kernel
theorem d_D_radius_13 : decode (m_D_radius).2.1 13 = .ok (.ifCond .eq 8, 3) := by decide +kernel
theorem d_D_radius_16 : decode (m_D_radius).2.1 16 = .ok (.bipush (-3), 2) := by decide +kernel
theorem d_D_radius_18 : decode (m_D_radius).2.1 18 = .ok (.goto 8, 3) := by decide +kernel
theorem d_D_radius_21 : decode (m_D_radius).2.1 21 = .ok (.aload_n 0, 1) := by decide +kernel
theorem d_D_radius_22 : decode (m_D_radius).2.1 22 = .ok (.iload_n 1, 1) := by decide +kernel
theorem d_D_radius_23 : decode (m_D_radius).2.1 23 = .ok (.invokevirtual 176, 3) := by decide +kernel
theorem d_D_radius_26 : decode (m_D_radius).2.1 26 = .ok (.ireturn, 1) := by decide +kernel
theorem d_D_weight_0 : decode (m_D_weight).2.1 0 = .ok (.iload_n 1, 1) := by decide +kernel
theorem d_D_weight_1 : decode (m_D_weight).2.1 1 = .ok (.invokestatic 173, 3) := by decide +kernel
theorem d_D_weight_4 : decode (m_D_weight).2.1 4 = .ok (.ifCond .ne 5, 3) := by decide +kernel
theorem d_D_weight_7 : decode (m_D_weight).2.1 7 = .ok (.iconst (-1), 1) := by decide +kernel
theorem d_D_weight_8 : decode (m_D_weight).2.1 8 = .ok (.ireturn, 1) := by decide +kernel
theorem d_D_weight_9 : decode (m_D_weight).2.1 9 = .ok (.aload_n 0, 1) := by decide +kernel
theorem d_D_weight_10 : decode (m_D_weight).2.1 10 = .ok (.invokevirtual 145, 3) := by decide +kernel
theorem d_D_weight_13 : decode (m_D_weight).2.1 13 = .ok (.ifCond .eq 8, 3) := by decide +kernel
theorem d_D_weight_16 : decode (m_D_weight).2.1 16 = .ok (.bipush (-3), 2) := by decide +kernel
theorem d_D_weight_18 : decode (m_D_weight).2.1 18 = .ok (.goto 16, 3) := by decide +kernel
theorem d_D_weight_21 : decode (m_D_weight).2.1 21 = .ok (.aload_n 0, 1) := by decide +kernel
theorem d_D_weight_22 : decode (m_D_weight).2.1 22 = .ok (.getfield 63, 3) := by decide +kernel
theorem d_D_weight_25 : decode (m_D_weight).2.1 25 = .ok (.iload_n 1, 1) := by decide +kernel
theorem d_D_weight_26 : decode (m_D_weight).2.1 26 = .ok (.aload_n 0, 1) := by decide +kernel
theorem d_D_weight_27 : decode (m_D_weight).2.1 27 = .ok (.iload_n 1, 1) := by decide +kernel
theorem d_D_weight_28 : decode (m_D_weight).2.1 28 = .ok (.invokevirtual 181, 3) := by decide +kernel
theorem d_D_weight_31 : decode (m_D_weight).2.1 31 = .ok (.invokevirtual 184, 3) := by decide +kernel
theorem d_D_weight_34 : decode (m_D_weight).2.1 34 = .ok (.ireturn, 1) := by decide +kernel
theorem d_D_beginField_0 : decode (m_D_beginField).2.1 0 = .ok (.aload_n 0, 1) := by decide +kernel
theorem d_D_beginField_1 : decode (m_D_beginField).2.1 1 = .ok (.getfield 12, 3) := by decide +kernel
theorem d_D_beginField_4 : decode (m_D_beginField).2.1 4 = .ok (.iload_n 1, 1) := by decide +kernel
theorem d_D_beginField_5 : decode (m_D_beginField).2.1 5 = .ok (.invokevirtual 187, 3) := by decide +kernel
theorem d_D_beginField_8 : decode (m_D_beginField).2.1 8 = .ok (.aload_n 0, 1) := by decide +kernel
theorem d_D_beginField_9 : decode (m_D_beginField).2.1 9 = .ok (.iconst 0, 1) := by decide +kernel
theorem d_D_beginField_10 : decode (m_D_beginField).2.1 10 = .ok (.aload_n 0, 1) := by decide +kernel
theorem d_D_beginField_11 : decode (m_D_beginField).2.1 11 = .ok (.getfield 12, 3) := by decide +kernel
theorem d_D_beginField_14 : decode (m_D_beginField).2.1 14 = .ok (.getfield 92, 3) := by decide +kernel
theorem d_D_beginField_17 : decode (m_D_beginField).2.1 17 = .ok (.iconst 1, 1) := by decide +kernel
theorem d_D_beginField_18 : decode (m_D_beginField).2.1 18 = .ok (.isub, 1) := by decide +kernel
theorem d_D_beginField_19 : decode (m_D_beginField).2.1 19 = .ok (.bipush 20, 2) := by decide +kernel
theorem d_D_beginField_21 : decode (m_D_beginField).2.1 21 = .ok (.invokestatic 190, 3) := by decide +kernel
theorem d_D_beginField_24 : decode (m_D_beginField).2.1 24 = .ok (.iconst 2, 1) := by decide +kernel
theorem d_D_beginField_25 : decode (m_D_beginField).2.1 25 = .ok (.invokevirtual 95, 3) := by decide +kernel
theorem d_D_beginField_28 : decode (m_D_beginField).2.1 28 = .ok (.return_, 1) := by decide +kernel
theorem d_D_beginCode_0 : decode (m_D_beginCode).2.1 0 = .ok (.aload_n 0, 1) := by decide +kernel
theorem d_D_beginCode_1 : decode (m_D_beginCode).2.1 1 = .ok (.getfield 21, 3) := by decide +kernel
theorem d_D_beginCode_4 : decode (m_D_beginCode).2.1 4 = .ok (.iload_n 1, 1) := by decide +kernel
theorem d_D_beginCode_5 : decode (m_D_beginCode).2.1 5 = .ok (.iload_n 2, 1) := by decide +kernel
theorem d_D_beginCode_6 : decode (m_D_beginCode).2.1 6 = .ok (.iload_n 3, 1) := by decide +kernel
theorem d_D_beginCode_7 : decode (m_D_beginCode).2.1 7 = .ok (.invokevirtual 195, 3) := by decide +kernel
theorem d_D_beginCode_10 : decode (m_D_beginCode).2.1 10 = .ok (.iconst 0, 1) := by decide +kernel
theorem d_D_beginCode_11 : decode (m_D_beginCode).2.1 11 = .ok (.istore 4, 2) := by decide +kernel
theorem d_D_beginCode_13 : decode (m_D_beginCode).2.1 13 = .ok (.iload 4, 2) := by decide +kernel
theorem d_D_beginCode_15 : decode (m_D_beginCode).2.1 15 = .ok (.iconst 4, 1) := by decide +kernel
theorem d_D_beginCode_16 : decode (m_D_beginCode).2.1 16 = .ok (.if_icmp .ge 17, 3) := by decide +kernel
theorem d_D_beginCode_19 : decode (m_D_beginCode).2.1 19 = .ok (.aload_n 0, 1) := by decide +kernel
theorem d_D_beginCode_20 : decode (m_D_beginCode).2.1 20 = .ok (.getfield 25, 3) := by decide +kernel
theorem d_D_beginCode_23 : decode (m_D_beginCode).2.1 23 = .ok (.iload 4, 2) := by decide +kernel
theorem d_D_beginCode_25 : decode (m_D_beginCode).2.1 25 = .ok (.iconst 0, 1) := by decide +kernel
theorem d_D_beginCode_26 : decode (m_D_beginCode).2.1 26 = .ok (.iastore, 1) := by decide +kernel
theorem d_D_beginCode_27 : decode (m_D_beginCode).2.1 27 = .ok (.iinc 4 1, 3) := by decide +kernel
theorem d_D_beginCode_30 : decode (m_D_beginCode).2.1 30 = .ok (.goto (-17), 3) := by decide +kernel
theorem d_D_beginCode_33 : decode (m_D_beginCode).2.1 33 = .ok (.aload_n 0, 1) := by decide +kernel
theorem d_D_beginCode_34 : decode (m_D_beginCode).2.1 34 = .ok (.getfield 32, 3) := by decide +kernel
theorem d_D_beginCode_37 : decode (m_D_beginCode).2.1 37 = .ok (.iload_n 2, 1) := by decide +kernel
theorem d_D_beginCode_38 : decode (m_D_beginCode).2.1 38 = .ok (.invokevirtual 197, 3) := by decide +kernel
theorem d_D_beginCode_41 : decode (m_D_beginCode).2.1 41 = .ok (.aload_n 0, 1) := by decide +kernel
theorem d_D_beginCode_42 : decode (m_D_beginCode).2.1 42 = .ok (.getfield 50, 3) := by decide +kernel
theorem d_D_beginCode_45 : decode (m_D_beginCode).2.1 45 = .ok (.iconst 0, 1) := by decide +kernel
theorem d_D_beginCode_46 : decode (m_D_beginCode).2.1 46 = .ok (.putfield 157, 3) := by decide +kernel
theorem d_D_beginCode_49 : decode (m_D_beginCode).2.1 49 = .ok (.aload_n 0, 1) := by decide +kernel
theorem d_D_beginCode_50 : decode (m_D_beginCode).2.1 50 = .ok (.getfield 54, 3) := by decide +kernel
theorem d_D_beginCode_53 : decode (m_D_beginCode).2.1 53 = .ok (.iconst 0, 1) := by decide +kernel
theorem d_D_beginCode_54 : decode (m_D_beginCode).2.1 54 = .ok (.putfield 157, 3) := by decide +kernel
theorem d_D_beginCode_57 : decode (m_D_beginCode).2.1 57 = .ok (.return_, 1) := by decide +kernel
theorem d_D_isPlace_0 : decode (m_D_isPlace).2.1 0 = .ok (.iload_n 1, 1) := by decide +kernel
theorem d_D_isPlace_1 : decode (m_D_isPlace).2.1 1 = .ok (.ifCond .lt 18, 3) := by decide +kernel
theorem d_D_isPlace_4 : decode (m_D_isPlace).2.1 4 = .ok (.iload_n 1, 1) := by decide +kernel
theorem d_D_isPlace_5 : decode (m_D_isPlace).2.1 5 = .ok (.aload_n 0, 1) := by decide +kernel
theorem d_D_isPlace_6 : decode (m_D_isPlace).2.1 6 = .ok (.getfield 21, 3) := by decide +kernel
theorem d_D_isPlace_9 : decode (m_D_isPlace).2.1 9 = .ok (.getfield 109, 3) := by decide +kernel
theorem d_D_isPlace_12 : decode (m_D_isPlace).2.1 12 = .ok (.if_icmp .ge 7, 3) := by decide +kernel
theorem d_D_isPlace_15 : decode (m_D_isPlace).2.1 15 = .ok (.iconst 1, 1) := by decide +kernel
theorem d_D_isPlace_16 : decode (m_D_isPlace).2.1 16 = .ok (.goto 4, 3) := by decide +kernel
theorem d_D_isPlace_19 : decode (m_D_isPlace).2.1 19 = .ok (.iconst 0, 1) := by decide +kernel
theorem d_D_isPlace_20 : decode (m_D_isPlace).2.1 20 = .ok (.ireturn, 1) := by decide +kernel
theorem d_D_isInMessage_0 : decode (m_D_isInMessage).2.1 0 = .ok (.iload_n 1, 1) := by decide +kernel
theorem d_D_isInMessage_1 : decode (m_D_isInMessage).2.1 1 = .ok (.ifCond .lt 18, 3) := by decide +kernel
theorem d_D_isInMessage_4 : decode (m_D_isInMessage).2.1 4 = .ok (.iload_n 1, 1) := by decide +kernel
theorem d_D_isInMessage_5 : decode (m_D_isInMessage).2.1 5 = .ok (.aload_n 0, 1) := by decide +kernel
theorem d_D_isInMessage_6 : decode (m_D_isInMessage).2.1 6 = .ok (.getfield 21, 3) := by decide +kernel
theorem d_D_isInMessage_9 : decode (m_D_isInMessage).2.1 9 = .ok (.getfield 133, 3) := by decide +kernel
theorem d_D_isInMessage_12 : decode (m_D_isInMessage).2.1 12 = .ok (.if_icmp .ge 7, 3) := by decide +kernel
theorem d_D_isInMessage_15 : decode (m_D_isInMessage).2.1 15 = .ok (.iconst 1, 1) := by decide +kernel
theorem d_D_isInMessage_16 : decode (m_D_isInMessage).2.1 16 = .ok (.goto 4, 3) := by decide +kernel
theorem d_D_isInMessage_19 : decode (m_D_isInMessage).2.1 19 = .ok (.iconst 0, 1) := by decide +kernel
theorem d_D_isInMessage_20 : decode (m_D_isInMessage).2.1 20 = .ok (.ireturn, 1) := by decide +kernel
theorem d_D_isTimes_0 : decode (m_D_isTimes).2.1 0 = .ok (.iload_n 0, 1) := by decide +kernel
theorem d_D_isTimes_1 : decode (m_D_isTimes).2.1 1 = .ok (.iconst 1, 1) := by decide +kernel
theorem d_D_isTimes_2 : decode (m_D_isTimes).2.1 2 = .ok (.if_icmp .lt 12, 3) := by decide +kernel
theorem d_D_isTimes_5 : decode (m_D_isTimes).2.1 5 = .ok (.iload_n 0, 1) := by decide +kernel
theorem d_D_isTimes_6 : decode (m_D_isTimes).2.1 6 = .ok (.iconst 3, 1) := by decide +kernel
theorem d_D_isTimes_7 : decode (m_D_isTimes).2.1 7 = .ok (.if_icmp .gt 7, 3) := by decide +kernel
theorem d_D_isTimes_10 : decode (m_D_isTimes).2.1 10 = .ok (.iconst 1, 1) := by decide +kernel
theorem d_D_isTimes_11 : decode (m_D_isTimes).2.1 11 = .ok (.goto 4, 3) := by decide +kernel
theorem d_D_isTimes_14 : decode (m_D_isTimes).2.1 14 = .ok (.iconst 0, 1) := by decide +kernel
theorem d_D_isTimes_15 : decode (m_D_isTimes).2.1 15 = .ok (.ireturn, 1) := by decide +kernel
theorem d_D_isErasedTooMuch_0 : decode (m_D_isErasedTooMuch).2.1 0 = .ok (.aload_n 0, 1) := by decide +kernel
theorem d_D_isErasedTooMuch_1 : decode (m_D_isErasedTooMuch).2.1 1 = .ok (.getfield 32, 3) := by decide +kernel
theorem d_D_isErasedTooMuch_4 : decode (m_D_isErasedTooMuch).2.1 4 = .ok (.getfield 198, 3) := by decide +kernel
theorem d_D_isErasedTooMuch_7 : decode (m_D_isErasedTooMuch).2.1 7 = .ok (.aload_n 0, 1) := by decide +kernel
theorem d_D_isErasedTooMuch_8 : decode (m_D_isErasedTooMuch).2.1 8 = .ok (.getfield 21, 3) := by decide +kernel
theorem d_D_isErasedTooMuch_11 : decode (m_D_isErasedTooMuch).2.1 11 = .ok (.getfield 133, 3) := by decide +kernel
theorem d_D_isErasedTooMuch_14 : decode (m_D_isErasedTooMuch).2.1 14 = .ok (.if_icmp .ge 7, 3) := by decide +kernel
theorem d_D_isErasedTooMuch_17 : decode (m_D_isErasedTooMuch).2.1 17 = .ok (.iconst 1, 1) := by decide +kernel
theorem d_D_isErasedTooMuch_18 : decode (m_D_isErasedTooMuch).2.1 18 = .ok (.goto 4, 3) := by decide +kernel
theorem d_D_isErasedTooMuch_21 : decode (m_D_isErasedTooMuch).2.1 21 = .ok (.iconst 0, 1) := by decide +kernel
theorem d_D_isErasedTooMuch_22 : decode (m_D_isErasedTooMuch).2.1 22 = .ok (.ireturn, 1) := by decide +kernel
theorem d_D_half_0 : decode (m_D_half).2.1 0 = .ok (.aload_n 0, 1) := by decide +kernel
theorem d_D_half_1 : decode (m_D_half).2.1 1 = .ok (.getfield 32, 3) := by decide +kernel
theorem d_D_half_4 : decode (m_D_half).2.1 4 = .ok (.getfield 198, 3) := by decide +kernel
theorem d_D_half_7 : decode (m_D_half).2.1 7 = .ok (.aload_n 0, 1) := by decide +kernel
theorem d_D_half_8 : decode (m_D_half).2.1 8 = .ok (.getfield 21, 3) := by decide +kernel
theorem d_D_half_11 : decode (m_D_half).2.1 11 = .ok (.getfield 133, 3) := by decide +kernel
theorem d_D_half_14 : decode (m_D_half).2.1 14 = .ok (.isub, 1) := by decide +kernel
theorem d_D_half_15 : decode (m_D_half).2.1 15 = .ok (.iconst 2, 1) := by decide +kernel
theorem d_D_half_16 : decode (m_D_half).2.1 16 = .ok (.idiv, 1) := by decide +kernel
theorem d_D_half_17 : decode (m_D_half).2.1 17 = .ok (.ireturn, 1) := by decide +kernel
theorem d_D_boundFor_0 : decode (m_D_boundFor).2.1 0 = .ok (.aload_n 0, 1) := by decide +kernel
theorem d_D_boundFor_1 : decode (m_D_boundFor).2.1 1 = .ok (.getfield 32, 3) := by decide +kernel
theorem d_D_boundFor_4 : decode (m_D_boundFor).2.1 4 = .ok (.getfield 198, 3) := by decide +kernel
theorem d_D_boundFor_7 : decode (m_D_boundFor).2.1 7 = .ok (.iload_n 1, 1) := by decide +kernel
theorem d_D_boundFor_8 : decode (m_D_boundFor).2.1 8 = .ok (.imul, 1) := by decide +kernel
theorem d_D_boundFor_9 : decode (m_D_boundFor).2.1 9 = .ok (.iload_n 1, 1) := by decide +kernel
theorem d_D_boundFor_10 : decode (m_D_boundFor).2.1 10 = .ok (.iconst 1, 1) := by decide +kernel
theorem d_D_boundFor_11 : decode (m_D_boundFor).2.1 11 = .ok (.iadd, 1) := by decide +kernel
theorem d_D_boundFor_12 : decode (m_D_boundFor).2.1 12 = .ok (.imul, 1) := by decide +kernel
theorem d_D_boundFor_13 : decode (m_D_boundFor).2.1 13 = .ok (.iconst 2, 1) := by decide +kernel
theorem d_D_boundFor_14 : decode (m_D_boundFor).2.1 14 = .ok (.idiv, 1) := by decide +kernel
theorem d_D_boundFor_15 : decode (m_D_boundFor).2.1 15 = .ok (.istore_n 2, 1) := by decide +kernel
theorem d_D_boundFor_16 : decode (m_D_boundFor).2.1 16 = .ok (.iconst 0, 1) := by decide +kernel
theorem d_D_boundFor_17 : decode (m_D_boundFor).2.1 17 = .ok (.istore_n 3, 1) := by decide +kernel
theorem d_D_boundFor_18 : decode (m_D_boundFor).2.1 18 = .ok (.iconst 0, 1) := by decide +kernel
theorem d_D_boundFor_19 : decode (m_D_boundFor).2.1 19 = .ok (.istore 4, 2) := by decide +kernel
theorem d_D_boundFor_21 : decode (m_D_boundFor).2.1 21 = .ok (.iload 4, 2) := by decide +kernel
theorem d_D_boundFor_23 : decode (m_D_boundFor).2.1 23 = .ok (.iload_n 2, 1) := by decide +kernel
theorem d_D_boundFor_24 : decode (m_D_boundFor).2.1 24 = .ok (.if_icmp .ge 34, 3) := by decide +kernel
theorem d_D_boundFor_27 : decode (m_D_boundFor).2.1 27 = .ok (.iload_n 3, 1) := by decide +kernel
theorem d_D_boundFor_28 : decode (m_D_boundFor).2.1 28 = .ok (.iload 4, 2) := by decide +kernel
theorem d_D_boundFor_30 : decode (m_D_boundFor).2.1 30 = .ok (.aload_n 0, 1) := by decide +kernel
theorem d_D_boundFor_31 : decode (m_D_boundFor).2.1 31 = .ok (.getfield 21, 3) := by decide +kernel
theorem d_D_boundFor_34 : decode (m_D_boundFor).2.1 34 = .ok (.getfield 133, 3) := by decide +kernel
theorem d_D_boundFor_37 : decode (m_D_boundFor).2.1 37 = .ok (.iconst 1, 1) := by decide +kernel
theorem d_D_boundFor_38 : decode (m_D_boundFor).2.1 38 = .ok (.isub, 1) := by decide +kernel
theorem d_D_boundFor_39 : decode (m_D_boundFor).2.1 39 = .ok (.idiv, 1) := by decide +kernel
theorem d_D_boundFor_40 : decode (m_D_boundFor).2.1 40 = .ok (.iconst 1, 1) := by decide +kernel
theorem d_D_boundFor_41 : decode (m_D_boundFor).2.1 41 = .ok (.iadd, 1) := by decide +kernel
theorem d_D_boundFor_42 : decode (m_D_boundFor).2.1 42 = .ok (.iadd, 1) := by decide +kernel
theorem d_D_boundFor_43 : decode (m_D_boundFor).2.1 43 = .ok (.istore_n 3, 1) := by decide +kernel
theorem d_D_boundFor_44 : decode (m_D_boundFor).2.1 44 = .ok (.iload_n 3, 1) := by decide +kernel
theorem d_D_boundFor_45 : decode (m_D_boundFor).2.1 45 = .ok (.iload_n 2, 1) := by decide +kernel
theorem d_D_boundFor_46 : decode (m_D_boundFor).2.1 46 = .ok (.if_icmp .le 6, 3) := by decide +kernel
theorem d_D_boundFor_49 : decode (m_D_boundFor).2.1 49 = .ok (.iload 4, 2) := by decide +kernel
theorem d_D_boundFor_51 : decode (m_D_boundFor).2.1 51 = .ok (.ireturn, 1) := by decide +kernel
theorem d_D_boundFor_52 : decode (m_D_boundFor).2.1 52 = .ok (.iinc 4 1, 3) := by decide +kernel
theorem d_D_boundFor_55 : decode (m_D_boundFor).2.1 55 = .ok (.goto (-34), 3) := by decide +kernel
theorem d_D_boundFor_58 : decode (m_D_boundFor).2.1 58 = .ok (.iload_n 2, 1) := by decide +kernel
theorem d_D_boundFor_59 : decode (m_D_boundFor).2.1 59 = .ok (.ireturn, 1) := by decide +kernel
theorem d_D_radiusFor_0 : decode (m_D_radiusFor).2.1 0 = .ok (.aload_n 0, 1) := by decide +kernel
theorem d_D_radiusFor_1 : decode (m_D_radiusFor).2.1 1 = .ok (.invokevirtual 149, 3) := by decide +kernel
theorem d_D_radiusFor_4 : decode (m_D_radiusFor).2.1 4 = .ok (.aload_n 0, 1) := by decide +kernel
theorem d_D_radiusFor_5 : decode (m_D_radiusFor).2.1 5 = .ok (.getfield 32, 3) := by decide +kernel
theorem d_D_radiusFor_8 : decode (m_D_radiusFor).2.1 8 = .ok (.getfield 198, 3) := by decide +kernel
theorem d_D_radiusFor_11 : decode (m_D_radiusFor).2.1 11 = .ok (.iconst 1, 1) := by decide +kernel
theorem d_D_radiusFor_12 : decode (m_D_radiusFor).2.1 12 = .ok (.isub, 1) := by decide +kernel
theorem d_D_radiusFor_13 : decode (m_D_radiusFor).2.1 13 = .ok (.aload_n 0, 1) := by decide +kernel
theorem d_D_radiusFor_14 : decode (m_D_radiusFor).2.1 14 = .ok (.iload_n 1, 1) := by decide +kernel
theorem d_D_radiusFor_15 : decode (m_D_radiusFor).2.1 15 = .ok (.invokevirtual 181, 3) := by decide +kernel
theorem d_D_radiusFor_18 : decode (m_D_radiusFor).2.1 18 = .ok (.iload_n 1, 1) := by decide +kernel
theorem d_D_radiusFor_19 : decode (m_D_radiusFor).2.1 19 = .ok (.idiv, 1) := by decide +kernel
theorem d_D_radiusFor_20 : decode (m_D_radiusFor).2.1 20 = .ok (.isub, 1) := by decide +kernel
theorem d_D_radiusFor_21 : decode (m_D_radiusFor).2.1 21 = .ok (.invokestatic 201, 3) := by decide +kernel
theorem d_D_radiusFor_24 : decode (m_D_radiusFor).2.1 24 = .ok (.ireturn, 1) := by decide +kernel
theorem d_D_locateWrongPlaces_0 : decode (m_D_locateWrongPlaces).2.1 0 = .ok (.iconst 0, 1) := by decide +kernel
theorem d_D_locateWrongPlaces_1 : decode (m_D_locateWrongPlaces).2.1 1 = .ok (.istore_n 1, 1) := by decide +kernel
theorem d_D_locateWrongPlaces_2 : decode (m_D_locateWrongPlaces).2.1 2 = .ok (.iload_n 1, 1) := by decide +kernel
theorem d_D_locateWrongPlaces_3 : decode (m_D_locateWrongPlaces).2.1 3 = .ok (.bipush 20, 2) := by decide +kernel
theorem d_D_locateWrongPlaces_5 : decode (m_D_locateWrongPlaces).2.1 5 = .ok (.if_icmp .ge 16, 3) := by decide +kernel
theorem d_D_locateWrongPlaces_8 : decode (m_D_locateWrongPlaces).2.1 8 = .ok (.aload_n 0, 1) := by decide +kernel
theorem d_D_locateWrongPlaces_9 : decode (m_D_locateWrongPlaces).2.1 9 = .ok (.getfield 57, 3) := by decide +kernel
theorem d_D_locateWrongPlaces_12 : decode (m_D_locateWrongPlaces).2.1 12 = .ok (.iload_n 1, 1) := by decide +kernel
theorem d_D_locateWrongPlaces_13 : decode (m_D_locateWrongPlaces).2.1 13 = .ok (.iconst 0, 1) := by decide +kernel
theorem d_D_locateWrongPlaces_14 : decode (m_D_locateWrongPlaces).2.1 14 = .ok (.iastore, 1) := by decide +kernel
theorem d_D_locateWrongPlaces_15 : decode (m_D_locateWrongPlaces).2.1 15 = .ok (.iinc 1 1, 3) := by decide +kernel
theorem d_D_locateWrongPlaces_18 : decode (m_D_locateWrongPlaces).2.1 18 = .ok (.goto (-16), 3) := by decide +kernel
theorem d_D_locateWrongPlaces_21 : decode (m_D_locateWrongPlaces).2.1 21 = .ok (.aload_n 0, 1) := by decide +kernel
theorem d_D_locateWrongPlaces_22 : decode (m_D_locateWrongPlaces).2.1 22 = .ok (.getfield 57, 3) := by decide +kernel
theorem d_D_locateWrongPlaces_25 : decode (m_D_locateWrongPlaces).2.1 25 = .ok (.iconst 0, 1) := by decide +kernel
theorem d_D_locateWrongPlaces_26 : decode (m_D_locateWrongPlaces).2.1 26 = .ok (.iconst 1, 1) := by decide +kernel
theorem d_D_locateWrongPlaces_27 : decode (m_D_locateWrongPlaces).2.1 27 = .ok (.iastore, 1) := by decide +kernel
theorem d_D_locateWrongPlaces_28 : decode (m_D_locateWrongPlaces).2.1 28 = .ok (.iconst 0, 1) := by decide +kernel
theorem d_D_locateWrongPlaces_29 : decode (m_D_locateWrongPlaces).2.1 29 = .ok (.istore_n 1, 1) := by decide +kernel
theorem d_D_locateWrongPlaces_30 : decode (m_D_locateWrongPlaces).2.1 30 = .ok (.iload_n 1, 1) := by decide +kernel
theorem d_D_locateWrongPlaces_31 : decode (m_D_locateWrongPlaces).2.1 31 = .ok (.aload_n 0, 1) := by decide +kernel
theorem d_D_locateWrongPlaces_32 : decode (m_D_locateWrongPlaces).2.1 32 = .ok (.getfield 21, 3) := by decide +kernel
theorem d_D_locateWrongPlaces_35 : decode (m_D_locateWrongPlaces).2.1 35 = .ok (.getfield 109, 3) := by decide +kernel
theorem d_D_locateWrongPlaces_38 : decode (m_D_locateWrongPlaces).2.1 38 = .ok (.if_icmp .ge 90, 3) := by decide +kernel
theorem d_D_locateWrongPlaces_41 : decode (m_D_locateWrongPlaces).2.1 41 = .ok (.aload_n 0, 1) := by decide +kernel
theorem d_D_locateWrongPlaces_42 : decode (m_D_locateWrongPlaces).2.1 42 = .ok (.getfield 32, 3) := by decide +kernel
theorem d_D_locateWrongPlaces_45 : decode (m_D_locateWrongPlaces).2.1 45 = .ok (.getfield 123, 3) := by decide +kernel
theorem d_D_locateWrongPlaces_48 : decode (m_D_locateWrongPlaces).2.1 48 = .ok (.iload_n 1, 1) := by decide +kernel
theorem d_D_locateWrongPlaces_49 : decode (m_D_locateWrongPlaces).2.1 49 = .ok (.baload, 1) := by decide +kernel
theorem d_D_locateWrongPlaces_50 : decode (m_D_locateWrongPlaces).2.1 50 = .ok (.ifCond .ne 72, 3) := by decide +kernel
theorem d_D_locateWrongPlaces_53 : decode (m_D_locateWrongPlaces).2.1 53 = .ok (.aload_n 0, 1) := by decide +kernel
theorem d_D_locateWrongPlaces_54 : decode (m_D_locateWrongPlaces).2.1 54 = .ok (.getfield 32, 3) := by decide +kernel
theorem d_D_locateWrongPlaces_57 : decode (m_D_locateWrongPlaces).2.1 57 = .ok (.getfield 130, 3) := by decide +kernel
theorem d_D_locateWrongPlaces_60 : decode (m_D_locateWrongPlaces).2.1 60 = .ok (.iload_n 1, 1) := by decide +kernel
theorem d_D_locateWrongPlaces_61 : decode (m_D_locateWrongPlaces).2.1 61 = .ok (.iaload, 1) := by decide +kernel
theorem d_D_locateWrongPlaces_62 : decode (m_D_locateWrongPlaces).2.1 62 = .ok (.aload_n 0, 1) := by decide +kernel
theorem d_D_locateWrongPlaces_63 : decode (m_D_locateWrongPlaces).2.1 63 = .ok (.getfield 50, 3) := by decide +kernel
theorem d_D_locateWrongPlaces_66 : decode (m_D_locateWrongPlaces).2.1 66 = .ok (.getfield 166, 3) := by decide +kernel
theorem d_D_locateWrongPlaces_69 : decode (m_D_locateWrongPlaces).2.1 69 = .ok (.iconst 0, 1) := by decide +kernel
theorem d_D_locateWrongPlaces_70 : decode (m_D_locateWrongPlaces).2.1 70 = .ok (.aaload, 1) := by decide +kernel
theorem d_D_locateWrongPlaces_71 : decode (m_D_locateWrongPlaces).2.1 71 = .ok (.iload_n 1, 1) := by decide +kernel
theorem d_D_locateWrongPlaces_72 : decode (m_D_locateWrongPlaces).2.1 72 = .ok (.iaload, 1) := by decide +kernel
theorem d_D_locateWrongPlaces_73 : decode (m_D_locateWrongPlaces).2.1 73 = .ok (.if_icmp .eq 49, 3) := by decide +kernel
theorem d_D_locateWrongPlaces_76 : decode (m_D_locateWrongPlaces).2.1 76 = .ok (.bipush 19, 2) := by decide +kernel
theorem d_D_locateWrongPlaces_78 : decode (m_D_locateWrongPlaces).2.1 78 = .ok (.istore_n 2, 1) := by decide +kernel
theorem d_D_locateWrongPlaces_79 : decode (m_D_locateWrongPlaces).2.1 79 = .ok (.iload_n 2, 1) := by decide +kernel
theorem d_D_locateWrongPlaces_80 : decode (m_D_locateWrongPlaces).2.1 80 = .ok (.ifCond .le 42, 3) := by decide +kernel
theorem d_D_locateWrongPlaces_83 : decode (m_D_locateWrongPlaces).2.1 83 = .ok (.aload_n 0, 1) := by decide +kernel
theorem d_D_locateWrongPlaces_84 : decode (m_D_locateWrongPlaces).2.1 84 = .ok (.getfield 57, 3) := by decide +kernel
theorem d_D_locateWrongPlaces_87 : decode (m_D_locateWrongPlaces).2.1 87 = .ok (.iload_n 2, 1) := by decide +kernel
theorem d_D_locateWrongPlaces_88 : decode (m_D_locateWrongPlaces).2.1 88 = .ok (.dup2, 1) := by decide +kernel
theorem d_D_locateWrongPlaces_89 : decode (m_D_locateWrongPlaces).2.1 89 = .ok (.iaload, 1) := by decide +kernel
theorem d_D_locateWrongPlaces_90 : decode (m_D_locateWrongPlaces).2.1 90 = .ok (.aload_n 0, 1) := by decide +kernel
theorem d_D_locateWrongPlaces_91 : decode (m_D_locateWrongPlaces).2.1 91 = .ok (.getfield 12, 3) := by decide +kernel
theorem d_D_locateWrongPlaces_94 : decode (m_D_locateWrongPlaces).2.1 94 = .ok (.aload_n 0, 1) := by decide +kernel
theorem d_D_locateWrongPlaces_95 : decode (m_D_locateWrongPlaces).2.1 95 = .ok (.getfield 21, 3) := by decide +kernel
theorem d_D_locateWrongPlaces_98 : decode (m_D_locateWrongPlaces).2.1 98 = .ok (.getfield 139, 3) := by decide +kernel
theorem d_D_locateWrongPlaces_101 : decode (m_D_locateWrongPlaces).2.1 101 = .ok (.iload_n 1, 1) := by decide +kernel
theorem d_D_locateWrongPlaces_102 : decode (m_D_locateWrongPlaces).2.1 102 = .ok (.iaload, 1) := by decide +kernel
theorem d_D_locateWrongPlaces_103 : decode (m_D_locateWrongPlaces).2.1 103 = .ok (.aload_n 0, 1) := by decide +kernel
theorem d_D_locateWrongPlaces_104 : decode (m_D_locateWrongPlaces).2.1 104 = .ok (.getfield 57, 3) := by decide +kernel
theorem d_D_locateWrongPlaces_107 : decode (m_D_locateWrongPlaces).2.1 107 = .ok (.iload_n 2, 1) := by decide +kernel
theorem d_D_locateWrongPlaces_108 : decode (m_D_locateWrongPlaces).2.1 108 = .ok (.iconst 1, 1) := by decide +kernel
theorem d_D_locateWrongPlaces_109 : decode (m_D_locateWrongPlaces).2.1 109 = .ok (.isub, 1) := by decide +kernel
theorem d_D_locateWrongPlaces_110 : decode (m_D_locateWrongPlaces).2.1 110 = .ok (.iaload, 1) := by decide +kernel
theorem d_D_locateWrongPlaces_111 : decode (m_D_locateWrongPlaces).2.1 111 = .ok (.invokevirtual 82, 3) := by decide +kernel
theorem d_D_locateWrongPlaces_114 : decode (m_D_locateWrongPlaces).2.1 114 = .ok (.ixor, 1) := by decide +kernel
theorem d_D_locateWrongPlaces_115 : decode (m_D_locateWrongPlaces).2.1 115 = .ok (.iastore, 1) := by decide +kernel
theorem d_D_locateWrongPlaces_116 : decode (m_D_locateWrongPlaces).2.1 116 = .ok (.iinc 2 (-1), 3) := by decide +kernel
theorem d_D_locateWrongPlaces_119 : decode (m_D_locateWrongPlaces).2.1 119 = .ok (.goto (-40), 3) := by decide +kernel
theorem d_D_locateWrongPlaces_122 : decode (m_D_locateWrongPlaces).2.1 122 = .ok (.iinc 1 1, 3) := by decide +kernel
theorem d_D_locateWrongPlaces_125 : decode (m_D_locateWrongPlaces).2.1 125 = .ok (.goto (-95), 3) := by decide +kernel
theorem d_D_locateWrongPlaces_128 : decode (m_D_locateWrongPlaces).2.1 128 = .ok (.return_, 1) := by decide +kernel
theorem d_M_init_0 : decode (m_M_init).2.1 0 = .ok (.aload_n 0, 1) := by decide +kernel
theorem d_M_init_1 : decode (m_M_init).2.1 1 = .ok (.invokespecial 1, 3) := by decide +kernel
theorem d_M_init_4 : decode (m_M_init).2.1 4 = .ok (.aload_n 0, 1) := by decide +kernel
theorem d_M_init_5 : decode (m_M_init).2.1 5 = .ok (.sipush 1024, 3) := by decide +kernel
theorem d_M_init_8 : decode (m_M_init).2.1 8 = .ok (.newarray .int, 2) := by decide +kernel
theorem d_M_init_10 : decode (m_M_init).2.1 10 = .ok (.putfield 7, 3) := by decide +kernel
theorem d_M_init_13 : decode (m_M_init).2.1 13 = .ok (.aload_n 0, 1) := by decide +kernel
theorem d_M_init_14 : decode (m_M_init).2.1 14 = .ok (.bipush 32, 2) := by decide +kernel
theorem d_M_init_16 : decode (m_M_init).2.1 16 = .ok (.newarray .int, 2) := by decide +kernel
theorem d_M_init_18 : decode (m_M_init).2.1 18 = .ok (.putfield 13, 3) := by decide +kernel
theorem d_M_init_21 : decode (m_M_init).2.1 21 = .ok (.aload_n 0, 1) := by decide +kernel
theorem d_M_init_22 : decode (m_M_init).2.1 22 = .ok (.bipush 20, 2) := by decide +kernel
theorem d_M_init_24 : decode (m_M_init).2.1 24 = .ok (.newarray .int, 2) := by decide +kernel
theorem d_M_init_26 : decode (m_M_init).2.1 26 = .ok (.putfield 16, 3) := by decide +kernel
theorem d_M_init_29 : decode (m_M_init).2.1 29 = .ok (.aload_n 0, 1) := by decide +kernel
theorem d_M_init_30 : decode (m_M_init).2.1 30 = .ok (.iconst 4, 1) := by decide +kernel
theorem d_M_init_31 : decode (m_M_init).2.1 31 = .ok (.newarray .int, 2) := by decide +kernel
theorem d_M_init_33 : decode (m_M_init).2.1 33 = .ok (.putfield 19, 3) := by decide +kernel
theorem d_M_init_36 : decode (m_M_init).2.1 36 = .ok (.aload_n 0, 1) := by decide +kernel
theorem d_M_init_37 : decode (m_M_init).2.1 37 = .ok (.bipush 20, 2) := by decide +kernel
theorem d_M_init_39 : decode (m_M_init).2.1 39 = .ok (.newarray .int, 2) := by decide +kernel
theorem d_M_init_41 : decode (m_M_init).2.1 41 = .ok (.putfield 22, 3) := by decide +kernel
theorem d_M_init_44 : decode (m_M_init).2.1 44 = .ok (.aload_n 0, 1) := by decide +kernel
theorem d_M_init_45 : decode (m_M_init).2.1 45 = .ok (.bipush 20, 2) := by decide +kernel
theorem d_M_init_47 : decode (m_M_init).2.1 47 = .ok (.newarray .boolean, 2) := by decide +kernel
theorem d_M_init_49 : decode (m_M_init).2.1 49 = .ok (.putfield 25, 3) := by decide +kernel
theorem d_M_init_52 : decode (m_M_init).2.1 52 = .ok (.aload_n 0, 1) := by decide +kernel
theorem d_M_init_53 : decode (m_M_init).2.1 53 = .ok (.bipush 20, 2) := by decide +kernel
theorem d_M_init_55 : decode (m_M_init).2.1 55 = .ok (.newarray .int, 2) := by decide +kernel
theorem d_M_init_57 : decode (m_M_init).2.1 57 = .ok (.putfield 29, 3) := by decide +kernel
theorem d_M_init_60 : decode (m_M_init).2.1 60 = .ok (.aload_n 0, 1) := by decide +kernel
theorem d_M_init_61 : decode (m_M_init).2.1 61 = .ok (.bipush 20, 2) := by decide +kernel
theorem d_M_init_63 : decode (m_M_init).2.1 63 = .ok (.newarray .boolean, 2) := by decide +kernel
theorem d_M_init_65 : decode (m_M_init).2.1 65 = .ok (.putfield 32, 3) := by decide +kernel
theorem d_M_init_68 : decode (m_M_init).2.1 68 = .ok (.aload_n 0, 1) := by decide +kernel
theorem d_M_init_69 : decode (m_M_init).2.1 69 = .ok (.bipush 21, 2) := by decide +kernel
theorem d_M_init_71 : decode (m_M_init).2.1 71 = .ok (.newarray .int, 2) := by decide +kernel
theorem d_M_init_73 : decode (m_M_init).2.1 73 = .ok (.putfield 35, 3) := by decide +kernel
theorem d_M_init_76 : decode (m_M_init).2.1 76 = .ok (.aload_n 0, 1) := by decide +kernel
theorem d_M_init_77 : decode (m_M_init).2.1 77 = .ok (.sipush 4096, 3) := by decide +kernel
theorem d_M_init_80 : decode (m_M_init).2.1 80 = .ok (.newarray .int, 2) := by decide +kernel
theorem d_M_init_82 : decode (m_M_init).2.1 82 = .ok (.putfield 38, 3) := by decide +kernel
theorem d_M_init_85 : decode (m_M_init).2.1 85 = .ok (.aload_n 0, 1) := by decide +kernel
theorem d_M_init_86 : decode (m_M_init).2.1 86 = .ok (.sipush 4096, 3) := by decide +kernel
theorem d_M_init_89 : decode (m_M_init).2.1 89 = .ok (.newarray .int, 2) := by decide +kernel
theorem d_M_init_91 : decode (m_M_init).2.1 91 = .ok (.putfield 41, 3) := by decide +kernel
theorem d_M_init_94 : decode (m_M_init).2.1 94 = .ok (.aload_n 0, 1) := by decide +kernel
theorem d_M_init_95 : decode (m_M_init).2.1 95 = .ok (.sipush 14400, 3) := by decide +kernel
theorem d_M_init_98 : decode (m_M_init).2.1 98 = .ok (.newarray .int, 2) := by decide +kernel
theorem d_M_init_100 : decode (m_M_init).2.1 100 = .ok (.putfield 44, 3) := by decide +kernel
theorem d_M_init_103 : decode (m_M_init).2.1 103 = .ok (.aload_n 0, 1) := by decide +kernel
theorem d_M_init_104 : decode (m_M_init).2.1 104 = .ok (.bipush 120, 2) := by decide +kernel
theorem d_M_init_106 : decode (m_M_init).2.1 106 = .ok (.newarray .int, 2) := by decide +kernel
theorem d_M_init_108 : decode (m_M_init).2.1 108 = .ok (.putfield 47, 3) := by decide +kernel
theorem d_M_init_111 : decode (m_M_init).2.1 111 = .ok (.aload_n 0, 1) := by decide +kernel
theorem d_M_init_112 : decode (m_M_init).2.1 112 = .ok (.bipush 120, 2) := by decide +kernel
theorem d_M_init_114 : decode (m_M_init).2.1 114 = .ok (.newarray .int, 2) := by decide +kernel
theorem d_M_init_116 : decode (m_M_init).2.1 116 = .ok (.putfield 50, 3) := by decide +kernel
theorem d_M_init_119 : decode (m_M_init).2.1 119 = .ok (.aload_n 0, 1) := by decide +kernel
theorem d_M_init_120 : decode (m_M_init).2.1 120 = .ok (.bipush 11, 2) := by decide +kernel
theorem d_M_init_122 : decode (m_M_init).2.1 122 = .ok (.iconst 3, 1) := by decide +kernel
theorem d_M_init_123 : decode (m_M_init).2.1 123 = .ok (.invokevirtual 53, 3) := by decide +kernel
theorem d_M_init_126 : decode (m_M_init).2.1 126 = .ok (.aload_n 0, 1) := by decide +kernel
theorem d_M_init_127 : decode (m_M_init).2.1 127 = .ok (.iconst 0, 1) := by decide +kernel
theorem d_M_init_128 : decode (m_M_init).2.1 128 = .ok (.bipush 7, 2) := by decide +kernel
theorem d_M_init_130 : decode (m_M_init).2.1 130 = .ok (.iconst 2, 1) := by decide +kernel
theorem d_M_init_131 : decode (m_M_init).2.1 131 = .ok (.invokevirtual 57, 3) := by decide +kernel
theorem d_M_init_134 : decode (m_M_init).2.1 134 = .ok (.return_, 1) := by decide +kernel
theorem d_M_rest_0 : decode (m_M_rest).2.1 0 = .ok (.iconst 0, 1) := by decide +kernel
theorem d_M_rest_1 : decode (m_M_rest).2.1 1 = .ok (.istore 4, 2) := by decide +kernel
theorem d_M_rest_3 : decode (m_M_rest).2.1 3 = .ok (.iconst 0, 1) := by decide +kernel
theorem d_M_rest_4 : decode (m_M_rest).2.1 4 = .ok (.istore 5, 2) := by decide +kernel
theorem d_M_rest_6 : decode (m_M_rest).2.1 6 = .ok (.iload 5, 2) := by decide +kernel
theorem d_M_rest_8 : decode (m_M_rest).2.1 8 = .ok (.iload_n 3, 1) := by decide +kernel
theorem d_M_rest_9 : decode (m_M_rest).2.1 9 = .ok (.if_icmp .ge 33, 3) := by decide +kernel
theorem d_M_rest_12 : decode (m_M_rest).2.1 12 = .ok (.iload_n 1, 1) := by decide +kernel
theorem d_M_rest_13 : decode (m_M_rest).2.1 13 = .ok (.iload 5, 2) := by decide +kernel
theorem d_M_rest_15 : decode (m_M_rest).2.1 15 = .ok (.ishr, 1) := by decide +kernel
theorem d_M_rest_16 : decode (m_M_rest).2.1 16 = .ok (.iconst 1, 1) := by decide +kernel
theorem d_M_rest_17 : decode (m_M_rest).2.1 17 = .ok (.iand, 1) := by decide +kernel
theorem d_M_rest_18 : decode (m_M_rest).2.1 18 = .ok (.iconst 1, 1) := by decide +kernel
theorem d_M_rest_19 : decode (m_M_rest).2.1 19 = .ok (.if_icmp .ne 13, 3) := by decide +kernel
theorem d_M_rest_22 : decode (m_M_rest).2.1 22 = .ok (.iload 4, 2) := by decide +kernel
theorem d_M_rest_24 : decode (m_M_rest).2.1 24 = .ok (.iload_n 0, 1) := by decide +kernel
theorem d_M_rest_25 : decode (m_M_rest).2.1 25 = .ok (.iload 5, 2) := by decide +kernel
theorem d_M_rest_27 : decode (m_M_rest).2.1 27 = .ok (.ishl, 1) := by decide +kernel
theorem d_M_rest_28 : decode (m_M_rest).2.1 28 = .ok (.ixor, 1) := by decide +kernel
theorem d_M_rest_29 : decode (m_M_rest).2.1 29 = .ok (.goto 5, 3) := by decide +kernel
theorem d_M_rest_32 : decode (m_M_rest).2.1 32 = .ok (.iload 4, 2) := by decide +kernel
theorem d_M_rest_34 : decode (m_M_rest).2.1 34 = .ok (.istore 4, 2) := by decide +kernel
theorem d_M_rest_36 : decode (m_M_rest).2.1 36 = .ok (.iinc 5 1, 3) := by decide +kernel
theorem d_M_rest_39 : decode (m_M_rest).2.1 39 = .ok (.goto (-33), 3) := by decide +kernel
theorem d_M_rest_42 : decode (m_M_rest).2.1 42 = .ok (.iconst 2, 1) := by decide +kernel
theorem d_M_rest_43 : decode (m_M_rest).2.1 43 = .ok (.iload_n 3, 1) := by decide +kernel
theorem d_M_rest_44 : decode (m_M_rest).2.1 44 = .ok (.imul, 1) := by decide +kernel
theorem d_M_rest_45 : decode (m_M_rest).2.1 45 = .ok (.iconst 2, 1) := by decide +kernel
theorem d_M_rest_46 : decode (m_M_rest).2.1 46 = .ok (.isub, 1) := by decide +kernel
theorem d_M_rest_47 : decode (m_M_rest).2.1 47 = .ok (.istore 5, 2) := by decide +kernel
theorem d_M_rest_49 : decode (m_M_rest).2.1 49 = .ok (.iload 5, 2) := by decide +kernel
theorem d_M_rest_51 : decode (m_M_rest).2.1 51 = .ok (.iload_n 3, 1) := by decide +kernel
theorem d_M_rest_52 : decode (m_M_rest).2.1 52 = .ok (.if_icmp .lt 36, 3) := by decide +kernel
theorem d_M_rest_55 : decode (m_M_rest).2.1 55 = .ok (.iload 4, 2) := by decide +kernel
theorem d_M_rest_57 : decode (m_M_rest).2.1 57 = .ok (.iload 5, 2) := by decide +kernel
theorem d_M_rest_59 : decode (m_M_rest).2.1 59 = .ok (.ishr, 1) := by decide +kernel
theorem d_M_rest_60 : decode (m_M_rest).2.1 60 = .ok (.iconst 1, 1) := by decide +kernel
theorem d_M_rest_61 : decode (m_M_rest).2.1 61 = .ok (.iand, 1) := by decide +kernel
theorem d_M_rest_62 : decode (m_M_rest).2.1 62 = .ok (.iconst 1, 1) := by decide +kernel
theorem d_M_rest_63 : decode (m_M_rest).2.1 63 = .ok (.if_icmp .ne 15, 3) := by decide +kernel
theorem d_M_rest_66 : decode (m_M_rest).2.1 66 = .ok (.iload 4, 2) := by decide +kernel
theorem d_M_rest_68 : decode (m_M_rest).2.1 68 = .ok (.iload_n 2, 1) := by decide +kernel
theorem d_M_rest_69 : decode (m_M_rest).2.1 69 = .ok (.iload 5, 2) := by decide +kernel
theorem d_M_rest_71 : decode (m_M_rest).2.1 71 = .ok (.iload_n 3, 1) := by decide +kernel
theorem d_M_rest_72 : decode (m_M_rest).2.1 72 = .ok (.isub, 1) := by decide +kernel
theorem d_M_rest_73 : decode (m_M_rest).2.1 73 = .ok (.ishl, 1) := by decide +kernel
theorem d_M_rest_74 : decode (m_M_rest).2.1 74 = .ok (.ixor, 1) := by decide +kernel
theorem d_M_rest_75 : decode (m_M_rest).2.1 75 = .ok (.goto 5, 3) := by decide +kernel
theorem d_M_rest_78 : decode (m_M_rest).2.1 78 = .ok (.iload 4, 2) := by decide +kernel
theorem d_M_rest_80 : decode (m_M_rest).2.1 80 = .ok (.istore 4, 2) := by decide +kernel
theorem d_M_rest_82 : decode (m_M_rest).2.1 82 = .ok (.iinc 5 (-1), 3) := by decide +kernel
theorem d_M_rest_85 : decode (m_M_rest).2.1 85 = .ok (.goto (-36), 3) := by decide +kernel
theorem d_M_rest_88 : decode (m_M_rest).2.1 88 = .ok (.iload 4, 2) := by decide +kernel
theorem d_M_rest_90 : decode (m_M_rest).2.1 90 = .ok (.ireturn, 1) := by decide +kernel
theorem d_M_layField_0 : decode (m_M_layField).2.1 0 = .ok (.aload_n 0, 1) := by decide +kernel
theorem d_M_layField_1 : decode (m_M_layField).2.1 1 = .ok (.iload_n 2, 1) := by decide +kernel
theorem d_M_layField_2 : decode (m_M_layField).2.1 2 = .ok (.putfield 61, 3) := by decide +kernel
theorem d_M_layField_5 : decode (m_M_layField).2.1 5 = .ok (.aload_n 0, 1) := by decide +kernel
theorem d_M_layField_6 : decode (m_M_layField).2.1 6 = .ok (.iconst 1, 1) := by decide +kernel
theorem d_M_layField_7 : decode (m_M_layField).2.1 7 = .ok (.iload_n 2, 1) := by decide +kernel
theorem d_M_layField_8 : decode (m_M_layField).2.1 8 = .ok (.ishl, 1) := by decide +kernel
theorem d_M_layField_9 : decode (m_M_layField).2.1 9 = .ok (.putfield 65, 3) := by decide +kernel
theorem d_M_layField_12 : decode (m_M_layField).2.1 12 = .ok (.iconst 0, 1) := by decide +kernel
theorem d_M_layField_13 : decode (m_M_layField).2.1 13 = .ok (.istore_n 3, 1) := by decide +kernel
theorem d_M_layField_14 : decode (m_M_layField).2.1 14 = .ok (.iload_n 3, 1) := by decide +kernel
theorem d_M_layField_15 : decode (m_M_layField).2.1 15 = .ok (.aload_n 0, 1) := by decide +kernel
theorem d_M_layField_16 : decode (m_M_layField).2.1 16 = .ok (.getfield 65, 3) := by decide +kernel
theorem d_M_layField_19 : decode (m_M_layField).2.1 19 = .ok (.if_icmp .ge 47, 3) := by decide +kernel
theorem d_M_layField_22 : decode (m_M_layField).2.1 22 = .ok (.iconst 0, 1) := by decide +kernel
theorem d_M_layField_23 : decode (m_M_layField).2.1 23 = .ok (.istore 4, 2) := by decide +kernel
theorem d_M_layField_25 : decode (m_M_layField).2.1 25 = .ok (.iload 4, 2) := by decide +kernel
theorem d_M_layField_27 : decode (m_M_layField).2.1 27 = .ok (.aload_n 0, 1) := by decide +kernel
theorem d_M_layField_28 : decode (m_M_layField).2.1 28 = .ok (.getfield 65, 3) := by decide +kernel
theorem d_M_layField_31 : decode (m_M_layField).2.1 31 = .ok (.if_icmp .ge 29, 3) := by decide +kernel
theorem d_M_layField_34 : decode (m_M_layField).2.1 34 = .ok (.aload_n 0, 1) := by decide +kernel
theorem d_M_layField_35 : decode (m_M_layField).2.1 35 = .ok (.getfield 7, 3) := by decide +kernel
theorem d_M_layField_38 : decode (m_M_layField).2.1 38 = .ok (.bipush 32, 2) := by decide +kernel
theorem d_M_layField_40 : decode (m_M_layField).2.1 40 = .ok (.iload_n 3, 1) := by decide +kernel
theorem d_M_layField_41 : decode (m_M_layField).2.1 41 = .ok (.imul, 1) := by decide +kernel
theorem d_M_layField_42 : decode (m_M_layField).2.1 42 = .ok (.iload 4, 2) := by decide +kernel
theorem d_M_layField_44 : decode (m_M_layField).2.1 44 = .ok (.iadd, 1) := by decide +kernel
theorem d_M_layField_45 : decode (m_M_layField).2.1 45 = .ok (.iload_n 3, 1) := by decide +kernel
theorem d_M_layField_46 : decode (m_M_layField).2.1 46 = .ok (.iload 4, 2) := by decide +kernel
theorem d_M_layField_48 : decode (m_M_layField).2.1 48 = .ok (.iload_n 1, 1) := by decide +kernel
theorem d_M_layField_49 : decode (m_M_layField).2.1 49 = .ok (.iload_n 2, 1) := by decide +kernel
theorem d_M_layField_50 : decode (m_M_layField).2.1 50 = .ok (.invokestatic 68, 3) := by decide +kernel
theorem d_M_layField_53 : decode (m_M_layField).2.1 53 = .ok (.iastore, 1) := by decide +kernel
theorem d_M_layField_54 : decode (m_M_layField).2.1 54 = .ok (.iinc 4 1, 3) := by decide +kernel
theorem d_M_layField_57 : decode (m_M_layField).2.1 57 = .ok (.goto (-32), 3) := by decide +kernel
theorem d_M_layField_60 : decode (m_M_layField).2.1 60 = .ok (.iinc 3 1, 3) := by decide +kernel
theorem d_M_layField_63 : decode (m_M_layField).2.1 63 = .ok (.goto (-49), 3) := by decide +kernel
theorem d_M_layField_66 : decode (m_M_layField).2.1 66 = .ok (.aload_n 0, 1) := by decide +kernel
theorem d_M_layField_67 : decode (m_M_layField).2.1 67 = .ok (.getfield 13, 3) := by decide +kernel
theorem d_M_layField_70 : decode (m_M_layField).2.1 70 = .ok (.iconst 0, 1) := by decide +kernel
theorem d_M_layField_71 : decode (m_M_layField).2.1 71 = .ok (.iconst 1, 1) := by decide +kernel
theorem d_M_layField_72 : decode (m_M_layField).2.1 72 = .ok (.iastore, 1) := by decide +kernel
theorem d_M_layField_73 : decode (m_M_layField).2.1 73 = .ok (.iconst 1, 1) := by decide +kernel
theorem d_M_layField_74 : decode (m_M_layField).2.1 74 = .ok (.istore_n 3, 1) := by decide +kernel
theorem d_M_layField_75 : decode (m_M_layField).2.1 75 = .ok (.iload_n 3, 1) := by decide +kernel
theorem d_M_layField_76 : decode (m_M_layField).2.1 76 = .ok (.aload_n 0, 1) := by decide +kernel
theorem d_M_layField_77 : decode (m_M_layField).2.1 77 = .ok (.getfield 65, 3) := by decide +kernel
theorem d_M_layField_80 : decode (m_M_layField).2.1 80 = .ok (.if_icmp .ge 33, 3) := by decide +kernel
theorem d_M_layField_83 : decode (m_M_layField).2.1 83 = .ok (.aload_n 0, 1) := by decide +kernel
theorem d_M_layField_84 : decode (m_M_layField).2.1 84 = .ok (.getfield 13, 3) := by decide +kernel
theorem d_M_layField_87 : decode (m_M_layField).2.1 87 = .ok (.iload_n 3, 1) := by decide +kernel
theorem d_M_layField_88 : decode (m_M_layField).2.1 88 = .ok (.aload_n 0, 1) := by decide +kernel
theorem d_M_layField_89 : decode (m_M_layField).2.1 89 = .ok (.getfield 7, 3) := by decide +kernel
theorem d_M_layField_92 : decode (m_M_layField).2.1 92 = .ok (.bipush 32, 2) := by decide +kernel
theorem d_M_layField_94 : decode (m_M_layField).2.1 94 = .ok (.aload_n 0, 1) := by decide +kernel
theorem d_M_layField_95 : decode (m_M_layField).2.1 95 = .ok (.getfield 13, 3) := by decide +kernel
theorem d_M_layField_98 : decode (m_M_layField).2.1 98 = .ok (.iload_n 3, 1) := by decide +kernel
theorem d_M_layField_99 : decode (m_M_layField).2.1 99 = .ok (.iconst 1, 1) := by decide +kernel
theorem d_M_layField_100 : decode (m_M_layField).2.1 100 = .ok (.isub, 1) := by decide +kernel
theorem d_M_layField_101 : decode (m_M_layField).2.1 101 = .ok (.iaload, 1) := by decide +kernel
theorem d_M_layField_102 : decode (m_M_layField).2.1 102 = .ok (.imul, 1) := by decide +kernel
theorem d_M_layField_103 : decode (m_M_layField).2.1 103 = .ok (.iconst 2, 1) := by decide +kernel
theorem d_M_layField_104 : decode (m_M_layField).2.1 104 = .ok (.iadd, 1) := by decide +kernel
theorem d_M_layField_105 : decode (m_M_layField).2.1 105 = .ok (.iaload, 1) := by decide +kernel
theorem d_M_layField_106 : decode (m_M_layField).2.1 106 = .ok (.iastore, 1) := by decide +kernel
theorem d_M_layField_107 : decode (m_M_layField).2.1 107 = .ok (.iinc 3 1, 3) := by decide +kernel
theorem d_M_layField_110 : decode (m_M_layField).2.1 110 = .ok (.goto (-35), 3) := by decide +kernel
theorem d_M_layField_113 : decode (m_M_layField).2.1 113 = .ok (.return_, 1) := by decide +kernel
