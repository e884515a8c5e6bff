theorem d_M_isPrimitive_0 : decode (m_M_isPrimitive).2.1 0 = .ok (.iconst 1, 1) := by decide +kernel
theorem d_M_isPrimitive_1 : decode (m_M_isPrimitive).2.1 1 = .ok (.istore_n 2, 1) := by decide +kernel
theorem d_M_isPrimitive_2 : decode (m_M_isPrimitive).2.1 2 = .ok (.iconst 1, 1) := by decide +kernel
theorem d_M_isPrimitive_3 : decode (m_M_isPrimitive).2.1 3 = .ok (.istore_n 3, 1) := by decide +kernel
theorem d_M_isPrimitive_4 : decode (m_M_isPrimitive).2.1 4 = .ok (.iload_n 3, 1) := by decide +kernel
theorem d_M_isPrimitive_5 : decode (m_M_isPrimitive).2.1 5 = .ok (.iconst 1, 1) := by decide +kernel
theorem d_M_isPrimitive_6 : decode (m_M_isPrimitive).2.1 6 = .ok (.iload_n 1, 1) := by decide +kernel
theorem d_M_isPrimitive_7 : decode (m_M_isPrimitive).2.1 7 = .ok (.ishl, 1) := by decide +kernel
theorem d_M_isPrimitive_8 : decode (m_M_isPrimitive).2.1 8 = .ok (.if_icmp .ge 37, 3) := by decide +kernel
theorem d_M_isPrimitive_11 : decode (m_M_isPrimitive).2.1 11 = .ok (.iload_n 2, 1) := by decide +kernel
theorem d_M_isPrimitive_12 : decode (m_M_isPrimitive).2.1 12 = .ok (.iconst 2, 1) := by decide +kernel
theorem d_M_isPrimitive_13 : decode (m_M_isPrimitive).2.1 13 = .ok (.iload_n 0, 1) := by decide +kernel
theorem d_M_isPrimitive_14 : decode (m_M_isPrimitive).2.1 14 = .ok (.iload_n 1, 1) := by decide +kernel
theorem d_M_isPrimitive_15 : decode (m_M_isPrimitive).2.1 15 = .ok (.invokestatic 68, 3) := by decide +kernel
theorem d_M_isPrimitive_18 : decode (m_M_isPrimitive).2.1 18 = .ok (.istore_n 2, 1) := by decide +kernel
theorem d_M_isPrimitive_19 : decode (m_M_isPrimitive).2.1 19 = .ok (.iload_n 2, 1) := by decide +kernel
theorem d_M_isPrimitive_20 : decode (m_M_isPrimitive).2.1 20 = .ok (.iconst 1, 1) := by decide +kernel
theorem d_M_isPrimitive_21 : decode (m_M_isPrimitive).2.1 21 = .ok (.if_icmp .ne 18, 3) := by decide +kernel
theorem d_M_isPrimitive_24 : decode (m_M_isPrimitive).2.1 24 = .ok (.iload_n 3, 1) := by decide +kernel
theorem d_M_isPrimitive_25 : decode (m_M_isPrimitive).2.1 25 = .ok (.iconst 1, 1) := by decide +kernel
theorem d_M_isPrimitive_26 : decode (m_M_isPrimitive).2.1 26 = .ok (.iload_n 1, 1) := by decide +kernel
theorem d_M_isPrimitive_27 : decode (m_M_isPrimitive).2.1 27 = .ok (.ishl, 1) := by decide +kernel
theorem d_M_isPrimitive_28 : decode (m_M_isPrimitive).2.1 28 = .ok (.iconst 1, 1) := by decide +kernel
theorem d_M_isPrimitive_29 : decode (m_M_isPrimitive).2.1 29 = .ok (.isub, 1) := by decide +kernel
theorem d_M_isPrimitive_30 : decode (m_M_isPrimitive).2.1 30 = .ok (.if_icmp .ne 7, 3) := by decide +kernel
theorem d_M_isPrimitive_33 : decode (m_M_isPrimitive).2.1 33 = .ok (.iconst 1, 1) := by decide +kernel
theorem d_M_isPrimitive_34 : decode (m_M_isPrimitive).2.1 34 = .ok (.goto 4, 3) := by decide +kernel
theorem d_M_isPrimitive_37 : decode (m_M_isPrimitive).2.1 37 = .ok (.iconst 0, 1) := by decide +kernel
theorem d_M_isPrimitive_38 : decode (m_M_isPrimitive).2.1 38 = .ok (.ireturn, 1) := by decide +kernel
theorem d_M_isPrimitive_39 : decode (m_M_isPrimitive).2.1 39 = .ok (.iinc 3 1, 3) := by decide +kernel
theorem d_M_isPrimitive_42 : decode (m_M_isPrimitive).2.1 42 = .ok (.goto (-38), 3) := by decide +kernel
theorem d_M_isPrimitive_45 : decode (m_M_isPrimitive).2.1 45 = .ok (.iconst 0, 1) := by decide +kernel
theorem d_M_isPrimitive_46 : decode (m_M_isPrimitive).2.1 46 = .ok (.ireturn, 1) := by decide +kernel
theorem d_M_isElement_0 : decode (m_M_isElement).2.1 0 = .ok (.iload_n 1, 1) := by decide +kernel
theorem d_M_isElement_1 : decode (m_M_isElement).2.1 1 = .ok (.ifCond .lt 15, 3) := by decide +kernel
theorem d_M_isElement_4 : decode (m_M_isElement).2.1 4 = .ok (.iload_n 1, 1) := by decide +kernel
theorem d_M_isElement_5 : decode (m_M_isElement).2.1 5 = .ok (.aload_n 0, 1) := by decide +kernel
theorem d_M_isElement_6 : decode (m_M_isElement).2.1 6 = .ok (.getfield 65, 3) := by decide +kernel
theorem d_M_isElement_9 : decode (m_M_isElement).2.1 9 = .ok (.if_icmp .ge 7, 3) := by decide +kernel
theorem d_M_isElement_12 : decode (m_M_isElement).2.1 12 = .ok (.iconst 1, 1) := by decide +kernel
theorem d_M_isElement_13 : decode (m_M_isElement).2.1 13 = .ok (.goto 4, 3) := by decide +kernel
theorem d_M_isElement_16 : decode (m_M_isElement).2.1 16 = .ok (.iconst 0, 1) := by decide +kernel
theorem d_M_isElement_17 : decode (m_M_isElement).2.1 17 = .ok (.ireturn, 1) := by decide +kernel
theorem d_M_field_0 : decode (m_M_field).2.1 0 = .ok (.iload_n 1, 1) := by decide +kernel
theorem d_M_field_1 : decode (m_M_field).2.1 1 = .ok (.bipush 8, 2) := by decide +kernel
theorem d_M_field_3 : decode (m_M_field).2.1 3 = .ok (.if_icmp .lt 9, 3) := by decide +kernel
theorem d_M_field_6 : decode (m_M_field).2.1 6 = .ok (.iload_n 1, 1) := by decide +kernel
theorem d_M_field_7 : decode (m_M_field).2.1 7 = .ok (.bipush 63, 2) := by decide +kernel
theorem d_M_field_9 : decode (m_M_field).2.1 9 = .ok (.if_icmp .le 5, 3) := by decide +kernel
theorem d_M_field_12 : decode (m_M_field).2.1 12 = .ok (.iconst (-1), 1) := by decide +kernel
theorem d_M_field_13 : decode (m_M_field).2.1 13 = .ok (.ireturn, 1) := by decide +kernel
theorem d_M_field_14 : decode (m_M_field).2.1 14 = .ok (.iload_n 1, 1) := by decide +kernel
theorem d_M_field_15 : decode (m_M_field).2.1 15 = .ok (.bipush 16, 2) := by decide +kernel
theorem d_M_field_17 : decode (m_M_field).2.1 17 = .ok (.if_icmp .ge 7, 3) := by decide +kernel
theorem d_M_field_20 : decode (m_M_field).2.1 20 = .ok (.iconst 3, 1) := by decide +kernel
theorem d_M_field_21 : decode (m_M_field).2.1 21 = .ok (.goto 14, 3) := by decide +kernel
theorem d_M_field_24 : decode (m_M_field).2.1 24 = .ok (.iload_n 1, 1) := by decide +kernel
theorem d_M_field_25 : decode (m_M_field).2.1 25 = .ok (.bipush 32, 2) := by decide +kernel
theorem d_M_field_27 : decode (m_M_field).2.1 27 = .ok (.if_icmp .ge 7, 3) := by decide +kernel
theorem d_M_field_30 : decode (m_M_field).2.1 30 = .ok (.iconst 4, 1) := by decide +kernel
theorem d_M_field_31 : decode (m_M_field).2.1 31 = .ok (.goto 4, 3) := by decide +kernel
theorem d_M_field_34 : decode (m_M_field).2.1 34 = .ok (.iconst 5, 1) := by decide +kernel
theorem d_M_field_35 : decode (m_M_field).2.1 35 = .ok (.istore_n 2, 1) := by decide +kernel
theorem d_M_field_36 : decode (m_M_field).2.1 36 = .ok (.iload_n 1, 1) := by decide +kernel
theorem d_M_field_37 : decode (m_M_field).2.1 37 = .ok (.iload_n 2, 1) := by decide +kernel
theorem d_M_field_38 : decode (m_M_field).2.1 38 = .ok (.invokestatic 72, 3) := by decide +kernel
theorem d_M_field_41 : decode (m_M_field).2.1 41 = .ok (.ifCond .ne 6, 3) := by decide +kernel
theorem d_M_field_44 : decode (m_M_field).2.1 44 = .ok (.bipush (-4), 2) := by decide +kernel
theorem d_M_field_46 : decode (m_M_field).2.1 46 = .ok (.ireturn, 1) := by decide +kernel
theorem d_M_field_47 : decode (m_M_field).2.1 47 = .ok (.aload_n 0, 1) := by decide +kernel
theorem d_M_field_48 : decode (m_M_field).2.1 48 = .ok (.iload_n 1, 1) := by decide +kernel
theorem d_M_field_49 : decode (m_M_field).2.1 49 = .ok (.iload_n 2, 1) := by decide +kernel
theorem d_M_field_50 : decode (m_M_field).2.1 50 = .ok (.invokevirtual 53, 3) := by decide +kernel
theorem d_M_field_53 : decode (m_M_field).2.1 53 = .ok (.aload_n 0, 1) := by decide +kernel
theorem d_M_field_54 : decode (m_M_field).2.1 54 = .ok (.iconst 0, 1) := by decide +kernel
theorem d_M_field_55 : decode (m_M_field).2.1 55 = .ok (.aload_n 0, 1) := by decide +kernel
theorem d_M_field_56 : decode (m_M_field).2.1 56 = .ok (.getfield 65, 3) := by decide +kernel
theorem d_M_field_59 : decode (m_M_field).2.1 59 = .ok (.bipush 20, 2) := by decide +kernel
theorem d_M_field_61 : decode (m_M_field).2.1 61 = .ok (.if_icmp .le 8, 3) := by decide +kernel
theorem d_M_field_64 : decode (m_M_field).2.1 64 = .ok (.bipush 20, 2) := by decide +kernel
theorem d_M_field_66 : decode (m_M_field).2.1 66 = .ok (.goto 9, 3) := by decide +kernel
theorem d_M_field_69 : decode (m_M_field).2.1 69 = .ok (.aload_n 0, 1) := by decide +kernel
theorem d_M_field_70 : decode (m_M_field).2.1 70 = .ok (.getfield 65, 3) := by decide +kernel
theorem d_M_field_73 : decode (m_M_field).2.1 73 = .ok (.iconst 1, 1) := by decide +kernel
theorem d_M_field_74 : decode (m_M_field).2.1 74 = .ok (.isub, 1) := by decide +kernel
theorem d_M_field_75 : decode (m_M_field).2.1 75 = .ok (.iconst 2, 1) := by decide +kernel
theorem d_M_field_76 : decode (m_M_field).2.1 76 = .ok (.invokevirtual 57, 3) := by decide +kernel
theorem d_M_field_79 : decode (m_M_field).2.1 79 = .ok (.aload_n 0, 1) := by decide +kernel
theorem d_M_field_80 : decode (m_M_field).2.1 80 = .ok (.getfield 61, 3) := by decide +kernel
theorem d_M_field_83 : decode (m_M_field).2.1 83 = .ok (.ireturn, 1) := by decide +kernel
theorem d_M_times_0 : decode (m_M_times).2.1 0 = .ok (.aload_n 0, 1) := by decide +kernel
theorem d_M_times_1 : decode (m_M_times).2.1 1 = .ok (.iload_n 1, 1) := by decide +kernel
theorem d_M_times_2 : decode (m_M_times).2.1 2 = .ok (.invokevirtual 76, 3) := by decide +kernel
theorem d_M_times_5 : decode (m_M_times).2.1 5 = .ok (.ifCond .eq 25, 3) := by decide +kernel
theorem d_M_times_8 : decode (m_M_times).2.1 8 = .ok (.aload_n 0, 1) := by decide +kernel
theorem d_M_times_9 : decode (m_M_times).2.1 9 = .ok (.iload_n 2, 1) := by decide +kernel
theorem d_M_times_10 : decode (m_M_times).2.1 10 = .ok (.invokevirtual 76, 3) := by decide +kernel
theorem d_M_times_13 : decode (m_M_times).2.1 13 = .ok (.ifCond .eq 17, 3) := by decide +kernel
theorem d_M_times_16 : decode (m_M_times).2.1 16 = .ok (.aload_n 0, 1) := by decide +kernel
theorem d_M_times_17 : decode (m_M_times).2.1 17 = .ok (.getfield 7, 3) := by decide +kernel
theorem d_M_times_20 : decode (m_M_times).2.1 20 = .ok (.bipush 32, 2) := by decide +kernel
theorem d_M_times_22 : decode (m_M_times).2.1 22 = .ok (.iload_n 1, 1) := by decide +kernel
theorem d_M_times_23 : decode (m_M_times).2.1 23 = .ok (.imul, 1) := by decide +kernel
theorem d_M_times_24 : decode (m_M_times).2.1 24 = .ok (.iload_n 2, 1) := by decide +kernel
theorem d_M_times_25 : decode (m_M_times).2.1 25 = .ok (.iadd, 1) := by decide +kernel
theorem d_M_times_26 : decode (m_M_times).2.1 26 = .ok (.iaload, 1) := by decide +kernel
theorem d_M_times_27 : decode (m_M_times).2.1 27 = .ok (.goto 4, 3) := by decide +kernel
theorem d_M_times_30 : decode (m_M_times).2.1 30 = .ok (.iconst (-1), 1) := by decide +kernel
theorem d_M_times_31 : decode (m_M_times).2.1 31 = .ok (.ireturn, 1) := by decide +kernel
theorem d_M_quotient_0 : decode (m_M_quotient).2.1 0 = .ok (.iconst 0, 1) := by decide +kernel
theorem d_M_quotient_1 : decode (m_M_quotient).2.1 1 = .ok (.istore_n 3, 1) := by decide +kernel
theorem d_M_quotient_2 : decode (m_M_quotient).2.1 2 = .ok (.iload_n 3, 1) := by decide +kernel
theorem d_M_quotient_3 : decode (m_M_quotient).2.1 3 = .ok (.aload_n 0, 1) := by decide +kernel
theorem d_M_quotient_4 : decode (m_M_quotient).2.1 4 = .ok (.getfield 65, 3) := by decide +kernel
theorem d_M_quotient_7 : decode (m_M_quotient).2.1 7 = .ok (.if_icmp .ge 24, 3) := by decide +kernel
theorem d_M_quotient_10 : decode (m_M_quotient).2.1 10 = .ok (.aload_n 0, 1) := by decide +kernel
theorem d_M_quotient_11 : decode (m_M_quotient).2.1 11 = .ok (.getfield 7, 3) := by decide +kernel
theorem d_M_quotient_14 : decode (m_M_quotient).2.1 14 = .ok (.bipush 32, 2) := by decide +kernel
theorem d_M_quotient_16 : decode (m_M_quotient).2.1 16 = .ok (.iload_n 3, 1) := by decide +kernel
theorem d_M_quotient_17 : decode (m_M_quotient).2.1 17 = .ok (.imul, 1) := by decide +kernel
theorem d_M_quotient_18 : decode (m_M_quotient).2.1 18 = .ok (.iload_n 2, 1) := by decide +kernel
theorem d_M_quotient_19 : decode (m_M_quotient).2.1 19 = .ok (.iadd, 1) := by decide +kernel
theorem d_M_quotient_20 : decode (m_M_quotient).2.1 20 = .ok (.iaload, 1) := by decide +kernel
theorem d_M_quotient_21 : decode (m_M_quotient).2.1 21 = .ok (.iload_n 1, 1) := by decide +kernel
theorem d_M_quotient_22 : decode (m_M_quotient).2.1 22 = .ok (.if_icmp .eq 9, 3) := by decide +kernel
theorem d_M_quotient_25 : decode (m_M_quotient).2.1 25 = .ok (.iinc 3 1, 3) := by decide +kernel
theorem d_M_quotient_28 : decode (m_M_quotient).2.1 28 = .ok (.goto (-26), 3) := by decide +kernel
theorem d_M_quotient_31 : decode (m_M_quotient).2.1 31 = .ok (.iload_n 3, 1) := by decide +kernel
theorem d_M_quotient_32 : decode (m_M_quotient).2.1 32 = .ok (.ireturn, 1) := by decide +kernel
theorem d_M_over_0 : decode (m_M_over).2.1 0 = .ok (.aload_n 0, 1) := by decide +kernel
theorem d_M_over_1 : decode (m_M_over).2.1 1 = .ok (.iload_n 1, 1) := by decide +kernel
theorem d_M_over_2 : decode (m_M_over).2.1 2 = .ok (.invokevirtual 76, 3) := by decide +kernel
theorem d_M_over_5 : decode (m_M_over).2.1 5 = .ok (.ifCond .eq 11, 3) := by decide +kernel
theorem d_M_over_8 : decode (m_M_over).2.1 8 = .ok (.aload_n 0, 1) := by decide +kernel
theorem d_M_over_9 : decode (m_M_over).2.1 9 = .ok (.iload_n 2, 1) := by decide +kernel
theorem d_M_over_10 : decode (m_M_over).2.1 10 = .ok (.invokevirtual 76, 3) := by decide +kernel
theorem d_M_over_13 : decode (m_M_over).2.1 13 = .ok (.ifCond .ne 5, 3) := by decide +kernel
theorem d_M_over_16 : decode (m_M_over).2.1 16 = .ok (.iconst (-1), 1) := by decide +kernel
theorem d_M_over_17 : decode (m_M_over).2.1 17 = .ok (.ireturn, 1) := by decide +kernel
theorem d_M_over_18 : decode (m_M_over).2.1 18 = .ok (.iload_n 2, 1) := by decide +kernel
theorem d_M_over_19 : decode (m_M_over).2.1 19 = .ok (.ifCond .ne 8, 3) := by decide +kernel
theorem d_M_over_22 : decode (m_M_over).2.1 22 = .ok (.bipush (-2), 2) := by decide +kernel
theorem d_M_over_24 : decode (m_M_over).2.1 24 = .ok (.goto 9, 3) := by decide +kernel
theorem d_M_over_27 : decode (m_M_over).2.1 27 = .ok (.aload_n 0, 1) := by decide +kernel
theorem d_M_over_28 : decode (m_M_over).2.1 28 = .ok (.iload_n 1, 1) := by decide +kernel
theorem d_M_over_29 : decode (m_M_over).2.1 29 = .ok (.iload_n 2, 1) := by decide +kernel
theorem d_M_over_30 : decode (m_M_over).2.1 30 = .ok (.invokevirtual 80, 3) := by decide +kernel
theorem d_M_over_33 : decode (m_M_over).2.1 33 = .ok (.ireturn, 1) := by decide +kernel
theorem d_M_log_0 : decode (m_M_log).2.1 0 = .ok (.aload_n 0, 1) := by decide +kernel
theorem d_M_log_1 : decode (m_M_log).2.1 1 = .ok (.iload_n 1, 1) := by decide +kernel
theorem d_M_log_2 : decode (m_M_log).2.1 2 = .ok (.invokevirtual 76, 3) := by decide +kernel
theorem d_M_log_5 : decode (m_M_log).2.1 5 = .ok (.ifCond .ne 5, 3) := by decide +kernel
theorem d_M_log_8 : decode (m_M_log).2.1 8 = .ok (.iconst (-1), 1) := by decide +kernel
theorem d_M_log_9 : decode (m_M_log).2.1 9 = .ok (.ireturn, 1) := by decide +kernel
theorem d_M_log_10 : decode (m_M_log).2.1 10 = .ok (.iconst 0, 1) := by decide +kernel
theorem d_M_log_11 : decode (m_M_log).2.1 11 = .ok (.istore_n 2, 1) := by decide +kernel
theorem d_M_log_12 : decode (m_M_log).2.1 12 = .ok (.iload_n 2, 1) := by decide +kernel
theorem d_M_log_13 : decode (m_M_log).2.1 13 = .ok (.aload_n 0, 1) := by decide +kernel
theorem d_M_log_14 : decode (m_M_log).2.1 14 = .ok (.getfield 65, 3) := by decide +kernel
theorem d_M_log_17 : decode (m_M_log).2.1 17 = .ok (.iconst 1, 1) := by decide +kernel
theorem d_M_log_18 : decode (m_M_log).2.1 18 = .ok (.isub, 1) := by decide +kernel
theorem d_M_log_19 : decode (m_M_log).2.1 19 = .ok (.if_icmp .ge 19, 3) := by decide +kernel
theorem d_M_log_22 : decode (m_M_log).2.1 22 = .ok (.aload_n 0, 1) := by decide +kernel
theorem d_M_log_23 : decode (m_M_log).2.1 23 = .ok (.getfield 13, 3) := by decide +kernel
theorem d_M_log_26 : decode (m_M_log).2.1 26 = .ok (.iload_n 2, 1) := by decide +kernel
theorem d_M_log_27 : decode (m_M_log).2.1 27 = .ok (.iaload, 1) := by decide +kernel
theorem d_M_log_28 : decode (m_M_log).2.1 28 = .ok (.iload_n 1, 1) := by decide +kernel
theorem d_M_log_29 : decode (m_M_log).2.1 29 = .ok (.if_icmp .eq 9, 3) := by decide +kernel
theorem d_M_log_32 : decode (m_M_log).2.1 32 = .ok (.iinc 2 1, 3) := by decide +kernel
theorem d_M_log_35 : decode (m_M_log).2.1 35 = .ok (.goto (-23), 3) := by decide +kernel
theorem d_M_log_38 : decode (m_M_log).2.1 38 = .ok (.iload_n 2, 1) := by decide +kernel
theorem d_M_log_39 : decode (m_M_log).2.1 39 = .ok (.aload_n 0, 1) := by decide +kernel
theorem d_M_log_40 : decode (m_M_log).2.1 40 = .ok (.getfield 65, 3) := by decide +kernel
theorem d_M_log_43 : decode (m_M_log).2.1 43 = .ok (.iconst 1, 1) := by decide +kernel
theorem d_M_log_44 : decode (m_M_log).2.1 44 = .ok (.isub, 1) := by decide +kernel
theorem d_M_log_45 : decode (m_M_log).2.1 45 = .ok (.if_icmp .ge 7, 3) := by decide +kernel
theorem d_M_log_48 : decode (m_M_log).2.1 48 = .ok (.iload_n 2, 1) := by decide +kernel
theorem d_M_log_49 : decode (m_M_log).2.1 49 = .ok (.goto 5, 3) := by decide +kernel
theorem d_M_log_52 : decode (m_M_log).2.1 52 = .ok (.bipush (-2), 2) := by decide +kernel
theorem d_M_log_54 : decode (m_M_log).2.1 54 = .ok (.ireturn, 1) := by decide +kernel
theorem d_M_power_0 : decode (m_M_power).2.1 0 = .ok (.iconst 1, 1) := by decide +kernel
theorem d_M_power_1 : decode (m_M_power).2.1 1 = .ok (.istore_n 3, 1) := by decide +kernel
theorem d_M_power_2 : decode (m_M_power).2.1 2 = .ok (.iconst 0, 1) := by decide +kernel
theorem d_M_power_3 : decode (m_M_power).2.1 3 = .ok (.istore 4, 2) := by decide +kernel
theorem d_M_power_5 : decode (m_M_power).2.1 5 = .ok (.iload 4, 2) := by decide +kernel
theorem d_M_power_7 : decode (m_M_power).2.1 7 = .ok (.iload_n 2, 1) := by decide +kernel
theorem d_M_power_8 : decode (m_M_power).2.1 8 = .ok (.if_icmp .ge 21, 3) := by decide +kernel
theorem d_M_power_11 : decode (m_M_power).2.1 11 = .ok (.aload_n 0, 1) := by decide +kernel
theorem d_M_power_12 : decode (m_M_power).2.1 12 = .ok (.getfield 7, 3) := by decide +kernel
theorem d_M_power_15 : decode (m_M_power).2.1 15 = .ok (.bipush 32, 2) := by decide +kernel
theorem d_M_power_17 : decode (m_M_power).2.1 17 = .ok (.iload_n 3, 1) := by decide +kernel
theorem d_M_power_18 : decode (m_M_power).2.1 18 = .ok (.imul, 1) := by decide +kernel
theorem d_M_power_19 : decode (m_M_power).2.1 19 = .ok (.iload_n 1, 1) := by decide +kernel
theorem d_M_power_20 : decode (m_M_power).2.1 20 = .ok (.iadd, 1) := by decide +kernel
theorem d_M_power_21 : decode (m_M_power).2.1 21 = .ok (.iaload, 1) := by decide +kernel
theorem d_M_power_22 : decode (m_M_power).2.1 22 = .ok (.istore_n 3, 1) := by decide +kernel
theorem d_M_power_23 : decode (m_M_power).2.1 23 = .ok (.iinc 4 1, 3) := by decide +kernel
theorem d_M_power_26 : decode (m_M_power).2.1 26 = .ok (.goto (-21), 3) := by decide +kernel
theorem d_M_power_29 : decode (m_M_power).2.1 29 = .ok (.iload_n 3, 1) := by decide +kernel
theorem d_M_power_30 : decode (m_M_power).2.1 30 = .ok (.ireturn, 1) := by decide +kernel
theorem d_M_layCode_0 : decode (m_M_layCode).2.1 0 = .ok (.aload_n 0, 1) := by decide +kernel
theorem d_M_layCode_1 : decode (m_M_layCode).2.1 1 = .ok (.iload_n 1, 1) := by decide +kernel
theorem d_M_layCode_2 : decode (m_M_layCode).2.1 2 = .ok (.putfield 84, 3) := by decide +kernel
theorem d_M_layCode_5 : decode (m_M_layCode).2.1 5 = .ok (.aload_n 0, 1) := by decide +kernel
theorem d_M_layCode_6 : decode (m_M_layCode).2.1 6 = .ok (.iload_n 2, 1) := by decide +kernel
theorem d_M_layCode_7 : decode (m_M_layCode).2.1 7 = .ok (.putfield 87, 3) := by decide +kernel
theorem d_M_layCode_10 : decode (m_M_layCode).2.1 10 = .ok (.aload_n 0, 1) := by decide +kernel
theorem d_M_layCode_11 : decode (m_M_layCode).2.1 11 = .ok (.iload_n 3, 1) := by decide +kernel
theorem d_M_layCode_12 : decode (m_M_layCode).2.1 12 = .ok (.putfield 90, 3) := by decide +kernel
theorem d_M_layCode_15 : decode (m_M_layCode).2.1 15 = .ok (.iconst 0, 1) := by decide +kernel
theorem d_M_layCode_16 : decode (m_M_layCode).2.1 16 = .ok (.istore 4, 2) := by decide +kernel
theorem d_M_layCode_18 : decode (m_M_layCode).2.1 18 = .ok (.iload 4, 2) := by decide +kernel
theorem d_M_layCode_20 : decode (m_M_layCode).2.1 20 = .ok (.iconst 4, 1) := by decide +kernel
theorem d_M_layCode_21 : decode (m_M_layCode).2.1 21 = .ok (.if_icmp .ge 17, 3) := by decide +kernel
theorem d_M_layCode_24 : decode (m_M_layCode).2.1 24 = .ok (.aload_n 0, 1) := by decide +kernel
theorem d_M_layCode_25 : decode (m_M_layCode).2.1 25 = .ok (.getfield 19, 3) := by decide +kernel
theorem d_M_layCode_28 : decode (m_M_layCode).2.1 28 = .ok (.iload 4, 2) := by decide +kernel
theorem d_M_layCode_30 : decode (m_M_layCode).2.1 30 = .ok (.iconst 0, 1) := by decide +kernel
theorem d_M_layCode_31 : decode (m_M_layCode).2.1 31 = .ok (.iastore, 1) := by decide +kernel
theorem d_M_layCode_32 : decode (m_M_layCode).2.1 32 = .ok (.iinc 4 1, 3) := by decide +kernel
theorem d_M_layCode_35 : decode (m_M_layCode).2.1 35 = .ok (.goto (-17), 3) := by decide +kernel
theorem d_M_layCode_38 : decode (m_M_layCode).2.1 38 = .ok (.iconst 0, 1) := by decide +kernel
theorem d_M_layCode_39 : decode (m_M_layCode).2.1 39 = .ok (.istore 4, 2) := by decide +kernel
theorem d_M_layCode_41 : decode (m_M_layCode).2.1 41 = .ok (.iload 4, 2) := by decide +kernel
theorem d_M_layCode_43 : decode (m_M_layCode).2.1 43 = .ok (.bipush 20, 2) := by decide +kernel
theorem d_M_layCode_45 : decode (m_M_layCode).2.1 45 = .ok (.if_icmp .ge 42, 3) := by decide +kernel
theorem d_M_layCode_48 : decode (m_M_layCode).2.1 48 = .ok (.aload_n 0, 1) := by decide +kernel
theorem d_M_layCode_49 : decode (m_M_layCode).2.1 49 = .ok (.getfield 22, 3) := by decide +kernel
theorem d_M_layCode_52 : decode (m_M_layCode).2.1 52 = .ok (.iload 4, 2) := by decide +kernel
theorem d_M_layCode_54 : decode (m_M_layCode).2.1 54 = .ok (.iconst 0, 1) := by decide +kernel
theorem d_M_layCode_55 : decode (m_M_layCode).2.1 55 = .ok (.iastore, 1) := by decide +kernel
theorem d_M_layCode_56 : decode (m_M_layCode).2.1 56 = .ok (.aload_n 0, 1) := by decide +kernel
theorem d_M_layCode_57 : decode (m_M_layCode).2.1 57 = .ok (.getfield 25, 3) := by decide +kernel
theorem d_M_layCode_60 : decode (m_M_layCode).2.1 60 = .ok (.iload 4, 2) := by decide +kernel
theorem d_M_layCode_62 : decode (m_M_layCode).2.1 62 = .ok (.iconst 0, 1) := by decide +kernel
theorem d_M_layCode_63 : decode (m_M_layCode).2.1 63 = .ok (.bastore, 1) := by decide +kernel
theorem d_M_layCode_64 : decode (m_M_layCode).2.1 64 = .ok (.aload_n 0, 1) := by decide +kernel
theorem d_M_layCode_65 : decode (m_M_layCode).2.1 65 = .ok (.getfield 16, 3) := by decide +kernel
theorem d_M_layCode_68 : decode (m_M_layCode).2.1 68 = .ok (.iload 4, 2) := by decide +kernel
theorem d_M_layCode_70 : decode (m_M_layCode).2.1 70 = .ok (.iload 4, 2) := by decide +kernel
theorem d_M_layCode_72 : decode (m_M_layCode).2.1 72 = .ok (.ifCond .ne 7, 3) := by decide +kernel
theorem d_M_layCode_75 : decode (m_M_layCode).2.1 75 = .ok (.iconst 1, 1) := by decide +kernel
theorem d_M_layCode_76 : decode (m_M_layCode).2.1 76 = .ok (.goto 4, 3) := by decide +kernel
theorem d_M_layCode_79 : decode (m_M_layCode).2.1 79 = .ok (.iconst 0, 1) := by decide +kernel
theorem d_M_layCode_80 : decode (m_M_layCode).2.1 80 = .ok (.iastore, 1) := by decide +kernel
theorem d_M_layCode_81 : decode (m_M_layCode).2.1 81 = .ok (.iinc 4 1, 3) := by decide +kernel
theorem d_M_layCode_84 : decode (m_M_layCode).2.1 84 = .ok (.goto (-43), 3) := by decide +kernel
theorem d_M_layCode_87 : decode (m_M_layCode).2.1 87 = .ok (.iconst 1, 1) := by decide +kernel
theorem d_M_layCode_88 : decode (m_M_layCode).2.1 88 = .ok (.istore 4, 2) := by decide +kernel
theorem d_M_layCode_90 : decode (m_M_layCode).2.1 90 = .ok (.iload 4, 2) := by decide +kernel
theorem d_M_layCode_92 : decode (m_M_layCode).2.1 92 = .ok (.aload_n 0, 1) := by decide +kernel
theorem d_M_layCode_93 : decode (m_M_layCode).2.1 93 = .ok (.getfield 87, 3) := by decide +kernel
theorem d_M_layCode_96 : decode (m_M_layCode).2.1 96 = .ok (.aload_n 0, 1) := by decide +kernel
theorem d_M_layCode_97 : decode (m_M_layCode).2.1 97 = .ok (.getfield 90, 3) := by decide +kernel
theorem d_M_layCode_100 : decode (m_M_layCode).2.1 100 = .ok (.isub, 1) := by decide +kernel
theorem d_M_layCode_101 : decode (m_M_layCode).2.1 101 = .ok (.if_icmp .gt 73, 3) := by decide +kernel
theorem d_M_layCode_104 : decode (m_M_layCode).2.1 104 = .ok (.iload 4, 2) := by decide +kernel
theorem d_M_layCode_106 : decode (m_M_layCode).2.1 106 = .ok (.istore 5, 2) := by decide +kernel
theorem d_M_layCode_108 : decode (m_M_layCode).2.1 108 = .ok (.iload 5, 2) := by decide +kernel
theorem d_M_layCode_110 : decode (m_M_layCode).2.1 110 = .ok (.ifCond .lt 58, 3) := by decide +kernel
theorem d_M_layCode_113 : decode (m_M_layCode).2.1 113 = .ok (.aload_n 0, 1) := by decide +kernel
theorem d_M_layCode_114 : decode (m_M_layCode).2.1 114 = .ok (.getfield 16, 3) := by decide +kernel
theorem d_M_layCode_117 : decode (m_M_layCode).2.1 117 = .ok (.iload 5, 2) := by decide +kernel
theorem d_M_layCode_119 : decode (m_M_layCode).2.1 119 = .ok (.aload_n 0, 1) := by decide +kernel
theorem d_M_layCode_120 : decode (m_M_layCode).2.1 120 = .ok (.getfield 7, 3) := by decide +kernel
theorem d_M_layCode_123 : decode (m_M_layCode).2.1 123 = .ok (.bipush 32, 2) := by decide +kernel
theorem d_M_layCode_125 : decode (m_M_layCode).2.1 125 = .ok (.aload_n 0, 1) := by decide +kernel
theorem d_M_layCode_126 : decode (m_M_layCode).2.1 126 = .ok (.getfield 16, 3) := by decide +kernel
theorem d_M_layCode_129 : decode (m_M_layCode).2.1 129 = .ok (.iload 5, 2) := by decide +kernel
theorem d_M_layCode_131 : decode (m_M_layCode).2.1 131 = .ok (.iaload, 1) := by decide +kernel
theorem d_M_layCode_132 : decode (m_M_layCode).2.1 132 = .ok (.imul, 1) := by decide +kernel
theorem d_M_layCode_133 : decode (m_M_layCode).2.1 133 = .ok (.aload_n 0, 1) := by decide +kernel
theorem d_M_layCode_134 : decode (m_M_layCode).2.1 134 = .ok (.getfield 13, 3) := by decide +kernel
theorem d_M_layCode_137 : decode (m_M_layCode).2.1 137 = .ok (.iload 4, 2) := by decide +kernel
theorem d_M_layCode_139 : decode (m_M_layCode).2.1 139 = .ok (.iaload, 1) := by decide +kernel
theorem d_M_layCode_140 : decode (m_M_layCode).2.1 140 = .ok (.iadd, 1) := by decide +kernel
theorem d_M_layCode_141 : decode (m_M_layCode).2.1 141 = .ok (.iaload, 1) := by decide +kernel
theorem d_M_layCode_142 : decode (m_M_layCode).2.1 142 = .ok (.iload 5, 2) := by decide +kernel
theorem d_M_layCode_144 : decode (m_M_layCode).2.1 144 = .ok (.ifCond .le 15, 3) := by decide +kernel
theorem d_M_layCode_147 : decode (m_M_layCode).2.1 147 = .ok (.aload_n 0, 1) := by decide +kernel
theorem d_M_layCode_148 : decode (m_M_layCode).2.1 148 = .ok (.getfield 16, 3) := by decide +kernel
theorem d_M_layCode_151 : decode (m_M_layCode).2.1 151 = .ok (.iload 5, 2) := by decide +kernel
theorem d_M_layCode_153 : decode (m_M_layCode).2.1 153 = .ok (.iconst 1, 1) := by decide +kernel
theorem d_M_layCode_154 : decode (m_M_layCode).2.1 154 = .ok (.isub, 1) := by decide +kernel
theorem d_M_layCode_155 : decode (m_M_layCode).2.1 155 = .ok (.iaload, 1) := by decide +kernel
theorem d_M_layCode_156 : decode (m_M_layCode).2.1 156 = .ok (.goto 4, 3) := by decide +kernel
theorem d_M_layCode_159 : decode (m_M_layCode).2.1 159 = .ok (.iconst 0, 1) := by decide +kernel
theorem d_M_layCode_160 : decode (m_M_layCode).2.1 160 = .ok (.ixor, 1) := by decide +kernel
theorem d_M_layCode_161 : decode (m_M_layCode).2.1 161 = .ok (.iastore, 1) := by decide +kernel
theorem d_M_layCode_162 : decode (m_M_layCode).2.1 162 = .ok (.iinc 5 (-1), 3) := by decide +kernel
theorem d_M_layCode_165 : decode (m_M_layCode).2.1 165 = .ok (.goto (-57), 3) := by decide +kernel
theorem d_M_layCode_168 : decode (m_M_layCode).2.1 168 = .ok (.iinc 4 1, 3) := by decide +kernel
theorem d_M_layCode_171 : decode (m_M_layCode).2.1 171 = .ok (.goto (-81), 3) := by decide +kernel
theorem d_M_layCode_174 : decode (m_M_layCode).2.1 174 = .ok (.aload_n 0, 1) := by decide +kernel
theorem d_M_layCode_175 : decode (m_M_layCode).2.1 175 = .ok (.iconst (-1), 1) := by decide +kernel
theorem d_M_layCode_176 : decode (m_M_layCode).2.1 176 = .ok (.putfield 93, 3) := by decide +kernel
theorem d_M_layCode_179 : decode (m_M_layCode).2.1 179 = .ok (.aload_n 0, 1) := by decide +kernel
theorem d_M_layCode_180 : decode (m_M_layCode).2.1 180 = .ok (.iconst 0, 1) := by decide +kernel
theorem d_M_layCode_181 : decode (m_M_layCode).2.1 181 = .ok (.putfield 96, 3) := by decide +kernel
theorem d_M_layCode_184 : decode (m_M_layCode).2.1 184 = .ok (.return_, 1) := by decide +kernel
theorem d_M_code_0 : decode (m_M_code).2.1 0 = .ok (.iload_n 3, 1) := by decide +kernel
theorem d_M_code_1 : decode (m_M_code).2.1 1 = .ok (.iconst 2, 1) := by decide +kernel
theorem d_M_code_2 : decode (m_M_code).2.1 2 = .ok (.if_icmp .lt 37, 3) := by decide +kernel
theorem d_M_code_5 : decode (m_M_code).2.1 5 = .ok (.iload_n 3, 1) := by decide +kernel
theorem d_M_code_6 : decode (m_M_code).2.1 6 = .ok (.iload_n 2, 1) := by decide +kernel
theorem d_M_code_7 : decode (m_M_code).2.1 7 = .ok (.if_icmp .ge 32, 3) := by decide +kernel
theorem d_M_code_10 : decode (m_M_code).2.1 10 = .ok (.iload_n 2, 1) := by decide +kernel
theorem d_M_code_11 : decode (m_M_code).2.1 11 = .ok (.aload_n 0, 1) := by decide +kernel
theorem d_M_code_12 : decode (m_M_code).2.1 12 = .ok (.getfield 65, 3) := by decide +kernel
theorem d_M_code_15 : decode (m_M_code).2.1 15 = .ok (.if_icmp .ge 24, 3) := by decide +kernel
theorem d_M_code_18 : decode (m_M_code).2.1 18 = .ok (.iload_n 2, 1) := by decide +kernel
theorem d_M_code_19 : decode (m_M_code).2.1 19 = .ok (.bipush 20, 2) := by decide +kernel
theorem d_M_code_21 : decode (m_M_code).2.1 21 = .ok (.if_icmp .gt 18, 3) := by decide +kernel
theorem d_M_code_24 : decode (m_M_code).2.1 24 = .ok (.aload_n 0, 1) := by decide +kernel
theorem d_M_code_25 : decode (m_M_code).2.1 25 = .ok (.getfield 61, 3) := by decide +kernel
theorem d_M_code_28 : decode (m_M_code).2.1 28 = .ok (.iload_n 3, 1) := by decide +kernel
theorem d_M_code_29 : decode (m_M_code).2.1 29 = .ok (.imul, 1) := by decide +kernel
theorem d_M_code_30 : decode (m_M_code).2.1 30 = .ok (.bipush 12, 2) := by decide +kernel
theorem d_M_code_32 : decode (m_M_code).2.1 32 = .ok (.if_icmp .gt 7, 3) := by decide +kernel
theorem d_M_code_35 : decode (m_M_code).2.1 35 = .ok (.iconst 1, 1) := by decide +kernel
theorem d_M_code_36 : decode (m_M_code).2.1 36 = .ok (.goto 4, 3) := by decide +kernel
theorem d_M_code_39 : decode (m_M_code).2.1 39 = .ok (.iconst 0, 1) := by decide +kernel
theorem d_M_code_40 : decode (m_M_code).2.1 40 = .ok (.istore 4, 2) := by decide +kernel
theorem d_M_code_42 : decode (m_M_code).2.1 42 = .ok (.iload_n 1, 1) := by decide +kernel
theorem d_M_code_43 : decode (m_M_code).2.1 43 = .ok (.ifCond .lt 13, 3) := by decide +kernel
theorem d_M_code_46 : decode (m_M_code).2.1 46 = .ok (.iload_n 1, 1) := by decide +kernel
theorem d_M_code_47 : decode (m_M_code).2.1 47 = .ok (.iconst 1, 1) := by decide +kernel
theorem d_M_code_48 : decode (m_M_code).2.1 48 = .ok (.if_icmp .gt 8, 3) := by decide +kernel
theorem d_M_code_51 : decode (m_M_code).2.1 51 = .ok (.iload 4, 2) := by decide +kernel
theorem d_M_code_53 : decode (m_M_code).2.1 53 = .ok (.ifCond .ne 5, 3) := by decide +kernel
theorem d_M_code_56 : decode (m_M_code).2.1 56 = .ok (.iconst 0, 1) := by decide +kernel
theorem d_M_code_57 : decode (m_M_code).2.1 57 = .ok (.ireturn, 1) := by decide +kernel
theorem d_M_code_58 : decode (m_M_code).2.1 58 = .ok (.aload_n 0, 1) := by decide +kernel
theorem d_M_code_59 : decode (m_M_code).2.1 59 = .ok (.iload_n 1, 1) := by decide +kernel
theorem d_M_code_60 : decode (m_M_code).2.1 60 = .ok (.iload_n 2, 1) := by decide +kernel
theorem d_M_code_61 : decode (m_M_code).2.1 61 = .ok (.iload_n 3, 1) := by decide +kernel
theorem d_M_code_62 : decode (m_M_code).2.1 62 = .ok (.invokevirtual 57, 3) := by decide +kernel
theorem d_M_code_65 : decode (m_M_code).2.1 65 = .ok (.iconst 1, 1) := by decide +kernel
theorem d_M_code_66 : decode (m_M_code).2.1 66 = .ok (.ireturn, 1) := by decide +kernel
theorem d_M_tell_0 : decode (m_M_tell).2.1 0 = .ok (.iload_n 1, 1) := by decide +kernel
theorem d_M_tell_1 : decode (m_M_tell).2.1 1 = .ok (.ifCond .lt 19, 3) := by decide +kernel
theorem d_M_tell_4 : decode (m_M_tell).2.1 4 = .ok (.iload_n 1, 1) := by decide +kernel
theorem d_M_tell_5 : decode (m_M_tell).2.1 5 = .ok (.aload_n 0, 1) := by decide +kernel
theorem d_M_tell_6 : decode (m_M_tell).2.1 6 = .ok (.getfield 90, 3) := by decide +kernel
theorem d_M_tell_9 : decode (m_M_tell).2.1 9 = .ok (.if_icmp .ge 11, 3) := by decide +kernel
theorem d_M_tell_12 : decode (m_M_tell).2.1 12 = .ok (.aload_n 0, 1) := by decide +kernel
theorem d_M_tell_13 : decode (m_M_tell).2.1 13 = .ok (.iload_n 2, 1) := by decide +kernel
theorem d_M_tell_14 : decode (m_M_tell).2.1 14 = .ok (.invokevirtual 76, 3) := by decide +kernel
theorem d_M_tell_17 : decode (m_M_tell).2.1 17 = .ok (.ifCond .ne 5, 3) := by decide +kernel
theorem d_M_tell_20 : decode (m_M_tell).2.1 20 = .ok (.iconst 0, 1) := by decide +kernel
theorem d_M_tell_21 : decode (m_M_tell).2.1 21 = .ok (.ireturn, 1) := by decide +kernel
theorem d_M_tell_22 : decode (m_M_tell).2.1 22 = .ok (.aload_n 0, 1) := by decide +kernel
theorem d_M_tell_23 : decode (m_M_tell).2.1 23 = .ok (.getfield 19, 3) := by decide +kernel
theorem d_M_tell_26 : decode (m_M_tell).2.1 26 = .ok (.iload_n 1, 1) := by decide +kernel
theorem d_M_tell_27 : decode (m_M_tell).2.1 27 = .ok (.iload_n 2, 1) := by decide +kernel
theorem d_M_tell_28 : decode (m_M_tell).2.1 28 = .ok (.iastore, 1) := by decide +kernel
theorem d_M_tell_29 : decode (m_M_tell).2.1 29 = .ok (.iconst 1, 1) := by decide +kernel
theorem d_M_tell_30 : decode (m_M_tell).2.1 30 = .ok (.ireturn, 1) := by decide +kernel
theorem d_M_told_0 : decode (m_M_told).2.1 0 = .ok (.iload_n 1, 1) := by decide +kernel
theorem d_M_told_1 : decode (m_M_told).2.1 1 = .ok (.aload_n 0, 1) := by decide +kernel
theorem d_M_told_2 : decode (m_M_told).2.1 2 = .ok (.getfield 61, 3) := by decide +kernel
theorem d_M_told_5 : decode (m_M_told).2.1 5 = .ok (.iload_n 2, 1) := by decide +kernel
theorem d_M_told_6 : decode (m_M_told).2.1 6 = .ok (.imul, 1) := by decide +kernel
theorem d_M_told_7 : decode (m_M_told).2.1 7 = .ok (.ishr, 1) := by decide +kernel
theorem d_M_told_8 : decode (m_M_told).2.1 8 = .ok (.aload_n 0, 1) := by decide +kernel
theorem d_M_told_9 : decode (m_M_told).2.1 9 = .ok (.getfield 65, 3) := by decide +kernel
theorem d_M_told_12 : decode (m_M_told).2.1 12 = .ok (.iconst 1, 1) := by decide +kernel
theorem d_M_told_13 : decode (m_M_told).2.1 13 = .ok (.isub, 1) := by decide +kernel
theorem d_M_told_14 : decode (m_M_told).2.1 14 = .ok (.iand, 1) := by decide +kernel
theorem d_M_told_15 : decode (m_M_told).2.1 15 = .ok (.ireturn, 1) := by decide +kernel
theorem d_M_messages_0 : decode (m_M_messages).2.1 0 = .ok (.iconst 1, 1) := by decide +kernel
theorem d_M_messages_1 : decode (m_M_messages).2.1 1 = .ok (.aload_n 0, 1) := by decide +kernel
theorem d_M_messages_2 : decode (m_M_messages).2.1 2 = .ok (.getfield 61, 3) := by decide +kernel
theorem d_M_messages_5 : decode (m_M_messages).2.1 5 = .ok (.aload_n 0, 1) := by decide +kernel
theorem d_M_messages_6 : decode (m_M_messages).2.1 6 = .ok (.getfield 90, 3) := by decide +kernel
theorem d_M_messages_9 : decode (m_M_messages).2.1 9 = .ok (.imul, 1) := by decide +kernel
theorem d_M_messages_10 : decode (m_M_messages).2.1 10 = .ok (.ishl, 1) := by decide +kernel
theorem d_M_messages_11 : decode (m_M_messages).2.1 11 = .ok (.ireturn, 1) := by decide +kernel
theorem d_M_element_0 : decode (m_M_element).2.1 0 = .ok (.iconst 0, 1) := by decide +kernel
theorem d_M_element_1 : decode (m_M_element).2.1 1 = .ok (.istore_n 3, 1) := by decide +kernel
theorem d_M_element_2 : decode (m_M_element).2.1 2 = .ok (.aload_n 0, 1) := by decide +kernel
theorem d_M_element_3 : decode (m_M_element).2.1 3 = .ok (.getfield 84, 3) := by decide +kernel
theorem d_M_element_6 : decode (m_M_element).2.1 6 = .ok (.ifCond .ne 49, 3) := by decide +kernel
theorem d_M_element_9 : decode (m_M_element).2.1 9 = .ok (.aload_n 0, 1) := by decide +kernel
theorem d_M_element_10 : decode (m_M_element).2.1 10 = .ok (.getfield 90, 3) := by decide +kernel
theorem d_M_element_13 : decode (m_M_element).2.1 13 = .ok (.iconst 1, 1) := by decide +kernel
theorem d_M_element_14 : decode (m_M_element).2.1 14 = .ok (.isub, 1) := by decide +kernel
theorem d_M_element_15 : decode (m_M_element).2.1 15 = .ok (.istore 4, 2) := by decide +kernel
theorem d_M_element_17 : decode (m_M_element).2.1 17 = .ok (.iload 4, 2) := by decide +kernel
theorem d_M_element_19 : decode (m_M_element).2.1 19 = .ok (.ifCond .lt 34, 3) := by decide +kernel
theorem d_M_element_22 : decode (m_M_element).2.1 22 = .ok (.aload_n 0, 1) := by decide +kernel
theorem d_M_element_23 : decode (m_M_element).2.1 23 = .ok (.getfield 7, 3) := by decide +kernel
theorem d_M_element_26 : decode (m_M_element).2.1 26 = .ok (.bipush 32, 2) := by decide +kernel
theorem d_M_element_28 : decode (m_M_element).2.1 28 = .ok (.iload_n 3, 1) := by decide +kernel
theorem d_M_element_29 : decode (m_M_element).2.1 29 = .ok (.imul, 1) := by decide +kernel
theorem d_M_element_30 : decode (m_M_element).2.1 30 = .ok (.aload_n 0, 1) := by decide +kernel
theorem d_M_element_31 : decode (m_M_element).2.1 31 = .ok (.getfield 13, 3) := by decide +kernel
theorem d_M_element_34 : decode (m_M_element).2.1 34 = .ok (.iload_n 2, 1) := by decide +kernel
theorem d_M_element_35 : decode (m_M_element).2.1 35 = .ok (.iaload, 1) := by decide +kernel
theorem d_M_element_36 : decode (m_M_element).2.1 36 = .ok (.iadd, 1) := by decide +kernel
theorem d_M_element_37 : decode (m_M_element).2.1 37 = .ok (.iaload, 1) := by decide +kernel
theorem d_M_element_38 : decode (m_M_element).2.1 38 = .ok (.aload_n 0, 1) := by decide +kernel
theorem d_M_element_39 : decode (m_M_element).2.1 39 = .ok (.iload_n 1, 1) := by decide +kernel
theorem d_M_element_40 : decode (m_M_element).2.1 40 = .ok (.iload 4, 2) := by decide +kernel
theorem d_M_element_42 : decode (m_M_element).2.1 42 = .ok (.invokevirtual 99, 3) := by decide +kernel
theorem d_M_element_45 : decode (m_M_element).2.1 45 = .ok (.ixor, 1) := by decide +kernel
theorem d_M_element_46 : decode (m_M_element).2.1 46 = .ok (.istore_n 3, 1) := by decide +kernel
theorem d_M_element_47 : decode (m_M_element).2.1 47 = .ok (.iinc 4 (-1), 3) := by decide +kernel
theorem d_M_element_50 : decode (m_M_element).2.1 50 = .ok (.goto (-33), 3) := by decide +kernel
theorem d_M_element_53 : decode (m_M_element).2.1 53 = .ok (.iload_n 3, 1) := by decide +kernel
theorem d_M_element_54 : decode (m_M_element).2.1 54 = .ok (.ireturn, 1) := by decide +kernel
theorem d_M_element_55 : decode (m_M_element).2.1 55 = .ok (.iconst 0, 1) := by decide +kernel
theorem d_M_element_56 : decode (m_M_element).2.1 56 = .ok (.istore 4, 2) := by decide +kernel
theorem d_M_element_58 : decode (m_M_element).2.1 58 = .ok (.iload 4, 2) := by decide +kernel
theorem d_M_element_60 : decode (m_M_element).2.1 60 = .ok (.aload_n 0, 1) := by decide +kernel
theorem d_M_element_61 : decode (m_M_element).2.1 61 = .ok (.getfield 90, 3) := by decide +kernel
theorem d_M_element_64 : decode (m_M_element).2.1 64 = .ok (.if_icmp .ge 64, 3) := by decide +kernel
theorem d_M_element_67 : decode (m_M_element).2.1 67 = .ok (.iload_n 2, 1) := by decide +kernel
theorem d_M_element_68 : decode (m_M_element).2.1 68 = .ok (.iload 4, 2) := by decide +kernel
theorem d_M_element_70 : decode (m_M_element).2.1 70 = .ok (.isub, 1) := by decide +kernel
theorem d_M_element_71 : decode (m_M_element).2.1 71 = .ok (.ifCond .lt 49, 3) := by decide +kernel
theorem d_M_element_74 : decode (m_M_element).2.1 74 = .ok (.iload_n 2, 1) := by decide +kernel
theorem d_M_element_75 : decode (m_M_element).2.1 75 = .ok (.iload 4, 2) := by decide +kernel
theorem d_M_element_77 : decode (m_M_element).2.1 77 = .ok (.isub, 1) := by decide +kernel
theorem d_M_element_78 : decode (m_M_element).2.1 78 = .ok (.aload_n 0, 1) := by decide +kernel
theorem d_M_element_79 : decode (m_M_element).2.1 79 = .ok (.getfield 87, 3) := by decide +kernel
theorem d_M_element_82 : decode (m_M_element).2.1 82 = .ok (.aload_n 0, 1) := by decide +kernel
theorem d_M_element_83 : decode (m_M_element).2.1 83 = .ok (.getfield 90, 3) := by decide +kernel
theorem d_M_element_86 : decode (m_M_element).2.1 86 = .ok (.isub, 1) := by decide +kernel
theorem d_M_element_87 : decode (m_M_element).2.1 87 = .ok (.if_icmp .gt 33, 3) := by decide +kernel
theorem d_M_element_90 : decode (m_M_element).2.1 90 = .ok (.iload_n 3, 1) := by decide +kernel
theorem d_M_element_91 : decode (m_M_element).2.1 91 = .ok (.aload_n 0, 1) := by decide +kernel
theorem d_M_element_92 : decode (m_M_element).2.1 92 = .ok (.getfield 7, 3) := by decide +kernel
theorem d_M_element_95 : decode (m_M_element).2.1 95 = .ok (.bipush 32, 2) := by decide +kernel
theorem d_M_element_97 : decode (m_M_element).2.1 97 = .ok (.aload_n 0, 1) := by decide +kernel
theorem d_M_element_98 : decode (m_M_element).2.1 98 = .ok (.iload_n 1, 1) := by decide +kernel
theorem d_M_element_99 : decode (m_M_element).2.1 99 = .ok (.iload 4, 2) := by decide +kernel
theorem d_M_element_101 : decode (m_M_element).2.1 101 = .ok (.invokevirtual 99, 3) := by decide +kernel
theorem d_M_element_104 : decode (m_M_element).2.1 104 = .ok (.imul, 1) := by decide +kernel
theorem d_M_element_105 : decode (m_M_element).2.1 105 = .ok (.aload_n 0, 1) := by decide +kernel
theorem d_M_element_106 : decode (m_M_element).2.1 106 = .ok (.getfield 16, 3) := by decide +kernel
theorem d_M_element_109 : decode (m_M_element).2.1 109 = .ok (.iload_n 2, 1) := by decide +kernel
theorem d_M_element_110 : decode (m_M_element).2.1 110 = .ok (.iload 4, 2) := by decide +kernel
theorem d_M_element_112 : decode (m_M_element).2.1 112 = .ok (.isub, 1) := by decide +kernel
theorem d_M_element_113 : decode (m_M_element).2.1 113 = .ok (.iaload, 1) := by decide +kernel
theorem d_M_element_114 : decode (m_M_element).2.1 114 = .ok (.iadd, 1) := by decide +kernel
theorem d_M_element_115 : decode (m_M_element).2.1 115 = .ok (.iaload, 1) := by decide +kernel
theorem d_M_element_116 : decode (m_M_element).2.1 116 = .ok (.ixor, 1) := by decide +kernel
theorem d_M_element_117 : decode (m_M_element).2.1 117 = .ok (.goto 4, 3) := by decide +kernel
theorem d_M_element_120 : decode (m_M_element).2.1 120 = .ok (.iload_n 3, 1) := by decide +kernel
theorem d_M_element_121 : decode (m_M_element).2.1 121 = .ok (.istore_n 3, 1) := by decide +kernel
theorem d_M_element_122 : decode (m_M_element).2.1 122 = .ok (.iinc 4 1, 3) := by decide +kernel
theorem d_M_element_125 : decode (m_M_element).2.1 125 = .ok (.goto (-67), 3) := by decide +kernel
theorem d_M_element_128 : decode (m_M_element).2.1 128 = .ok (.iload_n 3, 1) := by decide +kernel
theorem d_M_element_129 : decode (m_M_element).2.1 129 = .ok (.ireturn, 1) := by decide +kernel
theorem d_M_makeRow_0 : decode (m_M_makeRow).2.1 0 = .ok (.iconst 0, 1) := by decide +kernel
theorem d_M_makeRow_1 : decode (m_M_makeRow).2.1 1 = .ok (.istore_n 2, 1) := by decide +kernel
theorem d_M_makeRow_2 : decode (m_M_makeRow).2.1 2 = .ok (.iload_n 2, 1) := by decide +kernel
theorem d_M_makeRow_3 : decode (m_M_makeRow).2.1 3 = .ok (.aload_n 0, 1) := by decide +kernel
theorem d_M_makeRow_4 : decode (m_M_makeRow).2.1 4 = .ok (.getfield 87, 3) := by decide +kernel
theorem d_M_makeRow_7 : decode (m_M_makeRow).2.1 7 = .ok (.if_icmp .ge 21, 3) := by decide +kernel
theorem d_M_makeRow_10 : decode (m_M_makeRow).2.1 10 = .ok (.aload_n 0, 1) := by decide +kernel
theorem d_M_makeRow_11 : decode (m_M_makeRow).2.1 11 = .ok (.getfield 29, 3) := by decide +kernel
theorem d_M_makeRow_14 : decode (m_M_makeRow).2.1 14 = .ok (.iload_n 2, 1) := by decide +kernel
theorem d_M_makeRow_15 : decode (m_M_makeRow).2.1 15 = .ok (.aload_n 0, 1) := by decide +kernel
theorem d_M_makeRow_16 : decode (m_M_makeRow).2.1 16 = .ok (.iload_n 1, 1) := by decide +kernel
theorem d_M_makeRow_17 : decode (m_M_makeRow).2.1 17 = .ok (.iload_n 2, 1) := by decide +kernel
theorem d_M_makeRow_18 : decode (m_M_makeRow).2.1 18 = .ok (.invokevirtual 102, 3) := by decide +kernel
theorem d_M_makeRow_21 : decode (m_M_makeRow).2.1 21 = .ok (.iastore, 1) := by decide +kernel
theorem d_M_makeRow_22 : decode (m_M_makeRow).2.1 22 = .ok (.iinc 2 1, 3) := by decide +kernel
theorem d_M_makeRow_25 : decode (m_M_makeRow).2.1 25 = .ok (.goto (-23), 3) := by decide +kernel
theorem d_M_makeRow_28 : decode (m_M_makeRow).2.1 28 = .ok (.return_, 1) := by decide +kernel
theorem d_M_chosen_0 : decode (m_M_chosen).2.1 0 = .ok (.iconst 0, 1) := by decide +kernel
theorem d_M_chosen_1 : decode (m_M_chosen).2.1 1 = .ok (.istore_n 2, 1) := by decide +kernel
theorem d_M_chosen_2 : decode (m_M_chosen).2.1 2 = .ok (.aload_n 0, 1) := by decide +kernel
theorem d_M_chosen_3 : decode (m_M_chosen).2.1 3 = .ok (.getfield 90, 3) := by decide +kernel
theorem d_M_chosen_6 : decode (m_M_chosen).2.1 6 = .ok (.iconst 1, 1) := by decide +kernel
theorem d_M_chosen_7 : decode (m_M_chosen).2.1 7 = .ok (.isub, 1) := by decide +kernel
theorem d_M_chosen_8 : decode (m_M_chosen).2.1 8 = .ok (.istore_n 3, 1) := by decide +kernel
theorem d_M_chosen_9 : decode (m_M_chosen).2.1 9 = .ok (.iload_n 3, 1) := by decide +kernel
theorem d_M_chosen_10 : decode (m_M_chosen).2.1 10 = .ok (.ifCond .lt 23, 3) := by decide +kernel
theorem d_M_chosen_13 : decode (m_M_chosen).2.1 13 = .ok (.iload_n 2, 1) := by decide +kernel
theorem d_M_chosen_14 : decode (m_M_chosen).2.1 14 = .ok (.aload_n 0, 1) := by decide +kernel
theorem d_M_chosen_15 : decode (m_M_chosen).2.1 15 = .ok (.getfield 61, 3) := by decide +kernel
theorem d_M_chosen_18 : decode (m_M_chosen).2.1 18 = .ok (.ishl, 1) := by decide +kernel
theorem d_M_chosen_19 : decode (m_M_chosen).2.1 19 = .ok (.aload_n 0, 1) := by decide +kernel
theorem d_M_chosen_20 : decode (m_M_chosen).2.1 20 = .ok (.getfield 19, 3) := by decide +kernel
theorem d_M_chosen_23 : decode (m_M_chosen).2.1 23 = .ok (.iload_n 3, 1) := by decide +kernel
theorem d_M_chosen_24 : decode (m_M_chosen).2.1 24 = .ok (.iaload, 1) := by decide +kernel
theorem d_M_chosen_25 : decode (m_M_chosen).2.1 25 = .ok (.ior, 1) := by decide +kernel
theorem d_M_chosen_26 : decode (m_M_chosen).2.1 26 = .ok (.istore_n 2, 1) := by decide +kernel
theorem d_M_chosen_27 : decode (m_M_chosen).2.1 27 = .ok (.iinc 3 (-1), 3) := by decide +kernel
theorem d_M_chosen_30 : decode (m_M_chosen).2.1 30 = .ok (.goto (-21), 3) := by decide +kernel
theorem d_M_chosen_33 : decode (m_M_chosen).2.1 33 = .ok (.iload_n 1, 1) := by decide +kernel
theorem d_M_chosen_34 : decode (m_M_chosen).2.1 34 = .ok (.ifCond .ne 5, 3) := by decide +kernel
theorem d_M_chosen_37 : decode (m_M_chosen).2.1 37 = .ok (.iload_n 2, 1) := by decide +kernel
theorem d_M_chosen_38 : decode (m_M_chosen).2.1 38 = .ok (.ireturn, 1) := by decide +kernel
theorem d_M_chosen_39 : decode (m_M_chosen).2.1 39 = .ok (.iconst 0, 1) := by decide +kernel
theorem d_M_chosen_40 : decode (m_M_chosen).2.1 40 = .ok (.istore_n 3, 1) := by decide +kernel
theorem d_M_chosen_41 : decode (m_M_chosen).2.1 41 = .ok (.iload_n 3, 1) := by decide +kernel
theorem d_M_chosen_42 : decode (m_M_chosen).2.1 42 = .ok (.aload_n 0, 1) := by decide +kernel
theorem d_M_chosen_43 : decode (m_M_chosen).2.1 43 = .ok (.invokevirtual 105, 3) := by decide +kernel
theorem d_M_chosen_46 : decode (m_M_chosen).2.1 46 = .ok (.if_icmp .ge 76, 3) := by decide +kernel
theorem d_M_chosen_49 : decode (m_M_chosen).2.1 49 = .ok (.iconst 1, 1) := by decide +kernel
theorem d_M_chosen_50 : decode (m_M_chosen).2.1 50 = .ok (.istore 4, 2) := by decide +kernel
theorem d_M_chosen_52 : decode (m_M_chosen).2.1 52 = .ok (.iconst 0, 1) := by decide +kernel
theorem d_M_chosen_53 : decode (m_M_chosen).2.1 53 = .ok (.istore 5, 2) := by decide +kernel
theorem d_M_chosen_55 : decode (m_M_chosen).2.1 55 = .ok (.iload 5, 2) := by decide +kernel
theorem d_M_chosen_57 : decode (m_M_chosen).2.1 57 = .ok (.aload_n 0, 1) := by decide +kernel
theorem d_M_chosen_58 : decode (m_M_chosen).2.1 58 = .ok (.getfield 90, 3) := by decide +kernel
theorem d_M_chosen_61 : decode (m_M_chosen).2.1 61 = .ok (.if_icmp .ge 48, 3) := by decide +kernel
theorem d_M_chosen_64 : decode (m_M_chosen).2.1 64 = .ok (.iload 4, 2) := by decide +kernel
theorem d_M_chosen_66 : decode (m_M_chosen).2.1 66 = .ok (.ifCond .eq 43, 3) := by decide +kernel
theorem d_M_chosen_69 : decode (m_M_chosen).2.1 69 = .ok (.aload_n 0, 1) := by decide +kernel
theorem d_M_chosen_70 : decode (m_M_chosen).2.1 70 = .ok (.iload_n 3, 1) := by decide +kernel
theorem d_M_chosen_71 : decode (m_M_chosen).2.1 71 = .ok (.aload_n 0, 1) := by decide +kernel
theorem d_M_chosen_72 : decode (m_M_chosen).2.1 72 = .ok (.getfield 87, 3) := by decide +kernel
theorem d_M_chosen_75 : decode (m_M_chosen).2.1 75 = .ok (.aload_n 0, 1) := by decide +kernel
theorem d_M_chosen_76 : decode (m_M_chosen).2.1 76 = .ok (.getfield 90, 3) := by decide +kernel
theorem d_M_chosen_79 : decode (m_M_chosen).2.1 79 = .ok (.isub, 1) := by decide +kernel
theorem d_M_chosen_80 : decode (m_M_chosen).2.1 80 = .ok (.iload 5, 2) := by decide +kernel
theorem d_M_chosen_82 : decode (m_M_chosen).2.1 82 = .ok (.iadd, 1) := by decide +kernel
theorem d_M_chosen_83 : decode (m_M_chosen).2.1 83 = .ok (.invokevirtual 102, 3) := by decide +kernel
theorem d_M_chosen_86 : decode (m_M_chosen).2.1 86 = .ok (.aload_n 0, 1) := by decide +kernel
theorem d_M_chosen_87 : decode (m_M_chosen).2.1 87 = .ok (.getfield 19, 3) := by decide +kernel
theorem d_M_chosen_90 : decode (m_M_chosen).2.1 90 = .ok (.iload 5, 2) := by decide +kernel
theorem d_M_chosen_92 : decode (m_M_chosen).2.1 92 = .ok (.iaload, 1) := by decide +kernel
theorem d_M_chosen_93 : decode (m_M_chosen).2.1 93 = .ok (.if_icmp .ne 7, 3) := by decide +kernel
theorem d_M_chosen_96 : decode (m_M_chosen).2.1 96 = .ok (.iconst 1, 1) := by decide +kernel
theorem d_M_chosen_97 : decode (m_M_chosen).2.1 97 = .ok (.goto 4, 3) := by decide +kernel
theorem d_M_chosen_100 : decode (m_M_chosen).2.1 100 = .ok (.iconst 0, 1) := by decide +kernel
theorem d_M_chosen_101 : decode (m_M_chosen).2.1 101 = .ok (.istore 4, 2) := by decide +kernel
theorem d_M_chosen_103 : decode (m_M_chosen).2.1 103 = .ok (.iinc 5 1, 3) := by decide +kernel
theorem d_M_chosen_106 : decode (m_M_chosen).2.1 106 = .ok (.goto (-51), 3) := by decide +kernel
theorem d_M_chosen_109 : decode (m_M_chosen).2.1 109 = .ok (.iload 4, 2) := by decide +kernel
theorem d_M_chosen_111 : decode (m_M_chosen).2.1 111 = .ok (.ifCond .eq 5, 3) := by decide +kernel
theorem d_M_chosen_114 : decode (m_M_chosen).2.1 114 = .ok (.iload_n 3, 1) := by decide +kernel
theorem d_M_chosen_115 : decode (m_M_chosen).2.1 115 = .ok (.ireturn, 1) := by decide +kernel
theorem d_M_chosen_116 : decode (m_M_chosen).2.1 116 = .ok (.iinc 3 1, 3) := by decide +kernel
theorem d_M_chosen_119 : decode (m_M_chosen).2.1 119 = .ok (.goto (-78), 3) := by decide +kernel
theorem d_M_chosen_122 : decode (m_M_chosen).2.1 122 = .ok (.iload_n 2, 1) := by decide +kernel
theorem d_M_chosen_123 : decode (m_M_chosen).2.1 123 = .ok (.ireturn, 1) := by decide +kernel
theorem d_M_encode_0 : decode (m_M_encode).2.1 0 = .ok (.aload_n 0, 1) := by decide +kernel
theorem d_M_encode_1 : decode (m_M_encode).2.1 1 = .ok (.aload_n 0, 1) := by decide +kernel
theorem d_M_encode_2 : decode (m_M_encode).2.1 2 = .ok (.iload_n 1, 1) := by decide +kernel
theorem d_M_encode_3 : decode (m_M_encode).2.1 3 = .ok (.invokevirtual 109, 3) := by decide +kernel
theorem d_M_encode_6 : decode (m_M_encode).2.1 6 = .ok (.invokevirtual 113, 3) := by decide +kernel
theorem d_M_encode_9 : decode (m_M_encode).2.1 9 = .ok (.iconst 0, 1) := by decide +kernel
theorem d_M_encode_10 : decode (m_M_encode).2.1 10 = .ok (.istore_n 2, 1) := by decide +kernel
theorem d_M_encode_11 : decode (m_M_encode).2.1 11 = .ok (.iconst 0, 1) := by decide +kernel
theorem d_M_encode_12 : decode (m_M_encode).2.1 12 = .ok (.istore_n 3, 1) := by decide +kernel
theorem d_M_encode_13 : decode (m_M_encode).2.1 13 = .ok (.iload_n 3, 1) := by decide +kernel
theorem d_M_encode_14 : decode (m_M_encode).2.1 14 = .ok (.aload_n 0, 1) := by decide +kernel
theorem d_M_encode_15 : decode (m_M_encode).2.1 15 = .ok (.getfield 87, 3) := by decide +kernel
theorem d_M_encode_18 : decode (m_M_encode).2.1 18 = .ok (.if_icmp .ge 45, 3) := by decide +kernel
theorem d_M_encode_21 : decode (m_M_encode).2.1 21 = .ok (.aload_n 0, 1) := by decide +kernel
theorem d_M_encode_22 : decode (m_M_encode).2.1 22 = .ok (.getfield 22, 3) := by decide +kernel
theorem d_M_encode_25 : decode (m_M_encode).2.1 25 = .ok (.iload_n 3, 1) := by decide +kernel
theorem d_M_encode_26 : decode (m_M_encode).2.1 26 = .ok (.aload_n 0, 1) := by decide +kernel
theorem d_M_encode_27 : decode (m_M_encode).2.1 27 = .ok (.getfield 29, 3) := by decide +kernel
theorem d_M_encode_30 : decode (m_M_encode).2.1 30 = .ok (.iload_n 3, 1) := by decide +kernel
theorem d_M_encode_31 : decode (m_M_encode).2.1 31 = .ok (.iaload, 1) := by decide +kernel
theorem d_M_encode_32 : decode (m_M_encode).2.1 32 = .ok (.iastore, 1) := by decide +kernel
theorem d_M_encode_33 : decode (m_M_encode).2.1 33 = .ok (.aload_n 0, 1) := by decide +kernel
theorem d_M_encode_34 : decode (m_M_encode).2.1 34 = .ok (.getfield 25, 3) := by decide +kernel
theorem d_M_encode_37 : decode (m_M_encode).2.1 37 = .ok (.iload_n 3, 1) := by decide +kernel
theorem d_M_encode_38 : decode (m_M_encode).2.1 38 = .ok (.iconst 0, 1) := by decide +kernel
theorem d_M_encode_39 : decode (m_M_encode).2.1 39 = .ok (.bastore, 1) := by decide +kernel
theorem d_M_encode_40 : decode (m_M_encode).2.1 40 = .ok (.aload_n 0, 1) := by decide +kernel
theorem d_M_encode_41 : decode (m_M_encode).2.1 41 = .ok (.getfield 29, 3) := by decide +kernel
theorem d_M_encode_44 : decode (m_M_encode).2.1 44 = .ok (.iload_n 3, 1) := by decide +kernel
theorem d_M_encode_45 : decode (m_M_encode).2.1 45 = .ok (.iaload, 1) := by decide +kernel
theorem d_M_encode_46 : decode (m_M_encode).2.1 46 = .ok (.ifCond .eq 9, 3) := by decide +kernel
theorem d_M_encode_49 : decode (m_M_encode).2.1 49 = .ok (.iload_n 2, 1) := by decide +kernel
theorem d_M_encode_50 : decode (m_M_encode).2.1 50 = .ok (.iconst 1, 1) := by decide +kernel
theorem d_M_encode_51 : decode (m_M_encode).2.1 51 = .ok (.iadd, 1) := by decide +kernel
theorem d_M_encode_52 : decode (m_M_encode).2.1 52 = .ok (.goto 4, 3) := by decide +kernel
theorem d_M_encode_55 : decode (m_M_encode).2.1 55 = .ok (.iload_n 2, 1) := by decide +kernel
theorem d_M_encode_56 : decode (m_M_encode).2.1 56 = .ok (.istore_n 2, 1) := by decide +kernel
theorem d_M_encode_57 : decode (m_M_encode).2.1 57 = .ok (.iinc 3 1, 3) := by decide +kernel
theorem d_M_encode_60 : decode (m_M_encode).2.1 60 = .ok (.goto (-47), 3) := by decide +kernel
theorem d_M_encode_63 : decode (m_M_encode).2.1 63 = .ok (.iload_n 2, 1) := by decide +kernel
theorem d_M_encode_64 : decode (m_M_encode).2.1 64 = .ok (.ireturn, 1) := by decide +kernel
theorem d_M_isPlace_0 : decode (m_M_isPlace).2.1 0 = .ok (.iload_n 1, 1) := by decide +kernel
theorem d_M_isPlace_1 : decode (m_M_isPlace).2.1 1 = .ok (.ifCond .lt 15, 3) := by decide +kernel
theorem d_M_isPlace_4 : decode (m_M_isPlace).2.1 4 = .ok (.iload_n 1, 1) := by decide +kernel
theorem d_M_isPlace_5 : decode (m_M_isPlace).2.1 5 = .ok (.aload_n 0, 1) := by decide +kernel
theorem d_M_isPlace_6 : decode (m_M_isPlace).2.1 6 = .ok (.getfield 87, 3) := by decide +kernel
theorem d_M_isPlace_9 : decode (m_M_isPlace).2.1 9 = .ok (.if_icmp .ge 7, 3) := by decide +kernel
theorem d_M_isPlace_12 : decode (m_M_isPlace).2.1 12 = .ok (.iconst 1, 1) := by decide +kernel
theorem d_M_isPlace_13 : decode (m_M_isPlace).2.1 13 = .ok (.goto 4, 3) := by decide +kernel
theorem d_M_isPlace_16 : decode (m_M_isPlace).2.1 16 = .ok (.iconst 0, 1) := by decide +kernel
theorem d_M_isPlace_17 : decode (m_M_isPlace).2.1 17 = .ok (.ireturn, 1) := by decide +kernel
theorem d_M_receive_0 : decode (m_M_receive).2.1 0 = .ok (.aload_n 0, 1) := by decide +kernel
theorem d_M_receive_1 : decode (m_M_receive).2.1 1 = .ok (.iload_n 1, 1) := by decide +kernel
theorem d_M_receive_2 : decode (m_M_receive).2.1 2 = .ok (.invokevirtual 117, 3) := by decide +kernel
theorem d_M_receive_5 : decode (m_M_receive).2.1 5 = .ok (.ifCond .eq 11, 3) := by decide +kernel
theorem d_M_receive_8 : decode (m_M_receive).2.1 8 = .ok (.aload_n 0, 1) := by decide +kernel
theorem d_M_receive_9 : decode (m_M_receive).2.1 9 = .ok (.iload_n 2, 1) := by decide +kernel
theorem d_M_receive_10 : decode (m_M_receive).2.1 10 = .ok (.invokevirtual 76, 3) := by decide +kernel
theorem d_M_receive_13 : decode (m_M_receive).2.1 13 = .ok (.ifCond .ne 5, 3) := by decide +kernel
theorem d_M_receive_16 : decode (m_M_receive).2.1 16 = .ok (.iconst 0, 1) := by decide +kernel
theorem d_M_receive_17 : decode (m_M_receive).2.1 17 = .ok (.ireturn, 1) := by decide +kernel
theorem d_M_receive_18 : decode (m_M_receive).2.1 18 = .ok (.aload_n 0, 1) := by decide +kernel
theorem d_M_receive_19 : decode (m_M_receive).2.1 19 = .ok (.getfield 22, 3) := by decide +kernel
theorem d_M_receive_22 : decode (m_M_receive).2.1 22 = .ok (.iload_n 1, 1) := by decide +kernel
theorem d_M_receive_23 : decode (m_M_receive).2.1 23 = .ok (.iload_n 2, 1) := by decide +kernel
theorem d_M_receive_24 : decode (m_M_receive).2.1 24 = .ok (.iastore, 1) := by decide +kernel
theorem d_M_receive_25 : decode (m_M_receive).2.1 25 = .ok (.aload_n 0, 1) := by decide +kernel
theorem d_M_receive_26 : decode (m_M_receive).2.1 26 = .ok (.getfield 25, 3) := by decide +kernel
theorem d_M_receive_29 : decode (m_M_receive).2.1 29 = .ok (.iload_n 1, 1) := by decide +kernel
theorem d_M_receive_30 : decode (m_M_receive).2.1 30 = .ok (.iconst 0, 1) := by decide +kernel
theorem d_M_receive_31 : decode (m_M_receive).2.1 31 = .ok (.bastore, 1) := by decide +kernel
theorem d_M_receive_32 : decode (m_M_receive).2.1 32 = .ok (.iconst 1, 1) := by decide +kernel
theorem d_M_receive_33 : decode (m_M_receive).2.1 33 = .ok (.ireturn, 1) := by decide +kernel
theorem d_M_erase_0 : decode (m_M_erase).2.1 0 = .ok (.aload_n 0, 1) := by decide +kernel
theorem d_M_erase_1 : decode (m_M_erase).2.1 1 = .ok (.iload_n 1, 1) := by decide +kernel
theorem d_M_erase_2 : decode (m_M_erase).2.1 2 = .ok (.invokevirtual 117, 3) := by decide +kernel
theorem d_M_erase_5 : decode (m_M_erase).2.1 5 = .ok (.ifCond .eq 12, 3) := by decide +kernel
theorem d_M_erase_8 : decode (m_M_erase).2.1 8 = .ok (.aload_n 0, 1) := by decide +kernel
theorem d_M_erase_9 : decode (m_M_erase).2.1 9 = .ok (.getfield 25, 3) := by decide +kernel
theorem d_M_erase_12 : decode (m_M_erase).2.1 12 = .ok (.iload_n 1, 1) := by decide +kernel
theorem d_M_erase_13 : decode (m_M_erase).2.1 13 = .ok (.baload, 1) := by decide +kernel
theorem d_M_erase_14 : decode (m_M_erase).2.1 14 = .ok (.ifCond .eq 5, 3) := by decide +kernel
theorem d_M_erase_17 : decode (m_M_erase).2.1 17 = .ok (.iconst 0, 1) := by decide +kernel
theorem d_M_erase_18 : decode (m_M_erase).2.1 18 = .ok (.ireturn, 1) := by decide +kernel
theorem d_M_erase_19 : decode (m_M_erase).2.1 19 = .ok (.aload_n 0, 1) := by decide +kernel
theorem d_M_erase_20 : decode (m_M_erase).2.1 20 = .ok (.getfield 25, 3) := by decide +kernel
theorem d_M_erase_23 : decode (m_M_erase).2.1 23 = .ok (.iload_n 1, 1) := by decide +kernel
theorem d_M_erase_24 : decode (m_M_erase).2.1 24 = .ok (.iconst 1, 1) := by decide +kernel
theorem d_M_erase_25 : decode (m_M_erase).2.1 25 = .ok (.bastore, 1) := by decide +kernel
theorem d_M_erase_26 : decode (m_M_erase).2.1 26 = .ok (.iconst 1, 1) := by decide +kernel
theorem d_M_erase_27 : decode (m_M_erase).2.1 27 = .ok (.ireturn, 1) := by decide +kernel
theorem d_M_word_0 : decode (m_M_word).2.1 0 = .ok (.aload_n 0, 1) := by decide +kernel
theorem d_M_word_1 : decode (m_M_word).2.1 1 = .ok (.iload_n 1, 1) := by decide +kernel
theorem d_M_word_2 : decode (m_M_word).2.1 2 = .ok (.invokevirtual 117, 3) := by decide +kernel
theorem d_M_word_5 : decode (m_M_word).2.1 5 = .ok (.ifCond .ne 7, 3) := by decide +kernel
theorem d_M_word_8 : decode (m_M_word).2.1 8 = .ok (.iconst (-1), 1) := by decide +kernel
theorem d_M_word_9 : decode (m_M_word).2.1 9 = .ok (.goto 23, 3) := by decide +kernel
theorem d_M_word_12 : decode (m_M_word).2.1 12 = .ok (.aload_n 0, 1) := by decide +kernel
theorem d_M_word_13 : decode (m_M_word).2.1 13 = .ok (.getfield 25, 3) := by decide +kernel
theorem d_M_word_16 : decode (m_M_word).2.1 16 = .ok (.iload_n 1, 1) := by decide +kernel
theorem d_M_word_17 : decode (m_M_word).2.1 17 = .ok (.baload, 1) := by decide +kernel
theorem d_M_word_18 : decode (m_M_word).2.1 18 = .ok (.ifCond .eq 8, 3) := by decide +kernel
theorem d_M_word_21 : decode (m_M_word).2.1 21 = .ok (.bipush (-2), 2) := by decide +kernel
theorem d_M_word_23 : decode (m_M_word).2.1 23 = .ok (.goto 9, 3) := by decide +kernel
theorem d_M_word_26 : decode (m_M_word).2.1 26 = .ok (.aload_n 0, 1) := by decide +kernel
theorem d_M_word_27 : decode (m_M_word).2.1 27 = .ok (.getfield 22, 3) := by decide +kernel
theorem d_M_word_30 : decode (m_M_word).2.1 30 = .ok (.iload_n 1, 1) := by decide +kernel
theorem d_M_word_31 : decode (m_M_word).2.1 31 = .ok (.iaload, 1) := by decide +kernel
theorem d_M_word_32 : decode (m_M_word).2.1 32 = .ok (.ireturn, 1) := by decide +kernel
theorem d_M_apart_0 : decode (m_M_apart).2.1 0 = .ok (.iconst 1, 1) := by decide +kernel
theorem d_M_apart_1 : decode (m_M_apart).2.1 1 = .ok (.istore_n 2, 1) := by decide +kernel
theorem d_M_apart_2 : decode (m_M_apart).2.1 2 = .ok (.iconst 0, 1) := by decide +kernel
theorem d_M_apart_3 : decode (m_M_apart).2.1 3 = .ok (.istore_n 3, 1) := by decide +kernel
theorem d_M_apart_4 : decode (m_M_apart).2.1 4 = .ok (.iload_n 3, 1) := by decide +kernel
theorem d_M_apart_5 : decode (m_M_apart).2.1 5 = .ok (.aload_n 0, 1) := by decide +kernel
theorem d_M_apart_6 : decode (m_M_apart).2.1 6 = .ok (.getfield 87, 3) := by decide +kernel
theorem d_M_apart_9 : decode (m_M_apart).2.1 9 = .ok (.if_icmp .ge 42, 3) := by decide +kernel
theorem d_M_apart_12 : decode (m_M_apart).2.1 12 = .ok (.iload_n 3, 1) := by decide +kernel
theorem d_M_apart_13 : decode (m_M_apart).2.1 13 = .ok (.iload_n 1, 1) := by decide +kernel
theorem d_M_apart_14 : decode (m_M_apart).2.1 14 = .ok (.if_icmp .ne 7, 3) := by decide +kernel
theorem d_M_apart_17 : decode (m_M_apart).2.1 17 = .ok (.iload_n 2, 1) := by decide +kernel
theorem d_M_apart_18 : decode (m_M_apart).2.1 18 = .ok (.goto 26, 3) := by decide +kernel
theorem d_M_apart_21 : decode (m_M_apart).2.1 21 = .ok (.aload_n 0, 1) := by decide +kernel
theorem d_M_apart_22 : decode (m_M_apart).2.1 22 = .ok (.getfield 7, 3) := by decide +kernel
theorem d_M_apart_25 : decode (m_M_apart).2.1 25 = .ok (.bipush 32, 2) := by decide +kernel
theorem d_M_apart_27 : decode (m_M_apart).2.1 27 = .ok (.iload_n 2, 1) := by decide +kernel
theorem d_M_apart_28 : decode (m_M_apart).2.1 28 = .ok (.imul, 1) := by decide +kernel
theorem d_M_apart_29 : decode (m_M_apart).2.1 29 = .ok (.aload_n 0, 1) := by decide +kernel
theorem d_M_apart_30 : decode (m_M_apart).2.1 30 = .ok (.getfield 13, 3) := by decide +kernel
theorem d_M_apart_33 : decode (m_M_apart).2.1 33 = .ok (.iload_n 1, 1) := by decide +kernel
theorem d_M_apart_34 : decode (m_M_apart).2.1 34 = .ok (.iaload, 1) := by decide +kernel
theorem d_M_apart_35 : decode (m_M_apart).2.1 35 = .ok (.aload_n 0, 1) := by decide +kernel
theorem d_M_apart_36 : decode (m_M_apart).2.1 36 = .ok (.getfield 13, 3) := by decide +kernel
theorem d_M_apart_39 : decode (m_M_apart).2.1 39 = .ok (.iload_n 3, 1) := by decide +kernel
theorem d_M_apart_40 : decode (m_M_apart).2.1 40 = .ok (.iaload, 1) := by decide +kernel
theorem d_M_apart_41 : decode (m_M_apart).2.1 41 = .ok (.ixor, 1) := by decide +kernel
theorem d_M_apart_42 : decode (m_M_apart).2.1 42 = .ok (.iadd, 1) := by decide +kernel
theorem d_M_apart_43 : decode (m_M_apart).2.1 43 = .ok (.iaload, 1) := by decide +kernel
theorem d_M_apart_44 : decode (m_M_apart).2.1 44 = .ok (.istore_n 2, 1) := by decide +kernel
theorem d_M_apart_45 : decode (m_M_apart).2.1 45 = .ok (.iinc 3 1, 3) := by decide +kernel
theorem d_M_apart_48 : decode (m_M_apart).2.1 48 = .ok (.goto (-44), 3) := by decide +kernel
theorem d_M_apart_51 : decode (m_M_apart).2.1 51 = .ok (.iload_n 2, 1) := by decide +kernel
theorem d_M_apart_52 : decode (m_M_apart).2.1 52 = .ok (.ireturn, 1) := by decide +kernel
theorem d_M_syndrome_0 : decode (m_M_syndrome).2.1 0 = .ok (.iload_n 1, 1) := by decide +kernel
theorem d_M_syndrome_1 : decode (m_M_syndrome).2.1 1 = .ok (.ifCond .lt 16, 3) := by decide +kernel
theorem d_M_syndrome_4 : decode (m_M_syndrome).2.1 4 = .ok (.iload_n 1, 1) := by decide +kernel
theorem d_M_syndrome_5 : decode (m_M_syndrome).2.1 5 = .ok (.aload_n 0, 1) := by decide +kernel
theorem d_M_syndrome_6 : decode (m_M_syndrome).2.1 6 = .ok (.getfield 87, 3) := by decide +kernel
theorem d_M_syndrome_9 : decode (m_M_syndrome).2.1 9 = .ok (.aload_n 0, 1) := by decide +kernel
theorem d_M_syndrome_10 : decode (m_M_syndrome).2.1 10 = .ok (.getfield 90, 3) := by decide +kernel
theorem d_M_syndrome_13 : decode (m_M_syndrome).2.1 13 = .ok (.isub, 1) := by decide +kernel
theorem d_M_syndrome_14 : decode (m_M_syndrome).2.1 14 = .ok (.if_icmp .lt 5, 3) := by decide +kernel
theorem d_M_syndrome_17 : decode (m_M_syndrome).2.1 17 = .ok (.iconst (-1), 1) := by decide +kernel
theorem d_M_syndrome_18 : decode (m_M_syndrome).2.1 18 = .ok (.ireturn, 1) := by decide +kernel
theorem d_M_syndrome_19 : decode (m_M_syndrome).2.1 19 = .ok (.iconst 0, 1) := by decide +kernel
theorem d_M_syndrome_20 : decode (m_M_syndrome).2.1 20 = .ok (.istore_n 2, 1) := by decide +kernel
theorem d_M_syndrome_21 : decode (m_M_syndrome).2.1 21 = .ok (.iconst 0, 1) := by decide +kernel
theorem d_M_syndrome_22 : decode (m_M_syndrome).2.1 22 = .ok (.istore_n 3, 1) := by decide +kernel
theorem d_M_syndrome_23 : decode (m_M_syndrome).2.1 23 = .ok (.iload_n 3, 1) := by decide +kernel
theorem d_M_syndrome_24 : decode (m_M_syndrome).2.1 24 = .ok (.aload_n 0, 1) := by decide +kernel
theorem d_M_syndrome_25 : decode (m_M_syndrome).2.1 25 = .ok (.getfield 87, 3) := by decide +kernel
theorem d_M_syndrome_28 : decode (m_M_syndrome).2.1 28 = .ok (.if_icmp .ge 94, 3) := by decide +kernel
theorem d_M_syndrome_31 : decode (m_M_syndrome).2.1 31 = .ok (.aload_n 0, 1) := by decide +kernel
theorem d_M_syndrome_32 : decode (m_M_syndrome).2.1 32 = .ok (.getfield 84, 3) := by decide +kernel
theorem d_M_syndrome_35 : decode (m_M_syndrome).2.1 35 = .ok (.ifCond .ne 16, 3) := by decide +kernel
theorem d_M_syndrome_38 : decode (m_M_syndrome).2.1 38 = .ok (.aload_n 0, 1) := by decide +kernel
theorem d_M_syndrome_39 : decode (m_M_syndrome).2.1 39 = .ok (.iconst 1, 1) := by decide +kernel
theorem d_M_syndrome_40 : decode (m_M_syndrome).2.1 40 = .ok (.aload_n 0, 1) := by decide +kernel
theorem d_M_syndrome_41 : decode (m_M_syndrome).2.1 41 = .ok (.iload_n 3, 1) := by decide +kernel
theorem d_M_syndrome_42 : decode (m_M_syndrome).2.1 42 = .ok (.invokevirtual 120, 3) := by decide +kernel
theorem d_M_syndrome_45 : decode (m_M_syndrome).2.1 45 = .ok (.invokevirtual 80, 3) := by decide +kernel
theorem d_M_syndrome_48 : decode (m_M_syndrome).2.1 48 = .ok (.goto 9, 3) := by decide +kernel
theorem d_M_syndrome_51 : decode (m_M_syndrome).2.1 51 = .ok (.aload_n 0, 1) := by decide +kernel
theorem d_M_syndrome_52 : decode (m_M_syndrome).2.1 52 = .ok (.getfield 13, 3) := by decide +kernel
theorem d_M_syndrome_55 : decode (m_M_syndrome).2.1 55 = .ok (.iload_n 3, 1) := by decide +kernel
theorem d_M_syndrome_56 : decode (m_M_syndrome).2.1 56 = .ok (.iaload, 1) := by decide +kernel
theorem d_M_syndrome_57 : decode (m_M_syndrome).2.1 57 = .ok (.istore 4, 2) := by decide +kernel
theorem d_M_syndrome_59 : decode (m_M_syndrome).2.1 59 = .ok (.aload_n 0, 1) := by decide +kernel
theorem d_M_syndrome_60 : decode (m_M_syndrome).2.1 60 = .ok (.getfield 7, 3) := by decide +kernel
theorem d_M_syndrome_63 : decode (m_M_syndrome).2.1 63 = .ok (.bipush 32, 2) := by decide +kernel
theorem d_M_syndrome_65 : decode (m_M_syndrome).2.1 65 = .ok (.iload 4, 2) := by decide +kernel
theorem d_M_syndrome_67 : decode (m_M_syndrome).2.1 67 = .ok (.imul, 1) := by decide +kernel
theorem d_M_syndrome_68 : decode (m_M_syndrome).2.1 68 = .ok (.aload_n 0, 1) := by decide +kernel
theorem d_M_syndrome_69 : decode (m_M_syndrome).2.1 69 = .ok (.getfield 22, 3) := by decide +kernel
theorem d_M_syndrome_72 : decode (m_M_syndrome).2.1 72 = .ok (.iload_n 3, 1) := by decide +kernel
theorem d_M_syndrome_73 : decode (m_M_syndrome).2.1 73 = .ok (.iaload, 1) := by decide +kernel
theorem d_M_syndrome_74 : decode (m_M_syndrome).2.1 74 = .ok (.iadd, 1) := by decide +kernel
theorem d_M_syndrome_75 : decode (m_M_syndrome).2.1 75 = .ok (.iaload, 1) := by decide +kernel
theorem d_M_syndrome_76 : decode (m_M_syndrome).2.1 76 = .ok (.istore 5, 2) := by decide +kernel
theorem d_M_syndrome_78 : decode (m_M_syndrome).2.1 78 = .ok (.aload_n 0, 1) := by decide +kernel
theorem d_M_syndrome_79 : decode (m_M_syndrome).2.1 79 = .ok (.getfield 25, 3) := by decide +kernel
theorem d_M_syndrome_82 : decode (m_M_syndrome).2.1 82 = .ok (.iload_n 3, 1) := by decide +kernel
theorem d_M_syndrome_83 : decode (m_M_syndrome).2.1 83 = .ok (.baload, 1) := by decide +kernel
theorem d_M_syndrome_84 : decode (m_M_syndrome).2.1 84 = .ok (.ifCond .eq 7, 3) := by decide +kernel
theorem d_M_syndrome_87 : decode (m_M_syndrome).2.1 87 = .ok (.iload_n 2, 1) := by decide +kernel
theorem d_M_syndrome_88 : decode (m_M_syndrome).2.1 88 = .ok (.goto 27, 3) := by decide +kernel
theorem d_M_syndrome_91 : decode (m_M_syndrome).2.1 91 = .ok (.iload_n 2, 1) := by decide +kernel
theorem d_M_syndrome_92 : decode (m_M_syndrome).2.1 92 = .ok (.aload_n 0, 1) := by decide +kernel
theorem d_M_syndrome_93 : decode (m_M_syndrome).2.1 93 = .ok (.getfield 7, 3) := by decide +kernel
theorem d_M_syndrome_96 : decode (m_M_syndrome).2.1 96 = .ok (.bipush 32, 2) := by decide +kernel
theorem d_M_syndrome_98 : decode (m_M_syndrome).2.1 98 = .ok (.iload 5, 2) := by decide +kernel
theorem d_M_syndrome_100 : decode (m_M_syndrome).2.1 100 = .ok (.imul, 1) := by decide +kernel
theorem d_M_syndrome_101 : decode (m_M_syndrome).2.1 101 = .ok (.aload_n 0, 1) := by decide +kernel
theorem d_M_syndrome_102 : decode (m_M_syndrome).2.1 102 = .ok (.aload_n 0, 1) := by decide +kernel
theorem d_M_syndrome_103 : decode (m_M_syndrome).2.1 103 = .ok (.getfield 13, 3) := by decide +kernel
theorem d_M_syndrome_106 : decode (m_M_syndrome).2.1 106 = .ok (.iload_n 3, 1) := by decide +kernel
theorem d_M_syndrome_107 : decode (m_M_syndrome).2.1 107 = .ok (.iaload, 1) := by decide +kernel
theorem d_M_syndrome_108 : decode (m_M_syndrome).2.1 108 = .ok (.iload_n 1, 1) := by decide +kernel
theorem d_M_syndrome_109 : decode (m_M_syndrome).2.1 109 = .ok (.invokevirtual 124, 3) := by decide +kernel
theorem d_M_syndrome_112 : decode (m_M_syndrome).2.1 112 = .ok (.iadd, 1) := by decide +kernel
theorem d_M_syndrome_113 : decode (m_M_syndrome).2.1 113 = .ok (.iaload, 1) := by decide +kernel
theorem d_M_syndrome_114 : decode (m_M_syndrome).2.1 114 = .ok (.ixor, 1) := by decide +kernel
theorem d_M_syndrome_115 : decode (m_M_syndrome).2.1 115 = .ok (.istore_n 2, 1) := by decide +kernel
theorem d_M_syndrome_116 : decode (m_M_syndrome).2.1 116 = .ok (.iinc 3 1, 3) := by decide +kernel
theorem d_M_syndrome_119 : decode (m_M_syndrome).2.1 119 = .ok (.goto (-96), 3) := by decide +kernel
theorem d_M_syndrome_122 : decode (m_M_syndrome).2.1 122 = .ok (.iload_n 2, 1) := by decide +kernel
theorem d_M_syndrome_123 : decode (m_M_syndrome).2.1 123 = .ok (.ireturn, 1) := by decide +kernel
theorem d_M_kept_0 : decode (m_M_kept).2.1 0 = .ok (.iconst 0, 1) := by decide +kernel
theorem d_M_kept_1 : decode (m_M_kept).2.1 1 = .ok (.istore_n 1, 1) := by decide +kernel
theorem d_M_kept_2 : decode (m_M_kept).2.1 2 = .ok (.iconst 0, 1) := by decide +kernel
theorem d_M_kept_3 : decode (m_M_kept).2.1 3 = .ok (.istore_n 2, 1) := by decide +kernel
theorem d_M_kept_4 : decode (m_M_kept).2.1 4 = .ok (.iload_n 2, 1) := by decide +kernel
theorem d_M_kept_5 : decode (m_M_kept).2.1 5 = .ok (.aload_n 0, 1) := by decide +kernel
theorem d_M_kept_6 : decode (m_M_kept).2.1 6 = .ok (.getfield 87, 3) := by decide +kernel
theorem d_M_kept_9 : decode (m_M_kept).2.1 9 = .ok (.if_icmp .ge 26, 3) := by decide +kernel
theorem d_M_kept_12 : decode (m_M_kept).2.1 12 = .ok (.aload_n 0, 1) := by decide +kernel
theorem d_M_kept_13 : decode (m_M_kept).2.1 13 = .ok (.getfield 25, 3) := by decide +kernel
theorem d_M_kept_16 : decode (m_M_kept).2.1 16 = .ok (.iload_n 2, 1) := by decide +kernel
theorem d_M_kept_17 : decode (m_M_kept).2.1 17 = .ok (.baload, 1) := by decide +kernel
theorem d_M_kept_18 : decode (m_M_kept).2.1 18 = .ok (.ifCond .eq 7, 3) := by decide +kernel
theorem d_M_kept_21 : decode (m_M_kept).2.1 21 = .ok (.iload_n 1, 1) := by decide +kernel
theorem d_M_kept_22 : decode (m_M_kept).2.1 22 = .ok (.goto 6, 3) := by decide +kernel
theorem d_M_kept_25 : decode (m_M_kept).2.1 25 = .ok (.iload_n 1, 1) := by decide +kernel
theorem d_M_kept_26 : decode (m_M_kept).2.1 26 = .ok (.iconst 1, 1) := by decide +kernel
theorem d_M_kept_27 : decode (m_M_kept).2.1 27 = .ok (.iadd, 1) := by decide +kernel
theorem d_M_kept_28 : decode (m_M_kept).2.1 28 = .ok (.istore_n 1, 1) := by decide +kernel
theorem d_M_kept_29 : decode (m_M_kept).2.1 29 = .ok (.iinc 2 1, 3) := by decide +kernel
theorem d_M_kept_32 : decode (m_M_kept).2.1 32 = .ok (.goto (-28), 3) := by decide +kernel
theorem d_M_kept_35 : decode (m_M_kept).2.1 35 = .ok (.iload_n 1, 1) := by decide +kernel
theorem d_M_kept_36 : decode (m_M_kept).2.1 36 = .ok (.ireturn, 1) := by decide +kernel
theorem d_M_distanceOf_0 : decode (m_M_distanceOf).2.1 0 = .ok (.iconst 0, 1) := by decide +kernel
theorem d_M_distanceOf_1 : decode (m_M_distanceOf).2.1 1 = .ok (.istore_n 3, 1) := by decide +kernel
theorem d_M_distanceOf_2 : decode (m_M_distanceOf).2.1 2 = .ok (.iconst 0, 1) := by decide +kernel
theorem d_M_distanceOf_3 : decode (m_M_distanceOf).2.1 3 = .ok (.istore 4, 2) := by decide +kernel
theorem d_M_distanceOf_5 : decode (m_M_distanceOf).2.1 5 = .ok (.iload 4, 2) := by decide +kernel
theorem d_M_distanceOf_7 : decode (m_M_distanceOf).2.1 7 = .ok (.aload_n 0, 1) := by decide +kernel
theorem d_M_distanceOf_8 : decode (m_M_distanceOf).2.1 8 = .ok (.getfield 87, 3) := by decide +kernel
theorem d_M_distanceOf_11 : decode (m_M_distanceOf).2.1 11 = .ok (.if_icmp .ge 49, 3) := by decide +kernel
theorem d_M_distanceOf_14 : decode (m_M_distanceOf).2.1 14 = .ok (.iload_n 3, 1) := by decide +kernel
theorem d_M_distanceOf_15 : decode (m_M_distanceOf).2.1 15 = .ok (.iload_n 2, 1) := by decide +kernel
theorem d_M_distanceOf_16 : decode (m_M_distanceOf).2.1 16 = .ok (.if_icmp .gt 44, 3) := by decide +kernel
theorem d_M_distanceOf_19 : decode (m_M_distanceOf).2.1 19 = .ok (.aload_n 0, 1) := by decide +kernel
theorem d_M_distanceOf_20 : decode (m_M_distanceOf).2.1 20 = .ok (.getfield 25, 3) := by decide +kernel
theorem d_M_distanceOf_23 : decode (m_M_distanceOf).2.1 23 = .ok (.iload 4, 2) := by decide +kernel
theorem d_M_distanceOf_25 : decode (m_M_distanceOf).2.1 25 = .ok (.baload, 1) := by decide +kernel
theorem d_M_distanceOf_26 : decode (m_M_distanceOf).2.1 26 = .ok (.ifCond .ne 26, 3) := by decide +kernel
theorem d_M_distanceOf_29 : decode (m_M_distanceOf).2.1 29 = .ok (.aload_n 0, 1) := by decide +kernel
theorem d_M_distanceOf_30 : decode (m_M_distanceOf).2.1 30 = .ok (.iload_n 1, 1) := by decide +kernel
theorem d_M_distanceOf_31 : decode (m_M_distanceOf).2.1 31 = .ok (.iload 4, 2) := by decide +kernel
theorem d_M_distanceOf_33 : decode (m_M_distanceOf).2.1 33 = .ok (.invokevirtual 102, 3) := by decide +kernel
theorem d_M_distanceOf_36 : decode (m_M_distanceOf).2.1 36 = .ok (.aload_n 0, 1) := by decide +kernel
theorem d_M_distanceOf_37 : decode (m_M_distanceOf).2.1 37 = .ok (.getfield 22, 3) := by decide +kernel
theorem d_M_distanceOf_40 : decode (m_M_distanceOf).2.1 40 = .ok (.iload 4, 2) := by decide +kernel
theorem d_M_distanceOf_42 : decode (m_M_distanceOf).2.1 42 = .ok (.iaload, 1) := by decide +kernel
theorem d_M_distanceOf_43 : decode (m_M_distanceOf).2.1 43 = .ok (.if_icmp .eq 9, 3) := by decide +kernel
theorem d_M_distanceOf_46 : decode (m_M_distanceOf).2.1 46 = .ok (.iload_n 3, 1) := by decide +kernel
theorem d_M_distanceOf_47 : decode (m_M_distanceOf).2.1 47 = .ok (.iconst 1, 1) := by decide +kernel
theorem d_M_distanceOf_48 : decode (m_M_distanceOf).2.1 48 = .ok (.iadd, 1) := by decide +kernel
theorem d_M_distanceOf_49 : decode (m_M_distanceOf).2.1 49 = .ok (.goto 4, 3) := by decide +kernel
theorem d_M_distanceOf_52 : decode (m_M_distanceOf).2.1 52 = .ok (.iload_n 3, 1) := by decide +kernel
theorem d_M_distanceOf_53 : decode (m_M_distanceOf).2.1 53 = .ok (.istore_n 3, 1) := by decide +kernel
theorem d_M_distanceOf_54 : decode (m_M_distanceOf).2.1 54 = .ok (.iinc 4 1, 3) := by decide +kernel
theorem d_M_distanceOf_57 : decode (m_M_distanceOf).2.1 57 = .ok (.goto (-52), 3) := by decide +kernel
theorem d_M_distanceOf_60 : decode (m_M_distanceOf).2.1 60 = .ok (.iload_n 3, 1) := by decide +kernel
theorem d_M_distanceOf_61 : decode (m_M_distanceOf).2.1 61 = .ok (.ireturn, 1) := by decide +kernel
theorem d_M_decode_0 : decode (m_M_decode).2.1 0 = .ok (.aload_n 0, 1) := by decide +kernel
theorem d_M_decode_1 : decode (m_M_decode).2.1 1 = .ok (.invokevirtual 127, 3) := by decide +kernel
theorem d_M_decode_4 : decode (m_M_decode).2.1 4 = .ok (.istore_n 2, 1) := by decide +kernel
theorem d_M_decode_5 : decode (m_M_decode).2.1 5 = .ok (.iload_n 2, 1) := by decide +kernel
theorem d_M_decode_6 : decode (m_M_decode).2.1 6 = .ok (.aload_n 0, 1) := by decide +kernel
theorem d_M_decode_7 : decode (m_M_decode).2.1 7 = .ok (.getfield 90, 3) := by decide +kernel
theorem d_M_decode_10 : decode (m_M_decode).2.1 10 = .ok (.if_icmp .ge 6, 3) := by decide +kernel
theorem d_M_decode_13 : decode (m_M_decode).2.1 13 = .ok (.bipush (-3), 2) := by decide +kernel
theorem d_M_decode_15 : decode (m_M_decode).2.1 15 = .ok (.ireturn, 1) := by decide +kernel
theorem d_M_decode_16 : decode (m_M_decode).2.1 16 = .ok (.iload_n 2, 1) := by decide +kernel
theorem d_M_decode_17 : decode (m_M_decode).2.1 17 = .ok (.aload_n 0, 1) := by decide +kernel
theorem d_M_decode_18 : decode (m_M_decode).2.1 18 = .ok (.getfield 90, 3) := by decide +kernel
theorem d_M_decode_21 : decode (m_M_decode).2.1 21 = .ok (.isub, 1) := by decide +kernel
theorem d_M_decode_22 : decode (m_M_decode).2.1 22 = .ok (.iconst 2, 1) := by decide +kernel
theorem d_M_decode_23 : decode (m_M_decode).2.1 23 = .ok (.idiv, 1) := by decide +kernel
theorem d_M_decode_24 : decode (m_M_decode).2.1 24 = .ok (.istore_n 3, 1) := by decide +kernel
theorem d_M_decode_25 : decode (m_M_decode).2.1 25 = .ok (.aload_n 0, 1) := by decide +kernel
theorem d_M_decode_26 : decode (m_M_decode).2.1 26 = .ok (.iconst (-1), 1) := by decide +kernel
theorem d_M_decode_27 : decode (m_M_decode).2.1 27 = .ok (.putfield 93, 3) := by decide +kernel
theorem d_M_decode_30 : decode (m_M_decode).2.1 30 = .ok (.iconst 0, 1) := by decide +kernel
theorem d_M_decode_31 : decode (m_M_decode).2.1 31 = .ok (.istore 4, 2) := by decide +kernel
theorem d_M_decode_33 : decode (m_M_decode).2.1 33 = .ok (.iload 4, 2) := by decide +kernel
theorem d_M_decode_35 : decode (m_M_decode).2.1 35 = .ok (.aload_n 0, 1) := by decide +kernel
theorem d_M_decode_36 : decode (m_M_decode).2.1 36 = .ok (.invokevirtual 105, 3) := by decide +kernel
theorem d_M_decode_39 : decode (m_M_decode).2.1 39 = .ok (.if_icmp .ge 37, 3) := by decide +kernel
theorem d_M_decode_42 : decode (m_M_decode).2.1 42 = .ok (.aload_n 0, 1) := by decide +kernel
theorem d_M_decode_43 : decode (m_M_decode).2.1 43 = .ok (.getfield 93, 3) := by decide +kernel
theorem d_M_decode_46 : decode (m_M_decode).2.1 46 = .ok (.ifCond .ge 30, 3) := by decide +kernel
theorem d_M_decode_49 : decode (m_M_decode).2.1 49 = .ok (.aload_n 0, 1) := by decide +kernel
theorem d_M_decode_50 : decode (m_M_decode).2.1 50 = .ok (.aload_n 0, 1) := by decide +kernel
theorem d_M_decode_51 : decode (m_M_decode).2.1 51 = .ok (.iload 4, 2) := by decide +kernel
theorem d_M_decode_53 : decode (m_M_decode).2.1 53 = .ok (.iload_n 3, 1) := by decide +kernel
theorem d_M_decode_54 : decode (m_M_decode).2.1 54 = .ok (.invokevirtual 130, 3) := by decide +kernel
theorem d_M_decode_57 : decode (m_M_decode).2.1 57 = .ok (.iload_n 3, 1) := by decide +kernel
theorem d_M_decode_58 : decode (m_M_decode).2.1 58 = .ok (.if_icmp .gt 8, 3) := by decide +kernel
theorem d_M_decode_61 : decode (m_M_decode).2.1 61 = .ok (.iload 4, 2) := by decide +kernel
theorem d_M_decode_63 : decode (m_M_decode).2.1 63 = .ok (.goto 4, 3) := by decide +kernel
theorem d_M_decode_66 : decode (m_M_decode).2.1 66 = .ok (.iconst (-1), 1) := by decide +kernel
theorem d_M_decode_67 : decode (m_M_decode).2.1 67 = .ok (.putfield 93, 3) := by decide +kernel
theorem d_M_decode_70 : decode (m_M_decode).2.1 70 = .ok (.iinc 4 1, 3) := by decide +kernel
theorem d_M_decode_73 : decode (m_M_decode).2.1 73 = .ok (.goto (-40), 3) := by decide +kernel
theorem d_M_decode_76 : decode (m_M_decode).2.1 76 = .ok (.aload_n 0, 1) := by decide +kernel
theorem d_M_decode_77 : decode (m_M_decode).2.1 77 = .ok (.getfield 93, 3) := by decide +kernel
theorem d_M_decode_80 : decode (m_M_decode).2.1 80 = .ok (.ifCond .ge 6, 3) := by decide +kernel
theorem d_M_decode_83 : decode (m_M_decode).2.1 83 = .ok (.bipush (-2), 2) := by decide +kernel
theorem d_M_decode_85 : decode (m_M_decode).2.1 85 = .ok (.ireturn, 1) := by decide +kernel
theorem d_M_decode_86 : decode (m_M_decode).2.1 86 = .ok (.iconst 0, 1) := by decide +kernel
theorem d_M_decode_87 : decode (m_M_decode).2.1 87 = .ok (.istore 4, 2) := by decide +kernel
theorem d_M_decode_89 : decode (m_M_decode).2.1 89 = .ok (.iconst 0, 1) := by decide +kernel
theorem d_M_decode_90 : decode (m_M_decode).2.1 90 = .ok (.istore 5, 2) := by decide +kernel
theorem d_M_decode_92 : decode (m_M_decode).2.1 92 = .ok (.iload 5, 2) := by decide +kernel
theorem d_M_decode_94 : decode (m_M_decode).2.1 94 = .ok (.aload_n 0, 1) := by decide +kernel
theorem d_M_decode_95 : decode (m_M_decode).2.1 95 = .ok (.getfield 87, 3) := by decide +kernel
theorem d_M_decode_98 : decode (m_M_decode).2.1 98 = .ok (.if_icmp .ge 72, 3) := by decide +kernel
theorem d_M_decode_101 : decode (m_M_decode).2.1 101 = .ok (.aload_n 0, 1) := by decide +kernel
theorem d_M_decode_102 : decode (m_M_decode).2.1 102 = .ok (.getfield 32, 3) := by decide +kernel
theorem d_M_decode_105 : decode (m_M_decode).2.1 105 = .ok (.iload 5, 2) := by decide +kernel
theorem d_M_decode_107 : decode (m_M_decode).2.1 107 = .ok (.aload_n 0, 1) := by decide +kernel
theorem d_M_decode_108 : decode (m_M_decode).2.1 108 = .ok (.getfield 25, 3) := by decide +kernel
theorem d_M_decode_111 : decode (m_M_decode).2.1 111 = .ok (.iload 5, 2) := by decide +kernel
theorem d_M_decode_113 : decode (m_M_decode).2.1 113 = .ok (.baload, 1) := by decide +kernel
theorem d_M_decode_114 : decode (m_M_decode).2.1 114 = .ok (.ifCond .ne 27, 3) := by decide +kernel
theorem d_M_decode_117 : decode (m_M_decode).2.1 117 = .ok (.aload_n 0, 1) := by decide +kernel
theorem d_M_decode_118 : decode (m_M_decode).2.1 118 = .ok (.aload_n 0, 1) := by decide +kernel
theorem d_M_decode_119 : decode (m_M_decode).2.1 119 = .ok (.getfield 93, 3) := by decide +kernel
theorem d_M_decode_122 : decode (m_M_decode).2.1 122 = .ok (.iload 5, 2) := by decide +kernel
theorem d_M_decode_124 : decode (m_M_decode).2.1 124 = .ok (.invokevirtual 102, 3) := by decide +kernel
theorem d_M_decode_127 : decode (m_M_decode).2.1 127 = .ok (.aload_n 0, 1) := by decide +kernel
theorem d_M_decode_128 : decode (m_M_decode).2.1 128 = .ok (.getfield 22, 3) := by decide +kernel
theorem d_M_decode_131 : decode (m_M_decode).2.1 131 = .ok (.iload 5, 2) := by decide +kernel
theorem d_M_decode_133 : decode (m_M_decode).2.1 133 = .ok (.iaload, 1) := by decide +kernel
theorem d_M_decode_134 : decode (m_M_decode).2.1 134 = .ok (.if_icmp .eq 7, 3) := by decide +kernel
theorem d_M_decode_137 : decode (m_M_decode).2.1 137 = .ok (.iconst 1, 1) := by decide +kernel
theorem d_M_decode_138 : decode (m_M_decode).2.1 138 = .ok (.goto 4, 3) := by decide +kernel
theorem d_M_decode_141 : decode (m_M_decode).2.1 141 = .ok (.iconst 0, 1) := by decide +kernel
theorem d_M_decode_142 : decode (m_M_decode).2.1 142 = .ok (.bastore, 1) := by decide +kernel
theorem d_M_decode_143 : decode (m_M_decode).2.1 143 = .ok (.aload_n 0, 1) := by decide +kernel
theorem d_M_decode_144 : decode (m_M_decode).2.1 144 = .ok (.getfield 32, 3) := by decide +kernel
theorem d_M_decode_147 : decode (m_M_decode).2.1 147 = .ok (.iload 5, 2) := by decide +kernel
theorem d_M_decode_149 : decode (m_M_decode).2.1 149 = .ok (.baload, 1) := by decide +kernel
theorem d_M_decode_150 : decode (m_M_decode).2.1 150 = .ok (.ifCond .eq 10, 3) := by decide +kernel
theorem d_M_decode_153 : decode (m_M_decode).2.1 153 = .ok (.iload 4, 2) := by decide +kernel
theorem d_M_decode_155 : decode (m_M_decode).2.1 155 = .ok (.iconst 1, 1) := by decide +kernel
theorem d_M_decode_156 : decode (m_M_decode).2.1 156 = .ok (.iadd, 1) := by decide +kernel
theorem d_M_decode_157 : decode (m_M_decode).2.1 157 = .ok (.goto 5, 3) := by decide +kernel
theorem d_M_decode_160 : decode (m_M_decode).2.1 160 = .ok (.iload 4, 2) := by decide +kernel
theorem d_M_decode_162 : decode (m_M_decode).2.1 162 = .ok (.istore 4, 2) := by decide +kernel
theorem d_M_decode_164 : decode (m_M_decode).2.1 164 = .ok (.iinc 5 1, 3) := by decide +kernel
theorem d_M_decode_167 : decode (m_M_decode).2.1 167 = .ok (.goto (-75), 3) := by decide +kernel
theorem d_M_decode_170 : decode (m_M_decode).2.1 170 = .ok (.iload 4, 2) := by decide +kernel
theorem d_M_decode_172 : decode (m_M_decode).2.1 172 = .ok (.ireturn, 1) := by decide +kernel
