theorem d_Su_init_0 : decode m_Su_init.2.1 0 = .ok (.aload_n 0, 1) := by decide +kernel
theorem d_Su_init_1 : decode m_Su_init.2.1 1 = .ok (.invokespecial 1, 3) := by decide +kernel
theorem d_Su_init_4 : decode m_Su_init.2.1 4 = .ok (.aload_n 0, 1) := by decide +kernel
theorem d_Su_init_5 : decode m_Su_init.2.1 5 = .ok (.sipush 500, 3) := by decide +kernel
theorem d_Su_init_8 : decode m_Su_init.2.1 8 = .ok (.newarray .int, 2) := by decide +kernel
theorem d_Su_init_10 : decode m_Su_init.2.1 10 = .ok (.putfield 9, 3) := by decide +kernel
theorem d_Su_init_13 : decode m_Su_init.2.1 13 = .ok (.aload_n 0, 1) := by decide +kernel
theorem d_Su_init_14 : decode m_Su_init.2.1 14 = .ok (.iconst 0, 1) := by decide +kernel
theorem d_Su_init_15 : decode m_Su_init.2.1 15 = .ok (.putfield 13, 3) := by decide +kernel
theorem d_Su_init_18 : decode m_Su_init.2.1 18 = .ok (.aload_n 0, 1) := by decide +kernel
theorem d_Su_init_19 : decode m_Su_init.2.1 19 = .ok (.new 17, 3) := by decide +kernel
theorem d_Su_init_22 : decode m_Su_init.2.1 22 = .ok (.dup, 1) := by decide +kernel
theorem d_Su_init_23 : decode m_Su_init.2.1 23 = .ok (.invokespecial 19, 3) := by decide +kernel
theorem d_Su_init_26 : decode m_Su_init.2.1 26 = .ok (.putfield 20, 3) := by decide +kernel
theorem d_Su_init_29 : decode m_Su_init.2.1 29 = .ok (.aload_n 0, 1) := by decide +kernel
theorem d_Su_init_30 : decode m_Su_init.2.1 30 = .ok (.new 24, 3) := by decide +kernel
theorem d_Su_init_33 : decode m_Su_init.2.1 33 = .ok (.dup, 1) := by decide +kernel
theorem d_Su_init_34 : decode m_Su_init.2.1 34 = .ok (.invokespecial 26, 3) := by decide +kernel
theorem d_Su_init_37 : decode m_Su_init.2.1 37 = .ok (.putfield 27, 3) := by decide +kernel
theorem d_Su_init_40 : decode m_Su_init.2.1 40 = .ok (.aload_n 0, 1) := by decide +kernel
theorem d_Su_init_41 : decode m_Su_init.2.1 41 = .ok (.new 24, 3) := by decide +kernel
theorem d_Su_init_44 : decode m_Su_init.2.1 44 = .ok (.dup, 1) := by decide +kernel
theorem d_Su_init_45 : decode m_Su_init.2.1 45 = .ok (.invokespecial 26, 3) := by decide +kernel
theorem d_Su_init_48 : decode m_Su_init.2.1 48 = .ok (.putfield 31, 3) := by decide +kernel
theorem d_Su_init_51 : decode m_Su_init.2.1 51 = .ok (.aload_n 0, 1) := by decide +kernel
theorem d_Su_init_52 : decode m_Su_init.2.1 52 = .ok (.new 24, 3) := by decide +kernel
theorem d_Su_init_55 : decode m_Su_init.2.1 55 = .ok (.dup, 1) := by decide +kernel
theorem d_Su_init_56 : decode m_Su_init.2.1 56 = .ok (.invokespecial 26, 3) := by decide +kernel
theorem d_Su_init_59 : decode m_Su_init.2.1 59 = .ok (.putfield 34, 3) := by decide +kernel
theorem d_Su_init_62 : decode m_Su_init.2.1 62 = .ok (.aload_n 0, 1) := by decide +kernel
theorem d_Su_init_63 : decode m_Su_init.2.1 63 = .ok (.new 24, 3) := by decide +kernel
theorem d_Su_init_66 : decode m_Su_init.2.1 66 = .ok (.dup, 1) := by decide +kernel
theorem d_Su_init_67 : decode m_Su_init.2.1 67 = .ok (.invokespecial 26, 3) := by decide +kernel
theorem d_Su_init_70 : decode m_Su_init.2.1 70 = .ok (.putfield 37, 3) := by decide +kernel
theorem d_Su_init_73 : decode m_Su_init.2.1 73 = .ok (.aload_n 0, 1) := by decide +kernel
theorem d_Su_init_74 : decode m_Su_init.2.1 74 = .ok (.new 40, 3) := by decide +kernel
theorem d_Su_init_77 : decode m_Su_init.2.1 77 = .ok (.dup, 1) := by decide +kernel
theorem d_Su_init_78 : decode m_Su_init.2.1 78 = .ok (.invokespecial 42, 3) := by decide +kernel
theorem d_Su_init_81 : decode m_Su_init.2.1 81 = .ok (.putfield 43, 3) := by decide +kernel
theorem d_Su_init_84 : decode m_Su_init.2.1 84 = .ok (.aload_n 0, 1) := by decide +kernel
theorem d_Su_init_85 : decode m_Su_init.2.1 85 = .ok (.iconst 0, 1) := by decide +kernel
theorem d_Su_init_86 : decode m_Su_init.2.1 86 = .ok (.putfield 47, 3) := by decide +kernel
theorem d_Su_init_89 : decode m_Su_init.2.1 89 = .ok (.aload_n 0, 1) := by decide +kernel
theorem d_Su_init_90 : decode m_Su_init.2.1 90 = .ok (.iconst 0, 1) := by decide +kernel
theorem d_Su_init_91 : decode m_Su_init.2.1 91 = .ok (.putfield 50, 3) := by decide +kernel
theorem d_Su_init_94 : decode m_Su_init.2.1 94 = .ok (.aload_n 0, 1) := by decide +kernel
theorem d_Su_init_95 : decode m_Su_init.2.1 95 = .ok (.new 40, 3) := by decide +kernel
theorem d_Su_init_98 : decode m_Su_init.2.1 98 = .ok (.dup, 1) := by decide +kernel
theorem d_Su_init_99 : decode m_Su_init.2.1 99 = .ok (.invokespecial 42, 3) := by decide +kernel
theorem d_Su_init_102 : decode m_Su_init.2.1 102 = .ok (.putfield 54, 3) := by decide +kernel
theorem d_Su_init_105 : decode m_Su_init.2.1 105 = .ok (.aload_n 0, 1) := by decide +kernel
theorem d_Su_init_106 : decode m_Su_init.2.1 106 = .ok (.new 57, 3) := by decide +kernel
theorem d_Su_init_109 : decode m_Su_init.2.1 109 = .ok (.dup, 1) := by decide +kernel
theorem d_Su_init_110 : decode m_Su_init.2.1 110 = .ok (.invokespecial 59, 3) := by decide +kernel
theorem d_Su_init_113 : decode m_Su_init.2.1 113 = .ok (.putfield 60, 3) := by decide +kernel
theorem d_Su_init_116 : decode m_Su_init.2.1 116 = .ok (.aload_n 0, 1) := by decide +kernel
theorem d_Su_init_117 : decode m_Su_init.2.1 117 = .ok (.iconst 4, 1) := by decide +kernel
theorem d_Su_init_118 : decode m_Su_init.2.1 118 = .ok (.newarray .long, 2) := by decide +kernel
theorem d_Su_init_120 : decode m_Su_init.2.1 120 = .ok (.putfield 64, 3) := by decide +kernel
theorem d_Su_init_123 : decode m_Su_init.2.1 123 = .ok (.aload_n 0, 1) := by decide +kernel
theorem d_Su_init_124 : decode m_Su_init.2.1 124 = .ok (.iconst 0, 1) := by decide +kernel
theorem d_Su_init_125 : decode m_Su_init.2.1 125 = .ok (.putfield 68, 3) := by decide +kernel
theorem d_Su_init_128 : decode m_Su_init.2.1 128 = .ok (.aload_n 0, 1) := by decide +kernel
theorem d_Su_init_129 : decode m_Su_init.2.1 129 = .ok (.iconst 0, 1) := by decide +kernel
theorem d_Su_init_130 : decode m_Su_init.2.1 130 = .ok (.putfield 71, 3) := by decide +kernel
theorem d_Su_init_133 : decode m_Su_init.2.1 133 = .ok (.return_, 1) := by decide +kernel
theorem d_Su_sign_0 : decode m_Su_sign.2.1 0 = .ok (.aload_n 0, 1) := by decide +kernel
theorem d_Su_sign_1 : decode m_Su_sign.2.1 1 = .ok (.getfield 13, 3) := by decide +kernel
theorem d_Su_sign_4 : decode m_Su_sign.2.1 4 = .ok (.sipush 500, 3) := by decide +kernel
theorem d_Su_sign_7 : decode m_Su_sign.2.1 7 = .ok (.if_icmp .ge 23, 3) := by decide +kernel
theorem d_Su_sign_10 : decode m_Su_sign.2.1 10 = .ok (.aload_n 0, 1) := by decide +kernel
theorem d_Su_sign_11 : decode m_Su_sign.2.1 11 = .ok (.getfield 9, 3) := by decide +kernel
theorem d_Su_sign_14 : decode m_Su_sign.2.1 14 = .ok (.aload_n 0, 1) := by decide +kernel
theorem d_Su_sign_15 : decode m_Su_sign.2.1 15 = .ok (.getfield 13, 3) := by decide +kernel
theorem d_Su_sign_18 : decode m_Su_sign.2.1 18 = .ok (.iload_n 1, 1) := by decide +kernel
theorem d_Su_sign_19 : decode m_Su_sign.2.1 19 = .ok (.iastore, 1) := by decide +kernel
theorem d_Su_sign_20 : decode m_Su_sign.2.1 20 = .ok (.aload_n 0, 1) := by decide +kernel
theorem d_Su_sign_21 : decode m_Su_sign.2.1 21 = .ok (.dup, 1) := by decide +kernel
theorem d_Su_sign_22 : decode m_Su_sign.2.1 22 = .ok (.getfield 13, 3) := by decide +kernel
theorem d_Su_sign_25 : decode m_Su_sign.2.1 25 = .ok (.iconst 1, 1) := by decide +kernel
theorem d_Su_sign_26 : decode m_Su_sign.2.1 26 = .ok (.iadd, 1) := by decide +kernel
theorem d_Su_sign_27 : decode m_Su_sign.2.1 27 = .ok (.putfield 13, 3) := by decide +kernel
theorem d_Su_sign_30 : decode m_Su_sign.2.1 30 = .ok (.return_, 1) := by decide +kernel
theorem d_Su_read_0 : decode m_Su_read.2.1 0 = .ok (.new 74, 3) := by decide +kernel
theorem d_Su_read_3 : decode m_Su_read.2.1 3 = .ok (.dup, 1) := by decide +kernel
theorem d_Su_read_4 : decode m_Su_read.2.1 4 = .ok (.aload_n 0, 1) := by decide +kernel
theorem d_Su_read_5 : decode m_Su_read.2.1 5 = .ok (.getfield 9, 3) := by decide +kernel
theorem d_Su_read_8 : decode m_Su_read.2.1 8 = .ok (.aload_n 0, 1) := by decide +kernel
theorem d_Su_read_9 : decode m_Su_read.2.1 9 = .ok (.getfield 13, 3) := by decide +kernel
theorem d_Su_read_12 : decode m_Su_read.2.1 12 = .ok (.invokespecial 76, 3) := by decide +kernel
theorem d_Su_read_15 : decode m_Su_read.2.1 15 = .ok (.astore_n 1, 1) := by decide +kernel
theorem d_Su_read_16 : decode m_Su_read.2.1 16 = .ok (.aload_n 0, 1) := by decide +kernel
theorem d_Su_read_17 : decode m_Su_read.2.1 17 = .ok (.iconst 0, 1) := by decide +kernel
theorem d_Su_read_18 : decode m_Su_read.2.1 18 = .ok (.putfield 13, 3) := by decide +kernel
theorem d_Su_read_21 : decode m_Su_read.2.1 21 = .ok (.aload_n 0, 1) := by decide +kernel
theorem d_Su_read_22 : decode m_Su_read.2.1 22 = .ok (.aload_n 1, 1) := by decide +kernel
theorem d_Su_read_23 : decode m_Su_read.2.1 23 = .ok (.invokevirtual 79, 3) := by decide +kernel
theorem d_Su_read_26 : decode m_Su_read.2.1 26 = .ok (.putfield 20, 3) := by decide +kernel
theorem d_Su_read_29 : decode m_Su_read.2.1 29 = .ok (.goto 11, 3) := by decide +kernel
theorem d_Su_read_32 : decode m_Su_read.2.1 32 = .ok (.astore_n 2, 1) := by decide +kernel
theorem d_Su_read_33 : decode m_Su_read.2.1 33 = .ok (.iconst (-1), 1) := by decide +kernel
theorem d_Su_read_34 : decode m_Su_read.2.1 34 = .ok (.aload_n 1, 1) := by decide +kernel
theorem d_Su_read_35 : decode m_Su_read.2.1 35 = .ok (.getfield 85, 3) := by decide +kernel
theorem d_Su_read_38 : decode m_Su_read.2.1 38 = .ok (.isub, 1) := by decide +kernel
theorem d_Su_read_39 : decode m_Su_read.2.1 39 = .ok (.ireturn, 1) := by decide +kernel
theorem d_Su_read_40 : decode m_Su_read.2.1 40 = .ok (.aload_n 0, 1) := by decide +kernel
theorem d_Su_read_41 : decode m_Su_read.2.1 41 = .ok (.getfield 20, 3) := by decide +kernel
theorem d_Su_read_44 : decode m_Su_read.2.1 44 = .ok (.getfield 88, 3) := by decide +kernel
theorem d_Su_read_47 : decode m_Su_read.2.1 47 = .ok (.ireturn, 1) := by decide +kernel
theorem d_Su_record_0 : decode m_Su_record.2.1 0 = .ok (.iload_n 1, 1) := by decide +kernel
theorem d_Su_record_1 : decode m_Su_record.2.1 1 = .ok (.invokestatic 91, 3) := by decide +kernel
theorem d_Su_record_4 : decode m_Su_record.2.1 4 = .ok (.ifCond .ne 5, 3) := by decide +kernel
theorem d_Su_record_7 : decode m_Su_record.2.1 7 = .ok (.iconst (-1), 1) := by decide +kernel
theorem d_Su_record_8 : decode m_Su_record.2.1 8 = .ok (.ireturn, 1) := by decide +kernel
theorem d_Su_record_9 : decode m_Su_record.2.1 9 = .ok (.aload_n 0, 1) := by decide +kernel
theorem d_Su_record_10 : decode m_Su_record.2.1 10 = .ok (.getfield 27, 3) := by decide +kernel
theorem d_Su_record_13 : decode m_Su_record.2.1 13 = .ok (.getfield 95, 3) := by decide +kernel
theorem d_Su_record_16 : decode m_Su_record.2.1 16 = .ok (.istore_n 2, 1) := by decide +kernel
theorem d_Su_record_17 : decode m_Su_record.2.1 17 = .ok (.aload_n 0, 1) := by decide +kernel
theorem d_Su_record_18 : decode m_Su_record.2.1 18 = .ok (.getfield 27, 3) := by decide +kernel
theorem d_Su_record_21 : decode m_Su_record.2.1 21 = .ok (.invokevirtual 96, 3) := by decide +kernel
theorem d_Su_record_24 : decode m_Su_record.2.1 24 = .ok (.astore_n 3, 1) := by decide +kernel
theorem d_Su_record_25 : decode m_Su_record.2.1 25 = .ok (.aload_n 3, 1) := by decide +kernel
theorem d_Su_record_26 : decode m_Su_record.2.1 26 = .ok (.ifnonnull 5, 3) := by decide +kernel
theorem d_Su_record_29 : decode m_Su_record.2.1 29 = .ok (.iconst (-1), 1) := by decide +kernel
theorem d_Su_record_30 : decode m_Su_record.2.1 30 = .ok (.ireturn, 1) := by decide +kernel
theorem d_Su_record_31 : decode m_Su_record.2.1 31 = .ok (.aload_n 3, 1) := by decide +kernel
theorem d_Su_record_32 : decode m_Su_record.2.1 32 = .ok (.iload_n 1, 1) := by decide +kernel
theorem d_Su_record_33 : decode m_Su_record.2.1 33 = .ok (.putfield 100, 3) := by decide +kernel
theorem d_Su_record_36 : decode m_Su_record.2.1 36 = .ok (.aload_n 3, 1) := by decide +kernel
theorem d_Su_record_37 : decode m_Su_record.2.1 37 = .ok (.iload_n 2, 1) := by decide +kernel
theorem d_Su_record_38 : decode m_Su_record.2.1 38 = .ok (.putfield 103, 3) := by decide +kernel
theorem d_Su_record_41 : decode m_Su_record.2.1 41 = .ok (.iload_n 2, 1) := by decide +kernel
theorem d_Su_record_42 : decode m_Su_record.2.1 42 = .ok (.ireturn, 1) := by decide +kernel
theorem d_Su_octet_0 : decode m_Su_octet.2.1 0 = .ok (.aload_n 0, 1) := by decide +kernel
theorem d_Su_octet_1 : decode m_Su_octet.2.1 1 = .ok (.getfield 27, 3) := by decide +kernel
theorem d_Su_octet_4 : decode m_Su_octet.2.1 4 = .ok (.iload_n 1, 1) := by decide +kernel
theorem d_Su_octet_5 : decode m_Su_octet.2.1 5 = .ok (.invokevirtual 106, 3) := by decide +kernel
theorem d_Su_octet_8 : decode m_Su_octet.2.1 8 = .ok (.astore 4, 2) := by decide +kernel
theorem d_Su_octet_10 : decode m_Su_octet.2.1 10 = .ok (.aload 4, 2) := by decide +kernel
theorem d_Su_octet_12 : decode m_Su_octet.2.1 12 = .ok (.ifnull 13, 3) := by decide +kernel
theorem d_Su_octet_15 : decode m_Su_octet.2.1 15 = .ok (.iload_n 2, 1) := by decide +kernel
theorem d_Su_octet_16 : decode m_Su_octet.2.1 16 = .ok (.ifCond .lt 9, 3) := by decide +kernel
theorem d_Su_octet_19 : decode m_Su_octet.2.1 19 = .ok (.iload_n 2, 1) := by decide +kernel
theorem d_Su_octet_20 : decode m_Su_octet.2.1 20 = .ok (.bipush 100, 2) := by decide +kernel
theorem d_Su_octet_22 : decode m_Su_octet.2.1 22 = .ok (.if_icmp .lt 13, 3) := by decide +kernel
theorem d_Su_octet_25 : decode m_Su_octet.2.1 25 = .ok (.new 109, 3) := by decide +kernel
theorem d_Su_octet_28 : decode m_Su_octet.2.1 28 = .ok (.dup, 1) := by decide +kernel
theorem d_Su_octet_29 : decode m_Su_octet.2.1 29 = .ok (.ldc 111, 2) := by decide +kernel
theorem d_Su_octet_31 : decode m_Su_octet.2.1 31 = .ok (.invokespecial 113, 3) := by decide +kernel
theorem d_Su_octet_34 : decode m_Su_octet.2.1 34 = .ok (.athrow, 1) := by decide +kernel
theorem d_Su_octet_35 : decode m_Su_octet.2.1 35 = .ok (.aload 4, 2) := by decide +kernel
theorem d_Su_octet_37 : decode m_Su_octet.2.1 37 = .ok (.iload_n 2, 1) := by decide +kernel
theorem d_Su_octet_38 : decode m_Su_octet.2.1 38 = .ok (.iload_n 3, 1) := by decide +kernel
theorem d_Su_octet_39 : decode m_Su_octet.2.1 39 = .ok (.invokevirtual 116, 3) := by decide +kernel
theorem d_Su_octet_42 : decode m_Su_octet.2.1 42 = .ok (.return_, 1) := by decide +kernel
theorem d_Su_run_0 : decode m_Su_run.2.1 0 = .ok (.aload_n 0, 1) := by decide +kernel
theorem d_Su_run_1 : decode m_Su_run.2.1 1 = .ok (.getfield 31, 3) := by decide +kernel
theorem d_Su_run_4 : decode m_Su_run.2.1 4 = .ok (.invokevirtual 120, 3) := by decide +kernel
theorem d_Su_run_7 : decode m_Su_run.2.1 7 = .ok (.aload_n 0, 1) := by decide +kernel
theorem d_Su_run_8 : decode m_Su_run.2.1 8 = .ok (.getfield 34, 3) := by decide +kernel
theorem d_Su_run_11 : decode m_Su_run.2.1 11 = .ok (.invokevirtual 120, 3) := by decide +kernel
theorem d_Su_run_14 : decode m_Su_run.2.1 14 = .ok (.aload_n 0, 1) := by decide +kernel
theorem d_Su_run_15 : decode m_Su_run.2.1 15 = .ok (.getfield 54, 3) := by decide +kernel
theorem d_Su_run_18 : decode m_Su_run.2.1 18 = .ok (.invokevirtual 123, 3) := by decide +kernel
theorem d_Su_run_21 : decode m_Su_run.2.1 21 = .ok (.aload_n 0, 1) := by decide +kernel
theorem d_Su_run_22 : decode m_Su_run.2.1 22 = .ok (.iconst 0, 1) := by decide +kernel
theorem d_Su_run_23 : decode m_Su_run.2.1 23 = .ok (.putfield 68, 3) := by decide +kernel
theorem d_Su_run_26 : decode m_Su_run.2.1 26 = .ok (.aload_n 0, 1) := by decide +kernel
theorem d_Su_run_27 : decode m_Su_run.2.1 27 = .ok (.iconst 0, 1) := by decide +kernel
theorem d_Su_run_28 : decode m_Su_run.2.1 28 = .ok (.putfield 71, 3) := by decide +kernel
theorem d_Su_run_31 : decode m_Su_run.2.1 31 = .ok (.aload_n 0, 1) := by decide +kernel
theorem d_Su_run_32 : decode m_Su_run.2.1 32 = .ok (.invokevirtual 124, 3) := by decide +kernel
theorem d_Su_run_35 : decode m_Su_run.2.1 35 = .ok (.aload_n 0, 1) := by decide +kernel
theorem d_Su_run_36 : decode m_Su_run.2.1 36 = .ok (.invokevirtual 127, 3) := by decide +kernel
theorem d_Su_run_39 : decode m_Su_run.2.1 39 = .ok (.aload_n 0, 1) := by decide +kernel
theorem d_Su_run_40 : decode m_Su_run.2.1 40 = .ok (.getfield 31, 3) := by decide +kernel
theorem d_Su_run_43 : decode m_Su_run.2.1 43 = .ok (.getfield 95, 3) := by decide +kernel
theorem d_Su_run_46 : decode m_Su_run.2.1 46 = .ok (.ireturn, 1) := by decide +kernel
theorem d_Su_out_0 : decode m_Su_out.2.1 0 = .ok (.aload_n 0, 1) := by decide +kernel
theorem d_Su_out_1 : decode m_Su_out.2.1 1 = .ok (.iload_n 1, 1) := by decide +kernel
theorem d_Su_out_2 : decode m_Su_out.2.1 2 = .ok (.iload_n 2, 1) := by decide +kernel
theorem d_Su_out_3 : decode m_Su_out.2.1 3 = .ok (.invokevirtual 130, 3) := by decide +kernel
theorem d_Su_out_6 : decode m_Su_out.2.1 6 = .ok (.astore 4, 2) := by decide +kernel
theorem d_Su_out_8 : decode m_Su_out.2.1 8 = .ok (.aload 4, 2) := by decide +kernel
theorem d_Su_out_10 : decode m_Su_out.2.1 10 = .ok (.ifnull 16, 3) := by decide +kernel
theorem d_Su_out_13 : decode m_Su_out.2.1 13 = .ok (.iload_n 3, 1) := by decide +kernel
theorem d_Su_out_14 : decode m_Su_out.2.1 14 = .ok (.ifCond .lt 12, 3) := by decide +kernel
theorem d_Su_out_17 : decode m_Su_out.2.1 17 = .ok (.iload_n 3, 1) := by decide +kernel
theorem d_Su_out_18 : decode m_Su_out.2.1 18 = .ok (.aload 4, 2) := by decide +kernel
theorem d_Su_out_20 : decode m_Su_out.2.1 20 = .ok (.getfield 134, 3) := by decide +kernel
theorem d_Su_out_23 : decode m_Su_out.2.1 23 = .ok (.if_icmp .lt 5, 3) := by decide +kernel
theorem d_Su_out_26 : decode m_Su_out.2.1 26 = .ok (.iconst (-1), 1) := by decide +kernel
theorem d_Su_out_27 : decode m_Su_out.2.1 27 = .ok (.ireturn, 1) := by decide +kernel
theorem d_Su_out_28 : decode m_Su_out.2.1 28 = .ok (.aload 4, 2) := by decide +kernel
theorem d_Su_out_30 : decode m_Su_out.2.1 30 = .ok (.iload_n 3, 1) := by decide +kernel
theorem d_Su_out_31 : decode m_Su_out.2.1 31 = .ok (.invokevirtual 137, 3) := by decide +kernel
theorem d_Su_out_34 : decode m_Su_out.2.1 34 = .ok (.ireturn, 1) := by decide +kernel
theorem d_Su_sum_0 : decode m_Su_sum.2.1 0 = .ok (.aload_n 0, 1) := by decide +kernel
theorem d_Su_sum_1 : decode m_Su_sum.2.1 1 = .ok (.getfield 31, 3) := by decide +kernel
theorem d_Su_sum_4 : decode m_Su_sum.2.1 4 = .ok (.iload_n 1, 1) := by decide +kernel
theorem d_Su_sum_5 : decode m_Su_sum.2.1 5 = .ok (.invokevirtual 106, 3) := by decide +kernel
theorem d_Su_sum_8 : decode m_Su_sum.2.1 8 = .ok (.astore_n 3, 1) := by decide +kernel
theorem d_Su_sum_9 : decode m_Su_sum.2.1 9 = .ok (.aload_n 3, 1) := by decide +kernel
theorem d_Su_sum_10 : decode m_Su_sum.2.1 10 = .ok (.ifnonnull 5, 3) := by decide +kernel
theorem d_Su_sum_13 : decode m_Su_sum.2.1 13 = .ok (.iconst (-1), 1) := by decide +kernel
theorem d_Su_sum_14 : decode m_Su_sum.2.1 14 = .ok (.ireturn, 1) := by decide +kernel
theorem d_Su_sum_15 : decode m_Su_sum.2.1 15 = .ok (.iload_n 2, 1) := by decide +kernel
theorem d_Su_sum_16 : decode m_Su_sum.2.1 16 = .ok (.tableswitch 43 0 2 #[28, 33, 38], 28) := by decide +kernel
theorem d_Su_sum_44 : decode m_Su_sum.2.1 44 = .ok (.aload_n 3, 1) := by decide +kernel
theorem d_Su_sum_45 : decode m_Su_sum.2.1 45 = .ok (.getfield 141, 3) := by decide +kernel
theorem d_Su_sum_48 : decode m_Su_sum.2.1 48 = .ok (.ireturn, 1) := by decide +kernel
theorem d_Su_sum_49 : decode m_Su_sum.2.1 49 = .ok (.aload_n 3, 1) := by decide +kernel
theorem d_Su_sum_50 : decode m_Su_sum.2.1 50 = .ok (.getfield 134, 3) := by decide +kernel
theorem d_Su_sum_53 : decode m_Su_sum.2.1 53 = .ok (.ireturn, 1) := by decide +kernel
theorem d_Su_sum_54 : decode m_Su_sum.2.1 54 = .ok (.aload_n 3, 1) := by decide +kernel
theorem d_Su_sum_55 : decode m_Su_sum.2.1 55 = .ok (.getfield 103, 3) := by decide +kernel
theorem d_Su_sum_58 : decode m_Su_sum.2.1 58 = .ok (.ireturn, 1) := by decide +kernel
theorem d_Su_sum_59 : decode m_Su_sum.2.1 59 = .ok (.iconst (-1), 1) := by decide +kernel
theorem d_Su_sum_60 : decode m_Su_sum.2.1 60 = .ok (.ireturn, 1) := by decide +kernel
theorem d_Su_join_0 : decode m_Su_join.2.1 0 = .ok (.aload_n 0, 1) := by decide +kernel
theorem d_Su_join_1 : decode m_Su_join.2.1 1 = .ok (.getfield 20, 3) := by decide +kernel
theorem d_Su_join_4 : decode m_Su_join.2.1 4 = .ok (.getfield 144, 3) := by decide +kernel
theorem d_Su_join_7 : decode m_Su_join.2.1 7 = .ok (.invokevirtual 147, 3) := by decide +kernel
theorem d_Su_join_10 : decode m_Su_join.2.1 10 = .ok (.ifCond .ne 22, 3) := by decide +kernel
theorem d_Su_join_13 : decode m_Su_join.2.1 13 = .ok (.iload_n 1, 1) := by decide +kernel
theorem d_Su_join_14 : decode m_Su_join.2.1 14 = .ok (.invokestatic 91, 3) := by decide +kernel
theorem d_Su_join_17 : decode m_Su_join.2.1 17 = .ok (.ifCond .eq 15, 3) := by decide +kernel
theorem d_Su_join_20 : decode m_Su_join.2.1 20 = .ok (.iload_n 2, 1) := by decide +kernel
theorem d_Su_join_21 : decode m_Su_join.2.1 21 = .ok (.invokestatic 91, 3) := by decide +kernel
theorem d_Su_join_24 : decode m_Su_join.2.1 24 = .ok (.ifCond .eq 8, 3) := by decide +kernel
theorem d_Su_join_27 : decode m_Su_join.2.1 27 = .ok (.iload_n 1, 1) := by decide +kernel
theorem d_Su_join_28 : decode m_Su_join.2.1 28 = .ok (.iload_n 2, 1) := by decide +kernel
theorem d_Su_join_29 : decode m_Su_join.2.1 29 = .ok (.if_icmp .ne 5, 3) := by decide +kernel
theorem d_Su_join_32 : decode m_Su_join.2.1 32 = .ok (.iconst (-1), 1) := by decide +kernel
theorem d_Su_join_33 : decode m_Su_join.2.1 33 = .ok (.ireturn, 1) := by decide +kernel
theorem d_Su_join_34 : decode m_Su_join.2.1 34 = .ok (.aload_n 0, 1) := by decide +kernel
theorem d_Su_join_35 : decode m_Su_join.2.1 35 = .ok (.getfield 37, 3) := by decide +kernel
theorem d_Su_join_38 : decode m_Su_join.2.1 38 = .ok (.invokevirtual 120, 3) := by decide +kernel
theorem d_Su_join_41 : decode m_Su_join.2.1 41 = .ok (.aload_n 0, 1) := by decide +kernel
theorem d_Su_join_42 : decode m_Su_join.2.1 42 = .ok (.getfield 43, 3) := by decide +kernel
theorem d_Su_join_45 : decode m_Su_join.2.1 45 = .ok (.invokevirtual 123, 3) := by decide +kernel
theorem d_Su_join_48 : decode m_Su_join.2.1 48 = .ok (.aload_n 0, 1) := by decide +kernel
theorem d_Su_join_49 : decode m_Su_join.2.1 49 = .ok (.iload_n 1, 1) := by decide +kernel
theorem d_Su_join_50 : decode m_Su_join.2.1 50 = .ok (.invokevirtual 151, 3) := by decide +kernel
theorem d_Su_join_53 : decode m_Su_join.2.1 53 = .ok (.istore_n 3, 1) := by decide +kernel
theorem d_Su_join_54 : decode m_Su_join.2.1 54 = .ok (.iconst 0, 1) := by decide +kernel
theorem d_Su_join_55 : decode m_Su_join.2.1 55 = .ok (.istore 4, 2) := by decide +kernel
theorem d_Su_join_57 : decode m_Su_join.2.1 57 = .ok (.iload 4, 2) := by decide +kernel
theorem d_Su_join_59 : decode m_Su_join.2.1 59 = .ok (.aload_n 0, 1) := by decide +kernel
theorem d_Su_join_60 : decode m_Su_join.2.1 60 = .ok (.getfield 27, 3) := by decide +kernel
theorem d_Su_join_63 : decode m_Su_join.2.1 63 = .ok (.getfield 95, 3) := by decide +kernel
theorem d_Su_join_66 : decode m_Su_join.2.1 66 = .ok (.if_icmp .ge 55, 3) := by decide +kernel
theorem d_Su_join_69 : decode m_Su_join.2.1 69 = .ok (.aload_n 0, 1) := by decide +kernel
theorem d_Su_join_70 : decode m_Su_join.2.1 70 = .ok (.getfield 27, 3) := by decide +kernel
theorem d_Su_join_73 : decode m_Su_join.2.1 73 = .ok (.iload 4, 2) := by decide +kernel
theorem d_Su_join_75 : decode m_Su_join.2.1 75 = .ok (.invokevirtual 106, 3) := by decide +kernel
theorem d_Su_join_78 : decode m_Su_join.2.1 78 = .ok (.astore 5, 2) := by decide +kernel
theorem d_Su_join_80 : decode m_Su_join.2.1 80 = .ok (.aload 5, 2) := by decide +kernel
theorem d_Su_join_82 : decode m_Su_join.2.1 82 = .ok (.ifnull 33, 3) := by decide +kernel
theorem d_Su_join_85 : decode m_Su_join.2.1 85 = .ok (.aload 5, 2) := by decide +kernel
theorem d_Su_join_87 : decode m_Su_join.2.1 87 = .ok (.getfield 100, 3) := by decide +kernel
theorem d_Su_join_90 : decode m_Su_join.2.1 90 = .ok (.iload_n 1, 1) := by decide +kernel
theorem d_Su_join_91 : decode m_Su_join.2.1 91 = .ok (.if_icmp .ne 24, 3) := by decide +kernel
theorem d_Su_join_94 : decode m_Su_join.2.1 94 = .ok (.aload_n 0, 1) := by decide +kernel
theorem d_Su_join_95 : decode m_Su_join.2.1 95 = .ok (.aload 5, 2) := by decide +kernel
theorem d_Su_join_97 : decode m_Su_join.2.1 97 = .ok (.iload_n 2, 1) := by decide +kernel
theorem d_Su_join_98 : decode m_Su_join.2.1 98 = .ok (.iload_n 3, 1) := by decide +kernel
theorem d_Su_join_99 : decode m_Su_join.2.1 99 = .ok (.invokevirtual 154, 3) := by decide +kernel
theorem d_Su_join_102 : decode m_Su_join.2.1 102 = .ok (.ifCond .ne 13, 3) := by decide +kernel
theorem d_Su_join_105 : decode m_Su_join.2.1 105 = .ok (.aload_n 0, 1) := by decide +kernel
theorem d_Su_join_106 : decode m_Su_join.2.1 106 = .ok (.getfield 43, 3) := by decide +kernel
theorem d_Su_join_109 : decode m_Su_join.2.1 109 = .ok (.aload 5, 2) := by decide +kernel
theorem d_Su_join_111 : decode m_Su_join.2.1 111 = .ok (.invokevirtual 158, 3) := by decide +kernel
theorem d_Su_join_114 : decode m_Su_join.2.1 114 = .ok (.pop, 1) := by decide +kernel
theorem d_Su_join_115 : decode m_Su_join.2.1 115 = .ok (.iinc 4 1, 3) := by decide +kernel
theorem d_Su_join_118 : decode m_Su_join.2.1 118 = .ok (.goto (-61), 3) := by decide +kernel
theorem d_Su_join_121 : decode m_Su_join.2.1 121 = .ok (.aload_n 0, 1) := by decide +kernel
theorem d_Su_join_122 : decode m_Su_join.2.1 122 = .ok (.getfield 37, 3) := by decide +kernel
theorem d_Su_join_125 : decode m_Su_join.2.1 125 = .ok (.getfield 95, 3) := by decide +kernel
theorem d_Su_join_128 : decode m_Su_join.2.1 128 = .ok (.ireturn, 1) := by decide +kernel
theorem d_Su_left_0 : decode m_Su_left.2.1 0 = .ok (.iload_n 1, 1) := by decide +kernel
theorem d_Su_left_1 : decode m_Su_left.2.1 1 = .ok (.ifCond .lt 31, 3) := by decide +kernel
theorem d_Su_left_4 : decode m_Su_left.2.1 4 = .ok (.iload_n 1, 1) := by decide +kernel
theorem d_Su_left_5 : decode m_Su_left.2.1 5 = .ok (.aload_n 0, 1) := by decide +kernel
theorem d_Su_left_6 : decode m_Su_left.2.1 6 = .ok (.getfield 43, 3) := by decide +kernel
theorem d_Su_left_9 : decode m_Su_left.2.1 9 = .ok (.invokevirtual 161, 3) := by decide +kernel
theorem d_Su_left_12 : decode m_Su_left.2.1 12 = .ok (.if_icmp .ge 20, 3) := by decide +kernel
theorem d_Su_left_15 : decode m_Su_left.2.1 15 = .ok (.aload_n 0, 1) := by decide +kernel
theorem d_Su_left_16 : decode m_Su_left.2.1 16 = .ok (.getfield 43, 3) := by decide +kernel
theorem d_Su_left_19 : decode m_Su_left.2.1 19 = .ok (.iload_n 1, 1) := by decide +kernel
theorem d_Su_left_20 : decode m_Su_left.2.1 20 = .ok (.invokevirtual 164, 3) := by decide +kernel
theorem d_Su_left_23 : decode m_Su_left.2.1 23 = .ok (.checkcast 57, 3) := by decide +kernel
theorem d_Su_left_26 : decode m_Su_left.2.1 26 = .ok (.getfield 103, 3) := by decide +kernel
theorem d_Su_left_29 : decode m_Su_left.2.1 29 = .ok (.goto 4, 3) := by decide +kernel
theorem d_Su_left_32 : decode m_Su_left.2.1 32 = .ok (.iconst (-1), 1) := by decide +kernel
theorem d_Su_left_33 : decode m_Su_left.2.1 33 = .ok (.ireturn, 1) := by decide +kernel
theorem d_Su_code_0 : decode m_Su_code.2.1 0 = .ok (.aload_n 0, 1) := by decide +kernel
theorem d_Su_code_1 : decode m_Su_code.2.1 1 = .ok (.getfield 71, 3) := by decide +kernel
theorem d_Su_code_4 : decode m_Su_code.2.1 4 = .ok (.ireturn, 1) := by decide +kernel
theorem d_Su_exit_0 : decode m_Su_exit.2.1 0 = .ok (.iload_n 1, 1) := by decide +kernel
theorem d_Su_exit_1 : decode m_Su_exit.2.1 1 = .ok (.ifCond .lt 8, 3) := by decide +kernel
theorem d_Su_exit_4 : decode m_Su_exit.2.1 4 = .ok (.iload_n 1, 1) := by decide +kernel
theorem d_Su_exit_5 : decode m_Su_exit.2.1 5 = .ok (.iconst 2, 1) := by decide +kernel
theorem d_Su_exit_6 : decode m_Su_exit.2.1 6 = .ok (.if_icmp .le 5, 3) := by decide +kernel
theorem d_Su_exit_9 : decode m_Su_exit.2.1 9 = .ok (.iconst (-1), 1) := by decide +kernel
theorem d_Su_exit_10 : decode m_Su_exit.2.1 10 = .ok (.ireturn, 1) := by decide +kernel
theorem d_Su_exit_11 : decode m_Su_exit.2.1 11 = .ok (.aload_n 0, 1) := by decide +kernel
theorem d_Su_exit_12 : decode m_Su_exit.2.1 12 = .ok (.getfield 47, 3) := by decide +kernel
theorem d_Su_exit_15 : decode m_Su_exit.2.1 15 = .ok (.istore_n 3, 1) := by decide +kernel
theorem d_Su_exit_16 : decode m_Su_exit.2.1 16 = .ok (.aload_n 0, 1) := by decide +kernel
theorem d_Su_exit_17 : decode m_Su_exit.2.1 17 = .ok (.iload_n 1, 1) := by decide +kernel
theorem d_Su_exit_18 : decode m_Su_exit.2.1 18 = .ok (.putfield 47, 3) := by decide +kernel
theorem d_Su_exit_21 : decode m_Su_exit.2.1 21 = .ok (.aload_n 0, 1) := by decide +kernel
theorem d_Su_exit_22 : decode m_Su_exit.2.1 22 = .ok (.iload_n 2, 1) := by decide +kernel
theorem d_Su_exit_23 : decode m_Su_exit.2.1 23 = .ok (.putfield 50, 3) := by decide +kernel
theorem d_Su_exit_26 : decode m_Su_exit.2.1 26 = .ok (.iload_n 3, 1) := by decide +kernel
theorem d_Su_exit_27 : decode m_Su_exit.2.1 27 = .ok (.ireturn, 1) := by decide +kernel
theorem d_Su_total_0 : decode m_Su_total.2.1 0 = .ok (.aload_n 0, 1) := by decide +kernel
theorem d_Su_total_1 : decode m_Su_total.2.1 1 = .ok (.iload_n 1, 1) := by decide +kernel
theorem d_Su_total_2 : decode m_Su_total.2.1 2 = .ok (.iload_n 2, 1) := by decide +kernel
theorem d_Su_total_3 : decode m_Su_total.2.1 3 = .ok (.invokevirtual 130, 3) := by decide +kernel
theorem d_Su_total_6 : decode m_Su_total.2.1 6 = .ok (.astore_n 3, 1) := by decide +kernel
theorem d_Su_total_7 : decode m_Su_total.2.1 7 = .ok (.aload_n 3, 1) := by decide +kernel
theorem d_Su_total_8 : decode m_Su_total.2.1 8 = .ok (.ifnonnull 5, 3) := by decide +kernel
theorem d_Su_total_11 : decode m_Su_total.2.1 11 = .ok (.iconst (-1), 1) := by decide +kernel
theorem d_Su_total_12 : decode m_Su_total.2.1 12 = .ok (.ireturn, 1) := by decide +kernel
theorem d_Su_total_13 : decode m_Su_total.2.1 13 = .ok (.iconst 0, 1) := by decide +kernel
theorem d_Su_total_14 : decode m_Su_total.2.1 14 = .ok (.istore 4, 2) := by decide +kernel
theorem d_Su_total_16 : decode m_Su_total.2.1 16 = .ok (.iconst 0, 1) := by decide +kernel
theorem d_Su_total_17 : decode m_Su_total.2.1 17 = .ok (.istore 5, 2) := by decide +kernel
theorem d_Su_total_19 : decode m_Su_total.2.1 19 = .ok (.iload 5, 2) := by decide +kernel
theorem d_Su_total_21 : decode m_Su_total.2.1 21 = .ok (.aload_n 3, 1) := by decide +kernel
theorem d_Su_total_22 : decode m_Su_total.2.1 22 = .ok (.getfield 134, 3) := by decide +kernel
theorem d_Su_total_25 : decode m_Su_total.2.1 25 = .ok (.if_icmp .ge 20, 3) := by decide +kernel
theorem d_Su_total_28 : decode m_Su_total.2.1 28 = .ok (.iload 4, 2) := by decide +kernel
theorem d_Su_total_30 : decode m_Su_total.2.1 30 = .ok (.aload_n 3, 1) := by decide +kernel
theorem d_Su_total_31 : decode m_Su_total.2.1 31 = .ok (.iload 5, 2) := by decide +kernel
theorem d_Su_total_33 : decode m_Su_total.2.1 33 = .ok (.invokevirtual 137, 3) := by decide +kernel
theorem d_Su_total_36 : decode m_Su_total.2.1 36 = .ok (.iadd, 1) := by decide +kernel
theorem d_Su_total_37 : decode m_Su_total.2.1 37 = .ok (.istore 4, 2) := by decide +kernel
theorem d_Su_total_39 : decode m_Su_total.2.1 39 = .ok (.iinc 5 1, 3) := by decide +kernel
theorem d_Su_total_42 : decode m_Su_total.2.1 42 = .ok (.goto (-23), 3) := by decide +kernel
theorem d_Su_total_45 : decode m_Su_total.2.1 45 = .ok (.iload 4, 2) := by decide +kernel
theorem d_Su_total_47 : decode m_Su_total.2.1 47 = .ok (.ireturn, 1) := by decide +kernel
theorem d_Su_plain_0 : decode m_Su_plain.2.1 0 = .ok (.aload_n 0, 1) := by decide +kernel
theorem d_Su_plain_1 : decode m_Su_plain.2.1 1 = .ok (.iload_n 1, 1) := by decide +kernel
theorem d_Su_plain_2 : decode m_Su_plain.2.1 2 = .ok (.invokevirtual 168, 3) := by decide +kernel
theorem d_Su_plain_5 : decode m_Su_plain.2.1 5 = .ok (.astore_n 2, 1) := by decide +kernel
theorem d_Su_plain_6 : decode m_Su_plain.2.1 6 = .ok (.aload_n 2, 1) := by decide +kernel
theorem d_Su_plain_7 : decode m_Su_plain.2.1 7 = .ok (.ifnonnull 5, 3) := by decide +kernel
theorem d_Su_plain_10 : decode m_Su_plain.2.1 10 = .ok (.iconst 1, 1) := by decide +kernel
theorem d_Su_plain_11 : decode m_Su_plain.2.1 11 = .ok (.ireturn, 1) := by decide +kernel
theorem d_Su_plain_12 : decode m_Su_plain.2.1 12 = .ok (.iconst 1, 1) := by decide +kernel
theorem d_Su_plain_13 : decode m_Su_plain.2.1 13 = .ok (.istore_n 3, 1) := by decide +kernel
theorem d_Su_plain_14 : decode m_Su_plain.2.1 14 = .ok (.iload_n 3, 1) := by decide +kernel
theorem d_Su_plain_15 : decode m_Su_plain.2.1 15 = .ok (.aload_n 2, 1) := by decide +kernel
theorem d_Su_plain_16 : decode m_Su_plain.2.1 16 = .ok (.getfield 95, 3) := by decide +kernel
theorem d_Su_plain_19 : decode m_Su_plain.2.1 19 = .ok (.if_icmp .ge 51, 3) := by decide +kernel
theorem d_Su_plain_22 : decode m_Su_plain.2.1 22 = .ok (.aload_n 2, 1) := by decide +kernel
theorem d_Su_plain_23 : decode m_Su_plain.2.1 23 = .ok (.iload_n 3, 1) := by decide +kernel
theorem d_Su_plain_24 : decode m_Su_plain.2.1 24 = .ok (.iconst 1, 1) := by decide +kernel
theorem d_Su_plain_25 : decode m_Su_plain.2.1 25 = .ok (.isub, 1) := by decide +kernel
theorem d_Su_plain_26 : decode m_Su_plain.2.1 26 = .ok (.invokevirtual 106, 3) := by decide +kernel
theorem d_Su_plain_29 : decode m_Su_plain.2.1 29 = .ok (.astore 4, 2) := by decide +kernel
theorem d_Su_plain_31 : decode m_Su_plain.2.1 31 = .ok (.aload_n 2, 1) := by decide +kernel
theorem d_Su_plain_32 : decode m_Su_plain.2.1 32 = .ok (.iload_n 3, 1) := by decide +kernel
theorem d_Su_plain_33 : decode m_Su_plain.2.1 33 = .ok (.invokevirtual 106, 3) := by decide +kernel
theorem d_Su_plain_36 : decode m_Su_plain.2.1 36 = .ok (.astore 5, 2) := by decide +kernel
theorem d_Su_plain_38 : decode m_Su_plain.2.1 38 = .ok (.aload 4, 2) := by decide +kernel
theorem d_Su_plain_40 : decode m_Su_plain.2.1 40 = .ok (.ifnull 24, 3) := by decide +kernel
theorem d_Su_plain_43 : decode m_Su_plain.2.1 43 = .ok (.aload 5, 2) := by decide +kernel
theorem d_Su_plain_45 : decode m_Su_plain.2.1 45 = .ok (.ifnull 19, 3) := by decide +kernel
theorem d_Su_plain_48 : decode m_Su_plain.2.1 48 = .ok (.aload_n 0, 1) := by decide +kernel
theorem d_Su_plain_49 : decode m_Su_plain.2.1 49 = .ok (.getfield 20, 3) := by decide +kernel
theorem d_Su_plain_52 : decode m_Su_plain.2.1 52 = .ok (.aload 4, 2) := by decide +kernel
theorem d_Su_plain_54 : decode m_Su_plain.2.1 54 = .ok (.aload 5, 2) := by decide +kernel
theorem d_Su_plain_56 : decode m_Su_plain.2.1 56 = .ok (.invokevirtual 172, 3) := by decide +kernel
theorem d_Su_plain_59 : decode m_Su_plain.2.1 59 = .ok (.ifCond .le 5, 3) := by decide +kernel
theorem d_Su_plain_62 : decode m_Su_plain.2.1 62 = .ok (.iconst 0, 1) := by decide +kernel
theorem d_Su_plain_63 : decode m_Su_plain.2.1 63 = .ok (.ireturn, 1) := by decide +kernel
theorem d_Su_plain_64 : decode m_Su_plain.2.1 64 = .ok (.iinc 3 1, 3) := by decide +kernel
theorem d_Su_plain_67 : decode m_Su_plain.2.1 67 = .ok (.goto (-53), 3) := by decide +kernel
theorem d_Su_plain_70 : decode m_Su_plain.2.1 70 = .ok (.iconst 1, 1) := by decide +kernel
theorem d_Su_plain_71 : decode m_Su_plain.2.1 71 = .ok (.ireturn, 1) := by decide +kernel
theorem d_Su_count_0 : decode m_Su_count.2.1 0 = .ok (.iload_n 1, 1) := by decide +kernel
theorem d_Su_count_1 : decode m_Su_count.2.1 1 = .ok (.tableswitch 135 0 8 #[51, 59, 67, 78, 89, 100, 111, 119, 127], 51) := by decide +kernel
theorem d_Su_count_52 : decode m_Su_count.2.1 52 = .ok (.aload_n 0, 1) := by decide +kernel
theorem d_Su_count_53 : decode m_Su_count.2.1 53 = .ok (.getfield 20, 3) := by decide +kernel
theorem d_Su_count_56 : decode m_Su_count.2.1 56 = .ok (.getfield 88, 3) := by decide +kernel
theorem d_Su_count_59 : decode m_Su_count.2.1 59 = .ok (.ireturn, 1) := by decide +kernel
theorem d_Su_count_60 : decode m_Su_count.2.1 60 = .ok (.aload_n 0, 1) := by decide +kernel
theorem d_Su_count_61 : decode m_Su_count.2.1 61 = .ok (.getfield 27, 3) := by decide +kernel
theorem d_Su_count_64 : decode m_Su_count.2.1 64 = .ok (.getfield 95, 3) := by decide +kernel
theorem d_Su_count_67 : decode m_Su_count.2.1 67 = .ok (.ireturn, 1) := by decide +kernel
theorem d_Su_count_68 : decode m_Su_count.2.1 68 = .ok (.aload_n 0, 1) := by decide +kernel
theorem d_Su_count_69 : decode m_Su_count.2.1 69 = .ok (.getfield 20, 3) := by decide +kernel
theorem d_Su_count_72 : decode m_Su_count.2.1 72 = .ok (.getfield 144, 3) := by decide +kernel
theorem d_Su_count_75 : decode m_Su_count.2.1 75 = .ok (.invokevirtual 161, 3) := by decide +kernel
theorem d_Su_count_78 : decode m_Su_count.2.1 78 = .ok (.ireturn, 1) := by decide +kernel
theorem d_Su_count_79 : decode m_Su_count.2.1 79 = .ok (.aload_n 0, 1) := by decide +kernel
theorem d_Su_count_80 : decode m_Su_count.2.1 80 = .ok (.getfield 20, 3) := by decide +kernel
theorem d_Su_count_83 : decode m_Su_count.2.1 83 = .ok (.getfield 176, 3) := by decide +kernel
theorem d_Su_count_86 : decode m_Su_count.2.1 86 = .ok (.invokevirtual 161, 3) := by decide +kernel
theorem d_Su_count_89 : decode m_Su_count.2.1 89 = .ok (.ireturn, 1) := by decide +kernel
theorem d_Su_count_90 : decode m_Su_count.2.1 90 = .ok (.aload_n 0, 1) := by decide +kernel
theorem d_Su_count_91 : decode m_Su_count.2.1 91 = .ok (.getfield 20, 3) := by decide +kernel
theorem d_Su_count_94 : decode m_Su_count.2.1 94 = .ok (.getfield 179, 3) := by decide +kernel
theorem d_Su_count_97 : decode m_Su_count.2.1 97 = .ok (.invokevirtual 161, 3) := by decide +kernel
theorem d_Su_count_100 : decode m_Su_count.2.1 100 = .ok (.ireturn, 1) := by decide +kernel
theorem d_Su_count_101 : decode m_Su_count.2.1 101 = .ok (.aload_n 0, 1) := by decide +kernel
theorem d_Su_count_102 : decode m_Su_count.2.1 102 = .ok (.getfield 20, 3) := by decide +kernel
theorem d_Su_count_105 : decode m_Su_count.2.1 105 = .ok (.getfield 182, 3) := by decide +kernel
theorem d_Su_count_108 : decode m_Su_count.2.1 108 = .ok (.invokevirtual 161, 3) := by decide +kernel
theorem d_Su_count_111 : decode m_Su_count.2.1 111 = .ok (.ireturn, 1) := by decide +kernel
theorem d_Su_count_112 : decode m_Su_count.2.1 112 = .ok (.aload_n 0, 1) := by decide +kernel
theorem d_Su_count_113 : decode m_Su_count.2.1 113 = .ok (.getfield 31, 3) := by decide +kernel
theorem d_Su_count_116 : decode m_Su_count.2.1 116 = .ok (.getfield 95, 3) := by decide +kernel
theorem d_Su_count_119 : decode m_Su_count.2.1 119 = .ok (.ireturn, 1) := by decide +kernel
theorem d_Su_count_120 : decode m_Su_count.2.1 120 = .ok (.aload_n 0, 1) := by decide +kernel
theorem d_Su_count_121 : decode m_Su_count.2.1 121 = .ok (.getfield 34, 3) := by decide +kernel
theorem d_Su_count_124 : decode m_Su_count.2.1 124 = .ok (.getfield 95, 3) := by decide +kernel
theorem d_Su_count_127 : decode m_Su_count.2.1 127 = .ok (.ireturn, 1) := by decide +kernel
theorem d_Su_count_128 : decode m_Su_count.2.1 128 = .ok (.aload_n 0, 1) := by decide +kernel
theorem d_Su_count_129 : decode m_Su_count.2.1 129 = .ok (.getfield 37, 3) := by decide +kernel
theorem d_Su_count_132 : decode m_Su_count.2.1 132 = .ok (.getfield 95, 3) := by decide +kernel
theorem d_Su_count_135 : decode m_Su_count.2.1 135 = .ok (.ireturn, 1) := by decide +kernel
theorem d_Su_count_136 : decode m_Su_count.2.1 136 = .ok (.iconst (-1), 1) := by decide +kernel
theorem d_Su_count_137 : decode m_Su_count.2.1 137 = .ok (.ireturn, 1) := by decide +kernel
theorem d_Su_isInput_0 : decode m_Su_isInput.2.1 0 = .ok (.iload_n 0, 1) := by decide +kernel
theorem d_Su_isInput_1 : decode m_Su_isInput.2.1 1 = .ok (.ifCond .lt 12, 3) := by decide +kernel
theorem d_Su_isInput_4 : decode m_Su_isInput.2.1 4 = .ok (.iload_n 0, 1) := by decide +kernel
theorem d_Su_isInput_5 : decode m_Su_isInput.2.1 5 = .ok (.iconst 3, 1) := by decide +kernel
theorem d_Su_isInput_6 : decode m_Su_isInput.2.1 6 = .ok (.if_icmp .ge 7, 3) := by decide +kernel
theorem d_Su_isInput_9 : decode m_Su_isInput.2.1 9 = .ok (.iconst 1, 1) := by decide +kernel
theorem d_Su_isInput_10 : decode m_Su_isInput.2.1 10 = .ok (.goto 4, 3) := by decide +kernel
theorem d_Su_isInput_13 : decode m_Su_isInput.2.1 13 = .ok (.iconst 0, 1) := by decide +kernel
theorem d_Su_isInput_14 : decode m_Su_isInput.2.1 14 = .ok (.ireturn, 1) := by decide +kernel
theorem d_Su_outputRows_0 : decode m_Su_outputRows.2.1 0 = .ok (.iload_n 1, 1) := by decide +kernel
theorem d_Su_outputRows_1 : decode m_Su_outputRows.2.1 1 = .ok (.tableswitch 42 0 2 #[27, 32, 37], 27) := by decide +kernel
theorem d_Su_outputRows_28 : decode m_Su_outputRows.2.1 28 = .ok (.aload_n 0, 1) := by decide +kernel
theorem d_Su_outputRows_29 : decode m_Su_outputRows.2.1 29 = .ok (.getfield 31, 3) := by decide +kernel
theorem d_Su_outputRows_32 : decode m_Su_outputRows.2.1 32 = .ok (.areturn, 1) := by decide +kernel
theorem d_Su_outputRows_33 : decode m_Su_outputRows.2.1 33 = .ok (.aload_n 0, 1) := by decide +kernel
theorem d_Su_outputRows_34 : decode m_Su_outputRows.2.1 34 = .ok (.getfield 34, 3) := by decide +kernel
theorem d_Su_outputRows_37 : decode m_Su_outputRows.2.1 37 = .ok (.areturn, 1) := by decide +kernel
theorem d_Su_outputRows_38 : decode m_Su_outputRows.2.1 38 = .ok (.aload_n 0, 1) := by decide +kernel
theorem d_Su_outputRows_39 : decode m_Su_outputRows.2.1 39 = .ok (.getfield 37, 3) := by decide +kernel
theorem d_Su_outputRows_42 : decode m_Su_outputRows.2.1 42 = .ok (.areturn, 1) := by decide +kernel
theorem d_Su_outputRows_43 : decode m_Su_outputRows.2.1 43 = .ok (.aconst_null, 1) := by decide +kernel
theorem d_Su_outputRows_44 : decode m_Su_outputRows.2.1 44 = .ok (.areturn, 1) := by decide +kernel
theorem d_Su_outputRow_0 : decode m_Su_outputRow.2.1 0 = .ok (.aload_n 0, 1) := by decide +kernel
theorem d_Su_outputRow_1 : decode m_Su_outputRow.2.1 1 = .ok (.iload_n 1, 1) := by decide +kernel
theorem d_Su_outputRow_2 : decode m_Su_outputRow.2.1 2 = .ok (.invokevirtual 168, 3) := by decide +kernel
theorem d_Su_outputRow_5 : decode m_Su_outputRow.2.1 5 = .ok (.astore_n 3, 1) := by decide +kernel
theorem d_Su_outputRow_6 : decode m_Su_outputRow.2.1 6 = .ok (.aload_n 3, 1) := by decide +kernel
theorem d_Su_outputRow_7 : decode m_Su_outputRow.2.1 7 = .ok (.ifnonnull 7, 3) := by decide +kernel
theorem d_Su_outputRow_10 : decode m_Su_outputRow.2.1 10 = .ok (.aconst_null, 1) := by decide +kernel
theorem d_Su_outputRow_11 : decode m_Su_outputRow.2.1 11 = .ok (.goto 8, 3) := by decide +kernel
theorem d_Su_outputRow_14 : decode m_Su_outputRow.2.1 14 = .ok (.aload_n 3, 1) := by decide +kernel
theorem d_Su_outputRow_15 : decode m_Su_outputRow.2.1 15 = .ok (.iload_n 2, 1) := by decide +kernel
theorem d_Su_outputRow_16 : decode m_Su_outputRow.2.1 16 = .ok (.invokevirtual 106, 3) := by decide +kernel
theorem d_Su_outputRow_19 : decode m_Su_outputRow.2.1 19 = .ok (.areturn, 1) := by decide +kernel
theorem d_Su_pickRecords_0 : decode m_Su_pickRecords.2.1 0 = .ok (.iconst 0, 1) := by decide +kernel
theorem d_Su_pickRecords_1 : decode m_Su_pickRecords.2.1 1 = .ok (.istore_n 1, 1) := by decide +kernel
theorem d_Su_pickRecords_2 : decode m_Su_pickRecords.2.1 2 = .ok (.iconst 0, 1) := by decide +kernel
theorem d_Su_pickRecords_3 : decode m_Su_pickRecords.2.1 3 = .ok (.istore_n 2, 1) := by decide +kernel
theorem d_Su_pickRecords_4 : decode m_Su_pickRecords.2.1 4 = .ok (.iload_n 2, 1) := by decide +kernel
theorem d_Su_pickRecords_5 : decode m_Su_pickRecords.2.1 5 = .ok (.aload_n 0, 1) := by decide +kernel
theorem d_Su_pickRecords_6 : decode m_Su_pickRecords.2.1 6 = .ok (.getfield 27, 3) := by decide +kernel
theorem d_Su_pickRecords_9 : decode m_Su_pickRecords.2.1 9 = .ok (.getfield 95, 3) := by decide +kernel
theorem d_Su_pickRecords_12 : decode m_Su_pickRecords.2.1 12 = .ok (.if_icmp .ge 90, 3) := by decide +kernel
theorem d_Su_pickRecords_15 : decode m_Su_pickRecords.2.1 15 = .ok (.aload_n 0, 1) := by decide +kernel
theorem d_Su_pickRecords_16 : decode m_Su_pickRecords.2.1 16 = .ok (.getfield 27, 3) := by decide +kernel
theorem d_Su_pickRecords_19 : decode m_Su_pickRecords.2.1 19 = .ok (.iload_n 2, 1) := by decide +kernel
theorem d_Su_pickRecords_20 : decode m_Su_pickRecords.2.1 20 = .ok (.invokevirtual 106, 3) := by decide +kernel
theorem d_Su_pickRecords_23 : decode m_Su_pickRecords.2.1 23 = .ok (.astore_n 3, 1) := by decide +kernel
theorem d_Su_pickRecords_24 : decode m_Su_pickRecords.2.1 24 = .ok (.aload_n 3, 1) := by decide +kernel
theorem d_Su_pickRecords_25 : decode m_Su_pickRecords.2.1 25 = .ok (.ifnull 71, 3) := by decide +kernel
theorem d_Su_pickRecords_28 : decode m_Su_pickRecords.2.1 28 = .ok (.aload_n 3, 1) := by decide +kernel
theorem d_Su_pickRecords_29 : decode m_Su_pickRecords.2.1 29 = .ok (.getfield 100, 3) := by decide +kernel
theorem d_Su_pickRecords_32 : decode m_Su_pickRecords.2.1 32 = .ok (.ifCond .eq 6, 3) := by decide +kernel
theorem d_Su_pickRecords_35 : decode m_Su_pickRecords.2.1 35 = .ok (.goto 61, 3) := by decide +kernel
theorem d_Su_pickRecords_38 : decode m_Su_pickRecords.2.1 38 = .ok (.iload_n 1, 1) := by decide +kernel
theorem d_Su_pickRecords_39 : decode m_Su_pickRecords.2.1 39 = .ok (.aload_n 0, 1) := by decide +kernel
theorem d_Su_pickRecords_40 : decode m_Su_pickRecords.2.1 40 = .ok (.getfield 20, 3) := by decide +kernel
theorem d_Su_pickRecords_43 : decode m_Su_pickRecords.2.1 43 = .ok (.getfield 185, 3) := by decide +kernel
theorem d_Su_pickRecords_46 : decode m_Su_pickRecords.2.1 46 = .ok (.isub, 1) := by decide +kernel
theorem d_Su_pickRecords_47 : decode m_Su_pickRecords.2.1 47 = .ok (.istore 4, 2) := by decide +kernel
theorem d_Su_pickRecords_49 : decode m_Su_pickRecords.2.1 49 = .ok (.iinc 1 1, 3) := by decide +kernel
theorem d_Su_pickRecords_52 : decode m_Su_pickRecords.2.1 52 = .ok (.iload 4, 2) := by decide +kernel
theorem d_Su_pickRecords_54 : decode m_Su_pickRecords.2.1 54 = .ok (.ifCond .lt 42, 3) := by decide +kernel
theorem d_Su_pickRecords_57 : decode m_Su_pickRecords.2.1 57 = .ok (.iload 4, 2) := by decide +kernel
theorem d_Su_pickRecords_59 : decode m_Su_pickRecords.2.1 59 = .ok (.aload_n 0, 1) := by decide +kernel
theorem d_Su_pickRecords_60 : decode m_Su_pickRecords.2.1 60 = .ok (.getfield 20, 3) := by decide +kernel
theorem d_Su_pickRecords_63 : decode m_Su_pickRecords.2.1 63 = .ok (.getfield 188, 3) := by decide +kernel
theorem d_Su_pickRecords_66 : decode m_Su_pickRecords.2.1 66 = .ok (.if_icmp .lt 6, 3) := by decide +kernel
theorem d_Su_pickRecords_69 : decode m_Su_pickRecords.2.1 69 = .ok (.goto 27, 3) := by decide +kernel
theorem d_Su_pickRecords_72 : decode m_Su_pickRecords.2.1 72 = .ok (.aload_n 0, 1) := by decide +kernel
theorem d_Su_pickRecords_73 : decode m_Su_pickRecords.2.1 73 = .ok (.getfield 20, 3) := by decide +kernel
theorem d_Su_pickRecords_76 : decode m_Su_pickRecords.2.1 76 = .ok (.aload_n 3, 1) := by decide +kernel
theorem d_Su_pickRecords_77 : decode m_Su_pickRecords.2.1 77 = .ok (.invokevirtual 191, 3) := by decide +kernel
theorem d_Su_pickRecords_80 : decode m_Su_pickRecords.2.1 80 = .ok (.ifCond .eq 11, 3) := by decide +kernel
theorem d_Su_pickRecords_83 : decode m_Su_pickRecords.2.1 83 = .ok (.aload_n 0, 1) := by decide +kernel
theorem d_Su_pickRecords_84 : decode m_Su_pickRecords.2.1 84 = .ok (.aload_n 3, 1) := by decide +kernel
theorem d_Su_pickRecords_85 : decode m_Su_pickRecords.2.1 85 = .ok (.invokevirtual 195, 3) := by decide +kernel
theorem d_Su_pickRecords_88 : decode m_Su_pickRecords.2.1 88 = .ok (.goto 8, 3) := by decide +kernel
theorem d_Su_pickRecords_91 : decode m_Su_pickRecords.2.1 91 = .ok (.aload_n 0, 1) := by decide +kernel
theorem d_Su_pickRecords_92 : decode m_Su_pickRecords.2.1 92 = .ok (.aload_n 3, 1) := by decide +kernel
theorem d_Su_pickRecords_93 : decode m_Su_pickRecords.2.1 93 = .ok (.invokevirtual 199, 3) := by decide +kernel
theorem d_Su_pickRecords_96 : decode m_Su_pickRecords.2.1 96 = .ok (.iinc 2 1, 3) := by decide +kernel
theorem d_Su_pickRecords_99 : decode m_Su_pickRecords.2.1 99 = .ok (.goto (-95), 3) := by decide +kernel
theorem d_Su_pickRecords_102 : decode m_Su_pickRecords.2.1 102 = .ok (.return_, 1) := by decide +kernel
theorem d_Su_insertSorted_0 : decode m_Su_insertSorted.2.1 0 = .ok (.iconst 0, 1) := by decide +kernel
theorem d_Su_insertSorted_1 : decode m_Su_insertSorted.2.1 1 = .ok (.istore_n 2, 1) := by decide +kernel
theorem d_Su_insertSorted_2 : decode m_Su_insertSorted.2.1 2 = .ok (.aload_n 0, 1) := by decide +kernel
theorem d_Su_insertSorted_3 : decode m_Su_insertSorted.2.1 3 = .ok (.getfield 54, 3) := by decide +kernel
theorem d_Su_insertSorted_6 : decode m_Su_insertSorted.2.1 6 = .ok (.invokevirtual 161, 3) := by decide +kernel
theorem d_Su_insertSorted_9 : decode m_Su_insertSorted.2.1 9 = .ok (.istore_n 3, 1) := by decide +kernel
theorem d_Su_insertSorted_10 : decode m_Su_insertSorted.2.1 10 = .ok (.iload_n 2, 1) := by decide +kernel
theorem d_Su_insertSorted_11 : decode m_Su_insertSorted.2.1 11 = .ok (.iload_n 3, 1) := by decide +kernel
theorem d_Su_insertSorted_12 : decode m_Su_insertSorted.2.1 12 = .ok (.if_icmp .ge 47, 3) := by decide +kernel
theorem d_Su_insertSorted_15 : decode m_Su_insertSorted.2.1 15 = .ok (.iload_n 2, 1) := by decide +kernel
theorem d_Su_insertSorted_16 : decode m_Su_insertSorted.2.1 16 = .ok (.iload_n 3, 1) := by decide +kernel
theorem d_Su_insertSorted_17 : decode m_Su_insertSorted.2.1 17 = .ok (.iadd, 1) := by decide +kernel
theorem d_Su_insertSorted_18 : decode m_Su_insertSorted.2.1 18 = .ok (.iconst 2, 1) := by decide +kernel
theorem d_Su_insertSorted_19 : decode m_Su_insertSorted.2.1 19 = .ok (.idiv, 1) := by decide +kernel
theorem d_Su_insertSorted_20 : decode m_Su_insertSorted.2.1 20 = .ok (.istore 4, 2) := by decide +kernel
theorem d_Su_insertSorted_22 : decode m_Su_insertSorted.2.1 22 = .ok (.aload_n 0, 1) := by decide +kernel
theorem d_Su_insertSorted_23 : decode m_Su_insertSorted.2.1 23 = .ok (.getfield 20, 3) := by decide +kernel
theorem d_Su_insertSorted_26 : decode m_Su_insertSorted.2.1 26 = .ok (.aload_n 0, 1) := by decide +kernel
theorem d_Su_insertSorted_27 : decode m_Su_insertSorted.2.1 27 = .ok (.getfield 54, 3) := by decide +kernel
theorem d_Su_insertSorted_30 : decode m_Su_insertSorted.2.1 30 = .ok (.iload 4, 2) := by decide +kernel
theorem d_Su_insertSorted_32 : decode m_Su_insertSorted.2.1 32 = .ok (.invokevirtual 164, 3) := by decide +kernel
theorem d_Su_insertSorted_35 : decode m_Su_insertSorted.2.1 35 = .ok (.checkcast 57, 3) := by decide +kernel
theorem d_Su_insertSorted_38 : decode m_Su_insertSorted.2.1 38 = .ok (.aload_n 1, 1) := by decide +kernel
theorem d_Su_insertSorted_39 : decode m_Su_insertSorted.2.1 39 = .ok (.invokevirtual 172, 3) := by decide +kernel
theorem d_Su_insertSorted_42 : decode m_Su_insertSorted.2.1 42 = .ok (.ifCond .gt 11, 3) := by decide +kernel
theorem d_Su_insertSorted_45 : decode m_Su_insertSorted.2.1 45 = .ok (.iload 4, 2) := by decide +kernel
theorem d_Su_insertSorted_47 : decode m_Su_insertSorted.2.1 47 = .ok (.iconst 1, 1) := by decide +kernel
theorem d_Su_insertSorted_48 : decode m_Su_insertSorted.2.1 48 = .ok (.iadd, 1) := by decide +kernel
theorem d_Su_insertSorted_49 : decode m_Su_insertSorted.2.1 49 = .ok (.istore_n 2, 1) := by decide +kernel
theorem d_Su_insertSorted_50 : decode m_Su_insertSorted.2.1 50 = .ok (.goto 6, 3) := by decide +kernel
theorem d_Su_insertSorted_53 : decode m_Su_insertSorted.2.1 53 = .ok (.iload 4, 2) := by decide +kernel
theorem d_Su_insertSorted_55 : decode m_Su_insertSorted.2.1 55 = .ok (.istore_n 3, 1) := by decide +kernel
theorem d_Su_insertSorted_56 : decode m_Su_insertSorted.2.1 56 = .ok (.goto (-46), 3) := by decide +kernel
theorem d_Su_insertSorted_59 : decode m_Su_insertSorted.2.1 59 = .ok (.aload_n 0, 1) := by decide +kernel
theorem d_Su_insertSorted_60 : decode m_Su_insertSorted.2.1 60 = .ok (.getfield 54, 3) := by decide +kernel
theorem d_Su_insertSorted_63 : decode m_Su_insertSorted.2.1 63 = .ok (.iload_n 2, 1) := by decide +kernel
theorem d_Su_insertSorted_64 : decode m_Su_insertSorted.2.1 64 = .ok (.aload_n 1, 1) := by decide +kernel
theorem d_Su_insertSorted_65 : decode m_Su_insertSorted.2.1 65 = .ok (.invokevirtual 202, 3) := by decide +kernel
theorem d_Su_insertSorted_68 : decode m_Su_insertSorted.2.1 68 = .ok (.return_, 1) := by decide +kernel
theorem d_Su_refuse_0 : decode m_Su_refuse.2.1 0 = .ok (.aload_n 0, 1) := by decide +kernel
theorem d_Su_refuse_1 : decode m_Su_refuse.2.1 1 = .ok (.getfield 34, 3) := by decide +kernel
theorem d_Su_refuse_4 : decode m_Su_refuse.2.1 4 = .ok (.invokevirtual 96, 3) := by decide +kernel
theorem d_Su_refuse_7 : decode m_Su_refuse.2.1 7 = .ok (.astore_n 2, 1) := by decide +kernel
theorem d_Su_refuse_8 : decode m_Su_refuse.2.1 8 = .ok (.aload_n 2, 1) := by decide +kernel
theorem d_Su_refuse_9 : decode m_Su_refuse.2.1 9 = .ok (.ifnull 8, 3) := by decide +kernel
theorem d_Su_refuse_12 : decode m_Su_refuse.2.1 12 = .ok (.aload_n 2, 1) := by decide +kernel
theorem d_Su_refuse_13 : decode m_Su_refuse.2.1 13 = .ok (.aload_n 1, 1) := by decide +kernel
theorem d_Su_refuse_14 : decode m_Su_refuse.2.1 14 = .ok (.invokevirtual 205, 3) := by decide +kernel
theorem d_Su_refuse_17 : decode m_Su_refuse.2.1 17 = .ok (.return_, 1) := by decide +kernel
theorem d_Su_sumAndDeliver_0 : decode m_Su_sumAndDeliver.2.1 0 = .ok (.iconst 0, 1) := by decide +kernel
theorem d_Su_sumAndDeliver_1 : decode m_Su_sumAndDeliver.2.1 1 = .ok (.istore_n 1, 1) := by decide +kernel
theorem d_Su_sumAndDeliver_2 : decode m_Su_sumAndDeliver.2.1 2 = .ok (.iload_n 1, 1) := by decide +kernel
theorem d_Su_sumAndDeliver_3 : decode m_Su_sumAndDeliver.2.1 3 = .ok (.aload_n 0, 1) := by decide +kernel
theorem d_Su_sumAndDeliver_4 : decode m_Su_sumAndDeliver.2.1 4 = .ok (.getfield 54, 3) := by decide +kernel
theorem d_Su_sumAndDeliver_7 : decode m_Su_sumAndDeliver.2.1 7 = .ok (.invokevirtual 161, 3) := by decide +kernel
theorem d_Su_sumAndDeliver_10 : decode m_Su_sumAndDeliver.2.1 10 = .ok (.if_icmp .ge 48, 3) := by decide +kernel
theorem d_Su_sumAndDeliver_13 : decode m_Su_sumAndDeliver.2.1 13 = .ok (.aload_n 0, 1) := by decide +kernel
theorem d_Su_sumAndDeliver_14 : decode m_Su_sumAndDeliver.2.1 14 = .ok (.getfield 54, 3) := by decide +kernel
theorem d_Su_sumAndDeliver_17 : decode m_Su_sumAndDeliver.2.1 17 = .ok (.iload_n 1, 1) := by decide +kernel
theorem d_Su_sumAndDeliver_18 : decode m_Su_sumAndDeliver.2.1 18 = .ok (.invokevirtual 164, 3) := by decide +kernel
theorem d_Su_sumAndDeliver_21 : decode m_Su_sumAndDeliver.2.1 21 = .ok (.checkcast 57, 3) := by decide +kernel
theorem d_Su_sumAndDeliver_24 : decode m_Su_sumAndDeliver.2.1 24 = .ok (.astore_n 2, 1) := by decide +kernel
theorem d_Su_sumAndDeliver_25 : decode m_Su_sumAndDeliver.2.1 25 = .ok (.iload_n 1, 1) := by decide +kernel
theorem d_Su_sumAndDeliver_26 : decode m_Su_sumAndDeliver.2.1 26 = .ok (.ifCond .le 18, 3) := by decide +kernel
theorem d_Su_sumAndDeliver_29 : decode m_Su_sumAndDeliver.2.1 29 = .ok (.aload_n 0, 1) := by decide +kernel
theorem d_Su_sumAndDeliver_30 : decode m_Su_sumAndDeliver.2.1 30 = .ok (.aload_n 2, 1) := by decide +kernel
theorem d_Su_sumAndDeliver_31 : decode m_Su_sumAndDeliver.2.1 31 = .ok (.invokevirtual 208, 3) := by decide +kernel
theorem d_Su_sumAndDeliver_34 : decode m_Su_sumAndDeliver.2.1 34 = .ok (.ifCond .eq 6, 3) := by decide +kernel
theorem d_Su_sumAndDeliver_37 : decode m_Su_sumAndDeliver.2.1 37 = .ok (.goto 15, 3) := by decide +kernel
theorem d_Su_sumAndDeliver_40 : decode m_Su_sumAndDeliver.2.1 40 = .ok (.aload_n 0, 1) := by decide +kernel
theorem d_Su_sumAndDeliver_41 : decode m_Su_sumAndDeliver.2.1 41 = .ok (.invokevirtual 211, 3) := by decide +kernel
theorem d_Su_sumAndDeliver_44 : decode m_Su_sumAndDeliver.2.1 44 = .ok (.aload_n 0, 1) := by decide +kernel
theorem d_Su_sumAndDeliver_45 : decode m_Su_sumAndDeliver.2.1 45 = .ok (.getfield 60, 3) := by decide +kernel
theorem d_Su_sumAndDeliver_48 : decode m_Su_sumAndDeliver.2.1 48 = .ok (.aload_n 2, 1) := by decide +kernel
theorem d_Su_sumAndDeliver_49 : decode m_Su_sumAndDeliver.2.1 49 = .ok (.invokevirtual 205, 3) := by decide +kernel
theorem d_Su_sumAndDeliver_52 : decode m_Su_sumAndDeliver.2.1 52 = .ok (.iinc 1 1, 3) := by decide +kernel
theorem d_Su_sumAndDeliver_55 : decode m_Su_sumAndDeliver.2.1 55 = .ok (.goto (-53), 3) := by decide +kernel
theorem d_Su_sumAndDeliver_58 : decode m_Su_sumAndDeliver.2.1 58 = .ok (.aload_n 0, 1) := by decide +kernel
theorem d_Su_sumAndDeliver_59 : decode m_Su_sumAndDeliver.2.1 59 = .ok (.getfield 54, 3) := by decide +kernel
theorem d_Su_sumAndDeliver_62 : decode m_Su_sumAndDeliver.2.1 62 = .ok (.invokevirtual 147, 3) := by decide +kernel
theorem d_Su_sumAndDeliver_65 : decode m_Su_sumAndDeliver.2.1 65 = .ok (.ifCond .ne 7, 3) := by decide +kernel
theorem d_Su_sumAndDeliver_68 : decode m_Su_sumAndDeliver.2.1 68 = .ok (.aload_n 0, 1) := by decide +kernel
theorem d_Su_sumAndDeliver_69 : decode m_Su_sumAndDeliver.2.1 69 = .ok (.invokevirtual 211, 3) := by decide +kernel
theorem d_Su_sumAndDeliver_72 : decode m_Su_sumAndDeliver.2.1 72 = .ok (.return_, 1) := by decide +kernel
theorem d_Su_heldTakesUp_0 : decode m_Su_heldTakesUp.2.1 0 = .ok (.aload_n 0, 1) := by decide +kernel
theorem d_Su_heldTakesUp_1 : decode m_Su_heldTakesUp.2.1 1 = .ok (.getfield 20, 3) := by decide +kernel
theorem d_Su_heldTakesUp_4 : decode m_Su_heldTakesUp.2.1 4 = .ok (.getfield 144, 3) := by decide +kernel
theorem d_Su_heldTakesUp_7 : decode m_Su_heldTakesUp.2.1 7 = .ok (.invokevirtual 147, 3) := by decide +kernel
theorem d_Su_heldTakesUp_10 : decode m_Su_heldTakesUp.2.1 10 = .ok (.ifCond .ne 31, 3) := by decide +kernel
theorem d_Su_heldTakesUp_13 : decode m_Su_heldTakesUp.2.1 13 = .ok (.aload_n 0, 1) := by decide +kernel
theorem d_Su_heldTakesUp_14 : decode m_Su_heldTakesUp.2.1 14 = .ok (.getfield 20, 3) := by decide +kernel
theorem d_Su_heldTakesUp_17 : decode m_Su_heldTakesUp.2.1 17 = .ok (.getfield 179, 3) := by decide +kernel
theorem d_Su_heldTakesUp_20 : decode m_Su_heldTakesUp.2.1 20 = .ok (.invokevirtual 147, 3) := by decide +kernel
theorem d_Su_heldTakesUp_23 : decode m_Su_heldTakesUp.2.1 23 = .ok (.ifCond .ne 18, 3) := by decide +kernel
theorem d_Su_heldTakesUp_26 : decode m_Su_heldTakesUp.2.1 26 = .ok (.aload_n 0, 1) := by decide +kernel
theorem d_Su_heldTakesUp_27 : decode m_Su_heldTakesUp.2.1 27 = .ok (.getfield 20, 3) := by decide +kernel
theorem d_Su_heldTakesUp_30 : decode m_Su_heldTakesUp.2.1 30 = .ok (.aload_n 0, 1) := by decide +kernel
theorem d_Su_heldTakesUp_31 : decode m_Su_heldTakesUp.2.1 31 = .ok (.getfield 60, 3) := by decide +kernel
theorem d_Su_heldTakesUp_34 : decode m_Su_heldTakesUp.2.1 34 = .ok (.aload_n 1, 1) := by decide +kernel
theorem d_Su_heldTakesUp_35 : decode m_Su_heldTakesUp.2.1 35 = .ok (.invokevirtual 172, 3) := by decide +kernel
theorem d_Su_heldTakesUp_38 : decode m_Su_heldTakesUp.2.1 38 = .ok (.ifCond .eq 5, 3) := by decide +kernel
theorem d_Su_heldTakesUp_41 : decode m_Su_heldTakesUp.2.1 41 = .ok (.iconst 0, 1) := by decide +kernel
theorem d_Su_heldTakesUp_42 : decode m_Su_heldTakesUp.2.1 42 = .ok (.ireturn, 1) := by decide +kernel
theorem d_Su_heldTakesUp_43 : decode m_Su_heldTakesUp.2.1 43 = .ok (.aload_n 0, 1) := by decide +kernel
theorem d_Su_heldTakesUp_44 : decode m_Su_heldTakesUp.2.1 44 = .ok (.aload_n 1, 1) := by decide +kernel
theorem d_Su_heldTakesUp_45 : decode m_Su_heldTakesUp.2.1 45 = .ok (.invokevirtual 214, 3) := by decide +kernel
theorem d_Su_heldTakesUp_48 : decode m_Su_heldTakesUp.2.1 48 = .ok (.ifCond .ne 17, 3) := by decide +kernel
theorem d_Su_heldTakesUp_51 : decode m_Su_heldTakesUp.2.1 51 = .ok (.aload_n 0, 1) := by decide +kernel
theorem d_Su_heldTakesUp_52 : decode m_Su_heldTakesUp.2.1 52 = .ok (.aload_n 0, 1) := by decide +kernel
theorem d_Su_heldTakesUp_53 : decode m_Su_heldTakesUp.2.1 53 = .ok (.getfield 71, 3) := by decide +kernel
theorem d_Su_heldTakesUp_56 : decode m_Su_heldTakesUp.2.1 56 = .ok (.iconst 4, 1) := by decide +kernel
theorem d_Su_heldTakesUp_57 : decode m_Su_heldTakesUp.2.1 57 = .ok (.invokestatic 217, 3) := by decide +kernel
theorem d_Su_heldTakesUp_60 : decode m_Su_heldTakesUp.2.1 60 = .ok (.putfield 71, 3) := by decide +kernel
theorem d_Su_heldTakesUp_63 : decode m_Su_heldTakesUp.2.1 63 = .ok (.iconst 0, 1) := by decide +kernel
theorem d_Su_heldTakesUp_64 : decode m_Su_heldTakesUp.2.1 64 = .ok (.ireturn, 1) := by decide +kernel
theorem d_Su_heldTakesUp_65 : decode m_Su_heldTakesUp.2.1 65 = .ok (.iconst 0, 1) := by decide +kernel
theorem d_Su_heldTakesUp_66 : decode m_Su_heldTakesUp.2.1 66 = .ok (.istore_n 2, 1) := by decide +kernel
theorem d_Su_heldTakesUp_67 : decode m_Su_heldTakesUp.2.1 67 = .ok (.iload_n 2, 1) := by decide +kernel
theorem d_Su_heldTakesUp_68 : decode m_Su_heldTakesUp.2.1 68 = .ok (.aload_n 0, 1) := by decide +kernel
theorem d_Su_heldTakesUp_69 : decode m_Su_heldTakesUp.2.1 69 = .ok (.getfield 20, 3) := by decide +kernel
theorem d_Su_heldTakesUp_72 : decode m_Su_heldTakesUp.2.1 72 = .ok (.getfield 179, 3) := by decide +kernel
theorem d_Su_heldTakesUp_75 : decode m_Su_heldTakesUp.2.1 75 = .ok (.invokevirtual 161, 3) := by decide +kernel
theorem d_Su_heldTakesUp_78 : decode m_Su_heldTakesUp.2.1 78 = .ok (.if_icmp .ge 45, 3) := by decide +kernel
theorem d_Su_heldTakesUp_81 : decode m_Su_heldTakesUp.2.1 81 = .ok (.iload_n 2, 1) := by decide +kernel
theorem d_Su_heldTakesUp_82 : decode m_Su_heldTakesUp.2.1 82 = .ok (.aload_n 0, 1) := by decide +kernel
theorem d_Su_heldTakesUp_83 : decode m_Su_heldTakesUp.2.1 83 = .ok (.getfield 64, 3) := by decide +kernel
theorem d_Su_heldTakesUp_86 : decode m_Su_heldTakesUp.2.1 86 = .ok (.arraylength, 1) := by decide +kernel
theorem d_Su_heldTakesUp_87 : decode m_Su_heldTakesUp.2.1 87 = .ok (.if_icmp .ge 36, 3) := by decide +kernel
theorem d_Su_heldTakesUp_90 : decode m_Su_heldTakesUp.2.1 90 = .ok (.aload_n 0, 1) := by decide +kernel
theorem d_Su_heldTakesUp_91 : decode m_Su_heldTakesUp.2.1 91 = .ok (.getfield 20, 3) := by decide +kernel
theorem d_Su_heldTakesUp_94 : decode m_Su_heldTakesUp.2.1 94 = .ok (.getfield 179, 3) := by decide +kernel
theorem d_Su_heldTakesUp_97 : decode m_Su_heldTakesUp.2.1 97 = .ok (.iload_n 2, 1) := by decide +kernel
theorem d_Su_heldTakesUp_98 : decode m_Su_heldTakesUp.2.1 98 = .ok (.invokevirtual 164, 3) := by decide +kernel
theorem d_Su_heldTakesUp_101 : decode m_Su_heldTakesUp.2.1 101 = .ok (.checkcast 223, 3) := by decide +kernel
theorem d_Su_heldTakesUp_104 : decode m_Su_heldTakesUp.2.1 104 = .ok (.aload_n 0, 1) := by decide +kernel
theorem d_Su_heldTakesUp_105 : decode m_Su_heldTakesUp.2.1 105 = .ok (.getfield 60, 3) := by decide +kernel
theorem d_Su_heldTakesUp_108 : decode m_Su_heldTakesUp.2.1 108 = .ok (.aload_n 0, 1) := by decide +kernel
theorem d_Su_heldTakesUp_109 : decode m_Su_heldTakesUp.2.1 109 = .ok (.getfield 64, 3) := by decide +kernel
theorem d_Su_heldTakesUp_112 : decode m_Su_heldTakesUp.2.1 112 = .ok (.iload_n 2, 1) := by decide +kernel
theorem d_Su_heldTakesUp_113 : decode m_Su_heldTakesUp.2.1 113 = .ok (.laload, 1) := by decide +kernel
theorem d_Su_heldTakesUp_114 : decode m_Su_heldTakesUp.2.1 114 = .ok (.invokevirtual 225, 3) := by decide +kernel
theorem d_Su_heldTakesUp_117 : decode m_Su_heldTakesUp.2.1 117 = .ok (.iinc 2 1, 3) := by decide +kernel
theorem d_Su_heldTakesUp_120 : decode m_Su_heldTakesUp.2.1 120 = .ok (.goto (-53), 3) := by decide +kernel
theorem d_Su_heldTakesUp_123 : decode m_Su_heldTakesUp.2.1 123 = .ok (.aload_n 0, 1) := by decide +kernel
theorem d_Su_heldTakesUp_124 : decode m_Su_heldTakesUp.2.1 124 = .ok (.getfield 60, 3) := by decide +kernel
theorem d_Su_heldTakesUp_127 : decode m_Su_heldTakesUp.2.1 127 = .ok (.dup, 1) := by decide +kernel
theorem d_Su_heldTakesUp_128 : decode m_Su_heldTakesUp.2.1 128 = .ok (.getfield 141, 3) := by decide +kernel
theorem d_Su_heldTakesUp_131 : decode m_Su_heldTakesUp.2.1 131 = .ok (.iconst 1, 1) := by decide +kernel
theorem d_Su_heldTakesUp_132 : decode m_Su_heldTakesUp.2.1 132 = .ok (.iadd, 1) := by decide +kernel
theorem d_Su_heldTakesUp_133 : decode m_Su_heldTakesUp.2.1 133 = .ok (.putfield 141, 3) := by decide +kernel
theorem d_Su_heldTakesUp_136 : decode m_Su_heldTakesUp.2.1 136 = .ok (.iconst 1, 1) := by decide +kernel
theorem d_Su_heldTakesUp_137 : decode m_Su_heldTakesUp.2.1 137 = .ok (.ireturn, 1) := by decide +kernel
theorem d_Su_sumsHavePlace_0 : decode m_Su_sumsHavePlace.2.1 0 = .ok (.iconst 0, 1) := by decide +kernel
theorem d_Su_sumsHavePlace_1 : decode m_Su_sumsHavePlace.2.1 1 = .ok (.istore_n 2, 1) := by decide +kernel
theorem d_Su_sumsHavePlace_2 : decode m_Su_sumsHavePlace.2.1 2 = .ok (.iload_n 2, 1) := by decide +kernel
theorem d_Su_sumsHavePlace_3 : decode m_Su_sumsHavePlace.2.1 3 = .ok (.aload_n 0, 1) := by decide +kernel
theorem d_Su_sumsHavePlace_4 : decode m_Su_sumsHavePlace.2.1 4 = .ok (.getfield 20, 3) := by decide +kernel
theorem d_Su_sumsHavePlace_7 : decode m_Su_sumsHavePlace.2.1 7 = .ok (.getfield 179, 3) := by decide +kernel
theorem d_Su_sumsHavePlace_10 : decode m_Su_sumsHavePlace.2.1 10 = .ok (.invokevirtual 161, 3) := by decide +kernel
theorem d_Su_sumsHavePlace_13 : decode m_Su_sumsHavePlace.2.1 13 = .ok (.if_icmp .ge 69, 3) := by decide +kernel
theorem d_Su_sumsHavePlace_16 : decode m_Su_sumsHavePlace.2.1 16 = .ok (.iload_n 2, 1) := by decide +kernel
theorem d_Su_sumsHavePlace_17 : decode m_Su_sumsHavePlace.2.1 17 = .ok (.aload_n 0, 1) := by decide +kernel
theorem d_Su_sumsHavePlace_18 : decode m_Su_sumsHavePlace.2.1 18 = .ok (.getfield 64, 3) := by decide +kernel
theorem d_Su_sumsHavePlace_21 : decode m_Su_sumsHavePlace.2.1 21 = .ok (.arraylength, 1) := by decide +kernel
theorem d_Su_sumsHavePlace_22 : decode m_Su_sumsHavePlace.2.1 22 = .ok (.if_icmp .ge 60, 3) := by decide +kernel
theorem d_Su_sumsHavePlace_25 : decode m_Su_sumsHavePlace.2.1 25 = .ok (.aload_n 0, 1) := by decide +kernel
theorem d_Su_sumsHavePlace_26 : decode m_Su_sumsHavePlace.2.1 26 = .ok (.getfield 20, 3) := by decide +kernel
theorem d_Su_sumsHavePlace_29 : decode m_Su_sumsHavePlace.2.1 29 = .ok (.getfield 179, 3) := by decide +kernel
theorem d_Su_sumsHavePlace_32 : decode m_Su_sumsHavePlace.2.1 32 = .ok (.iload_n 2, 1) := by decide +kernel
theorem d_Su_sumsHavePlace_33 : decode m_Su_sumsHavePlace.2.1 33 = .ok (.invokevirtual 164, 3) := by decide +kernel
theorem d_Su_sumsHavePlace_36 : decode m_Su_sumsHavePlace.2.1 36 = .ok (.checkcast 223, 3) := by decide +kernel
theorem d_Su_sumsHavePlace_39 : decode m_Su_sumsHavePlace.2.1 39 = .ok (.astore_n 3, 1) := by decide +kernel
theorem d_Su_sumsHavePlace_40 : decode m_Su_sumsHavePlace.2.1 40 = .ok (.aload_n 0, 1) := by decide +kernel
theorem d_Su_sumsHavePlace_41 : decode m_Su_sumsHavePlace.2.1 41 = .ok (.getfield 64, 3) := by decide +kernel
theorem d_Su_sumsHavePlace_44 : decode m_Su_sumsHavePlace.2.1 44 = .ok (.iload_n 2, 1) := by decide +kernel
theorem d_Su_sumsHavePlace_45 : decode m_Su_sumsHavePlace.2.1 45 = .ok (.aload_n 3, 1) := by decide +kernel
theorem d_Su_sumsHavePlace_46 : decode m_Su_sumsHavePlace.2.1 46 = .ok (.aload_n 0, 1) := by decide +kernel
theorem d_Su_sumsHavePlace_47 : decode m_Su_sumsHavePlace.2.1 47 = .ok (.getfield 60, 3) := by decide +kernel
theorem d_Su_sumsHavePlace_50 : decode m_Su_sumsHavePlace.2.1 50 = .ok (.invokevirtual 229, 3) := by decide +kernel
theorem d_Su_sumsHavePlace_53 : decode m_Su_sumsHavePlace.2.1 53 = .ok (.aload_n 3, 1) := by decide +kernel
theorem d_Su_sumsHavePlace_54 : decode m_Su_sumsHavePlace.2.1 54 = .ok (.aload_n 1, 1) := by decide +kernel
theorem d_Su_sumsHavePlace_55 : decode m_Su_sumsHavePlace.2.1 55 = .ok (.invokevirtual 229, 3) := by decide +kernel
theorem d_Su_sumsHavePlace_58 : decode m_Su_sumsHavePlace.2.1 58 = .ok (.ladd, 1) := by decide +kernel
theorem d_Su_sumsHavePlace_59 : decode m_Su_sumsHavePlace.2.1 59 = .ok (.lastore, 1) := by decide +kernel
theorem d_Su_sumsHavePlace_60 : decode m_Su_sumsHavePlace.2.1 60 = .ok (.aload_n 0, 1) := by decide +kernel
theorem d_Su_sumsHavePlace_61 : decode m_Su_sumsHavePlace.2.1 61 = .ok (.getfield 64, 3) := by decide +kernel
theorem d_Su_sumsHavePlace_64 : decode m_Su_sumsHavePlace.2.1 64 = .ok (.iload_n 2, 1) := by decide +kernel
theorem d_Su_sumsHavePlace_65 : decode m_Su_sumsHavePlace.2.1 65 = .ok (.laload, 1) := by decide +kernel
theorem d_Su_sumsHavePlace_66 : decode m_Su_sumsHavePlace.2.1 66 = .ok (.aload_n 3, 1) := by decide +kernel
theorem d_Su_sumsHavePlace_67 : decode m_Su_sumsHavePlace.2.1 67 = .ok (.invokevirtual 233, 3) := by decide +kernel
theorem d_Su_sumsHavePlace_70 : decode m_Su_sumsHavePlace.2.1 70 = .ok (.lcmp, 1) := by decide +kernel
theorem d_Su_sumsHavePlace_71 : decode m_Su_sumsHavePlace.2.1 71 = .ok (.ifCond .lt 5, 3) := by decide +kernel
theorem d_Su_sumsHavePlace_74 : decode m_Su_sumsHavePlace.2.1 74 = .ok (.iconst 0, 1) := by decide +kernel
theorem d_Su_sumsHavePlace_75 : decode m_Su_sumsHavePlace.2.1 75 = .ok (.ireturn, 1) := by decide +kernel
theorem d_Su_sumsHavePlace_76 : decode m_Su_sumsHavePlace.2.1 76 = .ok (.iinc 2 1, 3) := by decide +kernel
theorem d_Su_sumsHavePlace_79 : decode m_Su_sumsHavePlace.2.1 79 = .ok (.goto (-77), 3) := by decide +kernel
theorem d_Su_sumsHavePlace_82 : decode m_Su_sumsHavePlace.2.1 82 = .ok (.iconst 1, 1) := by decide +kernel
theorem d_Su_sumsHavePlace_83 : decode m_Su_sumsHavePlace.2.1 83 = .ok (.ireturn, 1) := by decide +kernel
theorem d_Su_deliverHeld_0 : decode m_Su_deliverHeld.2.1 0 = .ok (.aload_n 0, 1) := by decide +kernel
theorem d_Su_deliverHeld_1 : decode m_Su_deliverHeld.2.1 1 = .ok (.dup, 1) := by decide +kernel
theorem d_Su_deliverHeld_2 : decode m_Su_deliverHeld.2.1 2 = .ok (.getfield 68, 3) := by decide +kernel
theorem d_Su_deliverHeld_5 : decode m_Su_deliverHeld.2.1 5 = .ok (.iconst 1, 1) := by decide +kernel
theorem d_Su_deliverHeld_6 : decode m_Su_deliverHeld.2.1 6 = .ok (.iadd, 1) := by decide +kernel
theorem d_Su_deliverHeld_7 : decode m_Su_deliverHeld.2.1 7 = .ok (.putfield 68, 3) := by decide +kernel
theorem d_Su_deliverHeld_10 : decode m_Su_deliverHeld.2.1 10 = .ok (.aload_n 0, 1) := by decide +kernel
theorem d_Su_deliverHeld_11 : decode m_Su_deliverHeld.2.1 11 = .ok (.getfield 50, 3) := by decide +kernel
theorem d_Su_deliverHeld_14 : decode m_Su_deliverHeld.2.1 14 = .ok (.ifCond .eq 18, 3) := by decide +kernel
theorem d_Su_deliverHeld_17 : decode m_Su_deliverHeld.2.1 17 = .ok (.aload_n 0, 1) := by decide +kernel
theorem d_Su_deliverHeld_18 : decode m_Su_deliverHeld.2.1 18 = .ok (.getfield 68, 3) := by decide +kernel
theorem d_Su_deliverHeld_21 : decode m_Su_deliverHeld.2.1 21 = .ok (.iconst 3, 1) := by decide +kernel
theorem d_Su_deliverHeld_22 : decode m_Su_deliverHeld.2.1 22 = .ok (.if_icmp .lt 10, 3) := by decide +kernel
theorem d_Su_deliverHeld_25 : decode m_Su_deliverHeld.2.1 25 = .ok (.aload_n 0, 1) := by decide +kernel
theorem d_Su_deliverHeld_26 : decode m_Su_deliverHeld.2.1 26 = .ok (.bipush 16, 2) := by decide +kernel
theorem d_Su_deliverHeld_28 : decode m_Su_deliverHeld.2.1 28 = .ok (.putfield 71, 3) := by decide +kernel
theorem d_Su_deliverHeld_31 : decode m_Su_deliverHeld.2.1 31 = .ok (.return_, 1) := by decide +kernel
theorem d_Su_deliverHeld_32 : decode m_Su_deliverHeld.2.1 32 = .ok (.aload_n 0, 1) := by decide +kernel
theorem d_Su_deliverHeld_33 : decode m_Su_deliverHeld.2.1 33 = .ok (.getfield 47, 3) := by decide +kernel
theorem d_Su_deliverHeld_36 : decode m_Su_deliverHeld.2.1 36 = .ok (.iconst 1, 1) := by decide +kernel
theorem d_Su_deliverHeld_37 : decode m_Su_deliverHeld.2.1 37 = .ok (.if_icmp .ne 18, 3) := by decide +kernel
theorem d_Su_deliverHeld_40 : decode m_Su_deliverHeld.2.1 40 = .ok (.aload_n 0, 1) := by decide +kernel
theorem d_Su_deliverHeld_41 : decode m_Su_deliverHeld.2.1 41 = .ok (.getfield 60, 3) := by decide +kernel
theorem d_Su_deliverHeld_44 : decode m_Su_deliverHeld.2.1 44 = .ok (.iconst 0, 1) := by decide +kernel
theorem d_Su_deliverHeld_45 : decode m_Su_deliverHeld.2.1 45 = .ok (.invokevirtual 137, 3) := by decide +kernel
theorem d_Su_deliverHeld_48 : decode m_Su_deliverHeld.2.1 48 = .ok (.iconst 2, 1) := by decide +kernel
theorem d_Su_deliverHeld_49 : decode m_Su_deliverHeld.2.1 49 = .ok (.irem, 1) := by decide +kernel
theorem d_Su_deliverHeld_50 : decode m_Su_deliverHeld.2.1 50 = .ok (.iconst 1, 1) := by decide +kernel
theorem d_Su_deliverHeld_51 : decode m_Su_deliverHeld.2.1 51 = .ok (.if_icmp .ne 4, 3) := by decide +kernel
theorem d_Su_deliverHeld_54 : decode m_Su_deliverHeld.2.1 54 = .ok (.return_, 1) := by decide +kernel
theorem d_Su_deliverHeld_55 : decode m_Su_deliverHeld.2.1 55 = .ok (.aload_n 0, 1) := by decide +kernel
theorem d_Su_deliverHeld_56 : decode m_Su_deliverHeld.2.1 56 = .ok (.getfield 47, 3) := by decide +kernel
theorem d_Su_deliverHeld_59 : decode m_Su_deliverHeld.2.1 59 = .ok (.iconst 2, 1) := by decide +kernel
theorem d_Su_deliverHeld_60 : decode m_Su_deliverHeld.2.1 60 = .ok (.if_icmp .ne 10, 3) := by decide +kernel
theorem d_Su_deliverHeld_63 : decode m_Su_deliverHeld.2.1 63 = .ok (.aload_n 0, 1) := by decide +kernel
theorem d_Su_deliverHeld_64 : decode m_Su_deliverHeld.2.1 64 = .ok (.getfield 60, 3) := by decide +kernel
theorem d_Su_deliverHeld_67 : decode m_Su_deliverHeld.2.1 67 = .ok (.invokevirtual 237, 3) := by decide +kernel
theorem d_Su_deliverHeld_70 : decode m_Su_deliverHeld.2.1 70 = .ok (.aload_n 0, 1) := by decide +kernel
theorem d_Su_deliverHeld_71 : decode m_Su_deliverHeld.2.1 71 = .ok (.getfield 31, 3) := by decide +kernel
theorem d_Su_deliverHeld_74 : decode m_Su_deliverHeld.2.1 74 = .ok (.invokevirtual 96, 3) := by decide +kernel
theorem d_Su_deliverHeld_77 : decode m_Su_deliverHeld.2.1 77 = .ok (.astore_n 1, 1) := by decide +kernel
theorem d_Su_deliverHeld_78 : decode m_Su_deliverHeld.2.1 78 = .ok (.aload_n 1, 1) := by decide +kernel
theorem d_Su_deliverHeld_79 : decode m_Su_deliverHeld.2.1 79 = .ok (.ifnull 8, 3) := by decide +kernel
theorem d_Su_deliverHeld_82 : decode m_Su_deliverHeld.2.1 82 = .ok (.aload_n 0, 1) := by decide +kernel
theorem d_Su_deliverHeld_83 : decode m_Su_deliverHeld.2.1 83 = .ok (.aload_n 1, 1) := by decide +kernel
theorem d_Su_deliverHeld_84 : decode m_Su_deliverHeld.2.1 84 = .ok (.invokevirtual 240, 3) := by decide +kernel
theorem d_Su_deliverHeld_87 : decode m_Su_deliverHeld.2.1 87 = .ok (.return_, 1) := by decide +kernel
theorem d_Su_layOutHeld_0 : decode m_Su_layOutHeld.2.1 0 = .ok (.aload_n 0, 1) := by decide +kernel
theorem d_Su_layOutHeld_1 : decode m_Su_layOutHeld.2.1 1 = .ok (.getfield 20, 3) := by decide +kernel
theorem d_Su_layOutHeld_4 : decode m_Su_layOutHeld.2.1 4 = .ok (.getfield 182, 3) := by decide +kernel
theorem d_Su_layOutHeld_7 : decode m_Su_layOutHeld.2.1 7 = .ok (.invokevirtual 147, 3) := by decide +kernel
theorem d_Su_layOutHeld_10 : decode m_Su_layOutHeld.2.1 10 = .ok (.ifCond .eq 11, 3) := by decide +kernel
theorem d_Su_layOutHeld_13 : decode m_Su_layOutHeld.2.1 13 = .ok (.aload_n 1, 1) := by decide +kernel
theorem d_Su_layOutHeld_14 : decode m_Su_layOutHeld.2.1 14 = .ok (.aload_n 0, 1) := by decide +kernel
theorem d_Su_layOutHeld_15 : decode m_Su_layOutHeld.2.1 15 = .ok (.getfield 60, 3) := by decide +kernel
theorem d_Su_layOutHeld_18 : decode m_Su_layOutHeld.2.1 18 = .ok (.invokevirtual 205, 3) := by decide +kernel
theorem d_Su_layOutHeld_21 : decode m_Su_layOutHeld.2.1 21 = .ok (.iconst 0, 1) := by decide +kernel
theorem d_Su_layOutHeld_22 : decode m_Su_layOutHeld.2.1 22 = .ok (.istore_n 2, 1) := by decide +kernel
theorem d_Su_layOutHeld_23 : decode m_Su_layOutHeld.2.1 23 = .ok (.iload_n 2, 1) := by decide +kernel
theorem d_Su_layOutHeld_24 : decode m_Su_layOutHeld.2.1 24 = .ok (.aload_n 0, 1) := by decide +kernel
theorem d_Su_layOutHeld_25 : decode m_Su_layOutHeld.2.1 25 = .ok (.getfield 20, 3) := by decide +kernel
theorem d_Su_layOutHeld_28 : decode m_Su_layOutHeld.2.1 28 = .ok (.getfield 182, 3) := by decide +kernel
theorem d_Su_layOutHeld_31 : decode m_Su_layOutHeld.2.1 31 = .ok (.invokevirtual 161, 3) := by decide +kernel
theorem d_Su_layOutHeld_34 : decode m_Su_layOutHeld.2.1 34 = .ok (.if_icmp .ge 56, 3) := by decide +kernel
theorem d_Su_layOutHeld_37 : decode m_Su_layOutHeld.2.1 37 = .ok (.aload_n 0, 1) := by decide +kernel
theorem d_Su_layOutHeld_38 : decode m_Su_layOutHeld.2.1 38 = .ok (.getfield 20, 3) := by decide +kernel
theorem d_Su_layOutHeld_41 : decode m_Su_layOutHeld.2.1 41 = .ok (.getfield 182, 3) := by decide +kernel
theorem d_Su_layOutHeld_44 : decode m_Su_layOutHeld.2.1 44 = .ok (.iload_n 2, 1) := by decide +kernel
theorem d_Su_layOutHeld_45 : decode m_Su_layOutHeld.2.1 45 = .ok (.invokevirtual 164, 3) := by decide +kernel
theorem d_Su_layOutHeld_48 : decode m_Su_layOutHeld.2.1 48 = .ok (.checkcast 223, 3) := by decide +kernel
theorem d_Su_layOutHeld_51 : decode m_Su_layOutHeld.2.1 51 = .ok (.astore_n 3, 1) := by decide +kernel
theorem d_Su_layOutHeld_52 : decode m_Su_layOutHeld.2.1 52 = .ok (.iconst 0, 1) := by decide +kernel
theorem d_Su_layOutHeld_53 : decode m_Su_layOutHeld.2.1 53 = .ok (.istore 4, 2) := by decide +kernel
theorem d_Su_layOutHeld_55 : decode m_Su_layOutHeld.2.1 55 = .ok (.iload 4, 2) := by decide +kernel
theorem d_Su_layOutHeld_57 : decode m_Su_layOutHeld.2.1 57 = .ok (.aload_n 3, 1) := by decide +kernel
theorem d_Su_layOutHeld_58 : decode m_Su_layOutHeld.2.1 58 = .ok (.getfield 243, 3) := by decide +kernel
theorem d_Su_layOutHeld_61 : decode m_Su_layOutHeld.2.1 61 = .ok (.if_icmp .ge 23, 3) := by decide +kernel
theorem d_Su_layOutHeld_64 : decode m_Su_layOutHeld.2.1 64 = .ok (.aload_n 1, 1) := by decide +kernel
theorem d_Su_layOutHeld_65 : decode m_Su_layOutHeld.2.1 65 = .ok (.aload_n 3, 1) := by decide +kernel
theorem d_Su_layOutHeld_66 : decode m_Su_layOutHeld.2.1 66 = .ok (.aload_n 0, 1) := by decide +kernel
theorem d_Su_layOutHeld_67 : decode m_Su_layOutHeld.2.1 67 = .ok (.getfield 60, 3) := by decide +kernel
theorem d_Su_layOutHeld_70 : decode m_Su_layOutHeld.2.1 70 = .ok (.iload 4, 2) := by decide +kernel
theorem d_Su_layOutHeld_72 : decode m_Su_layOutHeld.2.1 72 = .ok (.invokevirtual 244, 3) := by decide +kernel
theorem d_Su_layOutHeld_75 : decode m_Su_layOutHeld.2.1 75 = .ok (.invokevirtual 247, 3) := by decide +kernel
theorem d_Su_layOutHeld_78 : decode m_Su_layOutHeld.2.1 78 = .ok (.iinc 4 1, 3) := by decide +kernel
theorem d_Su_layOutHeld_81 : decode m_Su_layOutHeld.2.1 81 = .ok (.goto (-26), 3) := by decide +kernel
theorem d_Su_layOutHeld_84 : decode m_Su_layOutHeld.2.1 84 = .ok (.iinc 2 1, 3) := by decide +kernel
theorem d_Su_layOutHeld_87 : decode m_Su_layOutHeld.2.1 87 = .ok (.goto (-64), 3) := by decide +kernel
theorem d_Su_layOutHeld_90 : decode m_Su_layOutHeld.2.1 90 = .ok (.aload_n 1, 1) := by decide +kernel
theorem d_Su_layOutHeld_91 : decode m_Su_layOutHeld.2.1 91 = .ok (.aload_n 0, 1) := by decide +kernel
theorem d_Su_layOutHeld_92 : decode m_Su_layOutHeld.2.1 92 = .ok (.getfield 60, 3) := by decide +kernel
theorem d_Su_layOutHeld_95 : decode m_Su_layOutHeld.2.1 95 = .ok (.getfield 103, 3) := by decide +kernel
theorem d_Su_layOutHeld_98 : decode m_Su_layOutHeld.2.1 98 = .ok (.putfield 103, 3) := by decide +kernel
theorem d_Su_layOutHeld_101 : decode m_Su_layOutHeld.2.1 101 = .ok (.aload_n 1, 1) := by decide +kernel
theorem d_Su_layOutHeld_102 : decode m_Su_layOutHeld.2.1 102 = .ok (.aload_n 0, 1) := by decide +kernel
theorem d_Su_layOutHeld_103 : decode m_Su_layOutHeld.2.1 103 = .ok (.getfield 60, 3) := by decide +kernel
theorem d_Su_layOutHeld_106 : decode m_Su_layOutHeld.2.1 106 = .ok (.getfield 141, 3) := by decide +kernel
theorem d_Su_layOutHeld_109 : decode m_Su_layOutHeld.2.1 109 = .ok (.putfield 141, 3) := by decide +kernel
theorem d_Su_layOutHeld_112 : decode m_Su_layOutHeld.2.1 112 = .ok (.return_, 1) := by decide +kernel
theorem d_Su_longestOf_0 : decode m_Su_longestOf.2.1 0 = .ok (.iconst 0, 1) := by decide +kernel
theorem d_Su_longestOf_1 : decode m_Su_longestOf.2.1 1 = .ok (.istore_n 2, 1) := by decide +kernel
theorem d_Su_longestOf_2 : decode m_Su_longestOf.2.1 2 = .ok (.iconst 0, 1) := by decide +kernel
theorem d_Su_longestOf_3 : decode m_Su_longestOf.2.1 3 = .ok (.istore_n 3, 1) := by decide +kernel
theorem d_Su_longestOf_4 : decode m_Su_longestOf.2.1 4 = .ok (.iload_n 3, 1) := by decide +kernel
theorem d_Su_longestOf_5 : decode m_Su_longestOf.2.1 5 = .ok (.aload_n 0, 1) := by decide +kernel
theorem d_Su_longestOf_6 : decode m_Su_longestOf.2.1 6 = .ok (.getfield 27, 3) := by decide +kernel
theorem d_Su_longestOf_9 : decode m_Su_longestOf.2.1 9 = .ok (.getfield 95, 3) := by decide +kernel
theorem d_Su_longestOf_12 : decode m_Su_longestOf.2.1 12 = .ok (.if_icmp .ge 43, 3) := by decide +kernel
theorem d_Su_longestOf_15 : decode m_Su_longestOf.2.1 15 = .ok (.aload_n 0, 1) := by decide +kernel
theorem d_Su_longestOf_16 : decode m_Su_longestOf.2.1 16 = .ok (.getfield 27, 3) := by decide +kernel
theorem d_Su_longestOf_19 : decode m_Su_longestOf.2.1 19 = .ok (.iload_n 3, 1) := by decide +kernel
theorem d_Su_longestOf_20 : decode m_Su_longestOf.2.1 20 = .ok (.invokevirtual 106, 3) := by decide +kernel
theorem d_Su_longestOf_23 : decode m_Su_longestOf.2.1 23 = .ok (.astore 4, 2) := by decide +kernel
theorem d_Su_longestOf_25 : decode m_Su_longestOf.2.1 25 = .ok (.aload 4, 2) := by decide +kernel
theorem d_Su_longestOf_27 : decode m_Su_longestOf.2.1 27 = .ok (.ifnull 22, 3) := by decide +kernel
theorem d_Su_longestOf_30 : decode m_Su_longestOf.2.1 30 = .ok (.aload 4, 2) := by decide +kernel
theorem d_Su_longestOf_32 : decode m_Su_longestOf.2.1 32 = .ok (.getfield 100, 3) := by decide +kernel
theorem d_Su_longestOf_35 : decode m_Su_longestOf.2.1 35 = .ok (.iload_n 1, 1) := by decide +kernel
theorem d_Su_longestOf_36 : decode m_Su_longestOf.2.1 36 = .ok (.if_icmp .ne 13, 3) := by decide +kernel
theorem d_Su_longestOf_39 : decode m_Su_longestOf.2.1 39 = .ok (.iload_n 2, 1) := by decide +kernel
theorem d_Su_longestOf_40 : decode m_Su_longestOf.2.1 40 = .ok (.aload 4, 2) := by decide +kernel
theorem d_Su_longestOf_42 : decode m_Su_longestOf.2.1 42 = .ok (.getfield 134, 3) := by decide +kernel
theorem d_Su_longestOf_45 : decode m_Su_longestOf.2.1 45 = .ok (.invokestatic 217, 3) := by decide +kernel
theorem d_Su_longestOf_48 : decode m_Su_longestOf.2.1 48 = .ok (.istore_n 2, 1) := by decide +kernel
theorem d_Su_longestOf_49 : decode m_Su_longestOf.2.1 49 = .ok (.iinc 3 1, 3) := by decide +kernel
theorem d_Su_longestOf_52 : decode m_Su_longestOf.2.1 52 = .ok (.goto (-48), 3) := by decide +kernel
theorem d_Su_longestOf_55 : decode m_Su_longestOf.2.1 55 = .ok (.iload_n 2, 1) := by decide +kernel
theorem d_Su_longestOf_56 : decode m_Su_longestOf.2.1 56 = .ok (.ireturn, 1) := by decide +kernel
theorem d_Su_joinWithAll_0 : decode m_Su_joinWithAll.2.1 0 = .ok (.aload_n 0, 1) := by decide +kernel
theorem d_Su_joinWithAll_1 : decode m_Su_joinWithAll.2.1 1 = .ok (.getfield 20, 3) := by decide +kernel
theorem d_Su_joinWithAll_4 : decode m_Su_joinWithAll.2.1 4 = .ok (.getfield 144, 3) := by decide +kernel
theorem d_Su_joinWithAll_7 : decode m_Su_joinWithAll.2.1 7 = .ok (.invokevirtual 147, 3) := by decide +kernel
theorem d_Su_joinWithAll_10 : decode m_Su_joinWithAll.2.1 10 = .ok (.ifCond .eq 5, 3) := by decide +kernel
theorem d_Su_joinWithAll_13 : decode m_Su_joinWithAll.2.1 13 = .ok (.iconst 0, 1) := by decide +kernel
theorem d_Su_joinWithAll_14 : decode m_Su_joinWithAll.2.1 14 = .ok (.ireturn, 1) := by decide +kernel
theorem d_Su_joinWithAll_15 : decode m_Su_joinWithAll.2.1 15 = .ok (.aload_n 0, 1) := by decide +kernel
theorem d_Su_joinWithAll_16 : decode m_Su_joinWithAll.2.1 16 = .ok (.getfield 20, 3) := by decide +kernel
theorem d_Su_joinWithAll_19 : decode m_Su_joinWithAll.2.1 19 = .ok (.getfield 144, 3) := by decide +kernel
theorem d_Su_joinWithAll_22 : decode m_Su_joinWithAll.2.1 22 = .ok (.iconst 0, 1) := by decide +kernel
theorem d_Su_joinWithAll_23 : decode m_Su_joinWithAll.2.1 23 = .ok (.invokevirtual 164, 3) := by decide +kernel
theorem d_Su_joinWithAll_26 : decode m_Su_joinWithAll.2.1 26 = .ok (.checkcast 251, 3) := by decide +kernel
theorem d_Su_joinWithAll_29 : decode m_Su_joinWithAll.2.1 29 = .ok (.astore 4, 2) := by decide +kernel
theorem d_Su_joinWithAll_31 : decode m_Su_joinWithAll.2.1 31 = .ok (.iconst 0, 1) := by decide +kernel
theorem d_Su_joinWithAll_32 : decode m_Su_joinWithAll.2.1 32 = .ok (.istore 5, 2) := by decide +kernel
theorem d_Su_joinWithAll_34 : decode m_Su_joinWithAll.2.1 34 = .ok (.iconst 0, 1) := by decide +kernel
theorem d_Su_joinWithAll_35 : decode m_Su_joinWithAll.2.1 35 = .ok (.istore 6, 2) := by decide +kernel
theorem d_Su_joinWithAll_37 : decode m_Su_joinWithAll.2.1 37 = .ok (.iload 6, 2) := by decide +kernel
theorem d_Su_joinWithAll_39 : decode m_Su_joinWithAll.2.1 39 = .ok (.aload_n 0, 1) := by decide +kernel
theorem d_Su_joinWithAll_40 : decode m_Su_joinWithAll.2.1 40 = .ok (.getfield 27, 3) := by decide +kernel
theorem d_Su_joinWithAll_43 : decode m_Su_joinWithAll.2.1 43 = .ok (.getfield 95, 3) := by decide +kernel
theorem d_Su_joinWithAll_46 : decode m_Su_joinWithAll.2.1 46 = .ok (.if_icmp .ge 69, 3) := by decide +kernel
theorem d_Su_joinWithAll_49 : decode m_Su_joinWithAll.2.1 49 = .ok (.aload_n 0, 1) := by decide +kernel
theorem d_Su_joinWithAll_50 : decode m_Su_joinWithAll.2.1 50 = .ok (.getfield 27, 3) := by decide +kernel
theorem d_Su_joinWithAll_53 : decode m_Su_joinWithAll.2.1 53 = .ok (.iload 6, 2) := by decide +kernel
theorem d_Su_joinWithAll_55 : decode m_Su_joinWithAll.2.1 55 = .ok (.invokevirtual 106, 3) := by decide +kernel
theorem d_Su_joinWithAll_58 : decode m_Su_joinWithAll.2.1 58 = .ok (.astore 7, 2) := by decide +kernel
theorem d_Su_joinWithAll_60 : decode m_Su_joinWithAll.2.1 60 = .ok (.aload 7, 2) := by decide +kernel
theorem d_Su_joinWithAll_62 : decode m_Su_joinWithAll.2.1 62 = .ok (.ifnull 47, 3) := by decide +kernel
theorem d_Su_joinWithAll_65 : decode m_Su_joinWithAll.2.1 65 = .ok (.aload 7, 2) := by decide +kernel
theorem d_Su_joinWithAll_67 : decode m_Su_joinWithAll.2.1 67 = .ok (.getfield 100, 3) := by decide +kernel
theorem d_Su_joinWithAll_70 : decode m_Su_joinWithAll.2.1 70 = .ok (.iload_n 2, 1) := by decide +kernel
theorem d_Su_joinWithAll_71 : decode m_Su_joinWithAll.2.1 71 = .ok (.if_icmp .ne 38, 3) := by decide +kernel
theorem d_Su_joinWithAll_74 : decode m_Su_joinWithAll.2.1 74 = .ok (.aload 4, 2) := by decide +kernel
theorem d_Su_joinWithAll_76 : decode m_Su_joinWithAll.2.1 76 = .ok (.getfield 253, 3) := by decide +kernel
theorem d_Su_joinWithAll_79 : decode m_Su_joinWithAll.2.1 79 = .ok (.aload_n 1, 1) := by decide +kernel
theorem d_Su_joinWithAll_80 : decode m_Su_joinWithAll.2.1 80 = .ok (.aload 4, 2) := by decide +kernel
theorem d_Su_joinWithAll_82 : decode m_Su_joinWithAll.2.1 82 = .ok (.getfield 253, 3) := by decide +kernel
theorem d_Su_joinWithAll_85 : decode m_Su_joinWithAll.2.1 85 = .ok (.aload 7, 2) := by decide +kernel
theorem d_Su_joinWithAll_87 : decode m_Su_joinWithAll.2.1 87 = .ok (.aload 4, 2) := by decide +kernel
theorem d_Su_joinWithAll_89 : decode m_Su_joinWithAll.2.1 89 = .ok (.getfield 257, 3) := by decide +kernel
theorem d_Su_joinWithAll_92 : decode m_Su_joinWithAll.2.1 92 = .ok (.invokestatic 260, 3) := by decide +kernel
theorem d_Su_joinWithAll_95 : decode m_Su_joinWithAll.2.1 95 = .ok (.ifCond .ne 14, 3) := by decide +kernel
theorem d_Su_joinWithAll_98 : decode m_Su_joinWithAll.2.1 98 = .ok (.iconst 1, 1) := by decide +kernel
theorem d_Su_joinWithAll_99 : decode m_Su_joinWithAll.2.1 99 = .ok (.istore 5, 2) := by decide +kernel
theorem d_Su_joinWithAll_101 : decode m_Su_joinWithAll.2.1 101 = .ok (.aload_n 0, 1) := by decide +kernel
theorem d_Su_joinWithAll_102 : decode m_Su_joinWithAll.2.1 102 = .ok (.aload_n 1, 1) := by decide +kernel
theorem d_Su_joinWithAll_103 : decode m_Su_joinWithAll.2.1 103 = .ok (.aload 7, 2) := by decide +kernel
theorem d_Su_joinWithAll_105 : decode m_Su_joinWithAll.2.1 105 = .ok (.iload_n 3, 1) := by decide +kernel
theorem d_Su_joinWithAll_106 : decode m_Su_joinWithAll.2.1 106 = .ok (.invokevirtual 264, 3) := by decide +kernel
theorem d_Su_joinWithAll_109 : decode m_Su_joinWithAll.2.1 109 = .ok (.iinc 6 1, 3) := by decide +kernel
theorem d_Su_joinWithAll_112 : decode m_Su_joinWithAll.2.1 112 = .ok (.goto (-75), 3) := by decide +kernel
theorem d_Su_joinWithAll_115 : decode m_Su_joinWithAll.2.1 115 = .ok (.iload 5, 2) := by decide +kernel
theorem d_Su_joinWithAll_117 : decode m_Su_joinWithAll.2.1 117 = .ok (.ireturn, 1) := by decide +kernel
theorem d_Su_addJoined_0 : decode m_Su_addJoined.2.1 0 = .ok (.aload_n 0, 1) := by decide +kernel
theorem d_Su_addJoined_1 : decode m_Su_addJoined.2.1 1 = .ok (.getfield 37, 3) := by decide +kernel
theorem d_Su_addJoined_4 : decode m_Su_addJoined.2.1 4 = .ok (.invokevirtual 96, 3) := by decide +kernel
theorem d_Su_addJoined_7 : decode m_Su_addJoined.2.1 7 = .ok (.astore 4, 2) := by decide +kernel
theorem d_Su_addJoined_9 : decode m_Su_addJoined.2.1 9 = .ok (.aload 4, 2) := by decide +kernel
theorem d_Su_addJoined_11 : decode m_Su_addJoined.2.1 11 = .ok (.ifnonnull 4, 3) := by decide +kernel
theorem d_Su_addJoined_14 : decode m_Su_addJoined.2.1 14 = .ok (.return_, 1) := by decide +kernel
theorem d_Su_addJoined_15 : decode m_Su_addJoined.2.1 15 = .ok (.aload 4, 2) := by decide +kernel
theorem d_Su_addJoined_17 : decode m_Su_addJoined.2.1 17 = .ok (.aload_n 1, 1) := by decide +kernel
theorem d_Su_addJoined_18 : decode m_Su_addJoined.2.1 18 = .ok (.invokevirtual 205, 3) := by decide +kernel
theorem d_Su_addJoined_21 : decode m_Su_addJoined.2.1 21 = .ok (.aload_n 1, 1) := by decide +kernel
theorem d_Su_addJoined_22 : decode m_Su_addJoined.2.1 22 = .ok (.getfield 134, 3) := by decide +kernel
theorem d_Su_addJoined_25 : decode m_Su_addJoined.2.1 25 = .ok (.istore 5, 2) := by decide +kernel
theorem d_Su_addJoined_27 : decode m_Su_addJoined.2.1 27 = .ok (.iload 5, 2) := by decide +kernel
theorem d_Su_addJoined_29 : decode m_Su_addJoined.2.1 29 = .ok (.iload_n 3, 1) := by decide +kernel
theorem d_Su_addJoined_30 : decode m_Su_addJoined.2.1 30 = .ok (.if_icmp .ge 16, 3) := by decide +kernel
theorem d_Su_addJoined_33 : decode m_Su_addJoined.2.1 33 = .ok (.aload 4, 2) := by decide +kernel
theorem d_Su_addJoined_35 : decode m_Su_addJoined.2.1 35 = .ok (.bipush 32, 2) := by decide +kernel
theorem d_Su_addJoined_37 : decode m_Su_addJoined.2.1 37 = .ok (.invokevirtual 247, 3) := by decide +kernel
theorem d_Su_addJoined_40 : decode m_Su_addJoined.2.1 40 = .ok (.iinc 5 1, 3) := by decide +kernel
theorem d_Su_addJoined_43 : decode m_Su_addJoined.2.1 43 = .ok (.goto (-16), 3) := by decide +kernel
theorem d_Su_addJoined_46 : decode m_Su_addJoined.2.1 46 = .ok (.iconst 0, 1) := by decide +kernel
theorem d_Su_addJoined_47 : decode m_Su_addJoined.2.1 47 = .ok (.istore 5, 2) := by decide +kernel
theorem d_Su_addJoined_49 : decode m_Su_addJoined.2.1 49 = .ok (.iload 5, 2) := by decide +kernel
theorem d_Su_addJoined_51 : decode m_Su_addJoined.2.1 51 = .ok (.aload_n 2, 1) := by decide +kernel
theorem d_Su_addJoined_52 : decode m_Su_addJoined.2.1 52 = .ok (.getfield 134, 3) := by decide +kernel
theorem d_Su_addJoined_55 : decode m_Su_addJoined.2.1 55 = .ok (.if_icmp .ge 20, 3) := by decide +kernel
theorem d_Su_addJoined_58 : decode m_Su_addJoined.2.1 58 = .ok (.aload 4, 2) := by decide +kernel
theorem d_Su_addJoined_60 : decode m_Su_addJoined.2.1 60 = .ok (.aload_n 2, 1) := by decide +kernel
theorem d_Su_addJoined_61 : decode m_Su_addJoined.2.1 61 = .ok (.iload 5, 2) := by decide +kernel
theorem d_Su_addJoined_63 : decode m_Su_addJoined.2.1 63 = .ok (.invokevirtual 137, 3) := by decide +kernel
theorem d_Su_addJoined_66 : decode m_Su_addJoined.2.1 66 = .ok (.invokevirtual 247, 3) := by decide +kernel
theorem d_Su_addJoined_69 : decode m_Su_addJoined.2.1 69 = .ok (.iinc 5 1, 3) := by decide +kernel
theorem d_Su_addJoined_72 : decode m_Su_addJoined.2.1 72 = .ok (.goto (-23), 3) := by decide +kernel
theorem d_Su_addJoined_75 : decode m_Su_addJoined.2.1 75 = .ok (.return_, 1) := by decide +kernel
theorem d_Su_compareParts_0 : decode m_Su_compareParts.2.1 0 = .ok (.aload_n 0, 1) := by decide +kernel
theorem d_Su_compareParts_1 : decode m_Su_compareParts.2.1 1 = .ok (.getfield 243, 3) := by decide +kernel
theorem d_Su_compareParts_4 : decode m_Su_compareParts.2.1 4 = .ok (.aload_n 2, 1) := by decide +kernel
theorem d_Su_compareParts_5 : decode m_Su_compareParts.2.1 5 = .ok (.getfield 243, 3) := by decide +kernel
theorem d_Su_compareParts_8 : decode m_Su_compareParts.2.1 8 = .ok (.invokestatic 217, 3) := by decide +kernel
theorem d_Su_compareParts_11 : decode m_Su_compareParts.2.1 11 = .ok (.istore 5, 2) := by decide +kernel
theorem d_Su_compareParts_13 : decode m_Su_compareParts.2.1 13 = .ok (.iconst 0, 1) := by decide +kernel
theorem d_Su_compareParts_14 : decode m_Su_compareParts.2.1 14 = .ok (.istore 6, 2) := by decide +kernel
theorem d_Su_compareParts_16 : decode m_Su_compareParts.2.1 16 = .ok (.iload 6, 2) := by decide +kernel
theorem d_Su_compareParts_18 : decode m_Su_compareParts.2.1 18 = .ok (.iload 5, 2) := by decide +kernel
theorem d_Su_compareParts_20 : decode m_Su_compareParts.2.1 20 = .ok (.if_icmp .ge 61, 3) := by decide +kernel
theorem d_Su_compareParts_23 : decode m_Su_compareParts.2.1 23 = .ok (.aload_n 0, 1) := by decide +kernel
theorem d_Su_compareParts_24 : decode m_Su_compareParts.2.1 24 = .ok (.aload_n 1, 1) := by decide +kernel
theorem d_Su_compareParts_25 : decode m_Su_compareParts.2.1 25 = .ok (.iload 6, 2) := by decide +kernel
theorem d_Su_compareParts_27 : decode m_Su_compareParts.2.1 27 = .ok (.invokevirtual 244, 3) := by decide +kernel
theorem d_Su_compareParts_30 : decode m_Su_compareParts.2.1 30 = .ok (.istore 7, 2) := by decide +kernel
theorem d_Su_compareParts_32 : decode m_Su_compareParts.2.1 32 = .ok (.aload_n 2, 1) := by decide +kernel
theorem d_Su_compareParts_33 : decode m_Su_compareParts.2.1 33 = .ok (.aload_n 3, 1) := by decide +kernel
theorem d_Su_compareParts_34 : decode m_Su_compareParts.2.1 34 = .ok (.iload 6, 2) := by decide +kernel
theorem d_Su_compareParts_36 : decode m_Su_compareParts.2.1 36 = .ok (.invokevirtual 244, 3) := by decide +kernel
theorem d_Su_compareParts_39 : decode m_Su_compareParts.2.1 39 = .ok (.istore 8, 2) := by decide +kernel
theorem d_Su_compareParts_41 : decode m_Su_compareParts.2.1 41 = .ok (.iload 4, 2) := by decide +kernel
theorem d_Su_compareParts_43 : decode m_Su_compareParts.2.1 43 = .ok (.ifCond .eq 17, 3) := by decide +kernel
theorem d_Su_compareParts_46 : decode m_Su_compareParts.2.1 46 = .ok (.iload 7, 2) := by decide +kernel
theorem d_Su_compareParts_48 : decode m_Su_compareParts.2.1 48 = .ok (.invokestatic 268, 3) := by decide +kernel
theorem d_Su_compareParts_51 : decode m_Su_compareParts.2.1 51 = .ok (.iload 8, 2) := by decide +kernel
theorem d_Su_compareParts_53 : decode m_Su_compareParts.2.1 53 = .ok (.invokestatic 268, 3) := by decide +kernel
theorem d_Su_compareParts_56 : decode m_Su_compareParts.2.1 56 = .ok (.isub, 1) := by decide +kernel
theorem d_Su_compareParts_57 : decode m_Su_compareParts.2.1 57 = .ok (.goto 8, 3) := by decide +kernel
theorem d_Su_compareParts_60 : decode m_Su_compareParts.2.1 60 = .ok (.iload 7, 2) := by decide +kernel
theorem d_Su_compareParts_62 : decode m_Su_compareParts.2.1 62 = .ok (.iload 8, 2) := by decide +kernel
theorem d_Su_compareParts_64 : decode m_Su_compareParts.2.1 64 = .ok (.isub, 1) := by decide +kernel
theorem d_Su_compareParts_65 : decode m_Su_compareParts.2.1 65 = .ok (.istore 9, 2) := by decide +kernel
theorem d_Su_compareParts_67 : decode m_Su_compareParts.2.1 67 = .ok (.iload 9, 2) := by decide +kernel
theorem d_Su_compareParts_69 : decode m_Su_compareParts.2.1 69 = .ok (.ifCond .eq 6, 3) := by decide +kernel
theorem d_Su_compareParts_72 : decode m_Su_compareParts.2.1 72 = .ok (.iload 9, 2) := by decide +kernel
theorem d_Su_compareParts_74 : decode m_Su_compareParts.2.1 74 = .ok (.ireturn, 1) := by decide +kernel
theorem d_Su_compareParts_75 : decode m_Su_compareParts.2.1 75 = .ok (.iinc 6 1, 3) := by decide +kernel
theorem d_Su_compareParts_78 : decode m_Su_compareParts.2.1 78 = .ok (.goto (-62), 3) := by decide +kernel
theorem d_Su_compareParts_81 : decode m_Su_compareParts.2.1 81 = .ok (.iconst 0, 1) := by decide +kernel
theorem d_Su_compareParts_82 : decode m_Su_compareParts.2.1 82 = .ok (.ireturn, 1) := by decide +kernel
theorem d_Su_isDigit_0 : decode m_Su_isDigit.2.1 0 = .ok (.iload_n 0, 1) := by decide +kernel
theorem d_Su_isDigit_1 : decode m_Su_isDigit.2.1 1 = .ok (.bipush 48, 2) := by decide +kernel
theorem d_Su_isDigit_3 : decode m_Su_isDigit.2.1 3 = .ok (.if_icmp .lt 13, 3) := by decide +kernel
theorem d_Su_isDigit_6 : decode m_Su_isDigit.2.1 6 = .ok (.iload_n 0, 1) := by decide +kernel
theorem d_Su_isDigit_7 : decode m_Su_isDigit.2.1 7 = .ok (.bipush 57, 2) := by decide +kernel
theorem d_Su_isDigit_9 : decode m_Su_isDigit.2.1 9 = .ok (.if_icmp .gt 7, 3) := by decide +kernel
theorem d_Su_isDigit_12 : decode m_Su_isDigit.2.1 12 = .ok (.iconst 1, 1) := by decide +kernel
theorem d_Su_isDigit_13 : decode m_Su_isDigit.2.1 13 = .ok (.goto 4, 3) := by decide +kernel
theorem d_Su_isDigit_16 : decode m_Su_isDigit.2.1 16 = .ok (.iconst 0, 1) := by decide +kernel
theorem d_Su_isDigit_17 : decode m_Su_isDigit.2.1 17 = .ok (.ireturn, 1) := by decide +kernel
theorem d_Su_digitOf_0 : decode m_Su_digitOf.2.1 0 = .ok (.iload_n 0, 1) := by decide +kernel
theorem d_Su_digitOf_1 : decode m_Su_digitOf.2.1 1 = .ok (.invokestatic 271, 3) := by decide +kernel
theorem d_Su_digitOf_4 : decode m_Su_digitOf.2.1 4 = .ok (.ifCond .eq 10, 3) := by decide +kernel
theorem d_Su_digitOf_7 : decode m_Su_digitOf.2.1 7 = .ok (.iload_n 0, 1) := by decide +kernel
theorem d_Su_digitOf_8 : decode m_Su_digitOf.2.1 8 = .ok (.bipush 48, 2) := by decide +kernel
theorem d_Su_digitOf_10 : decode m_Su_digitOf.2.1 10 = .ok (.isub, 1) := by decide +kernel
theorem d_Su_digitOf_11 : decode m_Su_digitOf.2.1 11 = .ok (.goto 4, 3) := by decide +kernel
theorem d_Su_digitOf_14 : decode m_Su_digitOf.2.1 14 = .ok (.iconst 0, 1) := by decide +kernel
theorem d_Su_digitOf_15 : decode m_Su_digitOf.2.1 15 = .ok (.ireturn, 1) := by decide +kernel
