theorem d_Reader_init_0 : decode m_Reader_init.2.1 0 = .ok (.aload_n 0, 1) := by decide +kernel
theorem d_Reader_init_1 : decode m_Reader_init.2.1 1 = .ok (.invokespecial 3, 3) := by decide +kernel
theorem d_Reader_init_4 : decode m_Reader_init.2.1 4 = .ok (.aload_n 0, 1) := by decide +kernel
theorem d_Reader_init_5 : decode m_Reader_init.2.1 5 = .ok (.new 9, 3) := by decide +kernel
theorem d_Reader_init_8 : decode m_Reader_init.2.1 8 = .ok (.dup, 1) := by decide +kernel
theorem d_Reader_init_9 : decode m_Reader_init.2.1 9 = .ok (.invokespecial 11, 3) := by decide +kernel
theorem d_Reader_init_12 : decode m_Reader_init.2.1 12 = .ok (.putfield 12, 3) := by decide +kernel
theorem d_Reader_init_15 : decode m_Reader_init.2.1 15 = .ok (.aload_n 0, 1) := by decide +kernel
theorem d_Reader_init_16 : decode m_Reader_init.2.1 16 = .ok (.iconst 0, 1) := by decide +kernel
theorem d_Reader_init_17 : decode m_Reader_init.2.1 17 = .ok (.putfield 18, 3) := by decide +kernel
theorem d_Reader_init_20 : decode m_Reader_init.2.1 20 = .ok (.aload_n 0, 1) := by decide +kernel
theorem d_Reader_init_21 : decode m_Reader_init.2.1 21 = .ok (.iconst 0, 1) := by decide +kernel
theorem d_Reader_init_22 : decode m_Reader_init.2.1 22 = .ok (.putfield 22, 3) := by decide +kernel
theorem d_Reader_init_25 : decode m_Reader_init.2.1 25 = .ok (.aload_n 0, 1) := by decide +kernel
theorem d_Reader_init_26 : decode m_Reader_init.2.1 26 = .ok (.aload_n 1, 1) := by decide +kernel
theorem d_Reader_init_27 : decode m_Reader_init.2.1 27 = .ok (.putfield 25, 3) := by decide +kernel
theorem d_Reader_init_30 : decode m_Reader_init.2.1 30 = .ok (.aload_n 0, 1) := by decide +kernel
theorem d_Reader_init_31 : decode m_Reader_init.2.1 31 = .ok (.iload_n 2, 1) := by decide +kernel
theorem d_Reader_init_32 : decode m_Reader_init.2.1 32 = .ok (.aload_n 1, 1) := by decide +kernel
theorem d_Reader_init_33 : decode m_Reader_init.2.1 33 = .ok (.arraylength, 1) := by decide +kernel
theorem d_Reader_init_34 : decode m_Reader_init.2.1 34 = .ok (.invokestatic 29, 3) := by decide +kernel
theorem d_Reader_init_37 : decode m_Reader_init.2.1 37 = .ok (.putfield 35, 3) := by decide +kernel
theorem d_Reader_init_40 : decode m_Reader_init.2.1 40 = .ok (.return_, 1) := by decide +kernel
theorem d_Reader_readAll_0 : decode m_Reader_readAll.2.1 0 = .ok (.aload_n 0, 1) := by decide +kernel
theorem d_Reader_readAll_1 : decode m_Reader_readAll.2.1 1 = .ok (.getfield 12, 3) := by decide +kernel
theorem d_Reader_readAll_4 : decode m_Reader_readAll.2.1 4 = .ok (.getfield 38, 3) := by decide +kernel
theorem d_Reader_readAll_7 : decode m_Reader_readAll.2.1 7 = .ok (.aload_n 0, 1) := by decide +kernel
theorem d_Reader_readAll_8 : decode m_Reader_readAll.2.1 8 = .ok (.getfield 35, 3) := by decide +kernel
theorem d_Reader_readAll_11 : decode m_Reader_readAll.2.1 11 = .ok (.if_icmp .ge 41, 3) := by decide +kernel
theorem d_Reader_readAll_14 : decode m_Reader_readAll.2.1 14 = .ok (.aload_n 0, 1) := by decide +kernel
theorem d_Reader_readAll_15 : decode m_Reader_readAll.2.1 15 = .ok (.invokevirtual 41, 3) := by decide +kernel
theorem d_Reader_readAll_18 : decode m_Reader_readAll.2.1 18 = .ok (.ifCond .eq 34, 3) := by decide +kernel
theorem d_Reader_readAll_21 : decode m_Reader_readAll.2.1 21 = .ok (.aload_n 0, 1) := by decide +kernel
theorem d_Reader_readAll_22 : decode m_Reader_readAll.2.1 22 = .ok (.aload_n 0, 1) := by decide +kernel
theorem d_Reader_readAll_23 : decode m_Reader_readAll.2.1 23 = .ok (.invokevirtual 45, 3) := by decide +kernel
theorem d_Reader_readAll_26 : decode m_Reader_readAll.2.1 26 = .ok (.invokevirtual 49, 3) := by decide +kernel
theorem d_Reader_readAll_29 : decode m_Reader_readAll.2.1 29 = .ok (.aload_n 0, 1) := by decide +kernel
theorem d_Reader_readAll_30 : decode m_Reader_readAll.2.1 30 = .ok (.ldc 53, 2) := by decide +kernel
theorem d_Reader_readAll_32 : decode m_Reader_readAll.2.1 32 = .ok (.invokevirtual 55, 3) := by decide +kernel
theorem d_Reader_readAll_35 : decode m_Reader_readAll.2.1 35 = .ok (.pop, 1) := by decide +kernel
theorem d_Reader_readAll_36 : decode m_Reader_readAll.2.1 36 = .ok (.aload_n 0, 1) := by decide +kernel
theorem d_Reader_readAll_37 : decode m_Reader_readAll.2.1 37 = .ok (.getfield 12, 3) := by decide +kernel
theorem d_Reader_readAll_40 : decode m_Reader_readAll.2.1 40 = .ok (.dup, 1) := by decide +kernel
theorem d_Reader_readAll_41 : decode m_Reader_readAll.2.1 41 = .ok (.getfield 38, 3) := by decide +kernel
theorem d_Reader_readAll_44 : decode m_Reader_readAll.2.1 44 = .ok (.iconst 1, 1) := by decide +kernel
theorem d_Reader_readAll_45 : decode m_Reader_readAll.2.1 45 = .ok (.iadd, 1) := by decide +kernel
theorem d_Reader_readAll_46 : decode m_Reader_readAll.2.1 46 = .ok (.putfield 38, 3) := by decide +kernel
theorem d_Reader_readAll_49 : decode m_Reader_readAll.2.1 49 = .ok (.goto (-49), 3) := by decide +kernel
theorem d_Reader_readAll_52 : decode m_Reader_readAll.2.1 52 = .ok (.aload_n 0, 1) := by decide +kernel
theorem d_Reader_readAll_53 : decode m_Reader_readAll.2.1 53 = .ok (.getfield 12, 3) := by decide +kernel
theorem d_Reader_readAll_56 : decode m_Reader_readAll.2.1 56 = .ok (.areturn, 1) := by decide +kernel
theorem d_Reader_readSaid_0 : decode m_Reader_readSaid.2.1 0 = .ok (.getstatic 59, 3) := by decide +kernel
theorem d_Reader_readSaid_3 : decode m_Reader_readSaid.2.1 3 = .ok (.aload_n 1, 1) := by decide +kernel
theorem d_Reader_readSaid_4 : decode m_Reader_readSaid.2.1 4 = .ok (.invokevirtual 64, 3) := by decide +kernel
theorem d_Reader_readSaid_7 : decode m_Reader_readSaid.2.1 7 = .ok (.iaload, 1) := by decide +kernel
theorem d_Reader_readSaid_8 : decode m_Reader_readSaid.2.1 8 = .ok (.tableswitch 101 1 6 #[40, 47, 54, 69, 76, 83], 40) := by decide +kernel
theorem d_Reader_readSaid_48 : decode m_Reader_readSaid.2.1 48 = .ok (.aload_n 0, 1) := by decide +kernel
theorem d_Reader_readSaid_49 : decode m_Reader_readSaid.2.1 49 = .ok (.invokevirtual 70, 3) := by decide +kernel
theorem d_Reader_readSaid_52 : decode m_Reader_readSaid.2.1 52 = .ok (.goto 72, 3) := by decide +kernel
theorem d_Reader_readSaid_55 : decode m_Reader_readSaid.2.1 55 = .ok (.aload_n 0, 1) := by decide +kernel
theorem d_Reader_readSaid_56 : decode m_Reader_readSaid.2.1 56 = .ok (.invokevirtual 73, 3) := by decide +kernel
theorem d_Reader_readSaid_59 : decode m_Reader_readSaid.2.1 59 = .ok (.goto 65, 3) := by decide +kernel
theorem d_Reader_readSaid_62 : decode m_Reader_readSaid.2.1 62 = .ok (.aload_n 0, 1) := by decide +kernel
theorem d_Reader_readSaid_63 : decode m_Reader_readSaid.2.1 63 = .ok (.getfield 12, 3) := by decide +kernel
theorem d_Reader_readSaid_66 : decode m_Reader_readSaid.2.1 66 = .ok (.iconst 1, 1) := by decide +kernel
theorem d_Reader_readSaid_67 : decode m_Reader_readSaid.2.1 67 = .ok (.putfield 76, 3) := by decide +kernel
theorem d_Reader_readSaid_70 : decode m_Reader_readSaid.2.1 70 = .ok (.aload_n 0, 1) := by decide +kernel
theorem d_Reader_readSaid_71 : decode m_Reader_readSaid.2.1 71 = .ok (.invokevirtual 73, 3) := by decide +kernel
theorem d_Reader_readSaid_74 : decode m_Reader_readSaid.2.1 74 = .ok (.goto 50, 3) := by decide +kernel
theorem d_Reader_readSaid_77 : decode m_Reader_readSaid.2.1 77 = .ok (.aload_n 0, 1) := by decide +kernel
theorem d_Reader_readSaid_78 : decode m_Reader_readSaid.2.1 78 = .ok (.invokevirtual 80, 3) := by decide +kernel
theorem d_Reader_readSaid_81 : decode m_Reader_readSaid.2.1 81 = .ok (.goto 43, 3) := by decide +kernel
theorem d_Reader_readSaid_84 : decode m_Reader_readSaid.2.1 84 = .ok (.aload_n 0, 1) := by decide +kernel
theorem d_Reader_readSaid_85 : decode m_Reader_readSaid.2.1 85 = .ok (.invokevirtual 83, 3) := by decide +kernel
theorem d_Reader_readSaid_88 : decode m_Reader_readSaid.2.1 88 = .ok (.goto 36, 3) := by decide +kernel
theorem d_Reader_readSaid_91 : decode m_Reader_readSaid.2.1 91 = .ok (.aload_n 0, 1) := by decide +kernel
theorem d_Reader_readSaid_92 : decode m_Reader_readSaid.2.1 92 = .ok (.getfield 12, 3) := by decide +kernel
theorem d_Reader_readSaid_95 : decode m_Reader_readSaid.2.1 95 = .ok (.aload_n 0, 1) := by decide +kernel
theorem d_Reader_readSaid_96 : decode m_Reader_readSaid.2.1 96 = .ok (.iconst 0, 1) := by decide +kernel
theorem d_Reader_readSaid_97 : decode m_Reader_readSaid.2.1 97 = .ok (.sipush 9999, 3) := by decide +kernel
theorem d_Reader_readSaid_100 : decode m_Reader_readSaid.2.1 100 = .ok (.invokevirtual 86, 3) := by decide +kernel
theorem d_Reader_readSaid_103 : decode m_Reader_readSaid.2.1 103 = .ok (.putfield 89, 3) := by decide +kernel
theorem d_Reader_readSaid_106 : decode m_Reader_readSaid.2.1 106 = .ok (.goto 18, 3) := by decide +kernel
theorem d_Reader_readSaid_109 : decode m_Reader_readSaid.2.1 109 = .ok (.aload_n 0, 1) := by decide +kernel
theorem d_Reader_readSaid_110 : decode m_Reader_readSaid.2.1 110 = .ok (.getfield 12, 3) := by decide +kernel
theorem d_Reader_readSaid_113 : decode m_Reader_readSaid.2.1 113 = .ok (.aload_n 0, 1) := by decide +kernel
theorem d_Reader_readSaid_114 : decode m_Reader_readSaid.2.1 114 = .ok (.iconst 0, 1) := by decide +kernel
theorem d_Reader_readSaid_115 : decode m_Reader_readSaid.2.1 115 = .ok (.sipush 9999, 3) := by decide +kernel
theorem d_Reader_readSaid_118 : decode m_Reader_readSaid.2.1 118 = .ok (.invokevirtual 86, 3) := by decide +kernel
theorem d_Reader_readSaid_121 : decode m_Reader_readSaid.2.1 121 = .ok (.putfield 92, 3) := by decide +kernel
theorem d_Reader_readSaid_124 : decode m_Reader_readSaid.2.1 124 = .ok (.return_, 1) := by decide +kernel
theorem d_Reader_readKeys_0 : decode m_Reader_readKeys.2.1 0 = .ok (.aload_n 0, 1) := by decide +kernel
theorem d_Reader_readKeys_1 : decode m_Reader_readKeys.2.1 1 = .ok (.bipush 40, 2) := by decide +kernel
theorem d_Reader_readKeys_3 : decode m_Reader_readKeys.2.1 3 = .ok (.invokevirtual 95, 3) := by decide +kernel
theorem d_Reader_readKeys_6 : decode m_Reader_readKeys.2.1 6 = .ok (.astore_n 1, 1) := by decide +kernel
theorem d_Reader_readKeys_7 : decode m_Reader_readKeys.2.1 7 = .ok (.aload_n 0, 1) := by decide +kernel
theorem d_Reader_readKeys_8 : decode m_Reader_readKeys.2.1 8 = .ok (.ldc 99, 2) := by decide +kernel
theorem d_Reader_readKeys_10 : decode m_Reader_readKeys.2.1 10 = .ok (.invokevirtual 55, 3) := by decide +kernel
theorem d_Reader_readKeys_13 : decode m_Reader_readKeys.2.1 13 = .ok (.pop, 1) := by decide +kernel
theorem d_Reader_readKeys_14 : decode m_Reader_readKeys.2.1 14 = .ok (.aload_n 0, 1) := by decide +kernel
theorem d_Reader_readKeys_15 : decode m_Reader_readKeys.2.1 15 = .ok (.ldc 101, 2) := by decide +kernel
theorem d_Reader_readKeys_17 : decode m_Reader_readKeys.2.1 17 = .ok (.invokevirtual 55, 3) := by decide +kernel
theorem d_Reader_readKeys_20 : decode m_Reader_readKeys.2.1 20 = .ok (.bipush 100, 2) := by decide +kernel
theorem d_Reader_readKeys_22 : decode m_Reader_readKeys.2.1 22 = .ok (.if_icmp .ne 7, 3) := by decide +kernel
theorem d_Reader_readKeys_25 : decode m_Reader_readKeys.2.1 25 = .ok (.iconst 1, 1) := by decide +kernel
theorem d_Reader_readKeys_26 : decode m_Reader_readKeys.2.1 26 = .ok (.goto 4, 3) := by decide +kernel
theorem d_Reader_readKeys_29 : decode m_Reader_readKeys.2.1 29 = .ok (.iconst 0, 1) := by decide +kernel
theorem d_Reader_readKeys_30 : decode m_Reader_readKeys.2.1 30 = .ok (.istore_n 2, 1) := by decide +kernel
theorem d_Reader_readKeys_31 : decode m_Reader_readKeys.2.1 31 = .ok (.iconst 0, 1) := by decide +kernel
theorem d_Reader_readKeys_32 : decode m_Reader_readKeys.2.1 32 = .ok (.istore_n 3, 1) := by decide +kernel
theorem d_Reader_readKeys_33 : decode m_Reader_readKeys.2.1 33 = .ok (.aload_n 0, 1) := by decide +kernel
theorem d_Reader_readKeys_34 : decode m_Reader_readKeys.2.1 34 = .ok (.invokevirtual 103, 3) := by decide +kernel
theorem d_Reader_readKeys_37 : decode m_Reader_readKeys.2.1 37 = .ok (.bipush 44, 2) := by decide +kernel
theorem d_Reader_readKeys_39 : decode m_Reader_readKeys.2.1 39 = .ok (.if_icmp .ne 27, 3) := by decide +kernel
theorem d_Reader_readKeys_42 : decode m_Reader_readKeys.2.1 42 = .ok (.aload_n 0, 1) := by decide +kernel
theorem d_Reader_readKeys_43 : decode m_Reader_readKeys.2.1 43 = .ok (.ldc 99, 2) := by decide +kernel
theorem d_Reader_readKeys_45 : decode m_Reader_readKeys.2.1 45 = .ok (.invokevirtual 55, 3) := by decide +kernel
theorem d_Reader_readKeys_48 : decode m_Reader_readKeys.2.1 48 = .ok (.pop, 1) := by decide +kernel
theorem d_Reader_readKeys_49 : decode m_Reader_readKeys.2.1 49 = .ok (.aload_n 0, 1) := by decide +kernel
theorem d_Reader_readKeys_50 : decode m_Reader_readKeys.2.1 50 = .ok (.ldc 106, 2) := by decide +kernel
theorem d_Reader_readKeys_52 : decode m_Reader_readKeys.2.1 52 = .ok (.invokevirtual 55, 3) := by decide +kernel
theorem d_Reader_readKeys_55 : decode m_Reader_readKeys.2.1 55 = .ok (.bipush 110, 2) := by decide +kernel
theorem d_Reader_readKeys_57 : decode m_Reader_readKeys.2.1 57 = .ok (.if_icmp .ne 7, 3) := by decide +kernel
theorem d_Reader_readKeys_60 : decode m_Reader_readKeys.2.1 60 = .ok (.iconst 1, 1) := by decide +kernel
theorem d_Reader_readKeys_61 : decode m_Reader_readKeys.2.1 61 = .ok (.goto 4, 3) := by decide +kernel
theorem d_Reader_readKeys_64 : decode m_Reader_readKeys.2.1 64 = .ok (.iconst 0, 1) := by decide +kernel
theorem d_Reader_readKeys_65 : decode m_Reader_readKeys.2.1 65 = .ok (.istore_n 3, 1) := by decide +kernel
theorem d_Reader_readKeys_66 : decode m_Reader_readKeys.2.1 66 = .ok (.aload_n 0, 1) := by decide +kernel
theorem d_Reader_readKeys_67 : decode m_Reader_readKeys.2.1 67 = .ok (.getfield 12, 3) := by decide +kernel
theorem d_Reader_readKeys_70 : decode m_Reader_readKeys.2.1 70 = .ok (.getfield 108, 3) := by decide +kernel
theorem d_Reader_readKeys_73 : decode m_Reader_readKeys.2.1 73 = .ok (.new 112, 3) := by decide +kernel
theorem d_Reader_readKeys_76 : decode m_Reader_readKeys.2.1 76 = .ok (.dup, 1) := by decide +kernel
theorem d_Reader_readKeys_77 : decode m_Reader_readKeys.2.1 77 = .ok (.aload_n 1, 1) := by decide +kernel
theorem d_Reader_readKeys_78 : decode m_Reader_readKeys.2.1 78 = .ok (.iload_n 2, 1) := by decide +kernel
theorem d_Reader_readKeys_79 : decode m_Reader_readKeys.2.1 79 = .ok (.iload_n 3, 1) := by decide +kernel
theorem d_Reader_readKeys_80 : decode m_Reader_readKeys.2.1 80 = .ok (.invokespecial 114, 3) := by decide +kernel
theorem d_Reader_readKeys_83 : decode m_Reader_readKeys.2.1 83 = .ok (.invokevirtual 117, 3) := by decide +kernel
theorem d_Reader_readKeys_86 : decode m_Reader_readKeys.2.1 86 = .ok (.pop, 1) := by decide +kernel
theorem d_Reader_readKeys_87 : decode m_Reader_readKeys.2.1 87 = .ok (.aload_n 0, 1) := by decide +kernel
theorem d_Reader_readKeys_88 : decode m_Reader_readKeys.2.1 88 = .ok (.getfield 12, 3) := by decide +kernel
theorem d_Reader_readKeys_91 : decode m_Reader_readKeys.2.1 91 = .ok (.getfield 108, 3) := by decide +kernel
theorem d_Reader_readKeys_94 : decode m_Reader_readKeys.2.1 94 = .ok (.invokevirtual 123, 3) := by decide +kernel
theorem d_Reader_readKeys_97 : decode m_Reader_readKeys.2.1 97 = .ok (.bipush 6, 2) := by decide +kernel
theorem d_Reader_readKeys_99 : decode m_Reader_readKeys.2.1 99 = .ok (.if_icmp .ge 12, 3) := by decide +kernel
theorem d_Reader_readKeys_102 : decode m_Reader_readKeys.2.1 102 = .ok (.aload_n 0, 1) := by decide +kernel
theorem d_Reader_readKeys_103 : decode m_Reader_readKeys.2.1 103 = .ok (.invokevirtual 103, 3) := by decide +kernel
theorem d_Reader_readKeys_106 : decode m_Reader_readKeys.2.1 106 = .ok (.bipush 59, 2) := by decide +kernel
theorem d_Reader_readKeys_108 : decode m_Reader_readKeys.2.1 108 = .ok (.if_icmp .ne (-108), 3) := by decide +kernel
theorem d_Reader_readKeys_111 : decode m_Reader_readKeys.2.1 111 = .ok (.return_, 1) := by decide +kernel
theorem d_Reader_readTests_0 : decode m_Reader_readTests.2.1 0 = .ok (.iconst 0, 1) := by decide +kernel
theorem d_Reader_readTests_1 : decode m_Reader_readTests.2.1 1 = .ok (.istore_n 1, 1) := by decide +kernel
theorem d_Reader_readTests_2 : decode m_Reader_readTests.2.1 2 = .ok (.iconst 0, 1) := by decide +kernel
theorem d_Reader_readTests_3 : decode m_Reader_readTests.2.1 3 = .ok (.istore_n 2, 1) := by decide +kernel
theorem d_Reader_readTests_4 : decode m_Reader_readTests.2.1 4 = .ok (.iload_n 2, 1) := by decide +kernel
theorem d_Reader_readTests_5 : decode m_Reader_readTests.2.1 5 = .ok (.bipush 10, 2) := by decide +kernel
theorem d_Reader_readTests_7 : decode m_Reader_readTests.2.1 7 = .ok (.if_icmp .ge 110, 3) := by decide +kernel
theorem d_Reader_readTests_10 : decode m_Reader_readTests.2.1 10 = .ok (.aload_n 0, 1) := by decide +kernel
theorem d_Reader_readTests_11 : decode m_Reader_readTests.2.1 11 = .ok (.bipush 40, 2) := by decide +kernel
theorem d_Reader_readTests_13 : decode m_Reader_readTests.2.1 13 = .ok (.invokevirtual 95, 3) := by decide +kernel
theorem d_Reader_readTests_16 : decode m_Reader_readTests.2.1 16 = .ok (.astore_n 3, 1) := by decide +kernel
theorem d_Reader_readTests_17 : decode m_Reader_readTests.2.1 17 = .ok (.aload_n 0, 1) := by decide +kernel
theorem d_Reader_readTests_18 : decode m_Reader_readTests.2.1 18 = .ok (.ldc 125, 2) := by decide +kernel
theorem d_Reader_readTests_20 : decode m_Reader_readTests.2.1 20 = .ok (.invokevirtual 55, 3) := by decide +kernel
theorem d_Reader_readTests_23 : decode m_Reader_readTests.2.1 23 = .ok (.istore 4, 2) := by decide +kernel
theorem d_Reader_readTests_25 : decode m_Reader_readTests.2.1 25 = .ok (.aload_n 0, 1) := by decide +kernel
theorem d_Reader_readTests_26 : decode m_Reader_readTests.2.1 26 = .ok (.invokevirtual 103, 3) := by decide +kernel
theorem d_Reader_readTests_29 : decode m_Reader_readTests.2.1 29 = .ok (.bipush 39, 2) := by decide +kernel
theorem d_Reader_readTests_31 : decode m_Reader_readTests.2.1 31 = .ok (.if_icmp .ne 10, 3) := by decide +kernel
theorem d_Reader_readTests_34 : decode m_Reader_readTests.2.1 34 = .ok (.aload_n 0, 1) := by decide +kernel
theorem d_Reader_readTests_35 : decode m_Reader_readTests.2.1 35 = .ok (.invokevirtual 127, 3) := by decide +kernel
theorem d_Reader_readTests_38 : decode m_Reader_readTests.2.1 38 = .ok (.goto 9, 3) := by decide +kernel
theorem d_Reader_readTests_41 : decode m_Reader_readTests.2.1 41 = .ok (.aload_n 0, 1) := by decide +kernel
theorem d_Reader_readTests_42 : decode m_Reader_readTests.2.1 42 = .ok (.bipush 40, 2) := by decide +kernel
theorem d_Reader_readTests_44 : decode m_Reader_readTests.2.1 44 = .ok (.invokevirtual 95, 3) := by decide +kernel
theorem d_Reader_readTests_47 : decode m_Reader_readTests.2.1 47 = .ok (.astore 5, 2) := by decide +kernel
theorem d_Reader_readTests_49 : decode m_Reader_readTests.2.1 49 = .ok (.aload_n 0, 1) := by decide +kernel
theorem d_Reader_readTests_50 : decode m_Reader_readTests.2.1 50 = .ok (.getfield 12, 3) := by decide +kernel
theorem d_Reader_readTests_53 : decode m_Reader_readTests.2.1 53 = .ok (.getfield 131, 3) := by decide +kernel
theorem d_Reader_readTests_56 : decode m_Reader_readTests.2.1 56 = .ok (.new 134, 3) := by decide +kernel
theorem d_Reader_readTests_59 : decode m_Reader_readTests.2.1 59 = .ok (.dup, 1) := by decide +kernel
theorem d_Reader_readTests_60 : decode m_Reader_readTests.2.1 60 = .ok (.iload_n 1, 1) := by decide +kernel
theorem d_Reader_readTests_61 : decode m_Reader_readTests.2.1 61 = .ok (.aload_n 3, 1) := by decide +kernel
theorem d_Reader_readTests_62 : decode m_Reader_readTests.2.1 62 = .ok (.iload 4, 2) := by decide +kernel
theorem d_Reader_readTests_64 : decode m_Reader_readTests.2.1 64 = .ok (.aload 5, 2) := by decide +kernel
theorem d_Reader_readTests_66 : decode m_Reader_readTests.2.1 66 = .ok (.invokespecial 136, 3) := by decide +kernel
theorem d_Reader_readTests_69 : decode m_Reader_readTests.2.1 69 = .ok (.invokevirtual 117, 3) := by decide +kernel
theorem d_Reader_readTests_72 : decode m_Reader_readTests.2.1 72 = .ok (.pop, 1) := by decide +kernel
theorem d_Reader_readTests_73 : decode m_Reader_readTests.2.1 73 = .ok (.aload_n 0, 1) := by decide +kernel
theorem d_Reader_readTests_74 : decode m_Reader_readTests.2.1 74 = .ok (.invokevirtual 103, 3) := by decide +kernel
theorem d_Reader_readTests_77 : decode m_Reader_readTests.2.1 77 = .ok (.istore 6, 2) := by decide +kernel
theorem d_Reader_readTests_79 : decode m_Reader_readTests.2.1 79 = .ok (.iload 6, 2) := by decide +kernel
theorem d_Reader_readTests_81 : decode m_Reader_readTests.2.1 81 = .ok (.bipush 38, 2) := by decide +kernel
theorem d_Reader_readTests_83 : decode m_Reader_readTests.2.1 83 = .ok (.if_icmp .eq 11, 3) := by decide +kernel
theorem d_Reader_readTests_86 : decode m_Reader_readTests.2.1 86 = .ok (.iload 6, 2) := by decide +kernel
theorem d_Reader_readTests_88 : decode m_Reader_readTests.2.1 88 = .ok (.bipush 124, 2) := by decide +kernel
theorem d_Reader_readTests_90 : decode m_Reader_readTests.2.1 90 = .ok (.if_icmp .eq 4, 3) := by decide +kernel
theorem d_Reader_readTests_93 : decode m_Reader_readTests.2.1 93 = .ok (.return_, 1) := by decide +kernel
theorem d_Reader_readTests_94 : decode m_Reader_readTests.2.1 94 = .ok (.aload_n 0, 1) := by decide +kernel
theorem d_Reader_readTests_95 : decode m_Reader_readTests.2.1 95 = .ok (.ldc 139, 2) := by decide +kernel
theorem d_Reader_readTests_97 : decode m_Reader_readTests.2.1 97 = .ok (.invokevirtual 55, 3) := by decide +kernel
theorem d_Reader_readTests_100 : decode m_Reader_readTests.2.1 100 = .ok (.bipush 124, 2) := by decide +kernel
theorem d_Reader_readTests_102 : decode m_Reader_readTests.2.1 102 = .ok (.if_icmp .ne 7, 3) := by decide +kernel
theorem d_Reader_readTests_105 : decode m_Reader_readTests.2.1 105 = .ok (.iconst 1, 1) := by decide +kernel
theorem d_Reader_readTests_106 : decode m_Reader_readTests.2.1 106 = .ok (.goto 4, 3) := by decide +kernel
theorem d_Reader_readTests_109 : decode m_Reader_readTests.2.1 109 = .ok (.iconst 0, 1) := by decide +kernel
theorem d_Reader_readTests_110 : decode m_Reader_readTests.2.1 110 = .ok (.istore_n 1, 1) := by decide +kernel
theorem d_Reader_readTests_111 : decode m_Reader_readTests.2.1 111 = .ok (.iinc 2 1, 3) := by decide +kernel
theorem d_Reader_readTests_114 : decode m_Reader_readTests.2.1 114 = .ok (.goto (-110), 3) := by decide +kernel
theorem d_Reader_readTests_117 : decode m_Reader_readTests.2.1 117 = .ok (.aload_n 0, 1) := by decide +kernel
theorem d_Reader_readTests_118 : decode m_Reader_readTests.2.1 118 = .ok (.invokevirtual 103, 3) := by decide +kernel
theorem d_Reader_readTests_121 : decode m_Reader_readTests.2.1 121 = .ok (.pop, 1) := by decide +kernel
theorem d_Reader_readTests_122 : decode m_Reader_readTests.2.1 122 = .ok (.new 141, 3) := by decide +kernel
theorem d_Reader_readTests_125 : decode m_Reader_readTests.2.1 125 = .ok (.dup, 1) := by decide +kernel
theorem d_Reader_readTests_126 : decode m_Reader_readTests.2.1 126 = .ok (.ldc 143, 2) := by decide +kernel
theorem d_Reader_readTests_128 : decode m_Reader_readTests.2.1 128 = .ok (.invokespecial 145, 3) := by decide +kernel
theorem d_Reader_readTests_131 : decode m_Reader_readTests.2.1 131 = .ok (.athrow, 1) := by decide +kernel
theorem d_Reader_readSums_0 : decode m_Reader_readSums.2.1 0 = .ok (.aload_n 0, 1) := by decide +kernel
theorem d_Reader_readSums_1 : decode m_Reader_readSums.2.1 1 = .ok (.getfield 12, 3) := by decide +kernel
theorem d_Reader_readSums_4 : decode m_Reader_readSums.2.1 4 = .ok (.getfield 148, 3) := by decide +kernel
theorem d_Reader_readSums_7 : decode m_Reader_readSums.2.1 7 = .ok (.aload_n 0, 1) := by decide +kernel
theorem d_Reader_readSums_8 : decode m_Reader_readSums.2.1 8 = .ok (.bipush 9, 2) := by decide +kernel
theorem d_Reader_readSums_10 : decode m_Reader_readSums.2.1 10 = .ok (.invokevirtual 95, 3) := by decide +kernel
theorem d_Reader_readSums_13 : decode m_Reader_readSums.2.1 13 = .ok (.invokevirtual 117, 3) := by decide +kernel
theorem d_Reader_readSums_16 : decode m_Reader_readSums.2.1 16 = .ok (.pop, 1) := by decide +kernel
theorem d_Reader_readSums_17 : decode m_Reader_readSums.2.1 17 = .ok (.aload_n 0, 1) := by decide +kernel
theorem d_Reader_readSums_18 : decode m_Reader_readSums.2.1 18 = .ok (.getfield 12, 3) := by decide +kernel
theorem d_Reader_readSums_21 : decode m_Reader_readSums.2.1 21 = .ok (.getfield 148, 3) := by decide +kernel
theorem d_Reader_readSums_24 : decode m_Reader_readSums.2.1 24 = .ok (.invokevirtual 123, 3) := by decide +kernel
theorem d_Reader_readSums_27 : decode m_Reader_readSums.2.1 27 = .ok (.iconst 4, 1) := by decide +kernel
theorem d_Reader_readSums_28 : decode m_Reader_readSums.2.1 28 = .ok (.if_icmp .ge 12, 3) := by decide +kernel
theorem d_Reader_readSums_31 : decode m_Reader_readSums.2.1 31 = .ok (.aload_n 0, 1) := by decide +kernel
theorem d_Reader_readSums_32 : decode m_Reader_readSums.2.1 32 = .ok (.invokevirtual 103, 3) := by decide +kernel
theorem d_Reader_readSums_35 : decode m_Reader_readSums.2.1 35 = .ok (.bipush 59, 2) := by decide +kernel
theorem d_Reader_readSums_37 : decode m_Reader_readSums.2.1 37 = .ok (.if_icmp .ne (-37), 3) := by decide +kernel
theorem d_Reader_readSums_40 : decode m_Reader_readSums.2.1 40 = .ok (.return_, 1) := by decide +kernel
theorem d_Reader_readPieces_0 : decode m_Reader_readPieces.2.1 0 = .ok (.aload_n 0, 1) := by decide +kernel
theorem d_Reader_readPieces_1 : decode m_Reader_readPieces.2.1 1 = .ok (.invokevirtual 103, 3) := by decide +kernel
theorem d_Reader_readPieces_4 : decode m_Reader_readPieces.2.1 4 = .ok (.istore_n 1, 1) := by decide +kernel
theorem d_Reader_readPieces_5 : decode m_Reader_readPieces.2.1 5 = .ok (.iload_n 1, 1) := by decide +kernel
theorem d_Reader_readPieces_6 : decode m_Reader_readPieces.2.1 6 = .ok (.bipush 39, 2) := by decide +kernel
theorem d_Reader_readPieces_8 : decode m_Reader_readPieces.2.1 8 = .ok (.if_icmp .ne 21, 3) := by decide +kernel
theorem d_Reader_readPieces_11 : decode m_Reader_readPieces.2.1 11 = .ok (.aload_n 0, 1) := by decide +kernel
theorem d_Reader_readPieces_12 : decode m_Reader_readPieces.2.1 12 = .ok (.getfield 12, 3) := by decide +kernel
theorem d_Reader_readPieces_15 : decode m_Reader_readPieces.2.1 15 = .ok (.getfield 151, 3) := by decide +kernel
theorem d_Reader_readPieces_18 : decode m_Reader_readPieces.2.1 18 = .ok (.aload_n 0, 1) := by decide +kernel
theorem d_Reader_readPieces_19 : decode m_Reader_readPieces.2.1 19 = .ok (.invokevirtual 127, 3) := by decide +kernel
theorem d_Reader_readPieces_22 : decode m_Reader_readPieces.2.1 22 = .ok (.invokevirtual 117, 3) := by decide +kernel
theorem d_Reader_readPieces_25 : decode m_Reader_readPieces.2.1 25 = .ok (.pop, 1) := by decide +kernel
theorem d_Reader_readPieces_26 : decode m_Reader_readPieces.2.1 26 = .ok (.goto 44, 3) := by decide +kernel
theorem d_Reader_readPieces_29 : decode m_Reader_readPieces.2.1 29 = .ok (.iload_n 1, 1) := by decide +kernel
theorem d_Reader_readPieces_30 : decode m_Reader_readPieces.2.1 30 = .ok (.bipush 120, 2) := by decide +kernel
theorem d_Reader_readPieces_32 : decode m_Reader_readPieces.2.1 32 = .ok (.if_icmp .ne 21, 3) := by decide +kernel
theorem d_Reader_readPieces_35 : decode m_Reader_readPieces.2.1 35 = .ok (.aload_n 0, 1) := by decide +kernel
theorem d_Reader_readPieces_36 : decode m_Reader_readPieces.2.1 36 = .ok (.getfield 12, 3) := by decide +kernel
theorem d_Reader_readPieces_39 : decode m_Reader_readPieces.2.1 39 = .ok (.getfield 151, 3) := by decide +kernel
theorem d_Reader_readPieces_42 : decode m_Reader_readPieces.2.1 42 = .ok (.aload_n 0, 1) := by decide +kernel
theorem d_Reader_readPieces_43 : decode m_Reader_readPieces.2.1 43 = .ok (.invokevirtual 154, 3) := by decide +kernel
theorem d_Reader_readPieces_46 : decode m_Reader_readPieces.2.1 46 = .ok (.invokevirtual 117, 3) := by decide +kernel
theorem d_Reader_readPieces_49 : decode m_Reader_readPieces.2.1 49 = .ok (.pop, 1) := by decide +kernel
theorem d_Reader_readPieces_50 : decode m_Reader_readPieces.2.1 50 = .ok (.goto 20, 3) := by decide +kernel
theorem d_Reader_readPieces_53 : decode m_Reader_readPieces.2.1 53 = .ok (.aload_n 0, 1) := by decide +kernel
theorem d_Reader_readPieces_54 : decode m_Reader_readPieces.2.1 54 = .ok (.getfield 12, 3) := by decide +kernel
theorem d_Reader_readPieces_57 : decode m_Reader_readPieces.2.1 57 = .ok (.getfield 151, 3) := by decide +kernel
theorem d_Reader_readPieces_60 : decode m_Reader_readPieces.2.1 60 = .ok (.aload_n 0, 1) := by decide +kernel
theorem d_Reader_readPieces_61 : decode m_Reader_readPieces.2.1 61 = .ok (.bipush 40, 2) := by decide +kernel
theorem d_Reader_readPieces_63 : decode m_Reader_readPieces.2.1 63 = .ok (.invokevirtual 95, 3) := by decide +kernel
theorem d_Reader_readPieces_66 : decode m_Reader_readPieces.2.1 66 = .ok (.invokevirtual 117, 3) := by decide +kernel
theorem d_Reader_readPieces_69 : decode m_Reader_readPieces.2.1 69 = .ok (.pop, 1) := by decide +kernel
theorem d_Reader_readPieces_70 : decode m_Reader_readPieces.2.1 70 = .ok (.aload_n 0, 1) := by decide +kernel
theorem d_Reader_readPieces_71 : decode m_Reader_readPieces.2.1 71 = .ok (.getfield 12, 3) := by decide +kernel
theorem d_Reader_readPieces_74 : decode m_Reader_readPieces.2.1 74 = .ok (.getfield 151, 3) := by decide +kernel
theorem d_Reader_readPieces_77 : decode m_Reader_readPieces.2.1 77 = .ok (.invokevirtual 123, 3) := by decide +kernel
theorem d_Reader_readPieces_80 : decode m_Reader_readPieces.2.1 80 = .ok (.bipush 12, 2) := by decide +kernel
theorem d_Reader_readPieces_82 : decode m_Reader_readPieces.2.1 82 = .ok (.if_icmp .ge 12, 3) := by decide +kernel
theorem d_Reader_readPieces_85 : decode m_Reader_readPieces.2.1 85 = .ok (.aload_n 0, 1) := by decide +kernel
theorem d_Reader_readPieces_86 : decode m_Reader_readPieces.2.1 86 = .ok (.invokevirtual 103, 3) := by decide +kernel
theorem d_Reader_readPieces_89 : decode m_Reader_readPieces.2.1 89 = .ok (.bipush 59, 2) := by decide +kernel
theorem d_Reader_readPieces_91 : decode m_Reader_readPieces.2.1 91 = .ok (.if_icmp .ne (-91), 3) := by decide +kernel
theorem d_Reader_readPieces_94 : decode m_Reader_readPieces.2.1 94 = .ok (.return_, 1) := by decide +kernel
theorem d_Reader_readWord_0 : decode m_Reader_readWord.2.1 0 = .ok (.aload_n 0, 1) := by decide +kernel
theorem d_Reader_readWord_1 : decode m_Reader_readWord.2.1 1 = .ok (.getfield 22, 3) := by decide +kernel
theorem d_Reader_readWord_4 : decode m_Reader_readWord.2.1 4 = .ok (.istore_n 1, 1) := by decide +kernel
theorem d_Reader_readWord_5 : decode m_Reader_readWord.2.1 5 = .ok (.iload_n 1, 1) := by decide +kernel
theorem d_Reader_readWord_6 : decode m_Reader_readWord.2.1 6 = .ok (.aload_n 0, 1) := by decide +kernel
theorem d_Reader_readWord_7 : decode m_Reader_readWord.2.1 7 = .ok (.getfield 35, 3) := by decide +kernel
theorem d_Reader_readWord_10 : decode m_Reader_readWord.2.1 10 = .ok (.if_icmp .ge 21, 3) := by decide +kernel
theorem d_Reader_readWord_13 : decode m_Reader_readWord.2.1 13 = .ok (.aload_n 0, 1) := by decide +kernel
theorem d_Reader_readWord_14 : decode m_Reader_readWord.2.1 14 = .ok (.getfield 25, 3) := by decide +kernel
theorem d_Reader_readWord_17 : decode m_Reader_readWord.2.1 17 = .ok (.iload_n 1, 1) := by decide +kernel
theorem d_Reader_readWord_18 : decode m_Reader_readWord.2.1 18 = .ok (.iaload, 1) := by decide +kernel
theorem d_Reader_readWord_19 : decode m_Reader_readWord.2.1 19 = .ok (.invokestatic 157, 3) := by decide +kernel
theorem d_Reader_readWord_22 : decode m_Reader_readWord.2.1 22 = .ok (.ifCond .eq 9, 3) := by decide +kernel
theorem d_Reader_readWord_25 : decode m_Reader_readWord.2.1 25 = .ok (.iinc 1 1, 3) := by decide +kernel
theorem d_Reader_readWord_28 : decode m_Reader_readWord.2.1 28 = .ok (.goto (-23), 3) := by decide +kernel
theorem d_Reader_readWord_31 : decode m_Reader_readWord.2.1 31 = .ok (.iconst 0, 1) := by decide +kernel
theorem d_Reader_readWord_32 : decode m_Reader_readWord.2.1 32 = .ok (.istore_n 2, 1) := by decide +kernel
theorem d_Reader_readWord_33 : decode m_Reader_readWord.2.1 33 = .ok (.iload_n 2, 1) := by decide +kernel
theorem d_Reader_readWord_34 : decode m_Reader_readWord.2.1 34 = .ok (.getstatic 161, 3) := by decide +kernel
theorem d_Reader_readWord_37 : decode m_Reader_readWord.2.1 37 = .ok (.arraylength, 1) := by decide +kernel
theorem d_Reader_readWord_38 : decode m_Reader_readWord.2.1 38 = .ok (.if_icmp .ge 59, 3) := by decide +kernel
theorem d_Reader_readWord_41 : decode m_Reader_readWord.2.1 41 = .ok (.getstatic 161, 3) := by decide +kernel
theorem d_Reader_readWord_44 : decode m_Reader_readWord.2.1 44 = .ok (.iload_n 2, 1) := by decide +kernel
theorem d_Reader_readWord_45 : decode m_Reader_readWord.2.1 45 = .ok (.aaload, 1) := by decide +kernel
theorem d_Reader_readWord_46 : decode m_Reader_readWord.2.1 46 = .ok (.astore_n 3, 1) := by decide +kernel
theorem d_Reader_readWord_47 : decode m_Reader_readWord.2.1 47 = .ok (.aload_n 0, 1) := by decide +kernel
theorem d_Reader_readWord_48 : decode m_Reader_readWord.2.1 48 = .ok (.getfield 18, 3) := by decide +kernel
theorem d_Reader_readWord_51 : decode m_Reader_readWord.2.1 51 = .ok (.aload_n 3, 1) := by decide +kernel
theorem d_Reader_readWord_52 : decode m_Reader_readWord.2.1 52 = .ok (.getfield 165, 3) := by decide +kernel
theorem d_Reader_readWord_55 : decode m_Reader_readWord.2.1 55 = .ok (.iand, 1) := by decide +kernel
theorem d_Reader_readWord_56 : decode m_Reader_readWord.2.1 56 = .ok (.ifCond .ne 35, 3) := by decide +kernel
theorem d_Reader_readWord_59 : decode m_Reader_readWord.2.1 59 = .ok (.aload_n 0, 1) := by decide +kernel
theorem d_Reader_readWord_60 : decode m_Reader_readWord.2.1 60 = .ok (.aload_n 3, 1) := by decide +kernel
theorem d_Reader_readWord_61 : decode m_Reader_readWord.2.1 61 = .ok (.getfield 168, 3) := by decide +kernel
theorem d_Reader_readWord_64 : decode m_Reader_readWord.2.1 64 = .ok (.iload_n 1, 1) := by decide +kernel
theorem d_Reader_readWord_65 : decode m_Reader_readWord.2.1 65 = .ok (.invokevirtual 172, 3) := by decide +kernel
theorem d_Reader_readWord_68 : decode m_Reader_readWord.2.1 68 = .ok (.ifCond .eq 23, 3) := by decide +kernel
theorem d_Reader_readWord_71 : decode m_Reader_readWord.2.1 71 = .ok (.aload_n 0, 1) := by decide +kernel
theorem d_Reader_readWord_72 : decode m_Reader_readWord.2.1 72 = .ok (.dup, 1) := by decide +kernel
theorem d_Reader_readWord_73 : decode m_Reader_readWord.2.1 73 = .ok (.getfield 18, 3) := by decide +kernel
theorem d_Reader_readWord_76 : decode m_Reader_readWord.2.1 76 = .ok (.aload_n 3, 1) := by decide +kernel
theorem d_Reader_readWord_77 : decode m_Reader_readWord.2.1 77 = .ok (.getfield 165, 3) := by decide +kernel
theorem d_Reader_readWord_80 : decode m_Reader_readWord.2.1 80 = .ok (.ior, 1) := by decide +kernel
theorem d_Reader_readWord_81 : decode m_Reader_readWord.2.1 81 = .ok (.putfield 18, 3) := by decide +kernel
theorem d_Reader_readWord_84 : decode m_Reader_readWord.2.1 84 = .ok (.aload_n 0, 1) := by decide +kernel
theorem d_Reader_readWord_85 : decode m_Reader_readWord.2.1 85 = .ok (.iload_n 1, 1) := by decide +kernel
theorem d_Reader_readWord_86 : decode m_Reader_readWord.2.1 86 = .ok (.putfield 22, 3) := by decide +kernel
theorem d_Reader_readWord_89 : decode m_Reader_readWord.2.1 89 = .ok (.aload_n 3, 1) := by decide +kernel
theorem d_Reader_readWord_90 : decode m_Reader_readWord.2.1 90 = .ok (.areturn, 1) := by decide +kernel
theorem d_Reader_readWord_91 : decode m_Reader_readWord.2.1 91 = .ok (.iinc 2 1, 3) := by decide +kernel
theorem d_Reader_readWord_94 : decode m_Reader_readWord.2.1 94 = .ok (.goto (-61), 3) := by decide +kernel
theorem d_Reader_readWord_97 : decode m_Reader_readWord.2.1 97 = .ok (.new 141, 3) := by decide +kernel
theorem d_Reader_readWord_100 : decode m_Reader_readWord.2.1 100 = .ok (.dup, 1) := by decide +kernel
theorem d_Reader_readWord_101 : decode m_Reader_readWord.2.1 101 = .ok (.ldc 176, 2) := by decide +kernel
theorem d_Reader_readWord_103 : decode m_Reader_readWord.2.1 103 = .ok (.invokespecial 145, 3) := by decide +kernel
theorem d_Reader_readWord_106 : decode m_Reader_readWord.2.1 106 = .ok (.athrow, 1) := by decide +kernel
theorem d_Reader_spells_0 : decode m_Reader_spells.2.1 0 = .ok (.iload_n 2, 1) := by decide +kernel
theorem d_Reader_spells_1 : decode m_Reader_spells.2.1 1 = .ok (.aload_n 0, 1) := by decide +kernel
theorem d_Reader_spells_2 : decode m_Reader_spells.2.1 2 = .ok (.getfield 35, 3) := by decide +kernel
theorem d_Reader_spells_5 : decode m_Reader_spells.2.1 5 = .ok (.if_icmp .gt 16, 3) := by decide +kernel
theorem d_Reader_spells_8 : decode m_Reader_spells.2.1 8 = .ok (.iload_n 2, 1) := by decide +kernel
theorem d_Reader_spells_9 : decode m_Reader_spells.2.1 9 = .ok (.aload_n 0, 1) := by decide +kernel
theorem d_Reader_spells_10 : decode m_Reader_spells.2.1 10 = .ok (.getfield 22, 3) := by decide +kernel
theorem d_Reader_spells_13 : decode m_Reader_spells.2.1 13 = .ok (.isub, 1) := by decide +kernel
theorem d_Reader_spells_14 : decode m_Reader_spells.2.1 14 = .ok (.aload_n 1, 1) := by decide +kernel
theorem d_Reader_spells_15 : decode m_Reader_spells.2.1 15 = .ok (.invokevirtual 178, 3) := by decide +kernel
theorem d_Reader_spells_18 : decode m_Reader_spells.2.1 18 = .ok (.if_icmp .eq 5, 3) := by decide +kernel
theorem d_Reader_spells_21 : decode m_Reader_spells.2.1 21 = .ok (.iconst 0, 1) := by decide +kernel
theorem d_Reader_spells_22 : decode m_Reader_spells.2.1 22 = .ok (.ireturn, 1) := by decide +kernel
theorem d_Reader_spells_23 : decode m_Reader_spells.2.1 23 = .ok (.iconst 0, 1) := by decide +kernel
theorem d_Reader_spells_24 : decode m_Reader_spells.2.1 24 = .ok (.istore_n 3, 1) := by decide +kernel
theorem d_Reader_spells_25 : decode m_Reader_spells.2.1 25 = .ok (.iload_n 3, 1) := by decide +kernel
theorem d_Reader_spells_26 : decode m_Reader_spells.2.1 26 = .ok (.aload_n 1, 1) := by decide +kernel
theorem d_Reader_spells_27 : decode m_Reader_spells.2.1 27 = .ok (.invokevirtual 178, 3) := by decide +kernel
theorem d_Reader_spells_30 : decode m_Reader_spells.2.1 30 = .ok (.if_icmp .ge 30, 3) := by decide +kernel
theorem d_Reader_spells_33 : decode m_Reader_spells.2.1 33 = .ok (.aload_n 0, 1) := by decide +kernel
theorem d_Reader_spells_34 : decode m_Reader_spells.2.1 34 = .ok (.getfield 25, 3) := by decide +kernel
theorem d_Reader_spells_37 : decode m_Reader_spells.2.1 37 = .ok (.aload_n 0, 1) := by decide +kernel
theorem d_Reader_spells_38 : decode m_Reader_spells.2.1 38 = .ok (.getfield 22, 3) := by decide +kernel
theorem d_Reader_spells_41 : decode m_Reader_spells.2.1 41 = .ok (.iload_n 3, 1) := by decide +kernel
theorem d_Reader_spells_42 : decode m_Reader_spells.2.1 42 = .ok (.iadd, 1) := by decide +kernel
theorem d_Reader_spells_43 : decode m_Reader_spells.2.1 43 = .ok (.iaload, 1) := by decide +kernel
theorem d_Reader_spells_44 : decode m_Reader_spells.2.1 44 = .ok (.aload_n 1, 1) := by decide +kernel
theorem d_Reader_spells_45 : decode m_Reader_spells.2.1 45 = .ok (.iload_n 3, 1) := by decide +kernel
theorem d_Reader_spells_46 : decode m_Reader_spells.2.1 46 = .ok (.invokevirtual 183, 3) := by decide +kernel
theorem d_Reader_spells_49 : decode m_Reader_spells.2.1 49 = .ok (.if_icmp .eq 5, 3) := by decide +kernel
theorem d_Reader_spells_52 : decode m_Reader_spells.2.1 52 = .ok (.iconst 0, 1) := by decide +kernel
theorem d_Reader_spells_53 : decode m_Reader_spells.2.1 53 = .ok (.ireturn, 1) := by decide +kernel
theorem d_Reader_spells_54 : decode m_Reader_spells.2.1 54 = .ok (.iinc 3 1, 3) := by decide +kernel
theorem d_Reader_spells_57 : decode m_Reader_spells.2.1 57 = .ok (.goto (-32), 3) := by decide +kernel
theorem d_Reader_spells_60 : decode m_Reader_spells.2.1 60 = .ok (.iconst 1, 1) := by decide +kernel
theorem d_Reader_spells_61 : decode m_Reader_spells.2.1 61 = .ok (.ireturn, 1) := by decide +kernel
theorem d_Reader_readField_0 : decode m_Reader_readField.2.1 0 = .ok (.aload_n 0, 1) := by decide +kernel
theorem d_Reader_readField_1 : decode m_Reader_readField.2.1 1 = .ok (.iconst 1, 1) := by decide +kernel
theorem d_Reader_readField_2 : decode m_Reader_readField.2.1 2 = .ok (.bipush 100, 2) := by decide +kernel
theorem d_Reader_readField_4 : decode m_Reader_readField.2.1 4 = .ok (.invokevirtual 86, 3) := by decide +kernel
theorem d_Reader_readField_7 : decode m_Reader_readField.2.1 7 = .ok (.istore_n 2, 1) := by decide +kernel
theorem d_Reader_readField_8 : decode m_Reader_readField.2.1 8 = .ok (.aload_n 0, 1) := by decide +kernel
theorem d_Reader_readField_9 : decode m_Reader_readField.2.1 9 = .ok (.ldc 99, 2) := by decide +kernel
theorem d_Reader_readField_11 : decode m_Reader_readField.2.1 11 = .ok (.invokevirtual 55, 3) := by decide +kernel
theorem d_Reader_readField_14 : decode m_Reader_readField.2.1 14 = .ok (.pop, 1) := by decide +kernel
theorem d_Reader_readField_15 : decode m_Reader_readField.2.1 15 = .ok (.aload_n 0, 1) := by decide +kernel
theorem d_Reader_readField_16 : decode m_Reader_readField.2.1 16 = .ok (.iconst 1, 1) := by decide +kernel
theorem d_Reader_readField_17 : decode m_Reader_readField.2.1 17 = .ok (.iload_n 1, 1) := by decide +kernel
theorem d_Reader_readField_18 : decode m_Reader_readField.2.1 18 = .ok (.bipush 101, 2) := by decide +kernel
theorem d_Reader_readField_20 : decode m_Reader_readField.2.1 20 = .ok (.iload_n 2, 1) := by decide +kernel
theorem d_Reader_readField_21 : decode m_Reader_readField.2.1 21 = .ok (.isub, 1) := by decide +kernel
theorem d_Reader_readField_22 : decode m_Reader_readField.2.1 22 = .ok (.invokestatic 29, 3) := by decide +kernel
theorem d_Reader_readField_25 : decode m_Reader_readField.2.1 25 = .ok (.invokevirtual 86, 3) := by decide +kernel
theorem d_Reader_readField_28 : decode m_Reader_readField.2.1 28 = .ok (.istore_n 3, 1) := by decide +kernel
theorem d_Reader_readField_29 : decode m_Reader_readField.2.1 29 = .ok (.iload_n 2, 1) := by decide +kernel
theorem d_Reader_readField_30 : decode m_Reader_readField.2.1 30 = .ok (.iload_n 3, 1) := by decide +kernel
theorem d_Reader_readField_31 : decode m_Reader_readField.2.1 31 = .ok (.invokestatic 187, 3) := by decide +kernel
theorem d_Reader_readField_34 : decode m_Reader_readField.2.1 34 = .ok (.areturn, 1) := by decide +kernel
theorem d_Reader_readText_0 : decode m_Reader_readText.2.1 0 = .ok (.aload_n 0, 1) := by decide +kernel
theorem d_Reader_readText_1 : decode m_Reader_readText.2.1 1 = .ok (.ldc 193, 2) := by decide +kernel
theorem d_Reader_readText_3 : decode m_Reader_readText.2.1 3 = .ok (.invokevirtual 55, 3) := by decide +kernel
theorem d_Reader_readText_6 : decode m_Reader_readText.2.1 6 = .ok (.pop, 1) := by decide +kernel
theorem d_Reader_readText_7 : decode m_Reader_readText.2.1 7 = .ok (.aload_n 0, 1) := by decide +kernel
theorem d_Reader_readText_8 : decode m_Reader_readText.2.1 8 = .ok (.getfield 22, 3) := by decide +kernel
theorem d_Reader_readText_11 : decode m_Reader_readText.2.1 11 = .ok (.istore_n 1, 1) := by decide +kernel
theorem d_Reader_readText_12 : decode m_Reader_readText.2.1 12 = .ok (.aload_n 0, 1) := by decide +kernel
theorem d_Reader_readText_13 : decode m_Reader_readText.2.1 13 = .ok (.getfield 22, 3) := by decide +kernel
theorem d_Reader_readText_16 : decode m_Reader_readText.2.1 16 = .ok (.aload_n 0, 1) := by decide +kernel
theorem d_Reader_readText_17 : decode m_Reader_readText.2.1 17 = .ok (.getfield 35, 3) := by decide +kernel
theorem d_Reader_readText_20 : decode m_Reader_readText.2.1 20 = .ok (.if_icmp .ge 42, 3) := by decide +kernel
theorem d_Reader_readText_23 : decode m_Reader_readText.2.1 23 = .ok (.aload_n 0, 1) := by decide +kernel
theorem d_Reader_readText_24 : decode m_Reader_readText.2.1 24 = .ok (.getfield 22, 3) := by decide +kernel
theorem d_Reader_readText_27 : decode m_Reader_readText.2.1 27 = .ok (.iload_n 1, 1) := by decide +kernel
theorem d_Reader_readText_28 : decode m_Reader_readText.2.1 28 = .ok (.isub, 1) := by decide +kernel
theorem d_Reader_readText_29 : decode m_Reader_readText.2.1 29 = .ok (.bipush 20, 2) := by decide +kernel
theorem d_Reader_readText_31 : decode m_Reader_readText.2.1 31 = .ok (.if_icmp .ge 31, 3) := by decide +kernel
theorem d_Reader_readText_34 : decode m_Reader_readText.2.1 34 = .ok (.aload_n 0, 1) := by decide +kernel
theorem d_Reader_readText_35 : decode m_Reader_readText.2.1 35 = .ok (.getfield 25, 3) := by decide +kernel
theorem d_Reader_readText_38 : decode m_Reader_readText.2.1 38 = .ok (.aload_n 0, 1) := by decide +kernel
theorem d_Reader_readText_39 : decode m_Reader_readText.2.1 39 = .ok (.getfield 22, 3) := by decide +kernel
theorem d_Reader_readText_42 : decode m_Reader_readText.2.1 42 = .ok (.iaload, 1) := by decide +kernel
theorem d_Reader_readText_43 : decode m_Reader_readText.2.1 43 = .ok (.invokestatic 195, 3) := by decide +kernel
theorem d_Reader_readText_46 : decode m_Reader_readText.2.1 46 = .ok (.ifCond .eq 16, 3) := by decide +kernel
theorem d_Reader_readText_49 : decode m_Reader_readText.2.1 49 = .ok (.aload_n 0, 1) := by decide +kernel
theorem d_Reader_readText_50 : decode m_Reader_readText.2.1 50 = .ok (.dup, 1) := by decide +kernel
theorem d_Reader_readText_51 : decode m_Reader_readText.2.1 51 = .ok (.getfield 22, 3) := by decide +kernel
theorem d_Reader_readText_54 : decode m_Reader_readText.2.1 54 = .ok (.iconst 1, 1) := by decide +kernel
theorem d_Reader_readText_55 : decode m_Reader_readText.2.1 55 = .ok (.iadd, 1) := by decide +kernel
theorem d_Reader_readText_56 : decode m_Reader_readText.2.1 56 = .ok (.putfield 22, 3) := by decide +kernel
theorem d_Reader_readText_59 : decode m_Reader_readText.2.1 59 = .ok (.goto (-47), 3) := by decide +kernel
theorem d_Reader_readText_62 : decode m_Reader_readText.2.1 62 = .ok (.aload_n 0, 1) := by decide +kernel
theorem d_Reader_readText_63 : decode m_Reader_readText.2.1 63 = .ok (.getfield 22, 3) := by decide +kernel
theorem d_Reader_readText_66 : decode m_Reader_readText.2.1 66 = .ok (.iload_n 1, 1) := by decide +kernel
theorem d_Reader_readText_67 : decode m_Reader_readText.2.1 67 = .ok (.if_icmp .eq 28, 3) := by decide +kernel
theorem d_Reader_readText_70 : decode m_Reader_readText.2.1 70 = .ok (.aload_n 0, 1) := by decide +kernel
theorem d_Reader_readText_71 : decode m_Reader_readText.2.1 71 = .ok (.getfield 22, 3) := by decide +kernel
theorem d_Reader_readText_74 : decode m_Reader_readText.2.1 74 = .ok (.aload_n 0, 1) := by decide +kernel
theorem d_Reader_readText_75 : decode m_Reader_readText.2.1 75 = .ok (.getfield 35, 3) := by decide +kernel
theorem d_Reader_readText_78 : decode m_Reader_readText.2.1 78 = .ok (.if_icmp .ge 17, 3) := by decide +kernel
theorem d_Reader_readText_81 : decode m_Reader_readText.2.1 81 = .ok (.aload_n 0, 1) := by decide +kernel
theorem d_Reader_readText_82 : decode m_Reader_readText.2.1 82 = .ok (.getfield 25, 3) := by decide +kernel
theorem d_Reader_readText_85 : decode m_Reader_readText.2.1 85 = .ok (.aload_n 0, 1) := by decide +kernel
theorem d_Reader_readText_86 : decode m_Reader_readText.2.1 86 = .ok (.getfield 22, 3) := by decide +kernel
theorem d_Reader_readText_89 : decode m_Reader_readText.2.1 89 = .ok (.iaload, 1) := by decide +kernel
theorem d_Reader_readText_90 : decode m_Reader_readText.2.1 90 = .ok (.bipush 39, 2) := by decide +kernel
theorem d_Reader_readText_92 : decode m_Reader_readText.2.1 92 = .ok (.if_icmp .eq 13, 3) := by decide +kernel
theorem d_Reader_readText_95 : decode m_Reader_readText.2.1 95 = .ok (.new 141, 3) := by decide +kernel
theorem d_Reader_readText_98 : decode m_Reader_readText.2.1 98 = .ok (.dup, 1) := by decide +kernel
theorem d_Reader_readText_99 : decode m_Reader_readText.2.1 99 = .ok (.ldc 198, 2) := by decide +kernel
theorem d_Reader_readText_101 : decode m_Reader_readText.2.1 101 = .ok (.invokespecial 145, 3) := by decide +kernel
theorem d_Reader_readText_104 : decode m_Reader_readText.2.1 104 = .ok (.athrow, 1) := by decide +kernel
theorem d_Reader_readText_105 : decode m_Reader_readText.2.1 105 = .ok (.aload_n 0, 1) := by decide +kernel
theorem d_Reader_readText_106 : decode m_Reader_readText.2.1 106 = .ok (.getfield 22, 3) := by decide +kernel
theorem d_Reader_readText_109 : decode m_Reader_readText.2.1 109 = .ok (.iload_n 1, 1) := by decide +kernel
theorem d_Reader_readText_110 : decode m_Reader_readText.2.1 110 = .ok (.isub, 1) := by decide +kernel
theorem d_Reader_readText_111 : decode m_Reader_readText.2.1 111 = .ok (.newarray .byte, 2) := by decide +kernel
theorem d_Reader_readText_113 : decode m_Reader_readText.2.1 113 = .ok (.astore_n 2, 1) := by decide +kernel
theorem d_Reader_readText_114 : decode m_Reader_readText.2.1 114 = .ok (.iconst 0, 1) := by decide +kernel
theorem d_Reader_readText_115 : decode m_Reader_readText.2.1 115 = .ok (.istore_n 3, 1) := by decide +kernel
theorem d_Reader_readText_116 : decode m_Reader_readText.2.1 116 = .ok (.iload_n 3, 1) := by decide +kernel
theorem d_Reader_readText_117 : decode m_Reader_readText.2.1 117 = .ok (.aload_n 2, 1) := by decide +kernel
theorem d_Reader_readText_118 : decode m_Reader_readText.2.1 118 = .ok (.arraylength, 1) := by decide +kernel
theorem d_Reader_readText_119 : decode m_Reader_readText.2.1 119 = .ok (.if_icmp .ge 21, 3) := by decide +kernel
theorem d_Reader_readText_122 : decode m_Reader_readText.2.1 122 = .ok (.aload_n 2, 1) := by decide +kernel
theorem d_Reader_readText_123 : decode m_Reader_readText.2.1 123 = .ok (.iload_n 3, 1) := by decide +kernel
theorem d_Reader_readText_124 : decode m_Reader_readText.2.1 124 = .ok (.aload_n 0, 1) := by decide +kernel
theorem d_Reader_readText_125 : decode m_Reader_readText.2.1 125 = .ok (.getfield 25, 3) := by decide +kernel
theorem d_Reader_readText_128 : decode m_Reader_readText.2.1 128 = .ok (.iload_n 1, 1) := by decide +kernel
theorem d_Reader_readText_129 : decode m_Reader_readText.2.1 129 = .ok (.iload_n 3, 1) := by decide +kernel
theorem d_Reader_readText_130 : decode m_Reader_readText.2.1 130 = .ok (.iadd, 1) := by decide +kernel
theorem d_Reader_readText_131 : decode m_Reader_readText.2.1 131 = .ok (.iaload, 1) := by decide +kernel
theorem d_Reader_readText_132 : decode m_Reader_readText.2.1 132 = .ok (.i2b, 1) := by decide +kernel
theorem d_Reader_readText_133 : decode m_Reader_readText.2.1 133 = .ok (.bastore, 1) := by decide +kernel
theorem d_Reader_readText_134 : decode m_Reader_readText.2.1 134 = .ok (.iinc 3 1, 3) := by decide +kernel
theorem d_Reader_readText_137 : decode m_Reader_readText.2.1 137 = .ok (.goto (-21), 3) := by decide +kernel
theorem d_Reader_readText_140 : decode m_Reader_readText.2.1 140 = .ok (.aload_n 0, 1) := by decide +kernel
theorem d_Reader_readText_141 : decode m_Reader_readText.2.1 141 = .ok (.dup, 1) := by decide +kernel
theorem d_Reader_readText_142 : decode m_Reader_readText.2.1 142 = .ok (.getfield 22, 3) := by decide +kernel
theorem d_Reader_readText_145 : decode m_Reader_readText.2.1 145 = .ok (.iconst 1, 1) := by decide +kernel
theorem d_Reader_readText_146 : decode m_Reader_readText.2.1 146 = .ok (.iadd, 1) := by decide +kernel
theorem d_Reader_readText_147 : decode m_Reader_readText.2.1 147 = .ok (.putfield 22, 3) := by decide +kernel
theorem d_Reader_readText_150 : decode m_Reader_readText.2.1 150 = .ok (.aload_n 2, 1) := by decide +kernel
theorem d_Reader_readText_151 : decode m_Reader_readText.2.1 151 = .ok (.invokestatic 200, 3) := by decide +kernel
theorem d_Reader_readText_154 : decode m_Reader_readText.2.1 154 = .ok (.areturn, 1) := by decide +kernel
theorem d_Reader_readBlanks_0 : decode m_Reader_readBlanks.2.1 0 = .ok (.aload_n 0, 1) := by decide +kernel
theorem d_Reader_readBlanks_1 : decode m_Reader_readBlanks.2.1 1 = .ok (.ldc 204, 2) := by decide +kernel
theorem d_Reader_readBlanks_3 : decode m_Reader_readBlanks.2.1 3 = .ok (.invokevirtual 55, 3) := by decide +kernel
theorem d_Reader_readBlanks_6 : decode m_Reader_readBlanks.2.1 6 = .ok (.pop, 1) := by decide +kernel
theorem d_Reader_readBlanks_7 : decode m_Reader_readBlanks.2.1 7 = .ok (.aload_n 0, 1) := by decide +kernel
theorem d_Reader_readBlanks_8 : decode m_Reader_readBlanks.2.1 8 = .ok (.iconst 1, 1) := by decide +kernel
theorem d_Reader_readBlanks_9 : decode m_Reader_readBlanks.2.1 9 = .ok (.bipush 40, 2) := by decide +kernel
theorem d_Reader_readBlanks_11 : decode m_Reader_readBlanks.2.1 11 = .ok (.invokevirtual 86, 3) := by decide +kernel
theorem d_Reader_readBlanks_14 : decode m_Reader_readBlanks.2.1 14 = .ok (.newarray .byte, 2) := by decide +kernel
theorem d_Reader_readBlanks_16 : decode m_Reader_readBlanks.2.1 16 = .ok (.astore_n 1, 1) := by decide +kernel
theorem d_Reader_readBlanks_17 : decode m_Reader_readBlanks.2.1 17 = .ok (.aload_n 1, 1) := by decide +kernel
theorem d_Reader_readBlanks_18 : decode m_Reader_readBlanks.2.1 18 = .ok (.bipush 32, 2) := by decide +kernel
theorem d_Reader_readBlanks_20 : decode m_Reader_readBlanks.2.1 20 = .ok (.invokestatic 206, 3) := by decide +kernel
theorem d_Reader_readBlanks_23 : decode m_Reader_readBlanks.2.1 23 = .ok (.aload_n 1, 1) := by decide +kernel
theorem d_Reader_readBlanks_24 : decode m_Reader_readBlanks.2.1 24 = .ok (.invokestatic 200, 3) := by decide +kernel
theorem d_Reader_readBlanks_27 : decode m_Reader_readBlanks.2.1 27 = .ok (.areturn, 1) := by decide +kernel
theorem d_Reader_readNumber_0 : decode m_Reader_readNumber.2.1 0 = .ok (.aload_n 0, 1) := by decide +kernel
theorem d_Reader_readNumber_1 : decode m_Reader_readNumber.2.1 1 = .ok (.invokevirtual 103, 3) := by decide +kernel
theorem d_Reader_readNumber_4 : decode m_Reader_readNumber.2.1 4 = .ok (.pop, 1) := by decide +kernel
theorem d_Reader_readNumber_5 : decode m_Reader_readNumber.2.1 5 = .ok (.aload_n 0, 1) := by decide +kernel
theorem d_Reader_readNumber_6 : decode m_Reader_readNumber.2.1 6 = .ok (.getfield 22, 3) := by decide +kernel
theorem d_Reader_readNumber_9 : decode m_Reader_readNumber.2.1 9 = .ok (.istore_n 3, 1) := by decide +kernel
theorem d_Reader_readNumber_10 : decode m_Reader_readNumber.2.1 10 = .ok (.iconst 0, 1) := by decide +kernel
theorem d_Reader_readNumber_11 : decode m_Reader_readNumber.2.1 11 = .ok (.istore 4, 2) := by decide +kernel
theorem d_Reader_readNumber_13 : decode m_Reader_readNumber.2.1 13 = .ok (.aload_n 0, 1) := by decide +kernel
theorem d_Reader_readNumber_14 : decode m_Reader_readNumber.2.1 14 = .ok (.getfield 22, 3) := by decide +kernel
theorem d_Reader_readNumber_17 : decode m_Reader_readNumber.2.1 17 = .ok (.aload_n 0, 1) := by decide +kernel
theorem d_Reader_readNumber_18 : decode m_Reader_readNumber.2.1 18 = .ok (.getfield 35, 3) := by decide +kernel
theorem d_Reader_readNumber_21 : decode m_Reader_readNumber.2.1 21 = .ok (.if_icmp .ge 61, 3) := by decide +kernel
theorem d_Reader_readNumber_24 : decode m_Reader_readNumber.2.1 24 = .ok (.aload_n 0, 1) := by decide +kernel
theorem d_Reader_readNumber_25 : decode m_Reader_readNumber.2.1 25 = .ok (.getfield 22, 3) := by decide +kernel
theorem d_Reader_readNumber_28 : decode m_Reader_readNumber.2.1 28 = .ok (.iload_n 3, 1) := by decide +kernel
theorem d_Reader_readNumber_29 : decode m_Reader_readNumber.2.1 29 = .ok (.isub, 1) := by decide +kernel
theorem d_Reader_readNumber_30 : decode m_Reader_readNumber.2.1 30 = .ok (.iconst 4, 1) := by decide +kernel
theorem d_Reader_readNumber_31 : decode m_Reader_readNumber.2.1 31 = .ok (.if_icmp .ge 51, 3) := by decide +kernel
theorem d_Reader_readNumber_34 : decode m_Reader_readNumber.2.1 34 = .ok (.aload_n 0, 1) := by decide +kernel
theorem d_Reader_readNumber_35 : decode m_Reader_readNumber.2.1 35 = .ok (.getfield 25, 3) := by decide +kernel
theorem d_Reader_readNumber_38 : decode m_Reader_readNumber.2.1 38 = .ok (.aload_n 0, 1) := by decide +kernel
theorem d_Reader_readNumber_39 : decode m_Reader_readNumber.2.1 39 = .ok (.getfield 22, 3) := by decide +kernel
theorem d_Reader_readNumber_42 : decode m_Reader_readNumber.2.1 42 = .ok (.iaload, 1) := by decide +kernel
theorem d_Reader_readNumber_43 : decode m_Reader_readNumber.2.1 43 = .ok (.invokestatic 212, 3) := by decide +kernel
theorem d_Reader_readNumber_46 : decode m_Reader_readNumber.2.1 46 = .ok (.ifCond .eq 36, 3) := by decide +kernel
theorem d_Reader_readNumber_49 : decode m_Reader_readNumber.2.1 49 = .ok (.iload 4, 2) := by decide +kernel
theorem d_Reader_readNumber_51 : decode m_Reader_readNumber.2.1 51 = .ok (.bipush 10, 2) := by decide +kernel
theorem d_Reader_readNumber_53 : decode m_Reader_readNumber.2.1 53 = .ok (.imul, 1) := by decide +kernel
theorem d_Reader_readNumber_54 : decode m_Reader_readNumber.2.1 54 = .ok (.aload_n 0, 1) := by decide +kernel
theorem d_Reader_readNumber_55 : decode m_Reader_readNumber.2.1 55 = .ok (.getfield 25, 3) := by decide +kernel
theorem d_Reader_readNumber_58 : decode m_Reader_readNumber.2.1 58 = .ok (.aload_n 0, 1) := by decide +kernel
theorem d_Reader_readNumber_59 : decode m_Reader_readNumber.2.1 59 = .ok (.getfield 22, 3) := by decide +kernel
theorem d_Reader_readNumber_62 : decode m_Reader_readNumber.2.1 62 = .ok (.iaload, 1) := by decide +kernel
theorem d_Reader_readNumber_63 : decode m_Reader_readNumber.2.1 63 = .ok (.bipush 48, 2) := by decide +kernel
theorem d_Reader_readNumber_65 : decode m_Reader_readNumber.2.1 65 = .ok (.isub, 1) := by decide +kernel
theorem d_Reader_readNumber_66 : decode m_Reader_readNumber.2.1 66 = .ok (.iadd, 1) := by decide +kernel
theorem d_Reader_readNumber_67 : decode m_Reader_readNumber.2.1 67 = .ok (.istore 4, 2) := by decide +kernel
theorem d_Reader_readNumber_69 : decode m_Reader_readNumber.2.1 69 = .ok (.aload_n 0, 1) := by decide +kernel
theorem d_Reader_readNumber_70 : decode m_Reader_readNumber.2.1 70 = .ok (.dup, 1) := by decide +kernel
theorem d_Reader_readNumber_71 : decode m_Reader_readNumber.2.1 71 = .ok (.getfield 22, 3) := by decide +kernel
theorem d_Reader_readNumber_74 : decode m_Reader_readNumber.2.1 74 = .ok (.iconst 1, 1) := by decide +kernel
theorem d_Reader_readNumber_75 : decode m_Reader_readNumber.2.1 75 = .ok (.iadd, 1) := by decide +kernel
theorem d_Reader_readNumber_76 : decode m_Reader_readNumber.2.1 76 = .ok (.putfield 22, 3) := by decide +kernel
theorem d_Reader_readNumber_79 : decode m_Reader_readNumber.2.1 79 = .ok (.goto (-66), 3) := by decide +kernel
theorem d_Reader_readNumber_82 : decode m_Reader_readNumber.2.1 82 = .ok (.aload_n 0, 1) := by decide +kernel
theorem d_Reader_readNumber_83 : decode m_Reader_readNumber.2.1 83 = .ok (.getfield 22, 3) := by decide +kernel
theorem d_Reader_readNumber_86 : decode m_Reader_readNumber.2.1 86 = .ok (.aload_n 0, 1) := by decide +kernel
theorem d_Reader_readNumber_87 : decode m_Reader_readNumber.2.1 87 = .ok (.getfield 35, 3) := by decide +kernel
theorem d_Reader_readNumber_90 : decode m_Reader_readNumber.2.1 90 = .ok (.if_icmp .ge 22, 3) := by decide +kernel
theorem d_Reader_readNumber_93 : decode m_Reader_readNumber.2.1 93 = .ok (.aload_n 0, 1) := by decide +kernel
theorem d_Reader_readNumber_94 : decode m_Reader_readNumber.2.1 94 = .ok (.getfield 25, 3) := by decide +kernel
theorem d_Reader_readNumber_97 : decode m_Reader_readNumber.2.1 97 = .ok (.aload_n 0, 1) := by decide +kernel
theorem d_Reader_readNumber_98 : decode m_Reader_readNumber.2.1 98 = .ok (.getfield 22, 3) := by decide +kernel
theorem d_Reader_readNumber_101 : decode m_Reader_readNumber.2.1 101 = .ok (.iaload, 1) := by decide +kernel
theorem d_Reader_readNumber_102 : decode m_Reader_readNumber.2.1 102 = .ok (.invokestatic 212, 3) := by decide +kernel
theorem d_Reader_readNumber_105 : decode m_Reader_readNumber.2.1 105 = .ok (.ifCond .eq 7, 3) := by decide +kernel
theorem d_Reader_readNumber_108 : decode m_Reader_readNumber.2.1 108 = .ok (.iconst 1, 1) := by decide +kernel
theorem d_Reader_readNumber_109 : decode m_Reader_readNumber.2.1 109 = .ok (.goto 4, 3) := by decide +kernel
theorem d_Reader_readNumber_112 : decode m_Reader_readNumber.2.1 112 = .ok (.iconst 0, 1) := by decide +kernel
theorem d_Reader_readNumber_113 : decode m_Reader_readNumber.2.1 113 = .ok (.istore 5, 2) := by decide +kernel
theorem d_Reader_readNumber_115 : decode m_Reader_readNumber.2.1 115 = .ok (.aload_n 0, 1) := by decide +kernel
theorem d_Reader_readNumber_116 : decode m_Reader_readNumber.2.1 116 = .ok (.getfield 22, 3) := by decide +kernel
theorem d_Reader_readNumber_119 : decode m_Reader_readNumber.2.1 119 = .ok (.iload_n 3, 1) := by decide +kernel
theorem d_Reader_readNumber_120 : decode m_Reader_readNumber.2.1 120 = .ok (.if_icmp .eq 20, 3) := by decide +kernel
theorem d_Reader_readNumber_123 : decode m_Reader_readNumber.2.1 123 = .ok (.iload 5, 2) := by decide +kernel
theorem d_Reader_readNumber_125 : decode m_Reader_readNumber.2.1 125 = .ok (.ifCond .ne 15, 3) := by decide +kernel
theorem d_Reader_readNumber_128 : decode m_Reader_readNumber.2.1 128 = .ok (.iload 4, 2) := by decide +kernel
theorem d_Reader_readNumber_130 : decode m_Reader_readNumber.2.1 130 = .ok (.iload_n 1, 1) := by decide +kernel
theorem d_Reader_readNumber_131 : decode m_Reader_readNumber.2.1 131 = .ok (.if_icmp .lt 9, 3) := by decide +kernel
theorem d_Reader_readNumber_134 : decode m_Reader_readNumber.2.1 134 = .ok (.iload 4, 2) := by decide +kernel
theorem d_Reader_readNumber_136 : decode m_Reader_readNumber.2.1 136 = .ok (.iload_n 2, 1) := by decide +kernel
theorem d_Reader_readNumber_137 : decode m_Reader_readNumber.2.1 137 = .ok (.if_icmp .le 13, 3) := by decide +kernel
theorem d_Reader_readNumber_140 : decode m_Reader_readNumber.2.1 140 = .ok (.new 141, 3) := by decide +kernel
theorem d_Reader_readNumber_143 : decode m_Reader_readNumber.2.1 143 = .ok (.dup, 1) := by decide +kernel
theorem d_Reader_readNumber_144 : decode m_Reader_readNumber.2.1 144 = .ok (.ldc 215, 2) := by decide +kernel
theorem d_Reader_readNumber_146 : decode m_Reader_readNumber.2.1 146 = .ok (.invokespecial 145, 3) := by decide +kernel
theorem d_Reader_readNumber_149 : decode m_Reader_readNumber.2.1 149 = .ok (.athrow, 1) := by decide +kernel
theorem d_Reader_readNumber_150 : decode m_Reader_readNumber.2.1 150 = .ok (.iload 4, 2) := by decide +kernel
theorem d_Reader_readNumber_152 : decode m_Reader_readNumber.2.1 152 = .ok (.ireturn, 1) := by decide +kernel
theorem d_Reader_take_0 : decode m_Reader_take.2.1 0 = .ok (.aload_n 0, 1) := by decide +kernel
theorem d_Reader_take_1 : decode m_Reader_take.2.1 1 = .ok (.invokevirtual 103, 3) := by decide +kernel
theorem d_Reader_take_4 : decode m_Reader_take.2.1 4 = .ok (.istore_n 2, 1) := by decide +kernel
theorem d_Reader_take_5 : decode m_Reader_take.2.1 5 = .ok (.iconst 0, 1) := by decide +kernel
theorem d_Reader_take_6 : decode m_Reader_take.2.1 6 = .ok (.istore_n 3, 1) := by decide +kernel
theorem d_Reader_take_7 : decode m_Reader_take.2.1 7 = .ok (.iload_n 3, 1) := by decide +kernel
theorem d_Reader_take_8 : decode m_Reader_take.2.1 8 = .ok (.aload_n 1, 1) := by decide +kernel
theorem d_Reader_take_9 : decode m_Reader_take.2.1 9 = .ok (.invokevirtual 178, 3) := by decide +kernel
theorem d_Reader_take_12 : decode m_Reader_take.2.1 12 = .ok (.if_icmp .ge 30, 3) := by decide +kernel
theorem d_Reader_take_15 : decode m_Reader_take.2.1 15 = .ok (.iload_n 2, 1) := by decide +kernel
theorem d_Reader_take_16 : decode m_Reader_take.2.1 16 = .ok (.aload_n 1, 1) := by decide +kernel
theorem d_Reader_take_17 : decode m_Reader_take.2.1 17 = .ok (.iload_n 3, 1) := by decide +kernel
theorem d_Reader_take_18 : decode m_Reader_take.2.1 18 = .ok (.invokevirtual 183, 3) := by decide +kernel
theorem d_Reader_take_21 : decode m_Reader_take.2.1 21 = .ok (.if_icmp .ne 15, 3) := by decide +kernel
theorem d_Reader_take_24 : decode m_Reader_take.2.1 24 = .ok (.aload_n 0, 1) := by decide +kernel
theorem d_Reader_take_25 : decode m_Reader_take.2.1 25 = .ok (.dup, 1) := by decide +kernel
theorem d_Reader_take_26 : decode m_Reader_take.2.1 26 = .ok (.getfield 22, 3) := by decide +kernel
theorem d_Reader_take_29 : decode m_Reader_take.2.1 29 = .ok (.iconst 1, 1) := by decide +kernel
theorem d_Reader_take_30 : decode m_Reader_take.2.1 30 = .ok (.iadd, 1) := by decide +kernel
theorem d_Reader_take_31 : decode m_Reader_take.2.1 31 = .ok (.putfield 22, 3) := by decide +kernel
theorem d_Reader_take_34 : decode m_Reader_take.2.1 34 = .ok (.iload_n 2, 1) := by decide +kernel
theorem d_Reader_take_35 : decode m_Reader_take.2.1 35 = .ok (.ireturn, 1) := by decide +kernel
theorem d_Reader_take_36 : decode m_Reader_take.2.1 36 = .ok (.iinc 3 1, 3) := by decide +kernel
theorem d_Reader_take_39 : decode m_Reader_take.2.1 39 = .ok (.goto (-32), 3) := by decide +kernel
theorem d_Reader_take_42 : decode m_Reader_take.2.1 42 = .ok (.new 141, 3) := by decide +kernel
theorem d_Reader_take_45 : decode m_Reader_take.2.1 45 = .ok (.dup, 1) := by decide +kernel
theorem d_Reader_take_46 : decode m_Reader_take.2.1 46 = .ok (.ldc 217, 2) := by decide +kernel
theorem d_Reader_take_48 : decode m_Reader_take.2.1 48 = .ok (.invokespecial 145, 3) := by decide +kernel
theorem d_Reader_take_51 : decode m_Reader_take.2.1 51 = .ok (.athrow, 1) := by decide +kernel
theorem d_Reader_hasMore_0 : decode m_Reader_hasMore.2.1 0 = .ok (.aload_n 0, 1) := by decide +kernel
theorem d_Reader_hasMore_1 : decode m_Reader_hasMore.2.1 1 = .ok (.invokevirtual 103, 3) := by decide +kernel
theorem d_Reader_hasMore_4 : decode m_Reader_hasMore.2.1 4 = .ok (.pop, 1) := by decide +kernel
theorem d_Reader_hasMore_5 : decode m_Reader_hasMore.2.1 5 = .ok (.aload_n 0, 1) := by decide +kernel
theorem d_Reader_hasMore_6 : decode m_Reader_hasMore.2.1 6 = .ok (.getfield 22, 3) := by decide +kernel
theorem d_Reader_hasMore_9 : decode m_Reader_hasMore.2.1 9 = .ok (.aload_n 0, 1) := by decide +kernel
theorem d_Reader_hasMore_10 : decode m_Reader_hasMore.2.1 10 = .ok (.getfield 35, 3) := by decide +kernel
theorem d_Reader_hasMore_13 : decode m_Reader_hasMore.2.1 13 = .ok (.if_icmp .ge 7, 3) := by decide +kernel
theorem d_Reader_hasMore_16 : decode m_Reader_hasMore.2.1 16 = .ok (.iconst 1, 1) := by decide +kernel
theorem d_Reader_hasMore_17 : decode m_Reader_hasMore.2.1 17 = .ok (.goto 4, 3) := by decide +kernel
theorem d_Reader_hasMore_20 : decode m_Reader_hasMore.2.1 20 = .ok (.iconst 0, 1) := by decide +kernel
theorem d_Reader_hasMore_21 : decode m_Reader_hasMore.2.1 21 = .ok (.ireturn, 1) := by decide +kernel
theorem d_Reader_nextSign_0 : decode m_Reader_nextSign.2.1 0 = .ok (.aload_n 0, 1) := by decide +kernel
theorem d_Reader_nextSign_1 : decode m_Reader_nextSign.2.1 1 = .ok (.getfield 22, 3) := by decide +kernel
theorem d_Reader_nextSign_4 : decode m_Reader_nextSign.2.1 4 = .ok (.aload_n 0, 1) := by decide +kernel
theorem d_Reader_nextSign_5 : decode m_Reader_nextSign.2.1 5 = .ok (.getfield 35, 3) := by decide +kernel
theorem d_Reader_nextSign_8 : decode m_Reader_nextSign.2.1 8 = .ok (.if_icmp .ge 44, 3) := by decide +kernel
theorem d_Reader_nextSign_11 : decode m_Reader_nextSign.2.1 11 = .ok (.aload_n 0, 1) := by decide +kernel
theorem d_Reader_nextSign_12 : decode m_Reader_nextSign.2.1 12 = .ok (.getfield 25, 3) := by decide +kernel
theorem d_Reader_nextSign_15 : decode m_Reader_nextSign.2.1 15 = .ok (.aload_n 0, 1) := by decide +kernel
theorem d_Reader_nextSign_16 : decode m_Reader_nextSign.2.1 16 = .ok (.getfield 22, 3) := by decide +kernel
theorem d_Reader_nextSign_19 : decode m_Reader_nextSign.2.1 19 = .ok (.iaload, 1) := by decide +kernel
theorem d_Reader_nextSign_20 : decode m_Reader_nextSign.2.1 20 = .ok (.bipush 32, 2) := by decide +kernel
theorem d_Reader_nextSign_22 : decode m_Reader_nextSign.2.1 22 = .ok (.if_icmp .eq 17, 3) := by decide +kernel
theorem d_Reader_nextSign_25 : decode m_Reader_nextSign.2.1 25 = .ok (.aload_n 0, 1) := by decide +kernel
theorem d_Reader_nextSign_26 : decode m_Reader_nextSign.2.1 26 = .ok (.getfield 25, 3) := by decide +kernel
theorem d_Reader_nextSign_29 : decode m_Reader_nextSign.2.1 29 = .ok (.aload_n 0, 1) := by decide +kernel
theorem d_Reader_nextSign_30 : decode m_Reader_nextSign.2.1 30 = .ok (.getfield 22, 3) := by decide +kernel
theorem d_Reader_nextSign_33 : decode m_Reader_nextSign.2.1 33 = .ok (.iaload, 1) := by decide +kernel
theorem d_Reader_nextSign_34 : decode m_Reader_nextSign.2.1 34 = .ok (.bipush 10, 2) := by decide +kernel
theorem d_Reader_nextSign_36 : decode m_Reader_nextSign.2.1 36 = .ok (.if_icmp .ne 16, 3) := by decide +kernel
theorem d_Reader_nextSign_39 : decode m_Reader_nextSign.2.1 39 = .ok (.aload_n 0, 1) := by decide +kernel
theorem d_Reader_nextSign_40 : decode m_Reader_nextSign.2.1 40 = .ok (.dup, 1) := by decide +kernel
theorem d_Reader_nextSign_41 : decode m_Reader_nextSign.2.1 41 = .ok (.getfield 22, 3) := by decide +kernel
theorem d_Reader_nextSign_44 : decode m_Reader_nextSign.2.1 44 = .ok (.iconst 1, 1) := by decide +kernel
theorem d_Reader_nextSign_45 : decode m_Reader_nextSign.2.1 45 = .ok (.iadd, 1) := by decide +kernel
theorem d_Reader_nextSign_46 : decode m_Reader_nextSign.2.1 46 = .ok (.putfield 22, 3) := by decide +kernel
theorem d_Reader_nextSign_49 : decode m_Reader_nextSign.2.1 49 = .ok (.goto (-49), 3) := by decide +kernel
theorem d_Reader_nextSign_52 : decode m_Reader_nextSign.2.1 52 = .ok (.aload_n 0, 1) := by decide +kernel
theorem d_Reader_nextSign_53 : decode m_Reader_nextSign.2.1 53 = .ok (.getfield 22, 3) := by decide +kernel
theorem d_Reader_nextSign_56 : decode m_Reader_nextSign.2.1 56 = .ok (.aload_n 0, 1) := by decide +kernel
theorem d_Reader_nextSign_57 : decode m_Reader_nextSign.2.1 57 = .ok (.getfield 35, 3) := by decide +kernel
theorem d_Reader_nextSign_60 : decode m_Reader_nextSign.2.1 60 = .ok (.if_icmp .ge 15, 3) := by decide +kernel
theorem d_Reader_nextSign_63 : decode m_Reader_nextSign.2.1 63 = .ok (.aload_n 0, 1) := by decide +kernel
theorem d_Reader_nextSign_64 : decode m_Reader_nextSign.2.1 64 = .ok (.getfield 25, 3) := by decide +kernel
theorem d_Reader_nextSign_67 : decode m_Reader_nextSign.2.1 67 = .ok (.aload_n 0, 1) := by decide +kernel
theorem d_Reader_nextSign_68 : decode m_Reader_nextSign.2.1 68 = .ok (.getfield 22, 3) := by decide +kernel
theorem d_Reader_nextSign_71 : decode m_Reader_nextSign.2.1 71 = .ok (.iaload, 1) := by decide +kernel
theorem d_Reader_nextSign_72 : decode m_Reader_nextSign.2.1 72 = .ok (.goto 4, 3) := by decide +kernel
theorem d_Reader_nextSign_75 : decode m_Reader_nextSign.2.1 75 = .ok (.iconst (-1), 1) := by decide +kernel
theorem d_Reader_nextSign_76 : decode m_Reader_nextSign.2.1 76 = .ok (.ireturn, 1) := by decide +kernel
theorem d_Reader_isLetter_0 : decode m_Reader_isLetter.2.1 0 = .ok (.iload_n 0, 1) := by decide +kernel
theorem d_Reader_isLetter_1 : decode m_Reader_isLetter.2.1 1 = .ok (.bipush 97, 2) := by decide +kernel
theorem d_Reader_isLetter_3 : decode m_Reader_isLetter.2.1 3 = .ok (.if_icmp .lt 13, 3) := by decide +kernel
theorem d_Reader_isLetter_6 : decode m_Reader_isLetter.2.1 6 = .ok (.iload_n 0, 1) := by decide +kernel
theorem d_Reader_isLetter_7 : decode m_Reader_isLetter.2.1 7 = .ok (.bipush 122, 2) := by decide +kernel
theorem d_Reader_isLetter_9 : decode m_Reader_isLetter.2.1 9 = .ok (.if_icmp .gt 7, 3) := by decide +kernel
theorem d_Reader_isLetter_12 : decode m_Reader_isLetter.2.1 12 = .ok (.iconst 1, 1) := by decide +kernel
theorem d_Reader_isLetter_13 : decode m_Reader_isLetter.2.1 13 = .ok (.goto 4, 3) := by decide +kernel
theorem d_Reader_isLetter_16 : decode m_Reader_isLetter.2.1 16 = .ok (.iconst 0, 1) := by decide +kernel
theorem d_Reader_isLetter_17 : decode m_Reader_isLetter.2.1 17 = .ok (.ireturn, 1) := by decide +kernel
theorem d_Reader_isTextSign_0 : decode m_Reader_isTextSign.2.1 0 = .ok (.iload_n 0, 1) := by decide +kernel
theorem d_Reader_isTextSign_1 : decode m_Reader_isTextSign.2.1 1 = .ok (.bipush 32, 2) := by decide +kernel
theorem d_Reader_isTextSign_3 : decode m_Reader_isTextSign.2.1 3 = .ok (.if_icmp .lt 19, 3) := by decide +kernel
theorem d_Reader_isTextSign_6 : decode m_Reader_isTextSign.2.1 6 = .ok (.iload_n 0, 1) := by decide +kernel
theorem d_Reader_isTextSign_7 : decode m_Reader_isTextSign.2.1 7 = .ok (.bipush 126, 2) := by decide +kernel
theorem d_Reader_isTextSign_9 : decode m_Reader_isTextSign.2.1 9 = .ok (.if_icmp .gt 13, 3) := by decide +kernel
theorem d_Reader_isTextSign_12 : decode m_Reader_isTextSign.2.1 12 = .ok (.iload_n 0, 1) := by decide +kernel
theorem d_Reader_isTextSign_13 : decode m_Reader_isTextSign.2.1 13 = .ok (.bipush 39, 2) := by decide +kernel
theorem d_Reader_isTextSign_15 : decode m_Reader_isTextSign.2.1 15 = .ok (.if_icmp .eq 7, 3) := by decide +kernel
theorem d_Reader_isTextSign_18 : decode m_Reader_isTextSign.2.1 18 = .ok (.iconst 1, 1) := by decide +kernel
theorem d_Reader_isTextSign_19 : decode m_Reader_isTextSign.2.1 19 = .ok (.goto 4, 3) := by decide +kernel
theorem d_Reader_isTextSign_22 : decode m_Reader_isTextSign.2.1 22 = .ok (.iconst 0, 1) := by decide +kernel
theorem d_Reader_isTextSign_23 : decode m_Reader_isTextSign.2.1 23 = .ok (.ireturn, 1) := by decide +kernel
