theorem d_Key_init_0 : decode m_Key_init.2.1 0 = .ok (.aload_n 0, 1) := by decide +kernel
theorem d_Key_init_1 : decode m_Key_init.2.1 1 = .ok (.invokespecial 1, 3) := by decide +kernel
theorem d_Key_init_4 : decode m_Key_init.2.1 4 = .ok (.aload_n 0, 1) := by decide +kernel
theorem d_Key_init_5 : decode m_Key_init.2.1 5 = .ok (.aload_n 1, 1) := by decide +kernel
theorem d_Key_init_6 : decode m_Key_init.2.1 6 = .ok (.putfield 7, 3) := by decide +kernel
theorem d_Key_init_9 : decode m_Key_init.2.1 9 = .ok (.aload_n 0, 1) := by decide +kernel
theorem d_Key_init_10 : decode m_Key_init.2.1 10 = .ok (.iload_n 2, 1) := by decide +kernel
theorem d_Key_init_11 : decode m_Key_init.2.1 11 = .ok (.putfield 13, 3) := by decide +kernel
theorem d_Key_init_14 : decode m_Key_init.2.1 14 = .ok (.aload_n 0, 1) := by decide +kernel
theorem d_Key_init_15 : decode m_Key_init.2.1 15 = .ok (.iload_n 3, 1) := by decide +kernel
theorem d_Key_init_16 : decode m_Key_init.2.1 16 = .ok (.putfield 17, 3) := by decide +kernel
theorem d_Key_init_19 : decode m_Key_init.2.1 19 = .ok (.return_, 1) := by decide +kernel
theorem d_Part_init_0 : decode m_Part_init.2.1 0 = .ok (.aload_n 0, 1) := by decide +kernel
theorem d_Part_init_1 : decode m_Part_init.2.1 1 = .ok (.invokespecial 3, 3) := by decide +kernel
theorem d_Part_init_4 : decode m_Part_init.2.1 4 = .ok (.aload_n 0, 1) := by decide +kernel
theorem d_Part_init_5 : decode m_Part_init.2.1 5 = .ok (.aload_n 1, 1) := by decide +kernel
theorem d_Part_init_6 : decode m_Part_init.2.1 6 = .ok (.putfield 9, 3) := by decide +kernel
theorem d_Part_init_9 : decode m_Part_init.2.1 9 = .ok (.aload_n 0, 1) := by decide +kernel
theorem d_Part_init_10 : decode m_Part_init.2.1 10 = .ok (.iload_n 2, 1) := by decide +kernel
theorem d_Part_init_11 : decode m_Part_init.2.1 11 = .ok (.putfield 15, 3) := by decide +kernel
theorem d_Part_init_14 : decode m_Part_init.2.1 14 = .ok (.aload_n 0, 1) := by decide +kernel
theorem d_Part_init_15 : decode m_Part_init.2.1 15 = .ok (.iload_n 3, 1) := by decide +kernel
theorem d_Part_init_16 : decode m_Part_init.2.1 16 = .ok (.putfield 19, 3) := by decide +kernel
theorem d_Part_init_19 : decode m_Part_init.2.1 19 = .ok (.return_, 1) := by decide +kernel
theorem d_Part_ofField_0 : decode m_Part_ofField.2.1 0 = .ok (.new 10, 3) := by decide +kernel
theorem d_Part_ofField_3 : decode m_Part_ofField.2.1 3 = .ok (.dup, 1) := by decide +kernel
theorem d_Part_ofField_4 : decode m_Part_ofField.2.1 4 = .ok (.aconst_null, 1) := by decide +kernel
theorem d_Part_ofField_5 : decode m_Part_ofField.2.1 5 = .ok (.iload_n 0, 1) := by decide +kernel
theorem d_Part_ofField_6 : decode m_Part_ofField.2.1 6 = .ok (.iconst 1, 1) := by decide +kernel
theorem d_Part_ofField_7 : decode m_Part_ofField.2.1 7 = .ok (.isub, 1) := by decide +kernel
theorem d_Part_ofField_8 : decode m_Part_ofField.2.1 8 = .ok (.iload_n 1, 1) := by decide +kernel
theorem d_Part_ofField_9 : decode m_Part_ofField.2.1 9 = .ok (.invokespecial 22, 3) := by decide +kernel
theorem d_Part_ofField_12 : decode m_Part_ofField.2.1 12 = .ok (.areturn, 1) := by decide +kernel
theorem d_Part_ofText_0 : decode m_Part_ofText.2.1 0 = .ok (.new 10, 3) := by decide +kernel
theorem d_Part_ofText_3 : decode m_Part_ofText.2.1 3 = .ok (.dup, 1) := by decide +kernel
theorem d_Part_ofText_4 : decode m_Part_ofText.2.1 4 = .ok (.aload_n 0, 1) := by decide +kernel
theorem d_Part_ofText_5 : decode m_Part_ofText.2.1 5 = .ok (.iconst 0, 1) := by decide +kernel
theorem d_Part_ofText_6 : decode m_Part_ofText.2.1 6 = .ok (.aload_n 0, 1) := by decide +kernel
theorem d_Part_ofText_7 : decode m_Part_ofText.2.1 7 = .ok (.arraylength, 1) := by decide +kernel
theorem d_Part_ofText_8 : decode m_Part_ofText.2.1 8 = .ok (.invokespecial 22, 3) := by decide +kernel
theorem d_Part_ofText_11 : decode m_Part_ofText.2.1 11 = .ok (.areturn, 1) := by decide +kernel
theorem d_Part_octetAt_0 : decode m_Part_octetAt.2.1 0 = .ok (.iload_n 2, 1) := by decide +kernel
theorem d_Part_octetAt_1 : decode m_Part_octetAt.2.1 1 = .ok (.ifCond .lt 11, 3) := by decide +kernel
theorem d_Part_octetAt_4 : decode m_Part_octetAt.2.1 4 = .ok (.iload_n 2, 1) := by decide +kernel
theorem d_Part_octetAt_5 : decode m_Part_octetAt.2.1 5 = .ok (.aload_n 0, 1) := by decide +kernel
theorem d_Part_octetAt_6 : decode m_Part_octetAt.2.1 6 = .ok (.getfield 19, 3) := by decide +kernel
theorem d_Part_octetAt_9 : decode m_Part_octetAt.2.1 9 = .ok (.if_icmp .lt 6, 3) := by decide +kernel
theorem d_Part_octetAt_12 : decode m_Part_octetAt.2.1 12 = .ok (.bipush 32, 2) := by decide +kernel
theorem d_Part_octetAt_14 : decode m_Part_octetAt.2.1 14 = .ok (.ireturn, 1) := by decide +kernel
theorem d_Part_octetAt_15 : decode m_Part_octetAt.2.1 15 = .ok (.aload_n 0, 1) := by decide +kernel
theorem d_Part_octetAt_16 : decode m_Part_octetAt.2.1 16 = .ok (.getfield 9, 3) := by decide +kernel
theorem d_Part_octetAt_19 : decode m_Part_octetAt.2.1 19 = .ok (.ifnonnull 16, 3) := by decide +kernel
theorem d_Part_octetAt_22 : decode m_Part_octetAt.2.1 22 = .ok (.aload_n 1, 1) := by decide +kernel
theorem d_Part_octetAt_23 : decode m_Part_octetAt.2.1 23 = .ok (.aload_n 0, 1) := by decide +kernel
theorem d_Part_octetAt_24 : decode m_Part_octetAt.2.1 24 = .ok (.getfield 15, 3) := by decide +kernel
theorem d_Part_octetAt_27 : decode m_Part_octetAt.2.1 27 = .ok (.iload_n 2, 1) := by decide +kernel
theorem d_Part_octetAt_28 : decode m_Part_octetAt.2.1 28 = .ok (.iadd, 1) := by decide +kernel
theorem d_Part_octetAt_29 : decode m_Part_octetAt.2.1 29 = .ok (.invokevirtual 25, 3) := by decide +kernel
theorem d_Part_octetAt_32 : decode m_Part_octetAt.2.1 32 = .ok (.goto 9, 3) := by decide +kernel
theorem d_Part_octetAt_35 : decode m_Part_octetAt.2.1 35 = .ok (.aload_n 0, 1) := by decide +kernel
theorem d_Part_octetAt_36 : decode m_Part_octetAt.2.1 36 = .ok (.getfield 9, 3) := by decide +kernel
theorem d_Part_octetAt_39 : decode m_Part_octetAt.2.1 39 = .ok (.iload_n 2, 1) := by decide +kernel
theorem d_Part_octetAt_40 : decode m_Part_octetAt.2.1 40 = .ok (.baload, 1) := by decide +kernel
theorem d_Part_octetAt_41 : decode m_Part_octetAt.2.1 41 = .ok (.ireturn, 1) := by decide +kernel
theorem d_Part_numberIn_0 : decode m_Part_numberIn.2.1 0 = .ok (.lconst 0, 1) := by decide +kernel
theorem d_Part_numberIn_1 : decode m_Part_numberIn.2.1 1 = .ok (.lstore_n 2, 1) := by decide +kernel
theorem d_Part_numberIn_2 : decode m_Part_numberIn.2.1 2 = .ok (.iconst 0, 1) := by decide +kernel
theorem d_Part_numberIn_3 : decode m_Part_numberIn.2.1 3 = .ok (.istore 4, 2) := by decide +kernel
theorem d_Part_numberIn_5 : decode m_Part_numberIn.2.1 5 = .ok (.iload 4, 2) := by decide +kernel
theorem d_Part_numberIn_7 : decode m_Part_numberIn.2.1 7 = .ok (.aload_n 0, 1) := by decide +kernel
theorem d_Part_numberIn_8 : decode m_Part_numberIn.2.1 8 = .ok (.getfield 19, 3) := by decide +kernel
theorem d_Part_numberIn_11 : decode m_Part_numberIn.2.1 11 = .ok (.if_icmp .ge 27, 3) := by decide +kernel
theorem d_Part_numberIn_14 : decode m_Part_numberIn.2.1 14 = .ok (.lload_n 2, 1) := by decide +kernel
theorem d_Part_numberIn_15 : decode m_Part_numberIn.2.1 15 = .ok (.ldc2_w 31, 3) := by decide +kernel
theorem d_Part_numberIn_18 : decode m_Part_numberIn.2.1 18 = .ok (.lmul, 1) := by decide +kernel
theorem d_Part_numberIn_19 : decode m_Part_numberIn.2.1 19 = .ok (.aload_n 0, 1) := by decide +kernel
theorem d_Part_numberIn_20 : decode m_Part_numberIn.2.1 20 = .ok (.aload_n 1, 1) := by decide +kernel
theorem d_Part_numberIn_21 : decode m_Part_numberIn.2.1 21 = .ok (.iload 4, 2) := by decide +kernel
theorem d_Part_numberIn_23 : decode m_Part_numberIn.2.1 23 = .ok (.invokevirtual 33, 3) := by decide +kernel
theorem d_Part_numberIn_26 : decode m_Part_numberIn.2.1 26 = .ok (.invokestatic 36, 3) := by decide +kernel
theorem d_Part_numberIn_29 : decode m_Part_numberIn.2.1 29 = .ok (.i2l, 1) := by decide +kernel
theorem d_Part_numberIn_30 : decode m_Part_numberIn.2.1 30 = .ok (.ladd, 1) := by decide +kernel
theorem d_Part_numberIn_31 : decode m_Part_numberIn.2.1 31 = .ok (.lstore_n 2, 1) := by decide +kernel
theorem d_Part_numberIn_32 : decode m_Part_numberIn.2.1 32 = .ok (.iinc 4 1, 3) := by decide +kernel
theorem d_Part_numberIn_35 : decode m_Part_numberIn.2.1 35 = .ok (.goto (-30), 3) := by decide +kernel
theorem d_Part_numberIn_38 : decode m_Part_numberIn.2.1 38 = .ok (.lload_n 2, 1) := by decide +kernel
theorem d_Part_numberIn_39 : decode m_Part_numberIn.2.1 39 = .ok (.lreturn, 1) := by decide +kernel
theorem d_Part_firstNumberTooLong_0 : decode m_Part_firstNumberTooLong.2.1 0 = .ok (.lconst 1, 1) := by decide +kernel
theorem d_Part_firstNumberTooLong_1 : decode m_Part_firstNumberTooLong.2.1 1 = .ok (.lstore_n 1, 1) := by decide +kernel
theorem d_Part_firstNumberTooLong_2 : decode m_Part_firstNumberTooLong.2.1 2 = .ok (.iconst 0, 1) := by decide +kernel
theorem d_Part_firstNumberTooLong_3 : decode m_Part_firstNumberTooLong.2.1 3 = .ok (.istore_n 3, 1) := by decide +kernel
theorem d_Part_firstNumberTooLong_4 : decode m_Part_firstNumberTooLong.2.1 4 = .ok (.iload_n 3, 1) := by decide +kernel
theorem d_Part_firstNumberTooLong_5 : decode m_Part_firstNumberTooLong.2.1 5 = .ok (.aload_n 0, 1) := by decide +kernel
theorem d_Part_firstNumberTooLong_6 : decode m_Part_firstNumberTooLong.2.1 6 = .ok (.getfield 19, 3) := by decide +kernel
theorem d_Part_firstNumberTooLong_9 : decode m_Part_firstNumberTooLong.2.1 9 = .ok (.if_icmp .ge 15, 3) := by decide +kernel
theorem d_Part_firstNumberTooLong_12 : decode m_Part_firstNumberTooLong.2.1 12 = .ok (.lload_n 1, 1) := by decide +kernel
theorem d_Part_firstNumberTooLong_13 : decode m_Part_firstNumberTooLong.2.1 13 = .ok (.ldc2_w 31, 3) := by decide +kernel
theorem d_Part_firstNumberTooLong_16 : decode m_Part_firstNumberTooLong.2.1 16 = .ok (.lmul, 1) := by decide +kernel
theorem d_Part_firstNumberTooLong_17 : decode m_Part_firstNumberTooLong.2.1 17 = .ok (.lstore_n 1, 1) := by decide +kernel
theorem d_Part_firstNumberTooLong_18 : decode m_Part_firstNumberTooLong.2.1 18 = .ok (.iinc 3 1, 3) := by decide +kernel
theorem d_Part_firstNumberTooLong_21 : decode m_Part_firstNumberTooLong.2.1 21 = .ok (.goto (-17), 3) := by decide +kernel
theorem d_Part_firstNumberTooLong_24 : decode m_Part_firstNumberTooLong.2.1 24 = .ok (.lload_n 1, 1) := by decide +kernel
theorem d_Part_firstNumberTooLong_25 : decode m_Part_firstNumberTooLong.2.1 25 = .ok (.lreturn, 1) := by decide +kernel
theorem d_Part_writeNumber_0 : decode m_Part_writeNumber.2.1 0 = .ok (.lload_n 2, 1) := by decide +kernel
theorem d_Part_writeNumber_1 : decode m_Part_writeNumber.2.1 1 = .ok (.lstore 4, 2) := by decide +kernel
theorem d_Part_writeNumber_3 : decode m_Part_writeNumber.2.1 3 = .ok (.aload_n 0, 1) := by decide +kernel
theorem d_Part_writeNumber_4 : decode m_Part_writeNumber.2.1 4 = .ok (.getfield 19, 3) := by decide +kernel
theorem d_Part_writeNumber_7 : decode m_Part_writeNumber.2.1 7 = .ok (.iconst 1, 1) := by decide +kernel
theorem d_Part_writeNumber_8 : decode m_Part_writeNumber.2.1 8 = .ok (.isub, 1) := by decide +kernel
theorem d_Part_writeNumber_9 : decode m_Part_writeNumber.2.1 9 = .ok (.istore 6, 2) := by decide +kernel
theorem d_Part_writeNumber_11 : decode m_Part_writeNumber.2.1 11 = .ok (.iload 6, 2) := by decide +kernel
theorem d_Part_writeNumber_13 : decode m_Part_writeNumber.2.1 13 = .ok (.ifCond .lt 39, 3) := by decide +kernel
theorem d_Part_writeNumber_16 : decode m_Part_writeNumber.2.1 16 = .ok (.aload_n 1, 1) := by decide +kernel
theorem d_Part_writeNumber_17 : decode m_Part_writeNumber.2.1 17 = .ok (.aload_n 0, 1) := by decide +kernel
theorem d_Part_writeNumber_18 : decode m_Part_writeNumber.2.1 18 = .ok (.getfield 15, 3) := by decide +kernel
theorem d_Part_writeNumber_21 : decode m_Part_writeNumber.2.1 21 = .ok (.iload 6, 2) := by decide +kernel
theorem d_Part_writeNumber_23 : decode m_Part_writeNumber.2.1 23 = .ok (.iadd, 1) := by decide +kernel
theorem d_Part_writeNumber_24 : decode m_Part_writeNumber.2.1 24 = .ok (.ldc2_w 39, 3) := by decide +kernel
theorem d_Part_writeNumber_27 : decode m_Part_writeNumber.2.1 27 = .ok (.lload 4, 2) := by decide +kernel
theorem d_Part_writeNumber_29 : decode m_Part_writeNumber.2.1 29 = .ok (.ldc2_w 31, 3) := by decide +kernel
theorem d_Part_writeNumber_32 : decode m_Part_writeNumber.2.1 32 = .ok (.lrem, 1) := by decide +kernel
theorem d_Part_writeNumber_33 : decode m_Part_writeNumber.2.1 33 = .ok (.ladd, 1) := by decide +kernel
theorem d_Part_writeNumber_34 : decode m_Part_writeNumber.2.1 34 = .ok (.l2i, 1) := by decide +kernel
theorem d_Part_writeNumber_35 : decode m_Part_writeNumber.2.1 35 = .ok (.invokevirtual 41, 3) := by decide +kernel
theorem d_Part_writeNumber_38 : decode m_Part_writeNumber.2.1 38 = .ok (.lload 4, 2) := by decide +kernel
theorem d_Part_writeNumber_40 : decode m_Part_writeNumber.2.1 40 = .ok (.ldc2_w 31, 3) := by decide +kernel
theorem d_Part_writeNumber_43 : decode m_Part_writeNumber.2.1 43 = .ok (.ldiv, 1) := by decide +kernel
theorem d_Part_writeNumber_44 : decode m_Part_writeNumber.2.1 44 = .ok (.lstore 4, 2) := by decide +kernel
theorem d_Part_writeNumber_46 : decode m_Part_writeNumber.2.1 46 = .ok (.iinc 6 (-1), 3) := by decide +kernel
theorem d_Part_writeNumber_49 : decode m_Part_writeNumber.2.1 49 = .ok (.goto (-38), 3) := by decide +kernel
theorem d_Part_writeNumber_52 : decode m_Part_writeNumber.2.1 52 = .ok (.return_, 1) := by decide +kernel
theorem d_Row_init_0 : decode m_Row_init.2.1 0 = .ok (.aload_n 0, 1) := by decide +kernel
theorem d_Row_init_1 : decode m_Row_init.2.1 1 = .ok (.invokespecial 3, 3) := by decide +kernel
theorem d_Row_init_4 : decode m_Row_init.2.1 4 = .ok (.aload_n 0, 1) := by decide +kernel
theorem d_Row_init_5 : decode m_Row_init.2.1 5 = .ok (.bipush 100, 2) := by decide +kernel
theorem d_Row_init_7 : decode m_Row_init.2.1 7 = .ok (.newarray .byte, 2) := by decide +kernel
theorem d_Row_init_9 : decode m_Row_init.2.1 9 = .ok (.putfield 9, 3) := by decide +kernel
theorem d_Row_init_12 : decode m_Row_init.2.1 12 = .ok (.aload_n 0, 1) := by decide +kernel
theorem d_Row_init_13 : decode m_Row_init.2.1 13 = .ok (.iconst 0, 1) := by decide +kernel
theorem d_Row_init_14 : decode m_Row_init.2.1 14 = .ok (.putfield 15, 3) := by decide +kernel
theorem d_Row_init_17 : decode m_Row_init.2.1 17 = .ok (.aload_n 0, 1) := by decide +kernel
theorem d_Row_init_18 : decode m_Row_init.2.1 18 = .ok (.iconst 0, 1) := by decide +kernel
theorem d_Row_init_19 : decode m_Row_init.2.1 19 = .ok (.putfield 19, 3) := by decide +kernel
theorem d_Row_init_22 : decode m_Row_init.2.1 22 = .ok (.aload_n 0, 1) := by decide +kernel
theorem d_Row_init_23 : decode m_Row_init.2.1 23 = .ok (.iconst 0, 1) := by decide +kernel
theorem d_Row_init_24 : decode m_Row_init.2.1 24 = .ok (.putfield 22, 3) := by decide +kernel
theorem d_Row_init_27 : decode m_Row_init.2.1 27 = .ok (.aload_n 0, 1) := by decide +kernel
theorem d_Row_init_28 : decode m_Row_init.2.1 28 = .ok (.iconst 1, 1) := by decide +kernel
theorem d_Row_init_29 : decode m_Row_init.2.1 29 = .ok (.putfield 25, 3) := by decide +kernel
theorem d_Row_init_32 : decode m_Row_init.2.1 32 = .ok (.return_, 1) := by decide +kernel
theorem d_Row_octetAt_0 : decode m_Row_octetAt.2.1 0 = .ok (.iload_n 1, 1) := by decide +kernel
theorem d_Row_octetAt_1 : decode m_Row_octetAt.2.1 1 = .ok (.ifCond .lt 24, 3) := by decide +kernel
theorem d_Row_octetAt_4 : decode m_Row_octetAt.2.1 4 = .ok (.iload_n 1, 1) := by decide +kernel
theorem d_Row_octetAt_5 : decode m_Row_octetAt.2.1 5 = .ok (.aload_n 0, 1) := by decide +kernel
theorem d_Row_octetAt_6 : decode m_Row_octetAt.2.1 6 = .ok (.getfield 15, 3) := by decide +kernel
theorem d_Row_octetAt_9 : decode m_Row_octetAt.2.1 9 = .ok (.if_icmp .ge 16, 3) := by decide +kernel
theorem d_Row_octetAt_12 : decode m_Row_octetAt.2.1 12 = .ok (.aload_n 0, 1) := by decide +kernel
theorem d_Row_octetAt_13 : decode m_Row_octetAt.2.1 13 = .ok (.getfield 9, 3) := by decide +kernel
theorem d_Row_octetAt_16 : decode m_Row_octetAt.2.1 16 = .ok (.iload_n 1, 1) := by decide +kernel
theorem d_Row_octetAt_17 : decode m_Row_octetAt.2.1 17 = .ok (.baload, 1) := by decide +kernel
theorem d_Row_octetAt_18 : decode m_Row_octetAt.2.1 18 = .ok (.sipush 255, 3) := by decide +kernel
theorem d_Row_octetAt_21 : decode m_Row_octetAt.2.1 21 = .ok (.iand, 1) := by decide +kernel
theorem d_Row_octetAt_22 : decode m_Row_octetAt.2.1 22 = .ok (.goto 5, 3) := by decide +kernel
theorem d_Row_octetAt_25 : decode m_Row_octetAt.2.1 25 = .ok (.bipush 32, 2) := by decide +kernel
theorem d_Row_octetAt_27 : decode m_Row_octetAt.2.1 27 = .ok (.ireturn, 1) := by decide +kernel
theorem d_Row_put_0 : decode m_Row_put.2.1 0 = .ok (.iload_n 1, 1) := by decide +kernel
theorem d_Row_put_1 : decode m_Row_put.2.1 1 = .ok (.ifCond .lt 9, 3) := by decide +kernel
theorem d_Row_put_4 : decode m_Row_put.2.1 4 = .ok (.iload_n 1, 1) := by decide +kernel
theorem d_Row_put_5 : decode m_Row_put.2.1 5 = .ok (.bipush 100, 2) := by decide +kernel
theorem d_Row_put_7 : decode m_Row_put.2.1 7 = .ok (.if_icmp .lt 4, 3) := by decide +kernel
theorem d_Row_put_10 : decode m_Row_put.2.1 10 = .ok (.return_, 1) := by decide +kernel
theorem d_Row_put_11 : decode m_Row_put.2.1 11 = .ok (.aload_n 0, 1) := by decide +kernel
theorem d_Row_put_12 : decode m_Row_put.2.1 12 = .ok (.getfield 15, 3) := by decide +kernel
theorem d_Row_put_15 : decode m_Row_put.2.1 15 = .ok (.iload_n 1, 1) := by decide +kernel
theorem d_Row_put_16 : decode m_Row_put.2.1 16 = .ok (.if_icmp .ge 27, 3) := by decide +kernel
theorem d_Row_put_19 : decode m_Row_put.2.1 19 = .ok (.aload_n 0, 1) := by decide +kernel
theorem d_Row_put_20 : decode m_Row_put.2.1 20 = .ok (.getfield 9, 3) := by decide +kernel
theorem d_Row_put_23 : decode m_Row_put.2.1 23 = .ok (.aload_n 0, 1) := by decide +kernel
theorem d_Row_put_24 : decode m_Row_put.2.1 24 = .ok (.getfield 15, 3) := by decide +kernel
theorem d_Row_put_27 : decode m_Row_put.2.1 27 = .ok (.bipush 32, 2) := by decide +kernel
theorem d_Row_put_29 : decode m_Row_put.2.1 29 = .ok (.bastore, 1) := by decide +kernel
theorem d_Row_put_30 : decode m_Row_put.2.1 30 = .ok (.aload_n 0, 1) := by decide +kernel
theorem d_Row_put_31 : decode m_Row_put.2.1 31 = .ok (.dup, 1) := by decide +kernel
theorem d_Row_put_32 : decode m_Row_put.2.1 32 = .ok (.getfield 15, 3) := by decide +kernel
theorem d_Row_put_35 : decode m_Row_put.2.1 35 = .ok (.iconst 1, 1) := by decide +kernel
theorem d_Row_put_36 : decode m_Row_put.2.1 36 = .ok (.iadd, 1) := by decide +kernel
theorem d_Row_put_37 : decode m_Row_put.2.1 37 = .ok (.putfield 15, 3) := by decide +kernel
theorem d_Row_put_40 : decode m_Row_put.2.1 40 = .ok (.goto (-29), 3) := by decide +kernel
theorem d_Row_put_43 : decode m_Row_put.2.1 43 = .ok (.aload_n 0, 1) := by decide +kernel
theorem d_Row_put_44 : decode m_Row_put.2.1 44 = .ok (.aload_n 0, 1) := by decide +kernel
theorem d_Row_put_45 : decode m_Row_put.2.1 45 = .ok (.getfield 15, 3) := by decide +kernel
theorem d_Row_put_48 : decode m_Row_put.2.1 48 = .ok (.iload_n 1, 1) := by decide +kernel
theorem d_Row_put_49 : decode m_Row_put.2.1 49 = .ok (.iconst 1, 1) := by decide +kernel
theorem d_Row_put_50 : decode m_Row_put.2.1 50 = .ok (.iadd, 1) := by decide +kernel
theorem d_Row_put_51 : decode m_Row_put.2.1 51 = .ok (.invokestatic 28, 3) := by decide +kernel
theorem d_Row_put_54 : decode m_Row_put.2.1 54 = .ok (.putfield 15, 3) := by decide +kernel
theorem d_Row_put_57 : decode m_Row_put.2.1 57 = .ok (.aload_n 0, 1) := by decide +kernel
theorem d_Row_put_58 : decode m_Row_put.2.1 58 = .ok (.getfield 9, 3) := by decide +kernel
theorem d_Row_put_61 : decode m_Row_put.2.1 61 = .ok (.iload_n 1, 1) := by decide +kernel
theorem d_Row_put_62 : decode m_Row_put.2.1 62 = .ok (.iload_n 2, 1) := by decide +kernel
theorem d_Row_put_63 : decode m_Row_put.2.1 63 = .ok (.i2b, 1) := by decide +kernel
theorem d_Row_put_64 : decode m_Row_put.2.1 64 = .ok (.bastore, 1) := by decide +kernel
theorem d_Row_put_65 : decode m_Row_put.2.1 65 = .ok (.return_, 1) := by decide +kernel
theorem d_Row_append_0 : decode m_Row_append.2.1 0 = .ok (.aload_n 0, 1) := by decide +kernel
theorem d_Row_append_1 : decode m_Row_append.2.1 1 = .ok (.aload_n 0, 1) := by decide +kernel
theorem d_Row_append_2 : decode m_Row_append.2.1 2 = .ok (.getfield 15, 3) := by decide +kernel
theorem d_Row_append_5 : decode m_Row_append.2.1 5 = .ok (.iload_n 1, 1) := by decide +kernel
theorem d_Row_append_6 : decode m_Row_append.2.1 6 = .ok (.invokevirtual 34, 3) := by decide +kernel
theorem d_Row_append_9 : decode m_Row_append.2.1 9 = .ok (.return_, 1) := by decide +kernel
theorem d_Row_become_0 : decode m_Row_become.2.1 0 = .ok (.aload_n 1, 1) := by decide +kernel
theorem d_Row_become_1 : decode m_Row_become.2.1 1 = .ok (.getfield 9, 3) := by decide +kernel
theorem d_Row_become_4 : decode m_Row_become.2.1 4 = .ok (.iconst 0, 1) := by decide +kernel
theorem d_Row_become_5 : decode m_Row_become.2.1 5 = .ok (.aload_n 0, 1) := by decide +kernel
theorem d_Row_become_6 : decode m_Row_become.2.1 6 = .ok (.getfield 9, 3) := by decide +kernel
theorem d_Row_become_9 : decode m_Row_become.2.1 9 = .ok (.iconst 0, 1) := by decide +kernel
theorem d_Row_become_10 : decode m_Row_become.2.1 10 = .ok (.bipush 100, 2) := by decide +kernel
theorem d_Row_become_12 : decode m_Row_become.2.1 12 = .ok (.invokestatic 38, 3) := by decide +kernel
theorem d_Row_become_15 : decode m_Row_become.2.1 15 = .ok (.aload_n 0, 1) := by decide +kernel
theorem d_Row_become_16 : decode m_Row_become.2.1 16 = .ok (.aload_n 1, 1) := by decide +kernel
theorem d_Row_become_17 : decode m_Row_become.2.1 17 = .ok (.getfield 15, 3) := by decide +kernel
theorem d_Row_become_20 : decode m_Row_become.2.1 20 = .ok (.putfield 15, 3) := by decide +kernel
theorem d_Row_become_23 : decode m_Row_become.2.1 23 = .ok (.aload_n 0, 1) := by decide +kernel
theorem d_Row_become_24 : decode m_Row_become.2.1 24 = .ok (.aload_n 1, 1) := by decide +kernel
theorem d_Row_become_25 : decode m_Row_become.2.1 25 = .ok (.getfield 22, 3) := by decide +kernel
theorem d_Row_become_28 : decode m_Row_become.2.1 28 = .ok (.putfield 22, 3) := by decide +kernel
theorem d_Row_become_31 : decode m_Row_become.2.1 31 = .ok (.aload_n 0, 1) := by decide +kernel
theorem d_Row_become_32 : decode m_Row_become.2.1 32 = .ok (.aload_n 1, 1) := by decide +kernel
theorem d_Row_become_33 : decode m_Row_become.2.1 33 = .ok (.getfield 25, 3) := by decide +kernel
theorem d_Row_become_36 : decode m_Row_become.2.1 36 = .ok (.putfield 25, 3) := by decide +kernel
theorem d_Row_become_39 : decode m_Row_become.2.1 39 = .ok (.return_, 1) := by decide +kernel
theorem d_Row_raiseLetters_0 : decode m_Row_raiseLetters.2.1 0 = .ok (.iconst 0, 1) := by decide +kernel
theorem d_Row_raiseLetters_1 : decode m_Row_raiseLetters.2.1 1 = .ok (.istore_n 1, 1) := by decide +kernel
theorem d_Row_raiseLetters_2 : decode m_Row_raiseLetters.2.1 2 = .ok (.iload_n 1, 1) := by decide +kernel
theorem d_Row_raiseLetters_3 : decode m_Row_raiseLetters.2.1 3 = .ok (.aload_n 0, 1) := by decide +kernel
theorem d_Row_raiseLetters_4 : decode m_Row_raiseLetters.2.1 4 = .ok (.getfield 15, 3) := by decide +kernel
theorem d_Row_raiseLetters_7 : decode m_Row_raiseLetters.2.1 7 = .ok (.if_icmp .ge 43, 3) := by decide +kernel
theorem d_Row_raiseLetters_10 : decode m_Row_raiseLetters.2.1 10 = .ok (.aload_n 0, 1) := by decide +kernel
theorem d_Row_raiseLetters_11 : decode m_Row_raiseLetters.2.1 11 = .ok (.getfield 9, 3) := by decide +kernel
theorem d_Row_raiseLetters_14 : decode m_Row_raiseLetters.2.1 14 = .ok (.iload_n 1, 1) := by decide +kernel
theorem d_Row_raiseLetters_15 : decode m_Row_raiseLetters.2.1 15 = .ok (.baload, 1) := by decide +kernel
theorem d_Row_raiseLetters_16 : decode m_Row_raiseLetters.2.1 16 = .ok (.bipush 97, 2) := by decide +kernel
theorem d_Row_raiseLetters_18 : decode m_Row_raiseLetters.2.1 18 = .ok (.if_icmp .lt 26, 3) := by decide +kernel
theorem d_Row_raiseLetters_21 : decode m_Row_raiseLetters.2.1 21 = .ok (.aload_n 0, 1) := by decide +kernel
theorem d_Row_raiseLetters_22 : decode m_Row_raiseLetters.2.1 22 = .ok (.getfield 9, 3) := by decide +kernel
theorem d_Row_raiseLetters_25 : decode m_Row_raiseLetters.2.1 25 = .ok (.iload_n 1, 1) := by decide +kernel
theorem d_Row_raiseLetters_26 : decode m_Row_raiseLetters.2.1 26 = .ok (.baload, 1) := by decide +kernel
theorem d_Row_raiseLetters_27 : decode m_Row_raiseLetters.2.1 27 = .ok (.bipush 122, 2) := by decide +kernel
theorem d_Row_raiseLetters_29 : decode m_Row_raiseLetters.2.1 29 = .ok (.if_icmp .gt 15, 3) := by decide +kernel
theorem d_Row_raiseLetters_32 : decode m_Row_raiseLetters.2.1 32 = .ok (.aload_n 0, 1) := by decide +kernel
theorem d_Row_raiseLetters_33 : decode m_Row_raiseLetters.2.1 33 = .ok (.getfield 9, 3) := by decide +kernel
theorem d_Row_raiseLetters_36 : decode m_Row_raiseLetters.2.1 36 = .ok (.iload_n 1, 1) := by decide +kernel
theorem d_Row_raiseLetters_37 : decode m_Row_raiseLetters.2.1 37 = .ok (.dup2, 1) := by decide +kernel
theorem d_Row_raiseLetters_38 : decode m_Row_raiseLetters.2.1 38 = .ok (.baload, 1) := by decide +kernel
theorem d_Row_raiseLetters_39 : decode m_Row_raiseLetters.2.1 39 = .ok (.bipush 32, 2) := by decide +kernel
theorem d_Row_raiseLetters_41 : decode m_Row_raiseLetters.2.1 41 = .ok (.isub, 1) := by decide +kernel
theorem d_Row_raiseLetters_42 : decode m_Row_raiseLetters.2.1 42 = .ok (.i2b, 1) := by decide +kernel
theorem d_Row_raiseLetters_43 : decode m_Row_raiseLetters.2.1 43 = .ok (.bastore, 1) := by decide +kernel
theorem d_Row_raiseLetters_44 : decode m_Row_raiseLetters.2.1 44 = .ok (.iinc 1 1, 3) := by decide +kernel
theorem d_Row_raiseLetters_47 : decode m_Row_raiseLetters.2.1 47 = .ok (.goto (-45), 3) := by decide +kernel
theorem d_Row_raiseLetters_50 : decode m_Row_raiseLetters.2.1 50 = .ok (.return_, 1) := by decide +kernel
theorem d_Rows_init_0 : decode m_Rows_init.2.1 0 = .ok (.aload_n 0, 1) := by decide +kernel
theorem d_Rows_init_1 : decode m_Rows_init.2.1 1 = .ok (.invokespecial 3, 3) := by decide +kernel
theorem d_Rows_init_4 : decode m_Rows_init.2.1 4 = .ok (.aload_n 0, 1) := by decide +kernel
theorem d_Rows_init_5 : decode m_Rows_init.2.1 5 = .ok (.new 9, 3) := by decide +kernel
theorem d_Rows_init_8 : decode m_Rows_init.2.1 8 = .ok (.dup, 1) := by decide +kernel
theorem d_Rows_init_9 : decode m_Rows_init.2.1 9 = .ok (.invokespecial 11, 3) := by decide +kernel
theorem d_Rows_init_12 : decode m_Rows_init.2.1 12 = .ok (.putfield 12, 3) := by decide +kernel
theorem d_Rows_init_15 : decode m_Rows_init.2.1 15 = .ok (.aload_n 0, 1) := by decide +kernel
theorem d_Rows_init_16 : decode m_Rows_init.2.1 16 = .ok (.iconst 0, 1) := by decide +kernel
theorem d_Rows_init_17 : decode m_Rows_init.2.1 17 = .ok (.putfield 18, 3) := by decide +kernel
theorem d_Rows_init_20 : decode m_Rows_init.2.1 20 = .ok (.return_, 1) := by decide +kernel
theorem d_Rows_add_0 : decode m_Rows_add.2.1 0 = .ok (.aload_n 0, 1) := by decide +kernel
theorem d_Rows_add_1 : decode m_Rows_add.2.1 1 = .ok (.getfield 18, 3) := by decide +kernel
theorem d_Rows_add_4 : decode m_Rows_add.2.1 4 = .ok (.sipush 150, 3) := by decide +kernel
theorem d_Rows_add_7 : decode m_Rows_add.2.1 7 = .ok (.if_icmp .lt 5, 3) := by decide +kernel
theorem d_Rows_add_10 : decode m_Rows_add.2.1 10 = .ok (.aconst_null, 1) := by decide +kernel
theorem d_Rows_add_11 : decode m_Rows_add.2.1 11 = .ok (.areturn, 1) := by decide +kernel
theorem d_Rows_add_12 : decode m_Rows_add.2.1 12 = .ok (.aload_n 0, 1) := by decide +kernel
theorem d_Rows_add_13 : decode m_Rows_add.2.1 13 = .ok (.getfield 18, 3) := by decide +kernel
theorem d_Rows_add_16 : decode m_Rows_add.2.1 16 = .ok (.aload_n 0, 1) := by decide +kernel
theorem d_Rows_add_17 : decode m_Rows_add.2.1 17 = .ok (.getfield 12, 3) := by decide +kernel
theorem d_Rows_add_20 : decode m_Rows_add.2.1 20 = .ok (.invokevirtual 22, 3) := by decide +kernel
theorem d_Rows_add_23 : decode m_Rows_add.2.1 23 = .ok (.if_icmp .lt 18, 3) := by decide +kernel
theorem d_Rows_add_26 : decode m_Rows_add.2.1 26 = .ok (.aload_n 0, 1) := by decide +kernel
theorem d_Rows_add_27 : decode m_Rows_add.2.1 27 = .ok (.getfield 12, 3) := by decide +kernel
theorem d_Rows_add_30 : decode m_Rows_add.2.1 30 = .ok (.new 25, 3) := by decide +kernel
theorem d_Rows_add_33 : decode m_Rows_add.2.1 33 = .ok (.dup, 1) := by decide +kernel
theorem d_Rows_add_34 : decode m_Rows_add.2.1 34 = .ok (.invokespecial 27, 3) := by decide +kernel
theorem d_Rows_add_37 : decode m_Rows_add.2.1 37 = .ok (.invokevirtual 28, 3) := by decide +kernel
theorem d_Rows_add_40 : decode m_Rows_add.2.1 40 = .ok (.pop, 1) := by decide +kernel
theorem d_Rows_add_41 : decode m_Rows_add.2.1 41 = .ok (.aload_n 0, 1) := by decide +kernel
theorem d_Rows_add_42 : decode m_Rows_add.2.1 42 = .ok (.getfield 12, 3) := by decide +kernel
theorem d_Rows_add_45 : decode m_Rows_add.2.1 45 = .ok (.aload_n 0, 1) := by decide +kernel
theorem d_Rows_add_46 : decode m_Rows_add.2.1 46 = .ok (.getfield 18, 3) := by decide +kernel
theorem d_Rows_add_49 : decode m_Rows_add.2.1 49 = .ok (.invokevirtual 32, 3) := by decide +kernel
theorem d_Rows_add_52 : decode m_Rows_add.2.1 52 = .ok (.checkcast 25, 3) := by decide +kernel
theorem d_Rows_add_55 : decode m_Rows_add.2.1 55 = .ok (.astore_n 1, 1) := by decide +kernel
theorem d_Rows_add_56 : decode m_Rows_add.2.1 56 = .ok (.aload_n 1, 1) := by decide +kernel
theorem d_Rows_add_57 : decode m_Rows_add.2.1 57 = .ok (.iconst 0, 1) := by decide +kernel
theorem d_Rows_add_58 : decode m_Rows_add.2.1 58 = .ok (.putfield 36, 3) := by decide +kernel
theorem d_Rows_add_61 : decode m_Rows_add.2.1 61 = .ok (.aload_n 0, 1) := by decide +kernel
theorem d_Rows_add_62 : decode m_Rows_add.2.1 62 = .ok (.dup, 1) := by decide +kernel
theorem d_Rows_add_63 : decode m_Rows_add.2.1 63 = .ok (.getfield 18, 3) := by decide +kernel
theorem d_Rows_add_66 : decode m_Rows_add.2.1 66 = .ok (.iconst 1, 1) := by decide +kernel
theorem d_Rows_add_67 : decode m_Rows_add.2.1 67 = .ok (.iadd, 1) := by decide +kernel
theorem d_Rows_add_68 : decode m_Rows_add.2.1 68 = .ok (.putfield 18, 3) := by decide +kernel
theorem d_Rows_add_71 : decode m_Rows_add.2.1 71 = .ok (.aload_n 1, 1) := by decide +kernel
theorem d_Rows_add_72 : decode m_Rows_add.2.1 72 = .ok (.areturn, 1) := by decide +kernel
theorem d_Rows_at_0 : decode m_Rows_at.2.1 0 = .ok (.iload_n 1, 1) := by decide +kernel
theorem d_Rows_at_1 : decode m_Rows_at.2.1 1 = .ok (.ifCond .lt 25, 3) := by decide +kernel
theorem d_Rows_at_4 : decode m_Rows_at.2.1 4 = .ok (.iload_n 1, 1) := by decide +kernel
theorem d_Rows_at_5 : decode m_Rows_at.2.1 5 = .ok (.aload_n 0, 1) := by decide +kernel
theorem d_Rows_at_6 : decode m_Rows_at.2.1 6 = .ok (.getfield 18, 3) := by decide +kernel
theorem d_Rows_at_9 : decode m_Rows_at.2.1 9 = .ok (.if_icmp .ge 17, 3) := by decide +kernel
theorem d_Rows_at_12 : decode m_Rows_at.2.1 12 = .ok (.aload_n 0, 1) := by decide +kernel
theorem d_Rows_at_13 : decode m_Rows_at.2.1 13 = .ok (.getfield 12, 3) := by decide +kernel
theorem d_Rows_at_16 : decode m_Rows_at.2.1 16 = .ok (.iload_n 1, 1) := by decide +kernel
theorem d_Rows_at_17 : decode m_Rows_at.2.1 17 = .ok (.invokevirtual 32, 3) := by decide +kernel
theorem d_Rows_at_20 : decode m_Rows_at.2.1 20 = .ok (.checkcast 25, 3) := by decide +kernel
theorem d_Rows_at_23 : decode m_Rows_at.2.1 23 = .ok (.goto 4, 3) := by decide +kernel
theorem d_Rows_at_26 : decode m_Rows_at.2.1 26 = .ok (.aconst_null, 1) := by decide +kernel
theorem d_Rows_at_27 : decode m_Rows_at.2.1 27 = .ok (.areturn, 1) := by decide +kernel
theorem d_Rows_clear_0 : decode m_Rows_clear.2.1 0 = .ok (.aload_n 0, 1) := by decide +kernel
theorem d_Rows_clear_1 : decode m_Rows_clear.2.1 1 = .ok (.iconst 0, 1) := by decide +kernel
theorem d_Rows_clear_2 : decode m_Rows_clear.2.1 2 = .ok (.putfield 18, 3) := by decide +kernel
theorem d_Rows_clear_5 : decode m_Rows_clear.2.1 5 = .ok (.return_, 1) := by decide +kernel
theorem d_Statements_init_0 : decode m_Statements_init.2.1 0 = .ok (.aload_n 0, 1) := by decide +kernel
theorem d_Statements_init_1 : decode m_Statements_init.2.1 1 = .ok (.invokespecial 3, 3) := by decide +kernel
theorem d_Statements_init_4 : decode m_Statements_init.2.1 4 = .ok (.aload_n 0, 1) := by decide +kernel
theorem d_Statements_init_5 : decode m_Statements_init.2.1 5 = .ok (.new 9, 3) := by decide +kernel
theorem d_Statements_init_8 : decode m_Statements_init.2.1 8 = .ok (.dup, 1) := by decide +kernel
theorem d_Statements_init_9 : decode m_Statements_init.2.1 9 = .ok (.invokespecial 11, 3) := by decide +kernel
theorem d_Statements_init_12 : decode m_Statements_init.2.1 12 = .ok (.putfield 12, 3) := by decide +kernel
theorem d_Statements_init_15 : decode m_Statements_init.2.1 15 = .ok (.aload_n 0, 1) := by decide +kernel
theorem d_Statements_init_16 : decode m_Statements_init.2.1 16 = .ok (.new 9, 3) := by decide +kernel
theorem d_Statements_init_19 : decode m_Statements_init.2.1 19 = .ok (.dup, 1) := by decide +kernel
theorem d_Statements_init_20 : decode m_Statements_init.2.1 20 = .ok (.invokespecial 11, 3) := by decide +kernel
theorem d_Statements_init_23 : decode m_Statements_init.2.1 23 = .ok (.putfield 18, 3) := by decide +kernel
theorem d_Statements_init_26 : decode m_Statements_init.2.1 26 = .ok (.aload_n 0, 1) := by decide +kernel
theorem d_Statements_init_27 : decode m_Statements_init.2.1 27 = .ok (.new 9, 3) := by decide +kernel
theorem d_Statements_init_30 : decode m_Statements_init.2.1 30 = .ok (.dup, 1) := by decide +kernel
theorem d_Statements_init_31 : decode m_Statements_init.2.1 31 = .ok (.invokespecial 11, 3) := by decide +kernel
theorem d_Statements_init_34 : decode m_Statements_init.2.1 34 = .ok (.putfield 21, 3) := by decide +kernel
theorem d_Statements_init_37 : decode m_Statements_init.2.1 37 = .ok (.aload_n 0, 1) := by decide +kernel
theorem d_Statements_init_38 : decode m_Statements_init.2.1 38 = .ok (.new 9, 3) := by decide +kernel
theorem d_Statements_init_41 : decode m_Statements_init.2.1 41 = .ok (.dup, 1) := by decide +kernel
theorem d_Statements_init_42 : decode m_Statements_init.2.1 42 = .ok (.invokespecial 11, 3) := by decide +kernel
theorem d_Statements_init_45 : decode m_Statements_init.2.1 45 = .ok (.putfield 24, 3) := by decide +kernel
theorem d_Statements_init_48 : decode m_Statements_init.2.1 48 = .ok (.aload_n 0, 1) := by decide +kernel
theorem d_Statements_init_49 : decode m_Statements_init.2.1 49 = .ok (.iconst 0, 1) := by decide +kernel
theorem d_Statements_init_50 : decode m_Statements_init.2.1 50 = .ok (.putfield 27, 3) := by decide +kernel
theorem d_Statements_init_53 : decode m_Statements_init.2.1 53 = .ok (.aload_n 0, 1) := by decide +kernel
theorem d_Statements_init_54 : decode m_Statements_init.2.1 54 = .ok (.iconst 0, 1) := by decide +kernel
theorem d_Statements_init_55 : decode m_Statements_init.2.1 55 = .ok (.putfield 31, 3) := by decide +kernel
theorem d_Statements_init_58 : decode m_Statements_init.2.1 58 = .ok (.aload_n 0, 1) := by decide +kernel
theorem d_Statements_init_59 : decode m_Statements_init.2.1 59 = .ok (.sipush 9999, 3) := by decide +kernel
theorem d_Statements_init_62 : decode m_Statements_init.2.1 62 = .ok (.putfield 35, 3) := by decide +kernel
theorem d_Statements_init_65 : decode m_Statements_init.2.1 65 = .ok (.aload_n 0, 1) := by decide +kernel
theorem d_Statements_init_66 : decode m_Statements_init.2.1 66 = .ok (.iconst 0, 1) := by decide +kernel
theorem d_Statements_init_67 : decode m_Statements_init.2.1 67 = .ok (.putfield 38, 3) := by decide +kernel
theorem d_Statements_init_70 : decode m_Statements_init.2.1 70 = .ok (.return_, 1) := by decide +kernel
theorem d_Statements_compareRows_0 : decode m_Statements_compareRows.2.1 0 = .ok (.iconst 0, 1) := by decide +kernel
theorem d_Statements_compareRows_1 : decode m_Statements_compareRows.2.1 1 = .ok (.istore_n 3, 1) := by decide +kernel
theorem d_Statements_compareRows_2 : decode m_Statements_compareRows.2.1 2 = .ok (.iload_n 3, 1) := by decide +kernel
theorem d_Statements_compareRows_3 : decode m_Statements_compareRows.2.1 3 = .ok (.aload_n 0, 1) := by decide +kernel
theorem d_Statements_compareRows_4 : decode m_Statements_compareRows.2.1 4 = .ok (.getfield 12, 3) := by decide +kernel
theorem d_Statements_compareRows_7 : decode m_Statements_compareRows.2.1 7 = .ok (.invokevirtual 41, 3) := by decide +kernel
theorem d_Statements_compareRows_10 : decode m_Statements_compareRows.2.1 10 = .ok (.if_icmp .ge 66, 3) := by decide +kernel
theorem d_Statements_compareRows_13 : decode m_Statements_compareRows.2.1 13 = .ok (.aload_n 0, 1) := by decide +kernel
theorem d_Statements_compareRows_14 : decode m_Statements_compareRows.2.1 14 = .ok (.getfield 12, 3) := by decide +kernel
theorem d_Statements_compareRows_17 : decode m_Statements_compareRows.2.1 17 = .ok (.iload_n 3, 1) := by decide +kernel
theorem d_Statements_compareRows_18 : decode m_Statements_compareRows.2.1 18 = .ok (.invokevirtual 44, 3) := by decide +kernel
theorem d_Statements_compareRows_21 : decode m_Statements_compareRows.2.1 21 = .ok (.checkcast 48, 3) := by decide +kernel
theorem d_Statements_compareRows_24 : decode m_Statements_compareRows.2.1 24 = .ok (.astore 4, 2) := by decide +kernel
theorem d_Statements_compareRows_26 : decode m_Statements_compareRows.2.1 26 = .ok (.aload 4, 2) := by decide +kernel
theorem d_Statements_compareRows_28 : decode m_Statements_compareRows.2.1 28 = .ok (.getfield 50, 3) := by decide +kernel
theorem d_Statements_compareRows_31 : decode m_Statements_compareRows.2.1 31 = .ok (.aload_n 1, 1) := by decide +kernel
theorem d_Statements_compareRows_32 : decode m_Statements_compareRows.2.1 32 = .ok (.aload 4, 2) := by decide +kernel
theorem d_Statements_compareRows_34 : decode m_Statements_compareRows.2.1 34 = .ok (.getfield 50, 3) := by decide +kernel
theorem d_Statements_compareRows_37 : decode m_Statements_compareRows.2.1 37 = .ok (.aload_n 2, 1) := by decide +kernel
theorem d_Statements_compareRows_38 : decode m_Statements_compareRows.2.1 38 = .ok (.aload 4, 2) := by decide +kernel
theorem d_Statements_compareRows_40 : decode m_Statements_compareRows.2.1 40 = .ok (.getfield 54, 3) := by decide +kernel
theorem d_Statements_compareRows_43 : decode m_Statements_compareRows.2.1 43 = .ok (.invokestatic 57, 3) := by decide +kernel
theorem d_Statements_compareRows_46 : decode m_Statements_compareRows.2.1 46 = .ok (.istore 5, 2) := by decide +kernel
theorem d_Statements_compareRows_48 : decode m_Statements_compareRows.2.1 48 = .ok (.iload 5, 2) := by decide +kernel
theorem d_Statements_compareRows_50 : decode m_Statements_compareRows.2.1 50 = .ok (.ifCond .eq 20, 3) := by decide +kernel
theorem d_Statements_compareRows_53 : decode m_Statements_compareRows.2.1 53 = .ok (.aload 4, 2) := by decide +kernel
theorem d_Statements_compareRows_55 : decode m_Statements_compareRows.2.1 55 = .ok (.getfield 61, 3) := by decide +kernel
theorem d_Statements_compareRows_58 : decode m_Statements_compareRows.2.1 58 = .ok (.ifCond .eq 9, 3) := by decide +kernel
theorem d_Statements_compareRows_61 : decode m_Statements_compareRows.2.1 61 = .ok (.iload 5, 2) := by decide +kernel
theorem d_Statements_compareRows_63 : decode m_Statements_compareRows.2.1 63 = .ok (.ineg, 1) := by decide +kernel
theorem d_Statements_compareRows_64 : decode m_Statements_compareRows.2.1 64 = .ok (.goto 5, 3) := by decide +kernel
theorem d_Statements_compareRows_67 : decode m_Statements_compareRows.2.1 67 = .ok (.iload 5, 2) := by decide +kernel
theorem d_Statements_compareRows_69 : decode m_Statements_compareRows.2.1 69 = .ok (.ireturn, 1) := by decide +kernel
theorem d_Statements_compareRows_70 : decode m_Statements_compareRows.2.1 70 = .ok (.iinc 3 1, 3) := by decide +kernel
theorem d_Statements_compareRows_73 : decode m_Statements_compareRows.2.1 73 = .ok (.goto (-71), 3) := by decide +kernel
theorem d_Statements_compareRows_76 : decode m_Statements_compareRows.2.1 76 = .ok (.iconst 0, 1) := by decide +kernel
theorem d_Statements_compareRows_77 : decode m_Statements_compareRows.2.1 77 = .ok (.ireturn, 1) := by decide +kernel
theorem d_Statements_keeps_0 : decode m_Statements_keeps.2.1 0 = .ok (.aload_n 0, 1) := by decide +kernel
theorem d_Statements_keeps_1 : decode m_Statements_keeps.2.1 1 = .ok (.getfield 18, 3) := by decide +kernel
theorem d_Statements_keeps_4 : decode m_Statements_keeps.2.1 4 = .ok (.invokevirtual 64, 3) := by decide +kernel
theorem d_Statements_keeps_7 : decode m_Statements_keeps.2.1 7 = .ok (.ifCond .eq 5, 3) := by decide +kernel
theorem d_Statements_keeps_10 : decode m_Statements_keeps.2.1 10 = .ok (.iconst 1, 1) := by decide +kernel
theorem d_Statements_keeps_11 : decode m_Statements_keeps.2.1 11 = .ok (.ireturn, 1) := by decide +kernel
theorem d_Statements_keeps_12 : decode m_Statements_keeps.2.1 12 = .ok (.aload_n 0, 1) := by decide +kernel
theorem d_Statements_keeps_13 : decode m_Statements_keeps.2.1 13 = .ok (.getfield 18, 3) := by decide +kernel
theorem d_Statements_keeps_16 : decode m_Statements_keeps.2.1 16 = .ok (.iconst 0, 1) := by decide +kernel
theorem d_Statements_keeps_17 : decode m_Statements_keeps.2.1 17 = .ok (.invokevirtual 44, 3) := by decide +kernel
theorem d_Statements_keeps_20 : decode m_Statements_keeps.2.1 20 = .ok (.checkcast 68, 3) := by decide +kernel
theorem d_Statements_keeps_23 : decode m_Statements_keeps.2.1 23 = .ok (.aload_n 1, 1) := by decide +kernel
theorem d_Statements_keeps_24 : decode m_Statements_keeps.2.1 24 = .ok (.invokevirtual 70, 3) := by decide +kernel
theorem d_Statements_keeps_27 : decode m_Statements_keeps.2.1 27 = .ok (.istore_n 2, 1) := by decide +kernel
theorem d_Statements_keeps_28 : decode m_Statements_keeps.2.1 28 = .ok (.iconst 1, 1) := by decide +kernel
theorem d_Statements_keeps_29 : decode m_Statements_keeps.2.1 29 = .ok (.istore_n 3, 1) := by decide +kernel
theorem d_Statements_keeps_30 : decode m_Statements_keeps.2.1 30 = .ok (.iload_n 3, 1) := by decide +kernel
theorem d_Statements_keeps_31 : decode m_Statements_keeps.2.1 31 = .ok (.aload_n 0, 1) := by decide +kernel
theorem d_Statements_keeps_32 : decode m_Statements_keeps.2.1 32 = .ok (.getfield 18, 3) := by decide +kernel
theorem d_Statements_keeps_35 : decode m_Statements_keeps.2.1 35 = .ok (.invokevirtual 41, 3) := by decide +kernel
theorem d_Statements_keeps_38 : decode m_Statements_keeps.2.1 38 = .ok (.if_icmp .ge 70, 3) := by decide +kernel
theorem d_Statements_keeps_41 : decode m_Statements_keeps.2.1 41 = .ok (.aload_n 0, 1) := by decide +kernel
theorem d_Statements_keeps_42 : decode m_Statements_keeps.2.1 42 = .ok (.getfield 18, 3) := by decide +kernel
theorem d_Statements_keeps_45 : decode m_Statements_keeps.2.1 45 = .ok (.iload_n 3, 1) := by decide +kernel
theorem d_Statements_keeps_46 : decode m_Statements_keeps.2.1 46 = .ok (.invokevirtual 44, 3) := by decide +kernel
theorem d_Statements_keeps_49 : decode m_Statements_keeps.2.1 49 = .ok (.checkcast 68, 3) := by decide +kernel
theorem d_Statements_keeps_52 : decode m_Statements_keeps.2.1 52 = .ok (.astore 4, 2) := by decide +kernel
theorem d_Statements_keeps_54 : decode m_Statements_keeps.2.1 54 = .ok (.aload 4, 2) := by decide +kernel
theorem d_Statements_keeps_56 : decode m_Statements_keeps.2.1 56 = .ok (.getfield 74, 3) := by decide +kernel
theorem d_Statements_keeps_59 : decode m_Statements_keeps.2.1 59 = .ok (.ifCond .eq 24, 3) := by decide +kernel
theorem d_Statements_keeps_62 : decode m_Statements_keeps.2.1 62 = .ok (.iload_n 2, 1) := by decide +kernel
theorem d_Statements_keeps_63 : decode m_Statements_keeps.2.1 63 = .ok (.ifCond .ne 12, 3) := by decide +kernel
theorem d_Statements_keeps_66 : decode m_Statements_keeps.2.1 66 = .ok (.aload 4, 2) := by decide +kernel
theorem d_Statements_keeps_68 : decode m_Statements_keeps.2.1 68 = .ok (.aload_n 1, 1) := by decide +kernel
theorem d_Statements_keeps_69 : decode m_Statements_keeps.2.1 69 = .ok (.invokevirtual 70, 3) := by decide +kernel
theorem d_Statements_keeps_72 : decode m_Statements_keeps.2.1 72 = .ok (.ifCond .eq 7, 3) := by decide +kernel
theorem d_Statements_keeps_75 : decode m_Statements_keeps.2.1 75 = .ok (.iconst 1, 1) := by decide +kernel
theorem d_Statements_keeps_76 : decode m_Statements_keeps.2.1 76 = .ok (.goto 25, 3) := by decide +kernel
theorem d_Statements_keeps_79 : decode m_Statements_keeps.2.1 79 = .ok (.iconst 0, 1) := by decide +kernel
theorem d_Statements_keeps_80 : decode m_Statements_keeps.2.1 80 = .ok (.goto 21, 3) := by decide +kernel
theorem d_Statements_keeps_83 : decode m_Statements_keeps.2.1 83 = .ok (.iload_n 2, 1) := by decide +kernel
theorem d_Statements_keeps_84 : decode m_Statements_keeps.2.1 84 = .ok (.ifCond .eq 16, 3) := by decide +kernel
theorem d_Statements_keeps_87 : decode m_Statements_keeps.2.1 87 = .ok (.aload 4, 2) := by decide +kernel
theorem d_Statements_keeps_89 : decode m_Statements_keeps.2.1 89 = .ok (.aload_n 1, 1) := by decide +kernel
theorem d_Statements_keeps_90 : decode m_Statements_keeps.2.1 90 = .ok (.invokevirtual 70, 3) := by decide +kernel
theorem d_Statements_keeps_93 : decode m_Statements_keeps.2.1 93 = .ok (.ifCond .eq 7, 3) := by decide +kernel
theorem d_Statements_keeps_96 : decode m_Statements_keeps.2.1 96 = .ok (.iconst 1, 1) := by decide +kernel
theorem d_Statements_keeps_97 : decode m_Statements_keeps.2.1 97 = .ok (.goto 4, 3) := by decide +kernel
theorem d_Statements_keeps_100 : decode m_Statements_keeps.2.1 100 = .ok (.iconst 0, 1) := by decide +kernel
theorem d_Statements_keeps_101 : decode m_Statements_keeps.2.1 101 = .ok (.istore_n 2, 1) := by decide +kernel
theorem d_Statements_keeps_102 : decode m_Statements_keeps.2.1 102 = .ok (.iinc 3 1, 3) := by decide +kernel
theorem d_Statements_keeps_105 : decode m_Statements_keeps.2.1 105 = .ok (.goto (-75), 3) := by decide +kernel
theorem d_Statements_keeps_108 : decode m_Statements_keeps.2.1 108 = .ok (.iload_n 2, 1) := by decide +kernel
theorem d_Statements_keeps_109 : decode m_Statements_keeps.2.1 109 = .ok (.aload_n 0, 1) := by decide +kernel
theorem d_Statements_keeps_110 : decode m_Statements_keeps.2.1 110 = .ok (.getfield 27, 3) := by decide +kernel
theorem d_Statements_keeps_113 : decode m_Statements_keeps.2.1 113 = .ok (.if_icmp .eq 7, 3) := by decide +kernel
theorem d_Statements_keeps_116 : decode m_Statements_keeps.2.1 116 = .ok (.iconst 1, 1) := by decide +kernel
theorem d_Statements_keeps_117 : decode m_Statements_keeps.2.1 117 = .ok (.goto 4, 3) := by decide +kernel
theorem d_Statements_keeps_120 : decode m_Statements_keeps.2.1 120 = .ok (.iconst 0, 1) := by decide +kernel
theorem d_Statements_keeps_121 : decode m_Statements_keeps.2.1 121 = .ok (.ireturn, 1) := by decide +kernel
theorem d_Test_init_0 : decode m_Test_init.2.1 0 = .ok (.aload_n 0, 1) := by decide +kernel
theorem d_Test_init_1 : decode m_Test_init.2.1 1 = .ok (.invokespecial 1, 3) := by decide +kernel
theorem d_Test_init_4 : decode m_Test_init.2.1 4 = .ok (.aload_n 0, 1) := by decide +kernel
theorem d_Test_init_5 : decode m_Test_init.2.1 5 = .ok (.iload_n 1, 1) := by decide +kernel
theorem d_Test_init_6 : decode m_Test_init.2.1 6 = .ok (.putfield 7, 3) := by decide +kernel
theorem d_Test_init_9 : decode m_Test_init.2.1 9 = .ok (.aload_n 0, 1) := by decide +kernel
theorem d_Test_init_10 : decode m_Test_init.2.1 10 = .ok (.aload_n 2, 1) := by decide +kernel
theorem d_Test_init_11 : decode m_Test_init.2.1 11 = .ok (.putfield 13, 3) := by decide +kernel
theorem d_Test_init_14 : decode m_Test_init.2.1 14 = .ok (.aload_n 0, 1) := by decide +kernel
theorem d_Test_init_15 : decode m_Test_init.2.1 15 = .ok (.iload_n 3, 1) := by decide +kernel
theorem d_Test_init_16 : decode m_Test_init.2.1 16 = .ok (.putfield 17, 3) := by decide +kernel
theorem d_Test_init_19 : decode m_Test_init.2.1 19 = .ok (.aload_n 0, 1) := by decide +kernel
theorem d_Test_init_20 : decode m_Test_init.2.1 20 = .ok (.aload 4, 2) := by decide +kernel
theorem d_Test_init_22 : decode m_Test_init.2.1 22 = .ok (.putfield 21, 3) := by decide +kernel
theorem d_Test_init_25 : decode m_Test_init.2.1 25 = .ok (.return_, 1) := by decide +kernel
theorem d_Test_holds_0 : decode m_Test_holds.2.1 0 = .ok (.aload_n 0, 1) := by decide +kernel
theorem d_Test_holds_1 : decode m_Test_holds.2.1 1 = .ok (.getfield 13, 3) := by decide +kernel
theorem d_Test_holds_4 : decode m_Test_holds.2.1 4 = .ok (.aload_n 1, 1) := by decide +kernel
theorem d_Test_holds_5 : decode m_Test_holds.2.1 5 = .ok (.aload_n 0, 1) := by decide +kernel
theorem d_Test_holds_6 : decode m_Test_holds.2.1 6 = .ok (.getfield 21, 3) := by decide +kernel
theorem d_Test_holds_9 : decode m_Test_holds.2.1 9 = .ok (.aload_n 1, 1) := by decide +kernel
theorem d_Test_holds_10 : decode m_Test_holds.2.1 10 = .ok (.iconst 0, 1) := by decide +kernel
theorem d_Test_holds_11 : decode m_Test_holds.2.1 11 = .ok (.invokestatic 24, 3) := by decide +kernel
theorem d_Test_holds_14 : decode m_Test_holds.2.1 14 = .ok (.istore_n 2, 1) := by decide +kernel
theorem d_Test_holds_15 : decode m_Test_holds.2.1 15 = .ok (.aload_n 0, 1) := by decide +kernel
theorem d_Test_holds_16 : decode m_Test_holds.2.1 16 = .ok (.getfield 17, 3) := by decide +kernel
theorem d_Test_holds_19 : decode m_Test_holds.2.1 19 = .ok (.lookupswitch 63 #[(35, 43), (60, 53), (61, 33)], 33) := by decide +kernel
theorem d_Test_holds_52 : decode m_Test_holds.2.1 52 = .ok (.iload_n 2, 1) := by decide +kernel
theorem d_Test_holds_53 : decode m_Test_holds.2.1 53 = .ok (.ifCond .ne 7, 3) := by decide +kernel
theorem d_Test_holds_56 : decode m_Test_holds.2.1 56 = .ok (.iconst 1, 1) := by decide +kernel
theorem d_Test_holds_57 : decode m_Test_holds.2.1 57 = .ok (.goto 4, 3) := by decide +kernel
theorem d_Test_holds_60 : decode m_Test_holds.2.1 60 = .ok (.iconst 0, 1) := by decide +kernel
theorem d_Test_holds_61 : decode m_Test_holds.2.1 61 = .ok (.ireturn, 1) := by decide +kernel
theorem d_Test_holds_62 : decode m_Test_holds.2.1 62 = .ok (.iload_n 2, 1) := by decide +kernel
theorem d_Test_holds_63 : decode m_Test_holds.2.1 63 = .ok (.ifCond .eq 7, 3) := by decide +kernel
theorem d_Test_holds_66 : decode m_Test_holds.2.1 66 = .ok (.iconst 1, 1) := by decide +kernel
theorem d_Test_holds_67 : decode m_Test_holds.2.1 67 = .ok (.goto 4, 3) := by decide +kernel
theorem d_Test_holds_70 : decode m_Test_holds.2.1 70 = .ok (.iconst 0, 1) := by decide +kernel
theorem d_Test_holds_71 : decode m_Test_holds.2.1 71 = .ok (.ireturn, 1) := by decide +kernel
theorem d_Test_holds_72 : decode m_Test_holds.2.1 72 = .ok (.iload_n 2, 1) := by decide +kernel
theorem d_Test_holds_73 : decode m_Test_holds.2.1 73 = .ok (.ifCond .ge 7, 3) := by decide +kernel
theorem d_Test_holds_76 : decode m_Test_holds.2.1 76 = .ok (.iconst 1, 1) := by decide +kernel
theorem d_Test_holds_77 : decode m_Test_holds.2.1 77 = .ok (.goto 4, 3) := by decide +kernel
theorem d_Test_holds_80 : decode m_Test_holds.2.1 80 = .ok (.iconst 0, 1) := by decide +kernel
theorem d_Test_holds_81 : decode m_Test_holds.2.1 81 = .ok (.ireturn, 1) := by decide +kernel
theorem d_Test_holds_82 : decode m_Test_holds.2.1 82 = .ok (.iload_n 2, 1) := by decide +kernel
theorem d_Test_holds_83 : decode m_Test_holds.2.1 83 = .ok (.ifCond .le 7, 3) := by decide +kernel
theorem d_Test_holds_86 : decode m_Test_holds.2.1 86 = .ok (.iconst 1, 1) := by decide +kernel
theorem d_Test_holds_87 : decode m_Test_holds.2.1 87 = .ok (.goto 4, 3) := by decide +kernel
theorem d_Test_holds_90 : decode m_Test_holds.2.1 90 = .ok (.iconst 0, 1) := by decide +kernel
theorem d_Test_holds_91 : decode m_Test_holds.2.1 91 = .ok (.ireturn, 1) := by decide +kernel
theorem d_Law_octet_0 : decode m_Law_octet.2.1 0 = .ok (.aload_n 0, 1) := by decide +kernel
theorem d_Law_octet_1 : decode m_Law_octet.2.1 1 = .ok (.iload_n 1, 1) := by decide +kernel
theorem d_Law_octet_2 : decode m_Law_octet.2.1 2 = .ok (.iload_n 2, 1) := by decide +kernel
theorem d_Law_octet_3 : decode m_Law_octet.2.1 3 = .ok (.iload_n 3, 1) := by decide +kernel
theorem d_Law_octet_4 : decode m_Law_octet.2.1 4 = .ok (.invokevirtual 7, 3) := by decide +kernel
theorem d_Law_octet_7 : decode m_Law_octet.2.1 7 = .ok (.goto 7, 3) := by decide +kernel
theorem d_Law_octet_10 : decode m_Law_octet.2.1 10 = .ok (.astore 4, 2) := by decide +kernel
theorem d_Law_octet_12 : decode m_Law_octet.2.1 12 = .ok (.iconst 1, 1) := by decide +kernel
theorem d_Law_octet_13 : decode m_Law_octet.2.1 13 = .ok (.ireturn, 1) := by decide +kernel
theorem d_Law_octet_14 : decode m_Law_octet.2.1 14 = .ok (.iconst 0, 1) := by decide +kernel
theorem d_Law_octet_15 : decode m_Law_octet.2.1 15 = .ok (.ireturn, 1) := by decide +kernel
theorem d_Law_law_0 : decode m_Law_law.2.1 0 = .ok (.new 8, 3) := by decide +kernel
theorem d_Law_law_3 : decode m_Law_law.2.1 3 = .ok (.dup, 1) := by decide +kernel
theorem d_Law_law_4 : decode m_Law_law.2.1 4 = .ok (.invokespecial 15, 3) := by decide +kernel
theorem d_Law_law_7 : decode m_Law_law.2.1 7 = .ok (.astore_n 1, 1) := by decide +kernel
theorem d_Law_law_8 : decode m_Law_law.2.1 8 = .ok (.new 16, 3) := by decide +kernel
theorem d_Law_law_11 : decode m_Law_law.2.1 11 = .ok (.dup, 1) := by decide +kernel
theorem d_Law_law_12 : decode m_Law_law.2.1 12 = .ok (.invokespecial 18, 3) := by decide +kernel
theorem d_Law_law_15 : decode m_Law_law.2.1 15 = .ok (.astore_n 2, 1) := by decide +kernel
theorem d_Law_law_16 : decode m_Law_law.2.1 16 = .ok (.iconst 0, 1) := by decide +kernel
theorem d_Law_law_17 : decode m_Law_law.2.1 17 = .ok (.istore_n 3, 1) := by decide +kernel
theorem d_Law_law_18 : decode m_Law_law.2.1 18 = .ok (.iload_n 3, 1) := by decide +kernel
theorem d_Law_law_19 : decode m_Law_law.2.1 19 = .ok (.aload_n 0, 1) := by decide +kernel
theorem d_Law_law_20 : decode m_Law_law.2.1 20 = .ok (.arraylength, 1) := by decide +kernel
theorem d_Law_law_21 : decode m_Law_law.2.1 21 = .ok (.iconst 4, 1) := by decide +kernel
theorem d_Law_law_22 : decode m_Law_law.2.1 22 = .ok (.isub, 1) := by decide +kernel
theorem d_Law_law_23 : decode m_Law_law.2.1 23 = .ok (.if_icmp .gt 486, 3) := by decide +kernel
theorem d_Law_law_26 : decode m_Law_law.2.1 26 = .ok (.aload_n 0, 1) := by decide +kernel
theorem d_Law_law_27 : decode m_Law_law.2.1 27 = .ok (.iload_n 3, 1) := by decide +kernel
theorem d_Law_law_28 : decode m_Law_law.2.1 28 = .ok (.iaload, 1) := by decide +kernel
theorem d_Law_law_29 : decode m_Law_law.2.1 29 = .ok (.bipush 15, 2) := by decide +kernel
theorem d_Law_law_31 : decode m_Law_law.2.1 31 = .ok (.iand, 1) := by decide +kernel
theorem d_Law_law_32 : decode m_Law_law.2.1 32 = .ok (.tableswitch 471 0 13 #[72, 93, 106, 129, 185, 198, 241, 274, 307, 330, 343, 392, 425, 448], 72) := by decide +kernel
theorem d_Law_law_104 : decode m_Law_law.2.1 104 = .ok (.aload_n 1, 1) := by decide +kernel
theorem d_Law_law_105 : decode m_Law_law.2.1 105 = .ok (.aload_n 0, 1) := by decide +kernel
theorem d_Law_law_106 : decode m_Law_law.2.1 106 = .ok (.iload_n 3, 1) := by decide +kernel
theorem d_Law_law_107 : decode m_Law_law.2.1 107 = .ok (.iconst 1, 1) := by decide +kernel
theorem d_Law_law_108 : decode m_Law_law.2.1 108 = .ok (.iadd, 1) := by decide +kernel
theorem d_Law_law_109 : decode m_Law_law.2.1 109 = .ok (.iaload, 1) := by decide +kernel
theorem d_Law_law_110 : decode m_Law_law.2.1 110 = .ok (.invokevirtual 19, 3) := by decide +kernel
theorem d_Law_law_113 : decode m_Law_law.2.1 113 = .ok (.aload_n 2, 1) := by decide +kernel
theorem d_Law_law_114 : decode m_Law_law.2.1 114 = .ok (.aload_n 0, 1) := by decide +kernel
theorem d_Law_law_115 : decode m_Law_law.2.1 115 = .ok (.iload_n 3, 1) := by decide +kernel
theorem d_Law_law_116 : decode m_Law_law.2.1 116 = .ok (.iconst 1, 1) := by decide +kernel
theorem d_Law_law_117 : decode m_Law_law.2.1 117 = .ok (.iadd, 1) := by decide +kernel
theorem d_Law_law_118 : decode m_Law_law.2.1 118 = .ok (.iaload, 1) := by decide +kernel
theorem d_Law_law_119 : decode m_Law_law.2.1 119 = .ok (.invokevirtual 23, 3) := by decide +kernel
theorem d_Law_law_122 : decode m_Law_law.2.1 122 = .ok (.goto 381, 3) := by decide +kernel
theorem d_Law_law_125 : decode m_Law_law.2.1 125 = .ok (.aload_n 1, 1) := by decide +kernel
theorem d_Law_law_126 : decode m_Law_law.2.1 126 = .ok (.invokevirtual 24, 3) := by decide +kernel
theorem d_Law_law_129 : decode m_Law_law.2.1 129 = .ok (.aload_n 2, 1) := by decide +kernel
theorem d_Law_law_130 : decode m_Law_law.2.1 130 = .ok (.invokevirtual 28, 3) := by decide +kernel
theorem d_Law_law_133 : decode m_Law_law.2.1 133 = .ok (.if_icmp .eq 370, 3) := by decide +kernel
theorem d_Law_law_136 : decode m_Law_law.2.1 136 = .ok (.iconst 0, 1) := by decide +kernel
theorem d_Law_law_137 : decode m_Law_law.2.1 137 = .ok (.ireturn, 1) := by decide +kernel
theorem d_Law_law_138 : decode m_Law_law.2.1 138 = .ok (.aload_n 1, 1) := by decide +kernel
theorem d_Law_law_139 : decode m_Law_law.2.1 139 = .ok (.aload_n 0, 1) := by decide +kernel
theorem d_Law_law_140 : decode m_Law_law.2.1 140 = .ok (.iload_n 3, 1) := by decide +kernel
theorem d_Law_law_141 : decode m_Law_law.2.1 141 = .ok (.iconst 1, 1) := by decide +kernel
theorem d_Law_law_142 : decode m_Law_law.2.1 142 = .ok (.iadd, 1) := by decide +kernel
theorem d_Law_law_143 : decode m_Law_law.2.1 143 = .ok (.iaload, 1) := by decide +kernel
theorem d_Law_law_144 : decode m_Law_law.2.1 144 = .ok (.invokevirtual 29, 3) := by decide +kernel
theorem d_Law_law_147 : decode m_Law_law.2.1 147 = .ok (.aload_n 2, 1) := by decide +kernel
theorem d_Law_law_148 : decode m_Law_law.2.1 148 = .ok (.aload_n 0, 1) := by decide +kernel
theorem d_Law_law_149 : decode m_Law_law.2.1 149 = .ok (.iload_n 3, 1) := by decide +kernel
theorem d_Law_law_150 : decode m_Law_law.2.1 150 = .ok (.iconst 1, 1) := by decide +kernel
theorem d_Law_law_151 : decode m_Law_law.2.1 151 = .ok (.iadd, 1) := by decide +kernel
theorem d_Law_law_152 : decode m_Law_law.2.1 152 = .ok (.iaload, 1) := by decide +kernel
theorem d_Law_law_153 : decode m_Law_law.2.1 153 = .ok (.invokevirtual 33, 3) := by decide +kernel
theorem d_Law_law_156 : decode m_Law_law.2.1 156 = .ok (.if_icmp .eq 347, 3) := by decide +kernel
theorem d_Law_law_159 : decode m_Law_law.2.1 159 = .ok (.iconst 0, 1) := by decide +kernel
theorem d_Law_law_160 : decode m_Law_law.2.1 160 = .ok (.ireturn, 1) := by decide +kernel
theorem d_Law_law_161 : decode m_Law_law.2.1 161 = .ok (.aload_n 1, 1) := by decide +kernel
theorem d_Law_law_162 : decode m_Law_law.2.1 162 = .ok (.aload_n 0, 1) := by decide +kernel
theorem d_Law_law_163 : decode m_Law_law.2.1 163 = .ok (.iload_n 3, 1) := by decide +kernel
theorem d_Law_law_164 : decode m_Law_law.2.1 164 = .ok (.iconst 1, 1) := by decide +kernel
theorem d_Law_law_165 : decode m_Law_law.2.1 165 = .ok (.iadd, 1) := by decide +kernel
theorem d_Law_law_166 : decode m_Law_law.2.1 166 = .ok (.iaload, 1) := by decide +kernel
theorem d_Law_law_167 : decode m_Law_law.2.1 167 = .ok (.aload_n 0, 1) := by decide +kernel
theorem d_Law_law_168 : decode m_Law_law.2.1 168 = .ok (.iload_n 3, 1) := by decide +kernel
theorem d_Law_law_169 : decode m_Law_law.2.1 169 = .ok (.iconst 2, 1) := by decide +kernel
theorem d_Law_law_170 : decode m_Law_law.2.1 170 = .ok (.iadd, 1) := by decide +kernel
theorem d_Law_law_171 : decode m_Law_law.2.1 171 = .ok (.iaload, 1) := by decide +kernel
theorem d_Law_law_172 : decode m_Law_law.2.1 172 = .ok (.aload_n 0, 1) := by decide +kernel
theorem d_Law_law_173 : decode m_Law_law.2.1 173 = .ok (.iload_n 3, 1) := by decide +kernel
theorem d_Law_law_174 : decode m_Law_law.2.1 174 = .ok (.iconst 3, 1) := by decide +kernel
theorem d_Law_law_175 : decode m_Law_law.2.1 175 = .ok (.iadd, 1) := by decide +kernel
theorem d_Law_law_176 : decode m_Law_law.2.1 176 = .ok (.iaload, 1) := by decide +kernel
theorem d_Law_law_177 : decode m_Law_law.2.1 177 = .ok (.i2b, 1) := by decide +kernel
theorem d_Law_law_178 : decode m_Law_law.2.1 178 = .ok (.invokestatic 34, 3) := by decide +kernel
theorem d_Law_law_181 : decode m_Law_law.2.1 181 = .ok (.istore 4, 2) := by decide +kernel
theorem d_Law_law_183 : decode m_Law_law.2.1 183 = .ok (.aload_n 2, 1) := by decide +kernel
theorem d_Law_law_184 : decode m_Law_law.2.1 184 = .ok (.aload_n 0, 1) := by decide +kernel
theorem d_Law_law_185 : decode m_Law_law.2.1 185 = .ok (.iload_n 3, 1) := by decide +kernel
theorem d_Law_law_186 : decode m_Law_law.2.1 186 = .ok (.iconst 1, 1) := by decide +kernel
theorem d_Law_law_187 : decode m_Law_law.2.1 187 = .ok (.iadd, 1) := by decide +kernel
theorem d_Law_law_188 : decode m_Law_law.2.1 188 = .ok (.iaload, 1) := by decide +kernel
theorem d_Law_law_189 : decode m_Law_law.2.1 189 = .ok (.aload_n 0, 1) := by decide +kernel
theorem d_Law_law_190 : decode m_Law_law.2.1 190 = .ok (.iload_n 3, 1) := by decide +kernel
theorem d_Law_law_191 : decode m_Law_law.2.1 191 = .ok (.iconst 2, 1) := by decide +kernel
theorem d_Law_law_192 : decode m_Law_law.2.1 192 = .ok (.iadd, 1) := by decide +kernel
theorem d_Law_law_193 : decode m_Law_law.2.1 193 = .ok (.iaload, 1) := by decide +kernel
theorem d_Law_law_194 : decode m_Law_law.2.1 194 = .ok (.aload_n 0, 1) := by decide +kernel
theorem d_Law_law_195 : decode m_Law_law.2.1 195 = .ok (.iload_n 3, 1) := by decide +kernel
theorem d_Law_law_196 : decode m_Law_law.2.1 196 = .ok (.iconst 3, 1) := by decide +kernel
theorem d_Law_law_197 : decode m_Law_law.2.1 197 = .ok (.iadd, 1) := by decide +kernel
theorem d_Law_law_198 : decode m_Law_law.2.1 198 = .ok (.iaload, 1) := by decide +kernel
theorem d_Law_law_199 : decode m_Law_law.2.1 199 = .ok (.i2b, 1) := by decide +kernel
theorem d_Law_law_200 : decode m_Law_law.2.1 200 = .ok (.invokevirtual 39, 3) := by decide +kernel
theorem d_Law_law_203 : decode m_Law_law.2.1 203 = .ok (.aload_n 2, 1) := by decide +kernel
theorem d_Law_law_204 : decode m_Law_law.2.1 204 = .ok (.invokevirtual 40, 3) := by decide +kernel
theorem d_Law_law_207 : decode m_Law_law.2.1 207 = .ok (.iload 4, 2) := by decide +kernel
theorem d_Law_law_209 : decode m_Law_law.2.1 209 = .ok (.if_icmp .eq 5, 3) := by decide +kernel
theorem d_Law_law_212 : decode m_Law_law.2.1 212 = .ok (.iconst 0, 1) := by decide +kernel
theorem d_Law_law_213 : decode m_Law_law.2.1 213 = .ok (.ireturn, 1) := by decide +kernel
theorem d_Law_law_214 : decode m_Law_law.2.1 214 = .ok (.goto 289, 3) := by decide +kernel
theorem d_Law_law_217 : decode m_Law_law.2.1 217 = .ok (.aload_n 1, 1) := by decide +kernel
theorem d_Law_law_218 : decode m_Law_law.2.1 218 = .ok (.invokevirtual 43, 3) := by decide +kernel
theorem d_Law_law_221 : decode m_Law_law.2.1 221 = .ok (.aload_n 2, 1) := by decide +kernel
theorem d_Law_law_222 : decode m_Law_law.2.1 222 = .ok (.invokevirtual 46, 3) := by decide +kernel
theorem d_Law_law_225 : decode m_Law_law.2.1 225 = .ok (.if_icmp .eq 278, 3) := by decide +kernel
theorem d_Law_law_228 : decode m_Law_law.2.1 228 = .ok (.iconst 0, 1) := by decide +kernel
theorem d_Law_law_229 : decode m_Law_law.2.1 229 = .ok (.ireturn, 1) := by decide +kernel
theorem d_Law_law_230 : decode m_Law_law.2.1 230 = .ok (.aload_n 1, 1) := by decide +kernel
theorem d_Law_law_231 : decode m_Law_law.2.1 231 = .ok (.aload_n 0, 1) := by decide +kernel
theorem d_Law_law_232 : decode m_Law_law.2.1 232 = .ok (.iload_n 3, 1) := by decide +kernel
theorem d_Law_law_233 : decode m_Law_law.2.1 233 = .ok (.iconst 1, 1) := by decide +kernel
theorem d_Law_law_234 : decode m_Law_law.2.1 234 = .ok (.iadd, 1) := by decide +kernel
theorem d_Law_law_235 : decode m_Law_law.2.1 235 = .ok (.iaload, 1) := by decide +kernel
theorem d_Law_law_236 : decode m_Law_law.2.1 236 = .ok (.aload_n 0, 1) := by decide +kernel
theorem d_Law_law_237 : decode m_Law_law.2.1 237 = .ok (.iload_n 3, 1) := by decide +kernel
theorem d_Law_law_238 : decode m_Law_law.2.1 238 = .ok (.iconst 2, 1) := by decide +kernel
theorem d_Law_law_239 : decode m_Law_law.2.1 239 = .ok (.iadd, 1) := by decide +kernel
theorem d_Law_law_240 : decode m_Law_law.2.1 240 = .ok (.iaload, 1) := by decide +kernel
theorem d_Law_law_241 : decode m_Law_law.2.1 241 = .ok (.aload_n 0, 1) := by decide +kernel
theorem d_Law_law_242 : decode m_Law_law.2.1 242 = .ok (.iload_n 3, 1) := by decide +kernel
theorem d_Law_law_243 : decode m_Law_law.2.1 243 = .ok (.iconst 3, 1) := by decide +kernel
theorem d_Law_law_244 : decode m_Law_law.2.1 244 = .ok (.iadd, 1) := by decide +kernel
theorem d_Law_law_245 : decode m_Law_law.2.1 245 = .ok (.iaload, 1) := by decide +kernel
theorem d_Law_law_246 : decode m_Law_law.2.1 246 = .ok (.invokevirtual 47, 3) := by decide +kernel
theorem d_Law_law_249 : decode m_Law_law.2.1 249 = .ok (.aload_n 2, 1) := by decide +kernel
theorem d_Law_law_250 : decode m_Law_law.2.1 250 = .ok (.aload_n 0, 1) := by decide +kernel
theorem d_Law_law_251 : decode m_Law_law.2.1 251 = .ok (.iload_n 3, 1) := by decide +kernel
theorem d_Law_law_252 : decode m_Law_law.2.1 252 = .ok (.iconst 1, 1) := by decide +kernel
theorem d_Law_law_253 : decode m_Law_law.2.1 253 = .ok (.iadd, 1) := by decide +kernel
theorem d_Law_law_254 : decode m_Law_law.2.1 254 = .ok (.iaload, 1) := by decide +kernel
theorem d_Law_law_255 : decode m_Law_law.2.1 255 = .ok (.aload_n 0, 1) := by decide +kernel
theorem d_Law_law_256 : decode m_Law_law.2.1 256 = .ok (.iload_n 3, 1) := by decide +kernel
theorem d_Law_law_257 : decode m_Law_law.2.1 257 = .ok (.iconst 2, 1) := by decide +kernel
theorem d_Law_law_258 : decode m_Law_law.2.1 258 = .ok (.iadd, 1) := by decide +kernel
theorem d_Law_law_259 : decode m_Law_law.2.1 259 = .ok (.iaload, 1) := by decide +kernel
theorem d_Law_law_260 : decode m_Law_law.2.1 260 = .ok (.aload_n 0, 1) := by decide +kernel
theorem d_Law_law_261 : decode m_Law_law.2.1 261 = .ok (.iload_n 3, 1) := by decide +kernel
theorem d_Law_law_262 : decode m_Law_law.2.1 262 = .ok (.iconst 3, 1) := by decide +kernel
theorem d_Law_law_263 : decode m_Law_law.2.1 263 = .ok (.iadd, 1) := by decide +kernel
theorem d_Law_law_264 : decode m_Law_law.2.1 264 = .ok (.iaload, 1) := by decide +kernel
theorem d_Law_law_265 : decode m_Law_law.2.1 265 = .ok (.invokevirtual 51, 3) := by decide +kernel
theorem d_Law_law_268 : decode m_Law_law.2.1 268 = .ok (.if_icmp .eq 235, 3) := by decide +kernel
theorem d_Law_law_271 : decode m_Law_law.2.1 271 = .ok (.iconst 0, 1) := by decide +kernel
theorem d_Law_law_272 : decode m_Law_law.2.1 272 = .ok (.ireturn, 1) := by decide +kernel
theorem d_Law_law_273 : decode m_Law_law.2.1 273 = .ok (.aload_n 1, 1) := by decide +kernel
theorem d_Law_law_274 : decode m_Law_law.2.1 274 = .ok (.aload_n 0, 1) := by decide +kernel
theorem d_Law_law_275 : decode m_Law_law.2.1 275 = .ok (.iload_n 3, 1) := by decide +kernel
theorem d_Law_law_276 : decode m_Law_law.2.1 276 = .ok (.iconst 1, 1) := by decide +kernel
theorem d_Law_law_277 : decode m_Law_law.2.1 277 = .ok (.iadd, 1) := by decide +kernel
theorem d_Law_law_278 : decode m_Law_law.2.1 278 = .ok (.iaload, 1) := by decide +kernel
theorem d_Law_law_279 : decode m_Law_law.2.1 279 = .ok (.aload_n 0, 1) := by decide +kernel
theorem d_Law_law_280 : decode m_Law_law.2.1 280 = .ok (.iload_n 3, 1) := by decide +kernel
theorem d_Law_law_281 : decode m_Law_law.2.1 281 = .ok (.iconst 2, 1) := by decide +kernel
theorem d_Law_law_282 : decode m_Law_law.2.1 282 = .ok (.iadd, 1) := by decide +kernel
theorem d_Law_law_283 : decode m_Law_law.2.1 283 = .ok (.iaload, 1) := by decide +kernel
theorem d_Law_law_284 : decode m_Law_law.2.1 284 = .ok (.invokevirtual 52, 3) := by decide +kernel
theorem d_Law_law_287 : decode m_Law_law.2.1 287 = .ok (.aload_n 2, 1) := by decide +kernel
theorem d_Law_law_288 : decode m_Law_law.2.1 288 = .ok (.aload_n 0, 1) := by decide +kernel
theorem d_Law_law_289 : decode m_Law_law.2.1 289 = .ok (.iload_n 3, 1) := by decide +kernel
theorem d_Law_law_290 : decode m_Law_law.2.1 290 = .ok (.iconst 1, 1) := by decide +kernel
theorem d_Law_law_291 : decode m_Law_law.2.1 291 = .ok (.iadd, 1) := by decide +kernel
theorem d_Law_law_292 : decode m_Law_law.2.1 292 = .ok (.iaload, 1) := by decide +kernel
theorem d_Law_law_293 : decode m_Law_law.2.1 293 = .ok (.aload_n 0, 1) := by decide +kernel
theorem d_Law_law_294 : decode m_Law_law.2.1 294 = .ok (.iload_n 3, 1) := by decide +kernel
theorem d_Law_law_295 : decode m_Law_law.2.1 295 = .ok (.iconst 2, 1) := by decide +kernel
theorem d_Law_law_296 : decode m_Law_law.2.1 296 = .ok (.iadd, 1) := by decide +kernel
theorem d_Law_law_297 : decode m_Law_law.2.1 297 = .ok (.iaload, 1) := by decide +kernel
theorem d_Law_law_298 : decode m_Law_law.2.1 298 = .ok (.invokevirtual 56, 3) := by decide +kernel
theorem d_Law_law_301 : decode m_Law_law.2.1 301 = .ok (.if_icmp .eq 202, 3) := by decide +kernel
theorem d_Law_law_304 : decode m_Law_law.2.1 304 = .ok (.iconst 0, 1) := by decide +kernel
theorem d_Law_law_305 : decode m_Law_law.2.1 305 = .ok (.ireturn, 1) := by decide +kernel
theorem d_Law_law_306 : decode m_Law_law.2.1 306 = .ok (.aload_n 1, 1) := by decide +kernel
theorem d_Law_law_307 : decode m_Law_law.2.1 307 = .ok (.aload_n 0, 1) := by decide +kernel
theorem d_Law_law_308 : decode m_Law_law.2.1 308 = .ok (.iload_n 3, 1) := by decide +kernel
theorem d_Law_law_309 : decode m_Law_law.2.1 309 = .ok (.iconst 1, 1) := by decide +kernel
theorem d_Law_law_310 : decode m_Law_law.2.1 310 = .ok (.iadd, 1) := by decide +kernel
theorem d_Law_law_311 : decode m_Law_law.2.1 311 = .ok (.iaload, 1) := by decide +kernel
theorem d_Law_law_312 : decode m_Law_law.2.1 312 = .ok (.aload_n 0, 1) := by decide +kernel
theorem d_Law_law_313 : decode m_Law_law.2.1 313 = .ok (.iload_n 3, 1) := by decide +kernel
theorem d_Law_law_314 : decode m_Law_law.2.1 314 = .ok (.iconst 2, 1) := by decide +kernel
theorem d_Law_law_315 : decode m_Law_law.2.1 315 = .ok (.iadd, 1) := by decide +kernel
theorem d_Law_law_316 : decode m_Law_law.2.1 316 = .ok (.iaload, 1) := by decide +kernel
theorem d_Law_law_317 : decode m_Law_law.2.1 317 = .ok (.invokevirtual 57, 3) := by decide +kernel
theorem d_Law_law_320 : decode m_Law_law.2.1 320 = .ok (.aload_n 2, 1) := by decide +kernel
theorem d_Law_law_321 : decode m_Law_law.2.1 321 = .ok (.aload_n 0, 1) := by decide +kernel
theorem d_Law_law_322 : decode m_Law_law.2.1 322 = .ok (.iload_n 3, 1) := by decide +kernel
theorem d_Law_law_323 : decode m_Law_law.2.1 323 = .ok (.iconst 1, 1) := by decide +kernel
theorem d_Law_law_324 : decode m_Law_law.2.1 324 = .ok (.iadd, 1) := by decide +kernel
theorem d_Law_law_325 : decode m_Law_law.2.1 325 = .ok (.iaload, 1) := by decide +kernel
theorem d_Law_law_326 : decode m_Law_law.2.1 326 = .ok (.aload_n 0, 1) := by decide +kernel
theorem d_Law_law_327 : decode m_Law_law.2.1 327 = .ok (.iload_n 3, 1) := by decide +kernel
theorem d_Law_law_328 : decode m_Law_law.2.1 328 = .ok (.iconst 2, 1) := by decide +kernel
theorem d_Law_law_329 : decode m_Law_law.2.1 329 = .ok (.iadd, 1) := by decide +kernel
theorem d_Law_law_330 : decode m_Law_law.2.1 330 = .ok (.iaload, 1) := by decide +kernel
theorem d_Law_law_331 : decode m_Law_law.2.1 331 = .ok (.invokevirtual 60, 3) := by decide +kernel
theorem d_Law_law_334 : decode m_Law_law.2.1 334 = .ok (.if_icmp .eq 169, 3) := by decide +kernel
theorem d_Law_law_337 : decode m_Law_law.2.1 337 = .ok (.iconst 0, 1) := by decide +kernel
theorem d_Law_law_338 : decode m_Law_law.2.1 338 = .ok (.ireturn, 1) := by decide +kernel
theorem d_Law_law_339 : decode m_Law_law.2.1 339 = .ok (.aload_n 1, 1) := by decide +kernel
theorem d_Law_law_340 : decode m_Law_law.2.1 340 = .ok (.aload_n 0, 1) := by decide +kernel
theorem d_Law_law_341 : decode m_Law_law.2.1 341 = .ok (.iload_n 3, 1) := by decide +kernel
theorem d_Law_law_342 : decode m_Law_law.2.1 342 = .ok (.iconst 1, 1) := by decide +kernel
theorem d_Law_law_343 : decode m_Law_law.2.1 343 = .ok (.iadd, 1) := by decide +kernel
theorem d_Law_law_344 : decode m_Law_law.2.1 344 = .ok (.iaload, 1) := by decide +kernel
theorem d_Law_law_345 : decode m_Law_law.2.1 345 = .ok (.invokevirtual 61, 3) := by decide +kernel
theorem d_Law_law_348 : decode m_Law_law.2.1 348 = .ok (.aload_n 2, 1) := by decide +kernel
theorem d_Law_law_349 : decode m_Law_law.2.1 349 = .ok (.aload_n 0, 1) := by decide +kernel
theorem d_Law_law_350 : decode m_Law_law.2.1 350 = .ok (.iload_n 3, 1) := by decide +kernel
theorem d_Law_law_351 : decode m_Law_law.2.1 351 = .ok (.iconst 1, 1) := by decide +kernel
theorem d_Law_law_352 : decode m_Law_law.2.1 352 = .ok (.iadd, 1) := by decide +kernel
theorem d_Law_law_353 : decode m_Law_law.2.1 353 = .ok (.iaload, 1) := by decide +kernel
theorem d_Law_law_354 : decode m_Law_law.2.1 354 = .ok (.invokevirtual 64, 3) := by decide +kernel
theorem d_Law_law_357 : decode m_Law_law.2.1 357 = .ok (.if_icmp .eq 146, 3) := by decide +kernel
theorem d_Law_law_360 : decode m_Law_law.2.1 360 = .ok (.iconst 0, 1) := by decide +kernel
theorem d_Law_law_361 : decode m_Law_law.2.1 361 = .ok (.ireturn, 1) := by decide +kernel
theorem d_Law_law_362 : decode m_Law_law.2.1 362 = .ok (.aload_n 1, 1) := by decide +kernel
theorem d_Law_law_363 : decode m_Law_law.2.1 363 = .ok (.invokevirtual 65, 3) := by decide +kernel
theorem d_Law_law_366 : decode m_Law_law.2.1 366 = .ok (.aload_n 2, 1) := by decide +kernel
theorem d_Law_law_367 : decode m_Law_law.2.1 367 = .ok (.invokevirtual 68, 3) := by decide +kernel
theorem d_Law_law_370 : decode m_Law_law.2.1 370 = .ok (.if_icmp .eq 133, 3) := by decide +kernel
theorem d_Law_law_373 : decode m_Law_law.2.1 373 = .ok (.iconst 0, 1) := by decide +kernel
theorem d_Law_law_374 : decode m_Law_law.2.1 374 = .ok (.ireturn, 1) := by decide +kernel
theorem d_Law_law_375 : decode m_Law_law.2.1 375 = .ok (.aload_n 1, 1) := by decide +kernel
theorem d_Law_law_376 : decode m_Law_law.2.1 376 = .ok (.aload_n 0, 1) := by decide +kernel
theorem d_Law_law_377 : decode m_Law_law.2.1 377 = .ok (.iload_n 3, 1) := by decide +kernel
theorem d_Law_law_378 : decode m_Law_law.2.1 378 = .ok (.iconst 1, 1) := by decide +kernel
theorem d_Law_law_379 : decode m_Law_law.2.1 379 = .ok (.iadd, 1) := by decide +kernel
theorem d_Law_law_380 : decode m_Law_law.2.1 380 = .ok (.iaload, 1) := by decide +kernel
theorem d_Law_law_381 : decode m_Law_law.2.1 381 = .ok (.aload_n 0, 1) := by decide +kernel
theorem d_Law_law_382 : decode m_Law_law.2.1 382 = .ok (.iload_n 3, 1) := by decide +kernel
theorem d_Law_law_383 : decode m_Law_law.2.1 383 = .ok (.iconst 2, 1) := by decide +kernel
theorem d_Law_law_384 : decode m_Law_law.2.1 384 = .ok (.iadd, 1) := by decide +kernel
theorem d_Law_law_385 : decode m_Law_law.2.1 385 = .ok (.iaload, 1) := by decide +kernel
theorem d_Law_law_386 : decode m_Law_law.2.1 386 = .ok (.ifCond .eq 7, 3) := by decide +kernel
theorem d_Law_law_389 : decode m_Law_law.2.1 389 = .ok (.iconst 1, 1) := by decide +kernel
theorem d_Law_law_390 : decode m_Law_law.2.1 390 = .ok (.goto 4, 3) := by decide +kernel
theorem d_Law_law_393 : decode m_Law_law.2.1 393 = .ok (.iconst 0, 1) := by decide +kernel
theorem d_Law_law_394 : decode m_Law_law.2.1 394 = .ok (.invokevirtual 69, 3) := by decide +kernel
theorem d_Law_law_397 : decode m_Law_law.2.1 397 = .ok (.aload_n 2, 1) := by decide +kernel
theorem d_Law_law_398 : decode m_Law_law.2.1 398 = .ok (.aload_n 0, 1) := by decide +kernel
theorem d_Law_law_399 : decode m_Law_law.2.1 399 = .ok (.iload_n 3, 1) := by decide +kernel
theorem d_Law_law_400 : decode m_Law_law.2.1 400 = .ok (.iconst 1, 1) := by decide +kernel
theorem d_Law_law_401 : decode m_Law_law.2.1 401 = .ok (.iadd, 1) := by decide +kernel
theorem d_Law_law_402 : decode m_Law_law.2.1 402 = .ok (.iaload, 1) := by decide +kernel
theorem d_Law_law_403 : decode m_Law_law.2.1 403 = .ok (.aload_n 0, 1) := by decide +kernel
theorem d_Law_law_404 : decode m_Law_law.2.1 404 = .ok (.iload_n 3, 1) := by decide +kernel
theorem d_Law_law_405 : decode m_Law_law.2.1 405 = .ok (.iconst 2, 1) := by decide +kernel
theorem d_Law_law_406 : decode m_Law_law.2.1 406 = .ok (.iadd, 1) := by decide +kernel
theorem d_Law_law_407 : decode m_Law_law.2.1 407 = .ok (.iaload, 1) := by decide +kernel
theorem d_Law_law_408 : decode m_Law_law.2.1 408 = .ok (.ifCond .eq 7, 3) := by decide +kernel
theorem d_Law_law_411 : decode m_Law_law.2.1 411 = .ok (.iconst 1, 1) := by decide +kernel
theorem d_Law_law_412 : decode m_Law_law.2.1 412 = .ok (.goto 4, 3) := by decide +kernel
theorem d_Law_law_415 : decode m_Law_law.2.1 415 = .ok (.iconst 0, 1) := by decide +kernel
theorem d_Law_law_416 : decode m_Law_law.2.1 416 = .ok (.invokevirtual 73, 3) := by decide +kernel
theorem d_Law_law_419 : decode m_Law_law.2.1 419 = .ok (.if_icmp .eq 84, 3) := by decide +kernel
theorem d_Law_law_422 : decode m_Law_law.2.1 422 = .ok (.iconst 0, 1) := by decide +kernel
theorem d_Law_law_423 : decode m_Law_law.2.1 423 = .ok (.ireturn, 1) := by decide +kernel
theorem d_Law_law_424 : decode m_Law_law.2.1 424 = .ok (.aload_n 1, 1) := by decide +kernel
theorem d_Law_law_425 : decode m_Law_law.2.1 425 = .ok (.aload_n 0, 1) := by decide +kernel
theorem d_Law_law_426 : decode m_Law_law.2.1 426 = .ok (.iload_n 3, 1) := by decide +kernel
theorem d_Law_law_427 : decode m_Law_law.2.1 427 = .ok (.iconst 1, 1) := by decide +kernel
theorem d_Law_law_428 : decode m_Law_law.2.1 428 = .ok (.iadd, 1) := by decide +kernel
theorem d_Law_law_429 : decode m_Law_law.2.1 429 = .ok (.iaload, 1) := by decide +kernel
theorem d_Law_law_430 : decode m_Law_law.2.1 430 = .ok (.aload_n 0, 1) := by decide +kernel
theorem d_Law_law_431 : decode m_Law_law.2.1 431 = .ok (.iload_n 3, 1) := by decide +kernel
theorem d_Law_law_432 : decode m_Law_law.2.1 432 = .ok (.iconst 2, 1) := by decide +kernel
theorem d_Law_law_433 : decode m_Law_law.2.1 433 = .ok (.iadd, 1) := by decide +kernel
theorem d_Law_law_434 : decode m_Law_law.2.1 434 = .ok (.iaload, 1) := by decide +kernel
theorem d_Law_law_435 : decode m_Law_law.2.1 435 = .ok (.invokevirtual 74, 3) := by decide +kernel
theorem d_Law_law_438 : decode m_Law_law.2.1 438 = .ok (.aload_n 2, 1) := by decide +kernel
theorem d_Law_law_439 : decode m_Law_law.2.1 439 = .ok (.aload_n 0, 1) := by decide +kernel
theorem d_Law_law_440 : decode m_Law_law.2.1 440 = .ok (.iload_n 3, 1) := by decide +kernel
theorem d_Law_law_441 : decode m_Law_law.2.1 441 = .ok (.iconst 1, 1) := by decide +kernel
theorem d_Law_law_442 : decode m_Law_law.2.1 442 = .ok (.iadd, 1) := by decide +kernel
theorem d_Law_law_443 : decode m_Law_law.2.1 443 = .ok (.iaload, 1) := by decide +kernel
theorem d_Law_law_444 : decode m_Law_law.2.1 444 = .ok (.aload_n 0, 1) := by decide +kernel
theorem d_Law_law_445 : decode m_Law_law.2.1 445 = .ok (.iload_n 3, 1) := by decide +kernel
theorem d_Law_law_446 : decode m_Law_law.2.1 446 = .ok (.iconst 2, 1) := by decide +kernel
theorem d_Law_law_447 : decode m_Law_law.2.1 447 = .ok (.iadd, 1) := by decide +kernel
theorem d_Law_law_448 : decode m_Law_law.2.1 448 = .ok (.iaload, 1) := by decide +kernel
theorem d_Law_law_449 : decode m_Law_law.2.1 449 = .ok (.invokevirtual 77, 3) := by decide +kernel
theorem d_Law_law_452 : decode m_Law_law.2.1 452 = .ok (.if_icmp .eq 51, 3) := by decide +kernel
theorem d_Law_law_455 : decode m_Law_law.2.1 455 = .ok (.iconst 0, 1) := by decide +kernel
theorem d_Law_law_456 : decode m_Law_law.2.1 456 = .ok (.ireturn, 1) := by decide +kernel
theorem d_Law_law_457 : decode m_Law_law.2.1 457 = .ok (.aload_n 1, 1) := by decide +kernel
theorem d_Law_law_458 : decode m_Law_law.2.1 458 = .ok (.aload_n 0, 1) := by decide +kernel
theorem d_Law_law_459 : decode m_Law_law.2.1 459 = .ok (.iload_n 3, 1) := by decide +kernel
theorem d_Law_law_460 : decode m_Law_law.2.1 460 = .ok (.iconst 1, 1) := by decide +kernel
theorem d_Law_law_461 : decode m_Law_law.2.1 461 = .ok (.iadd, 1) := by decide +kernel
theorem d_Law_law_462 : decode m_Law_law.2.1 462 = .ok (.iaload, 1) := by decide +kernel
theorem d_Law_law_463 : decode m_Law_law.2.1 463 = .ok (.invokevirtual 78, 3) := by decide +kernel
theorem d_Law_law_466 : decode m_Law_law.2.1 466 = .ok (.aload_n 2, 1) := by decide +kernel
theorem d_Law_law_467 : decode m_Law_law.2.1 467 = .ok (.aload_n 0, 1) := by decide +kernel
theorem d_Law_law_468 : decode m_Law_law.2.1 468 = .ok (.iload_n 3, 1) := by decide +kernel
theorem d_Law_law_469 : decode m_Law_law.2.1 469 = .ok (.iconst 1, 1) := by decide +kernel
theorem d_Law_law_470 : decode m_Law_law.2.1 470 = .ok (.iadd, 1) := by decide +kernel
theorem d_Law_law_471 : decode m_Law_law.2.1 471 = .ok (.iaload, 1) := by decide +kernel
theorem d_Law_law_472 : decode m_Law_law.2.1 472 = .ok (.invokevirtual 82, 3) := by decide +kernel
theorem d_Law_law_475 : decode m_Law_law.2.1 475 = .ok (.if_icmp .eq 28, 3) := by decide +kernel
theorem d_Law_law_478 : decode m_Law_law.2.1 478 = .ok (.iconst 0, 1) := by decide +kernel
theorem d_Law_law_479 : decode m_Law_law.2.1 479 = .ok (.ireturn, 1) := by decide +kernel
theorem d_Law_law_480 : decode m_Law_law.2.1 480 = .ok (.aload_n 1, 1) := by decide +kernel
theorem d_Law_law_481 : decode m_Law_law.2.1 481 = .ok (.aload_n 0, 1) := by decide +kernel
theorem d_Law_law_482 : decode m_Law_law.2.1 482 = .ok (.iload_n 3, 1) := by decide +kernel
theorem d_Law_law_483 : decode m_Law_law.2.1 483 = .ok (.iconst 1, 1) := by decide +kernel
theorem d_Law_law_484 : decode m_Law_law.2.1 484 = .ok (.iadd, 1) := by decide +kernel
theorem d_Law_law_485 : decode m_Law_law.2.1 485 = .ok (.iaload, 1) := by decide +kernel
theorem d_Law_law_486 : decode m_Law_law.2.1 486 = .ok (.invokevirtual 83, 3) := by decide +kernel
theorem d_Law_law_489 : decode m_Law_law.2.1 489 = .ok (.aload_n 2, 1) := by decide +kernel
theorem d_Law_law_490 : decode m_Law_law.2.1 490 = .ok (.aload_n 0, 1) := by decide +kernel
theorem d_Law_law_491 : decode m_Law_law.2.1 491 = .ok (.iload_n 3, 1) := by decide +kernel
theorem d_Law_law_492 : decode m_Law_law.2.1 492 = .ok (.iconst 1, 1) := by decide +kernel
theorem d_Law_law_493 : decode m_Law_law.2.1 493 = .ok (.iadd, 1) := by decide +kernel
theorem d_Law_law_494 : decode m_Law_law.2.1 494 = .ok (.iaload, 1) := by decide +kernel
theorem d_Law_law_495 : decode m_Law_law.2.1 495 = .ok (.invokevirtual 86, 3) := by decide +kernel
theorem d_Law_law_498 : decode m_Law_law.2.1 498 = .ok (.if_icmp .eq 5, 3) := by decide +kernel
theorem d_Law_law_501 : decode m_Law_law.2.1 501 = .ok (.iconst 0, 1) := by decide +kernel
theorem d_Law_law_502 : decode m_Law_law.2.1 502 = .ok (.ireturn, 1) := by decide +kernel
theorem d_Law_law_503 : decode m_Law_law.2.1 503 = .ok (.iinc 3 4, 3) := by decide +kernel
theorem d_Law_law_506 : decode m_Law_law.2.1 506 = .ok (.goto (-488), 3) := by decide +kernel
theorem d_Law_law_509 : decode m_Law_law.2.1 509 = .ok (.iconst 1, 1) := by decide +kernel
theorem d_Law_law_510 : decode m_Law_law.2.1 510 = .ok (.ireturn, 1) := by decide +kernel
theorem d_ArrayIndexOutOfBoundsException_init_0 : decode m_ArrayIndexOutOfBoundsException_init.2.1 0 = .ok (.aload_n 0, 1) := by decide +kernel
theorem d_ArrayIndexOutOfBoundsException_init_1 : decode m_ArrayIndexOutOfBoundsException_init.2.1 1 = .ok (.aload_n 1, 1) := by decide +kernel
theorem d_ArrayIndexOutOfBoundsException_init_2 : decode m_ArrayIndexOutOfBoundsException_init.2.1 2 = .ok (.invokespecial 7, 3) := by decide +kernel
theorem d_ArrayIndexOutOfBoundsException_init_5 : decode m_ArrayIndexOutOfBoundsException_init.2.1 5 = .ok (.return_, 1) := by decide +kernel
theorem d_Enum_ordinal_0 : decode m_Enum_ordinal.2.1 0 = .ok (.aload_n 0, 1) := by decide +kernel
theorem d_Enum_ordinal_1 : decode m_Enum_ordinal.2.1 1 = .ok (.getfield 7, 3) := by decide +kernel
theorem d_Enum_ordinal_4 : decode m_Enum_ordinal.2.1 4 = .ok (.ireturn, 1) := by decide +kernel
theorem d_Math_max_0 : decode m_Math_max.2.1 0 = .ok (.iload_n 0, 1) := by decide +kernel
theorem d_Math_max_1 : decode m_Math_max.2.1 1 = .ok (.iload_n 1, 1) := by decide +kernel
theorem d_Math_max_2 : decode m_Math_max.2.1 2 = .ok (.if_icmp .lt 7, 3) := by decide +kernel
theorem d_Math_max_5 : decode m_Math_max.2.1 5 = .ok (.iload_n 0, 1) := by decide +kernel
theorem d_Math_max_6 : decode m_Math_max.2.1 6 = .ok (.goto 4, 3) := by decide +kernel
theorem d_Math_max_9 : decode m_Math_max.2.1 9 = .ok (.iload_n 1, 1) := by decide +kernel
theorem d_Math_max_10 : decode m_Math_max.2.1 10 = .ok (.ireturn, 1) := by decide +kernel
theorem d_Math_min_0 : decode m_Math_min.2.1 0 = .ok (.iload_n 0, 1) := by decide +kernel
theorem d_Math_min_1 : decode m_Math_min.2.1 1 = .ok (.iload_n 1, 1) := by decide +kernel
theorem d_Math_min_2 : decode m_Math_min.2.1 2 = .ok (.if_icmp .gt 7, 3) := by decide +kernel
theorem d_Math_min_5 : decode m_Math_min.2.1 5 = .ok (.iload_n 0, 1) := by decide +kernel
theorem d_Math_min_6 : decode m_Math_min.2.1 6 = .ok (.goto 4, 3) := by decide +kernel
theorem d_Math_min_9 : decode m_Math_min.2.1 9 = .ok (.iload_n 1, 1) := by decide +kernel
theorem d_Math_min_10 : decode m_Math_min.2.1 10 = .ok (.ireturn, 1) := by decide +kernel
theorem d_String_length_0 : decode m_String_length.2.1 0 = .ok (.aload_n 0, 1) := by decide +kernel
theorem d_String_length_1 : decode m_String_length.2.1 1 = .ok (.getfield 9, 3) := by decide +kernel
theorem d_String_length_4 : decode m_String_length.2.1 4 = .ok (.arraylength, 1) := by decide +kernel
theorem d_String_length_5 : decode m_String_length.2.1 5 = .ok (.aload_n 0, 1) := by decide +kernel
theorem d_String_length_6 : decode m_String_length.2.1 6 = .ok (.invokevirtual 335, 3) := by decide +kernel
theorem d_String_length_9 : decode m_String_length.2.1 9 = .ok (.ishr, 1) := by decide +kernel
theorem d_String_length_10 : decode m_String_length.2.1 10 = .ok (.ireturn, 1) := by decide +kernel
theorem d_String_charAt_0 : decode m_String_charAt.2.1 0 = .ok (.aload_n 0, 1) := by decide +kernel
theorem d_String_charAt_1 : decode m_String_charAt.2.1 1 = .ok (.invokevirtual 492, 3) := by decide +kernel
theorem d_String_charAt_4 : decode m_String_charAt.2.1 4 = .ok (.ifCond .eq 12, 3) := by decide +kernel
theorem d_String_charAt_7 : decode m_String_charAt.2.1 7 = .ok (.aload_n 0, 1) := by decide +kernel
theorem d_String_charAt_8 : decode m_String_charAt.2.1 8 = .ok (.getfield 9, 3) := by decide +kernel
theorem d_String_charAt_11 : decode m_String_charAt.2.1 11 = .ok (.iload_n 1, 1) := by decide +kernel
theorem d_String_charAt_12 : decode m_String_charAt.2.1 12 = .ok (.invokestatic 495, 3) := by decide +kernel
theorem d_String_charAt_15 : decode m_String_charAt.2.1 15 = .ok (.ireturn, 1) := by decide +kernel
theorem d_String_charAt_16 : decode m_String_charAt.2.1 16 = .ok (.aload_n 0, 1) := by decide +kernel
theorem d_String_charAt_17 : decode m_String_charAt.2.1 17 = .ok (.getfield 9, 3) := by decide +kernel
theorem d_String_charAt_20 : decode m_String_charAt.2.1 20 = .ok (.iload_n 1, 1) := by decide +kernel
theorem d_String_charAt_21 : decode m_String_charAt.2.1 21 = .ok (.invokestatic 498, 3) := by decide +kernel
theorem d_String_charAt_24 : decode m_String_charAt.2.1 24 = .ok (.ireturn, 1) := by decide +kernel
theorem d_String_coder_0 : decode m_String_coder.2.1 0 = .ok (.getstatic 38, 3) := by decide +kernel
theorem d_String_coder_3 : decode m_String_coder.2.1 3 = .ok (.ifCond .eq 10, 3) := by decide +kernel
theorem d_String_coder_6 : decode m_String_coder.2.1 6 = .ok (.aload_n 0, 1) := by decide +kernel
theorem d_String_coder_7 : decode m_String_coder.2.1 7 = .ok (.getfield 15, 3) := by decide +kernel
theorem d_String_coder_10 : decode m_String_coder.2.1 10 = .ok (.goto 4, 3) := by decide +kernel
theorem d_String_coder_13 : decode m_String_coder.2.1 13 = .ok (.iconst 1, 1) := by decide +kernel
theorem d_String_coder_14 : decode m_String_coder.2.1 14 = .ok (.ireturn, 1) := by decide +kernel
theorem d_String_isLatin1_0 : decode m_String_isLatin1.2.1 0 = .ok (.getstatic 38, 3) := by decide +kernel
theorem d_String_isLatin1_3 : decode m_String_isLatin1.2.1 3 = .ok (.ifCond .eq 14, 3) := by decide +kernel
theorem d_String_isLatin1_6 : decode m_String_isLatin1.2.1 6 = .ok (.aload_n 0, 1) := by decide +kernel
theorem d_String_isLatin1_7 : decode m_String_isLatin1.2.1 7 = .ok (.getfield 15, 3) := by decide +kernel
theorem d_String_isLatin1_10 : decode m_String_isLatin1.2.1 10 = .ok (.ifCond .ne 7, 3) := by decide +kernel
theorem d_String_isLatin1_13 : decode m_String_isLatin1.2.1 13 = .ok (.iconst 1, 1) := by decide +kernel
theorem d_String_isLatin1_14 : decode m_String_isLatin1.2.1 14 = .ok (.goto 4, 3) := by decide +kernel
theorem d_String_isLatin1_17 : decode m_String_isLatin1.2.1 17 = .ok (.iconst 0, 1) := by decide +kernel
theorem d_String_isLatin1_18 : decode m_String_isLatin1.2.1 18 = .ok (.ireturn, 1) := by decide +kernel
theorem d_String_checkIndex_0 : decode m_String_checkIndex.2.1 0 = .ok (.iload_n 0, 1) := by decide +kernel
theorem d_String_checkIndex_1 : decode m_String_checkIndex.2.1 1 = .ok (.iload_n 1, 1) := by decide +kernel
theorem d_String_checkIndex_2 : decode m_String_checkIndex.2.1 2 = .ok (.getstatic 1053, 3) := by decide +kernel
theorem d_String_checkIndex_5 : decode m_String_checkIndex.2.1 5 = .ok (.invokestatic 1059, 3) := by decide +kernel
theorem d_String_checkIndex_8 : decode m_String_checkIndex.2.1 8 = .ok (.pop, 1) := by decide +kernel
theorem d_String_checkIndex_9 : decode m_String_checkIndex.2.1 9 = .ok (.return_, 1) := by decide +kernel
theorem d_StringLatin1_charAt_0 : decode m_StringLatin1_charAt.2.1 0 = .ok (.iload_n 1, 1) := by decide +kernel
theorem d_StringLatin1_charAt_1 : decode m_StringLatin1_charAt.2.1 1 = .ok (.aload_n 0, 1) := by decide +kernel
theorem d_StringLatin1_charAt_2 : decode m_StringLatin1_charAt.2.1 2 = .ok (.arraylength, 1) := by decide +kernel
theorem d_StringLatin1_charAt_3 : decode m_StringLatin1_charAt.2.1 3 = .ok (.invokestatic 9, 3) := by decide +kernel
theorem d_StringLatin1_charAt_6 : decode m_StringLatin1_charAt.2.1 6 = .ok (.aload_n 0, 1) := by decide +kernel
theorem d_StringLatin1_charAt_7 : decode m_StringLatin1_charAt.2.1 7 = .ok (.iload_n 1, 1) := by decide +kernel
theorem d_StringLatin1_charAt_8 : decode m_StringLatin1_charAt.2.1 8 = .ok (.baload, 1) := by decide +kernel
theorem d_StringLatin1_charAt_9 : decode m_StringLatin1_charAt.2.1 9 = .ok (.sipush 255, 3) := by decide +kernel
theorem d_StringLatin1_charAt_12 : decode m_StringLatin1_charAt.2.1 12 = .ok (.iand, 1) := by decide +kernel
theorem d_StringLatin1_charAt_13 : decode m_StringLatin1_charAt.2.1 13 = .ok (.i2c, 1) := by decide +kernel
theorem d_StringLatin1_charAt_14 : decode m_StringLatin1_charAt.2.1 14 = .ok (.ireturn, 1) := by decide +kernel
theorem d_StringUTF16_getChar_0 : decode m_StringUTF16_getChar.2.1 0 = .ok (.getstatic 44, 3) := by decide +kernel
theorem d_StringUTF16_getChar_3 : decode m_StringUTF16_getChar.2.1 3 = .ok (.ifCond .ne 25, 3) := by decide +kernel
theorem d_StringUTF16_getChar_6 : decode m_StringUTF16_getChar.2.1 6 = .ok (.iload_n 1, 1) := by decide +kernel
theorem d_StringUTF16_getChar_7 : decode m_StringUTF16_getChar.2.1 7 = .ok (.ifCond .lt 11, 3) := by decide +kernel
theorem d_StringUTF16_getChar_10 : decode m_StringUTF16_getChar.2.1 10 = .ok (.iload_n 1, 1) := by decide +kernel
theorem d_StringUTF16_getChar_11 : decode m_StringUTF16_getChar.2.1 11 = .ok (.aload_n 0, 1) := by decide +kernel
theorem d_StringUTF16_getChar_12 : decode m_StringUTF16_getChar.2.1 12 = .ok (.invokestatic 48, 3) := by decide +kernel
theorem d_StringUTF16_getChar_15 : decode m_StringUTF16_getChar.2.1 15 = .ok (.if_icmp .lt 13, 3) := by decide +kernel
theorem d_StringUTF16_getChar_18 : decode m_StringUTF16_getChar.2.1 18 = .ok (.new 52, 3) := by decide +kernel
theorem d_StringUTF16_getChar_21 : decode m_StringUTF16_getChar.2.1 21 = .ok (.dup, 1) := by decide +kernel
theorem d_StringUTF16_getChar_22 : decode m_StringUTF16_getChar.2.1 22 = .ok (.ldc 54, 2) := by decide +kernel
theorem d_StringUTF16_getChar_24 : decode m_StringUTF16_getChar.2.1 24 = .ok (.invokespecial 56, 3) := by decide +kernel
theorem d_StringUTF16_getChar_27 : decode m_StringUTF16_getChar.2.1 27 = .ok (.athrow, 1) := by decide +kernel
theorem d_StringUTF16_getChar_28 : decode m_StringUTF16_getChar.2.1 28 = .ok (.iload_n 1, 1) := by decide +kernel
theorem d_StringUTF16_getChar_29 : decode m_StringUTF16_getChar.2.1 29 = .ok (.iconst 1, 1) := by decide +kernel
theorem d_StringUTF16_getChar_30 : decode m_StringUTF16_getChar.2.1 30 = .ok (.ishl, 1) := by decide +kernel
theorem d_StringUTF16_getChar_31 : decode m_StringUTF16_getChar.2.1 31 = .ok (.istore_n 1, 1) := by decide +kernel
theorem d_StringUTF16_getChar_32 : decode m_StringUTF16_getChar.2.1 32 = .ok (.aload_n 0, 1) := by decide +kernel
theorem d_StringUTF16_getChar_33 : decode m_StringUTF16_getChar.2.1 33 = .ok (.iload_n 1, 1) := by decide +kernel
theorem d_StringUTF16_getChar_34 : decode m_StringUTF16_getChar.2.1 34 = .ok (.iinc 1 1, 3) := by decide +kernel
theorem d_StringUTF16_getChar_37 : decode m_StringUTF16_getChar.2.1 37 = .ok (.baload, 1) := by decide +kernel
theorem d_StringUTF16_getChar_38 : decode m_StringUTF16_getChar.2.1 38 = .ok (.sipush 255, 3) := by decide +kernel
theorem d_StringUTF16_getChar_41 : decode m_StringUTF16_getChar.2.1 41 = .ok (.iand, 1) := by decide +kernel
theorem d_StringUTF16_getChar_42 : decode m_StringUTF16_getChar.2.1 42 = .ok (.getstatic 59, 3) := by decide +kernel
theorem d_StringUTF16_getChar_45 : decode m_StringUTF16_getChar.2.1 45 = .ok (.ishl, 1) := by decide +kernel
theorem d_StringUTF16_getChar_46 : decode m_StringUTF16_getChar.2.1 46 = .ok (.aload_n 0, 1) := by decide +kernel
theorem d_StringUTF16_getChar_47 : decode m_StringUTF16_getChar.2.1 47 = .ok (.iload_n 1, 1) := by decide +kernel
theorem d_StringUTF16_getChar_48 : decode m_StringUTF16_getChar.2.1 48 = .ok (.baload, 1) := by decide +kernel
theorem d_StringUTF16_getChar_49 : decode m_StringUTF16_getChar.2.1 49 = .ok (.sipush 255, 3) := by decide +kernel
theorem d_StringUTF16_getChar_52 : decode m_StringUTF16_getChar.2.1 52 = .ok (.iand, 1) := by decide +kernel
theorem d_StringUTF16_getChar_53 : decode m_StringUTF16_getChar.2.1 53 = .ok (.getstatic 63, 3) := by decide +kernel
theorem d_StringUTF16_getChar_56 : decode m_StringUTF16_getChar.2.1 56 = .ok (.ishl, 1) := by decide +kernel
theorem d_StringUTF16_getChar_57 : decode m_StringUTF16_getChar.2.1 57 = .ok (.ior, 1) := by decide +kernel
theorem d_StringUTF16_getChar_58 : decode m_StringUTF16_getChar.2.1 58 = .ok (.i2c, 1) := by decide +kernel
theorem d_StringUTF16_getChar_59 : decode m_StringUTF16_getChar.2.1 59 = .ok (.ireturn, 1) := by decide +kernel
theorem d_StringUTF16_length_0 : decode m_StringUTF16_length.2.1 0 = .ok (.aload_n 0, 1) := by decide +kernel
theorem d_StringUTF16_length_1 : decode m_StringUTF16_length.2.1 1 = .ok (.arraylength, 1) := by decide +kernel
theorem d_StringUTF16_length_2 : decode m_StringUTF16_length.2.1 2 = .ok (.iconst 1, 1) := by decide +kernel
theorem d_StringUTF16_length_3 : decode m_StringUTF16_length.2.1 3 = .ok (.ishr, 1) := by decide +kernel
theorem d_StringUTF16_length_4 : decode m_StringUTF16_length.2.1 4 = .ok (.ireturn, 1) := by decide +kernel
theorem d_StringUTF16_charAt_0 : decode m_StringUTF16_charAt.2.1 0 = .ok (.iload_n 1, 1) := by decide +kernel
theorem d_StringUTF16_charAt_1 : decode m_StringUTF16_charAt.2.1 1 = .ok (.aload_n 0, 1) := by decide +kernel
theorem d_StringUTF16_charAt_2 : decode m_StringUTF16_charAt.2.1 2 = .ok (.invokestatic 67, 3) := by decide +kernel
theorem d_StringUTF16_charAt_5 : decode m_StringUTF16_charAt.2.1 5 = .ok (.aload_n 0, 1) := by decide +kernel
theorem d_StringUTF16_charAt_6 : decode m_StringUTF16_charAt.2.1 6 = .ok (.iload_n 1, 1) := by decide +kernel
theorem d_StringUTF16_charAt_7 : decode m_StringUTF16_charAt.2.1 7 = .ok (.invokestatic 71, 3) := by decide +kernel
theorem d_StringUTF16_charAt_10 : decode m_StringUTF16_charAt.2.1 10 = .ok (.ireturn, 1) := by decide +kernel
theorem d_StringUTF16_checkIndex_0 : decode m_StringUTF16_checkIndex.2.1 0 = .ok (.iload_n 0, 1) := by decide +kernel
theorem d_StringUTF16_checkIndex_1 : decode m_StringUTF16_checkIndex.2.1 1 = .ok (.aload_n 1, 1) := by decide +kernel
theorem d_StringUTF16_checkIndex_2 : decode m_StringUTF16_checkIndex.2.1 2 = .ok (.invokestatic 48, 3) := by decide +kernel
theorem d_StringUTF16_checkIndex_5 : decode m_StringUTF16_checkIndex.2.1 5 = .ok (.invokestatic 414, 3) := by decide +kernel
theorem d_StringUTF16_checkIndex_8 : decode m_StringUTF16_checkIndex.2.1 8 = .ok (.return_, 1) := by decide +kernel
theorem d_AbstractCollection_init_0 : decode m_AbstractCollection_init.2.1 0 = .ok (.aload_n 0, 1) := by decide +kernel
theorem d_AbstractCollection_init_1 : decode m_AbstractCollection_init.2.1 1 = .ok (.invokespecial 1, 3) := by decide +kernel
theorem d_AbstractCollection_init_4 : decode m_AbstractCollection_init.2.1 4 = .ok (.return_, 1) := by decide +kernel
theorem d_AbstractList_init_0 : decode m_AbstractList_init.2.1 0 = .ok (.aload_n 0, 1) := by decide +kernel
theorem d_AbstractList_init_1 : decode m_AbstractList_init.2.1 1 = .ok (.invokespecial 1, 3) := by decide +kernel
theorem d_AbstractList_init_4 : decode m_AbstractList_init.2.1 4 = .ok (.aload_n 0, 1) := by decide +kernel
theorem d_AbstractList_init_5 : decode m_AbstractList_init.2.1 5 = .ok (.iconst 0, 1) := by decide +kernel
theorem d_AbstractList_init_6 : decode m_AbstractList_init.2.1 6 = .ok (.putfield 7, 3) := by decide +kernel
theorem d_AbstractList_init_9 : decode m_AbstractList_init.2.1 9 = .ok (.return_, 1) := by decide +kernel
theorem d_ArrayList_init_0 : decode m_ArrayList_init.2.1 0 = .ok (.aload_n 0, 1) := by decide +kernel
theorem d_ArrayList_init_1 : decode m_ArrayList_init.2.1 1 = .ok (.invokespecial 1, 3) := by decide +kernel
theorem d_ArrayList_init_4 : decode m_ArrayList_init.2.1 4 = .ok (.aload_n 0, 1) := by decide +kernel
theorem d_ArrayList_init_5 : decode m_ArrayList_init.2.1 5 = .ok (.getstatic 39, 3) := by decide +kernel
theorem d_ArrayList_init_8 : decode m_ArrayList_init.2.1 8 = .ok (.putfield 9, 3) := by decide +kernel
theorem d_ArrayList_init_11 : decode m_ArrayList_init.2.1 11 = .ok (.return_, 1) := by decide +kernel
theorem d_ArrayList_grow1_0 : decode m_ArrayList_grow1.2.1 0 = .ok (.aload_n 0, 1) := by decide +kernel
theorem d_ArrayList_grow1_1 : decode m_ArrayList_grow1.2.1 1 = .ok (.getfield 9, 3) := by decide +kernel
theorem d_ArrayList_grow1_4 : decode m_ArrayList_grow1.2.1 4 = .ok (.arraylength, 1) := by decide +kernel
theorem d_ArrayList_grow1_5 : decode m_ArrayList_grow1.2.1 5 = .ok (.istore_n 2, 1) := by decide +kernel
theorem d_ArrayList_grow1_6 : decode m_ArrayList_grow1.2.1 6 = .ok (.iload_n 2, 1) := by decide +kernel
theorem d_ArrayList_grow1_7 : decode m_ArrayList_grow1.2.1 7 = .ok (.ifCond .gt 13, 3) := by decide +kernel
theorem d_ArrayList_grow1_10 : decode m_ArrayList_grow1.2.1 10 = .ok (.aload_n 0, 1) := by decide +kernel
theorem d_ArrayList_grow1_11 : decode m_ArrayList_grow1.2.1 11 = .ok (.getfield 9, 3) := by decide +kernel
theorem d_ArrayList_grow1_14 : decode m_ArrayList_grow1.2.1 14 = .ok (.getstatic 39, 3) := by decide +kernel
theorem d_ArrayList_grow1_17 : decode m_ArrayList_grow1.2.1 17 = .ok (.if_acmp .eq 28, 3) := by decide +kernel
theorem d_ArrayList_grow1_20 : decode m_ArrayList_grow1.2.1 20 = .ok (.iload_n 2, 1) := by decide +kernel
theorem d_ArrayList_grow1_21 : decode m_ArrayList_grow1.2.1 21 = .ok (.iload_n 1, 1) := by decide +kernel
theorem d_ArrayList_grow1_22 : decode m_ArrayList_grow1.2.1 22 = .ok (.iload_n 2, 1) := by decide +kernel
theorem d_ArrayList_grow1_23 : decode m_ArrayList_grow1.2.1 23 = .ok (.isub, 1) := by decide +kernel
theorem d_ArrayList_grow1_24 : decode m_ArrayList_grow1.2.1 24 = .ok (.iload_n 2, 1) := by decide +kernel
theorem d_ArrayList_grow1_25 : decode m_ArrayList_grow1.2.1 25 = .ok (.iconst 1, 1) := by decide +kernel
theorem d_ArrayList_grow1_26 : decode m_ArrayList_grow1.2.1 26 = .ok (.ishr, 1) := by decide +kernel
theorem d_ArrayList_grow1_27 : decode m_ArrayList_grow1.2.1 27 = .ok (.invokestatic 73, 3) := by decide +kernel
theorem d_ArrayList_grow1_30 : decode m_ArrayList_grow1.2.1 30 = .ok (.istore_n 3, 1) := by decide +kernel
theorem d_ArrayList_grow1_31 : decode m_ArrayList_grow1.2.1 31 = .ok (.aload_n 0, 1) := by decide +kernel
theorem d_ArrayList_grow1_32 : decode m_ArrayList_grow1.2.1 32 = .ok (.aload_n 0, 1) := by decide +kernel
theorem d_ArrayList_grow1_33 : decode m_ArrayList_grow1.2.1 33 = .ok (.getfield 9, 3) := by decide +kernel
theorem d_ArrayList_grow1_36 : decode m_ArrayList_grow1.2.1 36 = .ok (.iload_n 3, 1) := by decide +kernel
theorem d_ArrayList_grow1_37 : decode m_ArrayList_grow1.2.1 37 = .ok (.invokestatic 66, 3) := by decide +kernel
theorem d_ArrayList_grow1_40 : decode m_ArrayList_grow1.2.1 40 = .ok (.dup_x1, 1) := by decide +kernel
theorem d_ArrayList_grow1_41 : decode m_ArrayList_grow1.2.1 41 = .ok (.putfield 9, 3) := by decide +kernel
theorem d_ArrayList_grow1_44 : decode m_ArrayList_grow1.2.1 44 = .ok (.areturn, 1) := by decide +kernel
theorem d_ArrayList_grow1_45 : decode m_ArrayList_grow1.2.1 45 = .ok (.aload_n 0, 1) := by decide +kernel
theorem d_ArrayList_grow1_46 : decode m_ArrayList_grow1.2.1 46 = .ok (.bipush 10, 2) := by decide +kernel
theorem d_ArrayList_grow1_48 : decode m_ArrayList_grow1.2.1 48 = .ok (.iload_n 1, 1) := by decide +kernel
theorem d_ArrayList_grow1_49 : decode m_ArrayList_grow1.2.1 49 = .ok (.invokestatic 79, 3) := by decide +kernel
theorem d_ArrayList_grow1_52 : decode m_ArrayList_grow1.2.1 52 = .ok (.anewarray 7, 3) := by decide +kernel
theorem d_ArrayList_grow1_55 : decode m_ArrayList_grow1.2.1 55 = .ok (.dup_x1, 1) := by decide +kernel
theorem d_ArrayList_grow1_56 : decode m_ArrayList_grow1.2.1 56 = .ok (.putfield 9, 3) := by decide +kernel
theorem d_ArrayList_grow1_59 : decode m_ArrayList_grow1.2.1 59 = .ok (.areturn, 1) := by decide +kernel
theorem d_ArrayList_grow_0 : decode m_ArrayList_grow.2.1 0 = .ok (.aload_n 0, 1) := by decide +kernel
theorem d_ArrayList_grow_1 : decode m_ArrayList_grow.2.1 1 = .ok (.aload_n 0, 1) := by decide +kernel
theorem d_ArrayList_grow_2 : decode m_ArrayList_grow.2.1 2 = .ok (.getfield 48, 3) := by decide +kernel
theorem d_ArrayList_grow_5 : decode m_ArrayList_grow.2.1 5 = .ok (.iconst 1, 1) := by decide +kernel
theorem d_ArrayList_grow_6 : decode m_ArrayList_grow.2.1 6 = .ok (.iadd, 1) := by decide +kernel
theorem d_ArrayList_grow_7 : decode m_ArrayList_grow.2.1 7 = .ok (.invokevirtual 69, 3) := by decide +kernel
theorem d_ArrayList_grow_10 : decode m_ArrayList_grow.2.1 10 = .ok (.areturn, 1) := by decide +kernel
theorem d_ArrayList_size_0 : decode m_ArrayList_size.2.1 0 = .ok (.aload_n 0, 1) := by decide +kernel
theorem d_ArrayList_size_1 : decode m_ArrayList_size.2.1 1 = .ok (.getfield 48, 3) := by decide +kernel
theorem d_ArrayList_size_4 : decode m_ArrayList_size.2.1 4 = .ok (.ireturn, 1) := by decide +kernel
theorem d_ArrayList_isEmpty_0 : decode m_ArrayList_isEmpty.2.1 0 = .ok (.aload_n 0, 1) := by decide +kernel
theorem d_ArrayList_isEmpty_1 : decode m_ArrayList_isEmpty.2.1 1 = .ok (.getfield 48, 3) := by decide +kernel
theorem d_ArrayList_isEmpty_4 : decode m_ArrayList_isEmpty.2.1 4 = .ok (.ifCond .ne 7, 3) := by decide +kernel
theorem d_ArrayList_isEmpty_7 : decode m_ArrayList_isEmpty.2.1 7 = .ok (.iconst 1, 1) := by decide +kernel
theorem d_ArrayList_isEmpty_8 : decode m_ArrayList_isEmpty.2.1 8 = .ok (.goto 4, 3) := by decide +kernel
theorem d_ArrayList_isEmpty_11 : decode m_ArrayList_isEmpty.2.1 11 = .ok (.iconst 0, 1) := by decide +kernel
theorem d_ArrayList_isEmpty_12 : decode m_ArrayList_isEmpty.2.1 12 = .ok (.ireturn, 1) := by decide +kernel
theorem d_ArrayList_elementData_0 : decode m_ArrayList_elementData.2.1 0 = .ok (.aload_n 0, 1) := by decide +kernel
theorem d_ArrayList_elementData_1 : decode m_ArrayList_elementData.2.1 1 = .ok (.getfield 9, 3) := by decide +kernel
theorem d_ArrayList_elementData_4 : decode m_ArrayList_elementData.2.1 4 = .ok (.iload_n 1, 1) := by decide +kernel
theorem d_ArrayList_elementData_5 : decode m_ArrayList_elementData.2.1 5 = .ok (.aaload, 1) := by decide +kernel
theorem d_ArrayList_elementData_6 : decode m_ArrayList_elementData.2.1 6 = .ok (.areturn, 1) := by decide +kernel
theorem d_ArrayList_get_0 : decode m_ArrayList_get.2.1 0 = .ok (.iload_n 1, 1) := by decide +kernel
theorem d_ArrayList_get_1 : decode m_ArrayList_get.2.1 1 = .ok (.aload_n 0, 1) := by decide +kernel
theorem d_ArrayList_get_2 : decode m_ArrayList_get.2.1 2 = .ok (.getfield 48, 3) := by decide +kernel
theorem d_ArrayList_get_5 : decode m_ArrayList_get.2.1 5 = .ok (.invokestatic 118, 3) := by decide +kernel
theorem d_ArrayList_get_8 : decode m_ArrayList_get.2.1 8 = .ok (.pop, 1) := by decide +kernel
theorem d_ArrayList_get_9 : decode m_ArrayList_get.2.1 9 = .ok (.aload_n 0, 1) := by decide +kernel
theorem d_ArrayList_get_10 : decode m_ArrayList_get.2.1 10 = .ok (.iload_n 1, 1) := by decide +kernel
theorem d_ArrayList_get_11 : decode m_ArrayList_get.2.1 11 = .ok (.invokevirtual 123, 3) := by decide +kernel
theorem d_ArrayList_get_14 : decode m_ArrayList_get.2.1 14 = .ok (.areturn, 1) := by decide +kernel
theorem d_ArrayList_add2_0 : decode m_ArrayList_add2.2.1 0 = .ok (.iload_n 3, 1) := by decide +kernel
theorem d_ArrayList_add2_1 : decode m_ArrayList_add2.2.1 1 = .ok (.aload_n 2, 1) := by decide +kernel
theorem d_ArrayList_add2_2 : decode m_ArrayList_add2.2.1 2 = .ok (.arraylength, 1) := by decide +kernel
theorem d_ArrayList_add2_3 : decode m_ArrayList_add2.2.1 3 = .ok (.if_icmp .ne 8, 3) := by decide +kernel
theorem d_ArrayList_add2_6 : decode m_ArrayList_add2.2.1 6 = .ok (.aload_n 0, 1) := by decide +kernel
theorem d_ArrayList_add2_7 : decode m_ArrayList_add2.2.1 7 = .ok (.invokevirtual 129, 3) := by decide +kernel
theorem d_ArrayList_add2_10 : decode m_ArrayList_add2.2.1 10 = .ok (.astore_n 2, 1) := by decide +kernel
theorem d_ArrayList_add2_11 : decode m_ArrayList_add2.2.1 11 = .ok (.aload_n 2, 1) := by decide +kernel
theorem d_ArrayList_add2_12 : decode m_ArrayList_add2.2.1 12 = .ok (.iload_n 3, 1) := by decide +kernel
theorem d_ArrayList_add2_13 : decode m_ArrayList_add2.2.1 13 = .ok (.aload_n 1, 1) := by decide +kernel
theorem d_ArrayList_add2_14 : decode m_ArrayList_add2.2.1 14 = .ok (.aastore, 1) := by decide +kernel
theorem d_ArrayList_add2_15 : decode m_ArrayList_add2.2.1 15 = .ok (.aload_n 0, 1) := by decide +kernel
theorem d_ArrayList_add2_16 : decode m_ArrayList_add2.2.1 16 = .ok (.iload_n 3, 1) := by decide +kernel
theorem d_ArrayList_add2_17 : decode m_ArrayList_add2.2.1 17 = .ok (.iconst 1, 1) := by decide +kernel
theorem d_ArrayList_add2_18 : decode m_ArrayList_add2.2.1 18 = .ok (.iadd, 1) := by decide +kernel
theorem d_ArrayList_add2_19 : decode m_ArrayList_add2.2.1 19 = .ok (.putfield 48, 3) := by decide +kernel
theorem d_ArrayList_add2_22 : decode m_ArrayList_add2.2.1 22 = .ok (.return_, 1) := by decide +kernel
theorem d_ArrayList_add_0 : decode m_ArrayList_add.2.1 0 = .ok (.aload_n 0, 1) := by decide +kernel
theorem d_ArrayList_add_1 : decode m_ArrayList_add.2.1 1 = .ok (.dup, 1) := by decide +kernel
theorem d_ArrayList_add_2 : decode m_ArrayList_add.2.1 2 = .ok (.getfield 63, 3) := by decide +kernel
theorem d_ArrayList_add_5 : decode m_ArrayList_add.2.1 5 = .ok (.iconst 1, 1) := by decide +kernel
theorem d_ArrayList_add_6 : decode m_ArrayList_add.2.1 6 = .ok (.iadd, 1) := by decide +kernel
theorem d_ArrayList_add_7 : decode m_ArrayList_add.2.1 7 = .ok (.putfield 63, 3) := by decide +kernel
theorem d_ArrayList_add_10 : decode m_ArrayList_add.2.1 10 = .ok (.aload_n 0, 1) := by decide +kernel
theorem d_ArrayList_add_11 : decode m_ArrayList_add.2.1 11 = .ok (.aload_n 1, 1) := by decide +kernel
theorem d_ArrayList_add_12 : decode m_ArrayList_add.2.1 12 = .ok (.aload_n 0, 1) := by decide +kernel
theorem d_ArrayList_add_13 : decode m_ArrayList_add.2.1 13 = .ok (.getfield 9, 3) := by decide +kernel
theorem d_ArrayList_add_16 : decode m_ArrayList_add.2.1 16 = .ok (.aload_n 0, 1) := by decide +kernel
theorem d_ArrayList_add_17 : decode m_ArrayList_add.2.1 17 = .ok (.getfield 48, 3) := by decide +kernel
theorem d_ArrayList_add_20 : decode m_ArrayList_add.2.1 20 = .ok (.invokevirtual 131, 3) := by decide +kernel
theorem d_ArrayList_add_23 : decode m_ArrayList_add.2.1 23 = .ok (.iconst 1, 1) := by decide +kernel
theorem d_ArrayList_add_24 : decode m_ArrayList_add.2.1 24 = .ok (.ireturn, 1) := by decide +kernel
theorem d_ArrayList_add1_0 : decode m_ArrayList_add1.2.1 0 = .ok (.aload_n 0, 1) := by decide +kernel
theorem d_ArrayList_add1_1 : decode m_ArrayList_add1.2.1 1 = .ok (.iload_n 1, 1) := by decide +kernel
theorem d_ArrayList_add1_2 : decode m_ArrayList_add1.2.1 2 = .ok (.invokevirtual 135, 3) := by decide +kernel
theorem d_ArrayList_add1_5 : decode m_ArrayList_add1.2.1 5 = .ok (.aload_n 0, 1) := by decide +kernel
theorem d_ArrayList_add1_6 : decode m_ArrayList_add1.2.1 6 = .ok (.dup, 1) := by decide +kernel
theorem d_ArrayList_add1_7 : decode m_ArrayList_add1.2.1 7 = .ok (.getfield 63, 3) := by decide +kernel
theorem d_ArrayList_add1_10 : decode m_ArrayList_add1.2.1 10 = .ok (.iconst 1, 1) := by decide +kernel
theorem d_ArrayList_add1_11 : decode m_ArrayList_add1.2.1 11 = .ok (.iadd, 1) := by decide +kernel
theorem d_ArrayList_add1_12 : decode m_ArrayList_add1.2.1 12 = .ok (.putfield 63, 3) := by decide +kernel
theorem d_ArrayList_add1_15 : decode m_ArrayList_add1.2.1 15 = .ok (.aload_n 0, 1) := by decide +kernel
theorem d_ArrayList_add1_16 : decode m_ArrayList_add1.2.1 16 = .ok (.getfield 48, 3) := by decide +kernel
theorem d_ArrayList_add1_19 : decode m_ArrayList_add1.2.1 19 = .ok (.dup, 1) := by decide +kernel
theorem d_ArrayList_add1_20 : decode m_ArrayList_add1.2.1 20 = .ok (.istore_n 3, 1) := by decide +kernel
theorem d_ArrayList_add1_21 : decode m_ArrayList_add1.2.1 21 = .ok (.aload_n 0, 1) := by decide +kernel
theorem d_ArrayList_add1_22 : decode m_ArrayList_add1.2.1 22 = .ok (.getfield 9, 3) := by decide +kernel
theorem d_ArrayList_add1_25 : decode m_ArrayList_add1.2.1 25 = .ok (.dup, 1) := by decide +kernel
theorem d_ArrayList_add1_26 : decode m_ArrayList_add1.2.1 26 = .ok (.astore 4, 2) := by decide +kernel
theorem d_ArrayList_add1_28 : decode m_ArrayList_add1.2.1 28 = .ok (.arraylength, 1) := by decide +kernel
theorem d_ArrayList_add1_29 : decode m_ArrayList_add1.2.1 29 = .ok (.if_icmp .ne 9, 3) := by decide +kernel
theorem d_ArrayList_add1_32 : decode m_ArrayList_add1.2.1 32 = .ok (.aload_n 0, 1) := by decide +kernel
theorem d_ArrayList_add1_33 : decode m_ArrayList_add1.2.1 33 = .ok (.invokevirtual 129, 3) := by decide +kernel
theorem d_ArrayList_add1_36 : decode m_ArrayList_add1.2.1 36 = .ok (.astore 4, 2) := by decide +kernel
theorem d_ArrayList_add1_38 : decode m_ArrayList_add1.2.1 38 = .ok (.aload 4, 2) := by decide +kernel
theorem d_ArrayList_add1_40 : decode m_ArrayList_add1.2.1 40 = .ok (.iload_n 1, 1) := by decide +kernel
theorem d_ArrayList_add1_41 : decode m_ArrayList_add1.2.1 41 = .ok (.aload 4, 2) := by decide +kernel
theorem d_ArrayList_add1_43 : decode m_ArrayList_add1.2.1 43 = .ok (.iload_n 1, 1) := by decide +kernel
theorem d_ArrayList_add1_44 : decode m_ArrayList_add1.2.1 44 = .ok (.iconst 1, 1) := by decide +kernel
theorem d_ArrayList_add1_45 : decode m_ArrayList_add1.2.1 45 = .ok (.iadd, 1) := by decide +kernel
theorem d_ArrayList_add1_46 : decode m_ArrayList_add1.2.1 46 = .ok (.iload_n 3, 1) := by decide +kernel
theorem d_ArrayList_add1_47 : decode m_ArrayList_add1.2.1 47 = .ok (.iload_n 1, 1) := by decide +kernel
theorem d_ArrayList_add1_48 : decode m_ArrayList_add1.2.1 48 = .ok (.isub, 1) := by decide +kernel
theorem d_ArrayList_add1_49 : decode m_ArrayList_add1.2.1 49 = .ok (.invokestatic 112, 3) := by decide +kernel
theorem d_ArrayList_add1_52 : decode m_ArrayList_add1.2.1 52 = .ok (.aload 4, 2) := by decide +kernel
theorem d_ArrayList_add1_54 : decode m_ArrayList_add1.2.1 54 = .ok (.iload_n 1, 1) := by decide +kernel
theorem d_ArrayList_add1_55 : decode m_ArrayList_add1.2.1 55 = .ok (.aload_n 2, 1) := by decide +kernel
theorem d_ArrayList_add1_56 : decode m_ArrayList_add1.2.1 56 = .ok (.aastore, 1) := by decide +kernel
theorem d_ArrayList_add1_57 : decode m_ArrayList_add1.2.1 57 = .ok (.aload_n 0, 1) := by decide +kernel
theorem d_ArrayList_add1_58 : decode m_ArrayList_add1.2.1 58 = .ok (.iload_n 3, 1) := by decide +kernel
theorem d_ArrayList_add1_59 : decode m_ArrayList_add1.2.1 59 = .ok (.iconst 1, 1) := by decide +kernel
theorem d_ArrayList_add1_60 : decode m_ArrayList_add1.2.1 60 = .ok (.iadd, 1) := by decide +kernel
theorem d_ArrayList_add1_61 : decode m_ArrayList_add1.2.1 61 = .ok (.putfield 48, 3) := by decide +kernel
theorem d_ArrayList_add1_64 : decode m_ArrayList_add1.2.1 64 = .ok (.return_, 1) := by decide +kernel
theorem d_ArrayList_clear_0 : decode m_ArrayList_clear.2.1 0 = .ok (.aload_n 0, 1) := by decide +kernel
theorem d_ArrayList_clear_1 : decode m_ArrayList_clear.2.1 1 = .ok (.dup, 1) := by decide +kernel
theorem d_ArrayList_clear_2 : decode m_ArrayList_clear.2.1 2 = .ok (.getfield 63, 3) := by decide +kernel
theorem d_ArrayList_clear_5 : decode m_ArrayList_clear.2.1 5 = .ok (.iconst 1, 1) := by decide +kernel
theorem d_ArrayList_clear_6 : decode m_ArrayList_clear.2.1 6 = .ok (.iadd, 1) := by decide +kernel
theorem d_ArrayList_clear_7 : decode m_ArrayList_clear.2.1 7 = .ok (.putfield 63, 3) := by decide +kernel
theorem d_ArrayList_clear_10 : decode m_ArrayList_clear.2.1 10 = .ok (.aload_n 0, 1) := by decide +kernel
theorem d_ArrayList_clear_11 : decode m_ArrayList_clear.2.1 11 = .ok (.getfield 9, 3) := by decide +kernel
theorem d_ArrayList_clear_14 : decode m_ArrayList_clear.2.1 14 = .ok (.astore_n 1, 1) := by decide +kernel
theorem d_ArrayList_clear_15 : decode m_ArrayList_clear.2.1 15 = .ok (.aload_n 0, 1) := by decide +kernel
theorem d_ArrayList_clear_16 : decode m_ArrayList_clear.2.1 16 = .ok (.getfield 48, 3) := by decide +kernel
theorem d_ArrayList_clear_19 : decode m_ArrayList_clear.2.1 19 = .ok (.istore_n 2, 1) := by decide +kernel
theorem d_ArrayList_clear_20 : decode m_ArrayList_clear.2.1 20 = .ok (.aload_n 0, 1) := by decide +kernel
theorem d_ArrayList_clear_21 : decode m_ArrayList_clear.2.1 21 = .ok (.iconst 0, 1) := by decide +kernel
theorem d_ArrayList_clear_22 : decode m_ArrayList_clear.2.1 22 = .ok (.dup_x1, 1) := by decide +kernel
theorem d_ArrayList_clear_23 : decode m_ArrayList_clear.2.1 23 = .ok (.putfield 48, 3) := by decide +kernel
theorem d_ArrayList_clear_26 : decode m_ArrayList_clear.2.1 26 = .ok (.istore_n 3, 1) := by decide +kernel
theorem d_ArrayList_clear_27 : decode m_ArrayList_clear.2.1 27 = .ok (.iload_n 3, 1) := by decide +kernel
theorem d_ArrayList_clear_28 : decode m_ArrayList_clear.2.1 28 = .ok (.iload_n 2, 1) := by decide +kernel
theorem d_ArrayList_clear_29 : decode m_ArrayList_clear.2.1 29 = .ok (.if_icmp .ge 13, 3) := by decide +kernel
theorem d_ArrayList_clear_32 : decode m_ArrayList_clear.2.1 32 = .ok (.aload_n 1, 1) := by decide +kernel
theorem d_ArrayList_clear_33 : decode m_ArrayList_clear.2.1 33 = .ok (.iload_n 3, 1) := by decide +kernel
theorem d_ArrayList_clear_34 : decode m_ArrayList_clear.2.1 34 = .ok (.aconst_null, 1) := by decide +kernel
theorem d_ArrayList_clear_35 : decode m_ArrayList_clear.2.1 35 = .ok (.aastore, 1) := by decide +kernel
theorem d_ArrayList_clear_36 : decode m_ArrayList_clear.2.1 36 = .ok (.iinc 3 1, 3) := by decide +kernel
theorem d_ArrayList_clear_39 : decode m_ArrayList_clear.2.1 39 = .ok (.goto (-12), 3) := by decide +kernel
theorem d_ArrayList_clear_42 : decode m_ArrayList_clear.2.1 42 = .ok (.return_, 1) := by decide +kernel
theorem d_ArrayList_rangeCheckForAdd_0 : decode m_ArrayList_rangeCheckForAdd.2.1 0 = .ok (.iload_n 1, 1) := by decide +kernel
theorem d_ArrayList_rangeCheckForAdd_1 : decode m_ArrayList_rangeCheckForAdd.2.1 1 = .ok (.aload_n 0, 1) := by decide +kernel
theorem d_ArrayList_rangeCheckForAdd_2 : decode m_ArrayList_rangeCheckForAdd.2.1 2 = .ok (.getfield 48, 3) := by decide +kernel
theorem d_ArrayList_rangeCheckForAdd_5 : decode m_ArrayList_rangeCheckForAdd.2.1 5 = .ok (.if_icmp .gt 7, 3) := by decide +kernel
theorem d_ArrayList_rangeCheckForAdd_8 : decode m_ArrayList_rangeCheckForAdd.2.1 8 = .ok (.iload_n 1, 1) := by decide +kernel
theorem d_ArrayList_rangeCheckForAdd_9 : decode m_ArrayList_rangeCheckForAdd.2.1 9 = .ok (.ifCond .ge 16, 3) := by decide +kernel
theorem d_ArrayList_rangeCheckForAdd_12 : decode m_ArrayList_rangeCheckForAdd.2.1 12 = .ok (.new 187, 3) := by decide +kernel
theorem d_ArrayList_rangeCheckForAdd_15 : decode m_ArrayList_rangeCheckForAdd.2.1 15 = .ok (.dup, 1) := by decide +kernel
theorem d_ArrayList_rangeCheckForAdd_16 : decode m_ArrayList_rangeCheckForAdd.2.1 16 = .ok (.aload_n 0, 1) := by decide +kernel
theorem d_ArrayList_rangeCheckForAdd_17 : decode m_ArrayList_rangeCheckForAdd.2.1 17 = .ok (.iload_n 1, 1) := by decide +kernel
theorem d_ArrayList_rangeCheckForAdd_18 : decode m_ArrayList_rangeCheckForAdd.2.1 18 = .ok (.invokevirtual 198, 3) := by decide +kernel
theorem d_ArrayList_rangeCheckForAdd_21 : decode m_ArrayList_rangeCheckForAdd.2.1 21 = .ok (.invokespecial 193, 3) := by decide +kernel
theorem d_ArrayList_rangeCheckForAdd_24 : decode m_ArrayList_rangeCheckForAdd.2.1 24 = .ok (.athrow, 1) := by decide +kernel
theorem d_ArrayList_rangeCheckForAdd_25 : decode m_ArrayList_rangeCheckForAdd.2.1 25 = .ok (.return_, 1) := by decide +kernel
theorem d_Arrays_fill_0 : decode m_Arrays_fill.2.1 0 = .ok (.iconst 0, 1) := by decide +kernel
theorem d_Arrays_fill_1 : decode m_Arrays_fill.2.1 1 = .ok (.istore_n 2, 1) := by decide +kernel
theorem d_Arrays_fill_2 : decode m_Arrays_fill.2.1 2 = .ok (.aload_n 0, 1) := by decide +kernel
theorem d_Arrays_fill_3 : decode m_Arrays_fill.2.1 3 = .ok (.arraylength, 1) := by decide +kernel
theorem d_Arrays_fill_4 : decode m_Arrays_fill.2.1 4 = .ok (.istore_n 3, 1) := by decide +kernel
theorem d_Arrays_fill_5 : decode m_Arrays_fill.2.1 5 = .ok (.iload_n 2, 1) := by decide +kernel
theorem d_Arrays_fill_6 : decode m_Arrays_fill.2.1 6 = .ok (.iload_n 3, 1) := by decide +kernel
theorem d_Arrays_fill_7 : decode m_Arrays_fill.2.1 7 = .ok (.if_icmp .ge 13, 3) := by decide +kernel
theorem d_Arrays_fill_10 : decode m_Arrays_fill.2.1 10 = .ok (.aload_n 0, 1) := by decide +kernel
theorem d_Arrays_fill_11 : decode m_Arrays_fill.2.1 11 = .ok (.iload_n 2, 1) := by decide +kernel
theorem d_Arrays_fill_12 : decode m_Arrays_fill.2.1 12 = .ok (.iload_n 1, 1) := by decide +kernel
theorem d_Arrays_fill_13 : decode m_Arrays_fill.2.1 13 = .ok (.bastore, 1) := by decide +kernel
theorem d_Arrays_fill_14 : decode m_Arrays_fill.2.1 14 = .ok (.iinc 2 1, 3) := by decide +kernel
theorem d_Arrays_fill_17 : decode m_Arrays_fill.2.1 17 = .ok (.goto (-12), 3) := by decide +kernel
theorem d_Arrays_fill_20 : decode m_Arrays_fill.2.1 20 = .ok (.return_, 1) := by decide +kernel
theorem d_Arrays_copyOf_0 : decode m_Arrays_copyOf.2.1 0 = .ok (.aload_n 0, 1) := by decide +kernel
theorem d_Arrays_copyOf_1 : decode m_Arrays_copyOf.2.1 1 = .ok (.iload_n 1, 1) := by decide +kernel
theorem d_Arrays_copyOf_2 : decode m_Arrays_copyOf.2.1 2 = .ok (.aload_n 0, 1) := by decide +kernel
theorem d_Arrays_copyOf_3 : decode m_Arrays_copyOf.2.1 3 = .ok (.invokevirtual 86, 3) := by decide +kernel
theorem d_Arrays_copyOf_6 : decode m_Arrays_copyOf.2.1 6 = .ok (.invokestatic 300, 3) := by decide +kernel
theorem d_Arrays_copyOf_9 : decode m_Arrays_copyOf.2.1 9 = .ok (.areturn, 1) := by decide +kernel
theorem d_Arrays_copyOf1_0 : decode m_Arrays_copyOf1.2.1 0 = .ok (.aload_n 2, 1) := by decide +kernel
theorem d_Arrays_copyOf1_1 : decode m_Arrays_copyOf1.2.1 1 = .ok (.ldc 110, 2) := by decide +kernel
theorem d_Arrays_copyOf1_3 : decode m_Arrays_copyOf1.2.1 3 = .ok (.if_acmp .ne 10, 3) := by decide +kernel
theorem d_Arrays_copyOf1_6 : decode m_Arrays_copyOf1.2.1 6 = .ok (.iload_n 1, 1) := by decide +kernel
theorem d_Arrays_copyOf1_7 : decode m_Arrays_copyOf1.2.1 7 = .ok (.anewarray 2, 3) := by decide +kernel
theorem d_Arrays_copyOf1_10 : decode m_Arrays_copyOf1.2.1 10 = .ok (.goto 14, 3) := by decide +kernel
theorem d_Arrays_copyOf1_13 : decode m_Arrays_copyOf1.2.1 13 = .ok (.aload_n 2, 1) := by decide +kernel
theorem d_Arrays_copyOf1_14 : decode m_Arrays_copyOf1.2.1 14 = .ok (.invokevirtual 90, 3) := by decide +kernel
theorem d_Arrays_copyOf1_17 : decode m_Arrays_copyOf1.2.1 17 = .ok (.iload_n 1, 1) := by decide +kernel
theorem d_Arrays_copyOf1_18 : decode m_Arrays_copyOf1.2.1 18 = .ok (.invokestatic 95, 3) := by decide +kernel
theorem d_Arrays_copyOf1_21 : decode m_Arrays_copyOf1.2.1 21 = .ok (.checkcast 110, 3) := by decide +kernel
theorem d_Arrays_copyOf1_24 : decode m_Arrays_copyOf1.2.1 24 = .ok (.astore_n 3, 1) := by decide +kernel
theorem d_Arrays_copyOf1_25 : decode m_Arrays_copyOf1.2.1 25 = .ok (.aload_n 0, 1) := by decide +kernel
theorem d_Arrays_copyOf1_26 : decode m_Arrays_copyOf1.2.1 26 = .ok (.iconst 0, 1) := by decide +kernel
theorem d_Arrays_copyOf1_27 : decode m_Arrays_copyOf1.2.1 27 = .ok (.aload_n 3, 1) := by decide +kernel
theorem d_Arrays_copyOf1_28 : decode m_Arrays_copyOf1.2.1 28 = .ok (.iconst 0, 1) := by decide +kernel
theorem d_Arrays_copyOf1_29 : decode m_Arrays_copyOf1.2.1 29 = .ok (.aload_n 0, 1) := by decide +kernel
theorem d_Arrays_copyOf1_30 : decode m_Arrays_copyOf1.2.1 30 = .ok (.arraylength, 1) := by decide +kernel
theorem d_Arrays_copyOf1_31 : decode m_Arrays_copyOf1.2.1 31 = .ok (.iload_n 1, 1) := by decide +kernel
theorem d_Arrays_copyOf1_32 : decode m_Arrays_copyOf1.2.1 32 = .ok (.invokestatic 304, 3) := by decide +kernel
theorem d_Arrays_copyOf1_35 : decode m_Arrays_copyOf1.2.1 35 = .ok (.invokestatic 150, 3) := by decide +kernel
theorem d_Arrays_copyOf1_38 : decode m_Arrays_copyOf1.2.1 38 = .ok (.aload_n 3, 1) := by decide +kernel
theorem d_Arrays_copyOf1_39 : decode m_Arrays_copyOf1.2.1 39 = .ok (.areturn, 1) := by decide +kernel
theorem d_Objects_checkIndex_0 : decode m_Objects_checkIndex.2.1 0 = .ok (.iload_n 0, 1) := by decide +kernel
theorem d_Objects_checkIndex_1 : decode m_Objects_checkIndex.2.1 1 = .ok (.iload_n 1, 1) := by decide +kernel
theorem d_Objects_checkIndex_2 : decode m_Objects_checkIndex.2.1 2 = .ok (.aconst_null, 1) := by decide +kernel
theorem d_Objects_checkIndex_3 : decode m_Objects_checkIndex.2.1 3 = .ok (.invokestatic 105, 3) := by decide +kernel
theorem d_Objects_checkIndex_6 : decode m_Objects_checkIndex.2.1 6 = .ok (.ireturn, 1) := by decide +kernel
theorem d_ArraysSupport_newLength_0 : decode m_ArraysSupport_newLength.2.1 0 = .ok (.iload_n 0, 1) := by decide +kernel
theorem d_ArraysSupport_newLength_1 : decode m_ArraysSupport_newLength.2.1 1 = .ok (.iload_n 1, 1) := by decide +kernel
theorem d_ArraysSupport_newLength_2 : decode m_ArraysSupport_newLength.2.1 2 = .ok (.iload_n 2, 1) := by decide +kernel
theorem d_ArraysSupport_newLength_3 : decode m_ArraysSupport_newLength.2.1 3 = .ok (.invokestatic 194, 3) := by decide +kernel
theorem d_ArraysSupport_newLength_6 : decode m_ArraysSupport_newLength.2.1 6 = .ok (.iadd, 1) := by decide +kernel
theorem d_ArraysSupport_newLength_7 : decode m_ArraysSupport_newLength.2.1 7 = .ok (.istore_n 3, 1) := by decide +kernel
theorem d_ArraysSupport_newLength_8 : decode m_ArraysSupport_newLength.2.1 8 = .ok (.iconst 0, 1) := by decide +kernel
theorem d_ArraysSupport_newLength_9 : decode m_ArraysSupport_newLength.2.1 9 = .ok (.iload_n 3, 1) := by decide +kernel
theorem d_ArraysSupport_newLength_10 : decode m_ArraysSupport_newLength.2.1 10 = .ok (.if_icmp .ge 11, 3) := by decide +kernel
theorem d_ArraysSupport_newLength_13 : decode m_ArraysSupport_newLength.2.1 13 = .ok (.iload_n 3, 1) := by decide +kernel
theorem d_ArraysSupport_newLength_14 : decode m_ArraysSupport_newLength.2.1 14 = .ok (.ldc 200, 2) := by decide +kernel
theorem d_ArraysSupport_newLength_16 : decode m_ArraysSupport_newLength.2.1 16 = .ok (.if_icmp .gt 5, 3) := by decide +kernel
theorem d_ArraysSupport_newLength_19 : decode m_ArraysSupport_newLength.2.1 19 = .ok (.iload_n 3, 1) := by decide +kernel
theorem d_ArraysSupport_newLength_20 : decode m_ArraysSupport_newLength.2.1 20 = .ok (.ireturn, 1) := by decide +kernel
theorem d_ArraysSupport_newLength_21 : decode m_ArraysSupport_newLength.2.1 21 = .ok (.iload_n 0, 1) := by decide +kernel
theorem d_ArraysSupport_newLength_22 : decode m_ArraysSupport_newLength.2.1 22 = .ok (.iload_n 1, 1) := by decide +kernel
theorem d_ArraysSupport_newLength_23 : decode m_ArraysSupport_newLength.2.1 23 = .ok (.invokestatic 201, 3) := by decide +kernel
theorem d_ArraysSupport_newLength_26 : decode m_ArraysSupport_newLength.2.1 26 = .ok (.ireturn, 1) := by decide +kernel
theorem d_ArraysSupport_hugeLength_0 : decode m_ArraysSupport_hugeLength.2.1 0 = .ok (.iload_n 0, 1) := by decide +kernel
theorem d_ArraysSupport_hugeLength_1 : decode m_ArraysSupport_hugeLength.2.1 1 = .ok (.iload_n 1, 1) := by decide +kernel
theorem d_ArraysSupport_hugeLength_2 : decode m_ArraysSupport_hugeLength.2.1 2 = .ok (.iadd, 1) := by decide +kernel
theorem d_ArraysSupport_hugeLength_3 : decode m_ArraysSupport_hugeLength.2.1 3 = .ok (.istore_n 2, 1) := by decide +kernel
theorem d_ArraysSupport_hugeLength_4 : decode m_ArraysSupport_hugeLength.2.1 4 = .ok (.iload_n 2, 1) := by decide +kernel
theorem d_ArraysSupport_hugeLength_5 : decode m_ArraysSupport_hugeLength.2.1 5 = .ok (.ifCond .ge 44, 3) := by decide +kernel
theorem d_ArraysSupport_hugeLength_8 : decode m_ArraysSupport_hugeLength.2.1 8 = .ok (.new 204, 3) := by decide +kernel
theorem d_ArraysSupport_hugeLength_11 : decode m_ArraysSupport_hugeLength.2.1 11 = .ok (.dup, 1) := by decide +kernel
theorem d_ArraysSupport_hugeLength_12 : decode m_ArraysSupport_hugeLength.2.1 12 = .ok (.new 89, 3) := by decide +kernel
theorem d_ArraysSupport_hugeLength_15 : decode m_ArraysSupport_hugeLength.2.1 15 = .ok (.dup, 1) := by decide +kernel
theorem d_ArraysSupport_hugeLength_16 : decode m_ArraysSupport_hugeLength.2.1 16 = .ok (.invokespecial 91, 3) := by decide +kernel
theorem d_ArraysSupport_hugeLength_19 : decode m_ArraysSupport_hugeLength.2.1 19 = .ok (.ldc 206, 2) := by decide +kernel
theorem d_ArraysSupport_hugeLength_21 : decode m_ArraysSupport_hugeLength.2.1 21 = .ok (.invokevirtual 94, 3) := by decide +kernel
theorem d_ArraysSupport_hugeLength_24 : decode m_ArraysSupport_hugeLength.2.1 24 = .ok (.iload_n 0, 1) := by decide +kernel
theorem d_ArraysSupport_hugeLength_25 : decode m_ArraysSupport_hugeLength.2.1 25 = .ok (.invokevirtual 98, 3) := by decide +kernel
theorem d_ArraysSupport_hugeLength_28 : decode m_ArraysSupport_hugeLength.2.1 28 = .ok (.ldc 208, 2) := by decide +kernel
theorem d_ArraysSupport_hugeLength_30 : decode m_ArraysSupport_hugeLength.2.1 30 = .ok (.invokevirtual 94, 3) := by decide +kernel
theorem d_ArraysSupport_hugeLength_33 : decode m_ArraysSupport_hugeLength.2.1 33 = .ok (.iload_n 1, 1) := by decide +kernel
theorem d_ArraysSupport_hugeLength_34 : decode m_ArraysSupport_hugeLength.2.1 34 = .ok (.invokevirtual 98, 3) := by decide +kernel
theorem d_ArraysSupport_hugeLength_37 : decode m_ArraysSupport_hugeLength.2.1 37 = .ok (.ldc 210, 2) := by decide +kernel
theorem d_ArraysSupport_hugeLength_39 : decode m_ArraysSupport_hugeLength.2.1 39 = .ok (.invokevirtual 94, 3) := by decide +kernel
theorem d_ArraysSupport_hugeLength_42 : decode m_ArraysSupport_hugeLength.2.1 42 = .ok (.invokevirtual 101, 3) := by decide +kernel
theorem d_ArraysSupport_hugeLength_45 : decode m_ArraysSupport_hugeLength.2.1 45 = .ok (.invokespecial 212, 3) := by decide +kernel
theorem d_ArraysSupport_hugeLength_48 : decode m_ArraysSupport_hugeLength.2.1 48 = .ok (.athrow, 1) := by decide +kernel
theorem d_ArraysSupport_hugeLength_49 : decode m_ArraysSupport_hugeLength.2.1 49 = .ok (.iload_n 2, 1) := by decide +kernel
theorem d_ArraysSupport_hugeLength_50 : decode m_ArraysSupport_hugeLength.2.1 50 = .ok (.ldc 200, 2) := by decide +kernel
theorem d_ArraysSupport_hugeLength_52 : decode m_ArraysSupport_hugeLength.2.1 52 = .ok (.if_icmp .gt 6, 3) := by decide +kernel
theorem d_ArraysSupport_hugeLength_55 : decode m_ArraysSupport_hugeLength.2.1 55 = .ok (.ldc 200, 2) := by decide +kernel
theorem d_ArraysSupport_hugeLength_57 : decode m_ArraysSupport_hugeLength.2.1 57 = .ok (.ireturn, 1) := by decide +kernel
theorem d_ArraysSupport_hugeLength_58 : decode m_ArraysSupport_hugeLength.2.1 58 = .ok (.iload_n 2, 1) := by decide +kernel
theorem d_ArraysSupport_hugeLength_59 : decode m_ArraysSupport_hugeLength.2.1 59 = .ok (.ireturn, 1) := by decide +kernel
theorem d_Preconditions_checkIndex_0 : decode m_Preconditions_checkIndex.2.1 0 = .ok (.iload_n 0, 1) := by decide +kernel
theorem d_Preconditions_checkIndex_1 : decode m_Preconditions_checkIndex.2.1 1 = .ok (.ifCond .lt 8, 3) := by decide +kernel
theorem d_Preconditions_checkIndex_4 : decode m_Preconditions_checkIndex.2.1 4 = .ok (.iload_n 0, 1) := by decide +kernel
theorem d_Preconditions_checkIndex_5 : decode m_Preconditions_checkIndex.2.1 5 = .ok (.iload_n 1, 1) := by decide +kernel
theorem d_Preconditions_checkIndex_6 : decode m_Preconditions_checkIndex.2.1 6 = .ok (.if_icmp .lt 10, 3) := by decide +kernel
theorem d_Preconditions_checkIndex_9 : decode m_Preconditions_checkIndex.2.1 9 = .ok (.aload_n 2, 1) := by decide +kernel
theorem d_Preconditions_checkIndex_10 : decode m_Preconditions_checkIndex.2.1 10 = .ok (.iload_n 0, 1) := by decide +kernel
theorem d_Preconditions_checkIndex_11 : decode m_Preconditions_checkIndex.2.1 11 = .ok (.iload_n 1, 1) := by decide +kernel
theorem d_Preconditions_checkIndex_12 : decode m_Preconditions_checkIndex.2.1 12 = .ok (.invokestatic 95, 3) := by decide +kernel
theorem d_Preconditions_checkIndex_15 : decode m_Preconditions_checkIndex.2.1 15 = .ok (.athrow, 1) := by decide +kernel
theorem d_Preconditions_checkIndex_16 : decode m_Preconditions_checkIndex.2.1 16 = .ok (.iload_n 0, 1) := by decide +kernel
theorem d_Preconditions_checkIndex_17 : decode m_Preconditions_checkIndex.2.1 17 = .ok (.ireturn, 1) := by decide +kernel
