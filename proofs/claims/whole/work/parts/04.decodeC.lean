theorem d_Crd_find_0 : decode prog_4_method_2_code 0 = .ok (.iconst 0, 1) := by decide +kernel
theorem d_Crd_find_1 : decode prog_4_method_2_code 1 = .ok (.istore_n 3, 1) := by decide +kernel
theorem d_Crd_find_2 : decode prog_4_method_2_code 2 = .ok (.iload_n 3, 1) := by decide +kernel
theorem d_Crd_find_3 : decode prog_4_method_2_code 3 = .ok (.aload_n 0, 1) := by decide +kernel
theorem d_Crd_find_4 : decode prog_4_method_2_code 4 = .ok (.getfield 18, 3) := by decide +kernel
theorem d_Crd_find_7 : decode prog_4_method_2_code 7 = .ok (.if_icmp .ge 30, 3) := by decide +kernel
theorem d_Crd_find_10 : decode prog_4_method_2_code 10 = .ok (.aload_n 0, 1) := by decide +kernel
theorem d_Crd_find_11 : decode prog_4_method_2_code 11 = .ok (.getfield 11, 3) := by decide +kernel
theorem d_Crd_find_14 : decode prog_4_method_2_code 14 = .ok (.iload_n 3, 1) := by decide +kernel
theorem d_Crd_find_15 : decode prog_4_method_2_code 15 = .ok (.aaload, 1) := by decide +kernel
theorem d_Crd_find_16 : decode prog_4_method_2_code 16 = .ok (.getfield 22, 3) := by decide +kernel
theorem d_Crd_find_19 : decode prog_4_method_2_code 19 = .ok (.lload_n 1, 1) := by decide +kernel
theorem d_Crd_find_20 : decode prog_4_method_2_code 20 = .ok (.lcmp, 1) := by decide +kernel
theorem d_Crd_find_21 : decode prog_4_method_2_code 21 = .ok (.ifCond .ne 10, 3) := by decide +kernel
theorem d_Crd_find_24 : decode prog_4_method_2_code 24 = .ok (.aload_n 0, 1) := by decide +kernel
theorem d_Crd_find_25 : decode prog_4_method_2_code 25 = .ok (.getfield 11, 3) := by decide +kernel
theorem d_Crd_find_28 : decode prog_4_method_2_code 28 = .ok (.iload_n 3, 1) := by decide +kernel
theorem d_Crd_find_29 : decode prog_4_method_2_code 29 = .ok (.aaload, 1) := by decide +kernel
theorem d_Crd_find_30 : decode prog_4_method_2_code 30 = .ok (.areturn, 1) := by decide +kernel
theorem d_Crd_find_31 : decode prog_4_method_2_code 31 = .ok (.iinc 3 1, 3) := by decide +kernel
theorem d_Crd_find_34 : decode prog_4_method_2_code 34 = .ok (.goto (-32), 3) := by decide +kernel
theorem d_Crd_find_37 : decode prog_4_method_2_code 37 = .ok (.aconst_null, 1) := by decide +kernel
theorem d_Crd_find_38 : decode prog_4_method_2_code 38 = .ok (.areturn, 1) := by decide +kernel
theorem d_Crd_add_0 : decode prog_4_method_3_code 0 = .ok (.aload_n 0, 1) := by decide +kernel
theorem d_Crd_add_1 : decode prog_4_method_3_code 1 = .ok (.getfield 18, 3) := by decide +kernel
theorem d_Crd_add_4 : decode prog_4_method_3_code 4 = .ok (.bipush 6, 2) := by decide +kernel
theorem d_Crd_add_6 : decode prog_4_method_3_code 6 = .ok (.if_icmp .ge 11, 3) := by decide +kernel
theorem d_Crd_add_9 : decode prog_4_method_3_code 9 = .ok (.aload_n 0, 1) := by decide +kernel
theorem d_Crd_add_10 : decode prog_4_method_3_code 10 = .ok (.lload_n 1, 1) := by decide +kernel
theorem d_Crd_add_11 : decode prog_4_method_3_code 11 = .ok (.invokevirtual 26, 3) := by decide +kernel
theorem d_Crd_add_14 : decode prog_4_method_3_code 14 = .ok (.ifnull 5, 3) := by decide +kernel
theorem d_Crd_add_17 : decode prog_4_method_3_code 17 = .ok (.iconst 0, 1) := by decide +kernel
theorem d_Crd_add_18 : decode prog_4_method_3_code 18 = .ok (.ireturn, 1) := by decide +kernel
theorem d_Crd_add_19 : decode prog_4_method_3_code 19 = .ok (.aload_n 0, 1) := by decide +kernel
theorem d_Crd_add_20 : decode prog_4_method_3_code 20 = .ok (.getfield 11, 3) := by decide +kernel
theorem d_Crd_add_23 : decode prog_4_method_3_code 23 = .ok (.aload_n 0, 1) := by decide +kernel
theorem d_Crd_add_24 : decode prog_4_method_3_code 24 = .ok (.getfield 18, 3) := by decide +kernel
theorem d_Crd_add_27 : decode prog_4_method_3_code 27 = .ok (.aaload, 1) := by decide +kernel
theorem d_Crd_add_28 : decode prog_4_method_3_code 28 = .ok (.lload_n 1, 1) := by decide +kernel
theorem d_Crd_add_29 : decode prog_4_method_3_code 29 = .ok (.putfield 22, 3) := by decide +kernel
theorem d_Crd_add_32 : decode prog_4_method_3_code 32 = .ok (.aload_n 0, 1) := by decide +kernel
theorem d_Crd_add_33 : decode prog_4_method_3_code 33 = .ok (.getfield 11, 3) := by decide +kernel
theorem d_Crd_add_36 : decode prog_4_method_3_code 36 = .ok (.aload_n 0, 1) := by decide +kernel
theorem d_Crd_add_37 : decode prog_4_method_3_code 37 = .ok (.getfield 18, 3) := by decide +kernel
theorem d_Crd_add_40 : decode prog_4_method_3_code 40 = .ok (.aaload, 1) := by decide +kernel
theorem d_Crd_add_41 : decode prog_4_method_3_code 41 = .ok (.lload_n 3, 1) := by decide +kernel
theorem d_Crd_add_42 : decode prog_4_method_3_code 42 = .ok (.putfield 30, 3) := by decide +kernel
theorem d_Crd_add_45 : decode prog_4_method_3_code 45 = .ok (.aload_n 0, 1) := by decide +kernel
theorem d_Crd_add_46 : decode prog_4_method_3_code 46 = .ok (.dup, 1) := by decide +kernel
theorem d_Crd_add_47 : decode prog_4_method_3_code 47 = .ok (.getfield 18, 3) := by decide +kernel
theorem d_Crd_add_50 : decode prog_4_method_3_code 50 = .ok (.iconst 1, 1) := by decide +kernel
theorem d_Crd_add_51 : decode prog_4_method_3_code 51 = .ok (.iadd, 1) := by decide +kernel
theorem d_Crd_add_52 : decode prog_4_method_3_code 52 = .ok (.putfield 18, 3) := by decide +kernel
theorem d_Crd_add_55 : decode prog_4_method_3_code 55 = .ok (.iconst 1, 1) := by decide +kernel
theorem d_Crd_add_56 : decode prog_4_method_3_code 56 = .ok (.ireturn, 1) := by decide +kernel
theorem d_Dsk_open_0 : decode prog_1_method_2_code 0 = .ok (.lload_n 1, 1) := by decide +kernel
theorem d_Dsk_open_1 : decode prog_1_method_2_code 1 = .ok (.lconst 1, 1) := by decide +kernel
theorem d_Dsk_open_2 : decode prog_1_method_2_code 2 = .ok (.lcmp, 1) := by decide +kernel
theorem d_Dsk_open_3 : decode prog_1_method_2_code 3 = .ok (.ifCond .lt 25, 3) := by decide +kernel
theorem d_Dsk_open_6 : decode prog_1_method_2_code 6 = .ok (.lload_n 1, 1) := by decide +kernel
theorem d_Dsk_open_7 : decode prog_1_method_2_code 7 = .ok (.ldc2_w 51, 3) := by decide +kernel
theorem d_Dsk_open_10 : decode prog_1_method_2_code 10 = .ok (.lcmp, 1) := by decide +kernel
theorem d_Dsk_open_11 : decode prog_1_method_2_code 11 = .ok (.ifCond .gt 17, 3) := by decide +kernel
theorem d_Dsk_open_14 : decode prog_1_method_2_code 14 = .ok (.lload_n 3, 1) := by decide +kernel
theorem d_Dsk_open_15 : decode prog_1_method_2_code 15 = .ok (.lconst 0, 1) := by decide +kernel
theorem d_Dsk_open_16 : decode prog_1_method_2_code 16 = .ok (.lcmp, 1) := by decide +kernel
theorem d_Dsk_open_17 : decode prog_1_method_2_code 17 = .ok (.ifCond .lt 11, 3) := by decide +kernel
theorem d_Dsk_open_20 : decode prog_1_method_2_code 20 = .ok (.lload_n 3, 1) := by decide +kernel
theorem d_Dsk_open_21 : decode prog_1_method_2_code 21 = .ok (.ldc2_w 53, 3) := by decide +kernel
theorem d_Dsk_open_24 : decode prog_1_method_2_code 24 = .ok (.lcmp, 1) := by decide +kernel
theorem d_Dsk_open_25 : decode prog_1_method_2_code 25 = .ok (.ifCond .le 5, 3) := by decide +kernel
theorem d_Dsk_open_28 : decode prog_1_method_2_code 28 = .ok (.iconst 0, 1) := by decide +kernel
theorem d_Dsk_open_29 : decode prog_1_method_2_code 29 = .ok (.ireturn, 1) := by decide +kernel
theorem d_Dsk_open_30 : decode prog_1_method_2_code 30 = .ok (.aload_n 0, 1) := by decide +kernel
theorem d_Dsk_open_31 : decode prog_1_method_2_code 31 = .ok (.getfield 33, 3) := by decide +kernel
theorem d_Dsk_open_34 : decode prog_1_method_2_code 34 = .ok (.lload_n 1, 1) := by decide +kernel
theorem d_Dsk_open_35 : decode prog_1_method_2_code 35 = .ok (.lload_n 3, 1) := by decide +kernel
theorem d_Dsk_open_36 : decode prog_1_method_2_code 36 = .ok (.invokevirtual 55, 3) := by decide +kernel
theorem d_Dsk_open_39 : decode prog_1_method_2_code 39 = .ok (.ireturn, 1) := by decide +kernel
theorem d_Row_append_0 : decode prog_3_method_4_code 0 = .ok (.aload_n 0, 1) := by decide +kernel
theorem d_Row_append_1 : decode prog_3_method_4_code 1 = .ok (.getfield 15, 3) := by decide +kernel
theorem d_Row_append_4 : decode prog_3_method_4_code 4 = .ok (.aload_n 0, 1) := by decide +kernel
theorem d_Row_append_5 : decode prog_3_method_4_code 5 = .ok (.getfield 9, 3) := by decide +kernel
theorem d_Row_append_8 : decode prog_3_method_4_code 8 = .ok (.arraylength, 1) := by decide +kernel
theorem d_Row_append_9 : decode prog_3_method_4_code 9 = .ok (.if_icmp .ge 27, 3) := by decide +kernel
theorem d_Row_append_12 : decode prog_3_method_4_code 12 = .ok (.aload_n 0, 1) := by decide +kernel
theorem d_Row_append_13 : decode prog_3_method_4_code 13 = .ok (.getfield 9, 3) := by decide +kernel
theorem d_Row_append_16 : decode prog_3_method_4_code 16 = .ok (.aload_n 0, 1) := by decide +kernel
theorem d_Row_append_17 : decode prog_3_method_4_code 17 = .ok (.getfield 15, 3) := by decide +kernel
theorem d_Row_append_20 : decode prog_3_method_4_code 20 = .ok (.iload_n 1, 1) := by decide +kernel
theorem d_Row_append_21 : decode prog_3_method_4_code 21 = .ok (.sipush 255, 3) := by decide +kernel
theorem d_Row_append_24 : decode prog_3_method_4_code 24 = .ok (.iand, 1) := by decide +kernel
theorem d_Row_append_25 : decode prog_3_method_4_code 25 = .ok (.iastore, 1) := by decide +kernel
theorem d_Row_append_26 : decode prog_3_method_4_code 26 = .ok (.aload_n 0, 1) := by decide +kernel
theorem d_Row_append_27 : decode prog_3_method_4_code 27 = .ok (.dup, 1) := by decide +kernel
theorem d_Row_append_28 : decode prog_3_method_4_code 28 = .ok (.getfield 15, 3) := by decide +kernel
theorem d_Row_append_31 : decode prog_3_method_4_code 31 = .ok (.iconst 1, 1) := by decide +kernel
theorem d_Row_append_32 : decode prog_3_method_4_code 32 = .ok (.iadd, 1) := by decide +kernel
theorem d_Row_append_33 : decode prog_3_method_4_code 33 = .ok (.putfield 15, 3) := by decide +kernel
theorem d_Row_append_36 : decode prog_3_method_4_code 36 = .ok (.return_, 1) := by decide +kernel
theorem d_Row_appendBytes_0 : decode prog_3_method_5_code 0 = .ok (.iload_n 3, 1) := by decide +kernel
theorem d_Row_appendBytes_1 : decode prog_3_method_5_code 1 = .ok (.iconst 1, 1) := by decide +kernel
theorem d_Row_appendBytes_2 : decode prog_3_method_5_code 2 = .ok (.isub, 1) := by decide +kernel
theorem d_Row_appendBytes_3 : decode prog_3_method_5_code 3 = .ok (.istore 4, 2) := by decide +kernel
theorem d_Row_appendBytes_5 : decode prog_3_method_5_code 5 = .ok (.iload 4, 2) := by decide +kernel
theorem d_Row_appendBytes_7 : decode prog_3_method_5_code 7 = .ok (.ifCond .lt 21, 3) := by decide +kernel
theorem d_Row_appendBytes_10 : decode prog_3_method_5_code 10 = .ok (.aload_n 0, 1) := by decide +kernel
theorem d_Row_appendBytes_11 : decode prog_3_method_5_code 11 = .ok (.lload_n 1, 1) := by decide +kernel
theorem d_Row_appendBytes_12 : decode prog_3_method_5_code 12 = .ok (.bipush 8, 2) := by decide +kernel
theorem d_Row_appendBytes_14 : decode prog_3_method_5_code 14 = .ok (.iload 4, 2) := by decide +kernel
theorem d_Row_appendBytes_16 : decode prog_3_method_5_code 16 = .ok (.imul, 1) := by decide +kernel
theorem d_Row_appendBytes_17 : decode prog_3_method_5_code 17 = .ok (.lushr, 1) := by decide +kernel
theorem d_Row_appendBytes_18 : decode prog_3_method_5_code 18 = .ok (.l2i, 1) := by decide +kernel
theorem d_Row_appendBytes_19 : decode prog_3_method_5_code 19 = .ok (.invokevirtual 19, 3) := by decide +kernel
theorem d_Row_appendBytes_22 : decode prog_3_method_5_code 22 = .ok (.iinc 4 (-1), 3) := by decide +kernel
theorem d_Row_appendBytes_25 : decode prog_3_method_5_code 25 = .ok (.goto (-20), 3) := by decide +kernel
theorem d_Row_appendBytes_28 : decode prog_3_method_5_code 28 = .ok (.return_, 1) := by decide +kernel
theorem d_Dsk_feed_0 : decode prog_1_method_3_code 0 = .ok (.iload_n 3, 1) := by decide +kernel
theorem d_Dsk_feed_1 : decode prog_1_method_3_code 1 = .ok (.iconst 1, 1) := by decide +kernel
theorem d_Dsk_feed_2 : decode prog_1_method_3_code 2 = .ok (.if_icmp .lt 23, 3) := by decide +kernel
theorem d_Dsk_feed_5 : decode prog_1_method_3_code 5 = .ok (.iload_n 3, 1) := by decide +kernel
theorem d_Dsk_feed_6 : decode prog_1_method_3_code 6 = .ok (.bipush 8, 2) := by decide +kernel
theorem d_Dsk_feed_8 : decode prog_1_method_3_code 8 = .ok (.if_icmp .gt 17, 3) := by decide +kernel
theorem d_Dsk_feed_11 : decode prog_1_method_3_code 11 = .ok (.aload_n 0, 1) := by decide +kernel
theorem d_Dsk_feed_12 : decode prog_1_method_3_code 12 = .ok (.getfield 14, 3) := by decide +kernel
theorem d_Dsk_feed_15 : decode prog_1_method_3_code 15 = .ok (.getfield 59, 3) := by decide +kernel
theorem d_Dsk_feed_18 : decode prog_1_method_3_code 18 = .ok (.iload_n 3, 1) := by decide +kernel
theorem d_Dsk_feed_19 : decode prog_1_method_3_code 19 = .ok (.iadd, 1) := by decide +kernel
theorem d_Dsk_feed_20 : decode prog_1_method_3_code 20 = .ok (.bipush 120, 2) := by decide +kernel
theorem d_Dsk_feed_22 : decode prog_1_method_3_code 22 = .ok (.if_icmp .le 5, 3) := by decide +kernel
theorem d_Dsk_feed_25 : decode prog_1_method_3_code 25 = .ok (.iconst (-1), 1) := by decide +kernel
theorem d_Dsk_feed_26 : decode prog_1_method_3_code 26 = .ok (.ireturn, 1) := by decide +kernel
theorem d_Dsk_feed_27 : decode prog_1_method_3_code 27 = .ok (.aload_n 0, 1) := by decide +kernel
theorem d_Dsk_feed_28 : decode prog_1_method_3_code 28 = .ok (.getfield 14, 3) := by decide +kernel
theorem d_Dsk_feed_31 : decode prog_1_method_3_code 31 = .ok (.lload_n 1, 1) := by decide +kernel
theorem d_Dsk_feed_32 : decode prog_1_method_3_code 32 = .ok (.iload_n 3, 1) := by decide +kernel
theorem d_Dsk_feed_33 : decode prog_1_method_3_code 33 = .ok (.invokevirtual 63, 3) := by decide +kernel
theorem d_Dsk_feed_36 : decode prog_1_method_3_code 36 = .ok (.aload_n 0, 1) := by decide +kernel
theorem d_Dsk_feed_37 : decode prog_1_method_3_code 37 = .ok (.getfield 14, 3) := by decide +kernel
theorem d_Dsk_feed_40 : decode prog_1_method_3_code 40 = .ok (.getfield 59, 3) := by decide +kernel
theorem d_Dsk_feed_43 : decode prog_1_method_3_code 43 = .ok (.ireturn, 1) := by decide +kernel
theorem d_Row_clear_0 : decode prog_3_method_2_code 0 = .ok (.aload_n 0, 1) := by decide +kernel
theorem d_Row_clear_1 : decode prog_3_method_2_code 1 = .ok (.iconst 0, 1) := by decide +kernel
theorem d_Row_clear_2 : decode prog_3_method_2_code 2 = .ok (.putfield 15, 3) := by decide +kernel
theorem d_Row_clear_5 : decode prog_3_method_2_code 5 = .ok (.return_, 1) := by decide +kernel
theorem d_Rdr_restart_0 : decode prog_7_method_2_code 0 = .ok (.aload_n 0, 1) := by decide +kernel
theorem d_Rdr_restart_1 : decode prog_7_method_2_code 1 = .ok (.iconst 0, 1) := by decide +kernel
theorem d_Rdr_restart_2 : decode prog_7_method_2_code 2 = .ok (.putfield 15, 3) := by decide +kernel
theorem d_Rdr_restart_5 : decode prog_7_method_2_code 5 = .ok (.aload_n 0, 1) := by decide +kernel
theorem d_Rdr_restart_6 : decode prog_7_method_2_code 6 = .ok (.iconst 1, 1) := by decide +kernel
theorem d_Rdr_restart_7 : decode prog_7_method_2_code 7 = .ok (.putfield 19, 3) := by decide +kernel
theorem d_Rdr_restart_10 : decode prog_7_method_2_code 10 = .ok (.return_, 1) := by decide +kernel
theorem d_Row_byteAt_0 : decode prog_3_method_3_code 0 = .ok (.iload_n 1, 1) := by decide +kernel
theorem d_Row_byteAt_1 : decode prog_3_method_3_code 1 = .ok (.ifCond .lt 20, 3) := by decide +kernel
theorem d_Row_byteAt_4 : decode prog_3_method_3_code 4 = .ok (.iload_n 1, 1) := by decide +kernel
theorem d_Row_byteAt_5 : decode prog_3_method_3_code 5 = .ok (.aload_n 0, 1) := by decide +kernel
theorem d_Row_byteAt_6 : decode prog_3_method_3_code 6 = .ok (.getfield 15, 3) := by decide +kernel
theorem d_Row_byteAt_9 : decode prog_3_method_3_code 9 = .ok (.if_icmp .ge 12, 3) := by decide +kernel
theorem d_Row_byteAt_12 : decode prog_3_method_3_code 12 = .ok (.aload_n 0, 1) := by decide +kernel
theorem d_Row_byteAt_13 : decode prog_3_method_3_code 13 = .ok (.getfield 9, 3) := by decide +kernel
theorem d_Row_byteAt_16 : decode prog_3_method_3_code 16 = .ok (.iload_n 1, 1) := by decide +kernel
theorem d_Row_byteAt_17 : decode prog_3_method_3_code 17 = .ok (.iaload, 1) := by decide +kernel
theorem d_Row_byteAt_18 : decode prog_3_method_3_code 18 = .ok (.goto 4, 3) := by decide +kernel
theorem d_Row_byteAt_21 : decode prog_3_method_3_code 21 = .ok (.iconst (-1), 1) := by decide +kernel
theorem d_Row_byteAt_22 : decode prog_3_method_3_code 22 = .ok (.ireturn, 1) := by decide +kernel
theorem d_Rdr_readByte_0 : decode prog_7_method_4_code 0 = .ok (.aload_n 0, 1) := by decide +kernel
theorem d_Rdr_readByte_1 : decode prog_7_method_4_code 1 = .ok (.getfield 9, 3) := by decide +kernel
theorem d_Rdr_readByte_4 : decode prog_7_method_4_code 4 = .ok (.aload_n 0, 1) := by decide +kernel
theorem d_Rdr_readByte_5 : decode prog_7_method_4_code 5 = .ok (.getfield 15, 3) := by decide +kernel
theorem d_Rdr_readByte_8 : decode prog_7_method_4_code 8 = .ok (.invokevirtual 28, 3) := by decide +kernel
theorem d_Rdr_readByte_11 : decode prog_7_method_4_code 11 = .ok (.istore_n 1, 1) := by decide +kernel
theorem d_Rdr_readByte_12 : decode prog_7_method_4_code 12 = .ok (.iload_n 1, 1) := by decide +kernel
theorem d_Rdr_readByte_13 : decode prog_7_method_4_code 13 = .ok (.iconst (-1), 1) := by decide +kernel
theorem d_Rdr_readByte_14 : decode prog_7_method_4_code 14 = .ok (.if_icmp .ne 10, 3) := by decide +kernel
theorem d_Rdr_readByte_17 : decode prog_7_method_4_code 17 = .ok (.aload_n 0, 1) := by decide +kernel
theorem d_Rdr_readByte_18 : decode prog_7_method_4_code 18 = .ok (.iconst 0, 1) := by decide +kernel
theorem d_Rdr_readByte_19 : decode prog_7_method_4_code 19 = .ok (.putfield 19, 3) := by decide +kernel
theorem d_Rdr_readByte_22 : decode prog_7_method_4_code 22 = .ok (.iconst 0, 1) := by decide +kernel
theorem d_Rdr_readByte_23 : decode prog_7_method_4_code 23 = .ok (.ireturn, 1) := by decide +kernel
theorem d_Rdr_readByte_24 : decode prog_7_method_4_code 24 = .ok (.aload_n 0, 1) := by decide +kernel
theorem d_Rdr_readByte_25 : decode prog_7_method_4_code 25 = .ok (.dup, 1) := by decide +kernel
theorem d_Rdr_readByte_26 : decode prog_7_method_4_code 26 = .ok (.getfield 15, 3) := by decide +kernel
theorem d_Rdr_readByte_29 : decode prog_7_method_4_code 29 = .ok (.iconst 1, 1) := by decide +kernel
theorem d_Rdr_readByte_30 : decode prog_7_method_4_code 30 = .ok (.iadd, 1) := by decide +kernel
theorem d_Rdr_readByte_31 : decode prog_7_method_4_code 31 = .ok (.putfield 15, 3) := by decide +kernel
theorem d_Rdr_readByte_34 : decode prog_7_method_4_code 34 = .ok (.iload_n 1, 1) := by decide +kernel
theorem d_Rdr_readByte_35 : decode prog_7_method_4_code 35 = .ok (.ireturn, 1) := by decide +kernel
theorem d_Rdr_readDigits_0 : decode prog_7_method_6_code 0 = .ok (.lconst 0, 1) := by decide +kernel
theorem d_Rdr_readDigits_1 : decode prog_7_method_6_code 1 = .ok (.lstore_n 2, 1) := by decide +kernel
theorem d_Rdr_readDigits_2 : decode prog_7_method_6_code 2 = .ok (.iload_n 1, 1) := by decide +kernel
theorem d_Rdr_readDigits_3 : decode prog_7_method_6_code 3 = .ok (.iconst 2, 1) := by decide +kernel
theorem d_Rdr_readDigits_4 : decode prog_7_method_6_code 4 = .ok (.irem, 1) := by decide +kernel
theorem d_Rdr_readDigits_5 : decode prog_7_method_6_code 5 = .ok (.ifCond .ne 8, 3) := by decide +kernel
theorem d_Rdr_readDigits_8 : decode prog_7_method_6_code 8 = .ok (.bipush 9, 2) := by decide +kernel
theorem d_Rdr_readDigits_10 : decode prog_7_method_6_code 10 = .ok (.goto 4, 3) := by decide +kernel
theorem d_Rdr_readDigits_13 : decode prog_7_method_6_code 13 = .ok (.iconst 0, 1) := by decide +kernel
theorem d_Rdr_readDigits_14 : decode prog_7_method_6_code 14 = .ok (.istore 4, 2) := by decide +kernel
theorem d_Rdr_readDigits_16 : decode prog_7_method_6_code 16 = .ok (.iconst 0, 1) := by decide +kernel
theorem d_Rdr_readDigits_17 : decode prog_7_method_6_code 17 = .ok (.istore 5, 2) := by decide +kernel
theorem d_Rdr_readDigits_19 : decode prog_7_method_6_code 19 = .ok (.iload 5, 2) := by decide +kernel
theorem d_Rdr_readDigits_21 : decode prog_7_method_6_code 21 = .ok (.iload_n 1, 1) := by decide +kernel
theorem d_Rdr_readDigits_22 : decode prog_7_method_6_code 22 = .ok (.if_icmp .ge 68, 3) := by decide +kernel
theorem d_Rdr_readDigits_25 : decode prog_7_method_6_code 25 = .ok (.aload_n 0, 1) := by decide +kernel
theorem d_Rdr_readDigits_26 : decode prog_7_method_6_code 26 = .ok (.invokevirtual 32, 3) := by decide +kernel
theorem d_Rdr_readDigits_29 : decode prog_7_method_6_code 29 = .ok (.istore 6, 2) := by decide +kernel
theorem d_Rdr_readDigits_31 : decode prog_7_method_6_code 31 = .ok (.iload 6, 2) := by decide +kernel
theorem d_Rdr_readDigits_33 : decode prog_7_method_6_code 33 = .ok (.iconst 4, 1) := by decide +kernel
theorem d_Rdr_readDigits_34 : decode prog_7_method_6_code 34 = .ok (.ishr, 1) := by decide +kernel
theorem d_Rdr_readDigits_35 : decode prog_7_method_6_code 35 = .ok (.istore 7, 2) := by decide +kernel
theorem d_Rdr_readDigits_37 : decode prog_7_method_6_code 37 = .ok (.iload 6, 2) := by decide +kernel
theorem d_Rdr_readDigits_39 : decode prog_7_method_6_code 39 = .ok (.bipush 15, 2) := by decide +kernel
theorem d_Rdr_readDigits_41 : decode prog_7_method_6_code 41 = .ok (.iand, 1) := by decide +kernel
theorem d_Rdr_readDigits_42 : decode prog_7_method_6_code 42 = .ok (.istore 8, 2) := by decide +kernel
theorem d_Rdr_readDigits_44 : decode prog_7_method_6_code 44 = .ok (.iload 7, 2) := by decide +kernel
theorem d_Rdr_readDigits_46 : decode prog_7_method_6_code 46 = .ok (.iload 4, 2) := by decide +kernel
theorem d_Rdr_readDigits_48 : decode prog_7_method_6_code 48 = .ok (.if_icmp .gt 10, 3) := by decide +kernel
theorem d_Rdr_readDigits_51 : decode prog_7_method_6_code 51 = .ok (.iload 8, 2) := by decide +kernel
theorem d_Rdr_readDigits_53 : decode prog_7_method_6_code 53 = .ok (.bipush 9, 2) := by decide +kernel
theorem d_Rdr_readDigits_55 : decode prog_7_method_6_code 55 = .ok (.if_icmp .le 8, 3) := by decide +kernel
theorem d_Rdr_readDigits_58 : decode prog_7_method_6_code 58 = .ok (.aload_n 0, 1) := by decide +kernel
theorem d_Rdr_readDigits_59 : decode prog_7_method_6_code 59 = .ok (.iconst 0, 1) := by decide +kernel
theorem d_Rdr_readDigits_60 : decode prog_7_method_6_code 60 = .ok (.putfield 19, 3) := by decide +kernel
theorem d_Rdr_readDigits_63 : decode prog_7_method_6_code 63 = .ok (.lload_n 2, 1) := by decide +kernel
theorem d_Rdr_readDigits_64 : decode prog_7_method_6_code 64 = .ok (.ldc2_w 36, 3) := by decide +kernel
theorem d_Rdr_readDigits_67 : decode prog_7_method_6_code 67 = .ok (.lmul, 1) := by decide +kernel
theorem d_Rdr_readDigits_68 : decode prog_7_method_6_code 68 = .ok (.iload 7, 2) := by decide +kernel
theorem d_Rdr_readDigits_70 : decode prog_7_method_6_code 70 = .ok (.bipush 10, 2) := by decide +kernel
theorem d_Rdr_readDigits_72 : decode prog_7_method_6_code 72 = .ok (.imul, 1) := by decide +kernel
theorem d_Rdr_readDigits_73 : decode prog_7_method_6_code 73 = .ok (.i2l, 1) := by decide +kernel
theorem d_Rdr_readDigits_74 : decode prog_7_method_6_code 74 = .ok (.ladd, 1) := by decide +kernel
theorem d_Rdr_readDigits_75 : decode prog_7_method_6_code 75 = .ok (.iload 8, 2) := by decide +kernel
theorem d_Rdr_readDigits_77 : decode prog_7_method_6_code 77 = .ok (.i2l, 1) := by decide +kernel
theorem d_Rdr_readDigits_78 : decode prog_7_method_6_code 78 = .ok (.ladd, 1) := by decide +kernel
theorem d_Rdr_readDigits_79 : decode prog_7_method_6_code 79 = .ok (.lstore_n 2, 1) := by decide +kernel
theorem d_Rdr_readDigits_80 : decode prog_7_method_6_code 80 = .ok (.bipush 9, 2) := by decide +kernel
theorem d_Rdr_readDigits_82 : decode prog_7_method_6_code 82 = .ok (.istore 4, 2) := by decide +kernel
theorem d_Rdr_readDigits_84 : decode prog_7_method_6_code 84 = .ok (.iinc 5 2, 3) := by decide +kernel
theorem d_Rdr_readDigits_87 : decode prog_7_method_6_code 87 = .ok (.goto (-68), 3) := by decide +kernel
theorem d_Rdr_readDigits_90 : decode prog_7_method_6_code 90 = .ok (.lload_n 2, 1) := by decide +kernel
theorem d_Rdr_readDigits_91 : decode prog_7_method_6_code 91 = .ok (.lreturn, 1) := by decide +kernel
theorem d_Rdr_readBytes_0 : decode prog_7_method_5_code 0 = .ok (.lconst 0, 1) := by decide +kernel
theorem d_Rdr_readBytes_1 : decode prog_7_method_5_code 1 = .ok (.lstore_n 2, 1) := by decide +kernel
theorem d_Rdr_readBytes_2 : decode prog_7_method_5_code 2 = .ok (.iconst 0, 1) := by decide +kernel
theorem d_Rdr_readBytes_3 : decode prog_7_method_5_code 3 = .ok (.istore 4, 2) := by decide +kernel
theorem d_Rdr_readBytes_5 : decode prog_7_method_5_code 5 = .ok (.iload 4, 2) := by decide +kernel
theorem d_Rdr_readBytes_7 : decode prog_7_method_5_code 7 = .ok (.iload_n 1, 1) := by decide +kernel
theorem d_Rdr_readBytes_8 : decode prog_7_method_5_code 8 = .ok (.if_icmp .ge 20, 3) := by decide +kernel
theorem d_Rdr_readBytes_11 : decode prog_7_method_5_code 11 = .ok (.lload_n 2, 1) := by decide +kernel
theorem d_Rdr_readBytes_12 : decode prog_7_method_5_code 12 = .ok (.bipush 8, 2) := by decide +kernel
theorem d_Rdr_readBytes_14 : decode prog_7_method_5_code 14 = .ok (.lshl, 1) := by decide +kernel
theorem d_Rdr_readBytes_15 : decode prog_7_method_5_code 15 = .ok (.aload_n 0, 1) := by decide +kernel
theorem d_Rdr_readBytes_16 : decode prog_7_method_5_code 16 = .ok (.invokevirtual 32, 3) := by decide +kernel
theorem d_Rdr_readBytes_19 : decode prog_7_method_5_code 19 = .ok (.i2l, 1) := by decide +kernel
theorem d_Rdr_readBytes_20 : decode prog_7_method_5_code 20 = .ok (.lor, 1) := by decide +kernel
theorem d_Rdr_readBytes_21 : decode prog_7_method_5_code 21 = .ok (.lstore_n 2, 1) := by decide +kernel
theorem d_Rdr_readBytes_22 : decode prog_7_method_5_code 22 = .ok (.iinc 4 1, 3) := by decide +kernel
theorem d_Rdr_readBytes_25 : decode prog_7_method_5_code 25 = .ok (.goto (-20), 3) := by decide +kernel
theorem d_Rdr_readBytes_28 : decode prog_7_method_5_code 28 = .ok (.lload_n 2, 1) := by decide +kernel
theorem d_Rdr_readBytes_29 : decode prog_7_method_5_code 29 = .ok (.lreturn, 1) := by decide +kernel
theorem d_Req_neededFields_0 : decode prog_8_method_6_code 0 = .ok (.iload_n 0, 1) := by decide +kernel
theorem d_Req_neededFields_1 : decode prog_8_method_6_code 1 = .ok (.lookupswitch 43 #[(100, 35), (200, 35), (400, 39)], 35) := by decide +kernel
theorem d_Req_neededFields_36 : decode prog_8_method_6_code 36 = .ok (.ldc2_w 62, 3) := by decide +kernel
theorem d_Req_neededFields_39 : decode prog_8_method_6_code 39 = .ok (.lreturn, 1) := by decide +kernel
theorem d_Req_neededFields_40 : decode prog_8_method_6_code 40 = .ok (.ldc2_w 64, 3) := by decide +kernel
theorem d_Req_neededFields_43 : decode prog_8_method_6_code 43 = .ok (.lreturn, 1) := by decide +kernel
theorem d_Req_neededFields_44 : decode prog_8_method_6_code 44 = .ok (.ldc2_w 66, 3) := by decide +kernel
theorem d_Req_neededFields_47 : decode prog_8_method_6_code 47 = .ok (.lreturn, 1) := by decide +kernel
theorem d_Req_allowedFields_0 : decode prog_8_method_7_code 0 = .ok (.iload_n 0, 1) := by decide +kernel
theorem d_Req_allowedFields_1 : decode prog_8_method_7_code 1 = .ok (.lookupswitch 44 #[(100, 35), (400, 35), (500, 35)], 35) := by decide +kernel
theorem d_Req_allowedFields_36 : decode prog_8_method_7_code 36 = .ok (.iload_n 0, 1) := by decide +kernel
theorem d_Req_allowedFields_37 : decode prog_8_method_7_code 37 = .ok (.invokestatic 54, 3) := by decide +kernel
theorem d_Req_allowedFields_40 : decode prog_8_method_7_code 40 = .ok (.ldc2_w 68, 3) := by decide +kernel
theorem d_Req_allowedFields_43 : decode prog_8_method_7_code 43 = .ok (.lor, 1) := by decide +kernel
theorem d_Req_allowedFields_44 : decode prog_8_method_7_code 44 = .ok (.lreturn, 1) := by decide +kernel
theorem d_Req_allowedFields_45 : decode prog_8_method_7_code 45 = .ok (.ldc2_w 70, 3) := by decide +kernel
theorem d_Req_allowedFields_48 : decode prog_8_method_7_code 48 = .ok (.lreturn, 1) := by decide +kernel
theorem d_Req_fieldsBelong_0 : decode prog_8_method_5_code 0 = .ok (.aload_n 0, 1) := by decide +kernel
theorem d_Req_fieldsBelong_1 : decode prog_8_method_5_code 1 = .ok (.getfield 35, 3) := by decide +kernel
theorem d_Req_fieldsBelong_4 : decode prog_8_method_5_code 4 = .ok (.invokestatic 54, 3) := by decide +kernel
theorem d_Req_fieldsBelong_7 : decode prog_8_method_5_code 7 = .ok (.lstore_n 1, 1) := by decide +kernel
theorem d_Req_fieldsBelong_8 : decode prog_8_method_5_code 8 = .ok (.aload_n 0, 1) := by decide +kernel
theorem d_Req_fieldsBelong_9 : decode prog_8_method_5_code 9 = .ok (.getfield 20, 3) := by decide +kernel
theorem d_Req_fieldsBelong_12 : decode prog_8_method_5_code 12 = .ok (.lload_n 1, 1) := by decide +kernel
theorem d_Req_fieldsBelong_13 : decode prog_8_method_5_code 13 = .ok (.land, 1) := by decide +kernel
theorem d_Req_fieldsBelong_14 : decode prog_8_method_5_code 14 = .ok (.lload_n 1, 1) := by decide +kernel
theorem d_Req_fieldsBelong_15 : decode prog_8_method_5_code 15 = .ok (.lcmp, 1) := by decide +kernel
theorem d_Req_fieldsBelong_16 : decode prog_8_method_5_code 16 = .ok (.ifCond .ne 28, 3) := by decide +kernel
theorem d_Req_fieldsBelong_19 : decode prog_8_method_5_code 19 = .ok (.aload_n 0, 1) := by decide +kernel
theorem d_Req_fieldsBelong_20 : decode prog_8_method_5_code 20 = .ok (.getfield 20, 3) := by decide +kernel
theorem d_Req_fieldsBelong_23 : decode prog_8_method_5_code 23 = .ok (.aload_n 0, 1) := by decide +kernel
theorem d_Req_fieldsBelong_24 : decode prog_8_method_5_code 24 = .ok (.getfield 35, 3) := by decide +kernel
theorem d_Req_fieldsBelong_27 : decode prog_8_method_5_code 27 = .ok (.invokestatic 57, 3) := by decide +kernel
theorem d_Req_fieldsBelong_30 : decode prog_8_method_5_code 30 = .ok (.ldc2_w 60, 3) := by decide +kernel
theorem d_Req_fieldsBelong_33 : decode prog_8_method_5_code 33 = .ok (.lxor, 1) := by decide +kernel
theorem d_Req_fieldsBelong_34 : decode prog_8_method_5_code 34 = .ok (.land, 1) := by decide +kernel
theorem d_Req_fieldsBelong_35 : decode prog_8_method_5_code 35 = .ok (.lconst 0, 1) := by decide +kernel
theorem d_Req_fieldsBelong_36 : decode prog_8_method_5_code 36 = .ok (.lcmp, 1) := by decide +kernel
theorem d_Req_fieldsBelong_37 : decode prog_8_method_5_code 37 = .ok (.ifCond .ne 7, 3) := by decide +kernel
theorem d_Req_fieldsBelong_40 : decode prog_8_method_5_code 40 = .ok (.iconst 1, 1) := by decide +kernel
theorem d_Req_fieldsBelong_41 : decode prog_8_method_5_code 41 = .ok (.goto 4, 3) := by decide +kernel
theorem d_Req_fieldsBelong_44 : decode prog_8_method_5_code 44 = .ok (.iconst 0, 1) := by decide +kernel
theorem d_Req_fieldsBelong_45 : decode prog_8_method_5_code 45 = .ok (.ireturn, 1) := by decide +kernel
theorem d_Req_has_0 : decode prog_8_method_2_code 0 = .ok (.aload_n 0, 1) := by decide +kernel
theorem d_Req_has_1 : decode prog_8_method_2_code 1 = .ok (.getfield 20, 3) := by decide +kernel
theorem d_Req_has_4 : decode prog_8_method_2_code 4 = .ok (.lload_n 1, 1) := by decide +kernel
theorem d_Req_has_5 : decode prog_8_method_2_code 5 = .ok (.land, 1) := by decide +kernel
theorem d_Req_has_6 : decode prog_8_method_2_code 6 = .ok (.lconst 0, 1) := by decide +kernel
theorem d_Req_has_7 : decode prog_8_method_2_code 7 = .ok (.lcmp, 1) := by decide +kernel
theorem d_Req_has_8 : decode prog_8_method_2_code 8 = .ok (.ifCond .eq 7, 3) := by decide +kernel
theorem d_Req_has_11 : decode prog_8_method_2_code 11 = .ok (.iconst 1, 1) := by decide +kernel
theorem d_Req_has_12 : decode prog_8_method_2_code 12 = .ok (.goto 4, 3) := by decide +kernel
theorem d_Req_has_15 : decode prog_8_method_2_code 15 = .ok (.iconst 0, 1) := by decide +kernel
theorem d_Req_has_16 : decode prog_8_method_2_code 16 = .ok (.ireturn, 1) := by decide +kernel
theorem d_Rdr_readCount_0 : decode prog_7_method_7_code 0 = .ok (.aload_n 0, 1) := by decide +kernel
theorem d_Rdr_readCount_1 : decode prog_7_method_7_code 1 = .ok (.iload_n 1, 1) := by decide +kernel
theorem d_Rdr_readCount_2 : decode prog_7_method_7_code 2 = .ok (.invokevirtual 38, 3) := by decide +kernel
theorem d_Rdr_readCount_5 : decode prog_7_method_7_code 5 = .ok (.lstore 4, 2) := by decide +kernel
theorem d_Rdr_readCount_7 : decode prog_7_method_7_code 7 = .ok (.lload 4, 2) := by decide +kernel
theorem d_Rdr_readCount_9 : decode prog_7_method_7_code 9 = .ok (.iload_n 2, 1) := by decide +kernel
theorem d_Rdr_readCount_10 : decode prog_7_method_7_code 10 = .ok (.i2l, 1) := by decide +kernel
theorem d_Rdr_readCount_11 : decode prog_7_method_7_code 11 = .ok (.lcmp, 1) := by decide +kernel
theorem d_Rdr_readCount_12 : decode prog_7_method_7_code 12 = .ok (.ifCond .lt 11, 3) := by decide +kernel
theorem d_Rdr_readCount_15 : decode prog_7_method_7_code 15 = .ok (.lload 4, 2) := by decide +kernel
theorem d_Rdr_readCount_17 : decode prog_7_method_7_code 17 = .ok (.iload_n 3, 1) := by decide +kernel
theorem d_Rdr_readCount_18 : decode prog_7_method_7_code 18 = .ok (.i2l, 1) := by decide +kernel
theorem d_Rdr_readCount_19 : decode prog_7_method_7_code 19 = .ok (.lcmp, 1) := by decide +kernel
theorem d_Rdr_readCount_20 : decode prog_7_method_7_code 20 = .ok (.ifCond .le 10, 3) := by decide +kernel
theorem d_Rdr_readCount_23 : decode prog_7_method_7_code 23 = .ok (.aload_n 0, 1) := by decide +kernel
theorem d_Rdr_readCount_24 : decode prog_7_method_7_code 24 = .ok (.iconst 0, 1) := by decide +kernel
theorem d_Rdr_readCount_25 : decode prog_7_method_7_code 25 = .ok (.putfield 19, 3) := by decide +kernel
theorem d_Rdr_readCount_28 : decode prog_7_method_7_code 28 = .ok (.iconst 0, 1) := by decide +kernel
theorem d_Rdr_readCount_29 : decode prog_7_method_7_code 29 = .ok (.ireturn, 1) := by decide +kernel
theorem d_Rdr_readCount_30 : decode prog_7_method_7_code 30 = .ok (.lload 4, 2) := by decide +kernel
theorem d_Rdr_readCount_32 : decode prog_7_method_7_code 32 = .ok (.l2i, 1) := by decide +kernel
theorem d_Rdr_readCount_33 : decode prog_7_method_7_code 33 = .ok (.ireturn, 1) := by decide +kernel
theorem d_Req_readMoneyFields_0 : decode prog_8_method_8_code 0 = .ok (.aload_n 0, 1) := by decide +kernel
theorem d_Req_readMoneyFields_1 : decode prog_8_method_8_code 1 = .ok (.aload_n 0, 1) := by decide +kernel
theorem d_Req_readMoneyFields_2 : decode prog_8_method_8_code 2 = .ok (.ldc2_w 72, 3) := by decide +kernel
theorem d_Req_readMoneyFields_5 : decode prog_8_method_8_code 5 = .ok (.invokevirtual 74, 3) := by decide +kernel
theorem d_Req_readMoneyFields_8 : decode prog_8_method_8_code 8 = .ok (.ifCond .eq 24, 3) := by decide +kernel
theorem d_Req_readMoneyFields_11 : decode prog_8_method_8_code 11 = .ok (.aload_n 0, 1) := by decide +kernel
theorem d_Req_readMoneyFields_12 : decode prog_8_method_8_code 12 = .ok (.getfield 16, 3) := by decide +kernel
theorem d_Req_readMoneyFields_15 : decode prog_8_method_8_code 15 = .ok (.aload_n 0, 1) := by decide +kernel
theorem d_Req_readMoneyFields_16 : decode prog_8_method_8_code 16 = .ok (.getfield 16, 3) := by decide +kernel
theorem d_Req_readMoneyFields_19 : decode prog_8_method_8_code 19 = .ok (.iconst 2, 1) := by decide +kernel
theorem d_Req_readMoneyFields_20 : decode prog_8_method_8_code 20 = .ok (.iconst 1, 1) := by decide +kernel
theorem d_Req_readMoneyFields_21 : decode prog_8_method_8_code 21 = .ok (.bipush 16, 2) := by decide +kernel
theorem d_Req_readMoneyFields_23 : decode prog_8_method_8_code 23 = .ok (.invokevirtual 78, 3) := by decide +kernel
theorem d_Req_readMoneyFields_26 : decode prog_8_method_8_code 26 = .ok (.invokevirtual 31, 3) := by decide +kernel
theorem d_Req_readMoneyFields_29 : decode prog_8_method_8_code 29 = .ok (.goto 4, 3) := by decide +kernel
theorem d_Req_readMoneyFields_32 : decode prog_8_method_8_code 32 = .ok (.lconst 0, 1) := by decide +kernel
theorem d_Req_readMoneyFields_33 : decode prog_8_method_8_code 33 = .ok (.putfield 82, 3) := by decide +kernel
theorem d_Req_readMoneyFields_36 : decode prog_8_method_8_code 36 = .ok (.aload_n 0, 1) := by decide +kernel
theorem d_Req_readMoneyFields_37 : decode prog_8_method_8_code 37 = .ok (.aload_n 0, 1) := by decide +kernel
theorem d_Req_readMoneyFields_38 : decode prog_8_method_8_code 38 = .ok (.ldc2_w 85, 3) := by decide +kernel
theorem d_Req_readMoneyFields_41 : decode prog_8_method_8_code 41 = .ok (.invokevirtual 74, 3) := by decide +kernel
theorem d_Req_readMoneyFields_44 : decode prog_8_method_8_code 44 = .ok (.ifCond .eq 16, 3) := by decide +kernel
theorem d_Req_readMoneyFields_47 : decode prog_8_method_8_code 47 = .ok (.aload_n 0, 1) := by decide +kernel
theorem d_Req_readMoneyFields_48 : decode prog_8_method_8_code 48 = .ok (.getfield 16, 3) := by decide +kernel
theorem d_Req_readMoneyFields_51 : decode prog_8_method_8_code 51 = .ok (.bipush 6, 2) := by decide +kernel
theorem d_Req_readMoneyFields_53 : decode prog_8_method_8_code 53 = .ok (.invokevirtual 31, 3) := by decide +kernel
theorem d_Req_readMoneyFields_56 : decode prog_8_method_8_code 56 = .ok (.l2i, 1) := by decide +kernel
theorem d_Req_readMoneyFields_57 : decode prog_8_method_8_code 57 = .ok (.goto 4, 3) := by decide +kernel
theorem d_Req_readMoneyFields_60 : decode prog_8_method_8_code 60 = .ok (.iconst 0, 1) := by decide +kernel
theorem d_Req_readMoneyFields_61 : decode prog_8_method_8_code 61 = .ok (.putfield 24, 3) := by decide +kernel
theorem d_Req_readMoneyFields_64 : decode prog_8_method_8_code 64 = .ok (.aload_n 0, 1) := by decide +kernel
theorem d_Req_readMoneyFields_65 : decode prog_8_method_8_code 65 = .ok (.aload_n 0, 1) := by decide +kernel
theorem d_Req_readMoneyFields_66 : decode prog_8_method_8_code 66 = .ok (.ldc2_w 87, 3) := by decide +kernel
theorem d_Req_readMoneyFields_69 : decode prog_8_method_8_code 69 = .ok (.invokevirtual 74, 3) := by decide +kernel
theorem d_Req_readMoneyFields_72 : decode prog_8_method_8_code 72 = .ok (.ifCond .eq 15, 3) := by decide +kernel
theorem d_Req_readMoneyFields_75 : decode prog_8_method_8_code 75 = .ok (.aload_n 0, 1) := by decide +kernel
theorem d_Req_readMoneyFields_76 : decode prog_8_method_8_code 76 = .ok (.getfield 16, 3) := by decide +kernel
theorem d_Req_readMoneyFields_79 : decode prog_8_method_8_code 79 = .ok (.bipush 12, 2) := by decide +kernel
theorem d_Req_readMoneyFields_81 : decode prog_8_method_8_code 81 = .ok (.invokevirtual 31, 3) := by decide +kernel
theorem d_Req_readMoneyFields_84 : decode prog_8_method_8_code 84 = .ok (.goto 4, 3) := by decide +kernel
theorem d_Req_readMoneyFields_87 : decode prog_8_method_8_code 87 = .ok (.lconst 0, 1) := by decide +kernel
theorem d_Req_readMoneyFields_88 : decode prog_8_method_8_code 88 = .ok (.putfield 89, 3) := by decide +kernel
theorem d_Req_readMoneyFields_91 : decode prog_8_method_8_code 91 = .ok (.return_, 1) := by decide +kernel
theorem d_Rdr_readCharacters_0 : decode prog_7_method_8_code 0 = .ok (.iconst 0, 1) := by decide +kernel
theorem d_Rdr_readCharacters_1 : decode prog_7_method_8_code 1 = .ok (.istore_n 2, 1) := by decide +kernel
theorem d_Rdr_readCharacters_2 : decode prog_7_method_8_code 2 = .ok (.iconst 0, 1) := by decide +kernel
theorem d_Rdr_readCharacters_3 : decode prog_7_method_8_code 3 = .ok (.istore_n 3, 1) := by decide +kernel
theorem d_Rdr_readCharacters_4 : decode prog_7_method_8_code 4 = .ok (.iload_n 3, 1) := by decide +kernel
theorem d_Rdr_readCharacters_5 : decode prog_7_method_8_code 5 = .ok (.iload_n 1, 1) := by decide +kernel
theorem d_Rdr_readCharacters_6 : decode prog_7_method_8_code 6 = .ok (.if_icmp .ge 42, 3) := by decide +kernel
theorem d_Rdr_readCharacters_9 : decode prog_7_method_8_code 9 = .ok (.aload_n 0, 1) := by decide +kernel
theorem d_Rdr_readCharacters_10 : decode prog_7_method_8_code 10 = .ok (.invokevirtual 32, 3) := by decide +kernel
theorem d_Rdr_readCharacters_13 : decode prog_7_method_8_code 13 = .ok (.istore 4, 2) := by decide +kernel
theorem d_Rdr_readCharacters_15 : decode prog_7_method_8_code 15 = .ok (.iload 4, 2) := by decide +kernel
theorem d_Rdr_readCharacters_17 : decode prog_7_method_8_code 17 = .ok (.bipush 32, 2) := by decide +kernel
theorem d_Rdr_readCharacters_19 : decode prog_7_method_8_code 19 = .ok (.if_icmp .lt 10, 3) := by decide +kernel
theorem d_Rdr_readCharacters_22 : decode prog_7_method_8_code 22 = .ok (.iload 4, 2) := by decide +kernel
theorem d_Rdr_readCharacters_24 : decode prog_7_method_8_code 24 = .ok (.bipush 126, 2) := by decide +kernel
theorem d_Rdr_readCharacters_26 : decode prog_7_method_8_code 26 = .ok (.if_icmp .le 8, 3) := by decide +kernel
theorem d_Rdr_readCharacters_29 : decode prog_7_method_8_code 29 = .ok (.aload_n 0, 1) := by decide +kernel
theorem d_Rdr_readCharacters_30 : decode prog_7_method_8_code 30 = .ok (.iconst 0, 1) := by decide +kernel
theorem d_Rdr_readCharacters_31 : decode prog_7_method_8_code 31 = .ok (.putfield 19, 3) := by decide +kernel
theorem d_Rdr_readCharacters_34 : decode prog_7_method_8_code 34 = .ok (.iload_n 2, 1) := by decide +kernel
theorem d_Rdr_readCharacters_35 : decode prog_7_method_8_code 35 = .ok (.bipush 8, 2) := by decide +kernel
theorem d_Rdr_readCharacters_37 : decode prog_7_method_8_code 37 = .ok (.ishl, 1) := by decide +kernel
theorem d_Rdr_readCharacters_38 : decode prog_7_method_8_code 38 = .ok (.iload 4, 2) := by decide +kernel
theorem d_Rdr_readCharacters_40 : decode prog_7_method_8_code 40 = .ok (.ior, 1) := by decide +kernel
theorem d_Rdr_readCharacters_41 : decode prog_7_method_8_code 41 = .ok (.istore_n 2, 1) := by decide +kernel
theorem d_Rdr_readCharacters_42 : decode prog_7_method_8_code 42 = .ok (.iinc 3 1, 3) := by decide +kernel
theorem d_Rdr_readCharacters_45 : decode prog_7_method_8_code 45 = .ok (.goto (-41), 3) := by decide +kernel
theorem d_Rdr_readCharacters_48 : decode prog_7_method_8_code 48 = .ok (.iload_n 2, 1) := by decide +kernel
theorem d_Rdr_readCharacters_49 : decode prog_7_method_8_code 49 = .ok (.ireturn, 1) := by decide +kernel
theorem d_Req_readOtherFields_0 : decode prog_8_method_9_code 0 = .ok (.aload_n 0, 1) := by decide +kernel
theorem d_Req_readOtherFields_1 : decode prog_8_method_9_code 1 = .ok (.aload_n 0, 1) := by decide +kernel
theorem d_Req_readOtherFields_2 : decode prog_8_method_9_code 2 = .ok (.getfield 16, 3) := by decide +kernel
theorem d_Req_readOtherFields_5 : decode prog_8_method_9_code 5 = .ok (.bipush 6, 2) := by decide +kernel
theorem d_Req_readOtherFields_7 : decode prog_8_method_9_code 7 = .ok (.invokevirtual 31, 3) := by decide +kernel
theorem d_Req_readOtherFields_10 : decode prog_8_method_9_code 10 = .ok (.l2i, 1) := by decide +kernel
theorem d_Req_readOtherFields_11 : decode prog_8_method_9_code 11 = .ok (.putfield 92, 3) := by decide +kernel
theorem d_Req_readOtherFields_14 : decode prog_8_method_9_code 14 = .ok (.aload_n 0, 1) := by decide +kernel
theorem d_Req_readOtherFields_15 : decode prog_8_method_9_code 15 = .ok (.aload_n 0, 1) := by decide +kernel
theorem d_Req_readOtherFields_16 : decode prog_8_method_9_code 16 = .ok (.getfield 16, 3) := by decide +kernel
theorem d_Req_readOtherFields_19 : decode prog_8_method_9_code 19 = .ok (.getfield 95, 3) := by decide +kernel
theorem d_Req_readOtherFields_22 : decode prog_8_method_9_code 22 = .ok (.putfield 98, 3) := by decide +kernel
theorem d_Req_readOtherFields_25 : decode prog_8_method_9_code 25 = .ok (.aload_n 0, 1) := by decide +kernel
theorem d_Req_readOtherFields_26 : decode prog_8_method_9_code 26 = .ok (.aload_n 0, 1) := by decide +kernel
theorem d_Req_readOtherFields_27 : decode prog_8_method_9_code 27 = .ok (.getfield 16, 3) := by decide +kernel
theorem d_Req_readOtherFields_30 : decode prog_8_method_9_code 30 = .ok (.iconst 4, 1) := by decide +kernel
theorem d_Req_readOtherFields_31 : decode prog_8_method_9_code 31 = .ok (.invokevirtual 101, 3) := by decide +kernel
theorem d_Req_readOtherFields_34 : decode prog_8_method_9_code 34 = .ok (.putfield 105, 3) := by decide +kernel
theorem d_Req_readOtherFields_37 : decode prog_8_method_9_code 37 = .ok (.aload_n 0, 1) := by decide +kernel
theorem d_Req_readOtherFields_38 : decode prog_8_method_9_code 38 = .ok (.ldc2_w 68, 3) := by decide +kernel
theorem d_Req_readOtherFields_41 : decode prog_8_method_9_code 41 = .ok (.invokevirtual 74, 3) := by decide +kernel
theorem d_Req_readOtherFields_44 : decode prog_8_method_9_code 44 = .ok (.ifCond .eq 22, 3) := by decide +kernel
theorem d_Req_readOtherFields_47 : decode prog_8_method_9_code 47 = .ok (.aload_n 0, 1) := by decide +kernel
theorem d_Req_readOtherFields_48 : decode prog_8_method_9_code 48 = .ok (.getfield 16, 3) := by decide +kernel
theorem d_Req_readOtherFields_51 : decode prog_8_method_9_code 51 = .ok (.aload_n 0, 1) := by decide +kernel
theorem d_Req_readOtherFields_52 : decode prog_8_method_9_code 52 = .ok (.getfield 16, 3) := by decide +kernel
theorem d_Req_readOtherFields_55 : decode prog_8_method_9_code 55 = .ok (.iconst 4, 1) := by decide +kernel
theorem d_Req_readOtherFields_56 : decode prog_8_method_9_code 56 = .ok (.iconst 0, 1) := by decide +kernel
theorem d_Req_readOtherFields_57 : decode prog_8_method_9_code 57 = .ok (.bipush 40, 2) := by decide +kernel
theorem d_Req_readOtherFields_59 : decode prog_8_method_9_code 59 = .ok (.invokevirtual 78, 3) := by decide +kernel
theorem d_Req_readOtherFields_62 : decode prog_8_method_9_code 62 = .ok (.invokevirtual 101, 3) := by decide +kernel
theorem d_Req_readOtherFields_65 : decode prog_8_method_9_code 65 = .ok (.pop, 1) := by decide +kernel
theorem d_Req_readOtherFields_66 : decode prog_8_method_9_code 66 = .ok (.aload_n 0, 1) := by decide +kernel
theorem d_Req_readOtherFields_67 : decode prog_8_method_9_code 67 = .ok (.iconst 0, 1) := by decide +kernel
theorem d_Req_readOtherFields_68 : decode prog_8_method_9_code 68 = .ok (.putfield 108, 3) := by decide +kernel
theorem d_Req_readOtherFields_71 : decode prog_8_method_9_code 71 = .ok (.aload_n 0, 1) := by decide +kernel
theorem d_Req_readOtherFields_72 : decode prog_8_method_9_code 72 = .ok (.ldc2_w 111, 3) := by decide +kernel
theorem d_Req_readOtherFields_75 : decode prog_8_method_9_code 75 = .ok (.invokevirtual 74, 3) := by decide +kernel
theorem d_Req_readOtherFields_78 : decode prog_8_method_9_code 78 = .ok (.ifCond .eq 30, 3) := by decide +kernel
theorem d_Req_readOtherFields_81 : decode prog_8_method_9_code 81 = .ok (.aload_n 0, 1) := by decide +kernel
theorem d_Req_readOtherFields_82 : decode prog_8_method_9_code 82 = .ok (.getfield 16, 3) := by decide +kernel
theorem d_Req_readOtherFields_85 : decode prog_8_method_9_code 85 = .ok (.iconst 2, 1) := by decide +kernel
theorem d_Req_readOtherFields_86 : decode prog_8_method_9_code 86 = .ok (.bipush 6, 2) := by decide +kernel
theorem d_Req_readOtherFields_88 : decode prog_8_method_9_code 88 = .ok (.bipush 6, 2) := by decide +kernel
theorem d_Req_readOtherFields_90 : decode prog_8_method_9_code 90 = .ok (.invokevirtual 78, 3) := by decide +kernel
theorem d_Req_readOtherFields_93 : decode prog_8_method_9_code 93 = .ok (.pop, 1) := by decide +kernel
theorem d_Req_readOtherFields_94 : decode prog_8_method_9_code 94 = .ok (.aload_n 0, 1) := by decide +kernel
theorem d_Req_readOtherFields_95 : decode prog_8_method_9_code 95 = .ok (.aload_n 0, 1) := by decide +kernel
theorem d_Req_readOtherFields_96 : decode prog_8_method_9_code 96 = .ok (.getfield 16, 3) := by decide +kernel
theorem d_Req_readOtherFields_99 : decode prog_8_method_9_code 99 = .ok (.bipush 6, 2) := by decide +kernel
theorem d_Req_readOtherFields_101 : decode prog_8_method_9_code 101 = .ok (.invokevirtual 31, 3) := by decide +kernel
theorem d_Req_readOtherFields_104 : decode prog_8_method_9_code 104 = .ok (.l2i, 1) := by decide +kernel
theorem d_Req_readOtherFields_105 : decode prog_8_method_9_code 105 = .ok (.putfield 108, 3) := by decide +kernel
theorem d_Req_readOtherFields_108 : decode prog_8_method_9_code 108 = .ok (.return_, 1) := by decide +kernel
theorem d_Rdr_isAtGoodEnd_0 : decode prog_7_method_3_code 0 = .ok (.aload_n 0, 1) := by decide +kernel
theorem d_Rdr_isAtGoodEnd_1 : decode prog_7_method_3_code 1 = .ok (.getfield 19, 3) := by decide +kernel
theorem d_Rdr_isAtGoodEnd_4 : decode prog_7_method_3_code 4 = .ok (.ifCond .eq 21, 3) := by decide +kernel
theorem d_Rdr_isAtGoodEnd_7 : decode prog_7_method_3_code 7 = .ok (.aload_n 0, 1) := by decide +kernel
theorem d_Rdr_isAtGoodEnd_8 : decode prog_7_method_3_code 8 = .ok (.getfield 15, 3) := by decide +kernel
theorem d_Rdr_isAtGoodEnd_11 : decode prog_7_method_3_code 11 = .ok (.aload_n 0, 1) := by decide +kernel
theorem d_Rdr_isAtGoodEnd_12 : decode prog_7_method_3_code 12 = .ok (.getfield 9, 3) := by decide +kernel
theorem d_Rdr_isAtGoodEnd_15 : decode prog_7_method_3_code 15 = .ok (.getfield 23, 3) := by decide +kernel
theorem d_Rdr_isAtGoodEnd_18 : decode prog_7_method_3_code 18 = .ok (.if_icmp .ne 7, 3) := by decide +kernel
theorem d_Rdr_isAtGoodEnd_21 : decode prog_7_method_3_code 21 = .ok (.iconst 1, 1) := by decide +kernel
theorem d_Rdr_isAtGoodEnd_22 : decode prog_7_method_3_code 22 = .ok (.goto 4, 3) := by decide +kernel
theorem d_Rdr_isAtGoodEnd_25 : decode prog_7_method_3_code 25 = .ok (.iconst 0, 1) := by decide +kernel
theorem d_Rdr_isAtGoodEnd_26 : decode prog_7_method_3_code 26 = .ok (.ireturn, 1) := by decide +kernel
theorem d_Req_readWhole_0 : decode prog_8_method_4_code 0 = .ok (.aload_n 0, 1) := by decide +kernel
theorem d_Req_readWhole_1 : decode prog_8_method_4_code 1 = .ok (.getfield 16, 3) := by decide +kernel
theorem d_Req_readWhole_4 : decode prog_8_method_4_code 4 = .ok (.invokevirtual 28, 3) := by decide +kernel
theorem d_Req_readWhole_7 : decode prog_8_method_4_code 7 = .ok (.aload_n 0, 1) := by decide +kernel
theorem d_Req_readWhole_8 : decode prog_8_method_4_code 8 = .ok (.aload_n 0, 1) := by decide +kernel
theorem d_Req_readWhole_9 : decode prog_8_method_4_code 9 = .ok (.getfield 16, 3) := by decide +kernel
theorem d_Req_readWhole_12 : decode prog_8_method_4_code 12 = .ok (.iconst 4, 1) := by decide +kernel
theorem d_Req_readWhole_13 : decode prog_8_method_4_code 13 = .ok (.invokevirtual 31, 3) := by decide +kernel
theorem d_Req_readWhole_16 : decode prog_8_method_4_code 16 = .ok (.l2i, 1) := by decide +kernel
theorem d_Req_readWhole_17 : decode prog_8_method_4_code 17 = .ok (.putfield 35, 3) := by decide +kernel
theorem d_Req_readWhole_20 : decode prog_8_method_4_code 20 = .ok (.aload_n 0, 1) := by decide +kernel
theorem d_Req_readWhole_21 : decode prog_8_method_4_code 21 = .ok (.aload_n 0, 1) := by decide +kernel
theorem d_Req_readWhole_22 : decode prog_8_method_4_code 22 = .ok (.getfield 16, 3) := by decide +kernel
theorem d_Req_readWhole_25 : decode prog_8_method_4_code 25 = .ok (.bipush 8, 2) := by decide +kernel
theorem d_Req_readWhole_27 : decode prog_8_method_4_code 27 = .ok (.invokevirtual 38, 3) := by decide +kernel
theorem d_Req_readWhole_30 : decode prog_8_method_4_code 30 = .ok (.putfield 20, 3) := by decide +kernel
theorem d_Req_readWhole_33 : decode prog_8_method_4_code 33 = .ok (.aload_n 0, 1) := by decide +kernel
theorem d_Req_readWhole_34 : decode prog_8_method_4_code 34 = .ok (.getfield 35, 3) := by decide +kernel
theorem d_Req_readWhole_37 : decode prog_8_method_4_code 37 = .ok (.bipush 10, 2) := by decide +kernel
theorem d_Req_readWhole_39 : decode prog_8_method_4_code 39 = .ok (.idiv, 1) := by decide +kernel
theorem d_Req_readWhole_40 : decode prog_8_method_4_code 40 = .ok (.bipush 10, 2) := by decide +kernel
theorem d_Req_readWhole_42 : decode prog_8_method_4_code 42 = .ok (.irem, 1) := by decide +kernel
theorem d_Req_readWhole_43 : decode prog_8_method_4_code 43 = .ok (.ifCond .ne 10, 3) := by decide +kernel
theorem d_Req_readWhole_46 : decode prog_8_method_4_code 46 = .ok (.aload_n 0, 1) := by decide +kernel
theorem d_Req_readWhole_47 : decode prog_8_method_4_code 47 = .ok (.invokevirtual 41, 3) := by decide +kernel
theorem d_Req_readWhole_50 : decode prog_8_method_4_code 50 = .ok (.ifCond .ne 5, 3) := by decide +kernel
theorem d_Req_readWhole_53 : decode prog_8_method_4_code 53 = .ok (.iconst 0, 1) := by decide +kernel
theorem d_Req_readWhole_54 : decode prog_8_method_4_code 54 = .ok (.ireturn, 1) := by decide +kernel
theorem d_Req_readWhole_55 : decode prog_8_method_4_code 55 = .ok (.aload_n 0, 1) := by decide +kernel
theorem d_Req_readWhole_56 : decode prog_8_method_4_code 56 = .ok (.invokevirtual 45, 3) := by decide +kernel
theorem d_Req_readWhole_59 : decode prog_8_method_4_code 59 = .ok (.aload_n 0, 1) := by decide +kernel
theorem d_Req_readWhole_60 : decode prog_8_method_4_code 60 = .ok (.invokevirtual 48, 3) := by decide +kernel
theorem d_Req_readWhole_63 : decode prog_8_method_4_code 63 = .ok (.aload_n 0, 1) := by decide +kernel
theorem d_Req_readWhole_64 : decode prog_8_method_4_code 64 = .ok (.getfield 16, 3) := by decide +kernel
theorem d_Req_readWhole_67 : decode prog_8_method_4_code 67 = .ok (.invokevirtual 51, 3) := by decide +kernel
theorem d_Req_readWhole_70 : decode prog_8_method_4_code 70 = .ok (.ireturn, 1) := by decide +kernel
theorem d_Jou_findSame_0 : decode prog_6_method_3_code 0 = .ok (.iconst 0, 1) := by decide +kernel
theorem d_Jou_findSame_1 : decode prog_6_method_3_code 1 = .ok (.istore_n 2, 1) := by decide +kernel
theorem d_Jou_findSame_2 : decode prog_6_method_3_code 2 = .ok (.iload_n 2, 1) := by decide +kernel
theorem d_Jou_findSame_3 : decode prog_6_method_3_code 3 = .ok (.aload_n 0, 1) := by decide +kernel
theorem d_Jou_findSame_4 : decode prog_6_method_3_code 4 = .ok (.getfield 18, 3) := by decide +kernel
theorem d_Jou_findSame_7 : decode prog_6_method_3_code 7 = .ok (.if_icmp .ge 51, 3) := by decide +kernel
theorem d_Jou_findSame_10 : decode prog_6_method_3_code 10 = .ok (.aload_n 0, 1) := by decide +kernel
theorem d_Jou_findSame_11 : decode prog_6_method_3_code 11 = .ok (.getfield 11, 3) := by decide +kernel
theorem d_Jou_findSame_14 : decode prog_6_method_3_code 14 = .ok (.iload_n 2, 1) := by decide +kernel
theorem d_Jou_findSame_15 : decode prog_6_method_3_code 15 = .ok (.aaload, 1) := by decide +kernel
theorem d_Jou_findSame_16 : decode prog_6_method_3_code 16 = .ok (.astore_n 3, 1) := by decide +kernel
theorem d_Jou_findSame_17 : decode prog_6_method_3_code 17 = .ok (.aload_n 3, 1) := by decide +kernel
theorem d_Jou_findSame_18 : decode prog_6_method_3_code 18 = .ok (.getfield 26, 3) := by decide +kernel
theorem d_Jou_findSame_21 : decode prog_6_method_3_code 21 = .ok (.aload_n 1, 1) := by decide +kernel
theorem d_Jou_findSame_22 : decode prog_6_method_3_code 22 = .ok (.getfield 29, 3) := by decide +kernel
theorem d_Jou_findSame_25 : decode prog_6_method_3_code 25 = .ok (.if_icmp .ne 27, 3) := by decide +kernel
theorem d_Jou_findSame_28 : decode prog_6_method_3_code 28 = .ok (.aload_n 3, 1) := by decide +kernel
theorem d_Jou_findSame_29 : decode prog_6_method_3_code 29 = .ok (.getfield 32, 3) := by decide +kernel
theorem d_Jou_findSame_32 : decode prog_6_method_3_code 32 = .ok (.aload_n 1, 1) := by decide +kernel
theorem d_Jou_findSame_33 : decode prog_6_method_3_code 33 = .ok (.getfield 35, 3) := by decide +kernel
theorem d_Jou_findSame_36 : decode prog_6_method_3_code 36 = .ok (.if_icmp .ne 16, 3) := by decide +kernel
theorem d_Jou_findSame_39 : decode prog_6_method_3_code 39 = .ok (.aload_n 3, 1) := by decide +kernel
theorem d_Jou_findSame_40 : decode prog_6_method_3_code 40 = .ok (.getfield 36, 3) := by decide +kernel
theorem d_Jou_findSame_43 : decode prog_6_method_3_code 43 = .ok (.aload_n 1, 1) := by decide +kernel
theorem d_Jou_findSame_44 : decode prog_6_method_3_code 44 = .ok (.getfield 39, 3) := by decide +kernel
theorem d_Jou_findSame_47 : decode prog_6_method_3_code 47 = .ok (.if_icmp .ne 5, 3) := by decide +kernel
theorem d_Jou_findSame_50 : decode prog_6_method_3_code 50 = .ok (.aload_n 3, 1) := by decide +kernel
theorem d_Jou_findSame_51 : decode prog_6_method_3_code 51 = .ok (.areturn, 1) := by decide +kernel
theorem d_Jou_findSame_52 : decode prog_6_method_3_code 52 = .ok (.iinc 2 1, 3) := by decide +kernel
theorem d_Jou_findSame_55 : decode prog_6_method_3_code 55 = .ok (.goto (-53), 3) := by decide +kernel
theorem d_Jou_findSame_58 : decode prog_6_method_3_code 58 = .ok (.aconst_null, 1) := by decide +kernel
theorem d_Jou_findSame_59 : decode prog_6_method_3_code 59 = .ok (.areturn, 1) := by decide +kernel
theorem d_Dsk_isHandled_0 : decode prog_1_method_15_code 0 = .ok (.iload_n 0, 1) := by decide +kernel
theorem d_Dsk_isHandled_1 : decode prog_1_method_15_code 1 = .ok (.bipush 100, 2) := by decide +kernel
theorem d_Dsk_isHandled_3 : decode prog_1_method_15_code 3 = .ok (.if_icmp .eq 24, 3) := by decide +kernel
theorem d_Dsk_isHandled_6 : decode prog_1_method_15_code 6 = .ok (.iload_n 0, 1) := by decide +kernel
theorem d_Dsk_isHandled_7 : decode prog_1_method_15_code 7 = .ok (.sipush 200, 3) := by decide +kernel
theorem d_Dsk_isHandled_10 : decode prog_1_method_15_code 10 = .ok (.if_icmp .eq 17, 3) := by decide +kernel
theorem d_Dsk_isHandled_13 : decode prog_1_method_15_code 13 = .ok (.iload_n 0, 1) := by decide +kernel
theorem d_Dsk_isHandled_14 : decode prog_1_method_15_code 14 = .ok (.sipush 400, 3) := by decide +kernel
theorem d_Dsk_isHandled_17 : decode prog_1_method_15_code 17 = .ok (.if_icmp .eq 10, 3) := by decide +kernel
theorem d_Dsk_isHandled_20 : decode prog_1_method_15_code 20 = .ok (.iload_n 0, 1) := by decide +kernel
theorem d_Dsk_isHandled_21 : decode prog_1_method_15_code 21 = .ok (.sipush 500, 3) := by decide +kernel
theorem d_Dsk_isHandled_24 : decode prog_1_method_15_code 24 = .ok (.if_icmp .ne 7, 3) := by decide +kernel
theorem d_Dsk_isHandled_27 : decode prog_1_method_15_code 27 = .ok (.iconst 1, 1) := by decide +kernel
theorem d_Dsk_isHandled_28 : decode prog_1_method_15_code 28 = .ok (.goto 4, 3) := by decide +kernel
theorem d_Dsk_isHandled_31 : decode prog_1_method_15_code 31 = .ok (.iconst 0, 1) := by decide +kernel
theorem d_Dsk_isHandled_32 : decode prog_1_method_15_code 32 = .ok (.ireturn, 1) := by decide +kernel
theorem d_Dsk_journalLimit_0 : decode prog_1_method_16_code 0 = .ok (.iload_n 0, 1) := by decide +kernel
theorem d_Dsk_journalLimit_1 : decode prog_1_method_16_code 1 = .ok (.sipush 500, 3) := by decide +kernel
theorem d_Dsk_journalLimit_4 : decode prog_1_method_16_code 4 = .ok (.if_icmp .ne 8, 3) := by decide +kernel
theorem d_Dsk_journalLimit_7 : decode prog_1_method_16_code 7 = .ok (.bipush 32, 2) := by decide +kernel
theorem d_Dsk_journalLimit_9 : decode prog_1_method_16_code 9 = .ok (.goto 5, 3) := by decide +kernel
theorem d_Dsk_journalLimit_12 : decode prog_1_method_16_code 12 = .ok (.bipush 24, 2) := by decide +kernel
theorem d_Dsk_journalLimit_14 : decode prog_1_method_16_code 14 = .ok (.ireturn, 1) := by decide +kernel
theorem d_Req_sortKind_0 : decode prog_8_method_3_code 0 = .ok (.aload_n 0, 1) := by decide +kernel
theorem d_Req_sortKind_1 : decode prog_8_method_3_code 1 = .ok (.getfield 24, 3) := by decide +kernel
theorem d_Req_sortKind_4 : decode prog_8_method_3_code 4 = .ok (.sipush 10000, 3) := by decide +kernel
theorem d_Req_sortKind_7 : decode prog_8_method_3_code 7 = .ok (.idiv, 1) := by decide +kernel
theorem d_Req_sortKind_8 : decode prog_8_method_3_code 8 = .ok (.ireturn, 1) := by decide +kernel
theorem d_Ent_isHoldAt_0 : decode prog_5_method_3_code 0 = .ok (.aload_n 0, 1) := by decide +kernel
theorem d_Ent_isHoldAt_1 : decode prog_5_method_3_code 1 = .ok (.getfield 44, 3) := by decide +kernel
theorem d_Ent_isHoldAt_4 : decode prog_5_method_3_code 4 = .ok (.iconst 1, 1) := by decide +kernel
theorem d_Ent_isHoldAt_5 : decode prog_5_method_3_code 5 = .ok (.if_icmp .ne 20, 3) := by decide +kernel
theorem d_Ent_isHoldAt_8 : decode prog_5_method_3_code 8 = .ok (.lload_n 1, 1) := by decide +kernel
theorem d_Ent_isHoldAt_9 : decode prog_5_method_3_code 9 = .ok (.aload_n 0, 1) := by decide +kernel
theorem d_Ent_isHoldAt_10 : decode prog_5_method_3_code 10 = .ok (.getfield 47, 3) := by decide +kernel
theorem d_Ent_isHoldAt_13 : decode prog_5_method_3_code 13 = .ok (.lsub, 1) := by decide +kernel
theorem d_Ent_isHoldAt_14 : decode prog_5_method_3_code 14 = .ok (.ldc2_w 50, 3) := by decide +kernel
theorem d_Ent_isHoldAt_17 : decode prog_5_method_3_code 17 = .ok (.lcmp, 1) := by decide +kernel
theorem d_Ent_isHoldAt_18 : decode prog_5_method_3_code 18 = .ok (.ifCond .ge 7, 3) := by decide +kernel
theorem d_Ent_isHoldAt_21 : decode prog_5_method_3_code 21 = .ok (.iconst 1, 1) := by decide +kernel
theorem d_Ent_isHoldAt_22 : decode prog_5_method_3_code 22 = .ok (.goto 4, 3) := by decide +kernel
theorem d_Ent_isHoldAt_25 : decode prog_5_method_3_code 25 = .ok (.iconst 0, 1) := by decide +kernel
theorem d_Ent_isHoldAt_26 : decode prog_5_method_3_code 26 = .ok (.ireturn, 1) := by decide +kernel
theorem d_Jou_availableOn_0 : decode prog_6_method_6_code 0 = .ok (.aload_n 1, 1) := by decide +kernel
theorem d_Jou_availableOn_1 : decode prog_6_method_6_code 1 = .ok (.getfield 52, 3) := by decide +kernel
theorem d_Jou_availableOn_4 : decode prog_6_method_6_code 4 = .ok (.lstore_n 2, 1) := by decide +kernel
theorem d_Jou_availableOn_5 : decode prog_6_method_6_code 5 = .ok (.iconst 0, 1) := by decide +kernel
theorem d_Jou_availableOn_6 : decode prog_6_method_6_code 6 = .ok (.istore 4, 2) := by decide +kernel
theorem d_Jou_availableOn_8 : decode prog_6_method_6_code 8 = .ok (.iload 4, 2) := by decide +kernel
theorem d_Jou_availableOn_10 : decode prog_6_method_6_code 10 = .ok (.aload_n 0, 1) := by decide +kernel
theorem d_Jou_availableOn_11 : decode prog_6_method_6_code 11 = .ok (.getfield 18, 3) := by decide +kernel
theorem d_Jou_availableOn_14 : decode prog_6_method_6_code 14 = .ok (.if_icmp .ge 57, 3) := by decide +kernel
theorem d_Jou_availableOn_17 : decode prog_6_method_6_code 17 = .ok (.aload_n 0, 1) := by decide +kernel
theorem d_Jou_availableOn_18 : decode prog_6_method_6_code 18 = .ok (.getfield 11, 3) := by decide +kernel
theorem d_Jou_availableOn_21 : decode prog_6_method_6_code 21 = .ok (.iload 4, 2) := by decide +kernel
theorem d_Jou_availableOn_23 : decode prog_6_method_6_code 23 = .ok (.aaload, 1) := by decide +kernel
theorem d_Jou_availableOn_24 : decode prog_6_method_6_code 24 = .ok (.getfield 57, 3) := by decide +kernel
theorem d_Jou_availableOn_27 : decode prog_6_method_6_code 27 = .ok (.aload_n 1, 1) := by decide +kernel
theorem d_Jou_availableOn_28 : decode prog_6_method_6_code 28 = .ok (.getfield 60, 3) := by decide +kernel
theorem d_Jou_availableOn_31 : decode prog_6_method_6_code 31 = .ok (.lcmp, 1) := by decide +kernel
theorem d_Jou_availableOn_32 : decode prog_6_method_6_code 32 = .ok (.ifCond .ne 33, 3) := by decide +kernel
theorem d_Jou_availableOn_35 : decode prog_6_method_6_code 35 = .ok (.aload_n 0, 1) := by decide +kernel
theorem d_Jou_availableOn_36 : decode prog_6_method_6_code 36 = .ok (.getfield 11, 3) := by decide +kernel
theorem d_Jou_availableOn_39 : decode prog_6_method_6_code 39 = .ok (.iload 4, 2) := by decide +kernel
theorem d_Jou_availableOn_41 : decode prog_6_method_6_code 41 = .ok (.aaload, 1) := by decide +kernel
theorem d_Jou_availableOn_42 : decode prog_6_method_6_code 42 = .ok (.aload_n 0, 1) := by decide +kernel
theorem d_Jou_availableOn_43 : decode prog_6_method_6_code 43 = .ok (.getfield 22, 3) := by decide +kernel
theorem d_Jou_availableOn_46 : decode prog_6_method_6_code 46 = .ok (.invokevirtual 40, 3) := by decide +kernel
theorem d_Jou_availableOn_49 : decode prog_6_method_6_code 49 = .ok (.ifCond .eq 16, 3) := by decide +kernel
theorem d_Jou_availableOn_52 : decode prog_6_method_6_code 52 = .ok (.lload_n 2, 1) := by decide +kernel
theorem d_Jou_availableOn_53 : decode prog_6_method_6_code 53 = .ok (.aload_n 0, 1) := by decide +kernel
theorem d_Jou_availableOn_54 : decode prog_6_method_6_code 54 = .ok (.getfield 11, 3) := by decide +kernel
theorem d_Jou_availableOn_57 : decode prog_6_method_6_code 57 = .ok (.iload 4, 2) := by decide +kernel
theorem d_Jou_availableOn_59 : decode prog_6_method_6_code 59 = .ok (.aaload, 1) := by decide +kernel
theorem d_Jou_availableOn_60 : decode prog_6_method_6_code 60 = .ok (.getfield 61, 3) := by decide +kernel
theorem d_Jou_availableOn_63 : decode prog_6_method_6_code 63 = .ok (.lsub, 1) := by decide +kernel
theorem d_Jou_availableOn_64 : decode prog_6_method_6_code 64 = .ok (.lstore_n 2, 1) := by decide +kernel
theorem d_Jou_availableOn_65 : decode prog_6_method_6_code 65 = .ok (.iinc 4 1, 3) := by decide +kernel
theorem d_Jou_availableOn_68 : decode prog_6_method_6_code 68 = .ok (.goto (-60), 3) := by decide +kernel
theorem d_Jou_availableOn_71 : decode prog_6_method_6_code 71 = .ok (.lload_n 2, 1) := by decide +kernel
theorem d_Jou_availableOn_72 : decode prog_6_method_6_code 72 = .ok (.lreturn, 1) := by decide +kernel
theorem d_Dsk_decideHold_0 : decode prog_1_method_18_code 0 = .ok (.aload_n 0, 1) := by decide +kernel
theorem d_Dsk_decideHold_1 : decode prog_1_method_18_code 1 = .ok (.getfield 26, 3) := by decide +kernel
theorem d_Dsk_decideHold_4 : decode prog_1_method_18_code 4 = .ok (.invokevirtual 166, 3) := by decide +kernel
theorem d_Dsk_decideHold_7 : decode prog_1_method_18_code 7 = .ok (.ifCond .eq 6, 3) := by decide +kernel
theorem d_Dsk_decideHold_10 : decode prog_1_method_18_code 10 = .ok (.bipush 12, 2) := by decide +kernel
theorem d_Dsk_decideHold_12 : decode prog_1_method_18_code 12 = .ok (.ireturn, 1) := by decide +kernel
theorem d_Dsk_decideHold_13 : decode prog_1_method_18_code 13 = .ok (.aload_n 0, 1) := by decide +kernel
theorem d_Dsk_decideHold_14 : decode prog_1_method_18_code 14 = .ok (.getfield 26, 3) := by decide +kernel
theorem d_Dsk_decideHold_17 : decode prog_1_method_18_code 17 = .ok (.getfield 169, 3) := by decide +kernel
theorem d_Dsk_decideHold_20 : decode prog_1_method_18_code 20 = .ok (.aload_n 0, 1) := by decide +kernel
theorem d_Dsk_decideHold_21 : decode prog_1_method_18_code 21 = .ok (.getfield 40, 3) := by decide +kernel
theorem d_Dsk_decideHold_24 : decode prog_1_method_18_code 24 = .ok (.aload_n 1, 1) := by decide +kernel
theorem d_Dsk_decideHold_25 : decode prog_1_method_18_code 25 = .ok (.invokevirtual 99, 3) := by decide +kernel
theorem d_Dsk_decideHold_28 : decode prog_1_method_18_code 28 = .ok (.lcmp, 1) := by decide +kernel
theorem d_Dsk_decideHold_29 : decode prog_1_method_18_code 29 = .ok (.ifCond .le 8, 3) := by decide +kernel
theorem d_Dsk_decideHold_32 : decode prog_1_method_18_code 32 = .ok (.bipush 51, 2) := by decide +kernel
theorem d_Dsk_decideHold_34 : decode prog_1_method_18_code 34 = .ok (.goto 4, 3) := by decide +kernel
theorem d_Dsk_decideHold_37 : decode prog_1_method_18_code 37 = .ok (.iconst 0, 1) := by decide +kernel
theorem d_Dsk_decideHold_38 : decode prog_1_method_18_code 38 = .ok (.ireturn, 1) := by decide +kernel
theorem d_Dsk_debit_0 : decode prog_1_method_21_code 0 = .ok (.aload_n 0, 1) := by decide +kernel
theorem d_Dsk_debit_1 : decode prog_1_method_21_code 1 = .ok (.getfield 26, 3) := by decide +kernel
theorem d_Dsk_debit_4 : decode prog_1_method_21_code 4 = .ok (.getfield 169, 3) := by decide +kernel
theorem d_Dsk_debit_7 : decode prog_1_method_21_code 7 = .ok (.aload_n 0, 1) := by decide +kernel
theorem d_Dsk_debit_8 : decode prog_1_method_21_code 8 = .ok (.getfield 40, 3) := by decide +kernel
theorem d_Dsk_debit_11 : decode prog_1_method_21_code 11 = .ok (.aload_n 1, 1) := by decide +kernel
theorem d_Dsk_debit_12 : decode prog_1_method_21_code 12 = .ok (.invokevirtual 99, 3) := by decide +kernel
theorem d_Dsk_debit_15 : decode prog_1_method_21_code 15 = .ok (.lcmp, 1) := by decide +kernel
theorem d_Dsk_debit_16 : decode prog_1_method_21_code 16 = .ok (.ifCond .le 6, 3) := by decide +kernel
theorem d_Dsk_debit_19 : decode prog_1_method_21_code 19 = .ok (.bipush 51, 2) := by decide +kernel
theorem d_Dsk_debit_21 : decode prog_1_method_21_code 21 = .ok (.ireturn, 1) := by decide +kernel
theorem d_Dsk_debit_22 : decode prog_1_method_21_code 22 = .ok (.aload_n 1, 1) := by decide +kernel
theorem d_Dsk_debit_23 : decode prog_1_method_21_code 23 = .ok (.dup, 1) := by decide +kernel
theorem d_Dsk_debit_24 : decode prog_1_method_21_code 24 = .ok (.getfield 94, 3) := by decide +kernel
theorem d_Dsk_debit_27 : decode prog_1_method_21_code 27 = .ok (.aload_n 0, 1) := by decide +kernel
theorem d_Dsk_debit_28 : decode prog_1_method_21_code 28 = .ok (.getfield 26, 3) := by decide +kernel
theorem d_Dsk_debit_31 : decode prog_1_method_21_code 31 = .ok (.getfield 169, 3) := by decide +kernel
theorem d_Dsk_debit_34 : decode prog_1_method_21_code 34 = .ok (.lsub, 1) := by decide +kernel
theorem d_Dsk_debit_35 : decode prog_1_method_21_code 35 = .ok (.putfield 94, 3) := by decide +kernel
theorem d_Dsk_debit_38 : decode prog_1_method_21_code 38 = .ok (.iconst 0, 1) := by decide +kernel
theorem d_Dsk_debit_39 : decode prog_1_method_21_code 39 = .ok (.ireturn, 1) := by decide +kernel
theorem d_Ent_isOriginalOf_0 : decode prog_5_method_7_code 0 = .ok (.aload_n 0, 1) := by decide +kernel
theorem d_Ent_isOriginalOf_1 : decode prog_5_method_7_code 1 = .ok (.getfield 25, 3) := by decide +kernel
theorem d_Ent_isOriginalOf_4 : decode prog_5_method_7_code 4 = .ok (.aload_n 1, 1) := by decide +kernel
theorem d_Ent_isOriginalOf_5 : decode prog_5_method_7_code 5 = .ok (.getfield 60, 3) := by decide +kernel
theorem d_Ent_isOriginalOf_8 : decode prog_5_method_7_code 8 = .ok (.if_icmp .ne 30, 3) := by decide +kernel
theorem d_Ent_isOriginalOf_11 : decode prog_5_method_7_code 11 = .ok (.aload_n 0, 1) := by decide +kernel
theorem d_Ent_isOriginalOf_12 : decode prog_5_method_7_code 12 = .ok (.getfield 21, 3) := by decide +kernel
theorem d_Ent_isOriginalOf_15 : decode prog_5_method_7_code 15 = .ok (.aload_n 1, 1) := by decide +kernel
theorem d_Ent_isOriginalOf_16 : decode prog_5_method_7_code 16 = .ok (.getfield 18, 3) := by decide +kernel
theorem d_Ent_isOriginalOf_19 : decode prog_5_method_7_code 19 = .ok (.if_icmp .ne 19, 3) := by decide +kernel
theorem d_Ent_isOriginalOf_22 : decode prog_5_method_7_code 22 = .ok (.aload_n 0, 1) := by decide +kernel
theorem d_Ent_isOriginalOf_23 : decode prog_5_method_7_code 23 = .ok (.getfield 30, 3) := by decide +kernel
theorem d_Ent_isOriginalOf_26 : decode prog_5_method_7_code 26 = .ok (.aload_n 1, 1) := by decide +kernel
theorem d_Ent_isOriginalOf_27 : decode prog_5_method_7_code 27 = .ok (.getfield 26, 3) := by decide +kernel
theorem d_Ent_isOriginalOf_30 : decode prog_5_method_7_code 30 = .ok (.lcmp, 1) := by decide +kernel
theorem d_Ent_isOriginalOf_31 : decode prog_5_method_7_code 31 = .ok (.ifCond .ne 7, 3) := by decide +kernel
theorem d_Ent_isOriginalOf_34 : decode prog_5_method_7_code 34 = .ok (.iconst 1, 1) := by decide +kernel
theorem d_Ent_isOriginalOf_35 : decode prog_5_method_7_code 35 = .ok (.goto 4, 3) := by decide +kernel
theorem d_Ent_isOriginalOf_38 : decode prog_5_method_7_code 38 = .ok (.iconst 0, 1) := by decide +kernel
theorem d_Ent_isOriginalOf_39 : decode prog_5_method_7_code 39 = .ok (.ireturn, 1) := by decide +kernel
theorem d_Jou_findHold_0 : decode prog_6_method_4_code 0 = .ok (.iconst 0, 1) := by decide +kernel
theorem d_Jou_findHold_1 : decode prog_6_method_4_code 1 = .ok (.istore_n 2, 1) := by decide +kernel
theorem d_Jou_findHold_2 : decode prog_6_method_4_code 2 = .ok (.iload_n 2, 1) := by decide +kernel
theorem d_Jou_findHold_3 : decode prog_6_method_4_code 3 = .ok (.aload_n 0, 1) := by decide +kernel
theorem d_Jou_findHold_4 : decode prog_6_method_4_code 4 = .ok (.getfield 18, 3) := by decide +kernel
theorem d_Jou_findHold_7 : decode prog_6_method_4_code 7 = .ok (.if_icmp .ge 45, 3) := by decide +kernel
theorem d_Jou_findHold_10 : decode prog_6_method_4_code 10 = .ok (.aload_n 0, 1) := by decide +kernel
theorem d_Jou_findHold_11 : decode prog_6_method_4_code 11 = .ok (.getfield 11, 3) := by decide +kernel
theorem d_Jou_findHold_14 : decode prog_6_method_4_code 14 = .ok (.iload_n 2, 1) := by decide +kernel
theorem d_Jou_findHold_15 : decode prog_6_method_4_code 15 = .ok (.aaload, 1) := by decide +kernel
theorem d_Jou_findHold_16 : decode prog_6_method_4_code 16 = .ok (.aload_n 0, 1) := by decide +kernel
theorem d_Jou_findHold_17 : decode prog_6_method_4_code 17 = .ok (.getfield 22, 3) := by decide +kernel
theorem d_Jou_findHold_20 : decode prog_6_method_4_code 20 = .ok (.invokevirtual 40, 3) := by decide +kernel
theorem d_Jou_findHold_23 : decode prog_6_method_4_code 23 = .ok (.ifCond .eq 23, 3) := by decide +kernel
theorem d_Jou_findHold_26 : decode prog_6_method_4_code 26 = .ok (.aload_n 0, 1) := by decide +kernel
theorem d_Jou_findHold_27 : decode prog_6_method_4_code 27 = .ok (.getfield 11, 3) := by decide +kernel
theorem d_Jou_findHold_30 : decode prog_6_method_4_code 30 = .ok (.iload_n 2, 1) := by decide +kernel
theorem d_Jou_findHold_31 : decode prog_6_method_4_code 31 = .ok (.aaload, 1) := by decide +kernel
theorem d_Jou_findHold_32 : decode prog_6_method_4_code 32 = .ok (.aload_n 1, 1) := by decide +kernel
theorem d_Jou_findHold_33 : decode prog_6_method_4_code 33 = .ok (.invokevirtual 44, 3) := by decide +kernel
theorem d_Jou_findHold_36 : decode prog_6_method_4_code 36 = .ok (.ifCond .eq 10, 3) := by decide +kernel
theorem d_Jou_findHold_39 : decode prog_6_method_4_code 39 = .ok (.aload_n 0, 1) := by decide +kernel
theorem d_Jou_findHold_40 : decode prog_6_method_4_code 40 = .ok (.getfield 11, 3) := by decide +kernel
theorem d_Jou_findHold_43 : decode prog_6_method_4_code 43 = .ok (.iload_n 2, 1) := by decide +kernel
theorem d_Jou_findHold_44 : decode prog_6_method_4_code 44 = .ok (.aaload, 1) := by decide +kernel
theorem d_Jou_findHold_45 : decode prog_6_method_4_code 45 = .ok (.areturn, 1) := by decide +kernel
theorem d_Jou_findHold_46 : decode prog_6_method_4_code 46 = .ok (.iinc 2 1, 3) := by decide +kernel
theorem d_Jou_findHold_49 : decode prog_6_method_4_code 49 = .ok (.goto (-47), 3) := by decide +kernel
theorem d_Jou_findHold_52 : decode prog_6_method_4_code 52 = .ok (.aconst_null, 1) := by decide +kernel
theorem d_Jou_findHold_53 : decode prog_6_method_4_code 53 = .ok (.areturn, 1) := by decide +kernel
theorem d_Dsk_complete_0 : decode prog_1_method_20_code 0 = .ok (.aload_n 0, 1) := by decide +kernel
theorem d_Dsk_complete_1 : decode prog_1_method_20_code 1 = .ok (.getfield 40, 3) := by decide +kernel
theorem d_Dsk_complete_4 : decode prog_1_method_20_code 4 = .ok (.aload_n 0, 1) := by decide +kernel
theorem d_Dsk_complete_5 : decode prog_1_method_20_code 5 = .ok (.getfield 26, 3) := by decide +kernel
theorem d_Dsk_complete_8 : decode prog_1_method_20_code 8 = .ok (.invokevirtual 185, 3) := by decide +kernel
theorem d_Dsk_complete_11 : decode prog_1_method_20_code 11 = .ok (.astore_n 2, 1) := by decide +kernel
theorem d_Dsk_complete_12 : decode prog_1_method_20_code 12 = .ok (.aload_n 2, 1) := by decide +kernel
theorem d_Dsk_complete_13 : decode prog_1_method_20_code 13 = .ok (.ifnonnull 6, 3) := by decide +kernel
theorem d_Dsk_complete_16 : decode prog_1_method_20_code 16 = .ok (.bipush 25, 2) := by decide +kernel
theorem d_Dsk_complete_18 : decode prog_1_method_20_code 18 = .ok (.ireturn, 1) := by decide +kernel
theorem d_Dsk_complete_19 : decode prog_1_method_20_code 19 = .ok (.aload_n 0, 1) := by decide +kernel
theorem d_Dsk_complete_20 : decode prog_1_method_20_code 20 = .ok (.getfield 26, 3) := by decide +kernel
theorem d_Dsk_complete_23 : decode prog_1_method_20_code 23 = .ok (.getfield 169, 3) := by decide +kernel
theorem d_Dsk_complete_26 : decode prog_1_method_20_code 26 = .ok (.aload_n 2, 1) := by decide +kernel
theorem d_Dsk_complete_27 : decode prog_1_method_20_code 27 = .ok (.getfield 125, 3) := by decide +kernel
theorem d_Dsk_complete_30 : decode prog_1_method_20_code 30 = .ok (.lcmp, 1) := by decide +kernel
theorem d_Dsk_complete_31 : decode prog_1_method_20_code 31 = .ok (.ifCond .le 6, 3) := by decide +kernel
theorem d_Dsk_complete_34 : decode prog_1_method_20_code 34 = .ok (.bipush 51, 2) := by decide +kernel
theorem d_Dsk_complete_36 : decode prog_1_method_20_code 36 = .ok (.ireturn, 1) := by decide +kernel
theorem d_Dsk_complete_37 : decode prog_1_method_20_code 37 = .ok (.aload_n 2, 1) := by decide +kernel
theorem d_Dsk_complete_38 : decode prog_1_method_20_code 38 = .ok (.iconst 2, 1) := by decide +kernel
theorem d_Dsk_complete_39 : decode prog_1_method_20_code 39 = .ok (.putfield 188, 3) := by decide +kernel
theorem d_Dsk_complete_42 : decode prog_1_method_20_code 42 = .ok (.aload_n 1, 1) := by decide +kernel
theorem d_Dsk_complete_43 : decode prog_1_method_20_code 43 = .ok (.dup, 1) := by decide +kernel
theorem d_Dsk_complete_44 : decode prog_1_method_20_code 44 = .ok (.getfield 94, 3) := by decide +kernel
theorem d_Dsk_complete_47 : decode prog_1_method_20_code 47 = .ok (.aload_n 0, 1) := by decide +kernel
theorem d_Dsk_complete_48 : decode prog_1_method_20_code 48 = .ok (.getfield 26, 3) := by decide +kernel
theorem d_Dsk_complete_51 : decode prog_1_method_20_code 51 = .ok (.getfield 169, 3) := by decide +kernel
theorem d_Dsk_complete_54 : decode prog_1_method_20_code 54 = .ok (.lsub, 1) := by decide +kernel
theorem d_Dsk_complete_55 : decode prog_1_method_20_code 55 = .ok (.putfield 94, 3) := by decide +kernel
theorem d_Dsk_complete_58 : decode prog_1_method_20_code 58 = .ok (.iconst 0, 1) := by decide +kernel
theorem d_Dsk_complete_59 : decode prog_1_method_20_code 59 = .ok (.ireturn, 1) := by decide +kernel
theorem d_Dsk_credit_0 : decode prog_1_method_22_code 0 = .ok (.aload_n 1, 1) := by decide +kernel
theorem d_Dsk_credit_1 : decode prog_1_method_22_code 1 = .ok (.dup, 1) := by decide +kernel
theorem d_Dsk_credit_2 : decode prog_1_method_22_code 2 = .ok (.getfield 94, 3) := by decide +kernel
theorem d_Dsk_credit_5 : decode prog_1_method_22_code 5 = .ok (.aload_n 0, 1) := by decide +kernel
theorem d_Dsk_credit_6 : decode prog_1_method_22_code 6 = .ok (.getfield 26, 3) := by decide +kernel
theorem d_Dsk_credit_9 : decode prog_1_method_22_code 9 = .ok (.getfield 169, 3) := by decide +kernel
theorem d_Dsk_credit_12 : decode prog_1_method_22_code 12 = .ok (.ladd, 1) := by decide +kernel
theorem d_Dsk_credit_13 : decode prog_1_method_22_code 13 = .ok (.putfield 94, 3) := by decide +kernel
theorem d_Dsk_credit_16 : decode prog_1_method_22_code 16 = .ok (.iconst 0, 1) := by decide +kernel
theorem d_Dsk_credit_17 : decode prog_1_method_22_code 17 = .ok (.ireturn, 1) := by decide +kernel
theorem d_Dsk_decideMoney_0 : decode prog_1_method_19_code 0 = .ok (.aload_n 0, 1) := by decide +kernel
theorem d_Dsk_decideMoney_1 : decode prog_1_method_19_code 1 = .ok (.getfield 26, 3) := by decide +kernel
theorem d_Dsk_decideMoney_4 : decode prog_1_method_19_code 4 = .ok (.ldc2_w 170, 3) := by decide +kernel
theorem d_Dsk_decideMoney_7 : decode prog_1_method_19_code 7 = .ok (.invokevirtual 172, 3) := by decide +kernel
theorem d_Dsk_decideMoney_10 : decode prog_1_method_19_code 10 = .ok (.istore_n 2, 1) := by decide +kernel
theorem d_Dsk_decideMoney_11 : decode prog_1_method_19_code 11 = .ok (.aload_n 0, 1) := by decide +kernel
theorem d_Dsk_decideMoney_12 : decode prog_1_method_19_code 12 = .ok (.getfield 26, 3) := by decide +kernel
theorem d_Dsk_decideMoney_15 : decode prog_1_method_19_code 15 = .ok (.invokevirtual 166, 3) := by decide +kernel
theorem d_Dsk_decideMoney_18 : decode prog_1_method_19_code 18 = .ok (.lookupswitch 59 #[(0, 26), (20, 44)], 26) := by decide +kernel
theorem d_Dsk_decideMoney_44 : decode prog_1_method_19_code 44 = .ok (.iload_n 2, 1) := by decide +kernel
theorem d_Dsk_decideMoney_45 : decode prog_1_method_19_code 45 = .ok (.ifCond .eq 11, 3) := by decide +kernel
theorem d_Dsk_decideMoney_48 : decode prog_1_method_19_code 48 = .ok (.aload_n 0, 1) := by decide +kernel
theorem d_Dsk_decideMoney_49 : decode prog_1_method_19_code 49 = .ok (.aload_n 1, 1) := by decide +kernel
theorem d_Dsk_decideMoney_50 : decode prog_1_method_19_code 50 = .ok (.invokevirtual 176, 3) := by decide +kernel
theorem d_Dsk_decideMoney_53 : decode prog_1_method_19_code 53 = .ok (.goto 8, 3) := by decide +kernel
theorem d_Dsk_decideMoney_56 : decode prog_1_method_19_code 56 = .ok (.aload_n 0, 1) := by decide +kernel
theorem d_Dsk_decideMoney_57 : decode prog_1_method_19_code 57 = .ok (.aload_n 1, 1) := by decide +kernel
theorem d_Dsk_decideMoney_58 : decode prog_1_method_19_code 58 = .ok (.invokevirtual 179, 3) := by decide +kernel
theorem d_Dsk_decideMoney_61 : decode prog_1_method_19_code 61 = .ok (.ireturn, 1) := by decide +kernel
theorem d_Dsk_decideMoney_62 : decode prog_1_method_19_code 62 = .ok (.iload_n 2, 1) := by decide +kernel
theorem d_Dsk_decideMoney_63 : decode prog_1_method_19_code 63 = .ok (.ifCond .eq 8, 3) := by decide +kernel
theorem d_Dsk_decideMoney_66 : decode prog_1_method_19_code 66 = .ok (.bipush 12, 2) := by decide +kernel
theorem d_Dsk_decideMoney_68 : decode prog_1_method_19_code 68 = .ok (.goto 8, 3) := by decide +kernel
theorem d_Dsk_decideMoney_71 : decode prog_1_method_19_code 71 = .ok (.aload_n 0, 1) := by decide +kernel
theorem d_Dsk_decideMoney_72 : decode prog_1_method_19_code 72 = .ok (.aload_n 1, 1) := by decide +kernel
theorem d_Dsk_decideMoney_73 : decode prog_1_method_19_code 73 = .ok (.invokevirtual 182, 3) := by decide +kernel
theorem d_Dsk_decideMoney_76 : decode prog_1_method_19_code 76 = .ok (.ireturn, 1) := by decide +kernel
theorem d_Dsk_decideMoney_77 : decode prog_1_method_19_code 77 = .ok (.bipush 12, 2) := by decide +kernel
theorem d_Dsk_decideMoney_79 : decode prog_1_method_19_code 79 = .ok (.ireturn, 1) := by decide +kernel
theorem d_Ent_isPosted_0 : decode prog_5_method_5_code 0 = .ok (.aload_n 0, 1) := by decide +kernel
theorem d_Ent_isPosted_1 : decode prog_5_method_5_code 1 = .ok (.getfield 15, 3) := by decide +kernel
theorem d_Ent_isPosted_4 : decode prog_5_method_5_code 4 = .ok (.sipush 200, 3) := by decide +kernel
theorem d_Ent_isPosted_7 : decode prog_5_method_5_code 7 = .ok (.if_icmp .ne 22, 3) := by decide +kernel
theorem d_Ent_isPosted_10 : decode prog_5_method_5_code 10 = .ok (.aload_n 0, 1) := by decide +kernel
theorem d_Ent_isPosted_11 : decode prog_5_method_5_code 11 = .ok (.getfield 41, 3) := by decide +kernel
theorem d_Ent_isPosted_14 : decode prog_5_method_5_code 14 = .ok (.ifCond .ne 15, 3) := by decide +kernel
theorem d_Ent_isPosted_17 : decode prog_5_method_5_code 17 = .ok (.aload_n 0, 1) := by decide +kernel
theorem d_Ent_isPosted_18 : decode prog_5_method_5_code 18 = .ok (.getfield 44, 3) := by decide +kernel
theorem d_Ent_isPosted_21 : decode prog_5_method_5_code 21 = .ok (.iconst 3, 1) := by decide +kernel
theorem d_Ent_isPosted_22 : decode prog_5_method_5_code 22 = .ok (.if_icmp .eq 7, 3) := by decide +kernel
theorem d_Ent_isPosted_25 : decode prog_5_method_5_code 25 = .ok (.iconst 1, 1) := by decide +kernel
theorem d_Ent_isPosted_26 : decode prog_5_method_5_code 26 = .ok (.goto 4, 3) := by decide +kernel
theorem d_Ent_isPosted_29 : decode prog_5_method_5_code 29 = .ok (.iconst 0, 1) := by decide +kernel
theorem d_Ent_isPosted_30 : decode prog_5_method_5_code 30 = .ok (.ireturn, 1) := by decide +kernel
theorem d_Jou_findReversible_0 : decode prog_6_method_5_code 0 = .ok (.aload_n 0, 1) := by decide +kernel
theorem d_Jou_findReversible_1 : decode prog_6_method_5_code 1 = .ok (.getfield 18, 3) := by decide +kernel
theorem d_Jou_findReversible_4 : decode prog_6_method_5_code 4 = .ok (.iconst 1, 1) := by decide +kernel
theorem d_Jou_findReversible_5 : decode prog_6_method_5_code 5 = .ok (.isub, 1) := by decide +kernel
theorem d_Jou_findReversible_6 : decode prog_6_method_5_code 6 = .ok (.istore_n 2, 1) := by decide +kernel
theorem d_Jou_findReversible_7 : decode prog_6_method_5_code 7 = .ok (.iload_n 2, 1) := by decide +kernel
theorem d_Jou_findReversible_8 : decode prog_6_method_5_code 8 = .ok (.ifCond .lt 44, 3) := by decide +kernel
theorem d_Jou_findReversible_11 : decode prog_6_method_5_code 11 = .ok (.aload_n 0, 1) := by decide +kernel
theorem d_Jou_findReversible_12 : decode prog_6_method_5_code 12 = .ok (.getfield 11, 3) := by decide +kernel
theorem d_Jou_findReversible_15 : decode prog_6_method_5_code 15 = .ok (.iload_n 2, 1) := by decide +kernel
theorem d_Jou_findReversible_16 : decode prog_6_method_5_code 16 = .ok (.aaload, 1) := by decide +kernel
theorem d_Jou_findReversible_17 : decode prog_6_method_5_code 17 = .ok (.astore_n 3, 1) := by decide +kernel
theorem d_Jou_findReversible_18 : decode prog_6_method_5_code 18 = .ok (.aload_n 3, 1) := by decide +kernel
theorem d_Jou_findReversible_19 : decode prog_6_method_5_code 19 = .ok (.aload_n 0, 1) := by decide +kernel
theorem d_Jou_findReversible_20 : decode prog_6_method_5_code 20 = .ok (.getfield 22, 3) := by decide +kernel
theorem d_Jou_findReversible_23 : decode prog_6_method_5_code 23 = .ok (.invokevirtual 40, 3) := by decide +kernel
theorem d_Jou_findReversible_26 : decode prog_6_method_5_code 26 = .ok (.ifCond .ne 10, 3) := by decide +kernel
theorem d_Jou_findReversible_29 : decode prog_6_method_5_code 29 = .ok (.aload_n 3, 1) := by decide +kernel
theorem d_Jou_findReversible_30 : decode prog_6_method_5_code 30 = .ok (.invokevirtual 48, 3) := by decide +kernel
theorem d_Jou_findReversible_33 : decode prog_6_method_5_code 33 = .ok (.ifCond .eq 13, 3) := by decide +kernel
theorem d_Jou_findReversible_36 : decode prog_6_method_5_code 36 = .ok (.aload_n 3, 1) := by decide +kernel
theorem d_Jou_findReversible_37 : decode prog_6_method_5_code 37 = .ok (.aload_n 1, 1) := by decide +kernel
theorem d_Jou_findReversible_38 : decode prog_6_method_5_code 38 = .ok (.invokevirtual 44, 3) := by decide +kernel
theorem d_Jou_findReversible_41 : decode prog_6_method_5_code 41 = .ok (.ifCond .eq 5, 3) := by decide +kernel
theorem d_Jou_findReversible_44 : decode prog_6_method_5_code 44 = .ok (.aload_n 3, 1) := by decide +kernel
theorem d_Jou_findReversible_45 : decode prog_6_method_5_code 45 = .ok (.areturn, 1) := by decide +kernel
theorem d_Jou_findReversible_46 : decode prog_6_method_5_code 46 = .ok (.iinc 2 (-1), 3) := by decide +kernel
theorem d_Jou_findReversible_49 : decode prog_6_method_5_code 49 = .ok (.goto (-42), 3) := by decide +kernel
theorem d_Jou_findReversible_52 : decode prog_6_method_5_code 52 = .ok (.aconst_null, 1) := by decide +kernel
theorem d_Jou_findReversible_53 : decode prog_6_method_5_code 53 = .ok (.areturn, 1) := by decide +kernel
theorem d_Ent_moved_0 : decode prog_5_method_6_code 0 = .ok (.aload_n 0, 1) := by decide +kernel
theorem d_Ent_moved_1 : decode prog_5_method_6_code 1 = .ok (.invokevirtual 56, 3) := by decide +kernel
theorem d_Ent_moved_4 : decode prog_5_method_6_code 4 = .ok (.ifCond .ne 5, 3) := by decide +kernel
theorem d_Ent_moved_7 : decode prog_5_method_6_code 7 = .ok (.lconst 0, 1) := by decide +kernel
theorem d_Ent_moved_8 : decode prog_5_method_6_code 8 = .ok (.lreturn, 1) := by decide +kernel
theorem d_Ent_moved_9 : decode prog_5_method_6_code 9 = .ok (.aload_n 0, 1) := by decide +kernel
theorem d_Ent_moved_10 : decode prog_5_method_6_code 10 = .ok (.getfield 35, 3) := by decide +kernel
theorem d_Ent_moved_13 : decode prog_5_method_6_code 13 = .ok (.bipush 20, 2) := by decide +kernel
theorem d_Ent_moved_15 : decode prog_5_method_6_code 15 = .ok (.if_icmp .ne 10, 3) := by decide +kernel
theorem d_Ent_moved_18 : decode prog_5_method_6_code 18 = .ok (.aload_n 0, 1) := by decide +kernel
theorem d_Ent_moved_19 : decode prog_5_method_6_code 19 = .ok (.getfield 40, 3) := by decide +kernel
theorem d_Ent_moved_22 : decode prog_5_method_6_code 22 = .ok (.goto 8, 3) := by decide +kernel
theorem d_Ent_moved_25 : decode prog_5_method_6_code 25 = .ok (.aload_n 0, 1) := by decide +kernel
theorem d_Ent_moved_26 : decode prog_5_method_6_code 26 = .ok (.getfield 40, 3) := by decide +kernel
theorem d_Ent_moved_29 : decode prog_5_method_6_code 29 = .ok (.lneg, 1) := by decide +kernel
theorem d_Ent_moved_30 : decode prog_5_method_6_code 30 = .ok (.lreturn, 1) := by decide +kernel
theorem d_Dsk_reverse_0 : decode prog_1_method_23_code 0 = .ok (.aload_n 0, 1) := by decide +kernel
theorem d_Dsk_reverse_1 : decode prog_1_method_23_code 1 = .ok (.getfield 40, 3) := by decide +kernel
theorem d_Dsk_reverse_4 : decode prog_1_method_23_code 4 = .ok (.aload_n 0, 1) := by decide +kernel
theorem d_Dsk_reverse_5 : decode prog_1_method_23_code 5 = .ok (.getfield 26, 3) := by decide +kernel
theorem d_Dsk_reverse_8 : decode prog_1_method_23_code 8 = .ok (.invokevirtual 191, 3) := by decide +kernel
theorem d_Dsk_reverse_11 : decode prog_1_method_23_code 11 = .ok (.astore_n 2, 1) := by decide +kernel
theorem d_Dsk_reverse_12 : decode prog_1_method_23_code 12 = .ok (.aload_n 2, 1) := by decide +kernel
theorem d_Dsk_reverse_13 : decode prog_1_method_23_code 13 = .ok (.ifnonnull 6, 3) := by decide +kernel
theorem d_Dsk_reverse_16 : decode prog_1_method_23_code 16 = .ok (.bipush 25, 2) := by decide +kernel
theorem d_Dsk_reverse_18 : decode prog_1_method_23_code 18 = .ok (.ireturn, 1) := by decide +kernel
theorem d_Dsk_reverse_19 : decode prog_1_method_23_code 19 = .ok (.aload_n 1, 1) := by decide +kernel
theorem d_Dsk_reverse_20 : decode prog_1_method_23_code 20 = .ok (.dup, 1) := by decide +kernel
theorem d_Dsk_reverse_21 : decode prog_1_method_23_code 21 = .ok (.getfield 94, 3) := by decide +kernel
theorem d_Dsk_reverse_24 : decode prog_1_method_23_code 24 = .ok (.aload_n 2, 1) := by decide +kernel
theorem d_Dsk_reverse_25 : decode prog_1_method_23_code 25 = .ok (.invokevirtual 194, 3) := by decide +kernel
theorem d_Dsk_reverse_28 : decode prog_1_method_23_code 28 = .ok (.lsub, 1) := by decide +kernel
theorem d_Dsk_reverse_29 : decode prog_1_method_23_code 29 = .ok (.putfield 94, 3) := by decide +kernel
theorem d_Dsk_reverse_32 : decode prog_1_method_23_code 32 = .ok (.aload_n 2, 1) := by decide +kernel
theorem d_Dsk_reverse_33 : decode prog_1_method_23_code 33 = .ok (.iconst 3, 1) := by decide +kernel
theorem d_Dsk_reverse_34 : decode prog_1_method_23_code 34 = .ok (.putfield 188, 3) := by decide +kernel
theorem d_Dsk_reverse_37 : decode prog_1_method_23_code 37 = .ok (.iconst 0, 1) := by decide +kernel
theorem d_Dsk_reverse_38 : decode prog_1_method_23_code 38 = .ok (.ireturn, 1) := by decide +kernel
theorem d_Jou_netOf_0 : decode prog_6_method_7_code 0 = .ok (.lconst 0, 1) := by decide +kernel
theorem d_Jou_netOf_1 : decode prog_6_method_7_code 1 = .ok (.lstore_n 2, 1) := by decide +kernel
theorem d_Jou_netOf_2 : decode prog_6_method_7_code 2 = .ok (.iconst 0, 1) := by decide +kernel
theorem d_Jou_netOf_3 : decode prog_6_method_7_code 3 = .ok (.istore 4, 2) := by decide +kernel
theorem d_Jou_netOf_5 : decode prog_6_method_7_code 5 = .ok (.iload 4, 2) := by decide +kernel
theorem d_Jou_netOf_7 : decode prog_6_method_7_code 7 = .ok (.aload_n 0, 1) := by decide +kernel
theorem d_Jou_netOf_8 : decode prog_6_method_7_code 8 = .ok (.getfield 18, 3) := by decide +kernel
theorem d_Jou_netOf_11 : decode prog_6_method_7_code 11 = .ok (.if_icmp .ge 36, 3) := by decide +kernel
theorem d_Jou_netOf_14 : decode prog_6_method_7_code 14 = .ok (.aload_n 0, 1) := by decide +kernel
theorem d_Jou_netOf_15 : decode prog_6_method_7_code 15 = .ok (.getfield 11, 3) := by decide +kernel
theorem d_Jou_netOf_18 : decode prog_6_method_7_code 18 = .ok (.iload 4, 2) := by decide +kernel
theorem d_Jou_netOf_20 : decode prog_6_method_7_code 20 = .ok (.aaload, 1) := by decide +kernel
theorem d_Jou_netOf_21 : decode prog_6_method_7_code 21 = .ok (.getfield 32, 3) := by decide +kernel
theorem d_Jou_netOf_24 : decode prog_6_method_7_code 24 = .ok (.iload_n 1, 1) := by decide +kernel
theorem d_Jou_netOf_25 : decode prog_6_method_7_code 25 = .ok (.if_icmp .ne 16, 3) := by decide +kernel
theorem d_Jou_netOf_28 : decode prog_6_method_7_code 28 = .ok (.lload_n 2, 1) := by decide +kernel
theorem d_Jou_netOf_29 : decode prog_6_method_7_code 29 = .ok (.aload_n 0, 1) := by decide +kernel
theorem d_Jou_netOf_30 : decode prog_6_method_7_code 30 = .ok (.getfield 11, 3) := by decide +kernel
theorem d_Jou_netOf_33 : decode prog_6_method_7_code 33 = .ok (.iload 4, 2) := by decide +kernel
theorem d_Jou_netOf_35 : decode prog_6_method_7_code 35 = .ok (.aaload, 1) := by decide +kernel
theorem d_Jou_netOf_36 : decode prog_6_method_7_code 36 = .ok (.invokevirtual 64, 3) := by decide +kernel
theorem d_Jou_netOf_39 : decode prog_6_method_7_code 39 = .ok (.ladd, 1) := by decide +kernel
theorem d_Jou_netOf_40 : decode prog_6_method_7_code 40 = .ok (.lstore_n 2, 1) := by decide +kernel
theorem d_Jou_netOf_41 : decode prog_6_method_7_code 41 = .ok (.iinc 4 1, 3) := by decide +kernel
theorem d_Jou_netOf_44 : decode prog_6_method_7_code 44 = .ok (.goto (-39), 3) := by decide +kernel
theorem d_Jou_netOf_47 : decode prog_6_method_7_code 47 = .ok (.lload_n 2, 1) := by decide +kernel
theorem d_Jou_netOf_48 : decode prog_6_method_7_code 48 = .ok (.lreturn, 1) := by decide +kernel
theorem d_Jou_takeOut_0 : decode prog_6_method_9_code 0 = .ok (.iconst 0, 1) := by decide +kernel
theorem d_Jou_takeOut_1 : decode prog_6_method_9_code 1 = .ok (.istore_n 2, 1) := by decide +kernel
theorem d_Jou_takeOut_2 : decode prog_6_method_9_code 2 = .ok (.iconst 0, 1) := by decide +kernel
theorem d_Jou_takeOut_3 : decode prog_6_method_9_code 3 = .ok (.istore_n 3, 1) := by decide +kernel
theorem d_Jou_takeOut_4 : decode prog_6_method_9_code 4 = .ok (.iload_n 3, 1) := by decide +kernel
theorem d_Jou_takeOut_5 : decode prog_6_method_9_code 5 = .ok (.aload_n 0, 1) := by decide +kernel
theorem d_Jou_takeOut_6 : decode prog_6_method_9_code 6 = .ok (.getfield 18, 3) := by decide +kernel
theorem d_Jou_takeOut_9 : decode prog_6_method_9_code 9 = .ok (.if_icmp .ge 61, 3) := by decide +kernel
theorem d_Jou_takeOut_12 : decode prog_6_method_9_code 12 = .ok (.aload_n 0, 1) := by decide +kernel
theorem d_Jou_takeOut_13 : decode prog_6_method_9_code 13 = .ok (.getfield 11, 3) := by decide +kernel
theorem d_Jou_takeOut_16 : decode prog_6_method_9_code 16 = .ok (.iload_n 3, 1) := by decide +kernel
theorem d_Jou_takeOut_17 : decode prog_6_method_9_code 17 = .ok (.aaload, 1) := by decide +kernel
theorem d_Jou_takeOut_18 : decode prog_6_method_9_code 18 = .ok (.astore 4, 2) := by decide +kernel
theorem d_Jou_takeOut_20 : decode prog_6_method_9_code 20 = .ok (.aload 4, 2) := by decide +kernel
theorem d_Jou_takeOut_22 : decode prog_6_method_9_code 22 = .ok (.getfield 32, 3) := by decide +kernel
theorem d_Jou_takeOut_25 : decode prog_6_method_9_code 25 = .ok (.iload_n 1, 1) := by decide +kernel
theorem d_Jou_takeOut_26 : decode prog_6_method_9_code 26 = .ok (.if_icmp .ne 15, 3) := by decide +kernel
theorem d_Jou_takeOut_29 : decode prog_6_method_9_code 29 = .ok (.aload 4, 2) := by decide +kernel
theorem d_Jou_takeOut_31 : decode prog_6_method_9_code 31 = .ok (.aload_n 0, 1) := by decide +kernel
theorem d_Jou_takeOut_32 : decode prog_6_method_9_code 32 = .ok (.getfield 22, 3) := by decide +kernel
theorem d_Jou_takeOut_35 : decode prog_6_method_9_code 35 = .ok (.invokevirtual 40, 3) := by decide +kernel
theorem d_Jou_takeOut_38 : decode prog_6_method_9_code 38 = .ok (.ifCond .eq 26, 3) := by decide +kernel
theorem d_Jou_takeOut_41 : decode prog_6_method_9_code 41 = .ok (.aload_n 0, 1) := by decide +kernel
theorem d_Jou_takeOut_42 : decode prog_6_method_9_code 42 = .ok (.getfield 11, 3) := by decide +kernel
theorem d_Jou_takeOut_45 : decode prog_6_method_9_code 45 = .ok (.iload_n 3, 1) := by decide +kernel
theorem d_Jou_takeOut_46 : decode prog_6_method_9_code 46 = .ok (.aload_n 0, 1) := by decide +kernel
theorem d_Jou_takeOut_47 : decode prog_6_method_9_code 47 = .ok (.getfield 11, 3) := by decide +kernel
theorem d_Jou_takeOut_50 : decode prog_6_method_9_code 50 = .ok (.iload_n 2, 1) := by decide +kernel
theorem d_Jou_takeOut_51 : decode prog_6_method_9_code 51 = .ok (.aaload, 1) := by decide +kernel
theorem d_Jou_takeOut_52 : decode prog_6_method_9_code 52 = .ok (.aastore, 1) := by decide +kernel
theorem d_Jou_takeOut_53 : decode prog_6_method_9_code 53 = .ok (.aload_n 0, 1) := by decide +kernel
theorem d_Jou_takeOut_54 : decode prog_6_method_9_code 54 = .ok (.getfield 11, 3) := by decide +kernel
theorem d_Jou_takeOut_57 : decode prog_6_method_9_code 57 = .ok (.iload_n 2, 1) := by decide +kernel
theorem d_Jou_takeOut_58 : decode prog_6_method_9_code 58 = .ok (.aload 4, 2) := by decide +kernel
theorem d_Jou_takeOut_60 : decode prog_6_method_9_code 60 = .ok (.aastore, 1) := by decide +kernel
theorem d_Jou_takeOut_61 : decode prog_6_method_9_code 61 = .ok (.iinc 2 1, 3) := by decide +kernel
theorem d_Jou_takeOut_64 : decode prog_6_method_9_code 64 = .ok (.iinc 3 1, 3) := by decide +kernel
theorem d_Jou_takeOut_67 : decode prog_6_method_9_code 67 = .ok (.goto (-63), 3) := by decide +kernel
theorem d_Jou_takeOut_70 : decode prog_6_method_9_code 70 = .ok (.aload_n 0, 1) := by decide +kernel
theorem d_Jou_takeOut_71 : decode prog_6_method_9_code 71 = .ok (.iload_n 2, 1) := by decide +kernel
theorem d_Jou_takeOut_72 : decode prog_6_method_9_code 72 = .ok (.putfield 18, 3) := by decide +kernel
theorem d_Jou_takeOut_75 : decode prog_6_method_9_code 75 = .ok (.return_, 1) := by decide +kernel
theorem d_Dsk_settle_0 : decode prog_1_method_24_code 0 = .ok (.aload_n 0, 1) := by decide +kernel
theorem d_Dsk_settle_1 : decode prog_1_method_24_code 1 = .ok (.aload_n 0, 1) := by decide +kernel
theorem d_Dsk_settle_2 : decode prog_1_method_24_code 2 = .ok (.getfield 40, 3) := by decide +kernel
theorem d_Dsk_settle_5 : decode prog_1_method_24_code 5 = .ok (.aload_n 0, 1) := by decide +kernel
theorem d_Dsk_settle_6 : decode prog_1_method_24_code 6 = .ok (.getfield 26, 3) := by decide +kernel
theorem d_Dsk_settle_9 : decode prog_1_method_24_code 9 = .ok (.getfield 198, 3) := by decide +kernel
theorem d_Dsk_settle_12 : decode prog_1_method_24_code 12 = .ok (.invokevirtual 128, 3) := by decide +kernel
theorem d_Dsk_settle_15 : decode prog_1_method_24_code 15 = .ok (.putfield 48, 3) := by decide +kernel
theorem d_Dsk_settle_18 : decode prog_1_method_24_code 18 = .ok (.aload_n 0, 1) := by decide +kernel
theorem d_Dsk_settle_19 : decode prog_1_method_24_code 19 = .ok (.dup, 1) := by decide +kernel
theorem d_Dsk_settle_20 : decode prog_1_method_24_code 20 = .ok (.getfield 44, 3) := by decide +kernel
theorem d_Dsk_settle_23 : decode prog_1_method_24_code 23 = .ok (.aload_n 0, 1) := by decide +kernel
theorem d_Dsk_settle_24 : decode prog_1_method_24_code 24 = .ok (.getfield 48, 3) := by decide +kernel
theorem d_Dsk_settle_27 : decode prog_1_method_24_code 27 = .ok (.ladd, 1) := by decide +kernel
theorem d_Dsk_settle_28 : decode prog_1_method_24_code 28 = .ok (.putfield 44, 3) := by decide +kernel
theorem d_Dsk_settle_31 : decode prog_1_method_24_code 31 = .ok (.aload_n 0, 1) := by decide +kernel
theorem d_Dsk_settle_32 : decode prog_1_method_24_code 32 = .ok (.getfield 40, 3) := by decide +kernel
theorem d_Dsk_settle_35 : decode prog_1_method_24_code 35 = .ok (.aload_n 0, 1) := by decide +kernel
theorem d_Dsk_settle_36 : decode prog_1_method_24_code 36 = .ok (.getfield 26, 3) := by decide +kernel
theorem d_Dsk_settle_39 : decode prog_1_method_24_code 39 = .ok (.getfield 198, 3) := by decide +kernel
theorem d_Dsk_settle_42 : decode prog_1_method_24_code 42 = .ok (.invokevirtual 201, 3) := by decide +kernel
theorem d_Dsk_settle_45 : decode prog_1_method_24_code 45 = .ok (.iconst 0, 1) := by decide +kernel
theorem d_Dsk_settle_46 : decode prog_1_method_24_code 46 = .ok (.ireturn, 1) := by decide +kernel
theorem d_Dsk_decide_0 : decode prog_1_method_17_code 0 = .ok (.aload_n 0, 1) := by decide +kernel
theorem d_Dsk_decide_1 : decode prog_1_method_17_code 1 = .ok (.getfield 26, 3) := by decide +kernel
theorem d_Dsk_decide_4 : decode prog_1_method_17_code 4 = .ok (.getfield 136, 3) := by decide +kernel
theorem d_Dsk_decide_7 : decode prog_1_method_17_code 7 = .ok (.sipush 500, 3) := by decide +kernel
theorem d_Dsk_decide_10 : decode prog_1_method_17_code 10 = .ok (.if_icmp .ne 8, 3) := by decide +kernel
theorem d_Dsk_decide_13 : decode prog_1_method_17_code 13 = .ok (.aload_n 0, 1) := by decide +kernel
theorem d_Dsk_decide_14 : decode prog_1_method_17_code 14 = .ok (.invokevirtual 150, 3) := by decide +kernel
theorem d_Dsk_decide_17 : decode prog_1_method_17_code 17 = .ok (.ireturn, 1) := by decide +kernel
theorem d_Dsk_decide_18 : decode prog_1_method_17_code 18 = .ok (.aload_n 0, 1) := by decide +kernel
theorem d_Dsk_decide_19 : decode prog_1_method_17_code 19 = .ok (.getfield 33, 3) := by decide +kernel
theorem d_Dsk_decide_22 : decode prog_1_method_17_code 22 = .ok (.aload_n 0, 1) := by decide +kernel
theorem d_Dsk_decide_23 : decode prog_1_method_17_code 23 = .ok (.getfield 26, 3) := by decide +kernel
theorem d_Dsk_decide_26 : decode prog_1_method_17_code 26 = .ok (.getfield 153, 3) := by decide +kernel
theorem d_Dsk_decide_29 : decode prog_1_method_17_code 29 = .ok (.invokevirtual 88, 3) := by decide +kernel
theorem d_Dsk_decide_32 : decode prog_1_method_17_code 32 = .ok (.astore_n 1, 1) := by decide +kernel
theorem d_Dsk_decide_33 : decode prog_1_method_17_code 33 = .ok (.aload_n 1, 1) := by decide +kernel
theorem d_Dsk_decide_34 : decode prog_1_method_17_code 34 = .ok (.ifnonnull 6, 3) := by decide +kernel
theorem d_Dsk_decide_37 : decode prog_1_method_17_code 37 = .ok (.bipush 14, 2) := by decide +kernel
theorem d_Dsk_decide_39 : decode prog_1_method_17_code 39 = .ok (.ireturn, 1) := by decide +kernel
theorem d_Dsk_decide_40 : decode prog_1_method_17_code 40 = .ok (.aload_n 0, 1) := by decide +kernel
theorem d_Dsk_decide_41 : decode prog_1_method_17_code 41 = .ok (.getfield 26, 3) := by decide +kernel
theorem d_Dsk_decide_44 : decode prog_1_method_17_code 44 = .ok (.getfield 136, 3) := by decide +kernel
theorem d_Dsk_decide_47 : decode prog_1_method_17_code 47 = .ok (.lookupswitch 37 #[(100, 25), (200, 31)], 25) := by decide +kernel
theorem d_Dsk_decide_72 : decode prog_1_method_17_code 72 = .ok (.aload_n 0, 1) := by decide +kernel
theorem d_Dsk_decide_73 : decode prog_1_method_17_code 73 = .ok (.aload_n 1, 1) := by decide +kernel
theorem d_Dsk_decide_74 : decode prog_1_method_17_code 74 = .ok (.invokevirtual 156, 3) := by decide +kernel
theorem d_Dsk_decide_77 : decode prog_1_method_17_code 77 = .ok (.ireturn, 1) := by decide +kernel
theorem d_Dsk_decide_78 : decode prog_1_method_17_code 78 = .ok (.aload_n 0, 1) := by decide +kernel
theorem d_Dsk_decide_79 : decode prog_1_method_17_code 79 = .ok (.aload_n 1, 1) := by decide +kernel
theorem d_Dsk_decide_80 : decode prog_1_method_17_code 80 = .ok (.invokevirtual 160, 3) := by decide +kernel
theorem d_Dsk_decide_83 : decode prog_1_method_17_code 83 = .ok (.ireturn, 1) := by decide +kernel
theorem d_Dsk_decide_84 : decode prog_1_method_17_code 84 = .ok (.aload_n 0, 1) := by decide +kernel
theorem d_Dsk_decide_85 : decode prog_1_method_17_code 85 = .ok (.aload_n 1, 1) := by decide +kernel
theorem d_Dsk_decide_86 : decode prog_1_method_17_code 86 = .ok (.invokevirtual 163, 3) := by decide +kernel
theorem d_Dsk_decide_89 : decode prog_1_method_17_code 89 = .ok (.ireturn, 1) := by decide +kernel
theorem d_Ent_fill_0 : decode prog_5_method_2_code 0 = .ok (.aload_n 0, 1) := by decide +kernel
theorem d_Ent_fill_1 : decode prog_5_method_2_code 1 = .ok (.aload_n 1, 1) := by decide +kernel
theorem d_Ent_fill_2 : decode prog_5_method_2_code 2 = .ok (.getfield 9, 3) := by decide +kernel
theorem d_Ent_fill_5 : decode prog_5_method_2_code 5 = .ok (.putfield 15, 3) := by decide +kernel
theorem d_Ent_fill_8 : decode prog_5_method_2_code 8 = .ok (.aload_n 0, 1) := by decide +kernel
theorem d_Ent_fill_9 : decode prog_5_method_2_code 9 = .ok (.aload_n 1, 1) := by decide +kernel
theorem d_Ent_fill_10 : decode prog_5_method_2_code 10 = .ok (.getfield 18, 3) := by decide +kernel
theorem d_Ent_fill_13 : decode prog_5_method_2_code 13 = .ok (.putfield 21, 3) := by decide +kernel
theorem d_Ent_fill_16 : decode prog_5_method_2_code 16 = .ok (.aload_n 0, 1) := by decide +kernel
theorem d_Ent_fill_17 : decode prog_5_method_2_code 17 = .ok (.aload_n 1, 1) := by decide +kernel
theorem d_Ent_fill_18 : decode prog_5_method_2_code 18 = .ok (.getfield 22, 3) := by decide +kernel
theorem d_Ent_fill_21 : decode prog_5_method_2_code 21 = .ok (.putfield 25, 3) := by decide +kernel
theorem d_Ent_fill_24 : decode prog_5_method_2_code 24 = .ok (.aload_n 0, 1) := by decide +kernel
theorem d_Ent_fill_25 : decode prog_5_method_2_code 25 = .ok (.aload_n 1, 1) := by decide +kernel
theorem d_Ent_fill_26 : decode prog_5_method_2_code 26 = .ok (.getfield 26, 3) := by decide +kernel
theorem d_Ent_fill_29 : decode prog_5_method_2_code 29 = .ok (.putfield 30, 3) := by decide +kernel
theorem d_Ent_fill_32 : decode prog_5_method_2_code 32 = .ok (.aload_n 0, 1) := by decide +kernel
theorem d_Ent_fill_33 : decode prog_5_method_2_code 33 = .ok (.aload_n 1, 1) := by decide +kernel
theorem d_Ent_fill_34 : decode prog_5_method_2_code 34 = .ok (.invokevirtual 31, 3) := by decide +kernel
theorem d_Ent_fill_37 : decode prog_5_method_2_code 37 = .ok (.putfield 35, 3) := by decide +kernel
theorem d_Ent_fill_40 : decode prog_5_method_2_code 40 = .ok (.aload_n 0, 1) := by decide +kernel
theorem d_Ent_fill_41 : decode prog_5_method_2_code 41 = .ok (.aload_n 1, 1) := by decide +kernel
theorem d_Ent_fill_42 : decode prog_5_method_2_code 42 = .ok (.getfield 37, 3) := by decide +kernel
theorem d_Ent_fill_45 : decode prog_5_method_2_code 45 = .ok (.putfield 40, 3) := by decide +kernel
theorem d_Ent_fill_48 : decode prog_5_method_2_code 48 = .ok (.aload_n 0, 1) := by decide +kernel
theorem d_Ent_fill_49 : decode prog_5_method_2_code 49 = .ok (.iload_n 2, 1) := by decide +kernel
theorem d_Ent_fill_50 : decode prog_5_method_2_code 50 = .ok (.putfield 41, 3) := by decide +kernel
theorem d_Ent_fill_53 : decode prog_5_method_2_code 53 = .ok (.aload_n 0, 1) := by decide +kernel
theorem d_Ent_fill_54 : decode prog_5_method_2_code 54 = .ok (.aload_n 0, 1) := by decide +kernel
theorem d_Ent_fill_55 : decode prog_5_method_2_code 55 = .ok (.getfield 15, 3) := by decide +kernel
theorem d_Ent_fill_58 : decode prog_5_method_2_code 58 = .ok (.bipush 100, 2) := by decide +kernel
theorem d_Ent_fill_60 : decode prog_5_method_2_code 60 = .ok (.if_icmp .ne 11, 3) := by decide +kernel
theorem d_Ent_fill_63 : decode prog_5_method_2_code 63 = .ok (.iload_n 2, 1) := by decide +kernel
theorem d_Ent_fill_64 : decode prog_5_method_2_code 64 = .ok (.ifCond .ne 7, 3) := by decide +kernel
theorem d_Ent_fill_67 : decode prog_5_method_2_code 67 = .ok (.iconst 1, 1) := by decide +kernel
theorem d_Ent_fill_68 : decode prog_5_method_2_code 68 = .ok (.goto 4, 3) := by decide +kernel
theorem d_Ent_fill_71 : decode prog_5_method_2_code 71 = .ok (.iconst 0, 1) := by decide +kernel
theorem d_Ent_fill_72 : decode prog_5_method_2_code 72 = .ok (.putfield 44, 3) := by decide +kernel
theorem d_Ent_fill_75 : decode prog_5_method_2_code 75 = .ok (.aload_n 0, 1) := by decide +kernel
theorem d_Ent_fill_76 : decode prog_5_method_2_code 76 = .ok (.lload_n 3, 1) := by decide +kernel
theorem d_Ent_fill_77 : decode prog_5_method_2_code 77 = .ok (.putfield 47, 3) := by decide +kernel
theorem d_Ent_fill_80 : decode prog_5_method_2_code 80 = .ok (.return_, 1) := by decide +kernel
theorem d_Jou_add_0 : decode prog_6_method_8_code 0 = .ok (.aload_n 0, 1) := by decide +kernel
theorem d_Jou_add_1 : decode prog_6_method_8_code 1 = .ok (.getfield 18, 3) := by decide +kernel
theorem d_Jou_add_4 : decode prog_6_method_8_code 4 = .ok (.bipush 32, 2) := by decide +kernel
theorem d_Jou_add_6 : decode prog_6_method_8_code 6 = .ok (.if_icmp .ge 31, 3) := by decide +kernel
theorem d_Jou_add_9 : decode prog_6_method_8_code 9 = .ok (.aload_n 0, 1) := by decide +kernel
theorem d_Jou_add_10 : decode prog_6_method_8_code 10 = .ok (.getfield 11, 3) := by decide +kernel
theorem d_Jou_add_13 : decode prog_6_method_8_code 13 = .ok (.aload_n 0, 1) := by decide +kernel
theorem d_Jou_add_14 : decode prog_6_method_8_code 14 = .ok (.getfield 18, 3) := by decide +kernel
theorem d_Jou_add_17 : decode prog_6_method_8_code 17 = .ok (.aaload, 1) := by decide +kernel
theorem d_Jou_add_18 : decode prog_6_method_8_code 18 = .ok (.aload_n 1, 1) := by decide +kernel
theorem d_Jou_add_19 : decode prog_6_method_8_code 19 = .ok (.iload_n 2, 1) := by decide +kernel
theorem d_Jou_add_20 : decode prog_6_method_8_code 20 = .ok (.aload_n 0, 1) := by decide +kernel
theorem d_Jou_add_21 : decode prog_6_method_8_code 21 = .ok (.getfield 22, 3) := by decide +kernel
theorem d_Jou_add_24 : decode prog_6_method_8_code 24 = .ok (.invokevirtual 68, 3) := by decide +kernel
theorem d_Jou_add_27 : decode prog_6_method_8_code 27 = .ok (.aload_n 0, 1) := by decide +kernel
theorem d_Jou_add_28 : decode prog_6_method_8_code 28 = .ok (.dup, 1) := by decide +kernel
theorem d_Jou_add_29 : decode prog_6_method_8_code 29 = .ok (.getfield 18, 3) := by decide +kernel
theorem d_Jou_add_32 : decode prog_6_method_8_code 32 = .ok (.iconst 1, 1) := by decide +kernel
theorem d_Jou_add_33 : decode prog_6_method_8_code 33 = .ok (.iadd, 1) := by decide +kernel
theorem d_Jou_add_34 : decode prog_6_method_8_code 34 = .ok (.putfield 18, 3) := by decide +kernel
theorem d_Jou_add_37 : decode prog_6_method_8_code 37 = .ok (.return_, 1) := by decide +kernel
theorem d_Dsk_answerRequest_0 : decode prog_1_method_14_code 0 = .ok (.aload_n 0, 1) := by decide +kernel
theorem d_Dsk_answerRequest_1 : decode prog_1_method_14_code 1 = .ok (.getfield 40, 3) := by decide +kernel
theorem d_Dsk_answerRequest_4 : decode prog_1_method_14_code 4 = .ok (.aload_n 0, 1) := by decide +kernel
theorem d_Dsk_answerRequest_5 : decode prog_1_method_14_code 5 = .ok (.getfield 26, 3) := by decide +kernel
theorem d_Dsk_answerRequest_8 : decode prog_1_method_14_code 8 = .ok (.invokevirtual 132, 3) := by decide +kernel
theorem d_Dsk_answerRequest_11 : decode prog_1_method_14_code 11 = .ok (.astore_n 1, 1) := by decide +kernel
theorem d_Dsk_answerRequest_12 : decode prog_1_method_14_code 12 = .ok (.aload_n 1, 1) := by decide +kernel
theorem d_Dsk_answerRequest_13 : decode prog_1_method_14_code 13 = .ok (.ifnull 8, 3) := by decide +kernel
theorem d_Dsk_answerRequest_16 : decode prog_1_method_14_code 16 = .ok (.aload_n 1, 1) := by decide +kernel
theorem d_Dsk_answerRequest_17 : decode prog_1_method_14_code 17 = .ok (.getfield 116, 3) := by decide +kernel
theorem d_Dsk_answerRequest_20 : decode prog_1_method_14_code 20 = .ok (.ireturn, 1) := by decide +kernel
theorem d_Dsk_answerRequest_21 : decode prog_1_method_14_code 21 = .ok (.aload_n 0, 1) := by decide +kernel
theorem d_Dsk_answerRequest_22 : decode prog_1_method_14_code 22 = .ok (.getfield 26, 3) := by decide +kernel
theorem d_Dsk_answerRequest_25 : decode prog_1_method_14_code 25 = .ok (.getfield 136, 3) := by decide +kernel
theorem d_Dsk_answerRequest_28 : decode prog_1_method_14_code 28 = .ok (.invokestatic 137, 3) := by decide +kernel
theorem d_Dsk_answerRequest_31 : decode prog_1_method_14_code 31 = .ok (.ifCond .ne 6, 3) := by decide +kernel
theorem d_Dsk_answerRequest_34 : decode prog_1_method_14_code 34 = .ok (.bipush 12, 2) := by decide +kernel
theorem d_Dsk_answerRequest_36 : decode prog_1_method_14_code 36 = .ok (.ireturn, 1) := by decide +kernel
theorem d_Dsk_answerRequest_37 : decode prog_1_method_14_code 37 = .ok (.aload_n 0, 1) := by decide +kernel
theorem d_Dsk_answerRequest_38 : decode prog_1_method_14_code 38 = .ok (.getfield 40, 3) := by decide +kernel
theorem d_Dsk_answerRequest_41 : decode prog_1_method_14_code 41 = .ok (.getfield 103, 3) := by decide +kernel
theorem d_Dsk_answerRequest_44 : decode prog_1_method_14_code 44 = .ok (.aload_n 0, 1) := by decide +kernel
theorem d_Dsk_answerRequest_45 : decode prog_1_method_14_code 45 = .ok (.getfield 26, 3) := by decide +kernel
theorem d_Dsk_answerRequest_48 : decode prog_1_method_14_code 48 = .ok (.getfield 136, 3) := by decide +kernel
theorem d_Dsk_answerRequest_51 : decode prog_1_method_14_code 51 = .ok (.invokestatic 141, 3) := by decide +kernel
theorem d_Dsk_answerRequest_54 : decode prog_1_method_14_code 54 = .ok (.if_icmp .lt 6, 3) := by decide +kernel
theorem d_Dsk_answerRequest_57 : decode prog_1_method_14_code 57 = .ok (.bipush 96, 2) := by decide +kernel
theorem d_Dsk_answerRequest_59 : decode prog_1_method_14_code 59 = .ok (.ireturn, 1) := by decide +kernel
theorem d_Dsk_answerRequest_60 : decode prog_1_method_14_code 60 = .ok (.aload_n 0, 1) := by decide +kernel
theorem d_Dsk_answerRequest_61 : decode prog_1_method_14_code 61 = .ok (.invokevirtual 144, 3) := by decide +kernel
theorem d_Dsk_answerRequest_64 : decode prog_1_method_14_code 64 = .ok (.istore_n 2, 1) := by decide +kernel
theorem d_Dsk_answerRequest_65 : decode prog_1_method_14_code 65 = .ok (.aload_n 0, 1) := by decide +kernel
theorem d_Dsk_answerRequest_66 : decode prog_1_method_14_code 66 = .ok (.getfield 40, 3) := by decide +kernel
theorem d_Dsk_answerRequest_69 : decode prog_1_method_14_code 69 = .ok (.aload_n 0, 1) := by decide +kernel
theorem d_Dsk_answerRequest_70 : decode prog_1_method_14_code 70 = .ok (.getfield 26, 3) := by decide +kernel
theorem d_Dsk_answerRequest_73 : decode prog_1_method_14_code 73 = .ok (.iload_n 2, 1) := by decide +kernel
theorem d_Dsk_answerRequest_74 : decode prog_1_method_14_code 74 = .ok (.invokevirtual 147, 3) := by decide +kernel
theorem d_Dsk_answerRequest_77 : decode prog_1_method_14_code 77 = .ok (.iload_n 2, 1) := by decide +kernel
theorem d_Dsk_answerRequest_78 : decode prog_1_method_14_code 78 = .ok (.ireturn, 1) := by decide +kernel
theorem d_Row_appendDigits_0 : decode prog_3_method_6_code 0 = .ok (.lconst 0, 1) := by decide +kernel
theorem d_Row_appendDigits_1 : decode prog_3_method_6_code 1 = .ok (.lstore 4, 2) := by decide +kernel
theorem d_Row_appendDigits_3 : decode prog_3_method_6_code 3 = .ok (.lload_n 1, 1) := by decide +kernel
theorem d_Row_appendDigits_4 : decode prog_3_method_6_code 4 = .ok (.lstore 6, 2) := by decide +kernel
theorem d_Row_appendDigits_6 : decode prog_3_method_6_code 6 = .ok (.iconst 0, 1) := by decide +kernel
theorem d_Row_appendDigits_7 : decode prog_3_method_6_code 7 = .ok (.istore 8, 2) := by decide +kernel
theorem d_Row_appendDigits_9 : decode prog_3_method_6_code 9 = .ok (.iload 8, 2) := by decide +kernel
theorem d_Row_appendDigits_11 : decode prog_3_method_6_code 11 = .ok (.iload_n 3, 1) := by decide +kernel
theorem d_Row_appendDigits_12 : decode prog_3_method_6_code 12 = .ok (.if_icmp .ge 33, 3) := by decide +kernel
theorem d_Row_appendDigits_15 : decode prog_3_method_6_code 15 = .ok (.lload 4, 2) := by decide +kernel
theorem d_Row_appendDigits_17 : decode prog_3_method_6_code 17 = .ok (.lload 6, 2) := by decide +kernel
theorem d_Row_appendDigits_19 : decode prog_3_method_6_code 19 = .ok (.ldc2_w 23, 3) := by decide +kernel
theorem d_Row_appendDigits_22 : decode prog_3_method_6_code 22 = .ok (.lrem, 1) := by decide +kernel
theorem d_Row_appendDigits_23 : decode prog_3_method_6_code 23 = .ok (.iconst 4, 1) := by decide +kernel
theorem d_Row_appendDigits_24 : decode prog_3_method_6_code 24 = .ok (.iload 8, 2) := by decide +kernel
theorem d_Row_appendDigits_26 : decode prog_3_method_6_code 26 = .ok (.imul, 1) := by decide +kernel
theorem d_Row_appendDigits_27 : decode prog_3_method_6_code 27 = .ok (.lshl, 1) := by decide +kernel
theorem d_Row_appendDigits_28 : decode prog_3_method_6_code 28 = .ok (.lor, 1) := by decide +kernel
theorem d_Row_appendDigits_29 : decode prog_3_method_6_code 29 = .ok (.lstore 4, 2) := by decide +kernel
theorem d_Row_appendDigits_31 : decode prog_3_method_6_code 31 = .ok (.lload 6, 2) := by decide +kernel
theorem d_Row_appendDigits_33 : decode prog_3_method_6_code 33 = .ok (.ldc2_w 23, 3) := by decide +kernel
theorem d_Row_appendDigits_36 : decode prog_3_method_6_code 36 = .ok (.ldiv, 1) := by decide +kernel
theorem d_Row_appendDigits_37 : decode prog_3_method_6_code 37 = .ok (.lstore 6, 2) := by decide +kernel
theorem d_Row_appendDigits_39 : decode prog_3_method_6_code 39 = .ok (.iinc 8 1, 3) := by decide +kernel
theorem d_Row_appendDigits_42 : decode prog_3_method_6_code 42 = .ok (.goto (-33), 3) := by decide +kernel
theorem d_Row_appendDigits_45 : decode prog_3_method_6_code 45 = .ok (.aload_n 0, 1) := by decide +kernel
theorem d_Row_appendDigits_46 : decode prog_3_method_6_code 46 = .ok (.lload 4, 2) := by decide +kernel
theorem d_Row_appendDigits_48 : decode prog_3_method_6_code 48 = .ok (.iload_n 3, 1) := by decide +kernel
theorem d_Row_appendDigits_49 : decode prog_3_method_6_code 49 = .ok (.iconst 2, 1) := by decide +kernel
theorem d_Row_appendDigits_50 : decode prog_3_method_6_code 50 = .ok (.idiv, 1) := by decide +kernel
theorem d_Row_appendDigits_51 : decode prog_3_method_6_code 51 = .ok (.invokevirtual 25, 3) := by decide +kernel
theorem d_Row_appendDigits_54 : decode prog_3_method_6_code 54 = .ok (.return_, 1) := by decide +kernel
theorem d_Row_appendFrom_0 : decode prog_3_method_7_code 0 = .ok (.iload_n 2, 1) := by decide +kernel
theorem d_Row_appendFrom_1 : decode prog_3_method_7_code 1 = .ok (.istore 4, 2) := by decide +kernel
theorem d_Row_appendFrom_3 : decode prog_3_method_7_code 3 = .ok (.iload 4, 2) := by decide +kernel
theorem d_Row_appendFrom_5 : decode prog_3_method_7_code 5 = .ok (.iload_n 3, 1) := by decide +kernel
theorem d_Row_appendFrom_6 : decode prog_3_method_7_code 6 = .ok (.if_icmp .ge 19, 3) := by decide +kernel
theorem d_Row_appendFrom_9 : decode prog_3_method_7_code 9 = .ok (.aload_n 0, 1) := by decide +kernel
theorem d_Row_appendFrom_10 : decode prog_3_method_7_code 10 = .ok (.aload_n 1, 1) := by decide +kernel
theorem d_Row_appendFrom_11 : decode prog_3_method_7_code 11 = .ok (.iload 4, 2) := by decide +kernel
theorem d_Row_appendFrom_13 : decode prog_3_method_7_code 13 = .ok (.invokevirtual 29, 3) := by decide +kernel
theorem d_Row_appendFrom_16 : decode prog_3_method_7_code 16 = .ok (.invokevirtual 19, 3) := by decide +kernel
theorem d_Row_appendFrom_19 : decode prog_3_method_7_code 19 = .ok (.iinc 4 1, 3) := by decide +kernel
theorem d_Row_appendFrom_22 : decode prog_3_method_7_code 22 = .ok (.goto (-19), 3) := by decide +kernel
theorem d_Row_appendFrom_25 : decode prog_3_method_7_code 25 = .ok (.return_, 1) := by decide +kernel
theorem d_Dsk_writeReply_0 : decode prog_1_method_25_code 0 = .ok (.aload_n 0, 1) := by decide +kernel
theorem d_Dsk_writeReply_1 : decode prog_1_method_25_code 1 = .ok (.getfield 26, 3) := by decide +kernel
theorem d_Dsk_writeReply_4 : decode prog_1_method_25_code 4 = .ok (.getfield 136, 3) := by decide +kernel
theorem d_Dsk_writeReply_7 : decode prog_1_method_25_code 7 = .ok (.sipush 500, 3) := by decide +kernel
theorem d_Dsk_writeReply_10 : decode prog_1_method_25_code 10 = .ok (.if_icmp .ne 7, 3) := by decide +kernel
theorem d_Dsk_writeReply_13 : decode prog_1_method_25_code 13 = .ok (.iconst 1, 1) := by decide +kernel
theorem d_Dsk_writeReply_14 : decode prog_1_method_25_code 14 = .ok (.goto 4, 3) := by decide +kernel
theorem d_Dsk_writeReply_17 : decode prog_1_method_25_code 17 = .ok (.iconst 0, 1) := by decide +kernel
theorem d_Dsk_writeReply_18 : decode prog_1_method_25_code 18 = .ok (.istore_n 2, 1) := by decide +kernel
theorem d_Dsk_writeReply_19 : decode prog_1_method_25_code 19 = .ok (.aload_n 0, 1) := by decide +kernel
theorem d_Dsk_writeReply_20 : decode prog_1_method_25_code 20 = .ok (.getfield 26, 3) := by decide +kernel
theorem d_Dsk_writeReply_23 : decode prog_1_method_25_code 23 = .ok (.getfield 204, 3) := by decide +kernel
theorem d_Dsk_writeReply_26 : decode prog_1_method_25_code 26 = .ok (.ldc2_w 207, 3) := by decide +kernel
theorem d_Dsk_writeReply_29 : decode prog_1_method_25_code 29 = .ok (.land, 1) := by decide +kernel
theorem d_Dsk_writeReply_30 : decode prog_1_method_25_code 30 = .ok (.lstore_n 3, 1) := by decide +kernel
theorem d_Dsk_writeReply_31 : decode prog_1_method_25_code 31 = .ok (.aload_n 0, 1) := by decide +kernel
theorem d_Dsk_writeReply_32 : decode prog_1_method_25_code 32 = .ok (.getfield 18, 3) := by decide +kernel
theorem d_Dsk_writeReply_35 : decode prog_1_method_25_code 35 = .ok (.aload_n 0, 1) := by decide +kernel
theorem d_Dsk_writeReply_36 : decode prog_1_method_25_code 36 = .ok (.getfield 26, 3) := by decide +kernel
theorem d_Dsk_writeReply_39 : decode prog_1_method_25_code 39 = .ok (.getfield 136, 3) := by decide +kernel
theorem d_Dsk_writeReply_42 : decode prog_1_method_25_code 42 = .ok (.bipush 10, 2) := by decide +kernel
theorem d_Dsk_writeReply_44 : decode prog_1_method_25_code 44 = .ok (.iadd, 1) := by decide +kernel
theorem d_Dsk_writeReply_45 : decode prog_1_method_25_code 45 = .ok (.i2l, 1) := by decide +kernel
theorem d_Dsk_writeReply_46 : decode prog_1_method_25_code 46 = .ok (.iconst 4, 1) := by decide +kernel
theorem d_Dsk_writeReply_47 : decode prog_1_method_25_code 47 = .ok (.invokevirtual 209, 3) := by decide +kernel
theorem d_Dsk_writeReply_50 : decode prog_1_method_25_code 50 = .ok (.aload_n 0, 1) := by decide +kernel
theorem d_Dsk_writeReply_51 : decode prog_1_method_25_code 51 = .ok (.getfield 18, 3) := by decide +kernel
theorem d_Dsk_writeReply_54 : decode prog_1_method_25_code 54 = .ok (.lload_n 3, 1) := by decide +kernel
theorem d_Dsk_writeReply_55 : decode prog_1_method_25_code 55 = .ok (.ldc2_w 212, 3) := by decide +kernel
theorem d_Dsk_writeReply_58 : decode prog_1_method_25_code 58 = .ok (.lor, 1) := by decide +kernel
theorem d_Dsk_writeReply_59 : decode prog_1_method_25_code 59 = .ok (.iload_n 2, 1) := by decide +kernel
theorem d_Dsk_writeReply_60 : decode prog_1_method_25_code 60 = .ok (.ifCond .eq 9, 3) := by decide +kernel
theorem d_Dsk_writeReply_63 : decode prog_1_method_25_code 63 = .ok (.ldc2_w 214, 3) := by decide +kernel
theorem d_Dsk_writeReply_66 : decode prog_1_method_25_code 66 = .ok (.goto 4, 3) := by decide +kernel
theorem d_Dsk_writeReply_69 : decode prog_1_method_25_code 69 = .ok (.lconst 0, 1) := by decide +kernel
theorem d_Dsk_writeReply_70 : decode prog_1_method_25_code 70 = .ok (.lor, 1) := by decide +kernel
theorem d_Dsk_writeReply_71 : decode prog_1_method_25_code 71 = .ok (.bipush 8, 2) := by decide +kernel
theorem d_Dsk_writeReply_73 : decode prog_1_method_25_code 73 = .ok (.invokevirtual 63, 3) := by decide +kernel
theorem d_Dsk_writeReply_76 : decode prog_1_method_25_code 76 = .ok (.iload_n 2, 1) := by decide +kernel
theorem d_Dsk_writeReply_77 : decode prog_1_method_25_code 77 = .ok (.ifCond .eq 19, 3) := by decide +kernel
theorem d_Dsk_writeReply_80 : decode prog_1_method_25_code 80 = .ok (.aload_n 0, 1) := by decide +kernel
theorem d_Dsk_writeReply_81 : decode prog_1_method_25_code 81 = .ok (.getfield 18, 3) := by decide +kernel
theorem d_Dsk_writeReply_84 : decode prog_1_method_25_code 84 = .ok (.aload_n 0, 1) := by decide +kernel
theorem d_Dsk_writeReply_85 : decode prog_1_method_25_code 85 = .ok (.getfield 48, 3) := by decide +kernel
theorem d_Dsk_writeReply_88 : decode prog_1_method_25_code 88 = .ok (.invokestatic 216, 3) := by decide +kernel
theorem d_Dsk_writeReply_91 : decode prog_1_method_25_code 91 = .ok (.bipush 12, 2) := by decide +kernel
theorem d_Dsk_writeReply_93 : decode prog_1_method_25_code 93 = .ok (.invokevirtual 209, 3) := by decide +kernel
theorem d_Dsk_writeReply_96 : decode prog_1_method_25_code 96 = .ok (.aload_n 0, 1) := by decide +kernel
theorem d_Dsk_writeReply_97 : decode prog_1_method_25_code 97 = .ok (.getfield 26, 3) := by decide +kernel
theorem d_Dsk_writeReply_100 : decode prog_1_method_25_code 100 = .ok (.getfield 222, 3) := by decide +kernel
theorem d_Dsk_writeReply_103 : decode prog_1_method_25_code 103 = .ok (.istore 5, 2) := by decide +kernel
theorem d_Dsk_writeReply_105 : decode prog_1_method_25_code 105 = .ok (.aload_n 0, 1) := by decide +kernel
theorem d_Dsk_writeReply_106 : decode prog_1_method_25_code 106 = .ok (.getfield 18, 3) := by decide +kernel
theorem d_Dsk_writeReply_109 : decode prog_1_method_25_code 109 = .ok (.aload_n 0, 1) := by decide +kernel
theorem d_Dsk_writeReply_110 : decode prog_1_method_25_code 110 = .ok (.getfield 14, 3) := by decide +kernel
theorem d_Dsk_writeReply_113 : decode prog_1_method_25_code 113 = .ok (.bipush 10, 2) := by decide +kernel
theorem d_Dsk_writeReply_115 : decode prog_1_method_25_code 115 = .ok (.iload 5, 2) := by decide +kernel
theorem d_Dsk_writeReply_117 : decode prog_1_method_25_code 117 = .ok (.invokevirtual 225, 3) := by decide +kernel
theorem d_Dsk_writeReply_120 : decode prog_1_method_25_code 120 = .ok (.aload_n 0, 1) := by decide +kernel
theorem d_Dsk_writeReply_121 : decode prog_1_method_25_code 121 = .ok (.getfield 18, 3) := by decide +kernel
theorem d_Dsk_writeReply_124 : decode prog_1_method_25_code 124 = .ok (.bipush 48, 2) := by decide +kernel
theorem d_Dsk_writeReply_126 : decode prog_1_method_25_code 126 = .ok (.iload_n 1, 1) := by decide +kernel
theorem d_Dsk_writeReply_127 : decode prog_1_method_25_code 127 = .ok (.bipush 10, 2) := by decide +kernel
theorem d_Dsk_writeReply_129 : decode prog_1_method_25_code 129 = .ok (.idiv, 1) := by decide +kernel
theorem d_Dsk_writeReply_130 : decode prog_1_method_25_code 130 = .ok (.iadd, 1) := by decide +kernel
theorem d_Dsk_writeReply_131 : decode prog_1_method_25_code 131 = .ok (.invokevirtual 229, 3) := by decide +kernel
theorem d_Dsk_writeReply_134 : decode prog_1_method_25_code 134 = .ok (.aload_n 0, 1) := by decide +kernel
theorem d_Dsk_writeReply_135 : decode prog_1_method_25_code 135 = .ok (.getfield 18, 3) := by decide +kernel
theorem d_Dsk_writeReply_138 : decode prog_1_method_25_code 138 = .ok (.bipush 48, 2) := by decide +kernel
theorem d_Dsk_writeReply_140 : decode prog_1_method_25_code 140 = .ok (.iload_n 1, 1) := by decide +kernel
theorem d_Dsk_writeReply_141 : decode prog_1_method_25_code 141 = .ok (.bipush 10, 2) := by decide +kernel
theorem d_Dsk_writeReply_143 : decode prog_1_method_25_code 143 = .ok (.irem, 1) := by decide +kernel
theorem d_Dsk_writeReply_144 : decode prog_1_method_25_code 144 = .ok (.iadd, 1) := by decide +kernel
theorem d_Dsk_writeReply_145 : decode prog_1_method_25_code 145 = .ok (.invokevirtual 229, 3) := by decide +kernel
theorem d_Dsk_writeReply_148 : decode prog_1_method_25_code 148 = .ok (.aload_n 0, 1) := by decide +kernel
theorem d_Dsk_writeReply_149 : decode prog_1_method_25_code 149 = .ok (.getfield 18, 3) := by decide +kernel
theorem d_Dsk_writeReply_152 : decode prog_1_method_25_code 152 = .ok (.aload_n 0, 1) := by decide +kernel
theorem d_Dsk_writeReply_153 : decode prog_1_method_25_code 153 = .ok (.getfield 14, 3) := by decide +kernel
theorem d_Dsk_writeReply_156 : decode prog_1_method_25_code 156 = .ok (.iload 5, 2) := by decide +kernel
theorem d_Dsk_writeReply_158 : decode prog_1_method_25_code 158 = .ok (.iload 5, 2) := by decide +kernel
theorem d_Dsk_writeReply_160 : decode prog_1_method_25_code 160 = .ok (.iconst 4, 1) := by decide +kernel
theorem d_Dsk_writeReply_161 : decode prog_1_method_25_code 161 = .ok (.iadd, 1) := by decide +kernel
theorem d_Dsk_writeReply_162 : decode prog_1_method_25_code 162 = .ok (.invokevirtual 225, 3) := by decide +kernel
theorem d_Dsk_writeReply_165 : decode prog_1_method_25_code 165 = .ok (.return_, 1) := by decide +kernel
theorem d_Dsk_handle_0 : decode prog_1_method_4_code 0 = .ok (.aload_n 0, 1) := by decide +kernel
theorem d_Dsk_handle_1 : decode prog_1_method_4_code 1 = .ok (.getfield 18, 3) := by decide +kernel
theorem d_Dsk_handle_4 : decode prog_1_method_4_code 4 = .ok (.invokevirtual 67, 3) := by decide +kernel
theorem d_Dsk_handle_7 : decode prog_1_method_4_code 7 = .ok (.aload_n 0, 1) := by decide +kernel
theorem d_Dsk_handle_8 : decode prog_1_method_4_code 8 = .ok (.lconst 0, 1) := by decide +kernel
theorem d_Dsk_handle_9 : decode prog_1_method_4_code 9 = .ok (.putfield 48, 3) := by decide +kernel
theorem d_Dsk_handle_12 : decode prog_1_method_4_code 12 = .ok (.bipush 30, 2) := by decide +kernel
theorem d_Dsk_handle_14 : decode prog_1_method_4_code 14 = .ok (.istore_n 1, 1) := by decide +kernel
theorem d_Dsk_handle_15 : decode prog_1_method_4_code 15 = .ok (.aload_n 0, 1) := by decide +kernel
theorem d_Dsk_handle_16 : decode prog_1_method_4_code 16 = .ok (.getfield 26, 3) := by decide +kernel
theorem d_Dsk_handle_19 : decode prog_1_method_4_code 19 = .ok (.invokevirtual 70, 3) := by decide +kernel
theorem d_Dsk_handle_22 : decode prog_1_method_4_code 22 = .ok (.ifCond .eq 13, 3) := by decide +kernel
theorem d_Dsk_handle_25 : decode prog_1_method_4_code 25 = .ok (.aload_n 0, 1) := by decide +kernel
theorem d_Dsk_handle_26 : decode prog_1_method_4_code 26 = .ok (.invokevirtual 74, 3) := by decide +kernel
theorem d_Dsk_handle_29 : decode prog_1_method_4_code 29 = .ok (.istore_n 1, 1) := by decide +kernel
theorem d_Dsk_handle_30 : decode prog_1_method_4_code 30 = .ok (.aload_n 0, 1) := by decide +kernel
theorem d_Dsk_handle_31 : decode prog_1_method_4_code 31 = .ok (.iload_n 1, 1) := by decide +kernel
theorem d_Dsk_handle_32 : decode prog_1_method_4_code 32 = .ok (.invokevirtual 78, 3) := by decide +kernel
theorem d_Dsk_handle_35 : decode prog_1_method_4_code 35 = .ok (.aload_n 0, 1) := by decide +kernel
theorem d_Dsk_handle_36 : decode prog_1_method_4_code 36 = .ok (.getfield 14, 3) := by decide +kernel
theorem d_Dsk_handle_39 : decode prog_1_method_4_code 39 = .ok (.invokevirtual 67, 3) := by decide +kernel
theorem d_Dsk_handle_42 : decode prog_1_method_4_code 42 = .ok (.iload_n 1, 1) := by decide +kernel
theorem d_Dsk_handle_43 : decode prog_1_method_4_code 43 = .ok (.ireturn, 1) := by decide +kernel
theorem d_Dsk_reply_0 : decode prog_1_method_5_code 0 = .ok (.aload_n 0, 1) := by decide +kernel
theorem d_Dsk_reply_1 : decode prog_1_method_5_code 1 = .ok (.getfield 18, 3) := by decide +kernel
theorem d_Dsk_reply_4 : decode prog_1_method_5_code 4 = .ok (.iload_n 1, 1) := by decide +kernel
theorem d_Dsk_reply_5 : decode prog_1_method_5_code 5 = .ok (.invokevirtual 81, 3) := by decide +kernel
theorem d_Dsk_reply_8 : decode prog_1_method_5_code 8 = .ok (.ireturn, 1) := by decide +kernel
theorem d_Dsk_tick_0 : decode prog_1_method_6_code 0 = .ok (.iload_n 1, 1) := by decide +kernel
theorem d_Dsk_tick_1 : decode prog_1_method_6_code 1 = .ok (.ifCond .lt 10, 3) := by decide +kernel
theorem d_Dsk_tick_4 : decode prog_1_method_6_code 4 = .ok (.iload_n 1, 1) := by decide +kernel
theorem d_Dsk_tick_5 : decode prog_1_method_6_code 5 = .ok (.sipush 1000, 3) := by decide +kernel
theorem d_Dsk_tick_8 : decode prog_1_method_6_code 8 = .ok (.if_icmp .le 5, 3) := by decide +kernel
theorem d_Dsk_tick_11 : decode prog_1_method_6_code 11 = .ok (.iconst 0, 1) := by decide +kernel
theorem d_Dsk_tick_12 : decode prog_1_method_6_code 12 = .ok (.ireturn, 1) := by decide +kernel
theorem d_Dsk_tick_13 : decode prog_1_method_6_code 13 = .ok (.aload_n 0, 1) := by decide +kernel
theorem d_Dsk_tick_14 : decode prog_1_method_6_code 14 = .ok (.getfield 40, 3) := by decide +kernel
theorem d_Dsk_tick_17 : decode prog_1_method_6_code 17 = .ok (.dup, 1) := by decide +kernel
theorem d_Dsk_tick_18 : decode prog_1_method_6_code 18 = .ok (.getfield 85, 3) := by decide +kernel
theorem d_Dsk_tick_21 : decode prog_1_method_6_code 21 = .ok (.iload_n 1, 1) := by decide +kernel
theorem d_Dsk_tick_22 : decode prog_1_method_6_code 22 = .ok (.i2l, 1) := by decide +kernel
theorem d_Dsk_tick_23 : decode prog_1_method_6_code 23 = .ok (.ladd, 1) := by decide +kernel
theorem d_Dsk_tick_24 : decode prog_1_method_6_code 24 = .ok (.putfield 85, 3) := by decide +kernel
theorem d_Dsk_tick_27 : decode prog_1_method_6_code 27 = .ok (.iconst 1, 1) := by decide +kernel
theorem d_Dsk_tick_28 : decode prog_1_method_6_code 28 = .ok (.ireturn, 1) := by decide +kernel
theorem d_Dsk_balance_0 : decode prog_1_method_7_code 0 = .ok (.aload_n 0, 1) := by decide +kernel
theorem d_Dsk_balance_1 : decode prog_1_method_7_code 1 = .ok (.getfield 33, 3) := by decide +kernel
theorem d_Dsk_balance_4 : decode prog_1_method_7_code 4 = .ok (.lload_n 1, 1) := by decide +kernel
theorem d_Dsk_balance_5 : decode prog_1_method_7_code 5 = .ok (.invokevirtual 88, 3) := by decide +kernel
theorem d_Dsk_balance_8 : decode prog_1_method_7_code 8 = .ok (.astore_n 3, 1) := by decide +kernel
theorem d_Dsk_balance_9 : decode prog_1_method_7_code 9 = .ok (.aload_n 3, 1) := by decide +kernel
theorem d_Dsk_balance_10 : decode prog_1_method_7_code 10 = .ok (.ifnonnull 9, 3) := by decide +kernel
theorem d_Dsk_balance_13 : decode prog_1_method_7_code 13 = .ok (.ldc2_w 92, 3) := by decide +kernel
theorem d_Dsk_balance_16 : decode prog_1_method_7_code 16 = .ok (.goto 7, 3) := by decide +kernel
theorem d_Dsk_balance_19 : decode prog_1_method_7_code 19 = .ok (.aload_n 3, 1) := by decide +kernel
theorem d_Dsk_balance_20 : decode prog_1_method_7_code 20 = .ok (.getfield 94, 3) := by decide +kernel
theorem d_Dsk_balance_23 : decode prog_1_method_7_code 23 = .ok (.lreturn, 1) := by decide +kernel
theorem d_Dsk_available_0 : decode prog_1_method_8_code 0 = .ok (.aload_n 0, 1) := by decide +kernel
theorem d_Dsk_available_1 : decode prog_1_method_8_code 1 = .ok (.getfield 33, 3) := by decide +kernel
theorem d_Dsk_available_4 : decode prog_1_method_8_code 4 = .ok (.lload_n 1, 1) := by decide +kernel
theorem d_Dsk_available_5 : decode prog_1_method_8_code 5 = .ok (.invokevirtual 88, 3) := by decide +kernel
theorem d_Dsk_available_8 : decode prog_1_method_8_code 8 = .ok (.astore_n 3, 1) := by decide +kernel
theorem d_Dsk_available_9 : decode prog_1_method_8_code 9 = .ok (.aload_n 3, 1) := by decide +kernel
theorem d_Dsk_available_10 : decode prog_1_method_8_code 10 = .ok (.ifnonnull 9, 3) := by decide +kernel
theorem d_Dsk_available_13 : decode prog_1_method_8_code 13 = .ok (.ldc2_w 92, 3) := by decide +kernel
theorem d_Dsk_available_16 : decode prog_1_method_8_code 16 = .ok (.goto 11, 3) := by decide +kernel
theorem d_Dsk_available_19 : decode prog_1_method_8_code 19 = .ok (.aload_n 0, 1) := by decide +kernel
theorem d_Dsk_available_20 : decode prog_1_method_8_code 20 = .ok (.getfield 40, 3) := by decide +kernel
theorem d_Dsk_available_23 : decode prog_1_method_8_code 23 = .ok (.aload_n 3, 1) := by decide +kernel
theorem d_Dsk_available_24 : decode prog_1_method_8_code 24 = .ok (.invokevirtual 99, 3) := by decide +kernel
theorem d_Dsk_available_27 : decode prog_1_method_8_code 27 = .ok (.lreturn, 1) := by decide +kernel
theorem d_Dsk_entries_0 : decode prog_1_method_9_code 0 = .ok (.aload_n 0, 1) := by decide +kernel
theorem d_Dsk_entries_1 : decode prog_1_method_9_code 1 = .ok (.getfield 40, 3) := by decide +kernel
theorem d_Dsk_entries_4 : decode prog_1_method_9_code 4 = .ok (.getfield 103, 3) := by decide +kernel
theorem d_Dsk_entries_7 : decode prog_1_method_9_code 7 = .ok (.ireturn, 1) := by decide +kernel
theorem d_Jou_lineAt_0 : decode prog_6_method_2_code 0 = .ok (.iload_n 1, 1) := by decide +kernel
theorem d_Jou_lineAt_1 : decode prog_6_method_2_code 1 = .ok (.ifCond .lt 20, 3) := by decide +kernel
theorem d_Jou_lineAt_4 : decode prog_6_method_2_code 4 = .ok (.iload_n 1, 1) := by decide +kernel
theorem d_Jou_lineAt_5 : decode prog_6_method_2_code 5 = .ok (.aload_n 0, 1) := by decide +kernel
theorem d_Jou_lineAt_6 : decode prog_6_method_2_code 6 = .ok (.getfield 18, 3) := by decide +kernel
theorem d_Jou_lineAt_9 : decode prog_6_method_2_code 9 = .ok (.if_icmp .ge 12, 3) := by decide +kernel
theorem d_Jou_lineAt_12 : decode prog_6_method_2_code 12 = .ok (.aload_n 0, 1) := by decide +kernel
theorem d_Jou_lineAt_13 : decode prog_6_method_2_code 13 = .ok (.getfield 11, 3) := by decide +kernel
theorem d_Jou_lineAt_16 : decode prog_6_method_2_code 16 = .ok (.iload_n 1, 1) := by decide +kernel
theorem d_Jou_lineAt_17 : decode prog_6_method_2_code 17 = .ok (.aaload, 1) := by decide +kernel
theorem d_Jou_lineAt_18 : decode prog_6_method_2_code 18 = .ok (.goto 4, 3) := by decide +kernel
theorem d_Jou_lineAt_21 : decode prog_6_method_2_code 21 = .ok (.aconst_null, 1) := by decide +kernel
theorem d_Jou_lineAt_22 : decode prog_6_method_2_code 22 = .ok (.areturn, 1) := by decide +kernel
theorem d_Ent_stateAt_0 : decode prog_5_method_4_code 0 = .ok (.aload_n 0, 1) := by decide +kernel
theorem d_Ent_stateAt_1 : decode prog_5_method_4_code 1 = .ok (.getfield 44, 3) := by decide +kernel
theorem d_Ent_stateAt_4 : decode prog_5_method_4_code 4 = .ok (.iconst 1, 1) := by decide +kernel
theorem d_Ent_stateAt_5 : decode prog_5_method_4_code 5 = .ok (.if_icmp .ne 15, 3) := by decide +kernel
theorem d_Ent_stateAt_8 : decode prog_5_method_4_code 8 = .ok (.aload_n 0, 1) := by decide +kernel
theorem d_Ent_stateAt_9 : decode prog_5_method_4_code 9 = .ok (.lload_n 1, 1) := by decide +kernel
theorem d_Ent_stateAt_10 : decode prog_5_method_4_code 10 = .ok (.invokevirtual 52, 3) := by decide +kernel
theorem d_Ent_stateAt_13 : decode prog_5_method_4_code 13 = .ok (.ifCond .ne 7, 3) := by decide +kernel
theorem d_Ent_stateAt_16 : decode prog_5_method_4_code 16 = .ok (.iconst 0, 1) := by decide +kernel
theorem d_Ent_stateAt_17 : decode prog_5_method_4_code 17 = .ok (.goto 7, 3) := by decide +kernel
theorem d_Ent_stateAt_20 : decode prog_5_method_4_code 20 = .ok (.aload_n 0, 1) := by decide +kernel
theorem d_Ent_stateAt_21 : decode prog_5_method_4_code 21 = .ok (.getfield 44, 3) := by decide +kernel
theorem d_Ent_stateAt_24 : decode prog_5_method_4_code 24 = .ok (.ireturn, 1) := by decide +kernel
theorem d_Dsk_entry_0 : decode prog_1_method_10_code 0 = .ok (.aload_n 0, 1) := by decide +kernel
theorem d_Dsk_entry_1 : decode prog_1_method_10_code 1 = .ok (.getfield 40, 3) := by decide +kernel
theorem d_Dsk_entry_4 : decode prog_1_method_10_code 4 = .ok (.iload_n 1, 1) := by decide +kernel
theorem d_Dsk_entry_5 : decode prog_1_method_10_code 5 = .ok (.invokevirtual 104, 3) := by decide +kernel
theorem d_Dsk_entry_8 : decode prog_1_method_10_code 8 = .ok (.astore_n 3, 1) := by decide +kernel
theorem d_Dsk_entry_9 : decode prog_1_method_10_code 9 = .ok (.aload_n 3, 1) := by decide +kernel
theorem d_Dsk_entry_10 : decode prog_1_method_10_code 10 = .ok (.ifnonnull 5, 3) := by decide +kernel
theorem d_Dsk_entry_13 : decode prog_1_method_10_code 13 = .ok (.iconst (-1), 1) := by decide +kernel
theorem d_Dsk_entry_14 : decode prog_1_method_10_code 14 = .ok (.ireturn, 1) := by decide +kernel
theorem d_Dsk_entry_15 : decode prog_1_method_10_code 15 = .ok (.iload_n 2, 1) := by decide +kernel
theorem d_Dsk_entry_16 : decode prog_1_method_10_code 16 = .ok (.tableswitch 59 0 3 #[32, 37, 42, 47], 32) := by decide +kernel
theorem d_Dsk_entry_48 : decode prog_1_method_10_code 48 = .ok (.aload_n 3, 1) := by decide +kernel
theorem d_Dsk_entry_49 : decode prog_1_method_10_code 49 = .ok (.getfield 108, 3) := by decide +kernel
theorem d_Dsk_entry_52 : decode prog_1_method_10_code 52 = .ok (.ireturn, 1) := by decide +kernel
theorem d_Dsk_entry_53 : decode prog_1_method_10_code 53 = .ok (.aload_n 3, 1) := by decide +kernel
theorem d_Dsk_entry_54 : decode prog_1_method_10_code 54 = .ok (.getfield 113, 3) := by decide +kernel
theorem d_Dsk_entry_57 : decode prog_1_method_10_code 57 = .ok (.ireturn, 1) := by decide +kernel
theorem d_Dsk_entry_58 : decode prog_1_method_10_code 58 = .ok (.aload_n 3, 1) := by decide +kernel
theorem d_Dsk_entry_59 : decode prog_1_method_10_code 59 = .ok (.getfield 116, 3) := by decide +kernel
theorem d_Dsk_entry_62 : decode prog_1_method_10_code 62 = .ok (.ireturn, 1) := by decide +kernel
theorem d_Dsk_entry_63 : decode prog_1_method_10_code 63 = .ok (.aload_n 3, 1) := by decide +kernel
theorem d_Dsk_entry_64 : decode prog_1_method_10_code 64 = .ok (.aload_n 0, 1) := by decide +kernel
theorem d_Dsk_entry_65 : decode prog_1_method_10_code 65 = .ok (.getfield 40, 3) := by decide +kernel
theorem d_Dsk_entry_68 : decode prog_1_method_10_code 68 = .ok (.getfield 85, 3) := by decide +kernel
theorem d_Dsk_entry_71 : decode prog_1_method_10_code 71 = .ok (.invokevirtual 119, 3) := by decide +kernel
theorem d_Dsk_entry_74 : decode prog_1_method_10_code 74 = .ok (.ireturn, 1) := by decide +kernel
theorem d_Dsk_entry_75 : decode prog_1_method_10_code 75 = .ok (.iconst (-1), 1) := by decide +kernel
theorem d_Dsk_entry_76 : decode prog_1_method_10_code 76 = .ok (.ireturn, 1) := by decide +kernel
theorem d_Dsk_amount_0 : decode prog_1_method_11_code 0 = .ok (.aload_n 0, 1) := by decide +kernel
theorem d_Dsk_amount_1 : decode prog_1_method_11_code 1 = .ok (.getfield 40, 3) := by decide +kernel
theorem d_Dsk_amount_4 : decode prog_1_method_11_code 4 = .ok (.iload_n 1, 1) := by decide +kernel
theorem d_Dsk_amount_5 : decode prog_1_method_11_code 5 = .ok (.invokevirtual 104, 3) := by decide +kernel
theorem d_Dsk_amount_8 : decode prog_1_method_11_code 8 = .ok (.astore_n 2, 1) := by decide +kernel
theorem d_Dsk_amount_9 : decode prog_1_method_11_code 9 = .ok (.aload_n 2, 1) := by decide +kernel
theorem d_Dsk_amount_10 : decode prog_1_method_11_code 10 = .ok (.ifnonnull 9, 3) := by decide +kernel
theorem d_Dsk_amount_13 : decode prog_1_method_11_code 13 = .ok (.ldc2_w 123, 3) := by decide +kernel
theorem d_Dsk_amount_16 : decode prog_1_method_11_code 16 = .ok (.goto 7, 3) := by decide +kernel
theorem d_Dsk_amount_19 : decode prog_1_method_11_code 19 = .ok (.aload_n 2, 1) := by decide +kernel
theorem d_Dsk_amount_20 : decode prog_1_method_11_code 20 = .ok (.getfield 125, 3) := by decide +kernel
theorem d_Dsk_amount_23 : decode prog_1_method_11_code 23 = .ok (.lreturn, 1) := by decide +kernel
theorem d_Dsk_net_0 : decode prog_1_method_12_code 0 = .ok (.aload_n 0, 1) := by decide +kernel
theorem d_Dsk_net_1 : decode prog_1_method_12_code 1 = .ok (.getfield 40, 3) := by decide +kernel
theorem d_Dsk_net_4 : decode prog_1_method_12_code 4 = .ok (.iload_n 1, 1) := by decide +kernel
theorem d_Dsk_net_5 : decode prog_1_method_12_code 5 = .ok (.invokevirtual 128, 3) := by decide +kernel
theorem d_Dsk_net_8 : decode prog_1_method_12_code 8 = .ok (.lreturn, 1) := by decide +kernel
theorem d_Dsk_settled_0 : decode prog_1_method_13_code 0 = .ok (.aload_n 0, 1) := by decide +kernel
theorem d_Dsk_settled_1 : decode prog_1_method_13_code 1 = .ok (.getfield 44, 3) := by decide +kernel
theorem d_Dsk_settled_4 : decode prog_1_method_13_code 4 = .ok (.lreturn, 1) := by decide +kernel
