theorem d_Mod_find_0 : decode prog_10_method_2_code 0 = .ok (.iconst 0, 1) := by decide +kernel
theorem d_Mod_find_1 : decode prog_10_method_2_code 1 = .ok (.istore_n 3, 1) := by decide +kernel
theorem d_Mod_find_2 : decode prog_10_method_2_code 2 = .ok (.iload_n 3, 1) := by decide +kernel
theorem d_Mod_find_3 : decode prog_10_method_2_code 3 = .ok (.aload_n 0, 1) := by decide +kernel
theorem d_Mod_find_4 : decode prog_10_method_2_code 4 = .ok (.getfield 60, 3) := by decide +kernel
theorem d_Mod_find_7 : decode prog_10_method_2_code 7 = .ok (.if_icmp .ge 22, 3) := by decide +kernel
theorem d_Mod_find_10 : decode prog_10_method_2_code 10 = .ok (.aload_n 0, 1) := by decide +kernel
theorem d_Mod_find_11 : decode prog_10_method_2_code 11 = .ok (.getfield 7, 3) := by decide +kernel
theorem d_Mod_find_14 : decode prog_10_method_2_code 14 = .ok (.iload_n 3, 1) := by decide +kernel
theorem d_Mod_find_15 : decode prog_10_method_2_code 15 = .ok (.laload, 1) := by decide +kernel
theorem d_Mod_find_16 : decode prog_10_method_2_code 16 = .ok (.lload_n 1, 1) := by decide +kernel
theorem d_Mod_find_17 : decode prog_10_method_2_code 17 = .ok (.lcmp, 1) := by decide +kernel
theorem d_Mod_find_18 : decode prog_10_method_2_code 18 = .ok (.ifCond .ne 5, 3) := by decide +kernel
theorem d_Mod_find_21 : decode prog_10_method_2_code 21 = .ok (.iload_n 3, 1) := by decide +kernel
theorem d_Mod_find_22 : decode prog_10_method_2_code 22 = .ok (.ireturn, 1) := by decide +kernel
theorem d_Mod_find_23 : decode prog_10_method_2_code 23 = .ok (.iinc 3 1, 3) := by decide +kernel
theorem d_Mod_find_26 : decode prog_10_method_2_code 26 = .ok (.goto (-24), 3) := by decide +kernel
theorem d_Mod_find_29 : decode prog_10_method_2_code 29 = .ok (.iconst (-1), 1) := by decide +kernel
theorem d_Mod_find_30 : decode prog_10_method_2_code 30 = .ok (.ireturn, 1) := by decide +kernel
theorem d_Mod_open_0 : decode prog_10_method_3_code 0 = .ok (.aload_n 0, 1) := by decide +kernel
theorem d_Mod_open_1 : decode prog_10_method_3_code 1 = .ok (.lload_n 1, 1) := by decide +kernel
theorem d_Mod_open_2 : decode prog_10_method_3_code 2 = .ok (.invokevirtual 64, 3) := by decide +kernel
theorem d_Mod_open_5 : decode prog_10_method_3_code 5 = .ok (.istore 5, 2) := by decide +kernel
theorem d_Mod_open_7 : decode prog_10_method_3_code 7 = .ok (.iload 5, 2) := by decide +kernel
theorem d_Mod_open_9 : decode prog_10_method_3_code 9 = .ok (.ifCond .ge 40, 3) := by decide +kernel
theorem d_Mod_open_12 : decode prog_10_method_3_code 12 = .ok (.lload_n 1, 1) := by decide +kernel
theorem d_Mod_open_13 : decode prog_10_method_3_code 13 = .ok (.lconst 1, 1) := by decide +kernel
theorem d_Mod_open_14 : decode prog_10_method_3_code 14 = .ok (.lcmp, 1) := by decide +kernel
theorem d_Mod_open_15 : decode prog_10_method_3_code 15 = .ok (.ifCond .lt 34, 3) := by decide +kernel
theorem d_Mod_open_18 : decode prog_10_method_3_code 18 = .ok (.lload_n 1, 1) := by decide +kernel
theorem d_Mod_open_19 : decode prog_10_method_3_code 19 = .ok (.ldc2_w 68, 3) := by decide +kernel
theorem d_Mod_open_22 : decode prog_10_method_3_code 22 = .ok (.lcmp, 1) := by decide +kernel
theorem d_Mod_open_23 : decode prog_10_method_3_code 23 = .ok (.ifCond .gt 26, 3) := by decide +kernel
theorem d_Mod_open_26 : decode prog_10_method_3_code 26 = .ok (.lload_n 3, 1) := by decide +kernel
theorem d_Mod_open_27 : decode prog_10_method_3_code 27 = .ok (.lconst 0, 1) := by decide +kernel
theorem d_Mod_open_28 : decode prog_10_method_3_code 28 = .ok (.lcmp, 1) := by decide +kernel
theorem d_Mod_open_29 : decode prog_10_method_3_code 29 = .ok (.ifCond .lt 20, 3) := by decide +kernel
theorem d_Mod_open_32 : decode prog_10_method_3_code 32 = .ok (.lload_n 3, 1) := by decide +kernel
theorem d_Mod_open_33 : decode prog_10_method_3_code 33 = .ok (.ldc2_w 70, 3) := by decide +kernel
theorem d_Mod_open_36 : decode prog_10_method_3_code 36 = .ok (.lcmp, 1) := by decide +kernel
theorem d_Mod_open_37 : decode prog_10_method_3_code 37 = .ok (.ifCond .gt 12, 3) := by decide +kernel
theorem d_Mod_open_40 : decode prog_10_method_3_code 40 = .ok (.aload_n 0, 1) := by decide +kernel
theorem d_Mod_open_41 : decode prog_10_method_3_code 41 = .ok (.getfield 60, 3) := by decide +kernel
theorem d_Mod_open_44 : decode prog_10_method_3_code 44 = .ok (.bipush 6, 2) := by decide +kernel
theorem d_Mod_open_46 : decode prog_10_method_3_code 46 = .ok (.if_icmp .ne 5, 3) := by decide +kernel
theorem d_Mod_open_49 : decode prog_10_method_3_code 49 = .ok (.iconst 0, 1) := by decide +kernel
theorem d_Mod_open_50 : decode prog_10_method_3_code 50 = .ok (.ireturn, 1) := by decide +kernel
theorem d_Mod_open_51 : decode prog_10_method_3_code 51 = .ok (.aload_n 0, 1) := by decide +kernel
theorem d_Mod_open_52 : decode prog_10_method_3_code 52 = .ok (.getfield 7, 3) := by decide +kernel
theorem d_Mod_open_55 : decode prog_10_method_3_code 55 = .ok (.aload_n 0, 1) := by decide +kernel
theorem d_Mod_open_56 : decode prog_10_method_3_code 56 = .ok (.getfield 60, 3) := by decide +kernel
theorem d_Mod_open_59 : decode prog_10_method_3_code 59 = .ok (.lload_n 1, 1) := by decide +kernel
theorem d_Mod_open_60 : decode prog_10_method_3_code 60 = .ok (.lastore, 1) := by decide +kernel
theorem d_Mod_open_61 : decode prog_10_method_3_code 61 = .ok (.aload_n 0, 1) := by decide +kernel
theorem d_Mod_open_62 : decode prog_10_method_3_code 62 = .ok (.getfield 13, 3) := by decide +kernel
theorem d_Mod_open_65 : decode prog_10_method_3_code 65 = .ok (.aload_n 0, 1) := by decide +kernel
theorem d_Mod_open_66 : decode prog_10_method_3_code 66 = .ok (.getfield 60, 3) := by decide +kernel
theorem d_Mod_open_69 : decode prog_10_method_3_code 69 = .ok (.lload_n 3, 1) := by decide +kernel
theorem d_Mod_open_70 : decode prog_10_method_3_code 70 = .ok (.lastore, 1) := by decide +kernel
theorem d_Mod_open_71 : decode prog_10_method_3_code 71 = .ok (.aload_n 0, 1) := by decide +kernel
theorem d_Mod_open_72 : decode prog_10_method_3_code 72 = .ok (.dup, 1) := by decide +kernel
theorem d_Mod_open_73 : decode prog_10_method_3_code 73 = .ok (.getfield 60, 3) := by decide +kernel
theorem d_Mod_open_76 : decode prog_10_method_3_code 76 = .ok (.iconst 1, 1) := by decide +kernel
theorem d_Mod_open_77 : decode prog_10_method_3_code 77 = .ok (.iadd, 1) := by decide +kernel
theorem d_Mod_open_78 : decode prog_10_method_3_code 78 = .ok (.putfield 60, 3) := by decide +kernel
theorem d_Mod_open_81 : decode prog_10_method_3_code 81 = .ok (.iconst 1, 1) := by decide +kernel
theorem d_Mod_open_82 : decode prog_10_method_3_code 82 = .ok (.ireturn, 1) := by decide +kernel
theorem d_Mod_balance_0 : decode prog_10_method_4_code 0 = .ok (.aload_n 0, 1) := by decide +kernel
theorem d_Mod_balance_1 : decode prog_10_method_4_code 1 = .ok (.lload_n 1, 1) := by decide +kernel
theorem d_Mod_balance_2 : decode prog_10_method_4_code 2 = .ok (.invokevirtual 64, 3) := by decide +kernel
theorem d_Mod_balance_5 : decode prog_10_method_4_code 5 = .ok (.istore_n 3, 1) := by decide +kernel
theorem d_Mod_balance_6 : decode prog_10_method_4_code 6 = .ok (.iload_n 3, 1) := by decide +kernel
theorem d_Mod_balance_7 : decode prog_10_method_4_code 7 = .ok (.ifCond .ge 9, 3) := by decide +kernel
theorem d_Mod_balance_10 : decode prog_10_method_4_code 10 = .ok (.ldc2_w 72, 3) := by decide +kernel
theorem d_Mod_balance_13 : decode prog_10_method_4_code 13 = .ok (.goto 9, 3) := by decide +kernel
theorem d_Mod_balance_16 : decode prog_10_method_4_code 16 = .ok (.aload_n 0, 1) := by decide +kernel
theorem d_Mod_balance_17 : decode prog_10_method_4_code 17 = .ok (.getfield 13, 3) := by decide +kernel
theorem d_Mod_balance_20 : decode prog_10_method_4_code 20 = .ok (.iload_n 3, 1) := by decide +kernel
theorem d_Mod_balance_21 : decode prog_10_method_4_code 21 = .ok (.laload, 1) := by decide +kernel
theorem d_Mod_balance_22 : decode prog_10_method_4_code 22 = .ok (.lreturn, 1) := by decide +kernel
theorem d_Mod_isHold_0 : decode prog_10_method_5_code 0 = .ok (.aload_n 0, 1) := by decide +kernel
theorem d_Mod_isHold_1 : decode prog_10_method_5_code 1 = .ok (.getfield 54, 3) := by decide +kernel
theorem d_Mod_isHold_4 : decode prog_10_method_5_code 4 = .ok (.iload_n 1, 1) := by decide +kernel
theorem d_Mod_isHold_5 : decode prog_10_method_5_code 5 = .ok (.iaload, 1) := by decide +kernel
theorem d_Mod_isHold_6 : decode prog_10_method_5_code 6 = .ok (.iconst 1, 1) := by decide +kernel
theorem d_Mod_isHold_7 : decode prog_10_method_5_code 7 = .ok (.if_icmp .ne 23, 3) := by decide +kernel
theorem d_Mod_isHold_10 : decode prog_10_method_5_code 10 = .ok (.aload_n 0, 1) := by decide +kernel
theorem d_Mod_isHold_11 : decode prog_10_method_5_code 11 = .ok (.getfield 74, 3) := by decide +kernel
theorem d_Mod_isHold_14 : decode prog_10_method_5_code 14 = .ok (.aload_n 0, 1) := by decide +kernel
theorem d_Mod_isHold_15 : decode prog_10_method_5_code 15 = .ok (.getfield 57, 3) := by decide +kernel
theorem d_Mod_isHold_18 : decode prog_10_method_5_code 18 = .ok (.iload_n 1, 1) := by decide +kernel
theorem d_Mod_isHold_19 : decode prog_10_method_5_code 19 = .ok (.iaload, 1) := by decide +kernel
theorem d_Mod_isHold_20 : decode prog_10_method_5_code 20 = .ok (.isub, 1) := by decide +kernel
theorem d_Mod_isHold_21 : decode prog_10_method_5_code 21 = .ok (.bipush 50, 2) := by decide +kernel
theorem d_Mod_isHold_23 : decode prog_10_method_5_code 23 = .ok (.if_icmp .ge 7, 3) := by decide +kernel
theorem d_Mod_isHold_26 : decode prog_10_method_5_code 26 = .ok (.iconst 1, 1) := by decide +kernel
theorem d_Mod_isHold_27 : decode prog_10_method_5_code 27 = .ok (.goto 4, 3) := by decide +kernel
theorem d_Mod_isHold_30 : decode prog_10_method_5_code 30 = .ok (.iconst 0, 1) := by decide +kernel
theorem d_Mod_isHold_31 : decode prog_10_method_5_code 31 = .ok (.ireturn, 1) := by decide +kernel
theorem d_Mod_available_0 : decode prog_10_method_6_code 0 = .ok (.aload_n 0, 1) := by decide +kernel
theorem d_Mod_available_1 : decode prog_10_method_6_code 1 = .ok (.lload_n 1, 1) := by decide +kernel
theorem d_Mod_available_2 : decode prog_10_method_6_code 2 = .ok (.invokevirtual 64, 3) := by decide +kernel
theorem d_Mod_available_5 : decode prog_10_method_6_code 5 = .ok (.istore_n 3, 1) := by decide +kernel
theorem d_Mod_available_6 : decode prog_10_method_6_code 6 = .ok (.iload_n 3, 1) := by decide +kernel
theorem d_Mod_available_7 : decode prog_10_method_6_code 7 = .ok (.ifCond .ge 7, 3) := by decide +kernel
theorem d_Mod_available_10 : decode prog_10_method_6_code 10 = .ok (.ldc2_w 72, 3) := by decide +kernel
theorem d_Mod_available_13 : decode prog_10_method_6_code 13 = .ok (.lreturn, 1) := by decide +kernel
theorem d_Mod_available_14 : decode prog_10_method_6_code 14 = .ok (.aload_n 0, 1) := by decide +kernel
theorem d_Mod_available_15 : decode prog_10_method_6_code 15 = .ok (.getfield 13, 3) := by decide +kernel
theorem d_Mod_available_18 : decode prog_10_method_6_code 18 = .ok (.iload_n 3, 1) := by decide +kernel
theorem d_Mod_available_19 : decode prog_10_method_6_code 19 = .ok (.laload, 1) := by decide +kernel
theorem d_Mod_available_20 : decode prog_10_method_6_code 20 = .ok (.lstore 4, 2) := by decide +kernel
theorem d_Mod_available_22 : decode prog_10_method_6_code 22 = .ok (.iconst 0, 1) := by decide +kernel
theorem d_Mod_available_23 : decode prog_10_method_6_code 23 = .ok (.istore 6, 2) := by decide +kernel
theorem d_Mod_available_25 : decode prog_10_method_6_code 25 = .ok (.iload 6, 2) := by decide +kernel
theorem d_Mod_available_27 : decode prog_10_method_6_code 27 = .ok (.aload_n 0, 1) := by decide +kernel
theorem d_Mod_available_28 : decode prog_10_method_6_code 28 = .ok (.getfield 77, 3) := by decide +kernel
theorem d_Mod_available_31 : decode prog_10_method_6_code 31 = .ok (.if_icmp .ge 47, 3) := by decide +kernel
theorem d_Mod_available_34 : decode prog_10_method_6_code 34 = .ok (.aload_n 0, 1) := by decide +kernel
theorem d_Mod_available_35 : decode prog_10_method_6_code 35 = .ok (.iload 6, 2) := by decide +kernel
theorem d_Mod_available_37 : decode prog_10_method_6_code 37 = .ok (.invokevirtual 80, 3) := by decide +kernel
theorem d_Mod_available_40 : decode prog_10_method_6_code 40 = .ok (.ifCond .eq 28, 3) := by decide +kernel
theorem d_Mod_available_43 : decode prog_10_method_6_code 43 = .ok (.aload_n 0, 1) := by decide +kernel
theorem d_Mod_available_44 : decode prog_10_method_6_code 44 = .ok (.getfield 42, 3) := by decide +kernel
theorem d_Mod_available_47 : decode prog_10_method_6_code 47 = .ok (.iload 6, 2) := by decide +kernel
theorem d_Mod_available_49 : decode prog_10_method_6_code 49 = .ok (.laload, 1) := by decide +kernel
theorem d_Mod_available_50 : decode prog_10_method_6_code 50 = .ok (.lload_n 1, 1) := by decide +kernel
theorem d_Mod_available_51 : decode prog_10_method_6_code 51 = .ok (.lcmp, 1) := by decide +kernel
theorem d_Mod_available_52 : decode prog_10_method_6_code 52 = .ok (.ifCond .ne 16, 3) := by decide +kernel
theorem d_Mod_available_55 : decode prog_10_method_6_code 55 = .ok (.lload 4, 2) := by decide +kernel
theorem d_Mod_available_57 : decode prog_10_method_6_code 57 = .ok (.aload_n 0, 1) := by decide +kernel
theorem d_Mod_available_58 : decode prog_10_method_6_code 58 = .ok (.getfield 48, 3) := by decide +kernel
theorem d_Mod_available_61 : decode prog_10_method_6_code 61 = .ok (.iload 6, 2) := by decide +kernel
theorem d_Mod_available_63 : decode prog_10_method_6_code 63 = .ok (.laload, 1) := by decide +kernel
theorem d_Mod_available_64 : decode prog_10_method_6_code 64 = .ok (.lsub, 1) := by decide +kernel
theorem d_Mod_available_65 : decode prog_10_method_6_code 65 = .ok (.goto 5, 3) := by decide +kernel
theorem d_Mod_available_68 : decode prog_10_method_6_code 68 = .ok (.lload 4, 2) := by decide +kernel
theorem d_Mod_available_70 : decode prog_10_method_6_code 70 = .ok (.lstore 4, 2) := by decide +kernel
theorem d_Mod_available_72 : decode prog_10_method_6_code 72 = .ok (.iinc 6 1, 3) := by decide +kernel
theorem d_Mod_available_75 : decode prog_10_method_6_code 75 = .ok (.goto (-50), 3) := by decide +kernel
theorem d_Mod_available_78 : decode prog_10_method_6_code 78 = .ok (.lload 4, 2) := by decide +kernel
theorem d_Mod_available_80 : decode prog_10_method_6_code 80 = .ok (.lreturn, 1) := by decide +kernel
theorem d_Mod_tick_0 : decode prog_10_method_7_code 0 = .ok (.iload_n 1, 1) := by decide +kernel
theorem d_Mod_tick_1 : decode prog_10_method_7_code 1 = .ok (.ifCond .lt 10, 3) := by decide +kernel
theorem d_Mod_tick_4 : decode prog_10_method_7_code 4 = .ok (.iload_n 1, 1) := by decide +kernel
theorem d_Mod_tick_5 : decode prog_10_method_7_code 5 = .ok (.sipush 1000, 3) := by decide +kernel
theorem d_Mod_tick_8 : decode prog_10_method_7_code 8 = .ok (.if_icmp .le 5, 3) := by decide +kernel
theorem d_Mod_tick_11 : decode prog_10_method_7_code 11 = .ok (.iconst 0, 1) := by decide +kernel
theorem d_Mod_tick_12 : decode prog_10_method_7_code 12 = .ok (.ireturn, 1) := by decide +kernel
theorem d_Mod_tick_13 : decode prog_10_method_7_code 13 = .ok (.aload_n 0, 1) := by decide +kernel
theorem d_Mod_tick_14 : decode prog_10_method_7_code 14 = .ok (.aload_n 0, 1) := by decide +kernel
theorem d_Mod_tick_15 : decode prog_10_method_7_code 15 = .ok (.getfield 74, 3) := by decide +kernel
theorem d_Mod_tick_18 : decode prog_10_method_7_code 18 = .ok (.iload_n 1, 1) := by decide +kernel
theorem d_Mod_tick_19 : decode prog_10_method_7_code 19 = .ok (.iadd, 1) := by decide +kernel
theorem d_Mod_tick_20 : decode prog_10_method_7_code 20 = .ok (.putfield 74, 3) := by decide +kernel
theorem d_Mod_tick_23 : decode prog_10_method_7_code 23 = .ok (.iconst 1, 1) := by decide +kernel
theorem d_Mod_tick_24 : decode prog_10_method_7_code 24 = .ok (.ireturn, 1) := by decide +kernel
theorem d_Mod_feed_0 : decode prog_10_method_8_code 0 = .ok (.iload_n 3, 1) := by decide +kernel
theorem d_Mod_feed_1 : decode prog_10_method_8_code 1 = .ok (.iconst 1, 1) := by decide +kernel
theorem d_Mod_feed_2 : decode prog_10_method_8_code 2 = .ok (.if_icmp .lt 20, 3) := by decide +kernel
theorem d_Mod_feed_5 : decode prog_10_method_8_code 5 = .ok (.iload_n 3, 1) := by decide +kernel
theorem d_Mod_feed_6 : decode prog_10_method_8_code 6 = .ok (.bipush 8, 2) := by decide +kernel
theorem d_Mod_feed_8 : decode prog_10_method_8_code 8 = .ok (.if_icmp .gt 14, 3) := by decide +kernel
theorem d_Mod_feed_11 : decode prog_10_method_8_code 11 = .ok (.aload_n 0, 1) := by decide +kernel
theorem d_Mod_feed_12 : decode prog_10_method_8_code 12 = .ok (.getfield 84, 3) := by decide +kernel
theorem d_Mod_feed_15 : decode prog_10_method_8_code 15 = .ok (.iload_n 3, 1) := by decide +kernel
theorem d_Mod_feed_16 : decode prog_10_method_8_code 16 = .ok (.iadd, 1) := by decide +kernel
theorem d_Mod_feed_17 : decode prog_10_method_8_code 17 = .ok (.bipush 120, 2) := by decide +kernel
theorem d_Mod_feed_19 : decode prog_10_method_8_code 19 = .ok (.if_icmp .le 5, 3) := by decide +kernel
theorem d_Mod_feed_22 : decode prog_10_method_8_code 22 = .ok (.iconst (-1), 1) := by decide +kernel
theorem d_Mod_feed_23 : decode prog_10_method_8_code 23 = .ok (.ireturn, 1) := by decide +kernel
theorem d_Mod_feed_24 : decode prog_10_method_8_code 24 = .ok (.iload_n 3, 1) := by decide +kernel
theorem d_Mod_feed_25 : decode prog_10_method_8_code 25 = .ok (.iconst 1, 1) := by decide +kernel
theorem d_Mod_feed_26 : decode prog_10_method_8_code 26 = .ok (.isub, 1) := by decide +kernel
theorem d_Mod_feed_27 : decode prog_10_method_8_code 27 = .ok (.istore 4, 2) := by decide +kernel
theorem d_Mod_feed_29 : decode prog_10_method_8_code 29 = .ok (.iload 4, 2) := by decide +kernel
theorem d_Mod_feed_31 : decode prog_10_method_8_code 31 = .ok (.ifCond .lt 40, 3) := by decide +kernel
theorem d_Mod_feed_34 : decode prog_10_method_8_code 34 = .ok (.aload_n 0, 1) := by decide +kernel
theorem d_Mod_feed_35 : decode prog_10_method_8_code 35 = .ok (.getfield 16, 3) := by decide +kernel
theorem d_Mod_feed_38 : decode prog_10_method_8_code 38 = .ok (.aload_n 0, 1) := by decide +kernel
theorem d_Mod_feed_39 : decode prog_10_method_8_code 39 = .ok (.getfield 84, 3) := by decide +kernel
theorem d_Mod_feed_42 : decode prog_10_method_8_code 42 = .ok (.lload_n 1, 1) := by decide +kernel
theorem d_Mod_feed_43 : decode prog_10_method_8_code 43 = .ok (.bipush 8, 2) := by decide +kernel
theorem d_Mod_feed_45 : decode prog_10_method_8_code 45 = .ok (.iload 4, 2) := by decide +kernel
theorem d_Mod_feed_47 : decode prog_10_method_8_code 47 = .ok (.imul, 1) := by decide +kernel
theorem d_Mod_feed_48 : decode prog_10_method_8_code 48 = .ok (.lshr, 1) := by decide +kernel
theorem d_Mod_feed_49 : decode prog_10_method_8_code 49 = .ok (.ldc2_w 87, 3) := by decide +kernel
theorem d_Mod_feed_52 : decode prog_10_method_8_code 52 = .ok (.land, 1) := by decide +kernel
theorem d_Mod_feed_53 : decode prog_10_method_8_code 53 = .ok (.l2i, 1) := by decide +kernel
theorem d_Mod_feed_54 : decode prog_10_method_8_code 54 = .ok (.iastore, 1) := by decide +kernel
theorem d_Mod_feed_55 : decode prog_10_method_8_code 55 = .ok (.aload_n 0, 1) := by decide +kernel
theorem d_Mod_feed_56 : decode prog_10_method_8_code 56 = .ok (.dup, 1) := by decide +kernel
theorem d_Mod_feed_57 : decode prog_10_method_8_code 57 = .ok (.getfield 84, 3) := by decide +kernel
theorem d_Mod_feed_60 : decode prog_10_method_8_code 60 = .ok (.iconst 1, 1) := by decide +kernel
theorem d_Mod_feed_61 : decode prog_10_method_8_code 61 = .ok (.iadd, 1) := by decide +kernel
theorem d_Mod_feed_62 : decode prog_10_method_8_code 62 = .ok (.putfield 84, 3) := by decide +kernel
theorem d_Mod_feed_65 : decode prog_10_method_8_code 65 = .ok (.iinc 4 (-1), 3) := by decide +kernel
theorem d_Mod_feed_68 : decode prog_10_method_8_code 68 = .ok (.goto (-39), 3) := by decide +kernel
theorem d_Mod_feed_71 : decode prog_10_method_8_code 71 = .ok (.aload_n 0, 1) := by decide +kernel
theorem d_Mod_feed_72 : decode prog_10_method_8_code 72 = .ok (.getfield 84, 3) := by decide +kernel
theorem d_Mod_feed_75 : decode prog_10_method_8_code 75 = .ok (.ireturn, 1) := by decide +kernel
theorem d_Mod_digits_0 : decode prog_10_method_9_code 0 = .ok (.iload_n 1, 1) := by decide +kernel
theorem d_Mod_digits_1 : decode prog_10_method_9_code 1 = .ok (.iconst 1, 1) := by decide +kernel
theorem d_Mod_digits_2 : decode prog_10_method_9_code 2 = .ok (.iadd, 1) := by decide +kernel
theorem d_Mod_digits_3 : decode prog_10_method_9_code 3 = .ok (.iconst 2, 1) := by decide +kernel
theorem d_Mod_digits_4 : decode prog_10_method_9_code 4 = .ok (.idiv, 1) := by decide +kernel
theorem d_Mod_digits_5 : decode prog_10_method_9_code 5 = .ok (.istore_n 2, 1) := by decide +kernel
theorem d_Mod_digits_6 : decode prog_10_method_9_code 6 = .ok (.aload_n 0, 1) := by decide +kernel
theorem d_Mod_digits_7 : decode prog_10_method_9_code 7 = .ok (.getfield 89, 3) := by decide +kernel
theorem d_Mod_digits_10 : decode prog_10_method_9_code 10 = .ok (.iload_n 2, 1) := by decide +kernel
theorem d_Mod_digits_11 : decode prog_10_method_9_code 11 = .ok (.iadd, 1) := by decide +kernel
theorem d_Mod_digits_12 : decode prog_10_method_9_code 12 = .ok (.aload_n 0, 1) := by decide +kernel
theorem d_Mod_digits_13 : decode prog_10_method_9_code 13 = .ok (.getfield 84, 3) := by decide +kernel
theorem d_Mod_digits_16 : decode prog_10_method_9_code 16 = .ok (.if_icmp .le 5, 3) := by decide +kernel
theorem d_Mod_digits_19 : decode prog_10_method_9_code 19 = .ok (.iconst 0, 1) := by decide +kernel
theorem d_Mod_digits_20 : decode prog_10_method_9_code 20 = .ok (.ireturn, 1) := by decide +kernel
theorem d_Mod_digits_21 : decode prog_10_method_9_code 21 = .ok (.aload_n 0, 1) := by decide +kernel
theorem d_Mod_digits_22 : decode prog_10_method_9_code 22 = .ok (.lconst 0, 1) := by decide +kernel
theorem d_Mod_digits_23 : decode prog_10_method_9_code 23 = .ok (.putfield 92, 3) := by decide +kernel
theorem d_Mod_digits_26 : decode prog_10_method_9_code 26 = .ok (.iconst 0, 1) := by decide +kernel
theorem d_Mod_digits_27 : decode prog_10_method_9_code 27 = .ok (.istore_n 3, 1) := by decide +kernel
theorem d_Mod_digits_28 : decode prog_10_method_9_code 28 = .ok (.iload_n 3, 1) := by decide +kernel
theorem d_Mod_digits_29 : decode prog_10_method_9_code 29 = .ok (.iconst 2, 1) := by decide +kernel
theorem d_Mod_digits_30 : decode prog_10_method_9_code 30 = .ok (.iload_n 2, 1) := by decide +kernel
theorem d_Mod_digits_31 : decode prog_10_method_9_code 31 = .ok (.imul, 1) := by decide +kernel
theorem d_Mod_digits_32 : decode prog_10_method_9_code 32 = .ok (.if_icmp .ge 80, 3) := by decide +kernel
theorem d_Mod_digits_35 : decode prog_10_method_9_code 35 = .ok (.aload_n 0, 1) := by decide +kernel
theorem d_Mod_digits_36 : decode prog_10_method_9_code 36 = .ok (.getfield 16, 3) := by decide +kernel
theorem d_Mod_digits_39 : decode prog_10_method_9_code 39 = .ok (.aload_n 0, 1) := by decide +kernel
theorem d_Mod_digits_40 : decode prog_10_method_9_code 40 = .ok (.getfield 89, 3) := by decide +kernel
theorem d_Mod_digits_43 : decode prog_10_method_9_code 43 = .ok (.iload_n 3, 1) := by decide +kernel
theorem d_Mod_digits_44 : decode prog_10_method_9_code 44 = .ok (.iconst 2, 1) := by decide +kernel
theorem d_Mod_digits_45 : decode prog_10_method_9_code 45 = .ok (.idiv, 1) := by decide +kernel
theorem d_Mod_digits_46 : decode prog_10_method_9_code 46 = .ok (.iadd, 1) := by decide +kernel
theorem d_Mod_digits_47 : decode prog_10_method_9_code 47 = .ok (.iaload, 1) := by decide +kernel
theorem d_Mod_digits_48 : decode prog_10_method_9_code 48 = .ok (.iload_n 3, 1) := by decide +kernel
theorem d_Mod_digits_49 : decode prog_10_method_9_code 49 = .ok (.iconst 2, 1) := by decide +kernel
theorem d_Mod_digits_50 : decode prog_10_method_9_code 50 = .ok (.irem, 1) := by decide +kernel
theorem d_Mod_digits_51 : decode prog_10_method_9_code 51 = .ok (.ifCond .ne 7, 3) := by decide +kernel
theorem d_Mod_digits_54 : decode prog_10_method_9_code 54 = .ok (.iconst 4, 1) := by decide +kernel
theorem d_Mod_digits_55 : decode prog_10_method_9_code 55 = .ok (.goto 4, 3) := by decide +kernel
theorem d_Mod_digits_58 : decode prog_10_method_9_code 58 = .ok (.iconst 0, 1) := by decide +kernel
theorem d_Mod_digits_59 : decode prog_10_method_9_code 59 = .ok (.ishr, 1) := by decide +kernel
theorem d_Mod_digits_60 : decode prog_10_method_9_code 60 = .ok (.bipush 15, 2) := by decide +kernel
theorem d_Mod_digits_62 : decode prog_10_method_9_code 62 = .ok (.iand, 1) := by decide +kernel
theorem d_Mod_digits_63 : decode prog_10_method_9_code 63 = .ok (.istore 4, 2) := by decide +kernel
theorem d_Mod_digits_65 : decode prog_10_method_9_code 65 = .ok (.iload 4, 2) := by decide +kernel
theorem d_Mod_digits_67 : decode prog_10_method_9_code 67 = .ok (.bipush 9, 2) := by decide +kernel
theorem d_Mod_digits_69 : decode prog_10_method_9_code 69 = .ok (.if_icmp .gt 19, 3) := by decide +kernel
theorem d_Mod_digits_72 : decode prog_10_method_9_code 72 = .ok (.iload_n 1, 1) := by decide +kernel
theorem d_Mod_digits_73 : decode prog_10_method_9_code 73 = .ok (.iconst 2, 1) := by decide +kernel
theorem d_Mod_digits_74 : decode prog_10_method_9_code 74 = .ok (.irem, 1) := by decide +kernel
theorem d_Mod_digits_75 : decode prog_10_method_9_code 75 = .ok (.iconst 1, 1) := by decide +kernel
theorem d_Mod_digits_76 : decode prog_10_method_9_code 76 = .ok (.if_icmp .ne 14, 3) := by decide +kernel
theorem d_Mod_digits_79 : decode prog_10_method_9_code 79 = .ok (.iload_n 3, 1) := by decide +kernel
theorem d_Mod_digits_80 : decode prog_10_method_9_code 80 = .ok (.ifCond .ne 10, 3) := by decide +kernel
theorem d_Mod_digits_83 : decode prog_10_method_9_code 83 = .ok (.iload 4, 2) := by decide +kernel
theorem d_Mod_digits_85 : decode prog_10_method_9_code 85 = .ok (.ifCond .eq 5, 3) := by decide +kernel
theorem d_Mod_digits_88 : decode prog_10_method_9_code 88 = .ok (.iconst 0, 1) := by decide +kernel
theorem d_Mod_digits_89 : decode prog_10_method_9_code 89 = .ok (.ireturn, 1) := by decide +kernel
theorem d_Mod_digits_90 : decode prog_10_method_9_code 90 = .ok (.aload_n 0, 1) := by decide +kernel
theorem d_Mod_digits_91 : decode prog_10_method_9_code 91 = .ok (.ldc2_w 96, 3) := by decide +kernel
theorem d_Mod_digits_94 : decode prog_10_method_9_code 94 = .ok (.aload_n 0, 1) := by decide +kernel
theorem d_Mod_digits_95 : decode prog_10_method_9_code 95 = .ok (.getfield 92, 3) := by decide +kernel
theorem d_Mod_digits_98 : decode prog_10_method_9_code 98 = .ok (.lmul, 1) := by decide +kernel
theorem d_Mod_digits_99 : decode prog_10_method_9_code 99 = .ok (.iload 4, 2) := by decide +kernel
theorem d_Mod_digits_101 : decode prog_10_method_9_code 101 = .ok (.i2l, 1) := by decide +kernel
theorem d_Mod_digits_102 : decode prog_10_method_9_code 102 = .ok (.ladd, 1) := by decide +kernel
theorem d_Mod_digits_103 : decode prog_10_method_9_code 103 = .ok (.putfield 92, 3) := by decide +kernel
theorem d_Mod_digits_106 : decode prog_10_method_9_code 106 = .ok (.iinc 3 1, 3) := by decide +kernel
theorem d_Mod_digits_109 : decode prog_10_method_9_code 109 = .ok (.goto (-81), 3) := by decide +kernel
theorem d_Mod_digits_112 : decode prog_10_method_9_code 112 = .ok (.aload_n 0, 1) := by decide +kernel
theorem d_Mod_digits_113 : decode prog_10_method_9_code 113 = .ok (.aload_n 0, 1) := by decide +kernel
theorem d_Mod_digits_114 : decode prog_10_method_9_code 114 = .ok (.getfield 89, 3) := by decide +kernel
theorem d_Mod_digits_117 : decode prog_10_method_9_code 117 = .ok (.iload_n 2, 1) := by decide +kernel
theorem d_Mod_digits_118 : decode prog_10_method_9_code 118 = .ok (.iadd, 1) := by decide +kernel
theorem d_Mod_digits_119 : decode prog_10_method_9_code 119 = .ok (.putfield 89, 3) := by decide +kernel
theorem d_Mod_digits_122 : decode prog_10_method_9_code 122 = .ok (.iconst 1, 1) := by decide +kernel
theorem d_Mod_digits_123 : decode prog_10_method_9_code 123 = .ok (.ireturn, 1) := by decide +kernel
theorem d_Mod_readCard_0 : decode prog_10_method_11_code 0 = .ok (.aload_n 0, 1) := by decide +kernel
theorem d_Mod_readCard_1 : decode prog_10_method_11_code 1 = .ok (.iconst 2, 1) := by decide +kernel
theorem d_Mod_readCard_2 : decode prog_10_method_11_code 2 = .ok (.invokevirtual 98, 3) := by decide +kernel
theorem d_Mod_readCard_5 : decode prog_10_method_11_code 5 = .ok (.ifCond .eq 35, 3) := by decide +kernel
theorem d_Mod_readCard_8 : decode prog_10_method_11_code 8 = .ok (.aload_n 0, 1) := by decide +kernel
theorem d_Mod_readCard_9 : decode prog_10_method_11_code 9 = .ok (.getfield 92, 3) := by decide +kernel
theorem d_Mod_readCard_12 : decode prog_10_method_11_code 12 = .ok (.lconst 1, 1) := by decide +kernel
theorem d_Mod_readCard_13 : decode prog_10_method_11_code 13 = .ok (.lcmp, 1) := by decide +kernel
theorem d_Mod_readCard_14 : decode prog_10_method_11_code 14 = .ok (.ifCond .lt 26, 3) := by decide +kernel
theorem d_Mod_readCard_17 : decode prog_10_method_11_code 17 = .ok (.aload_n 0, 1) := by decide +kernel
theorem d_Mod_readCard_18 : decode prog_10_method_11_code 18 = .ok (.getfield 92, 3) := by decide +kernel
theorem d_Mod_readCard_21 : decode prog_10_method_11_code 21 = .ok (.ldc2_w 101, 3) := by decide +kernel
theorem d_Mod_readCard_24 : decode prog_10_method_11_code 24 = .ok (.lcmp, 1) := by decide +kernel
theorem d_Mod_readCard_25 : decode prog_10_method_11_code 25 = .ok (.ifCond .gt 15, 3) := by decide +kernel
theorem d_Mod_readCard_28 : decode prog_10_method_11_code 28 = .ok (.aload_n 0, 1) := by decide +kernel
theorem d_Mod_readCard_29 : decode prog_10_method_11_code 29 = .ok (.aload_n 0, 1) := by decide +kernel
theorem d_Mod_readCard_30 : decode prog_10_method_11_code 30 = .ok (.getfield 92, 3) := by decide +kernel
theorem d_Mod_readCard_33 : decode prog_10_method_11_code 33 = .ok (.l2i, 1) := by decide +kernel
theorem d_Mod_readCard_34 : decode prog_10_method_11_code 34 = .ok (.invokevirtual 98, 3) := by decide +kernel
theorem d_Mod_readCard_37 : decode prog_10_method_11_code 37 = .ok (.ifCond .ne 5, 3) := by decide +kernel
theorem d_Mod_readCard_40 : decode prog_10_method_11_code 40 = .ok (.iconst 0, 1) := by decide +kernel
theorem d_Mod_readCard_41 : decode prog_10_method_11_code 41 = .ok (.ireturn, 1) := by decide +kernel
theorem d_Mod_readCard_42 : decode prog_10_method_11_code 42 = .ok (.aload_n 0, 1) := by decide +kernel
theorem d_Mod_readCard_43 : decode prog_10_method_11_code 43 = .ok (.aload_n 0, 1) := by decide +kernel
theorem d_Mod_readCard_44 : decode prog_10_method_11_code 44 = .ok (.getfield 92, 3) := by decide +kernel
theorem d_Mod_readCard_47 : decode prog_10_method_11_code 47 = .ok (.putfield 103, 3) := by decide +kernel
theorem d_Mod_readCard_50 : decode prog_10_method_11_code 50 = .ok (.iconst 1, 1) := by decide +kernel
theorem d_Mod_readCard_51 : decode prog_10_method_11_code 51 = .ok (.ireturn, 1) := by decide +kernel
theorem d_Mod_characters_0 : decode prog_10_method_10_code 0 = .ok (.aload_n 0, 1) := by decide +kernel
theorem d_Mod_characters_1 : decode prog_10_method_10_code 1 = .ok (.getfield 89, 3) := by decide +kernel
theorem d_Mod_characters_4 : decode prog_10_method_10_code 4 = .ok (.iload_n 1, 1) := by decide +kernel
theorem d_Mod_characters_5 : decode prog_10_method_10_code 5 = .ok (.iadd, 1) := by decide +kernel
theorem d_Mod_characters_6 : decode prog_10_method_10_code 6 = .ok (.aload_n 0, 1) := by decide +kernel
theorem d_Mod_characters_7 : decode prog_10_method_10_code 7 = .ok (.getfield 84, 3) := by decide +kernel
theorem d_Mod_characters_10 : decode prog_10_method_10_code 10 = .ok (.if_icmp .le 5, 3) := by decide +kernel
theorem d_Mod_characters_13 : decode prog_10_method_10_code 13 = .ok (.iconst 0, 1) := by decide +kernel
theorem d_Mod_characters_14 : decode prog_10_method_10_code 14 = .ok (.ireturn, 1) := by decide +kernel
theorem d_Mod_characters_15 : decode prog_10_method_10_code 15 = .ok (.aload_n 0, 1) := by decide +kernel
theorem d_Mod_characters_16 : decode prog_10_method_10_code 16 = .ok (.lconst 0, 1) := by decide +kernel
theorem d_Mod_characters_17 : decode prog_10_method_10_code 17 = .ok (.putfield 92, 3) := by decide +kernel
theorem d_Mod_characters_20 : decode prog_10_method_10_code 20 = .ok (.iconst 0, 1) := by decide +kernel
theorem d_Mod_characters_21 : decode prog_10_method_10_code 21 = .ok (.istore 4, 2) := by decide +kernel
theorem d_Mod_characters_23 : decode prog_10_method_10_code 23 = .ok (.iload 4, 2) := by decide +kernel
theorem d_Mod_characters_25 : decode prog_10_method_10_code 25 = .ok (.iload_n 1, 1) := by decide +kernel
theorem d_Mod_characters_26 : decode prog_10_method_10_code 26 = .ok (.if_icmp .ge 52, 3) := by decide +kernel
theorem d_Mod_characters_29 : decode prog_10_method_10_code 29 = .ok (.aload_n 0, 1) := by decide +kernel
theorem d_Mod_characters_30 : decode prog_10_method_10_code 30 = .ok (.getfield 16, 3) := by decide +kernel
theorem d_Mod_characters_33 : decode prog_10_method_10_code 33 = .ok (.aload_n 0, 1) := by decide +kernel
theorem d_Mod_characters_34 : decode prog_10_method_10_code 34 = .ok (.getfield 89, 3) := by decide +kernel
theorem d_Mod_characters_37 : decode prog_10_method_10_code 37 = .ok (.iload 4, 2) := by decide +kernel
theorem d_Mod_characters_39 : decode prog_10_method_10_code 39 = .ok (.iadd, 1) := by decide +kernel
theorem d_Mod_characters_40 : decode prog_10_method_10_code 40 = .ok (.iaload, 1) := by decide +kernel
theorem d_Mod_characters_41 : decode prog_10_method_10_code 41 = .ok (.istore 5, 2) := by decide +kernel
theorem d_Mod_characters_43 : decode prog_10_method_10_code 43 = .ok (.iload 5, 2) := by decide +kernel
theorem d_Mod_characters_45 : decode prog_10_method_10_code 45 = .ok (.iload_n 2, 1) := by decide +kernel
theorem d_Mod_characters_46 : decode prog_10_method_10_code 46 = .ok (.if_icmp .lt 9, 3) := by decide +kernel
theorem d_Mod_characters_49 : decode prog_10_method_10_code 49 = .ok (.iload 5, 2) := by decide +kernel
theorem d_Mod_characters_51 : decode prog_10_method_10_code 51 = .ok (.iload_n 3, 1) := by decide +kernel
theorem d_Mod_characters_52 : decode prog_10_method_10_code 52 = .ok (.if_icmp .le 5, 3) := by decide +kernel
theorem d_Mod_characters_55 : decode prog_10_method_10_code 55 = .ok (.iconst 0, 1) := by decide +kernel
theorem d_Mod_characters_56 : decode prog_10_method_10_code 56 = .ok (.ireturn, 1) := by decide +kernel
theorem d_Mod_characters_57 : decode prog_10_method_10_code 57 = .ok (.aload_n 0, 1) := by decide +kernel
theorem d_Mod_characters_58 : decode prog_10_method_10_code 58 = .ok (.aload_n 0, 1) := by decide +kernel
theorem d_Mod_characters_59 : decode prog_10_method_10_code 59 = .ok (.getfield 92, 3) := by decide +kernel
theorem d_Mod_characters_62 : decode prog_10_method_10_code 62 = .ok (.bipush 8, 2) := by decide +kernel
theorem d_Mod_characters_64 : decode prog_10_method_10_code 64 = .ok (.lshl, 1) := by decide +kernel
theorem d_Mod_characters_65 : decode prog_10_method_10_code 65 = .ok (.iload 5, 2) := by decide +kernel
theorem d_Mod_characters_67 : decode prog_10_method_10_code 67 = .ok (.i2l, 1) := by decide +kernel
theorem d_Mod_characters_68 : decode prog_10_method_10_code 68 = .ok (.lor, 1) := by decide +kernel
theorem d_Mod_characters_69 : decode prog_10_method_10_code 69 = .ok (.putfield 92, 3) := by decide +kernel
theorem d_Mod_characters_72 : decode prog_10_method_10_code 72 = .ok (.iinc 4 1, 3) := by decide +kernel
theorem d_Mod_characters_75 : decode prog_10_method_10_code 75 = .ok (.goto (-52), 3) := by decide +kernel
theorem d_Mod_characters_78 : decode prog_10_method_10_code 78 = .ok (.aload_n 0, 1) := by decide +kernel
theorem d_Mod_characters_79 : decode prog_10_method_10_code 79 = .ok (.aload_n 0, 1) := by decide +kernel
theorem d_Mod_characters_80 : decode prog_10_method_10_code 80 = .ok (.getfield 89, 3) := by decide +kernel
theorem d_Mod_characters_83 : decode prog_10_method_10_code 83 = .ok (.iload_n 1, 1) := by decide +kernel
theorem d_Mod_characters_84 : decode prog_10_method_10_code 84 = .ok (.iadd, 1) := by decide +kernel
theorem d_Mod_characters_85 : decode prog_10_method_10_code 85 = .ok (.putfield 89, 3) := by decide +kernel
theorem d_Mod_characters_88 : decode prog_10_method_10_code 88 = .ok (.iconst 1, 1) := by decide +kernel
theorem d_Mod_characters_89 : decode prog_10_method_10_code 89 = .ok (.ireturn, 1) := by decide +kernel
theorem d_Mod_readNote_0 : decode prog_10_method_12_code 0 = .ok (.aload_n 0, 1) := by decide +kernel
theorem d_Mod_readNote_1 : decode prog_10_method_12_code 1 = .ok (.iconst 4, 1) := by decide +kernel
theorem d_Mod_readNote_2 : decode prog_10_method_12_code 2 = .ok (.invokevirtual 98, 3) := by decide +kernel
theorem d_Mod_readNote_5 : decode prog_10_method_12_code 5 = .ok (.ifCond .eq 34, 3) := by decide +kernel
theorem d_Mod_readNote_8 : decode prog_10_method_12_code 8 = .ok (.aload_n 0, 1) := by decide +kernel
theorem d_Mod_readNote_9 : decode prog_10_method_12_code 9 = .ok (.getfield 92, 3) := by decide +kernel
theorem d_Mod_readNote_12 : decode prog_10_method_12_code 12 = .ok (.ldc2_w 106, 3) := by decide +kernel
theorem d_Mod_readNote_15 : decode prog_10_method_12_code 15 = .ok (.lcmp, 1) := by decide +kernel
theorem d_Mod_readNote_16 : decode prog_10_method_12_code 16 = .ok (.ifCond .gt 23, 3) := by decide +kernel
theorem d_Mod_readNote_19 : decode prog_10_method_12_code 19 = .ok (.aload_n 0, 1) := by decide +kernel
theorem d_Mod_readNote_20 : decode prog_10_method_12_code 20 = .ok (.aload_n 0, 1) := by decide +kernel
theorem d_Mod_readNote_21 : decode prog_10_method_12_code 21 = .ok (.getfield 92, 3) := by decide +kernel
theorem d_Mod_readNote_24 : decode prog_10_method_12_code 24 = .ok (.l2i, 1) := by decide +kernel
theorem d_Mod_readNote_25 : decode prog_10_method_12_code 25 = .ok (.bipush 32, 2) := by decide +kernel
theorem d_Mod_readNote_27 : decode prog_10_method_12_code 27 = .ok (.bipush 126, 2) := by decide +kernel
theorem d_Mod_readNote_29 : decode prog_10_method_12_code 29 = .ok (.invokevirtual 108, 3) := by decide +kernel
theorem d_Mod_readNote_32 : decode prog_10_method_12_code 32 = .ok (.ifCond .eq 7, 3) := by decide +kernel
theorem d_Mod_readNote_35 : decode prog_10_method_12_code 35 = .ok (.iconst 1, 1) := by decide +kernel
theorem d_Mod_readNote_36 : decode prog_10_method_12_code 36 = .ok (.goto 4, 3) := by decide +kernel
theorem d_Mod_readNote_39 : decode prog_10_method_12_code 39 = .ok (.iconst 0, 1) := by decide +kernel
theorem d_Mod_readNote_40 : decode prog_10_method_12_code 40 = .ok (.ireturn, 1) := by decide +kernel
theorem d_Mod_readOriginal_0 : decode prog_10_method_13_code 0 = .ok (.aload_n 0, 1) := by decide +kernel
theorem d_Mod_readOriginal_1 : decode prog_10_method_13_code 1 = .ok (.iconst 2, 1) := by decide +kernel
theorem d_Mod_readOriginal_2 : decode prog_10_method_13_code 2 = .ok (.invokevirtual 98, 3) := by decide +kernel
theorem d_Mod_readOriginal_5 : decode prog_10_method_13_code 5 = .ok (.ifCond .eq 23, 3) := by decide +kernel
theorem d_Mod_readOriginal_8 : decode prog_10_method_13_code 8 = .ok (.aload_n 0, 1) := by decide +kernel
theorem d_Mod_readOriginal_9 : decode prog_10_method_13_code 9 = .ok (.getfield 92, 3) := by decide +kernel
theorem d_Mod_readOriginal_12 : decode prog_10_method_13_code 12 = .ok (.ldc2_w 112, 3) := by decide +kernel
theorem d_Mod_readOriginal_15 : decode prog_10_method_13_code 15 = .ok (.lcmp, 1) := by decide +kernel
theorem d_Mod_readOriginal_16 : decode prog_10_method_13_code 16 = .ok (.ifCond .ne 12, 3) := by decide +kernel
theorem d_Mod_readOriginal_19 : decode prog_10_method_13_code 19 = .ok (.aload_n 0, 1) := by decide +kernel
theorem d_Mod_readOriginal_20 : decode prog_10_method_13_code 20 = .ok (.bipush 6, 2) := by decide +kernel
theorem d_Mod_readOriginal_22 : decode prog_10_method_13_code 22 = .ok (.invokevirtual 98, 3) := by decide +kernel
theorem d_Mod_readOriginal_25 : decode prog_10_method_13_code 25 = .ok (.ifCond .ne 5, 3) := by decide +kernel
theorem d_Mod_readOriginal_28 : decode prog_10_method_13_code 28 = .ok (.iconst 0, 1) := by decide +kernel
theorem d_Mod_readOriginal_29 : decode prog_10_method_13_code 29 = .ok (.ireturn, 1) := by decide +kernel
theorem d_Mod_readOriginal_30 : decode prog_10_method_13_code 30 = .ok (.aload_n 0, 1) := by decide +kernel
theorem d_Mod_readOriginal_31 : decode prog_10_method_13_code 31 = .ok (.aload_n 0, 1) := by decide +kernel
theorem d_Mod_readOriginal_32 : decode prog_10_method_13_code 32 = .ok (.getfield 92, 3) := by decide +kernel
theorem d_Mod_readOriginal_35 : decode prog_10_method_13_code 35 = .ok (.l2i, 1) := by decide +kernel
theorem d_Mod_readOriginal_36 : decode prog_10_method_13_code 36 = .ok (.putfield 114, 3) := by decide +kernel
theorem d_Mod_readOriginal_39 : decode prog_10_method_13_code 39 = .ok (.iconst 1, 1) := by decide +kernel
theorem d_Mod_readOriginal_40 : decode prog_10_method_13_code 40 = .ok (.ireturn, 1) := by decide +kernel
theorem d_Mod_readField_0 : decode prog_10_method_14_code 0 = .ok (.iconst 0, 1) := by decide +kernel
theorem d_Mod_readField_1 : decode prog_10_method_14_code 1 = .ok (.istore_n 2, 1) := by decide +kernel
theorem d_Mod_readField_2 : decode prog_10_method_14_code 2 = .ok (.iload_n 1, 1) := by decide +kernel
theorem d_Mod_readField_3 : decode prog_10_method_14_code 3 = .ok (.lookupswitch 172 #[(2, 73), (3, 78), (4, 96), (11, 113), (39, 131), (41, 141), (48, 162), (56, 167)], 73) := by decide +kernel
theorem d_Mod_readField_76 : decode prog_10_method_14_code 76 = .ok (.aload_n 0, 1) := by decide +kernel
theorem d_Mod_readField_77 : decode prog_10_method_14_code 77 = .ok (.invokevirtual 117, 3) := by decide +kernel
theorem d_Mod_readField_80 : decode prog_10_method_14_code 80 = .ok (.ireturn, 1) := by decide +kernel
theorem d_Mod_readField_81 : decode prog_10_method_14_code 81 = .ok (.aload_n 0, 1) := by decide +kernel
theorem d_Mod_readField_82 : decode prog_10_method_14_code 82 = .ok (.bipush 6, 2) := by decide +kernel
theorem d_Mod_readField_84 : decode prog_10_method_14_code 84 = .ok (.invokevirtual 98, 3) := by decide +kernel
theorem d_Mod_readField_87 : decode prog_10_method_14_code 87 = .ok (.istore_n 2, 1) := by decide +kernel
theorem d_Mod_readField_88 : decode prog_10_method_14_code 88 = .ok (.aload_n 0, 1) := by decide +kernel
theorem d_Mod_readField_89 : decode prog_10_method_14_code 89 = .ok (.aload_n 0, 1) := by decide +kernel
theorem d_Mod_readField_90 : decode prog_10_method_14_code 90 = .ok (.getfield 92, 3) := by decide +kernel
theorem d_Mod_readField_93 : decode prog_10_method_14_code 93 = .ok (.l2i, 1) := by decide +kernel
theorem d_Mod_readField_94 : decode prog_10_method_14_code 94 = .ok (.putfield 121, 3) := by decide +kernel
theorem d_Mod_readField_97 : decode prog_10_method_14_code 97 = .ok (.iload_n 2, 1) := by decide +kernel
theorem d_Mod_readField_98 : decode prog_10_method_14_code 98 = .ok (.ireturn, 1) := by decide +kernel
theorem d_Mod_readField_99 : decode prog_10_method_14_code 99 = .ok (.aload_n 0, 1) := by decide +kernel
theorem d_Mod_readField_100 : decode prog_10_method_14_code 100 = .ok (.bipush 12, 2) := by decide +kernel
theorem d_Mod_readField_102 : decode prog_10_method_14_code 102 = .ok (.invokevirtual 98, 3) := by decide +kernel
theorem d_Mod_readField_105 : decode prog_10_method_14_code 105 = .ok (.istore_n 2, 1) := by decide +kernel
theorem d_Mod_readField_106 : decode prog_10_method_14_code 106 = .ok (.aload_n 0, 1) := by decide +kernel
theorem d_Mod_readField_107 : decode prog_10_method_14_code 107 = .ok (.aload_n 0, 1) := by decide +kernel
theorem d_Mod_readField_108 : decode prog_10_method_14_code 108 = .ok (.getfield 92, 3) := by decide +kernel
theorem d_Mod_readField_111 : decode prog_10_method_14_code 111 = .ok (.putfield 124, 3) := by decide +kernel
theorem d_Mod_readField_114 : decode prog_10_method_14_code 114 = .ok (.iload_n 2, 1) := by decide +kernel
theorem d_Mod_readField_115 : decode prog_10_method_14_code 115 = .ok (.ireturn, 1) := by decide +kernel
theorem d_Mod_readField_116 : decode prog_10_method_14_code 116 = .ok (.aload_n 0, 1) := by decide +kernel
theorem d_Mod_readField_117 : decode prog_10_method_14_code 117 = .ok (.bipush 6, 2) := by decide +kernel
theorem d_Mod_readField_119 : decode prog_10_method_14_code 119 = .ok (.invokevirtual 98, 3) := by decide +kernel
theorem d_Mod_readField_122 : decode prog_10_method_14_code 122 = .ok (.istore_n 2, 1) := by decide +kernel
theorem d_Mod_readField_123 : decode prog_10_method_14_code 123 = .ok (.aload_n 0, 1) := by decide +kernel
theorem d_Mod_readField_124 : decode prog_10_method_14_code 124 = .ok (.aload_n 0, 1) := by decide +kernel
theorem d_Mod_readField_125 : decode prog_10_method_14_code 125 = .ok (.getfield 92, 3) := by decide +kernel
theorem d_Mod_readField_128 : decode prog_10_method_14_code 128 = .ok (.l2i, 1) := by decide +kernel
theorem d_Mod_readField_129 : decode prog_10_method_14_code 129 = .ok (.putfield 127, 3) := by decide +kernel
theorem d_Mod_readField_132 : decode prog_10_method_14_code 132 = .ok (.iload_n 2, 1) := by decide +kernel
theorem d_Mod_readField_133 : decode prog_10_method_14_code 133 = .ok (.ireturn, 1) := by decide +kernel
theorem d_Mod_readField_134 : decode prog_10_method_14_code 134 = .ok (.aload_n 0, 1) := by decide +kernel
theorem d_Mod_readField_135 : decode prog_10_method_14_code 135 = .ok (.iconst 2, 1) := by decide +kernel
theorem d_Mod_readField_136 : decode prog_10_method_14_code 136 = .ok (.bipush 48, 2) := by decide +kernel
theorem d_Mod_readField_138 : decode prog_10_method_14_code 138 = .ok (.bipush 57, 2) := by decide +kernel
theorem d_Mod_readField_140 : decode prog_10_method_14_code 140 = .ok (.invokevirtual 108, 3) := by decide +kernel
theorem d_Mod_readField_143 : decode prog_10_method_14_code 143 = .ok (.ireturn, 1) := by decide +kernel
theorem d_Mod_readField_144 : decode prog_10_method_14_code 144 = .ok (.aload_n 0, 1) := by decide +kernel
theorem d_Mod_readField_145 : decode prog_10_method_14_code 145 = .ok (.iconst 4, 1) := by decide +kernel
theorem d_Mod_readField_146 : decode prog_10_method_14_code 146 = .ok (.bipush 32, 2) := by decide +kernel
theorem d_Mod_readField_148 : decode prog_10_method_14_code 148 = .ok (.bipush 126, 2) := by decide +kernel
theorem d_Mod_readField_150 : decode prog_10_method_14_code 150 = .ok (.invokevirtual 108, 3) := by decide +kernel
theorem d_Mod_readField_153 : decode prog_10_method_14_code 153 = .ok (.istore_n 2, 1) := by decide +kernel
theorem d_Mod_readField_154 : decode prog_10_method_14_code 154 = .ok (.aload_n 0, 1) := by decide +kernel
theorem d_Mod_readField_155 : decode prog_10_method_14_code 155 = .ok (.aload_n 0, 1) := by decide +kernel
theorem d_Mod_readField_156 : decode prog_10_method_14_code 156 = .ok (.getfield 92, 3) := by decide +kernel
theorem d_Mod_readField_159 : decode prog_10_method_14_code 159 = .ok (.l2i, 1) := by decide +kernel
theorem d_Mod_readField_160 : decode prog_10_method_14_code 160 = .ok (.putfield 130, 3) := by decide +kernel
theorem d_Mod_readField_163 : decode prog_10_method_14_code 163 = .ok (.iload_n 2, 1) := by decide +kernel
theorem d_Mod_readField_164 : decode prog_10_method_14_code 164 = .ok (.ireturn, 1) := by decide +kernel
theorem d_Mod_readField_165 : decode prog_10_method_14_code 165 = .ok (.aload_n 0, 1) := by decide +kernel
theorem d_Mod_readField_166 : decode prog_10_method_14_code 166 = .ok (.invokevirtual 133, 3) := by decide +kernel
theorem d_Mod_readField_169 : decode prog_10_method_14_code 169 = .ok (.ireturn, 1) := by decide +kernel
theorem d_Mod_readField_170 : decode prog_10_method_14_code 170 = .ok (.aload_n 0, 1) := by decide +kernel
theorem d_Mod_readField_171 : decode prog_10_method_14_code 171 = .ok (.invokevirtual 136, 3) := by decide +kernel
theorem d_Mod_readField_174 : decode prog_10_method_14_code 174 = .ok (.ireturn, 1) := by decide +kernel
theorem d_Mod_readField_175 : decode prog_10_method_14_code 175 = .ok (.iconst 0, 1) := by decide +kernel
theorem d_Mod_readField_176 : decode prog_10_method_14_code 176 = .ok (.ireturn, 1) := by decide +kernel
theorem d_Mod_readMessage_0 : decode prog_10_method_15_code 0 = .ok (.aload_n 0, 1) := by decide +kernel
theorem d_Mod_readMessage_1 : decode prog_10_method_15_code 1 = .ok (.iconst 0, 1) := by decide +kernel
theorem d_Mod_readMessage_2 : decode prog_10_method_15_code 2 = .ok (.putfield 89, 3) := by decide +kernel
theorem d_Mod_readMessage_5 : decode prog_10_method_15_code 5 = .ok (.aload_n 0, 1) := by decide +kernel
theorem d_Mod_readMessage_6 : decode prog_10_method_15_code 6 = .ok (.lconst 0, 1) := by decide +kernel
theorem d_Mod_readMessage_7 : decode prog_10_method_15_code 7 = .ok (.putfield 103, 3) := by decide +kernel
theorem d_Mod_readMessage_10 : decode prog_10_method_15_code 10 = .ok (.aload_n 0, 1) := by decide +kernel
theorem d_Mod_readMessage_11 : decode prog_10_method_15_code 11 = .ok (.iconst 0, 1) := by decide +kernel
theorem d_Mod_readMessage_12 : decode prog_10_method_15_code 12 = .ok (.putfield 121, 3) := by decide +kernel
theorem d_Mod_readMessage_15 : decode prog_10_method_15_code 15 = .ok (.aload_n 0, 1) := by decide +kernel
theorem d_Mod_readMessage_16 : decode prog_10_method_15_code 16 = .ok (.lconst 0, 1) := by decide +kernel
theorem d_Mod_readMessage_17 : decode prog_10_method_15_code 17 = .ok (.putfield 124, 3) := by decide +kernel
theorem d_Mod_readMessage_20 : decode prog_10_method_15_code 20 = .ok (.aload_n 0, 1) := by decide +kernel
theorem d_Mod_readMessage_21 : decode prog_10_method_15_code 21 = .ok (.iconst 0, 1) := by decide +kernel
theorem d_Mod_readMessage_22 : decode prog_10_method_15_code 22 = .ok (.putfield 114, 3) := by decide +kernel
theorem d_Mod_readMessage_25 : decode prog_10_method_15_code 25 = .ok (.aload_n 0, 1) := by decide +kernel
theorem d_Mod_readMessage_26 : decode prog_10_method_15_code 26 = .ok (.getfield 84, 3) := by decide +kernel
theorem d_Mod_readMessage_29 : decode prog_10_method_15_code 29 = .ok (.bipush 10, 2) := by decide +kernel
theorem d_Mod_readMessage_31 : decode prog_10_method_15_code 31 = .ok (.if_icmp .lt 11, 3) := by decide +kernel
theorem d_Mod_readMessage_34 : decode prog_10_method_15_code 34 = .ok (.aload_n 0, 1) := by decide +kernel
theorem d_Mod_readMessage_35 : decode prog_10_method_15_code 35 = .ok (.iconst 4, 1) := by decide +kernel
theorem d_Mod_readMessage_36 : decode prog_10_method_15_code 36 = .ok (.invokevirtual 98, 3) := by decide +kernel
theorem d_Mod_readMessage_39 : decode prog_10_method_15_code 39 = .ok (.ifCond .ne 5, 3) := by decide +kernel
theorem d_Mod_readMessage_42 : decode prog_10_method_15_code 42 = .ok (.iconst 0, 1) := by decide +kernel
theorem d_Mod_readMessage_43 : decode prog_10_method_15_code 43 = .ok (.ireturn, 1) := by decide +kernel
theorem d_Mod_readMessage_44 : decode prog_10_method_15_code 44 = .ok (.aload_n 0, 1) := by decide +kernel
theorem d_Mod_readMessage_45 : decode prog_10_method_15_code 45 = .ok (.aload_n 0, 1) := by decide +kernel
theorem d_Mod_readMessage_46 : decode prog_10_method_15_code 46 = .ok (.getfield 92, 3) := by decide +kernel
theorem d_Mod_readMessage_49 : decode prog_10_method_15_code 49 = .ok (.l2i, 1) := by decide +kernel
theorem d_Mod_readMessage_50 : decode prog_10_method_15_code 50 = .ok (.putfield 139, 3) := by decide +kernel
theorem d_Mod_readMessage_53 : decode prog_10_method_15_code 53 = .ok (.iconst 1, 1) := by decide +kernel
theorem d_Mod_readMessage_54 : decode prog_10_method_15_code 54 = .ok (.istore_n 1, 1) := by decide +kernel
theorem d_Mod_readMessage_55 : decode prog_10_method_15_code 55 = .ok (.iload_n 1, 1) := by decide +kernel
theorem d_Mod_readMessage_56 : decode prog_10_method_15_code 56 = .ok (.bipush 64, 2) := by decide +kernel
theorem d_Mod_readMessage_58 : decode prog_10_method_15_code 58 = .ok (.if_icmp .gt 49, 3) := by decide +kernel
theorem d_Mod_readMessage_61 : decode prog_10_method_15_code 61 = .ok (.aload_n 0, 1) := by decide +kernel
theorem d_Mod_readMessage_62 : decode prog_10_method_15_code 62 = .ok (.getfield 23, 3) := by decide +kernel
theorem d_Mod_readMessage_65 : decode prog_10_method_15_code 65 = .ok (.iload_n 1, 1) := by decide +kernel
theorem d_Mod_readMessage_66 : decode prog_10_method_15_code 66 = .ok (.aload_n 0, 1) := by decide +kernel
theorem d_Mod_readMessage_67 : decode prog_10_method_15_code 67 = .ok (.getfield 16, 3) := by decide +kernel
theorem d_Mod_readMessage_70 : decode prog_10_method_15_code 70 = .ok (.iconst 2, 1) := by decide +kernel
theorem d_Mod_readMessage_71 : decode prog_10_method_15_code 71 = .ok (.iload_n 1, 1) := by decide +kernel
theorem d_Mod_readMessage_72 : decode prog_10_method_15_code 72 = .ok (.iconst 1, 1) := by decide +kernel
theorem d_Mod_readMessage_73 : decode prog_10_method_15_code 73 = .ok (.isub, 1) := by decide +kernel
theorem d_Mod_readMessage_74 : decode prog_10_method_15_code 74 = .ok (.bipush 8, 2) := by decide +kernel
theorem d_Mod_readMessage_76 : decode prog_10_method_15_code 76 = .ok (.idiv, 1) := by decide +kernel
theorem d_Mod_readMessage_77 : decode prog_10_method_15_code 77 = .ok (.iadd, 1) := by decide +kernel
theorem d_Mod_readMessage_78 : decode prog_10_method_15_code 78 = .ok (.iaload, 1) := by decide +kernel
theorem d_Mod_readMessage_79 : decode prog_10_method_15_code 79 = .ok (.bipush 7, 2) := by decide +kernel
theorem d_Mod_readMessage_81 : decode prog_10_method_15_code 81 = .ok (.iload_n 1, 1) := by decide +kernel
theorem d_Mod_readMessage_82 : decode prog_10_method_15_code 82 = .ok (.iconst 1, 1) := by decide +kernel
theorem d_Mod_readMessage_83 : decode prog_10_method_15_code 83 = .ok (.isub, 1) := by decide +kernel
theorem d_Mod_readMessage_84 : decode prog_10_method_15_code 84 = .ok (.bipush 8, 2) := by decide +kernel
theorem d_Mod_readMessage_86 : decode prog_10_method_15_code 86 = .ok (.irem, 1) := by decide +kernel
theorem d_Mod_readMessage_87 : decode prog_10_method_15_code 87 = .ok (.isub, 1) := by decide +kernel
theorem d_Mod_readMessage_88 : decode prog_10_method_15_code 88 = .ok (.ishr, 1) := by decide +kernel
theorem d_Mod_readMessage_89 : decode prog_10_method_15_code 89 = .ok (.iconst 1, 1) := by decide +kernel
theorem d_Mod_readMessage_90 : decode prog_10_method_15_code 90 = .ok (.iand, 1) := by decide +kernel
theorem d_Mod_readMessage_91 : decode prog_10_method_15_code 91 = .ok (.iconst 1, 1) := by decide +kernel
theorem d_Mod_readMessage_92 : decode prog_10_method_15_code 92 = .ok (.if_icmp .ne 7, 3) := by decide +kernel
theorem d_Mod_readMessage_95 : decode prog_10_method_15_code 95 = .ok (.iconst 1, 1) := by decide +kernel
theorem d_Mod_readMessage_96 : decode prog_10_method_15_code 96 = .ok (.goto 4, 3) := by decide +kernel
theorem d_Mod_readMessage_99 : decode prog_10_method_15_code 99 = .ok (.iconst 0, 1) := by decide +kernel
theorem d_Mod_readMessage_100 : decode prog_10_method_15_code 100 = .ok (.bastore, 1) := by decide +kernel
theorem d_Mod_readMessage_101 : decode prog_10_method_15_code 101 = .ok (.iinc 1 1, 3) := by decide +kernel
theorem d_Mod_readMessage_104 : decode prog_10_method_15_code 104 = .ok (.goto (-49), 3) := by decide +kernel
theorem d_Mod_readMessage_107 : decode prog_10_method_15_code 107 = .ok (.aload_n 0, 1) := by decide +kernel
theorem d_Mod_readMessage_108 : decode prog_10_method_15_code 108 = .ok (.bipush 10, 2) := by decide +kernel
theorem d_Mod_readMessage_110 : decode prog_10_method_15_code 110 = .ok (.putfield 89, 3) := by decide +kernel
theorem d_Mod_readMessage_113 : decode prog_10_method_15_code 113 = .ok (.iconst 1, 1) := by decide +kernel
theorem d_Mod_readMessage_114 : decode prog_10_method_15_code 114 = .ok (.istore_n 1, 1) := by decide +kernel
theorem d_Mod_readMessage_115 : decode prog_10_method_15_code 115 = .ok (.iload_n 1, 1) := by decide +kernel
theorem d_Mod_readMessage_116 : decode prog_10_method_15_code 116 = .ok (.bipush 64, 2) := by decide +kernel
theorem d_Mod_readMessage_118 : decode prog_10_method_15_code 118 = .ok (.if_icmp .gt 48, 3) := by decide +kernel
theorem d_Mod_readMessage_121 : decode prog_10_method_15_code 121 = .ok (.aload_n 0, 1) := by decide +kernel
theorem d_Mod_readMessage_122 : decode prog_10_method_15_code 122 = .ok (.getfield 27, 3) := by decide +kernel
theorem d_Mod_readMessage_125 : decode prog_10_method_15_code 125 = .ok (.iload_n 1, 1) := by decide +kernel
theorem d_Mod_readMessage_126 : decode prog_10_method_15_code 126 = .ok (.aload_n 0, 1) := by decide +kernel
theorem d_Mod_readMessage_127 : decode prog_10_method_15_code 127 = .ok (.getfield 89, 3) := by decide +kernel
theorem d_Mod_readMessage_130 : decode prog_10_method_15_code 130 = .ok (.iastore, 1) := by decide +kernel
theorem d_Mod_readMessage_131 : decode prog_10_method_15_code 131 = .ok (.aload_n 0, 1) := by decide +kernel
theorem d_Mod_readMessage_132 : decode prog_10_method_15_code 132 = .ok (.getfield 23, 3) := by decide +kernel
theorem d_Mod_readMessage_135 : decode prog_10_method_15_code 135 = .ok (.iload_n 1, 1) := by decide +kernel
theorem d_Mod_readMessage_136 : decode prog_10_method_15_code 136 = .ok (.baload, 1) := by decide +kernel
theorem d_Mod_readMessage_137 : decode prog_10_method_15_code 137 = .ok (.ifCond .eq 13, 3) := by decide +kernel
theorem d_Mod_readMessage_140 : decode prog_10_method_15_code 140 = .ok (.aload_n 0, 1) := by decide +kernel
theorem d_Mod_readMessage_141 : decode prog_10_method_15_code 141 = .ok (.iload_n 1, 1) := by decide +kernel
theorem d_Mod_readMessage_142 : decode prog_10_method_15_code 142 = .ok (.invokevirtual 142, 3) := by decide +kernel
theorem d_Mod_readMessage_145 : decode prog_10_method_15_code 145 = .ok (.ifCond .ne 5, 3) := by decide +kernel
theorem d_Mod_readMessage_148 : decode prog_10_method_15_code 148 = .ok (.iconst 0, 1) := by decide +kernel
theorem d_Mod_readMessage_149 : decode prog_10_method_15_code 149 = .ok (.ireturn, 1) := by decide +kernel
theorem d_Mod_readMessage_150 : decode prog_10_method_15_code 150 = .ok (.aload_n 0, 1) := by decide +kernel
theorem d_Mod_readMessage_151 : decode prog_10_method_15_code 151 = .ok (.getfield 30, 3) := by decide +kernel
theorem d_Mod_readMessage_154 : decode prog_10_method_15_code 154 = .ok (.iload_n 1, 1) := by decide +kernel
theorem d_Mod_readMessage_155 : decode prog_10_method_15_code 155 = .ok (.aload_n 0, 1) := by decide +kernel
theorem d_Mod_readMessage_156 : decode prog_10_method_15_code 156 = .ok (.getfield 89, 3) := by decide +kernel
theorem d_Mod_readMessage_159 : decode prog_10_method_15_code 159 = .ok (.iastore, 1) := by decide +kernel
theorem d_Mod_readMessage_160 : decode prog_10_method_15_code 160 = .ok (.iinc 1 1, 3) := by decide +kernel
theorem d_Mod_readMessage_163 : decode prog_10_method_15_code 163 = .ok (.goto (-48), 3) := by decide +kernel
theorem d_Mod_readMessage_166 : decode prog_10_method_15_code 166 = .ok (.aload_n 0, 1) := by decide +kernel
theorem d_Mod_readMessage_167 : decode prog_10_method_15_code 167 = .ok (.getfield 89, 3) := by decide +kernel
theorem d_Mod_readMessage_170 : decode prog_10_method_15_code 170 = .ok (.aload_n 0, 1) := by decide +kernel
theorem d_Mod_readMessage_171 : decode prog_10_method_15_code 171 = .ok (.getfield 84, 3) := by decide +kernel
theorem d_Mod_readMessage_174 : decode prog_10_method_15_code 174 = .ok (.if_icmp .ne 7, 3) := by decide +kernel
theorem d_Mod_readMessage_177 : decode prog_10_method_15_code 177 = .ok (.iconst 1, 1) := by decide +kernel
theorem d_Mod_readMessage_178 : decode prog_10_method_15_code 178 = .ok (.goto 4, 3) := by decide +kernel
theorem d_Mod_readMessage_181 : decode prog_10_method_15_code 181 = .ok (.iconst 0, 1) := by decide +kernel
theorem d_Mod_readMessage_182 : decode prog_10_method_15_code 182 = .ok (.ireturn, 1) := by decide +kernel
theorem d_Mod_due_0 : decode prog_10_method_16_code 0 = .ok (.iload_n 1, 1) := by decide +kernel
theorem d_Mod_due_1 : decode prog_10_method_16_code 1 = .ok (.bipush 48, 2) := by decide +kernel
theorem d_Mod_due_3 : decode prog_10_method_16_code 3 = .ok (.if_icmp .ne 5, 3) := by decide +kernel
theorem d_Mod_due_6 : decode prog_10_method_16_code 6 = .ok (.iconst 0, 1) := by decide +kernel
theorem d_Mod_due_7 : decode prog_10_method_16_code 7 = .ok (.ireturn, 1) := by decide +kernel
theorem d_Mod_due_8 : decode prog_10_method_16_code 8 = .ok (.iload_n 1, 1) := by decide +kernel
theorem d_Mod_due_9 : decode prog_10_method_16_code 9 = .ok (.bipush 11, 2) := by decide +kernel
theorem d_Mod_due_11 : decode prog_10_method_16_code 11 = .ok (.if_icmp .eq 9, 3) := by decide +kernel
theorem d_Mod_due_14 : decode prog_10_method_16_code 14 = .ok (.iload_n 1, 1) := by decide +kernel
theorem d_Mod_due_15 : decode prog_10_method_16_code 15 = .ok (.bipush 41, 2) := by decide +kernel
theorem d_Mod_due_17 : decode prog_10_method_16_code 17 = .ok (.if_icmp .ne 5, 3) := by decide +kernel
theorem d_Mod_due_20 : decode prog_10_method_16_code 20 = .ok (.iconst 1, 1) := by decide +kernel
theorem d_Mod_due_21 : decode prog_10_method_16_code 21 = .ok (.ireturn, 1) := by decide +kernel
theorem d_Mod_due_22 : decode prog_10_method_16_code 22 = .ok (.aload_n 0, 1) := by decide +kernel
theorem d_Mod_due_23 : decode prog_10_method_16_code 23 = .ok (.getfield 139, 3) := by decide +kernel
theorem d_Mod_due_26 : decode prog_10_method_16_code 26 = .ok (.bipush 100, 2) := by decide +kernel
theorem d_Mod_due_28 : decode prog_10_method_16_code 28 = .ok (.if_icmp .eq 13, 3) := by decide +kernel
theorem d_Mod_due_31 : decode prog_10_method_16_code 31 = .ok (.aload_n 0, 1) := by decide +kernel
theorem d_Mod_due_32 : decode prog_10_method_16_code 32 = .ok (.getfield 139, 3) := by decide +kernel
theorem d_Mod_due_35 : decode prog_10_method_16_code 35 = .ok (.sipush 200, 3) := by decide +kernel
theorem d_Mod_due_38 : decode prog_10_method_16_code 38 = .ok (.if_icmp .ne 7, 3) := by decide +kernel
theorem d_Mod_due_41 : decode prog_10_method_16_code 41 = .ok (.iconst 1, 1) := by decide +kernel
theorem d_Mod_due_42 : decode prog_10_method_16_code 42 = .ok (.goto 4, 3) := by decide +kernel
theorem d_Mod_due_45 : decode prog_10_method_16_code 45 = .ok (.iconst 0, 1) := by decide +kernel
theorem d_Mod_due_46 : decode prog_10_method_16_code 46 = .ok (.istore_n 2, 1) := by decide +kernel
theorem d_Mod_due_47 : decode prog_10_method_16_code 47 = .ok (.iload_n 2, 1) := by decide +kernel
theorem d_Mod_due_48 : decode prog_10_method_16_code 48 = .ok (.ifCond .ne 23, 3) := by decide +kernel
theorem d_Mod_due_51 : decode prog_10_method_16_code 51 = .ok (.aload_n 0, 1) := by decide +kernel
theorem d_Mod_due_52 : decode prog_10_method_16_code 52 = .ok (.getfield 139, 3) := by decide +kernel
theorem d_Mod_due_55 : decode prog_10_method_16_code 55 = .ok (.sipush 400, 3) := by decide +kernel
theorem d_Mod_due_58 : decode prog_10_method_16_code 58 = .ok (.if_icmp .eq 13, 3) := by decide +kernel
theorem d_Mod_due_61 : decode prog_10_method_16_code 61 = .ok (.aload_n 0, 1) := by decide +kernel
theorem d_Mod_due_62 : decode prog_10_method_16_code 62 = .ok (.getfield 139, 3) := by decide +kernel
theorem d_Mod_due_65 : decode prog_10_method_16_code 65 = .ok (.sipush 500, 3) := by decide +kernel
theorem d_Mod_due_68 : decode prog_10_method_16_code 68 = .ok (.if_icmp .ne 7, 3) := by decide +kernel
theorem d_Mod_due_71 : decode prog_10_method_16_code 71 = .ok (.iconst 1, 1) := by decide +kernel
theorem d_Mod_due_72 : decode prog_10_method_16_code 72 = .ok (.goto 4, 3) := by decide +kernel
theorem d_Mod_due_75 : decode prog_10_method_16_code 75 = .ok (.iconst 0, 1) := by decide +kernel
theorem d_Mod_due_76 : decode prog_10_method_16_code 76 = .ok (.istore_n 3, 1) := by decide +kernel
theorem d_Mod_due_77 : decode prog_10_method_16_code 77 = .ok (.iload_n 3, 1) := by decide +kernel
theorem d_Mod_due_78 : decode prog_10_method_16_code 78 = .ok (.ifCond .ne 15, 3) := by decide +kernel
theorem d_Mod_due_81 : decode prog_10_method_16_code 81 = .ok (.iload_n 1, 1) := by decide +kernel
theorem d_Mod_due_82 : decode prog_10_method_16_code 82 = .ok (.bipush 39, 2) := by decide +kernel
theorem d_Mod_due_84 : decode prog_10_method_16_code 84 = .ok (.if_icmp .ne 7, 3) := by decide +kernel
theorem d_Mod_due_87 : decode prog_10_method_16_code 87 = .ok (.iconst (-1), 1) := by decide +kernel
theorem d_Mod_due_88 : decode prog_10_method_16_code 88 = .ok (.goto 4, 3) := by decide +kernel
theorem d_Mod_due_91 : decode prog_10_method_16_code 91 = .ok (.iconst 0, 1) := by decide +kernel
theorem d_Mod_due_92 : decode prog_10_method_16_code 92 = .ok (.ireturn, 1) := by decide +kernel
theorem d_Mod_due_93 : decode prog_10_method_16_code 93 = .ok (.iload_n 1, 1) := by decide +kernel
theorem d_Mod_due_94 : decode prog_10_method_16_code 94 = .ok (.iconst 2, 1) := by decide +kernel
theorem d_Mod_due_95 : decode prog_10_method_16_code 95 = .ok (.if_icmp .ne 19, 3) := by decide +kernel
theorem d_Mod_due_98 : decode prog_10_method_16_code 98 = .ok (.aload_n 0, 1) := by decide +kernel
theorem d_Mod_due_99 : decode prog_10_method_16_code 99 = .ok (.getfield 139, 3) := by decide +kernel
theorem d_Mod_due_102 : decode prog_10_method_16_code 102 = .ok (.sipush 500, 3) := by decide +kernel
theorem d_Mod_due_105 : decode prog_10_method_16_code 105 = .ok (.if_icmp .ne 7, 3) := by decide +kernel
theorem d_Mod_due_108 : decode prog_10_method_16_code 108 = .ok (.iconst (-1), 1) := by decide +kernel
theorem d_Mod_due_109 : decode prog_10_method_16_code 109 = .ok (.goto 4, 3) := by decide +kernel
theorem d_Mod_due_112 : decode prog_10_method_16_code 112 = .ok (.iconst 1, 1) := by decide +kernel
theorem d_Mod_due_113 : decode prog_10_method_16_code 113 = .ok (.ireturn, 1) := by decide +kernel
theorem d_Mod_due_114 : decode prog_10_method_16_code 114 = .ok (.iload_n 1, 1) := by decide +kernel
theorem d_Mod_due_115 : decode prog_10_method_16_code 115 = .ok (.iconst 3, 1) := by decide +kernel
theorem d_Mod_due_116 : decode prog_10_method_16_code 116 = .ok (.if_icmp .eq 8, 3) := by decide +kernel
theorem d_Mod_due_119 : decode prog_10_method_16_code 119 = .ok (.iload_n 1, 1) := by decide +kernel
theorem d_Mod_due_120 : decode prog_10_method_16_code 120 = .ok (.iconst 4, 1) := by decide +kernel
theorem d_Mod_due_121 : decode prog_10_method_16_code 121 = .ok (.if_icmp .ne 13, 3) := by decide +kernel
theorem d_Mod_due_124 : decode prog_10_method_16_code 124 = .ok (.iload_n 2, 1) := by decide +kernel
theorem d_Mod_due_125 : decode prog_10_method_16_code 125 = .ok (.ifCond .eq 7, 3) := by decide +kernel
theorem d_Mod_due_128 : decode prog_10_method_16_code 128 = .ok (.iconst 1, 1) := by decide +kernel
theorem d_Mod_due_129 : decode prog_10_method_16_code 129 = .ok (.goto 4, 3) := by decide +kernel
theorem d_Mod_due_132 : decode prog_10_method_16_code 132 = .ok (.iconst (-1), 1) := by decide +kernel
theorem d_Mod_due_133 : decode prog_10_method_16_code 133 = .ok (.ireturn, 1) := by decide +kernel
theorem d_Mod_due_134 : decode prog_10_method_16_code 134 = .ok (.iload_n 1, 1) := by decide +kernel
theorem d_Mod_due_135 : decode prog_10_method_16_code 135 = .ok (.bipush 56, 2) := by decide +kernel
theorem d_Mod_due_137 : decode prog_10_method_16_code 137 = .ok (.if_icmp .ne 35, 3) := by decide +kernel
theorem d_Mod_due_140 : decode prog_10_method_16_code 140 = .ok (.aload_n 0, 1) := by decide +kernel
theorem d_Mod_due_141 : decode prog_10_method_16_code 141 = .ok (.getfield 139, 3) := by decide +kernel
theorem d_Mod_due_144 : decode prog_10_method_16_code 144 = .ok (.sipush 400, 3) := by decide +kernel
theorem d_Mod_due_147 : decode prog_10_method_16_code 147 = .ok (.if_icmp .ne 7, 3) := by decide +kernel
theorem d_Mod_due_150 : decode prog_10_method_16_code 150 = .ok (.iconst 1, 1) := by decide +kernel
theorem d_Mod_due_151 : decode prog_10_method_16_code 151 = .ok (.goto 22, 3) := by decide +kernel
theorem d_Mod_due_154 : decode prog_10_method_16_code 154 = .ok (.aload_n 0, 1) := by decide +kernel
theorem d_Mod_due_155 : decode prog_10_method_16_code 155 = .ok (.getfield 139, 3) := by decide +kernel
theorem d_Mod_due_158 : decode prog_10_method_16_code 158 = .ok (.sipush 200, 3) := by decide +kernel
theorem d_Mod_due_161 : decode prog_10_method_16_code 161 = .ok (.if_icmp .ne 7, 3) := by decide +kernel
theorem d_Mod_due_164 : decode prog_10_method_16_code 164 = .ok (.iconst 0, 1) := by decide +kernel
theorem d_Mod_due_165 : decode prog_10_method_16_code 165 = .ok (.goto 8, 3) := by decide +kernel
theorem d_Mod_due_168 : decode prog_10_method_16_code 168 = .ok (.iconst (-1), 1) := by decide +kernel
theorem d_Mod_due_169 : decode prog_10_method_16_code 169 = .ok (.goto 4, 3) := by decide +kernel
theorem d_Mod_due_172 : decode prog_10_method_16_code 172 = .ok (.iconst (-1), 1) := by decide +kernel
theorem d_Mod_due_173 : decode prog_10_method_16_code 173 = .ok (.ireturn, 1) := by decide +kernel
theorem d_Mod_isRequest_0 : decode prog_10_method_17_code 0 = .ok (.aload_n 0, 1) := by decide +kernel
theorem d_Mod_isRequest_1 : decode prog_10_method_17_code 1 = .ok (.invokevirtual 145, 3) := by decide +kernel
theorem d_Mod_isRequest_4 : decode prog_10_method_17_code 4 = .ok (.ifCond .eq 16, 3) := by decide +kernel
theorem d_Mod_isRequest_7 : decode prog_10_method_17_code 7 = .ok (.aload_n 0, 1) := by decide +kernel
theorem d_Mod_isRequest_8 : decode prog_10_method_17_code 8 = .ok (.getfield 139, 3) := by decide +kernel
theorem d_Mod_isRequest_11 : decode prog_10_method_17_code 11 = .ok (.bipush 10, 2) := by decide +kernel
theorem d_Mod_isRequest_13 : decode prog_10_method_17_code 13 = .ok (.idiv, 1) := by decide +kernel
theorem d_Mod_isRequest_14 : decode prog_10_method_17_code 14 = .ok (.bipush 10, 2) := by decide +kernel
theorem d_Mod_isRequest_16 : decode prog_10_method_17_code 16 = .ok (.irem, 1) := by decide +kernel
theorem d_Mod_isRequest_17 : decode prog_10_method_17_code 17 = .ok (.ifCond .eq 5, 3) := by decide +kernel
theorem d_Mod_isRequest_20 : decode prog_10_method_17_code 20 = .ok (.iconst 0, 1) := by decide +kernel
theorem d_Mod_isRequest_21 : decode prog_10_method_17_code 21 = .ok (.ireturn, 1) := by decide +kernel
theorem d_Mod_isRequest_22 : decode prog_10_method_17_code 22 = .ok (.iconst 1, 1) := by decide +kernel
theorem d_Mod_isRequest_23 : decode prog_10_method_17_code 23 = .ok (.istore_n 1, 1) := by decide +kernel
theorem d_Mod_isRequest_24 : decode prog_10_method_17_code 24 = .ok (.iload_n 1, 1) := by decide +kernel
theorem d_Mod_isRequest_25 : decode prog_10_method_17_code 25 = .ok (.bipush 64, 2) := by decide +kernel
theorem d_Mod_isRequest_27 : decode prog_10_method_17_code 27 = .ok (.if_icmp .gt 45, 3) := by decide +kernel
theorem d_Mod_isRequest_30 : decode prog_10_method_17_code 30 = .ok (.aload_n 0, 1) := by decide +kernel
theorem d_Mod_isRequest_31 : decode prog_10_method_17_code 31 = .ok (.iload_n 1, 1) := by decide +kernel
theorem d_Mod_isRequest_32 : decode prog_10_method_17_code 32 = .ok (.invokevirtual 148, 3) := by decide +kernel
theorem d_Mod_isRequest_35 : decode prog_10_method_17_code 35 = .ok (.istore_n 2, 1) := by decide +kernel
theorem d_Mod_isRequest_36 : decode prog_10_method_17_code 36 = .ok (.iload_n 2, 1) := by decide +kernel
theorem d_Mod_isRequest_37 : decode prog_10_method_17_code 37 = .ok (.iconst 1, 1) := by decide +kernel
theorem d_Mod_isRequest_38 : decode prog_10_method_17_code 38 = .ok (.if_icmp .ne 12, 3) := by decide +kernel
theorem d_Mod_isRequest_41 : decode prog_10_method_17_code 41 = .ok (.aload_n 0, 1) := by decide +kernel
theorem d_Mod_isRequest_42 : decode prog_10_method_17_code 42 = .ok (.getfield 23, 3) := by decide +kernel
theorem d_Mod_isRequest_45 : decode prog_10_method_17_code 45 = .ok (.iload_n 1, 1) := by decide +kernel
theorem d_Mod_isRequest_46 : decode prog_10_method_17_code 46 = .ok (.baload, 1) := by decide +kernel
theorem d_Mod_isRequest_47 : decode prog_10_method_17_code 47 = .ok (.ifCond .eq 17, 3) := by decide +kernel
theorem d_Mod_isRequest_50 : decode prog_10_method_17_code 50 = .ok (.iload_n 2, 1) := by decide +kernel
theorem d_Mod_isRequest_51 : decode prog_10_method_17_code 51 = .ok (.iconst (-1), 1) := by decide +kernel
theorem d_Mod_isRequest_52 : decode prog_10_method_17_code 52 = .ok (.if_icmp .ne 14, 3) := by decide +kernel
theorem d_Mod_isRequest_55 : decode prog_10_method_17_code 55 = .ok (.aload_n 0, 1) := by decide +kernel
theorem d_Mod_isRequest_56 : decode prog_10_method_17_code 56 = .ok (.getfield 23, 3) := by decide +kernel
theorem d_Mod_isRequest_59 : decode prog_10_method_17_code 59 = .ok (.iload_n 1, 1) := by decide +kernel
theorem d_Mod_isRequest_60 : decode prog_10_method_17_code 60 = .ok (.baload, 1) := by decide +kernel
theorem d_Mod_isRequest_61 : decode prog_10_method_17_code 61 = .ok (.ifCond .eq 5, 3) := by decide +kernel
theorem d_Mod_isRequest_64 : decode prog_10_method_17_code 64 = .ok (.iconst 0, 1) := by decide +kernel
theorem d_Mod_isRequest_65 : decode prog_10_method_17_code 65 = .ok (.ireturn, 1) := by decide +kernel
theorem d_Mod_isRequest_66 : decode prog_10_method_17_code 66 = .ok (.iinc 1 1, 3) := by decide +kernel
theorem d_Mod_isRequest_69 : decode prog_10_method_17_code 69 = .ok (.goto (-45), 3) := by decide +kernel
theorem d_Mod_isRequest_72 : decode prog_10_method_17_code 72 = .ok (.iconst 1, 1) := by decide +kernel
theorem d_Mod_isRequest_73 : decode prog_10_method_17_code 73 = .ok (.ireturn, 1) := by decide +kernel
theorem d_Mod_same_0 : decode prog_10_method_18_code 0 = .ok (.iconst 0, 1) := by decide +kernel
theorem d_Mod_same_1 : decode prog_10_method_18_code 1 = .ok (.istore_n 3, 1) := by decide +kernel
theorem d_Mod_same_2 : decode prog_10_method_18_code 2 = .ok (.iload_n 3, 1) := by decide +kernel
theorem d_Mod_same_3 : decode prog_10_method_18_code 3 = .ok (.aload_n 0, 1) := by decide +kernel
theorem d_Mod_same_4 : decode prog_10_method_18_code 4 = .ok (.getfield 77, 3) := by decide +kernel
theorem d_Mod_same_7 : decode prog_10_method_18_code 7 = .ok (.if_icmp .ge 44, 3) := by decide +kernel
theorem d_Mod_same_10 : decode prog_10_method_18_code 10 = .ok (.aload_n 0, 1) := by decide +kernel
theorem d_Mod_same_11 : decode prog_10_method_18_code 11 = .ok (.getfield 33, 3) := by decide +kernel
theorem d_Mod_same_14 : decode prog_10_method_18_code 14 = .ok (.iload_n 3, 1) := by decide +kernel
theorem d_Mod_same_15 : decode prog_10_method_18_code 15 = .ok (.iaload, 1) := by decide +kernel
theorem d_Mod_same_16 : decode prog_10_method_18_code 16 = .ok (.iload_n 1, 1) := by decide +kernel
theorem d_Mod_same_17 : decode prog_10_method_18_code 17 = .ok (.if_icmp .ne 28, 3) := by decide +kernel
theorem d_Mod_same_20 : decode prog_10_method_18_code 20 = .ok (.aload_n 0, 1) := by decide +kernel
theorem d_Mod_same_21 : decode prog_10_method_18_code 21 = .ok (.getfield 36, 3) := by decide +kernel
theorem d_Mod_same_24 : decode prog_10_method_18_code 24 = .ok (.iload_n 3, 1) := by decide +kernel
theorem d_Mod_same_25 : decode prog_10_method_18_code 25 = .ok (.iaload, 1) := by decide +kernel
theorem d_Mod_same_26 : decode prog_10_method_18_code 26 = .ok (.aload_n 0, 1) := by decide +kernel
theorem d_Mod_same_27 : decode prog_10_method_18_code 27 = .ok (.getfield 130, 3) := by decide +kernel
theorem d_Mod_same_30 : decode prog_10_method_18_code 30 = .ok (.if_icmp .ne 15, 3) := by decide +kernel
theorem d_Mod_same_33 : decode prog_10_method_18_code 33 = .ok (.aload_n 0, 1) := by decide +kernel
theorem d_Mod_same_34 : decode prog_10_method_18_code 34 = .ok (.getfield 39, 3) := by decide +kernel
theorem d_Mod_same_37 : decode prog_10_method_18_code 37 = .ok (.iload_n 3, 1) := by decide +kernel
theorem d_Mod_same_38 : decode prog_10_method_18_code 38 = .ok (.iaload, 1) := by decide +kernel
theorem d_Mod_same_39 : decode prog_10_method_18_code 39 = .ok (.iload_n 2, 1) := by decide +kernel
theorem d_Mod_same_40 : decode prog_10_method_18_code 40 = .ok (.if_icmp .ne 5, 3) := by decide +kernel
theorem d_Mod_same_43 : decode prog_10_method_18_code 43 = .ok (.iload_n 3, 1) := by decide +kernel
theorem d_Mod_same_44 : decode prog_10_method_18_code 44 = .ok (.ireturn, 1) := by decide +kernel
theorem d_Mod_same_45 : decode prog_10_method_18_code 45 = .ok (.iinc 3 1, 3) := by decide +kernel
theorem d_Mod_same_48 : decode prog_10_method_18_code 48 = .ok (.goto (-46), 3) := by decide +kernel
theorem d_Mod_same_51 : decode prog_10_method_18_code 51 = .ok (.iconst (-1), 1) := by decide +kernel
theorem d_Mod_same_52 : decode prog_10_method_18_code 52 = .ok (.ireturn, 1) := by decide +kernel
theorem d_Mod_netOf_0 : decode prog_10_method_25_code 0 = .ok (.lconst 0, 1) := by decide +kernel
theorem d_Mod_netOf_1 : decode prog_10_method_25_code 1 = .ok (.lstore_n 2, 1) := by decide +kernel
theorem d_Mod_netOf_2 : decode prog_10_method_25_code 2 = .ok (.iconst 0, 1) := by decide +kernel
theorem d_Mod_netOf_3 : decode prog_10_method_25_code 3 = .ok (.istore 4, 2) := by decide +kernel
theorem d_Mod_netOf_5 : decode prog_10_method_25_code 5 = .ok (.iload 4, 2) := by decide +kernel
theorem d_Mod_netOf_7 : decode prog_10_method_25_code 7 = .ok (.aload_n 0, 1) := by decide +kernel
theorem d_Mod_netOf_8 : decode prog_10_method_25_code 8 = .ok (.getfield 77, 3) := by decide +kernel
theorem d_Mod_netOf_11 : decode prog_10_method_25_code 11 = .ok (.if_icmp .ge 92, 3) := by decide +kernel
theorem d_Mod_netOf_14 : decode prog_10_method_25_code 14 = .ok (.aload_n 0, 1) := by decide +kernel
theorem d_Mod_netOf_15 : decode prog_10_method_25_code 15 = .ok (.getfield 33, 3) := by decide +kernel
theorem d_Mod_netOf_18 : decode prog_10_method_25_code 18 = .ok (.iload 4, 2) := by decide +kernel
theorem d_Mod_netOf_20 : decode prog_10_method_25_code 20 = .ok (.iaload, 1) := by decide +kernel
theorem d_Mod_netOf_21 : decode prog_10_method_25_code 21 = .ok (.sipush 200, 3) := by decide +kernel
theorem d_Mod_netOf_24 : decode prog_10_method_25_code 24 = .ok (.if_icmp .ne 73, 3) := by decide +kernel
theorem d_Mod_netOf_27 : decode prog_10_method_25_code 27 = .ok (.aload_n 0, 1) := by decide +kernel
theorem d_Mod_netOf_28 : decode prog_10_method_25_code 28 = .ok (.getfield 36, 3) := by decide +kernel
theorem d_Mod_netOf_31 : decode prog_10_method_25_code 31 = .ok (.iload 4, 2) := by decide +kernel
theorem d_Mod_netOf_33 : decode prog_10_method_25_code 33 = .ok (.iaload, 1) := by decide +kernel
theorem d_Mod_netOf_34 : decode prog_10_method_25_code 34 = .ok (.iload_n 1, 1) := by decide +kernel
theorem d_Mod_netOf_35 : decode prog_10_method_25_code 35 = .ok (.if_icmp .ne 62, 3) := by decide +kernel
theorem d_Mod_netOf_38 : decode prog_10_method_25_code 38 = .ok (.aload_n 0, 1) := by decide +kernel
theorem d_Mod_netOf_39 : decode prog_10_method_25_code 39 = .ok (.getfield 51, 3) := by decide +kernel
theorem d_Mod_netOf_42 : decode prog_10_method_25_code 42 = .ok (.iload 4, 2) := by decide +kernel
theorem d_Mod_netOf_44 : decode prog_10_method_25_code 44 = .ok (.iaload, 1) := by decide +kernel
theorem d_Mod_netOf_45 : decode prog_10_method_25_code 45 = .ok (.ifCond .ne 52, 3) := by decide +kernel
theorem d_Mod_netOf_48 : decode prog_10_method_25_code 48 = .ok (.aload_n 0, 1) := by decide +kernel
theorem d_Mod_netOf_49 : decode prog_10_method_25_code 49 = .ok (.getfield 54, 3) := by decide +kernel
theorem d_Mod_netOf_52 : decode prog_10_method_25_code 52 = .ok (.iload 4, 2) := by decide +kernel
theorem d_Mod_netOf_54 : decode prog_10_method_25_code 54 = .ok (.iaload, 1) := by decide +kernel
theorem d_Mod_netOf_55 : decode prog_10_method_25_code 55 = .ok (.iconst 3, 1) := by decide +kernel
theorem d_Mod_netOf_56 : decode prog_10_method_25_code 56 = .ok (.if_icmp .eq 41, 3) := by decide +kernel
theorem d_Mod_netOf_59 : decode prog_10_method_25_code 59 = .ok (.aload_n 0, 1) := by decide +kernel
theorem d_Mod_netOf_60 : decode prog_10_method_25_code 60 = .ok (.getfield 45, 3) := by decide +kernel
theorem d_Mod_netOf_63 : decode prog_10_method_25_code 63 = .ok (.iload 4, 2) := by decide +kernel
theorem d_Mod_netOf_65 : decode prog_10_method_25_code 65 = .ok (.iaload, 1) := by decide +kernel
theorem d_Mod_netOf_66 : decode prog_10_method_25_code 66 = .ok (.sipush 10000, 3) := by decide +kernel
theorem d_Mod_netOf_69 : decode prog_10_method_25_code 69 = .ok (.idiv, 1) := by decide +kernel
theorem d_Mod_netOf_70 : decode prog_10_method_25_code 70 = .ok (.bipush 20, 2) := by decide +kernel
theorem d_Mod_netOf_72 : decode prog_10_method_25_code 72 = .ok (.if_icmp .ne 15, 3) := by decide +kernel
theorem d_Mod_netOf_75 : decode prog_10_method_25_code 75 = .ok (.lload_n 2, 1) := by decide +kernel
theorem d_Mod_netOf_76 : decode prog_10_method_25_code 76 = .ok (.aload_n 0, 1) := by decide +kernel
theorem d_Mod_netOf_77 : decode prog_10_method_25_code 77 = .ok (.getfield 48, 3) := by decide +kernel
theorem d_Mod_netOf_80 : decode prog_10_method_25_code 80 = .ok (.iload 4, 2) := by decide +kernel
theorem d_Mod_netOf_82 : decode prog_10_method_25_code 82 = .ok (.laload, 1) := by decide +kernel
theorem d_Mod_netOf_83 : decode prog_10_method_25_code 83 = .ok (.ladd, 1) := by decide +kernel
theorem d_Mod_netOf_84 : decode prog_10_method_25_code 84 = .ok (.goto 12, 3) := by decide +kernel
theorem d_Mod_netOf_87 : decode prog_10_method_25_code 87 = .ok (.lload_n 2, 1) := by decide +kernel
theorem d_Mod_netOf_88 : decode prog_10_method_25_code 88 = .ok (.aload_n 0, 1) := by decide +kernel
theorem d_Mod_netOf_89 : decode prog_10_method_25_code 89 = .ok (.getfield 48, 3) := by decide +kernel
theorem d_Mod_netOf_92 : decode prog_10_method_25_code 92 = .ok (.iload 4, 2) := by decide +kernel
theorem d_Mod_netOf_94 : decode prog_10_method_25_code 94 = .ok (.laload, 1) := by decide +kernel
theorem d_Mod_netOf_95 : decode prog_10_method_25_code 95 = .ok (.lsub, 1) := by decide +kernel
theorem d_Mod_netOf_96 : decode prog_10_method_25_code 96 = .ok (.lstore_n 2, 1) := by decide +kernel
theorem d_Mod_netOf_97 : decode prog_10_method_25_code 97 = .ok (.iinc 4 1, 3) := by decide +kernel
theorem d_Mod_netOf_100 : decode prog_10_method_25_code 100 = .ok (.goto (-95), 3) := by decide +kernel
theorem d_Mod_netOf_103 : decode prog_10_method_25_code 103 = .ok (.lload_n 2, 1) := by decide +kernel
theorem d_Mod_netOf_104 : decode prog_10_method_25_code 104 = .ok (.lreturn, 1) := by decide +kernel
theorem d_Mod_enter_0 : decode prog_10_method_19_code 0 = .ok (.aload_n 0, 1) := by decide +kernel
theorem d_Mod_enter_1 : decode prog_10_method_19_code 1 = .ok (.getfield 33, 3) := by decide +kernel
theorem d_Mod_enter_4 : decode prog_10_method_19_code 4 = .ok (.aload_n 0, 1) := by decide +kernel
theorem d_Mod_enter_5 : decode prog_10_method_19_code 5 = .ok (.getfield 77, 3) := by decide +kernel
theorem d_Mod_enter_8 : decode prog_10_method_19_code 8 = .ok (.aload_n 0, 1) := by decide +kernel
theorem d_Mod_enter_9 : decode prog_10_method_19_code 9 = .ok (.getfield 139, 3) := by decide +kernel
theorem d_Mod_enter_12 : decode prog_10_method_19_code 12 = .ok (.iastore, 1) := by decide +kernel
theorem d_Mod_enter_13 : decode prog_10_method_19_code 13 = .ok (.aload_n 0, 1) := by decide +kernel
theorem d_Mod_enter_14 : decode prog_10_method_19_code 14 = .ok (.getfield 36, 3) := by decide +kernel
theorem d_Mod_enter_17 : decode prog_10_method_19_code 17 = .ok (.aload_n 0, 1) := by decide +kernel
theorem d_Mod_enter_18 : decode prog_10_method_19_code 18 = .ok (.getfield 77, 3) := by decide +kernel
theorem d_Mod_enter_21 : decode prog_10_method_19_code 21 = .ok (.aload_n 0, 1) := by decide +kernel
theorem d_Mod_enter_22 : decode prog_10_method_19_code 22 = .ok (.getfield 130, 3) := by decide +kernel
theorem d_Mod_enter_25 : decode prog_10_method_19_code 25 = .ok (.iastore, 1) := by decide +kernel
theorem d_Mod_enter_26 : decode prog_10_method_19_code 26 = .ok (.aload_n 0, 1) := by decide +kernel
theorem d_Mod_enter_27 : decode prog_10_method_19_code 27 = .ok (.getfield 39, 3) := by decide +kernel
theorem d_Mod_enter_30 : decode prog_10_method_19_code 30 = .ok (.aload_n 0, 1) := by decide +kernel
theorem d_Mod_enter_31 : decode prog_10_method_19_code 31 = .ok (.getfield 77, 3) := by decide +kernel
theorem d_Mod_enter_34 : decode prog_10_method_19_code 34 = .ok (.aload_n 0, 1) := by decide +kernel
theorem d_Mod_enter_35 : decode prog_10_method_19_code 35 = .ok (.getfield 127, 3) := by decide +kernel
theorem d_Mod_enter_38 : decode prog_10_method_19_code 38 = .ok (.iastore, 1) := by decide +kernel
theorem d_Mod_enter_39 : decode prog_10_method_19_code 39 = .ok (.aload_n 0, 1) := by decide +kernel
theorem d_Mod_enter_40 : decode prog_10_method_19_code 40 = .ok (.getfield 42, 3) := by decide +kernel
theorem d_Mod_enter_43 : decode prog_10_method_19_code 43 = .ok (.aload_n 0, 1) := by decide +kernel
theorem d_Mod_enter_44 : decode prog_10_method_19_code 44 = .ok (.getfield 77, 3) := by decide +kernel
theorem d_Mod_enter_47 : decode prog_10_method_19_code 47 = .ok (.aload_n 0, 1) := by decide +kernel
theorem d_Mod_enter_48 : decode prog_10_method_19_code 48 = .ok (.getfield 103, 3) := by decide +kernel
theorem d_Mod_enter_51 : decode prog_10_method_19_code 51 = .ok (.lastore, 1) := by decide +kernel
theorem d_Mod_enter_52 : decode prog_10_method_19_code 52 = .ok (.aload_n 0, 1) := by decide +kernel
theorem d_Mod_enter_53 : decode prog_10_method_19_code 53 = .ok (.getfield 45, 3) := by decide +kernel
theorem d_Mod_enter_56 : decode prog_10_method_19_code 56 = .ok (.aload_n 0, 1) := by decide +kernel
theorem d_Mod_enter_57 : decode prog_10_method_19_code 57 = .ok (.getfield 77, 3) := by decide +kernel
theorem d_Mod_enter_60 : decode prog_10_method_19_code 60 = .ok (.aload_n 0, 1) := by decide +kernel
theorem d_Mod_enter_61 : decode prog_10_method_19_code 61 = .ok (.getfield 121, 3) := by decide +kernel
theorem d_Mod_enter_64 : decode prog_10_method_19_code 64 = .ok (.iastore, 1) := by decide +kernel
theorem d_Mod_enter_65 : decode prog_10_method_19_code 65 = .ok (.aload_n 0, 1) := by decide +kernel
theorem d_Mod_enter_66 : decode prog_10_method_19_code 66 = .ok (.getfield 48, 3) := by decide +kernel
theorem d_Mod_enter_69 : decode prog_10_method_19_code 69 = .ok (.aload_n 0, 1) := by decide +kernel
theorem d_Mod_enter_70 : decode prog_10_method_19_code 70 = .ok (.getfield 77, 3) := by decide +kernel
theorem d_Mod_enter_73 : decode prog_10_method_19_code 73 = .ok (.aload_n 0, 1) := by decide +kernel
theorem d_Mod_enter_74 : decode prog_10_method_19_code 74 = .ok (.getfield 124, 3) := by decide +kernel
theorem d_Mod_enter_77 : decode prog_10_method_19_code 77 = .ok (.lastore, 1) := by decide +kernel
theorem d_Mod_enter_78 : decode prog_10_method_19_code 78 = .ok (.aload_n 0, 1) := by decide +kernel
theorem d_Mod_enter_79 : decode prog_10_method_19_code 79 = .ok (.getfield 51, 3) := by decide +kernel
theorem d_Mod_enter_82 : decode prog_10_method_19_code 82 = .ok (.aload_n 0, 1) := by decide +kernel
theorem d_Mod_enter_83 : decode prog_10_method_19_code 83 = .ok (.getfield 77, 3) := by decide +kernel
theorem d_Mod_enter_86 : decode prog_10_method_19_code 86 = .ok (.iload_n 1, 1) := by decide +kernel
theorem d_Mod_enter_87 : decode prog_10_method_19_code 87 = .ok (.iastore, 1) := by decide +kernel
theorem d_Mod_enter_88 : decode prog_10_method_19_code 88 = .ok (.aload_n 0, 1) := by decide +kernel
theorem d_Mod_enter_89 : decode prog_10_method_19_code 89 = .ok (.getfield 54, 3) := by decide +kernel
theorem d_Mod_enter_92 : decode prog_10_method_19_code 92 = .ok (.aload_n 0, 1) := by decide +kernel
theorem d_Mod_enter_93 : decode prog_10_method_19_code 93 = .ok (.getfield 77, 3) := by decide +kernel
theorem d_Mod_enter_96 : decode prog_10_method_19_code 96 = .ok (.iload_n 2, 1) := by decide +kernel
theorem d_Mod_enter_97 : decode prog_10_method_19_code 97 = .ok (.iastore, 1) := by decide +kernel
theorem d_Mod_enter_98 : decode prog_10_method_19_code 98 = .ok (.aload_n 0, 1) := by decide +kernel
theorem d_Mod_enter_99 : decode prog_10_method_19_code 99 = .ok (.getfield 57, 3) := by decide +kernel
theorem d_Mod_enter_102 : decode prog_10_method_19_code 102 = .ok (.aload_n 0, 1) := by decide +kernel
theorem d_Mod_enter_103 : decode prog_10_method_19_code 103 = .ok (.getfield 77, 3) := by decide +kernel
theorem d_Mod_enter_106 : decode prog_10_method_19_code 106 = .ok (.aload_n 0, 1) := by decide +kernel
theorem d_Mod_enter_107 : decode prog_10_method_19_code 107 = .ok (.getfield 74, 3) := by decide +kernel
theorem d_Mod_enter_110 : decode prog_10_method_19_code 110 = .ok (.iastore, 1) := by decide +kernel
theorem d_Mod_enter_111 : decode prog_10_method_19_code 111 = .ok (.aload_n 0, 1) := by decide +kernel
theorem d_Mod_enter_112 : decode prog_10_method_19_code 112 = .ok (.dup, 1) := by decide +kernel
theorem d_Mod_enter_113 : decode prog_10_method_19_code 113 = .ok (.getfield 77, 3) := by decide +kernel
theorem d_Mod_enter_116 : decode prog_10_method_19_code 116 = .ok (.iconst 1, 1) := by decide +kernel
theorem d_Mod_enter_117 : decode prog_10_method_19_code 117 = .ok (.iadd, 1) := by decide +kernel
theorem d_Mod_enter_118 : decode prog_10_method_19_code 118 = .ok (.putfield 77, 3) := by decide +kernel
theorem d_Mod_enter_121 : decode prog_10_method_19_code 121 = .ok (.return_, 1) := by decide +kernel
theorem d_Mod_move_0 : decode prog_10_method_26_code 0 = .ok (.aload_n 0, 1) := by decide +kernel
theorem d_Mod_move_1 : decode prog_10_method_26_code 1 = .ok (.getfield 33, 3) := by decide +kernel
theorem d_Mod_move_4 : decode prog_10_method_26_code 4 = .ok (.iload_n 2, 1) := by decide +kernel
theorem d_Mod_move_5 : decode prog_10_method_26_code 5 = .ok (.aload_n 0, 1) := by decide +kernel
theorem d_Mod_move_6 : decode prog_10_method_26_code 6 = .ok (.getfield 33, 3) := by decide +kernel
theorem d_Mod_move_9 : decode prog_10_method_26_code 9 = .ok (.iload_n 1, 1) := by decide +kernel
theorem d_Mod_move_10 : decode prog_10_method_26_code 10 = .ok (.iaload, 1) := by decide +kernel
theorem d_Mod_move_11 : decode prog_10_method_26_code 11 = .ok (.iastore, 1) := by decide +kernel
theorem d_Mod_move_12 : decode prog_10_method_26_code 12 = .ok (.aload_n 0, 1) := by decide +kernel
theorem d_Mod_move_13 : decode prog_10_method_26_code 13 = .ok (.getfield 36, 3) := by decide +kernel
theorem d_Mod_move_16 : decode prog_10_method_26_code 16 = .ok (.iload_n 2, 1) := by decide +kernel
theorem d_Mod_move_17 : decode prog_10_method_26_code 17 = .ok (.aload_n 0, 1) := by decide +kernel
theorem d_Mod_move_18 : decode prog_10_method_26_code 18 = .ok (.getfield 36, 3) := by decide +kernel
theorem d_Mod_move_21 : decode prog_10_method_26_code 21 = .ok (.iload_n 1, 1) := by decide +kernel
theorem d_Mod_move_22 : decode prog_10_method_26_code 22 = .ok (.iaload, 1) := by decide +kernel
theorem d_Mod_move_23 : decode prog_10_method_26_code 23 = .ok (.iastore, 1) := by decide +kernel
theorem d_Mod_move_24 : decode prog_10_method_26_code 24 = .ok (.aload_n 0, 1) := by decide +kernel
theorem d_Mod_move_25 : decode prog_10_method_26_code 25 = .ok (.getfield 39, 3) := by decide +kernel
theorem d_Mod_move_28 : decode prog_10_method_26_code 28 = .ok (.iload_n 2, 1) := by decide +kernel
theorem d_Mod_move_29 : decode prog_10_method_26_code 29 = .ok (.aload_n 0, 1) := by decide +kernel
theorem d_Mod_move_30 : decode prog_10_method_26_code 30 = .ok (.getfield 39, 3) := by decide +kernel
theorem d_Mod_move_33 : decode prog_10_method_26_code 33 = .ok (.iload_n 1, 1) := by decide +kernel
theorem d_Mod_move_34 : decode prog_10_method_26_code 34 = .ok (.iaload, 1) := by decide +kernel
theorem d_Mod_move_35 : decode prog_10_method_26_code 35 = .ok (.iastore, 1) := by decide +kernel
theorem d_Mod_move_36 : decode prog_10_method_26_code 36 = .ok (.aload_n 0, 1) := by decide +kernel
theorem d_Mod_move_37 : decode prog_10_method_26_code 37 = .ok (.getfield 42, 3) := by decide +kernel
theorem d_Mod_move_40 : decode prog_10_method_26_code 40 = .ok (.iload_n 2, 1) := by decide +kernel
theorem d_Mod_move_41 : decode prog_10_method_26_code 41 = .ok (.aload_n 0, 1) := by decide +kernel
theorem d_Mod_move_42 : decode prog_10_method_26_code 42 = .ok (.getfield 42, 3) := by decide +kernel
theorem d_Mod_move_45 : decode prog_10_method_26_code 45 = .ok (.iload_n 1, 1) := by decide +kernel
theorem d_Mod_move_46 : decode prog_10_method_26_code 46 = .ok (.laload, 1) := by decide +kernel
theorem d_Mod_move_47 : decode prog_10_method_26_code 47 = .ok (.lastore, 1) := by decide +kernel
theorem d_Mod_move_48 : decode prog_10_method_26_code 48 = .ok (.aload_n 0, 1) := by decide +kernel
theorem d_Mod_move_49 : decode prog_10_method_26_code 49 = .ok (.getfield 45, 3) := by decide +kernel
theorem d_Mod_move_52 : decode prog_10_method_26_code 52 = .ok (.iload_n 2, 1) := by decide +kernel
theorem d_Mod_move_53 : decode prog_10_method_26_code 53 = .ok (.aload_n 0, 1) := by decide +kernel
theorem d_Mod_move_54 : decode prog_10_method_26_code 54 = .ok (.getfield 45, 3) := by decide +kernel
theorem d_Mod_move_57 : decode prog_10_method_26_code 57 = .ok (.iload_n 1, 1) := by decide +kernel
theorem d_Mod_move_58 : decode prog_10_method_26_code 58 = .ok (.iaload, 1) := by decide +kernel
theorem d_Mod_move_59 : decode prog_10_method_26_code 59 = .ok (.iastore, 1) := by decide +kernel
theorem d_Mod_move_60 : decode prog_10_method_26_code 60 = .ok (.aload_n 0, 1) := by decide +kernel
theorem d_Mod_move_61 : decode prog_10_method_26_code 61 = .ok (.getfield 48, 3) := by decide +kernel
theorem d_Mod_move_64 : decode prog_10_method_26_code 64 = .ok (.iload_n 2, 1) := by decide +kernel
theorem d_Mod_move_65 : decode prog_10_method_26_code 65 = .ok (.aload_n 0, 1) := by decide +kernel
theorem d_Mod_move_66 : decode prog_10_method_26_code 66 = .ok (.getfield 48, 3) := by decide +kernel
theorem d_Mod_move_69 : decode prog_10_method_26_code 69 = .ok (.iload_n 1, 1) := by decide +kernel
theorem d_Mod_move_70 : decode prog_10_method_26_code 70 = .ok (.laload, 1) := by decide +kernel
theorem d_Mod_move_71 : decode prog_10_method_26_code 71 = .ok (.lastore, 1) := by decide +kernel
theorem d_Mod_move_72 : decode prog_10_method_26_code 72 = .ok (.aload_n 0, 1) := by decide +kernel
theorem d_Mod_move_73 : decode prog_10_method_26_code 73 = .ok (.getfield 51, 3) := by decide +kernel
theorem d_Mod_move_76 : decode prog_10_method_26_code 76 = .ok (.iload_n 2, 1) := by decide +kernel
theorem d_Mod_move_77 : decode prog_10_method_26_code 77 = .ok (.aload_n 0, 1) := by decide +kernel
theorem d_Mod_move_78 : decode prog_10_method_26_code 78 = .ok (.getfield 51, 3) := by decide +kernel
theorem d_Mod_move_81 : decode prog_10_method_26_code 81 = .ok (.iload_n 1, 1) := by decide +kernel
theorem d_Mod_move_82 : decode prog_10_method_26_code 82 = .ok (.iaload, 1) := by decide +kernel
theorem d_Mod_move_83 : decode prog_10_method_26_code 83 = .ok (.iastore, 1) := by decide +kernel
theorem d_Mod_move_84 : decode prog_10_method_26_code 84 = .ok (.aload_n 0, 1) := by decide +kernel
theorem d_Mod_move_85 : decode prog_10_method_26_code 85 = .ok (.getfield 54, 3) := by decide +kernel
theorem d_Mod_move_88 : decode prog_10_method_26_code 88 = .ok (.iload_n 2, 1) := by decide +kernel
theorem d_Mod_move_89 : decode prog_10_method_26_code 89 = .ok (.aload_n 0, 1) := by decide +kernel
theorem d_Mod_move_90 : decode prog_10_method_26_code 90 = .ok (.getfield 54, 3) := by decide +kernel
theorem d_Mod_move_93 : decode prog_10_method_26_code 93 = .ok (.iload_n 1, 1) := by decide +kernel
theorem d_Mod_move_94 : decode prog_10_method_26_code 94 = .ok (.iaload, 1) := by decide +kernel
theorem d_Mod_move_95 : decode prog_10_method_26_code 95 = .ok (.iastore, 1) := by decide +kernel
theorem d_Mod_move_96 : decode prog_10_method_26_code 96 = .ok (.aload_n 0, 1) := by decide +kernel
theorem d_Mod_move_97 : decode prog_10_method_26_code 97 = .ok (.getfield 57, 3) := by decide +kernel
theorem d_Mod_move_100 : decode prog_10_method_26_code 100 = .ok (.iload_n 2, 1) := by decide +kernel
theorem d_Mod_move_101 : decode prog_10_method_26_code 101 = .ok (.aload_n 0, 1) := by decide +kernel
theorem d_Mod_move_102 : decode prog_10_method_26_code 102 = .ok (.getfield 57, 3) := by decide +kernel
theorem d_Mod_move_105 : decode prog_10_method_26_code 105 = .ok (.iload_n 1, 1) := by decide +kernel
theorem d_Mod_move_106 : decode prog_10_method_26_code 106 = .ok (.iaload, 1) := by decide +kernel
theorem d_Mod_move_107 : decode prog_10_method_26_code 107 = .ok (.iastore, 1) := by decide +kernel
theorem d_Mod_move_108 : decode prog_10_method_26_code 108 = .ok (.return_, 1) := by decide +kernel
theorem d_Mod_settle_0 : decode prog_10_method_27_code 0 = .ok (.aload_n 0, 1) := by decide +kernel
theorem d_Mod_settle_1 : decode prog_10_method_27_code 1 = .ok (.aload_n 0, 1) := by decide +kernel
theorem d_Mod_settle_2 : decode prog_10_method_27_code 2 = .ok (.aload_n 0, 1) := by decide +kernel
theorem d_Mod_settle_3 : decode prog_10_method_27_code 3 = .ok (.getfield 130, 3) := by decide +kernel
theorem d_Mod_settle_6 : decode prog_10_method_27_code 6 = .ok (.invokevirtual 170, 3) := by decide +kernel
theorem d_Mod_settle_9 : decode prog_10_method_27_code 9 = .ok (.putfield 174, 3) := by decide +kernel
theorem d_Mod_settle_12 : decode prog_10_method_27_code 12 = .ok (.aload_n 0, 1) := by decide +kernel
theorem d_Mod_settle_13 : decode prog_10_method_27_code 13 = .ok (.aload_n 0, 1) := by decide +kernel
theorem d_Mod_settle_14 : decode prog_10_method_27_code 14 = .ok (.getfield 177, 3) := by decide +kernel
theorem d_Mod_settle_17 : decode prog_10_method_27_code 17 = .ok (.aload_n 0, 1) := by decide +kernel
theorem d_Mod_settle_18 : decode prog_10_method_27_code 18 = .ok (.getfield 174, 3) := by decide +kernel
theorem d_Mod_settle_21 : decode prog_10_method_27_code 21 = .ok (.ladd, 1) := by decide +kernel
theorem d_Mod_settle_22 : decode prog_10_method_27_code 22 = .ok (.putfield 177, 3) := by decide +kernel
theorem d_Mod_settle_25 : decode prog_10_method_27_code 25 = .ok (.iconst 0, 1) := by decide +kernel
theorem d_Mod_settle_26 : decode prog_10_method_27_code 26 = .ok (.istore_n 1, 1) := by decide +kernel
theorem d_Mod_settle_27 : decode prog_10_method_27_code 27 = .ok (.iconst 0, 1) := by decide +kernel
theorem d_Mod_settle_28 : decode prog_10_method_27_code 28 = .ok (.istore_n 2, 1) := by decide +kernel
theorem d_Mod_settle_29 : decode prog_10_method_27_code 29 = .ok (.iload_n 2, 1) := by decide +kernel
theorem d_Mod_settle_30 : decode prog_10_method_27_code 30 = .ok (.aload_n 0, 1) := by decide +kernel
theorem d_Mod_settle_31 : decode prog_10_method_27_code 31 = .ok (.getfield 77, 3) := by decide +kernel
theorem d_Mod_settle_34 : decode prog_10_method_27_code 34 = .ok (.if_icmp .ge 39, 3) := by decide +kernel
theorem d_Mod_settle_37 : decode prog_10_method_27_code 37 = .ok (.aload_n 0, 1) := by decide +kernel
theorem d_Mod_settle_38 : decode prog_10_method_27_code 38 = .ok (.getfield 36, 3) := by decide +kernel
theorem d_Mod_settle_41 : decode prog_10_method_27_code 41 = .ok (.iload_n 2, 1) := by decide +kernel
theorem d_Mod_settle_42 : decode prog_10_method_27_code 42 = .ok (.iaload, 1) := by decide +kernel
theorem d_Mod_settle_43 : decode prog_10_method_27_code 43 = .ok (.aload_n 0, 1) := by decide +kernel
theorem d_Mod_settle_44 : decode prog_10_method_27_code 44 = .ok (.getfield 130, 3) := by decide +kernel
theorem d_Mod_settle_47 : decode prog_10_method_27_code 47 = .ok (.if_icmp .ne 11, 3) := by decide +kernel
theorem d_Mod_settle_50 : decode prog_10_method_27_code 50 = .ok (.aload_n 0, 1) := by decide +kernel
theorem d_Mod_settle_51 : decode prog_10_method_27_code 51 = .ok (.iload_n 2, 1) := by decide +kernel
theorem d_Mod_settle_52 : decode prog_10_method_27_code 52 = .ok (.invokevirtual 80, 3) := by decide +kernel
theorem d_Mod_settle_55 : decode prog_10_method_27_code 55 = .ok (.ifCond .eq 12, 3) := by decide +kernel
theorem d_Mod_settle_58 : decode prog_10_method_27_code 58 = .ok (.aload_n 0, 1) := by decide +kernel
theorem d_Mod_settle_59 : decode prog_10_method_27_code 59 = .ok (.iload_n 2, 1) := by decide +kernel
theorem d_Mod_settle_60 : decode prog_10_method_27_code 60 = .ok (.iload_n 1, 1) := by decide +kernel
theorem d_Mod_settle_61 : decode prog_10_method_27_code 61 = .ok (.invokevirtual 180, 3) := by decide +kernel
theorem d_Mod_settle_64 : decode prog_10_method_27_code 64 = .ok (.iinc 1 1, 3) := by decide +kernel
theorem d_Mod_settle_67 : decode prog_10_method_27_code 67 = .ok (.iinc 2 1, 3) := by decide +kernel
theorem d_Mod_settle_70 : decode prog_10_method_27_code 70 = .ok (.goto (-41), 3) := by decide +kernel
theorem d_Mod_settle_73 : decode prog_10_method_27_code 73 = .ok (.aload_n 0, 1) := by decide +kernel
theorem d_Mod_settle_74 : decode prog_10_method_27_code 74 = .ok (.iload_n 1, 1) := by decide +kernel
theorem d_Mod_settle_75 : decode prog_10_method_27_code 75 = .ok (.putfield 77, 3) := by decide +kernel
theorem d_Mod_settle_78 : decode prog_10_method_27_code 78 = .ok (.aload_n 0, 1) := by decide +kernel
theorem d_Mod_settle_79 : decode prog_10_method_27_code 79 = .ok (.iconst 0, 1) := by decide +kernel
theorem d_Mod_settle_80 : decode prog_10_method_27_code 80 = .ok (.iconst 0, 1) := by decide +kernel
theorem d_Mod_settle_81 : decode prog_10_method_27_code 81 = .ok (.invokevirtual 156, 3) := by decide +kernel
theorem d_Mod_settle_84 : decode prog_10_method_27_code 84 = .ok (.iconst 0, 1) := by decide +kernel
theorem d_Mod_settle_85 : decode prog_10_method_27_code 85 = .ok (.ireturn, 1) := by decide +kernel
theorem d_Mod_reversible_0 : decode prog_10_method_23_code 0 = .ok (.aload_n 0, 1) := by decide +kernel
theorem d_Mod_reversible_1 : decode prog_10_method_23_code 1 = .ok (.getfield 33, 3) := by decide +kernel
theorem d_Mod_reversible_4 : decode prog_10_method_23_code 4 = .ok (.iload_n 1, 1) := by decide +kernel
theorem d_Mod_reversible_5 : decode prog_10_method_23_code 5 = .ok (.iaload, 1) := by decide +kernel
theorem d_Mod_reversible_6 : decode prog_10_method_23_code 6 = .ok (.bipush 100, 2) := by decide +kernel
theorem d_Mod_reversible_8 : decode prog_10_method_23_code 8 = .ok (.if_icmp .ne 11, 3) := by decide +kernel
theorem d_Mod_reversible_11 : decode prog_10_method_23_code 11 = .ok (.aload_n 0, 1) := by decide +kernel
theorem d_Mod_reversible_12 : decode prog_10_method_23_code 12 = .ok (.iload_n 1, 1) := by decide +kernel
theorem d_Mod_reversible_13 : decode prog_10_method_23_code 13 = .ok (.invokevirtual 80, 3) := by decide +kernel
theorem d_Mod_reversible_16 : decode prog_10_method_23_code 16 = .ok (.ifCond .ne 34, 3) := by decide +kernel
theorem d_Mod_reversible_19 : decode prog_10_method_23_code 19 = .ok (.aload_n 0, 1) := by decide +kernel
theorem d_Mod_reversible_20 : decode prog_10_method_23_code 20 = .ok (.getfield 33, 3) := by decide +kernel
theorem d_Mod_reversible_23 : decode prog_10_method_23_code 23 = .ok (.iload_n 1, 1) := by decide +kernel
theorem d_Mod_reversible_24 : decode prog_10_method_23_code 24 = .ok (.iaload, 1) := by decide +kernel
theorem d_Mod_reversible_25 : decode prog_10_method_23_code 25 = .ok (.sipush 200, 3) := by decide +kernel
theorem d_Mod_reversible_28 : decode prog_10_method_23_code 28 = .ok (.if_icmp .ne 26, 3) := by decide +kernel
theorem d_Mod_reversible_31 : decode prog_10_method_23_code 31 = .ok (.aload_n 0, 1) := by decide +kernel
theorem d_Mod_reversible_32 : decode prog_10_method_23_code 32 = .ok (.getfield 51, 3) := by decide +kernel
theorem d_Mod_reversible_35 : decode prog_10_method_23_code 35 = .ok (.iload_n 1, 1) := by decide +kernel
theorem d_Mod_reversible_36 : decode prog_10_method_23_code 36 = .ok (.iaload, 1) := by decide +kernel
theorem d_Mod_reversible_37 : decode prog_10_method_23_code 37 = .ok (.ifCond .ne 17, 3) := by decide +kernel
theorem d_Mod_reversible_40 : decode prog_10_method_23_code 40 = .ok (.aload_n 0, 1) := by decide +kernel
theorem d_Mod_reversible_41 : decode prog_10_method_23_code 41 = .ok (.getfield 54, 3) := by decide +kernel
theorem d_Mod_reversible_44 : decode prog_10_method_23_code 44 = .ok (.iload_n 1, 1) := by decide +kernel
theorem d_Mod_reversible_45 : decode prog_10_method_23_code 45 = .ok (.iaload, 1) := by decide +kernel
theorem d_Mod_reversible_46 : decode prog_10_method_23_code 46 = .ok (.iconst 3, 1) := by decide +kernel
theorem d_Mod_reversible_47 : decode prog_10_method_23_code 47 = .ok (.if_icmp .eq 7, 3) := by decide +kernel
theorem d_Mod_reversible_50 : decode prog_10_method_23_code 50 = .ok (.iconst 1, 1) := by decide +kernel
theorem d_Mod_reversible_51 : decode prog_10_method_23_code 51 = .ok (.goto 4, 3) := by decide +kernel
theorem d_Mod_reversible_54 : decode prog_10_method_23_code 54 = .ok (.iconst 0, 1) := by decide +kernel
theorem d_Mod_reversible_55 : decode prog_10_method_23_code 55 = .ok (.istore_n 2, 1) := by decide +kernel
theorem d_Mod_reversible_56 : decode prog_10_method_23_code 56 = .ok (.iload_n 2, 1) := by decide +kernel
theorem d_Mod_reversible_57 : decode prog_10_method_23_code 57 = .ok (.ifCond .eq 47, 3) := by decide +kernel
theorem d_Mod_reversible_60 : decode prog_10_method_23_code 60 = .ok (.aload_n 0, 1) := by decide +kernel
theorem d_Mod_reversible_61 : decode prog_10_method_23_code 61 = .ok (.getfield 39, 3) := by decide +kernel
theorem d_Mod_reversible_64 : decode prog_10_method_23_code 64 = .ok (.iload_n 1, 1) := by decide +kernel
theorem d_Mod_reversible_65 : decode prog_10_method_23_code 65 = .ok (.iaload, 1) := by decide +kernel
theorem d_Mod_reversible_66 : decode prog_10_method_23_code 66 = .ok (.aload_n 0, 1) := by decide +kernel
theorem d_Mod_reversible_67 : decode prog_10_method_23_code 67 = .ok (.getfield 114, 3) := by decide +kernel
theorem d_Mod_reversible_70 : decode prog_10_method_23_code 70 = .ok (.if_icmp .ne 34, 3) := by decide +kernel
theorem d_Mod_reversible_73 : decode prog_10_method_23_code 73 = .ok (.aload_n 0, 1) := by decide +kernel
theorem d_Mod_reversible_74 : decode prog_10_method_23_code 74 = .ok (.getfield 36, 3) := by decide +kernel
theorem d_Mod_reversible_77 : decode prog_10_method_23_code 77 = .ok (.iload_n 1, 1) := by decide +kernel
theorem d_Mod_reversible_78 : decode prog_10_method_23_code 78 = .ok (.iaload, 1) := by decide +kernel
theorem d_Mod_reversible_79 : decode prog_10_method_23_code 79 = .ok (.aload_n 0, 1) := by decide +kernel
theorem d_Mod_reversible_80 : decode prog_10_method_23_code 80 = .ok (.getfield 130, 3) := by decide +kernel
theorem d_Mod_reversible_83 : decode prog_10_method_23_code 83 = .ok (.if_icmp .ne 21, 3) := by decide +kernel
theorem d_Mod_reversible_86 : decode prog_10_method_23_code 86 = .ok (.aload_n 0, 1) := by decide +kernel
theorem d_Mod_reversible_87 : decode prog_10_method_23_code 87 = .ok (.getfield 42, 3) := by decide +kernel
theorem d_Mod_reversible_90 : decode prog_10_method_23_code 90 = .ok (.iload_n 1, 1) := by decide +kernel
theorem d_Mod_reversible_91 : decode prog_10_method_23_code 91 = .ok (.laload, 1) := by decide +kernel
theorem d_Mod_reversible_92 : decode prog_10_method_23_code 92 = .ok (.aload_n 0, 1) := by decide +kernel
theorem d_Mod_reversible_93 : decode prog_10_method_23_code 93 = .ok (.getfield 103, 3) := by decide +kernel
theorem d_Mod_reversible_96 : decode prog_10_method_23_code 96 = .ok (.lcmp, 1) := by decide +kernel
theorem d_Mod_reversible_97 : decode prog_10_method_23_code 97 = .ok (.ifCond .ne 7, 3) := by decide +kernel
theorem d_Mod_reversible_100 : decode prog_10_method_23_code 100 = .ok (.iconst 1, 1) := by decide +kernel
theorem d_Mod_reversible_101 : decode prog_10_method_23_code 101 = .ok (.goto 4, 3) := by decide +kernel
theorem d_Mod_reversible_104 : decode prog_10_method_23_code 104 = .ok (.iconst 0, 1) := by decide +kernel
theorem d_Mod_reversible_105 : decode prog_10_method_23_code 105 = .ok (.ireturn, 1) := by decide +kernel
theorem d_Mod_reverse_0 : decode prog_10_method_24_code 0 = .ok (.aload_n 0, 1) := by decide +kernel
theorem d_Mod_reverse_1 : decode prog_10_method_24_code 1 = .ok (.aload_n 0, 1) := by decide +kernel
theorem d_Mod_reverse_2 : decode prog_10_method_24_code 2 = .ok (.getfield 103, 3) := by decide +kernel
theorem d_Mod_reverse_5 : decode prog_10_method_24_code 5 = .ok (.invokevirtual 64, 3) := by decide +kernel
theorem d_Mod_reverse_8 : decode prog_10_method_24_code 8 = .ok (.istore_n 1, 1) := by decide +kernel
theorem d_Mod_reverse_9 : decode prog_10_method_24_code 9 = .ok (.iconst (-1), 1) := by decide +kernel
theorem d_Mod_reverse_10 : decode prog_10_method_24_code 10 = .ok (.istore_n 2, 1) := by decide +kernel
theorem d_Mod_reverse_11 : decode prog_10_method_24_code 11 = .ok (.iconst 0, 1) := by decide +kernel
theorem d_Mod_reverse_12 : decode prog_10_method_24_code 12 = .ok (.istore_n 3, 1) := by decide +kernel
theorem d_Mod_reverse_13 : decode prog_10_method_24_code 13 = .ok (.iload_n 3, 1) := by decide +kernel
theorem d_Mod_reverse_14 : decode prog_10_method_24_code 14 = .ok (.aload_n 0, 1) := by decide +kernel
theorem d_Mod_reverse_15 : decode prog_10_method_24_code 15 = .ok (.getfield 77, 3) := by decide +kernel
theorem d_Mod_reverse_18 : decode prog_10_method_24_code 18 = .ok (.if_icmp .ge 23, 3) := by decide +kernel
theorem d_Mod_reverse_21 : decode prog_10_method_24_code 21 = .ok (.aload_n 0, 1) := by decide +kernel
theorem d_Mod_reverse_22 : decode prog_10_method_24_code 22 = .ok (.iload_n 3, 1) := by decide +kernel
theorem d_Mod_reverse_23 : decode prog_10_method_24_code 23 = .ok (.invokevirtual 167, 3) := by decide +kernel
theorem d_Mod_reverse_26 : decode prog_10_method_24_code 26 = .ok (.ifCond .eq 7, 3) := by decide +kernel
theorem d_Mod_reverse_29 : decode prog_10_method_24_code 29 = .ok (.iload_n 3, 1) := by decide +kernel
theorem d_Mod_reverse_30 : decode prog_10_method_24_code 30 = .ok (.goto 4, 3) := by decide +kernel
theorem d_Mod_reverse_33 : decode prog_10_method_24_code 33 = .ok (.iload_n 2, 1) := by decide +kernel
theorem d_Mod_reverse_34 : decode prog_10_method_24_code 34 = .ok (.istore_n 2, 1) := by decide +kernel
theorem d_Mod_reverse_35 : decode prog_10_method_24_code 35 = .ok (.iinc 3 1, 3) := by decide +kernel
theorem d_Mod_reverse_38 : decode prog_10_method_24_code 38 = .ok (.goto (-25), 3) := by decide +kernel
theorem d_Mod_reverse_41 : decode prog_10_method_24_code 41 = .ok (.iload_n 1, 1) := by decide +kernel
theorem d_Mod_reverse_42 : decode prog_10_method_24_code 42 = .ok (.ifCond .ge 8, 3) := by decide +kernel
theorem d_Mod_reverse_45 : decode prog_10_method_24_code 45 = .ok (.bipush 14, 2) := by decide +kernel
theorem d_Mod_reverse_47 : decode prog_10_method_24_code 47 = .ok (.goto 13, 3) := by decide +kernel
theorem d_Mod_reverse_50 : decode prog_10_method_24_code 50 = .ok (.iload_n 2, 1) := by decide +kernel
theorem d_Mod_reverse_51 : decode prog_10_method_24_code 51 = .ok (.ifCond .ge 8, 3) := by decide +kernel
theorem d_Mod_reverse_54 : decode prog_10_method_24_code 54 = .ok (.bipush 25, 2) := by decide +kernel
theorem d_Mod_reverse_56 : decode prog_10_method_24_code 56 = .ok (.goto 4, 3) := by decide +kernel
theorem d_Mod_reverse_59 : decode prog_10_method_24_code 59 = .ok (.iconst 0, 1) := by decide +kernel
theorem d_Mod_reverse_60 : decode prog_10_method_24_code 60 = .ok (.istore_n 3, 1) := by decide +kernel
theorem d_Mod_reverse_61 : decode prog_10_method_24_code 61 = .ok (.iload_n 3, 1) := by decide +kernel
theorem d_Mod_reverse_62 : decode prog_10_method_24_code 62 = .ok (.ifCond .ne 72, 3) := by decide +kernel
theorem d_Mod_reverse_65 : decode prog_10_method_24_code 65 = .ok (.aload_n 0, 1) := by decide +kernel
theorem d_Mod_reverse_66 : decode prog_10_method_24_code 66 = .ok (.getfield 54, 3) := by decide +kernel
theorem d_Mod_reverse_69 : decode prog_10_method_24_code 69 = .ok (.iload_n 2, 1) := by decide +kernel
theorem d_Mod_reverse_70 : decode prog_10_method_24_code 70 = .ok (.iconst 3, 1) := by decide +kernel
theorem d_Mod_reverse_71 : decode prog_10_method_24_code 71 = .ok (.iastore, 1) := by decide +kernel
theorem d_Mod_reverse_72 : decode prog_10_method_24_code 72 = .ok (.aload_n 0, 1) := by decide +kernel
theorem d_Mod_reverse_73 : decode prog_10_method_24_code 73 = .ok (.getfield 33, 3) := by decide +kernel
theorem d_Mod_reverse_76 : decode prog_10_method_24_code 76 = .ok (.iload_n 2, 1) := by decide +kernel
theorem d_Mod_reverse_77 : decode prog_10_method_24_code 77 = .ok (.iaload, 1) := by decide +kernel
theorem d_Mod_reverse_78 : decode prog_10_method_24_code 78 = .ok (.sipush 200, 3) := by decide +kernel
theorem d_Mod_reverse_81 : decode prog_10_method_24_code 81 = .ok (.if_icmp .ne 53, 3) := by decide +kernel
theorem d_Mod_reverse_84 : decode prog_10_method_24_code 84 = .ok (.aload_n 0, 1) := by decide +kernel
theorem d_Mod_reverse_85 : decode prog_10_method_24_code 85 = .ok (.getfield 13, 3) := by decide +kernel
theorem d_Mod_reverse_88 : decode prog_10_method_24_code 88 = .ok (.iload_n 1, 1) := by decide +kernel
theorem d_Mod_reverse_89 : decode prog_10_method_24_code 89 = .ok (.aload_n 0, 1) := by decide +kernel
theorem d_Mod_reverse_90 : decode prog_10_method_24_code 90 = .ok (.getfield 45, 3) := by decide +kernel
theorem d_Mod_reverse_93 : decode prog_10_method_24_code 93 = .ok (.iload_n 2, 1) := by decide +kernel
theorem d_Mod_reverse_94 : decode prog_10_method_24_code 94 = .ok (.iaload, 1) := by decide +kernel
theorem d_Mod_reverse_95 : decode prog_10_method_24_code 95 = .ok (.sipush 10000, 3) := by decide +kernel
theorem d_Mod_reverse_98 : decode prog_10_method_24_code 98 = .ok (.idiv, 1) := by decide +kernel
theorem d_Mod_reverse_99 : decode prog_10_method_24_code 99 = .ok (.bipush 20, 2) := by decide +kernel
theorem d_Mod_reverse_101 : decode prog_10_method_24_code 101 = .ok (.if_icmp .ne 19, 3) := by decide +kernel
theorem d_Mod_reverse_104 : decode prog_10_method_24_code 104 = .ok (.aload_n 0, 1) := by decide +kernel
theorem d_Mod_reverse_105 : decode prog_10_method_24_code 105 = .ok (.getfield 13, 3) := by decide +kernel
theorem d_Mod_reverse_108 : decode prog_10_method_24_code 108 = .ok (.iload_n 1, 1) := by decide +kernel
theorem d_Mod_reverse_109 : decode prog_10_method_24_code 109 = .ok (.laload, 1) := by decide +kernel
theorem d_Mod_reverse_110 : decode prog_10_method_24_code 110 = .ok (.aload_n 0, 1) := by decide +kernel
theorem d_Mod_reverse_111 : decode prog_10_method_24_code 111 = .ok (.getfield 48, 3) := by decide +kernel
theorem d_Mod_reverse_114 : decode prog_10_method_24_code 114 = .ok (.iload_n 2, 1) := by decide +kernel
theorem d_Mod_reverse_115 : decode prog_10_method_24_code 115 = .ok (.laload, 1) := by decide +kernel
theorem d_Mod_reverse_116 : decode prog_10_method_24_code 116 = .ok (.lsub, 1) := by decide +kernel
theorem d_Mod_reverse_117 : decode prog_10_method_24_code 117 = .ok (.goto 16, 3) := by decide +kernel
theorem d_Mod_reverse_120 : decode prog_10_method_24_code 120 = .ok (.aload_n 0, 1) := by decide +kernel
theorem d_Mod_reverse_121 : decode prog_10_method_24_code 121 = .ok (.getfield 13, 3) := by decide +kernel
theorem d_Mod_reverse_124 : decode prog_10_method_24_code 124 = .ok (.iload_n 1, 1) := by decide +kernel
theorem d_Mod_reverse_125 : decode prog_10_method_24_code 125 = .ok (.laload, 1) := by decide +kernel
theorem d_Mod_reverse_126 : decode prog_10_method_24_code 126 = .ok (.aload_n 0, 1) := by decide +kernel
theorem d_Mod_reverse_127 : decode prog_10_method_24_code 127 = .ok (.getfield 48, 3) := by decide +kernel
theorem d_Mod_reverse_130 : decode prog_10_method_24_code 130 = .ok (.iload_n 2, 1) := by decide +kernel
theorem d_Mod_reverse_131 : decode prog_10_method_24_code 131 = .ok (.laload, 1) := by decide +kernel
theorem d_Mod_reverse_132 : decode prog_10_method_24_code 132 = .ok (.ladd, 1) := by decide +kernel
theorem d_Mod_reverse_133 : decode prog_10_method_24_code 133 = .ok (.lastore, 1) := by decide +kernel
theorem d_Mod_reverse_134 : decode prog_10_method_24_code 134 = .ok (.aload_n 0, 1) := by decide +kernel
theorem d_Mod_reverse_135 : decode prog_10_method_24_code 135 = .ok (.iload_n 3, 1) := by decide +kernel
theorem d_Mod_reverse_136 : decode prog_10_method_24_code 136 = .ok (.iconst 0, 1) := by decide +kernel
theorem d_Mod_reverse_137 : decode prog_10_method_24_code 137 = .ok (.invokevirtual 156, 3) := by decide +kernel
theorem d_Mod_reverse_140 : decode prog_10_method_24_code 140 = .ok (.iload_n 3, 1) := by decide +kernel
theorem d_Mod_reverse_141 : decode prog_10_method_24_code 141 = .ok (.ireturn, 1) := by decide +kernel
theorem d_Mod_payment_0 : decode prog_10_method_21_code 0 = .ok (.aload_n 0, 1) := by decide +kernel
theorem d_Mod_payment_1 : decode prog_10_method_21_code 1 = .ok (.getfield 121, 3) := by decide +kernel
theorem d_Mod_payment_4 : decode prog_10_method_21_code 4 = .ok (.sipush 10000, 3) := by decide +kernel
theorem d_Mod_payment_7 : decode prog_10_method_21_code 7 = .ok (.idiv, 1) := by decide +kernel
theorem d_Mod_payment_8 : decode prog_10_method_21_code 8 = .ok (.istore_n 2, 1) := by decide +kernel
theorem d_Mod_payment_9 : decode prog_10_method_21_code 9 = .ok (.iload_n 1, 1) := by decide +kernel
theorem d_Mod_payment_10 : decode prog_10_method_21_code 10 = .ok (.ifCond .ge 6, 3) := by decide +kernel
theorem d_Mod_payment_13 : decode prog_10_method_21_code 13 = .ok (.bipush 14, 2) := by decide +kernel
theorem d_Mod_payment_15 : decode prog_10_method_21_code 15 = .ok (.ireturn, 1) := by decide +kernel
theorem d_Mod_payment_16 : decode prog_10_method_21_code 16 = .ok (.iload_n 2, 1) := by decide +kernel
theorem d_Mod_payment_17 : decode prog_10_method_21_code 17 = .ok (.ifCond .eq 9, 3) := by decide +kernel
theorem d_Mod_payment_20 : decode prog_10_method_21_code 20 = .ok (.iload_n 2, 1) := by decide +kernel
theorem d_Mod_payment_21 : decode prog_10_method_21_code 21 = .ok (.bipush 20, 2) := by decide +kernel
theorem d_Mod_payment_23 : decode prog_10_method_21_code 23 = .ok (.if_icmp .ne 19, 3) := by decide +kernel
theorem d_Mod_payment_26 : decode prog_10_method_21_code 26 = .ok (.iload_n 2, 1) := by decide +kernel
theorem d_Mod_payment_27 : decode prog_10_method_21_code 27 = .ok (.bipush 20, 2) := by decide +kernel
theorem d_Mod_payment_29 : decode prog_10_method_21_code 29 = .ok (.if_icmp .ne 16, 3) := by decide +kernel
theorem d_Mod_payment_32 : decode prog_10_method_21_code 32 = .ok (.aload_n 0, 1) := by decide +kernel
theorem d_Mod_payment_33 : decode prog_10_method_21_code 33 = .ok (.getfield 23, 3) := by decide +kernel
theorem d_Mod_payment_36 : decode prog_10_method_21_code 36 = .ok (.bipush 56, 2) := by decide +kernel
theorem d_Mod_payment_38 : decode prog_10_method_21_code 38 = .ok (.baload, 1) := by decide +kernel
theorem d_Mod_payment_39 : decode prog_10_method_21_code 39 = .ok (.ifCond .eq 6, 3) := by decide +kernel
theorem d_Mod_payment_42 : decode prog_10_method_21_code 42 = .ok (.bipush 12, 2) := by decide +kernel
theorem d_Mod_payment_44 : decode prog_10_method_21_code 44 = .ok (.ireturn, 1) := by decide +kernel
theorem d_Mod_payment_45 : decode prog_10_method_21_code 45 = .ok (.iload_n 2, 1) := by decide +kernel
theorem d_Mod_payment_46 : decode prog_10_method_21_code 46 = .ok (.bipush 20, 2) := by decide +kernel
theorem d_Mod_payment_48 : decode prog_10_method_21_code 48 = .ok (.if_icmp .ne 5, 3) := by decide +kernel
theorem d_Mod_payment_51 : decode prog_10_method_21_code 51 = .ok (.iconst 0, 1) := by decide +kernel
theorem d_Mod_payment_52 : decode prog_10_method_21_code 52 = .ok (.ireturn, 1) := by decide +kernel
theorem d_Mod_payment_53 : decode prog_10_method_21_code 53 = .ok (.aload_n 0, 1) := by decide +kernel
theorem d_Mod_payment_54 : decode prog_10_method_21_code 54 = .ok (.getfield 23, 3) := by decide +kernel
theorem d_Mod_payment_57 : decode prog_10_method_21_code 57 = .ok (.bipush 56, 2) := by decide +kernel
theorem d_Mod_payment_59 : decode prog_10_method_21_code 59 = .ok (.baload, 1) := by decide +kernel
theorem d_Mod_payment_60 : decode prog_10_method_21_code 60 = .ok (.ifCond .ne 26, 3) := by decide +kernel
theorem d_Mod_payment_63 : decode prog_10_method_21_code 63 = .ok (.aload_n 0, 1) := by decide +kernel
theorem d_Mod_payment_64 : decode prog_10_method_21_code 64 = .ok (.getfield 124, 3) := by decide +kernel
theorem d_Mod_payment_67 : decode prog_10_method_21_code 67 = .ok (.aload_n 0, 1) := by decide +kernel
theorem d_Mod_payment_68 : decode prog_10_method_21_code 68 = .ok (.aload_n 0, 1) := by decide +kernel
theorem d_Mod_payment_69 : decode prog_10_method_21_code 69 = .ok (.getfield 103, 3) := by decide +kernel
theorem d_Mod_payment_72 : decode prog_10_method_21_code 72 = .ok (.invokevirtual 152, 3) := by decide +kernel
theorem d_Mod_payment_75 : decode prog_10_method_21_code 75 = .ok (.lcmp, 1) := by decide +kernel
theorem d_Mod_payment_76 : decode prog_10_method_21_code 76 = .ok (.ifCond .le 8, 3) := by decide +kernel
theorem d_Mod_payment_79 : decode prog_10_method_21_code 79 = .ok (.bipush 51, 2) := by decide +kernel
theorem d_Mod_payment_81 : decode prog_10_method_21_code 81 = .ok (.goto 4, 3) := by decide +kernel
theorem d_Mod_payment_84 : decode prog_10_method_21_code 84 = .ok (.iconst 0, 1) := by decide +kernel
theorem d_Mod_payment_85 : decode prog_10_method_21_code 85 = .ok (.ireturn, 1) := by decide +kernel
theorem d_Mod_payment_86 : decode prog_10_method_21_code 86 = .ok (.aload_n 0, 1) := by decide +kernel
theorem d_Mod_payment_87 : decode prog_10_method_21_code 87 = .ok (.bipush 100, 2) := by decide +kernel
theorem d_Mod_payment_89 : decode prog_10_method_21_code 89 = .ok (.aload_n 0, 1) := by decide +kernel
theorem d_Mod_payment_90 : decode prog_10_method_21_code 90 = .ok (.getfield 114, 3) := by decide +kernel
theorem d_Mod_payment_93 : decode prog_10_method_21_code 93 = .ok (.invokevirtual 160, 3) := by decide +kernel
theorem d_Mod_payment_96 : decode prog_10_method_21_code 96 = .ok (.istore_n 3, 1) := by decide +kernel
theorem d_Mod_payment_97 : decode prog_10_method_21_code 97 = .ok (.iload_n 3, 1) := by decide +kernel
theorem d_Mod_payment_98 : decode prog_10_method_21_code 98 = .ok (.ifCond .lt 25, 3) := by decide +kernel
theorem d_Mod_payment_101 : decode prog_10_method_21_code 101 = .ok (.aload_n 0, 1) := by decide +kernel
theorem d_Mod_payment_102 : decode prog_10_method_21_code 102 = .ok (.iload_n 3, 1) := by decide +kernel
theorem d_Mod_payment_103 : decode prog_10_method_21_code 103 = .ok (.invokevirtual 80, 3) := by decide +kernel
theorem d_Mod_payment_106 : decode prog_10_method_21_code 106 = .ok (.ifCond .eq 17, 3) := by decide +kernel
theorem d_Mod_payment_109 : decode prog_10_method_21_code 109 = .ok (.aload_n 0, 1) := by decide +kernel
theorem d_Mod_payment_110 : decode prog_10_method_21_code 110 = .ok (.getfield 42, 3) := by decide +kernel
theorem d_Mod_payment_113 : decode prog_10_method_21_code 113 = .ok (.iload_n 3, 1) := by decide +kernel
theorem d_Mod_payment_114 : decode prog_10_method_21_code 114 = .ok (.laload, 1) := by decide +kernel
theorem d_Mod_payment_115 : decode prog_10_method_21_code 115 = .ok (.aload_n 0, 1) := by decide +kernel
theorem d_Mod_payment_116 : decode prog_10_method_21_code 116 = .ok (.getfield 103, 3) := by decide +kernel
theorem d_Mod_payment_119 : decode prog_10_method_21_code 119 = .ok (.lcmp, 1) := by decide +kernel
theorem d_Mod_payment_120 : decode prog_10_method_21_code 120 = .ok (.ifCond .eq 6, 3) := by decide +kernel
theorem d_Mod_payment_123 : decode prog_10_method_21_code 123 = .ok (.bipush 25, 2) := by decide +kernel
theorem d_Mod_payment_125 : decode prog_10_method_21_code 125 = .ok (.ireturn, 1) := by decide +kernel
theorem d_Mod_payment_126 : decode prog_10_method_21_code 126 = .ok (.aload_n 0, 1) := by decide +kernel
theorem d_Mod_payment_127 : decode prog_10_method_21_code 127 = .ok (.getfield 124, 3) := by decide +kernel
theorem d_Mod_payment_130 : decode prog_10_method_21_code 130 = .ok (.aload_n 0, 1) := by decide +kernel
theorem d_Mod_payment_131 : decode prog_10_method_21_code 131 = .ok (.getfield 48, 3) := by decide +kernel
theorem d_Mod_payment_134 : decode prog_10_method_21_code 134 = .ok (.iload_n 3, 1) := by decide +kernel
theorem d_Mod_payment_135 : decode prog_10_method_21_code 135 = .ok (.laload, 1) := by decide +kernel
theorem d_Mod_payment_136 : decode prog_10_method_21_code 136 = .ok (.lcmp, 1) := by decide +kernel
theorem d_Mod_payment_137 : decode prog_10_method_21_code 137 = .ok (.ifCond .le 8, 3) := by decide +kernel
theorem d_Mod_payment_140 : decode prog_10_method_21_code 140 = .ok (.bipush 51, 2) := by decide +kernel
theorem d_Mod_payment_142 : decode prog_10_method_21_code 142 = .ok (.goto 4, 3) := by decide +kernel
theorem d_Mod_payment_145 : decode prog_10_method_21_code 145 = .ok (.iconst 0, 1) := by decide +kernel
theorem d_Mod_payment_146 : decode prog_10_method_21_code 146 = .ok (.ireturn, 1) := by decide +kernel
theorem d_Mod_pay_0 : decode prog_10_method_22_code 0 = .ok (.aload_n 0, 1) := by decide +kernel
theorem d_Mod_pay_1 : decode prog_10_method_22_code 1 = .ok (.aload_n 0, 1) := by decide +kernel
theorem d_Mod_pay_2 : decode prog_10_method_22_code 2 = .ok (.getfield 103, 3) := by decide +kernel
theorem d_Mod_pay_5 : decode prog_10_method_22_code 5 = .ok (.invokevirtual 64, 3) := by decide +kernel
theorem d_Mod_pay_8 : decode prog_10_method_22_code 8 = .ok (.istore_n 1, 1) := by decide +kernel
theorem d_Mod_pay_9 : decode prog_10_method_22_code 9 = .ok (.aload_n 0, 1) := by decide +kernel
theorem d_Mod_pay_10 : decode prog_10_method_22_code 10 = .ok (.iload_n 1, 1) := by decide +kernel
theorem d_Mod_pay_11 : decode prog_10_method_22_code 11 = .ok (.invokevirtual 164, 3) := by decide +kernel
theorem d_Mod_pay_14 : decode prog_10_method_22_code 14 = .ok (.istore_n 2, 1) := by decide +kernel
theorem d_Mod_pay_15 : decode prog_10_method_22_code 15 = .ok (.iload_n 2, 1) := by decide +kernel
theorem d_Mod_pay_16 : decode prog_10_method_22_code 16 = .ok (.ifCond .ne 73, 3) := by decide +kernel
theorem d_Mod_pay_19 : decode prog_10_method_22_code 19 = .ok (.aload_n 0, 1) := by decide +kernel
theorem d_Mod_pay_20 : decode prog_10_method_22_code 20 = .ok (.getfield 13, 3) := by decide +kernel
theorem d_Mod_pay_23 : decode prog_10_method_22_code 23 = .ok (.iload_n 1, 1) := by decide +kernel
theorem d_Mod_pay_24 : decode prog_10_method_22_code 24 = .ok (.aload_n 0, 1) := by decide +kernel
theorem d_Mod_pay_25 : decode prog_10_method_22_code 25 = .ok (.getfield 121, 3) := by decide +kernel
theorem d_Mod_pay_28 : decode prog_10_method_22_code 28 = .ok (.sipush 10000, 3) := by decide +kernel
theorem d_Mod_pay_31 : decode prog_10_method_22_code 31 = .ok (.idiv, 1) := by decide +kernel
theorem d_Mod_pay_32 : decode prog_10_method_22_code 32 = .ok (.bipush 20, 2) := by decide +kernel
theorem d_Mod_pay_34 : decode prog_10_method_22_code 34 = .ok (.if_icmp .ne 17, 3) := by decide +kernel
theorem d_Mod_pay_37 : decode prog_10_method_22_code 37 = .ok (.aload_n 0, 1) := by decide +kernel
theorem d_Mod_pay_38 : decode prog_10_method_22_code 38 = .ok (.getfield 13, 3) := by decide +kernel
theorem d_Mod_pay_41 : decode prog_10_method_22_code 41 = .ok (.iload_n 1, 1) := by decide +kernel
theorem d_Mod_pay_42 : decode prog_10_method_22_code 42 = .ok (.laload, 1) := by decide +kernel
theorem d_Mod_pay_43 : decode prog_10_method_22_code 43 = .ok (.aload_n 0, 1) := by decide +kernel
theorem d_Mod_pay_44 : decode prog_10_method_22_code 44 = .ok (.getfield 124, 3) := by decide +kernel
theorem d_Mod_pay_47 : decode prog_10_method_22_code 47 = .ok (.ladd, 1) := by decide +kernel
theorem d_Mod_pay_48 : decode prog_10_method_22_code 48 = .ok (.goto 14, 3) := by decide +kernel
theorem d_Mod_pay_51 : decode prog_10_method_22_code 51 = .ok (.aload_n 0, 1) := by decide +kernel
theorem d_Mod_pay_52 : decode prog_10_method_22_code 52 = .ok (.getfield 13, 3) := by decide +kernel
theorem d_Mod_pay_55 : decode prog_10_method_22_code 55 = .ok (.iload_n 1, 1) := by decide +kernel
theorem d_Mod_pay_56 : decode prog_10_method_22_code 56 = .ok (.laload, 1) := by decide +kernel
theorem d_Mod_pay_57 : decode prog_10_method_22_code 57 = .ok (.aload_n 0, 1) := by decide +kernel
theorem d_Mod_pay_58 : decode prog_10_method_22_code 58 = .ok (.getfield 124, 3) := by decide +kernel
theorem d_Mod_pay_61 : decode prog_10_method_22_code 61 = .ok (.lsub, 1) := by decide +kernel
theorem d_Mod_pay_62 : decode prog_10_method_22_code 62 = .ok (.lastore, 1) := by decide +kernel
theorem d_Mod_pay_63 : decode prog_10_method_22_code 63 = .ok (.aload_n 0, 1) := by decide +kernel
theorem d_Mod_pay_64 : decode prog_10_method_22_code 64 = .ok (.getfield 23, 3) := by decide +kernel
theorem d_Mod_pay_67 : decode prog_10_method_22_code 67 = .ok (.bipush 56, 2) := by decide +kernel
theorem d_Mod_pay_69 : decode prog_10_method_22_code 69 = .ok (.baload, 1) := by decide +kernel
theorem d_Mod_pay_70 : decode prog_10_method_22_code 70 = .ok (.ifCond .eq 19, 3) := by decide +kernel
theorem d_Mod_pay_73 : decode prog_10_method_22_code 73 = .ok (.aload_n 0, 1) := by decide +kernel
theorem d_Mod_pay_74 : decode prog_10_method_22_code 74 = .ok (.getfield 54, 3) := by decide +kernel
theorem d_Mod_pay_77 : decode prog_10_method_22_code 77 = .ok (.aload_n 0, 1) := by decide +kernel
theorem d_Mod_pay_78 : decode prog_10_method_22_code 78 = .ok (.bipush 100, 2) := by decide +kernel
theorem d_Mod_pay_80 : decode prog_10_method_22_code 80 = .ok (.aload_n 0, 1) := by decide +kernel
theorem d_Mod_pay_81 : decode prog_10_method_22_code 81 = .ok (.getfield 114, 3) := by decide +kernel
theorem d_Mod_pay_84 : decode prog_10_method_22_code 84 = .ok (.invokevirtual 160, 3) := by decide +kernel
theorem d_Mod_pay_87 : decode prog_10_method_22_code 87 = .ok (.iconst 2, 1) := by decide +kernel
theorem d_Mod_pay_88 : decode prog_10_method_22_code 88 = .ok (.iastore, 1) := by decide +kernel
theorem d_Mod_pay_89 : decode prog_10_method_22_code 89 = .ok (.aload_n 0, 1) := by decide +kernel
theorem d_Mod_pay_90 : decode prog_10_method_22_code 90 = .ok (.iload_n 2, 1) := by decide +kernel
theorem d_Mod_pay_91 : decode prog_10_method_22_code 91 = .ok (.iconst 0, 1) := by decide +kernel
theorem d_Mod_pay_92 : decode prog_10_method_22_code 92 = .ok (.invokevirtual 156, 3) := by decide +kernel
theorem d_Mod_pay_95 : decode prog_10_method_22_code 95 = .ok (.iload_n 2, 1) := by decide +kernel
theorem d_Mod_pay_96 : decode prog_10_method_22_code 96 = .ok (.ireturn, 1) := by decide +kernel
theorem d_Mod_authorize_0 : decode prog_10_method_20_code 0 = .ok (.aload_n 0, 1) := by decide +kernel
theorem d_Mod_authorize_1 : decode prog_10_method_20_code 1 = .ok (.aload_n 0, 1) := by decide +kernel
theorem d_Mod_authorize_2 : decode prog_10_method_20_code 2 = .ok (.getfield 103, 3) := by decide +kernel
theorem d_Mod_authorize_5 : decode prog_10_method_20_code 5 = .ok (.invokevirtual 152, 3) := by decide +kernel
theorem d_Mod_authorize_8 : decode prog_10_method_20_code 8 = .ok (.lstore_n 1, 1) := by decide +kernel
theorem d_Mod_authorize_9 : decode prog_10_method_20_code 9 = .ok (.aload_n 0, 1) := by decide +kernel
theorem d_Mod_authorize_10 : decode prog_10_method_20_code 10 = .ok (.aload_n 0, 1) := by decide +kernel
theorem d_Mod_authorize_11 : decode prog_10_method_20_code 11 = .ok (.getfield 103, 3) := by decide +kernel
theorem d_Mod_authorize_14 : decode prog_10_method_20_code 14 = .ok (.invokevirtual 64, 3) := by decide +kernel
theorem d_Mod_authorize_17 : decode prog_10_method_20_code 17 = .ok (.ifCond .ge 8, 3) := by decide +kernel
theorem d_Mod_authorize_20 : decode prog_10_method_20_code 20 = .ok (.bipush 14, 2) := by decide +kernel
theorem d_Mod_authorize_22 : decode prog_10_method_20_code 22 = .ok (.goto 34, 3) := by decide +kernel
theorem d_Mod_authorize_25 : decode prog_10_method_20_code 25 = .ok (.aload_n 0, 1) := by decide +kernel
theorem d_Mod_authorize_26 : decode prog_10_method_20_code 26 = .ok (.getfield 121, 3) := by decide +kernel
theorem d_Mod_authorize_29 : decode prog_10_method_20_code 29 = .ok (.sipush 10000, 3) := by decide +kernel
theorem d_Mod_authorize_32 : decode prog_10_method_20_code 32 = .ok (.idiv, 1) := by decide +kernel
theorem d_Mod_authorize_33 : decode prog_10_method_20_code 33 = .ok (.ifCond .eq 8, 3) := by decide +kernel
theorem d_Mod_authorize_36 : decode prog_10_method_20_code 36 = .ok (.bipush 12, 2) := by decide +kernel
theorem d_Mod_authorize_38 : decode prog_10_method_20_code 38 = .ok (.goto 18, 3) := by decide +kernel
theorem d_Mod_authorize_41 : decode prog_10_method_20_code 41 = .ok (.aload_n 0, 1) := by decide +kernel
theorem d_Mod_authorize_42 : decode prog_10_method_20_code 42 = .ok (.getfield 124, 3) := by decide +kernel
theorem d_Mod_authorize_45 : decode prog_10_method_20_code 45 = .ok (.lload_n 1, 1) := by decide +kernel
theorem d_Mod_authorize_46 : decode prog_10_method_20_code 46 = .ok (.lcmp, 1) := by decide +kernel
theorem d_Mod_authorize_47 : decode prog_10_method_20_code 47 = .ok (.ifCond .le 8, 3) := by decide +kernel
theorem d_Mod_authorize_50 : decode prog_10_method_20_code 50 = .ok (.bipush 51, 2) := by decide +kernel
theorem d_Mod_authorize_52 : decode prog_10_method_20_code 52 = .ok (.goto 4, 3) := by decide +kernel
theorem d_Mod_authorize_55 : decode prog_10_method_20_code 55 = .ok (.iconst 0, 1) := by decide +kernel
theorem d_Mod_authorize_56 : decode prog_10_method_20_code 56 = .ok (.istore_n 3, 1) := by decide +kernel
theorem d_Mod_authorize_57 : decode prog_10_method_20_code 57 = .ok (.aload_n 0, 1) := by decide +kernel
theorem d_Mod_authorize_58 : decode prog_10_method_20_code 58 = .ok (.iload_n 3, 1) := by decide +kernel
theorem d_Mod_authorize_59 : decode prog_10_method_20_code 59 = .ok (.iload_n 3, 1) := by decide +kernel
theorem d_Mod_authorize_60 : decode prog_10_method_20_code 60 = .ok (.ifCond .ne 7, 3) := by decide +kernel
theorem d_Mod_authorize_63 : decode prog_10_method_20_code 63 = .ok (.iconst 1, 1) := by decide +kernel
theorem d_Mod_authorize_64 : decode prog_10_method_20_code 64 = .ok (.goto 4, 3) := by decide +kernel
theorem d_Mod_authorize_67 : decode prog_10_method_20_code 67 = .ok (.iconst 0, 1) := by decide +kernel
theorem d_Mod_authorize_68 : decode prog_10_method_20_code 68 = .ok (.invokevirtual 156, 3) := by decide +kernel
theorem d_Mod_authorize_71 : decode prog_10_method_20_code 71 = .ok (.iload_n 3, 1) := by decide +kernel
theorem d_Mod_authorize_72 : decode prog_10_method_20_code 72 = .ok (.ireturn, 1) := by decide +kernel
theorem d_Mod_answer_0 : decode prog_10_method_28_code 0 = .ok (.aload_n 0, 1) := by decide +kernel
theorem d_Mod_answer_1 : decode prog_10_method_28_code 1 = .ok (.aload_n 0, 1) := by decide +kernel
theorem d_Mod_answer_2 : decode prog_10_method_28_code 2 = .ok (.getfield 139, 3) := by decide +kernel
theorem d_Mod_answer_5 : decode prog_10_method_28_code 5 = .ok (.aload_n 0, 1) := by decide +kernel
theorem d_Mod_answer_6 : decode prog_10_method_28_code 6 = .ok (.getfield 127, 3) := by decide +kernel
theorem d_Mod_answer_9 : decode prog_10_method_28_code 9 = .ok (.invokevirtual 160, 3) := by decide +kernel
theorem d_Mod_answer_12 : decode prog_10_method_28_code 12 = .ok (.istore_n 1, 1) := by decide +kernel
theorem d_Mod_answer_13 : decode prog_10_method_28_code 13 = .ok (.aload_n 0, 1) := by decide +kernel
theorem d_Mod_answer_14 : decode prog_10_method_28_code 14 = .ok (.lconst 0, 1) := by decide +kernel
theorem d_Mod_answer_15 : decode prog_10_method_28_code 15 = .ok (.putfield 174, 3) := by decide +kernel
theorem d_Mod_answer_18 : decode prog_10_method_28_code 18 = .ok (.iload_n 1, 1) := by decide +kernel
theorem d_Mod_answer_19 : decode prog_10_method_28_code 19 = .ok (.ifCond .lt 10, 3) := by decide +kernel
theorem d_Mod_answer_22 : decode prog_10_method_28_code 22 = .ok (.aload_n 0, 1) := by decide +kernel
theorem d_Mod_answer_23 : decode prog_10_method_28_code 23 = .ok (.getfield 51, 3) := by decide +kernel
theorem d_Mod_answer_26 : decode prog_10_method_28_code 26 = .ok (.iload_n 1, 1) := by decide +kernel
theorem d_Mod_answer_27 : decode prog_10_method_28_code 27 = .ok (.iaload, 1) := by decide +kernel
theorem d_Mod_answer_28 : decode prog_10_method_28_code 28 = .ok (.ireturn, 1) := by decide +kernel
theorem d_Mod_answer_29 : decode prog_10_method_28_code 29 = .ok (.aload_n 0, 1) := by decide +kernel
theorem d_Mod_answer_30 : decode prog_10_method_28_code 30 = .ok (.getfield 139, 3) := by decide +kernel
theorem d_Mod_answer_33 : decode prog_10_method_28_code 33 = .ok (.bipush 100, 2) := by decide +kernel
theorem d_Mod_answer_35 : decode prog_10_method_28_code 35 = .ok (.if_icmp .eq 36, 3) := by decide +kernel
theorem d_Mod_answer_38 : decode prog_10_method_28_code 38 = .ok (.aload_n 0, 1) := by decide +kernel
theorem d_Mod_answer_39 : decode prog_10_method_28_code 39 = .ok (.getfield 139, 3) := by decide +kernel
theorem d_Mod_answer_42 : decode prog_10_method_28_code 42 = .ok (.sipush 200, 3) := by decide +kernel
theorem d_Mod_answer_45 : decode prog_10_method_28_code 45 = .ok (.if_icmp .eq 26, 3) := by decide +kernel
theorem d_Mod_answer_48 : decode prog_10_method_28_code 48 = .ok (.aload_n 0, 1) := by decide +kernel
theorem d_Mod_answer_49 : decode prog_10_method_28_code 49 = .ok (.getfield 139, 3) := by decide +kernel
theorem d_Mod_answer_52 : decode prog_10_method_28_code 52 = .ok (.sipush 400, 3) := by decide +kernel
theorem d_Mod_answer_55 : decode prog_10_method_28_code 55 = .ok (.if_icmp .eq 16, 3) := by decide +kernel
theorem d_Mod_answer_58 : decode prog_10_method_28_code 58 = .ok (.aload_n 0, 1) := by decide +kernel
theorem d_Mod_answer_59 : decode prog_10_method_28_code 59 = .ok (.getfield 139, 3) := by decide +kernel
theorem d_Mod_answer_62 : decode prog_10_method_28_code 62 = .ok (.sipush 500, 3) := by decide +kernel
theorem d_Mod_answer_65 : decode prog_10_method_28_code 65 = .ok (.if_icmp .eq 6, 3) := by decide +kernel
theorem d_Mod_answer_68 : decode prog_10_method_28_code 68 = .ok (.bipush 12, 2) := by decide +kernel
theorem d_Mod_answer_70 : decode prog_10_method_28_code 70 = .ok (.ireturn, 1) := by decide +kernel
theorem d_Mod_answer_71 : decode prog_10_method_28_code 71 = .ok (.aload_n 0, 1) := by decide +kernel
theorem d_Mod_answer_72 : decode prog_10_method_28_code 72 = .ok (.getfield 77, 3) := by decide +kernel
theorem d_Mod_answer_75 : decode prog_10_method_28_code 75 = .ok (.aload_n 0, 1) := by decide +kernel
theorem d_Mod_answer_76 : decode prog_10_method_28_code 76 = .ok (.getfield 139, 3) := by decide +kernel
theorem d_Mod_answer_79 : decode prog_10_method_28_code 79 = .ok (.sipush 500, 3) := by decide +kernel
theorem d_Mod_answer_82 : decode prog_10_method_28_code 82 = .ok (.if_icmp .ne 8, 3) := by decide +kernel
theorem d_Mod_answer_85 : decode prog_10_method_28_code 85 = .ok (.bipush 32, 2) := by decide +kernel
theorem d_Mod_answer_87 : decode prog_10_method_28_code 87 = .ok (.goto 5, 3) := by decide +kernel
theorem d_Mod_answer_90 : decode prog_10_method_28_code 90 = .ok (.bipush 24, 2) := by decide +kernel
theorem d_Mod_answer_92 : decode prog_10_method_28_code 92 = .ok (.if_icmp .lt 6, 3) := by decide +kernel
theorem d_Mod_answer_95 : decode prog_10_method_28_code 95 = .ok (.bipush 96, 2) := by decide +kernel
theorem d_Mod_answer_97 : decode prog_10_method_28_code 97 = .ok (.ireturn, 1) := by decide +kernel
theorem d_Mod_answer_98 : decode prog_10_method_28_code 98 = .ok (.aload_n 0, 1) := by decide +kernel
theorem d_Mod_answer_99 : decode prog_10_method_28_code 99 = .ok (.getfield 139, 3) := by decide +kernel
theorem d_Mod_answer_102 : decode prog_10_method_28_code 102 = .ok (.bipush 100, 2) := by decide +kernel
theorem d_Mod_answer_104 : decode prog_10_method_28_code 104 = .ok (.if_icmp .ne 10, 3) := by decide +kernel
theorem d_Mod_answer_107 : decode prog_10_method_28_code 107 = .ok (.aload_n 0, 1) := by decide +kernel
theorem d_Mod_answer_108 : decode prog_10_method_28_code 108 = .ok (.invokevirtual 183, 3) := by decide +kernel
theorem d_Mod_answer_111 : decode prog_10_method_28_code 111 = .ok (.goto 41, 3) := by decide +kernel
theorem d_Mod_answer_114 : decode prog_10_method_28_code 114 = .ok (.aload_n 0, 1) := by decide +kernel
theorem d_Mod_answer_115 : decode prog_10_method_28_code 115 = .ok (.getfield 139, 3) := by decide +kernel
theorem d_Mod_answer_118 : decode prog_10_method_28_code 118 = .ok (.sipush 200, 3) := by decide +kernel
theorem d_Mod_answer_121 : decode prog_10_method_28_code 121 = .ok (.if_icmp .ne 10, 3) := by decide +kernel
theorem d_Mod_answer_124 : decode prog_10_method_28_code 124 = .ok (.aload_n 0, 1) := by decide +kernel
theorem d_Mod_answer_125 : decode prog_10_method_28_code 125 = .ok (.invokevirtual 187, 3) := by decide +kernel
theorem d_Mod_answer_128 : decode prog_10_method_28_code 128 = .ok (.goto 24, 3) := by decide +kernel
theorem d_Mod_answer_131 : decode prog_10_method_28_code 131 = .ok (.aload_n 0, 1) := by decide +kernel
theorem d_Mod_answer_132 : decode prog_10_method_28_code 132 = .ok (.getfield 139, 3) := by decide +kernel
theorem d_Mod_answer_135 : decode prog_10_method_28_code 135 = .ok (.sipush 400, 3) := by decide +kernel
theorem d_Mod_answer_138 : decode prog_10_method_28_code 138 = .ok (.if_icmp .ne 10, 3) := by decide +kernel
theorem d_Mod_answer_141 : decode prog_10_method_28_code 141 = .ok (.aload_n 0, 1) := by decide +kernel
theorem d_Mod_answer_142 : decode prog_10_method_28_code 142 = .ok (.invokevirtual 190, 3) := by decide +kernel
theorem d_Mod_answer_145 : decode prog_10_method_28_code 145 = .ok (.goto 7, 3) := by decide +kernel
theorem d_Mod_answer_148 : decode prog_10_method_28_code 148 = .ok (.aload_n 0, 1) := by decide +kernel
theorem d_Mod_answer_149 : decode prog_10_method_28_code 149 = .ok (.invokevirtual 193, 3) := by decide +kernel
theorem d_Mod_answer_152 : decode prog_10_method_28_code 152 = .ok (.ireturn, 1) := by decide +kernel
theorem d_Mod_write_0 : decode prog_10_method_29_code 0 = .ok (.aload_n 0, 1) := by decide +kernel
theorem d_Mod_write_1 : decode prog_10_method_29_code 1 = .ok (.getfield 20, 3) := by decide +kernel
theorem d_Mod_write_4 : decode prog_10_method_29_code 4 = .ok (.aload_n 0, 1) := by decide +kernel
theorem d_Mod_write_5 : decode prog_10_method_29_code 5 = .ok (.getfield 196, 3) := by decide +kernel
theorem d_Mod_write_8 : decode prog_10_method_29_code 8 = .ok (.iload_n 1, 1) := by decide +kernel
theorem d_Mod_write_9 : decode prog_10_method_29_code 9 = .ok (.iastore, 1) := by decide +kernel
theorem d_Mod_write_10 : decode prog_10_method_29_code 10 = .ok (.aload_n 0, 1) := by decide +kernel
theorem d_Mod_write_11 : decode prog_10_method_29_code 11 = .ok (.dup, 1) := by decide +kernel
theorem d_Mod_write_12 : decode prog_10_method_29_code 12 = .ok (.getfield 196, 3) := by decide +kernel
theorem d_Mod_write_15 : decode prog_10_method_29_code 15 = .ok (.iconst 1, 1) := by decide +kernel
theorem d_Mod_write_16 : decode prog_10_method_29_code 16 = .ok (.iadd, 1) := by decide +kernel
theorem d_Mod_write_17 : decode prog_10_method_29_code 17 = .ok (.putfield 196, 3) := by decide +kernel
theorem d_Mod_write_20 : decode prog_10_method_29_code 20 = .ok (.return_, 1) := by decide +kernel
theorem d_Mod_copy_0 : decode prog_10_method_30_code 0 = .ok (.aload_n 0, 1) := by decide +kernel
theorem d_Mod_copy_1 : decode prog_10_method_30_code 1 = .ok (.getfield 27, 3) := by decide +kernel
theorem d_Mod_copy_4 : decode prog_10_method_30_code 4 = .ok (.iload_n 1, 1) := by decide +kernel
theorem d_Mod_copy_5 : decode prog_10_method_30_code 5 = .ok (.iaload, 1) := by decide +kernel
theorem d_Mod_copy_6 : decode prog_10_method_30_code 6 = .ok (.istore_n 2, 1) := by decide +kernel
theorem d_Mod_copy_7 : decode prog_10_method_30_code 7 = .ok (.iload_n 2, 1) := by decide +kernel
theorem d_Mod_copy_8 : decode prog_10_method_30_code 8 = .ok (.aload_n 0, 1) := by decide +kernel
theorem d_Mod_copy_9 : decode prog_10_method_30_code 9 = .ok (.getfield 30, 3) := by decide +kernel
theorem d_Mod_copy_12 : decode prog_10_method_30_code 12 = .ok (.iload_n 1, 1) := by decide +kernel
theorem d_Mod_copy_13 : decode prog_10_method_30_code 13 = .ok (.iaload, 1) := by decide +kernel
theorem d_Mod_copy_14 : decode prog_10_method_30_code 14 = .ok (.if_icmp .ge 28, 3) := by decide +kernel
theorem d_Mod_copy_17 : decode prog_10_method_30_code 17 = .ok (.aload_n 0, 1) := by decide +kernel
theorem d_Mod_copy_18 : decode prog_10_method_30_code 18 = .ok (.getfield 23, 3) := by decide +kernel
theorem d_Mod_copy_21 : decode prog_10_method_30_code 21 = .ok (.iload_n 1, 1) := by decide +kernel
theorem d_Mod_copy_22 : decode prog_10_method_30_code 22 = .ok (.baload, 1) := by decide +kernel
theorem d_Mod_copy_23 : decode prog_10_method_30_code 23 = .ok (.ifCond .eq 19, 3) := by decide +kernel
theorem d_Mod_copy_26 : decode prog_10_method_30_code 26 = .ok (.aload_n 0, 1) := by decide +kernel
theorem d_Mod_copy_27 : decode prog_10_method_30_code 27 = .ok (.aload_n 0, 1) := by decide +kernel
theorem d_Mod_copy_28 : decode prog_10_method_30_code 28 = .ok (.getfield 16, 3) := by decide +kernel
theorem d_Mod_copy_31 : decode prog_10_method_30_code 31 = .ok (.iload_n 2, 1) := by decide +kernel
theorem d_Mod_copy_32 : decode prog_10_method_30_code 32 = .ok (.iaload, 1) := by decide +kernel
theorem d_Mod_copy_33 : decode prog_10_method_30_code 33 = .ok (.invokevirtual 199, 3) := by decide +kernel
theorem d_Mod_copy_36 : decode prog_10_method_30_code 36 = .ok (.iinc 2 1, 3) := by decide +kernel
theorem d_Mod_copy_39 : decode prog_10_method_30_code 39 = .ok (.goto (-32), 3) := by decide +kernel
theorem d_Mod_copy_42 : decode prog_10_method_30_code 42 = .ok (.return_, 1) := by decide +kernel
theorem d_Mod_writeAmount_0 : decode prog_10_method_31_code 0 = .ok (.ldc2_w 203, 3) := by decide +kernel
theorem d_Mod_writeAmount_3 : decode prog_10_method_31_code 3 = .ok (.lstore_n 3, 1) := by decide +kernel
theorem d_Mod_writeAmount_4 : decode prog_10_method_31_code 4 = .ok (.iconst 0, 1) := by decide +kernel
theorem d_Mod_writeAmount_5 : decode prog_10_method_31_code 5 = .ok (.istore 5, 2) := by decide +kernel
theorem d_Mod_writeAmount_7 : decode prog_10_method_31_code 7 = .ok (.iload 5, 2) := by decide +kernel
theorem d_Mod_writeAmount_9 : decode prog_10_method_31_code 9 = .ok (.bipush 6, 2) := by decide +kernel
theorem d_Mod_writeAmount_11 : decode prog_10_method_31_code 11 = .ok (.if_icmp .ge 51, 3) := by decide +kernel
theorem d_Mod_writeAmount_14 : decode prog_10_method_31_code 14 = .ok (.lload_n 1, 1) := by decide +kernel
theorem d_Mod_writeAmount_15 : decode prog_10_method_31_code 15 = .ok (.lload_n 3, 1) := by decide +kernel
theorem d_Mod_writeAmount_16 : decode prog_10_method_31_code 16 = .ok (.ldiv, 1) := by decide +kernel
theorem d_Mod_writeAmount_17 : decode prog_10_method_31_code 17 = .ok (.ldc2_w 96, 3) := by decide +kernel
theorem d_Mod_writeAmount_20 : decode prog_10_method_31_code 20 = .ok (.lrem, 1) := by decide +kernel
theorem d_Mod_writeAmount_21 : decode prog_10_method_31_code 21 = .ok (.l2i, 1) := by decide +kernel
theorem d_Mod_writeAmount_22 : decode prog_10_method_31_code 22 = .ok (.istore 6, 2) := by decide +kernel
theorem d_Mod_writeAmount_24 : decode prog_10_method_31_code 24 = .ok (.lload_n 1, 1) := by decide +kernel
theorem d_Mod_writeAmount_25 : decode prog_10_method_31_code 25 = .ok (.lload_n 3, 1) := by decide +kernel
theorem d_Mod_writeAmount_26 : decode prog_10_method_31_code 26 = .ok (.ldc2_w 96, 3) := by decide +kernel
theorem d_Mod_writeAmount_29 : decode prog_10_method_31_code 29 = .ok (.ldiv, 1) := by decide +kernel
theorem d_Mod_writeAmount_30 : decode prog_10_method_31_code 30 = .ok (.ldiv, 1) := by decide +kernel
theorem d_Mod_writeAmount_31 : decode prog_10_method_31_code 31 = .ok (.ldc2_w 96, 3) := by decide +kernel
theorem d_Mod_writeAmount_34 : decode prog_10_method_31_code 34 = .ok (.lrem, 1) := by decide +kernel
theorem d_Mod_writeAmount_35 : decode prog_10_method_31_code 35 = .ok (.l2i, 1) := by decide +kernel
theorem d_Mod_writeAmount_36 : decode prog_10_method_31_code 36 = .ok (.istore 7, 2) := by decide +kernel
theorem d_Mod_writeAmount_38 : decode prog_10_method_31_code 38 = .ok (.aload_n 0, 1) := by decide +kernel
theorem d_Mod_writeAmount_39 : decode prog_10_method_31_code 39 = .ok (.bipush 16, 2) := by decide +kernel
theorem d_Mod_writeAmount_41 : decode prog_10_method_31_code 41 = .ok (.iload 6, 2) := by decide +kernel
theorem d_Mod_writeAmount_43 : decode prog_10_method_31_code 43 = .ok (.imul, 1) := by decide +kernel
theorem d_Mod_writeAmount_44 : decode prog_10_method_31_code 44 = .ok (.iload 7, 2) := by decide +kernel
theorem d_Mod_writeAmount_46 : decode prog_10_method_31_code 46 = .ok (.iadd, 1) := by decide +kernel
theorem d_Mod_writeAmount_47 : decode prog_10_method_31_code 47 = .ok (.invokevirtual 199, 3) := by decide +kernel
theorem d_Mod_writeAmount_50 : decode prog_10_method_31_code 50 = .ok (.lload_n 3, 1) := by decide +kernel
theorem d_Mod_writeAmount_51 : decode prog_10_method_31_code 51 = .ok (.ldc2_w 205, 3) := by decide +kernel
theorem d_Mod_writeAmount_54 : decode prog_10_method_31_code 54 = .ok (.ldiv, 1) := by decide +kernel
theorem d_Mod_writeAmount_55 : decode prog_10_method_31_code 55 = .ok (.lstore_n 3, 1) := by decide +kernel
theorem d_Mod_writeAmount_56 : decode prog_10_method_31_code 56 = .ok (.iinc 5 1, 3) := by decide +kernel
theorem d_Mod_writeAmount_59 : decode prog_10_method_31_code 59 = .ok (.goto (-52), 3) := by decide +kernel
theorem d_Mod_writeAmount_62 : decode prog_10_method_31_code 62 = .ok (.return_, 1) := by decide +kernel
theorem d_Mod_answerWith_0 : decode prog_10_method_32_code 0 = .ok (.aload_n 0, 1) := by decide +kernel
theorem d_Mod_answerWith_1 : decode prog_10_method_32_code 1 = .ok (.iconst 0, 1) := by decide +kernel
theorem d_Mod_answerWith_2 : decode prog_10_method_32_code 2 = .ok (.putfield 196, 3) := by decide +kernel
theorem d_Mod_answerWith_5 : decode prog_10_method_32_code 5 = .ok (.aload_n 0, 1) := by decide +kernel
theorem d_Mod_answerWith_6 : decode prog_10_method_32_code 6 = .ok (.getfield 139, 3) := by decide +kernel
theorem d_Mod_answerWith_9 : decode prog_10_method_32_code 9 = .ok (.bipush 10, 2) := by decide +kernel
theorem d_Mod_answerWith_11 : decode prog_10_method_32_code 11 = .ok (.iadd, 1) := by decide +kernel
theorem d_Mod_answerWith_12 : decode prog_10_method_32_code 12 = .ok (.istore_n 2, 1) := by decide +kernel
theorem d_Mod_answerWith_13 : decode prog_10_method_32_code 13 = .ok (.aload_n 0, 1) := by decide +kernel
theorem d_Mod_answerWith_14 : decode prog_10_method_32_code 14 = .ok (.bipush 16, 2) := by decide +kernel
theorem d_Mod_answerWith_16 : decode prog_10_method_32_code 16 = .ok (.iload_n 2, 1) := by decide +kernel
theorem d_Mod_answerWith_17 : decode prog_10_method_32_code 17 = .ok (.sipush 1000, 3) := by decide +kernel
theorem d_Mod_answerWith_20 : decode prog_10_method_32_code 20 = .ok (.idiv, 1) := by decide +kernel
theorem d_Mod_answerWith_21 : decode prog_10_method_32_code 21 = .ok (.imul, 1) := by decide +kernel
theorem d_Mod_answerWith_22 : decode prog_10_method_32_code 22 = .ok (.iload_n 2, 1) := by decide +kernel
theorem d_Mod_answerWith_23 : decode prog_10_method_32_code 23 = .ok (.bipush 100, 2) := by decide +kernel
theorem d_Mod_answerWith_25 : decode prog_10_method_32_code 25 = .ok (.idiv, 1) := by decide +kernel
theorem d_Mod_answerWith_26 : decode prog_10_method_32_code 26 = .ok (.bipush 10, 2) := by decide +kernel
theorem d_Mod_answerWith_28 : decode prog_10_method_32_code 28 = .ok (.irem, 1) := by decide +kernel
theorem d_Mod_answerWith_29 : decode prog_10_method_32_code 29 = .ok (.iadd, 1) := by decide +kernel
theorem d_Mod_answerWith_30 : decode prog_10_method_32_code 30 = .ok (.invokevirtual 199, 3) := by decide +kernel
theorem d_Mod_answerWith_33 : decode prog_10_method_32_code 33 = .ok (.aload_n 0, 1) := by decide +kernel
theorem d_Mod_answerWith_34 : decode prog_10_method_32_code 34 = .ok (.bipush 16, 2) := by decide +kernel
theorem d_Mod_answerWith_36 : decode prog_10_method_32_code 36 = .ok (.iload_n 2, 1) := by decide +kernel
theorem d_Mod_answerWith_37 : decode prog_10_method_32_code 37 = .ok (.bipush 10, 2) := by decide +kernel
theorem d_Mod_answerWith_39 : decode prog_10_method_32_code 39 = .ok (.idiv, 1) := by decide +kernel
theorem d_Mod_answerWith_40 : decode prog_10_method_32_code 40 = .ok (.bipush 10, 2) := by decide +kernel
theorem d_Mod_answerWith_42 : decode prog_10_method_32_code 42 = .ok (.irem, 1) := by decide +kernel
theorem d_Mod_answerWith_43 : decode prog_10_method_32_code 43 = .ok (.imul, 1) := by decide +kernel
theorem d_Mod_answerWith_44 : decode prog_10_method_32_code 44 = .ok (.iload_n 2, 1) := by decide +kernel
theorem d_Mod_answerWith_45 : decode prog_10_method_32_code 45 = .ok (.bipush 10, 2) := by decide +kernel
theorem d_Mod_answerWith_47 : decode prog_10_method_32_code 47 = .ok (.irem, 1) := by decide +kernel
theorem d_Mod_answerWith_48 : decode prog_10_method_32_code 48 = .ok (.iadd, 1) := by decide +kernel
theorem d_Mod_answerWith_49 : decode prog_10_method_32_code 49 = .ok (.invokevirtual 199, 3) := by decide +kernel
theorem d_Mod_answerWith_52 : decode prog_10_method_32_code 52 = .ok (.aload_n 0, 1) := by decide +kernel
theorem d_Mod_answerWith_53 : decode prog_10_method_32_code 53 = .ok (.getfield 23, 3) := by decide +kernel
theorem d_Mod_answerWith_56 : decode prog_10_method_32_code 56 = .ok (.iconst 4, 1) := by decide +kernel
theorem d_Mod_answerWith_57 : decode prog_10_method_32_code 57 = .ok (.baload, 1) := by decide +kernel
theorem d_Mod_answerWith_58 : decode prog_10_method_32_code 58 = .ok (.ifCond .ne 13, 3) := by decide +kernel
theorem d_Mod_answerWith_61 : decode prog_10_method_32_code 61 = .ok (.aload_n 0, 1) := by decide +kernel
theorem d_Mod_answerWith_62 : decode prog_10_method_32_code 62 = .ok (.getfield 139, 3) := by decide +kernel
theorem d_Mod_answerWith_65 : decode prog_10_method_32_code 65 = .ok (.sipush 500, 3) := by decide +kernel
theorem d_Mod_answerWith_68 : decode prog_10_method_32_code 68 = .ok (.if_icmp .ne 7, 3) := by decide +kernel
theorem d_Mod_answerWith_71 : decode prog_10_method_32_code 71 = .ok (.iconst 1, 1) := by decide +kernel
theorem d_Mod_answerWith_72 : decode prog_10_method_32_code 72 = .ok (.goto 4, 3) := by decide +kernel
theorem d_Mod_answerWith_75 : decode prog_10_method_32_code 75 = .ok (.iconst 0, 1) := by decide +kernel
theorem d_Mod_answerWith_76 : decode prog_10_method_32_code 76 = .ok (.istore_n 3, 1) := by decide +kernel
theorem d_Mod_answerWith_77 : decode prog_10_method_32_code 77 = .ok (.aload_n 0, 1) := by decide +kernel
theorem d_Mod_answerWith_78 : decode prog_10_method_32_code 78 = .ok (.aload_n 0, 1) := by decide +kernel
theorem d_Mod_answerWith_79 : decode prog_10_method_32_code 79 = .ok (.getfield 23, 3) := by decide +kernel
theorem d_Mod_answerWith_82 : decode prog_10_method_32_code 82 = .ok (.iconst 2, 1) := by decide +kernel
theorem d_Mod_answerWith_83 : decode prog_10_method_32_code 83 = .ok (.baload, 1) := by decide +kernel
theorem d_Mod_answerWith_84 : decode prog_10_method_32_code 84 = .ok (.ifCond .eq 8, 3) := by decide +kernel
theorem d_Mod_answerWith_87 : decode prog_10_method_32_code 87 = .ok (.bipush 64, 2) := by decide +kernel
theorem d_Mod_answerWith_89 : decode prog_10_method_32_code 89 = .ok (.goto 4, 3) := by decide +kernel
theorem d_Mod_answerWith_92 : decode prog_10_method_32_code 92 = .ok (.iconst 0, 1) := by decide +kernel
theorem d_Mod_answerWith_93 : decode prog_10_method_32_code 93 = .ok (.aload_n 0, 1) := by decide +kernel
theorem d_Mod_answerWith_94 : decode prog_10_method_32_code 94 = .ok (.getfield 23, 3) := by decide +kernel
theorem d_Mod_answerWith_97 : decode prog_10_method_32_code 97 = .ok (.iconst 3, 1) := by decide +kernel
theorem d_Mod_answerWith_98 : decode prog_10_method_32_code 98 = .ok (.baload, 1) := by decide +kernel
theorem d_Mod_answerWith_99 : decode prog_10_method_32_code 99 = .ok (.ifCond .eq 8, 3) := by decide +kernel
theorem d_Mod_answerWith_102 : decode prog_10_method_32_code 102 = .ok (.bipush 32, 2) := by decide +kernel
theorem d_Mod_answerWith_104 : decode prog_10_method_32_code 104 = .ok (.goto 4, 3) := by decide +kernel
theorem d_Mod_answerWith_107 : decode prog_10_method_32_code 107 = .ok (.iconst 0, 1) := by decide +kernel
theorem d_Mod_answerWith_108 : decode prog_10_method_32_code 108 = .ok (.iadd, 1) := by decide +kernel
theorem d_Mod_answerWith_109 : decode prog_10_method_32_code 109 = .ok (.iload_n 3, 1) := by decide +kernel
theorem d_Mod_answerWith_110 : decode prog_10_method_32_code 110 = .ok (.ifCond .eq 8, 3) := by decide +kernel
theorem d_Mod_answerWith_113 : decode prog_10_method_32_code 113 = .ok (.bipush 16, 2) := by decide +kernel
theorem d_Mod_answerWith_115 : decode prog_10_method_32_code 115 = .ok (.goto 4, 3) := by decide +kernel
theorem d_Mod_answerWith_118 : decode prog_10_method_32_code 118 = .ok (.iconst 0, 1) := by decide +kernel
theorem d_Mod_answerWith_119 : decode prog_10_method_32_code 119 = .ok (.iadd, 1) := by decide +kernel
theorem d_Mod_answerWith_120 : decode prog_10_method_32_code 120 = .ok (.invokevirtual 199, 3) := by decide +kernel
theorem d_Mod_answerWith_123 : decode prog_10_method_32_code 123 = .ok (.aload_n 0, 1) := by decide +kernel
theorem d_Mod_answerWith_124 : decode prog_10_method_32_code 124 = .ok (.bipush 32, 2) := by decide +kernel
theorem d_Mod_answerWith_126 : decode prog_10_method_32_code 126 = .ok (.invokevirtual 199, 3) := by decide +kernel
theorem d_Mod_answerWith_129 : decode prog_10_method_32_code 129 = .ok (.aload_n 0, 1) := by decide +kernel
theorem d_Mod_answerWith_130 : decode prog_10_method_32_code 130 = .ok (.iconst 0, 1) := by decide +kernel
theorem d_Mod_answerWith_131 : decode prog_10_method_32_code 131 = .ok (.invokevirtual 199, 3) := by decide +kernel
theorem d_Mod_answerWith_134 : decode prog_10_method_32_code 134 = .ok (.aload_n 0, 1) := by decide +kernel
theorem d_Mod_answerWith_135 : decode prog_10_method_32_code 135 = .ok (.iconst 0, 1) := by decide +kernel
theorem d_Mod_answerWith_136 : decode prog_10_method_32_code 136 = .ok (.invokevirtual 199, 3) := by decide +kernel
theorem d_Mod_answerWith_139 : decode prog_10_method_32_code 139 = .ok (.aload_n 0, 1) := by decide +kernel
theorem d_Mod_answerWith_140 : decode prog_10_method_32_code 140 = .ok (.iconst 2, 1) := by decide +kernel
theorem d_Mod_answerWith_141 : decode prog_10_method_32_code 141 = .ok (.invokevirtual 199, 3) := by decide +kernel
theorem d_Mod_answerWith_144 : decode prog_10_method_32_code 144 = .ok (.aload_n 0, 1) := by decide +kernel
theorem d_Mod_answerWith_145 : decode prog_10_method_32_code 145 = .ok (.sipush 128, 3) := by decide +kernel
theorem d_Mod_answerWith_148 : decode prog_10_method_32_code 148 = .ok (.invokevirtual 199, 3) := by decide +kernel
theorem d_Mod_answerWith_151 : decode prog_10_method_32_code 151 = .ok (.aload_n 0, 1) := by decide +kernel
theorem d_Mod_answerWith_152 : decode prog_10_method_32_code 152 = .ok (.iconst 0, 1) := by decide +kernel
theorem d_Mod_answerWith_153 : decode prog_10_method_32_code 153 = .ok (.invokevirtual 199, 3) := by decide +kernel
theorem d_Mod_answerWith_156 : decode prog_10_method_32_code 156 = .ok (.aload_n 0, 1) := by decide +kernel
theorem d_Mod_answerWith_157 : decode prog_10_method_32_code 157 = .ok (.iconst 0, 1) := by decide +kernel
theorem d_Mod_answerWith_158 : decode prog_10_method_32_code 158 = .ok (.invokevirtual 199, 3) := by decide +kernel
theorem d_Mod_answerWith_161 : decode prog_10_method_32_code 161 = .ok (.aload_n 0, 1) := by decide +kernel
theorem d_Mod_answerWith_162 : decode prog_10_method_32_code 162 = .ok (.iconst 2, 1) := by decide +kernel
theorem d_Mod_answerWith_163 : decode prog_10_method_32_code 163 = .ok (.invokevirtual 207, 3) := by decide +kernel
theorem d_Mod_answerWith_166 : decode prog_10_method_32_code 166 = .ok (.aload_n 0, 1) := by decide +kernel
theorem d_Mod_answerWith_167 : decode prog_10_method_32_code 167 = .ok (.iconst 3, 1) := by decide +kernel
theorem d_Mod_answerWith_168 : decode prog_10_method_32_code 168 = .ok (.invokevirtual 207, 3) := by decide +kernel
theorem d_Mod_answerWith_171 : decode prog_10_method_32_code 171 = .ok (.aload_n 0, 1) := by decide +kernel
theorem d_Mod_answerWith_172 : decode prog_10_method_32_code 172 = .ok (.getfield 139, 3) := by decide +kernel
theorem d_Mod_answerWith_175 : decode prog_10_method_32_code 175 = .ok (.sipush 500, 3) := by decide +kernel
theorem d_Mod_answerWith_178 : decode prog_10_method_32_code 178 = .ok (.if_icmp .ne 31, 3) := by decide +kernel
theorem d_Mod_answerWith_181 : decode prog_10_method_32_code 181 = .ok (.aload_n 0, 1) := by decide +kernel
theorem d_Mod_answerWith_182 : decode prog_10_method_32_code 182 = .ok (.aload_n 0, 1) := by decide +kernel
theorem d_Mod_answerWith_183 : decode prog_10_method_32_code 183 = .ok (.getfield 174, 3) := by decide +kernel
theorem d_Mod_answerWith_186 : decode prog_10_method_32_code 186 = .ok (.lconst 0, 1) := by decide +kernel
theorem d_Mod_answerWith_187 : decode prog_10_method_32_code 187 = .ok (.lcmp, 1) := by decide +kernel
theorem d_Mod_answerWith_188 : decode prog_10_method_32_code 188 = .ok (.ifCond .ge 11, 3) := by decide +kernel
theorem d_Mod_answerWith_191 : decode prog_10_method_32_code 191 = .ok (.aload_n 0, 1) := by decide +kernel
theorem d_Mod_answerWith_192 : decode prog_10_method_32_code 192 = .ok (.getfield 174, 3) := by decide +kernel
theorem d_Mod_answerWith_195 : decode prog_10_method_32_code 195 = .ok (.lneg, 1) := by decide +kernel
theorem d_Mod_answerWith_196 : decode prog_10_method_32_code 196 = .ok (.goto 7, 3) := by decide +kernel
theorem d_Mod_answerWith_199 : decode prog_10_method_32_code 199 = .ok (.aload_n 0, 1) := by decide +kernel
theorem d_Mod_answerWith_200 : decode prog_10_method_32_code 200 = .ok (.getfield 174, 3) := by decide +kernel
theorem d_Mod_answerWith_203 : decode prog_10_method_32_code 203 = .ok (.invokevirtual 210, 3) := by decide +kernel
theorem d_Mod_answerWith_206 : decode prog_10_method_32_code 206 = .ok (.goto 8, 3) := by decide +kernel
theorem d_Mod_answerWith_209 : decode prog_10_method_32_code 209 = .ok (.aload_n 0, 1) := by decide +kernel
theorem d_Mod_answerWith_210 : decode prog_10_method_32_code 210 = .ok (.iconst 4, 1) := by decide +kernel
theorem d_Mod_answerWith_211 : decode prog_10_method_32_code 211 = .ok (.invokevirtual 207, 3) := by decide +kernel
theorem d_Mod_answerWith_214 : decode prog_10_method_32_code 214 = .ok (.aload_n 0, 1) := by decide +kernel
theorem d_Mod_answerWith_215 : decode prog_10_method_32_code 215 = .ok (.bipush 11, 2) := by decide +kernel
theorem d_Mod_answerWith_217 : decode prog_10_method_32_code 217 = .ok (.invokevirtual 207, 3) := by decide +kernel
theorem d_Mod_answerWith_220 : decode prog_10_method_32_code 220 = .ok (.aload_n 0, 1) := by decide +kernel
theorem d_Mod_answerWith_221 : decode prog_10_method_32_code 221 = .ok (.bipush 48, 2) := by decide +kernel
theorem d_Mod_answerWith_223 : decode prog_10_method_32_code 223 = .ok (.iload_n 1, 1) := by decide +kernel
theorem d_Mod_answerWith_224 : decode prog_10_method_32_code 224 = .ok (.bipush 10, 2) := by decide +kernel
theorem d_Mod_answerWith_226 : decode prog_10_method_32_code 226 = .ok (.idiv, 1) := by decide +kernel
theorem d_Mod_answerWith_227 : decode prog_10_method_32_code 227 = .ok (.iadd, 1) := by decide +kernel
theorem d_Mod_answerWith_228 : decode prog_10_method_32_code 228 = .ok (.invokevirtual 199, 3) := by decide +kernel
theorem d_Mod_answerWith_231 : decode prog_10_method_32_code 231 = .ok (.aload_n 0, 1) := by decide +kernel
theorem d_Mod_answerWith_232 : decode prog_10_method_32_code 232 = .ok (.bipush 48, 2) := by decide +kernel
theorem d_Mod_answerWith_234 : decode prog_10_method_32_code 234 = .ok (.iload_n 1, 1) := by decide +kernel
theorem d_Mod_answerWith_235 : decode prog_10_method_32_code 235 = .ok (.bipush 10, 2) := by decide +kernel
theorem d_Mod_answerWith_237 : decode prog_10_method_32_code 237 = .ok (.irem, 1) := by decide +kernel
theorem d_Mod_answerWith_238 : decode prog_10_method_32_code 238 = .ok (.iadd, 1) := by decide +kernel
theorem d_Mod_answerWith_239 : decode prog_10_method_32_code 239 = .ok (.invokevirtual 199, 3) := by decide +kernel
theorem d_Mod_answerWith_242 : decode prog_10_method_32_code 242 = .ok (.aload_n 0, 1) := by decide +kernel
theorem d_Mod_answerWith_243 : decode prog_10_method_32_code 243 = .ok (.bipush 41, 2) := by decide +kernel
theorem d_Mod_answerWith_245 : decode prog_10_method_32_code 245 = .ok (.invokevirtual 207, 3) := by decide +kernel
theorem d_Mod_answerWith_248 : decode prog_10_method_32_code 248 = .ok (.return_, 1) := by decide +kernel
theorem d_Mod_handle_0 : decode prog_10_method_33_code 0 = .ok (.aload_n 0, 1) := by decide +kernel
theorem d_Mod_handle_1 : decode prog_10_method_33_code 1 = .ok (.invokevirtual 214, 3) := by decide +kernel
theorem d_Mod_handle_4 : decode prog_10_method_33_code 4 = .ok (.istore_n 1, 1) := by decide +kernel
theorem d_Mod_handle_5 : decode prog_10_method_33_code 5 = .ok (.bipush 30, 2) := by decide +kernel
theorem d_Mod_handle_7 : decode prog_10_method_33_code 7 = .ok (.istore_n 2, 1) := by decide +kernel
theorem d_Mod_handle_8 : decode prog_10_method_33_code 8 = .ok (.aload_n 0, 1) := by decide +kernel
theorem d_Mod_handle_9 : decode prog_10_method_33_code 9 = .ok (.iconst 0, 1) := by decide +kernel
theorem d_Mod_handle_10 : decode prog_10_method_33_code 10 = .ok (.putfield 196, 3) := by decide +kernel
theorem d_Mod_handle_13 : decode prog_10_method_33_code 13 = .ok (.iload_n 1, 1) := by decide +kernel
theorem d_Mod_handle_14 : decode prog_10_method_33_code 14 = .ok (.ifCond .eq 13, 3) := by decide +kernel
theorem d_Mod_handle_17 : decode prog_10_method_33_code 17 = .ok (.aload_n 0, 1) := by decide +kernel
theorem d_Mod_handle_18 : decode prog_10_method_33_code 18 = .ok (.invokevirtual 217, 3) := by decide +kernel
theorem d_Mod_handle_21 : decode prog_10_method_33_code 21 = .ok (.istore_n 2, 1) := by decide +kernel
theorem d_Mod_handle_22 : decode prog_10_method_33_code 22 = .ok (.aload_n 0, 1) := by decide +kernel
theorem d_Mod_handle_23 : decode prog_10_method_33_code 23 = .ok (.iload_n 2, 1) := by decide +kernel
theorem d_Mod_handle_24 : decode prog_10_method_33_code 24 = .ok (.invokevirtual 220, 3) := by decide +kernel
theorem d_Mod_handle_27 : decode prog_10_method_33_code 27 = .ok (.aload_n 0, 1) := by decide +kernel
theorem d_Mod_handle_28 : decode prog_10_method_33_code 28 = .ok (.iconst 0, 1) := by decide +kernel
theorem d_Mod_handle_29 : decode prog_10_method_33_code 29 = .ok (.putfield 84, 3) := by decide +kernel
theorem d_Mod_handle_32 : decode prog_10_method_33_code 32 = .ok (.iload_n 2, 1) := by decide +kernel
theorem d_Mod_handle_33 : decode prog_10_method_33_code 33 = .ok (.ireturn, 1) := by decide +kernel
theorem d_Mod_reply_0 : decode prog_10_method_34_code 0 = .ok (.iload_n 1, 1) := by decide +kernel
theorem d_Mod_reply_1 : decode prog_10_method_34_code 1 = .ok (.ifCond .lt 20, 3) := by decide +kernel
theorem d_Mod_reply_4 : decode prog_10_method_34_code 4 = .ok (.iload_n 1, 1) := by decide +kernel
theorem d_Mod_reply_5 : decode prog_10_method_34_code 5 = .ok (.aload_n 0, 1) := by decide +kernel
theorem d_Mod_reply_6 : decode prog_10_method_34_code 6 = .ok (.getfield 196, 3) := by decide +kernel
theorem d_Mod_reply_9 : decode prog_10_method_34_code 9 = .ok (.if_icmp .ge 12, 3) := by decide +kernel
theorem d_Mod_reply_12 : decode prog_10_method_34_code 12 = .ok (.aload_n 0, 1) := by decide +kernel
theorem d_Mod_reply_13 : decode prog_10_method_34_code 13 = .ok (.getfield 20, 3) := by decide +kernel
theorem d_Mod_reply_16 : decode prog_10_method_34_code 16 = .ok (.iload_n 1, 1) := by decide +kernel
theorem d_Mod_reply_17 : decode prog_10_method_34_code 17 = .ok (.iaload, 1) := by decide +kernel
theorem d_Mod_reply_18 : decode prog_10_method_34_code 18 = .ok (.goto 4, 3) := by decide +kernel
theorem d_Mod_reply_21 : decode prog_10_method_34_code 21 = .ok (.iconst (-1), 1) := by decide +kernel
theorem d_Mod_reply_22 : decode prog_10_method_34_code 22 = .ok (.ireturn, 1) := by decide +kernel
theorem d_Mod_entries_0 : decode prog_10_method_35_code 0 = .ok (.aload_n 0, 1) := by decide +kernel
theorem d_Mod_entries_1 : decode prog_10_method_35_code 1 = .ok (.getfield 77, 3) := by decide +kernel
theorem d_Mod_entries_4 : decode prog_10_method_35_code 4 = .ok (.ireturn, 1) := by decide +kernel
theorem d_Mod_entry_0 : decode prog_10_method_36_code 0 = .ok (.iload_n 1, 1) := by decide +kernel
theorem d_Mod_entry_1 : decode prog_10_method_36_code 1 = .ok (.ifCond .lt 20, 3) := by decide +kernel
theorem d_Mod_entry_4 : decode prog_10_method_36_code 4 = .ok (.iload_n 1, 1) := by decide +kernel
theorem d_Mod_entry_5 : decode prog_10_method_36_code 5 = .ok (.aload_n 0, 1) := by decide +kernel
theorem d_Mod_entry_6 : decode prog_10_method_36_code 6 = .ok (.getfield 77, 3) := by decide +kernel
theorem d_Mod_entry_9 : decode prog_10_method_36_code 9 = .ok (.if_icmp .ge 12, 3) := by decide +kernel
theorem d_Mod_entry_12 : decode prog_10_method_36_code 12 = .ok (.iload_n 2, 1) := by decide +kernel
theorem d_Mod_entry_13 : decode prog_10_method_36_code 13 = .ok (.ifCond .lt 8, 3) := by decide +kernel
theorem d_Mod_entry_16 : decode prog_10_method_36_code 16 = .ok (.iload_n 2, 1) := by decide +kernel
theorem d_Mod_entry_17 : decode prog_10_method_36_code 17 = .ok (.iconst 3, 1) := by decide +kernel
theorem d_Mod_entry_18 : decode prog_10_method_36_code 18 = .ok (.if_icmp .le 5, 3) := by decide +kernel
theorem d_Mod_entry_21 : decode prog_10_method_36_code 21 = .ok (.iconst (-1), 1) := by decide +kernel
theorem d_Mod_entry_22 : decode prog_10_method_36_code 22 = .ok (.ireturn, 1) := by decide +kernel
theorem d_Mod_entry_23 : decode prog_10_method_36_code 23 = .ok (.iload_n 2, 1) := by decide +kernel
theorem d_Mod_entry_24 : decode prog_10_method_36_code 24 = .ok (.ifCond .ne 12, 3) := by decide +kernel
theorem d_Mod_entry_27 : decode prog_10_method_36_code 27 = .ok (.aload_n 0, 1) := by decide +kernel
theorem d_Mod_entry_28 : decode prog_10_method_36_code 28 = .ok (.getfield 33, 3) := by decide +kernel
theorem d_Mod_entry_31 : decode prog_10_method_36_code 31 = .ok (.iload_n 1, 1) := by decide +kernel
theorem d_Mod_entry_32 : decode prog_10_method_36_code 32 = .ok (.iaload, 1) := by decide +kernel
theorem d_Mod_entry_33 : decode prog_10_method_36_code 33 = .ok (.goto 59, 3) := by decide +kernel
theorem d_Mod_entry_36 : decode prog_10_method_36_code 36 = .ok (.iload_n 2, 1) := by decide +kernel
theorem d_Mod_entry_37 : decode prog_10_method_36_code 37 = .ok (.iconst 1, 1) := by decide +kernel
theorem d_Mod_entry_38 : decode prog_10_method_36_code 38 = .ok (.if_icmp .ne 12, 3) := by decide +kernel
theorem d_Mod_entry_41 : decode prog_10_method_36_code 41 = .ok (.aload_n 0, 1) := by decide +kernel
theorem d_Mod_entry_42 : decode prog_10_method_36_code 42 = .ok (.getfield 39, 3) := by decide +kernel
theorem d_Mod_entry_45 : decode prog_10_method_36_code 45 = .ok (.iload_n 1, 1) := by decide +kernel
theorem d_Mod_entry_46 : decode prog_10_method_36_code 46 = .ok (.iaload, 1) := by decide +kernel
theorem d_Mod_entry_47 : decode prog_10_method_36_code 47 = .ok (.goto 45, 3) := by decide +kernel
theorem d_Mod_entry_50 : decode prog_10_method_36_code 50 = .ok (.iload_n 2, 1) := by decide +kernel
theorem d_Mod_entry_51 : decode prog_10_method_36_code 51 = .ok (.iconst 2, 1) := by decide +kernel
theorem d_Mod_entry_52 : decode prog_10_method_36_code 52 = .ok (.if_icmp .ne 12, 3) := by decide +kernel
theorem d_Mod_entry_55 : decode prog_10_method_36_code 55 = .ok (.aload_n 0, 1) := by decide +kernel
theorem d_Mod_entry_56 : decode prog_10_method_36_code 56 = .ok (.getfield 51, 3) := by decide +kernel
theorem d_Mod_entry_59 : decode prog_10_method_36_code 59 = .ok (.iload_n 1, 1) := by decide +kernel
theorem d_Mod_entry_60 : decode prog_10_method_36_code 60 = .ok (.iaload, 1) := by decide +kernel
theorem d_Mod_entry_61 : decode prog_10_method_36_code 61 = .ok (.goto 31, 3) := by decide +kernel
theorem d_Mod_entry_64 : decode prog_10_method_36_code 64 = .ok (.aload_n 0, 1) := by decide +kernel
theorem d_Mod_entry_65 : decode prog_10_method_36_code 65 = .ok (.getfield 54, 3) := by decide +kernel
theorem d_Mod_entry_68 : decode prog_10_method_36_code 68 = .ok (.iload_n 1, 1) := by decide +kernel
theorem d_Mod_entry_69 : decode prog_10_method_36_code 69 = .ok (.iaload, 1) := by decide +kernel
theorem d_Mod_entry_70 : decode prog_10_method_36_code 70 = .ok (.iconst 1, 1) := by decide +kernel
theorem d_Mod_entry_71 : decode prog_10_method_36_code 71 = .ok (.if_icmp .ne 15, 3) := by decide +kernel
theorem d_Mod_entry_74 : decode prog_10_method_36_code 74 = .ok (.aload_n 0, 1) := by decide +kernel
theorem d_Mod_entry_75 : decode prog_10_method_36_code 75 = .ok (.iload_n 1, 1) := by decide +kernel
theorem d_Mod_entry_76 : decode prog_10_method_36_code 76 = .ok (.invokevirtual 80, 3) := by decide +kernel
theorem d_Mod_entry_79 : decode prog_10_method_36_code 79 = .ok (.ifCond .ne 7, 3) := by decide +kernel
theorem d_Mod_entry_82 : decode prog_10_method_36_code 82 = .ok (.iconst 0, 1) := by decide +kernel
theorem d_Mod_entry_83 : decode prog_10_method_36_code 83 = .ok (.goto 9, 3) := by decide +kernel
theorem d_Mod_entry_86 : decode prog_10_method_36_code 86 = .ok (.aload_n 0, 1) := by decide +kernel
theorem d_Mod_entry_87 : decode prog_10_method_36_code 87 = .ok (.getfield 54, 3) := by decide +kernel
theorem d_Mod_entry_90 : decode prog_10_method_36_code 90 = .ok (.iload_n 1, 1) := by decide +kernel
theorem d_Mod_entry_91 : decode prog_10_method_36_code 91 = .ok (.iaload, 1) := by decide +kernel
theorem d_Mod_entry_92 : decode prog_10_method_36_code 92 = .ok (.ireturn, 1) := by decide +kernel
theorem d_Mod_amount_0 : decode prog_10_method_37_code 0 = .ok (.iload_n 1, 1) := by decide +kernel
theorem d_Mod_amount_1 : decode prog_10_method_37_code 1 = .ok (.ifCond .lt 20, 3) := by decide +kernel
theorem d_Mod_amount_4 : decode prog_10_method_37_code 4 = .ok (.iload_n 1, 1) := by decide +kernel
theorem d_Mod_amount_5 : decode prog_10_method_37_code 5 = .ok (.aload_n 0, 1) := by decide +kernel
theorem d_Mod_amount_6 : decode prog_10_method_37_code 6 = .ok (.getfield 77, 3) := by decide +kernel
theorem d_Mod_amount_9 : decode prog_10_method_37_code 9 = .ok (.if_icmp .ge 12, 3) := by decide +kernel
theorem d_Mod_amount_12 : decode prog_10_method_37_code 12 = .ok (.aload_n 0, 1) := by decide +kernel
theorem d_Mod_amount_13 : decode prog_10_method_37_code 13 = .ok (.getfield 48, 3) := by decide +kernel
theorem d_Mod_amount_16 : decode prog_10_method_37_code 16 = .ok (.iload_n 1, 1) := by decide +kernel
theorem d_Mod_amount_17 : decode prog_10_method_37_code 17 = .ok (.laload, 1) := by decide +kernel
theorem d_Mod_amount_18 : decode prog_10_method_37_code 18 = .ok (.goto 6, 3) := by decide +kernel
theorem d_Mod_amount_21 : decode prog_10_method_37_code 21 = .ok (.ldc2_w 223, 3) := by decide +kernel
theorem d_Mod_amount_24 : decode prog_10_method_37_code 24 = .ok (.lreturn, 1) := by decide +kernel
theorem d_Mod_net_0 : decode prog_10_method_38_code 0 = .ok (.aload_n 0, 1) := by decide +kernel
theorem d_Mod_net_1 : decode prog_10_method_38_code 1 = .ok (.iload_n 1, 1) := by decide +kernel
theorem d_Mod_net_2 : decode prog_10_method_38_code 2 = .ok (.invokevirtual 170, 3) := by decide +kernel
theorem d_Mod_net_5 : decode prog_10_method_38_code 5 = .ok (.lreturn, 1) := by decide +kernel
theorem d_Mod_settled_0 : decode prog_10_method_39_code 0 = .ok (.aload_n 0, 1) := by decide +kernel
theorem d_Mod_settled_1 : decode prog_10_method_39_code 1 = .ok (.getfield 177, 3) := by decide +kernel
theorem d_Mod_settled_4 : decode prog_10_method_39_code 4 = .ok (.lreturn, 1) := by decide +kernel
