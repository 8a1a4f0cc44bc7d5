theorem tw6 : Cond.initialized "CardMessageDesk$Account" ∈ gt := gt_t (i := 6) (by decide +kernel) rfl
theorem tw16 : Cond.methodLink "CardMessageDesk" 1 ⟨"java/lang/Object", "<init>", "()V"⟩ ∈ gt := gt_t (i := 16) (by decide +kernel) rfl
theorem tw17 : Cond.instanceMethod ⟨"java/lang/Object", "<init>", "()V"⟩ ∈ gt := gt_t (i := 17) (by decide +kernel) rfl
theorem tw18 : Cond.code ⟨"java/lang/Object", "<init>", "()V"⟩ object_method_1_code 1 none ∈ gt := gt_t (i := 18) (by decide +kernel) rfl
theorem tw19 : Cond.classLink "CardMessageDesk" 7 "CardMessageDesk$ByteRow" ∈ gt := gt_t (i := 19) (by decide +kernel) rfl
theorem tw20 : Cond.instantiable "CardMessageDesk$ByteRow" 2 ∈ gt := gt_t (i := 20) (by decide +kernel) rfl
theorem tw21 : Cond.methodLink "CardMessageDesk" 11 ⟨"CardMessageDesk$ByteRow", "<init>", "(I)V"⟩ ∈ gt := gt_t (i := 21) (by decide +kernel) rfl
theorem tw22 : Cond.instanceMethod ⟨"CardMessageDesk$ByteRow", "<init>", "(I)V"⟩ ∈ gt := gt_t (i := 22) (by decide +kernel) rfl
theorem tw23 : Cond.code ⟨"CardMessageDesk$ByteRow", "<init>", "(I)V"⟩ prog_3_method_1_code 2 none ∈ gt := gt_t (i := 23) (by decide +kernel) rfl
theorem tw24 : Cond.methodLink "CardMessageDesk$ByteRow" 3 ⟨"java/lang/Object", "<init>", "()V"⟩ ∈ gt := gt_t (i := 24) (by decide +kernel) rfl
theorem tw34 : Cond.arrayClass .int ∈ gt := gt_t (i := 34) (by decide +kernel) rfl
theorem tw35 : Cond.classLink "CardMessageDesk" 21 "CardMessageDesk$Request" ∈ gt := gt_t (i := 35) (by decide +kernel) rfl
theorem tw36 : Cond.instantiable "CardMessageDesk$Request" 10 ∈ gt := gt_t (i := 36) (by decide +kernel) rfl
theorem tw37 : Cond.methodLink "CardMessageDesk" 23 ⟨"CardMessageDesk$Request", "<init>", "(LCardMessageDesk$ByteRow;)V"⟩ ∈ gt := gt_t (i := 37) (by decide +kernel) rfl
theorem tw38 : Cond.instanceMethod ⟨"CardMessageDesk$Request", "<init>", "(LCardMessageDesk$ByteRow;)V"⟩ ∈ gt := gt_t (i := 38) (by decide +kernel) rfl
theorem tw39 : Cond.code ⟨"CardMessageDesk$Request", "<init>", "(LCardMessageDesk$ByteRow;)V"⟩ prog_8_method_1_code 2 none ∈ gt := gt_t (i := 39) (by decide +kernel) rfl
theorem tw40 : Cond.methodLink "CardMessageDesk$Request" 5 ⟨"java/lang/Object", "<init>", "()V"⟩ ∈ gt := gt_t (i := 40) (by decide +kernel) rfl
theorem tw41 : Cond.classLink "CardMessageDesk$Request" 11 "CardMessageDesk$Reader" ∈ gt := gt_t (i := 41) (by decide +kernel) rfl
theorem tw42 : Cond.instantiable "CardMessageDesk$Reader" 3 ∈ gt := gt_t (i := 42) (by decide +kernel) rfl
theorem tw43 : Cond.methodLink "CardMessageDesk$Request" 13 ⟨"CardMessageDesk$Reader", "<init>", "(LCardMessageDesk$ByteRow;)V"⟩ ∈ gt := gt_t (i := 43) (by decide +kernel) rfl
theorem tw44 : Cond.instanceMethod ⟨"CardMessageDesk$Reader", "<init>", "(LCardMessageDesk$ByteRow;)V"⟩ ∈ gt := gt_t (i := 44) (by decide +kernel) rfl
theorem tw45 : Cond.code ⟨"CardMessageDesk$Reader", "<init>", "(LCardMessageDesk$ByteRow;)V"⟩ prog_7_method_1_code 2 none ∈ gt := gt_t (i := 45) (by decide +kernel) rfl
theorem tw46 : Cond.methodLink "CardMessageDesk$Reader" 3 ⟨"java/lang/Object", "<init>", "()V"⟩ ∈ gt := gt_t (i := 46) (by decide +kernel) rfl
theorem tw104 : Cond.classLink "CardMessageDesk" 30 "CardMessageDesk$Cards" ∈ gt := gt_t (i := 104) (by decide +kernel) rfl
theorem tw105 : Cond.instantiable "CardMessageDesk$Cards" 2 ∈ gt := gt_t (i := 105) (by decide +kernel) rfl
theorem tw106 : Cond.methodLink "CardMessageDesk" 32 ⟨"CardMessageDesk$Cards", "<init>", "()V"⟩ ∈ gt := gt_t (i := 106) (by decide +kernel) rfl
theorem tw107 : Cond.instanceMethod ⟨"CardMessageDesk$Cards", "<init>", "()V"⟩ ∈ gt := gt_t (i := 107) (by decide +kernel) rfl
theorem tw108 : Cond.code ⟨"CardMessageDesk$Cards", "<init>", "()V"⟩ prog_4_method_1_code 2 none ∈ gt := gt_t (i := 108) (by decide +kernel) rfl
theorem tw109 : Cond.methodLink "CardMessageDesk$Cards" 3 ⟨"java/lang/Object", "<init>", "()V"⟩ ∈ gt := gt_t (i := 109) (by decide +kernel) rfl
theorem tw110 : Cond.classLink "CardMessageDesk$Cards" 9 "CardMessageDesk$Account" ∈ gt := gt_t (i := 110) (by decide +kernel) rfl
theorem tw112 : Cond.instantiable "CardMessageDesk$Account" 2 ∈ gt := gt_t (i := 112) (by decide +kernel) rfl
theorem tw114 : Cond.instanceMethod ⟨"CardMessageDesk$Account", "<init>", "()V"⟩ ∈ gt := gt_t (i := 114) (by decide +kernel) rfl
theorem tw115 : Cond.code ⟨"CardMessageDesk$Account", "<init>", "()V"⟩ prog_2_method_1_code 1 none ∈ gt := gt_t (i := 115) (by decide +kernel) rfl
theorem tw116 : Cond.methodLink "CardMessageDesk$Account" 1 ⟨"java/lang/Object", "<init>", "()V"⟩ ∈ gt := gt_t (i := 116) (by decide +kernel) rfl
theorem tw134 : Cond.classLink "CardMessageDesk" 37 "CardMessageDesk$Journal" ∈ gt := gt_t (i := 134) (by decide +kernel) rfl
theorem tw135 : Cond.instantiable "CardMessageDesk$Journal" 3 ∈ gt := gt_t (i := 135) (by decide +kernel) rfl
theorem tw136 : Cond.methodLink "CardMessageDesk" 39 ⟨"CardMessageDesk$Journal", "<init>", "()V"⟩ ∈ gt := gt_t (i := 136) (by decide +kernel) rfl
theorem tw137 : Cond.instanceMethod ⟨"CardMessageDesk$Journal", "<init>", "()V"⟩ ∈ gt := gt_t (i := 137) (by decide +kernel) rfl
theorem tw138 : Cond.code ⟨"CardMessageDesk$Journal", "<init>", "()V"⟩ prog_6_method_1_code 2 none ∈ gt := gt_t (i := 138) (by decide +kernel) rfl
theorem tw139 : Cond.methodLink "CardMessageDesk$Journal" 3 ⟨"java/lang/Object", "<init>", "()V"⟩ ∈ gt := gt_t (i := 139) (by decide +kernel) rfl
theorem tw140 : Cond.classLink "CardMessageDesk$Journal" 9 "CardMessageDesk$Entry" ∈ gt := gt_t (i := 140) (by decide +kernel) rfl
theorem tw142 : Cond.instantiable "CardMessageDesk$Entry" 9 ∈ gt := gt_t (i := 142) (by decide +kernel) rfl
theorem tw144 : Cond.instanceMethod ⟨"CardMessageDesk$Entry", "<init>", "()V"⟩ ∈ gt := gt_t (i := 144) (by decide +kernel) rfl
theorem tw145 : Cond.code ⟨"CardMessageDesk$Entry", "<init>", "()V"⟩ prog_5_method_1_code 1 none ∈ gt := gt_t (i := 145) (by decide +kernel) rfl
theorem tw146 : Cond.methodLink "CardMessageDesk$Entry" 3 ⟨"java/lang/Object", "<init>", "()V"⟩ ∈ gt := gt_t (i := 146) (by decide +kernel) rfl
theorem tw499 : Cond.methodLink "CardMessageDeskModel" 1 ⟨"java/lang/Object", "<init>", "()V"⟩ ∈ gt := gt_t (i := 499) (by decide +kernel) rfl
theorem tw597 : Cond.arrayClass .long ∈ gt := gt_t (i := 597) (by decide +kernel) rfl
theorem tw598 : Cond.arrayClass .boolean ∈ gt := gt_t (i := 598) (by decide +kernel) rfl
theorem d_Acc_init_0 : decode prog_2_method_1_code 0 = .ok (.aload_n 0, 1) := by decide +kernel
theorem d_Acc_init_1 : decode prog_2_method_1_code 1 = .ok (.invokespecial 1, 3) := by decide +kernel
theorem d_Acc_init_4 : decode prog_2_method_1_code 4 = .ok (.return_, 1) := by decide +kernel
theorem d_Row_init_0 : decode prog_3_method_1_code 0 = .ok (.aload_n 0, 1) := by decide +kernel
theorem d_Row_init_1 : decode prog_3_method_1_code 1 = .ok (.invokespecial 3, 3) := by decide +kernel
theorem d_Row_init_4 : decode prog_3_method_1_code 4 = .ok (.aload_n 0, 1) := by decide +kernel
theorem d_Row_init_5 : decode prog_3_method_1_code 5 = .ok (.iload_n 1, 1) := by decide +kernel
theorem d_Row_init_6 : decode prog_3_method_1_code 6 = .ok (.newarray .int, 2) := by decide +kernel
theorem d_Row_init_8 : decode prog_3_method_1_code 8 = .ok (.putfield 9, 3) := by decide +kernel
theorem d_Row_init_11 : decode prog_3_method_1_code 11 = .ok (.aload_n 0, 1) := by decide +kernel
theorem d_Row_init_12 : decode prog_3_method_1_code 12 = .ok (.iconst 0, 1) := by decide +kernel
theorem d_Row_init_13 : decode prog_3_method_1_code 13 = .ok (.putfield 15, 3) := by decide +kernel
theorem d_Row_init_16 : decode prog_3_method_1_code 16 = .ok (.return_, 1) := by decide +kernel
theorem d_Crd_init_0 : decode prog_4_method_1_code 0 = .ok (.aload_n 0, 1) := by decide +kernel
theorem d_Crd_init_1 : decode prog_4_method_1_code 1 = .ok (.invokespecial 3, 3) := by decide +kernel
theorem d_Crd_init_4 : decode prog_4_method_1_code 4 = .ok (.aload_n 0, 1) := by decide +kernel
theorem d_Crd_init_5 : decode prog_4_method_1_code 5 = .ok (.bipush 6, 2) := by decide +kernel
theorem d_Crd_init_7 : decode prog_4_method_1_code 7 = .ok (.anewarray 9, 3) := by decide +kernel
theorem d_Crd_init_10 : decode prog_4_method_1_code 10 = .ok (.putfield 11, 3) := by decide +kernel
theorem d_Crd_init_13 : decode prog_4_method_1_code 13 = .ok (.iconst 0, 1) := by decide +kernel
theorem d_Crd_init_14 : decode prog_4_method_1_code 14 = .ok (.istore_n 1, 1) := by decide +kernel
theorem d_Crd_init_15 : decode prog_4_method_1_code 15 = .ok (.iload_n 1, 1) := by decide +kernel
theorem d_Crd_init_16 : decode prog_4_method_1_code 16 = .ok (.bipush 6, 2) := by decide +kernel
theorem d_Crd_init_18 : decode prog_4_method_1_code 18 = .ok (.if_icmp .ge 22, 3) := by decide +kernel
theorem d_Crd_init_21 : decode prog_4_method_1_code 21 = .ok (.aload_n 0, 1) := by decide +kernel
theorem d_Crd_init_22 : decode prog_4_method_1_code 22 = .ok (.getfield 11, 3) := by decide +kernel
theorem d_Crd_init_25 : decode prog_4_method_1_code 25 = .ok (.iload_n 1, 1) := by decide +kernel
theorem d_Crd_init_26 : decode prog_4_method_1_code 26 = .ok (.new 9, 3) := by decide +kernel
theorem d_Crd_init_29 : decode prog_4_method_1_code 29 = .ok (.dup, 1) := by decide +kernel
theorem d_Crd_init_30 : decode prog_4_method_1_code 30 = .ok (.invokespecial 17, 3) := by decide +kernel
theorem d_Crd_init_33 : decode prog_4_method_1_code 33 = .ok (.aastore, 1) := by decide +kernel
theorem d_Crd_init_34 : decode prog_4_method_1_code 34 = .ok (.iinc 1 1, 3) := by decide +kernel
theorem d_Crd_init_37 : decode prog_4_method_1_code 37 = .ok (.goto (-22), 3) := by decide +kernel
theorem d_Crd_init_40 : decode prog_4_method_1_code 40 = .ok (.aload_n 0, 1) := by decide +kernel
theorem d_Crd_init_41 : decode prog_4_method_1_code 41 = .ok (.iconst 0, 1) := by decide +kernel
theorem d_Crd_init_42 : decode prog_4_method_1_code 42 = .ok (.putfield 18, 3) := by decide +kernel
theorem d_Crd_init_45 : decode prog_4_method_1_code 45 = .ok (.return_, 1) := by decide +kernel
theorem d_Ent_init_0 : decode prog_5_method_1_code 0 = .ok (.aload_n 0, 1) := by decide +kernel
theorem d_Ent_init_1 : decode prog_5_method_1_code 1 = .ok (.invokespecial 3, 3) := by decide +kernel
theorem d_Ent_init_4 : decode prog_5_method_1_code 4 = .ok (.return_, 1) := by decide +kernel
theorem d_Jou_init_0 : decode prog_6_method_1_code 0 = .ok (.aload_n 0, 1) := by decide +kernel
theorem d_Jou_init_1 : decode prog_6_method_1_code 1 = .ok (.invokespecial 3, 3) := by decide +kernel
theorem d_Jou_init_4 : decode prog_6_method_1_code 4 = .ok (.aload_n 0, 1) := by decide +kernel
theorem d_Jou_init_5 : decode prog_6_method_1_code 5 = .ok (.bipush 32, 2) := by decide +kernel
theorem d_Jou_init_7 : decode prog_6_method_1_code 7 = .ok (.anewarray 9, 3) := by decide +kernel
theorem d_Jou_init_10 : decode prog_6_method_1_code 10 = .ok (.putfield 11, 3) := by decide +kernel
theorem d_Jou_init_13 : decode prog_6_method_1_code 13 = .ok (.iconst 0, 1) := by decide +kernel
theorem d_Jou_init_14 : decode prog_6_method_1_code 14 = .ok (.istore_n 1, 1) := by decide +kernel
theorem d_Jou_init_15 : decode prog_6_method_1_code 15 = .ok (.iload_n 1, 1) := by decide +kernel
theorem d_Jou_init_16 : decode prog_6_method_1_code 16 = .ok (.bipush 32, 2) := by decide +kernel
theorem d_Jou_init_18 : decode prog_6_method_1_code 18 = .ok (.if_icmp .ge 22, 3) := by decide +kernel
theorem d_Jou_init_21 : decode prog_6_method_1_code 21 = .ok (.aload_n 0, 1) := by decide +kernel
theorem d_Jou_init_22 : decode prog_6_method_1_code 22 = .ok (.getfield 11, 3) := by decide +kernel
theorem d_Jou_init_25 : decode prog_6_method_1_code 25 = .ok (.iload_n 1, 1) := by decide +kernel
theorem d_Jou_init_26 : decode prog_6_method_1_code 26 = .ok (.new 9, 3) := by decide +kernel
theorem d_Jou_init_29 : decode prog_6_method_1_code 29 = .ok (.dup, 1) := by decide +kernel
theorem d_Jou_init_30 : decode prog_6_method_1_code 30 = .ok (.invokespecial 17, 3) := by decide +kernel
theorem d_Jou_init_33 : decode prog_6_method_1_code 33 = .ok (.aastore, 1) := by decide +kernel
theorem d_Jou_init_34 : decode prog_6_method_1_code 34 = .ok (.iinc 1 1, 3) := by decide +kernel
theorem d_Jou_init_37 : decode prog_6_method_1_code 37 = .ok (.goto (-22), 3) := by decide +kernel
theorem d_Jou_init_40 : decode prog_6_method_1_code 40 = .ok (.aload_n 0, 1) := by decide +kernel
theorem d_Jou_init_41 : decode prog_6_method_1_code 41 = .ok (.iconst 0, 1) := by decide +kernel
theorem d_Jou_init_42 : decode prog_6_method_1_code 42 = .ok (.putfield 18, 3) := by decide +kernel
theorem d_Jou_init_45 : decode prog_6_method_1_code 45 = .ok (.aload_n 0, 1) := by decide +kernel
theorem d_Jou_init_46 : decode prog_6_method_1_code 46 = .ok (.lconst 0, 1) := by decide +kernel
theorem d_Jou_init_47 : decode prog_6_method_1_code 47 = .ok (.putfield 22, 3) := by decide +kernel
theorem d_Jou_init_50 : decode prog_6_method_1_code 50 = .ok (.return_, 1) := by decide +kernel
theorem d_Rdr_init_0 : decode prog_7_method_1_code 0 = .ok (.aload_n 0, 1) := by decide +kernel
theorem d_Rdr_init_1 : decode prog_7_method_1_code 1 = .ok (.invokespecial 3, 3) := by decide +kernel
theorem d_Rdr_init_4 : decode prog_7_method_1_code 4 = .ok (.aload_n 0, 1) := by decide +kernel
theorem d_Rdr_init_5 : decode prog_7_method_1_code 5 = .ok (.aload_n 1, 1) := by decide +kernel
theorem d_Rdr_init_6 : decode prog_7_method_1_code 6 = .ok (.putfield 9, 3) := by decide +kernel
theorem d_Rdr_init_9 : decode prog_7_method_1_code 9 = .ok (.aload_n 0, 1) := by decide +kernel
theorem d_Rdr_init_10 : decode prog_7_method_1_code 10 = .ok (.iconst 0, 1) := by decide +kernel
theorem d_Rdr_init_11 : decode prog_7_method_1_code 11 = .ok (.putfield 15, 3) := by decide +kernel
theorem d_Rdr_init_14 : decode prog_7_method_1_code 14 = .ok (.aload_n 0, 1) := by decide +kernel
theorem d_Rdr_init_15 : decode prog_7_method_1_code 15 = .ok (.iconst 1, 1) := by decide +kernel
theorem d_Rdr_init_16 : decode prog_7_method_1_code 16 = .ok (.putfield 19, 3) := by decide +kernel
theorem d_Rdr_init_19 : decode prog_7_method_1_code 19 = .ok (.return_, 1) := by decide +kernel
theorem d_Req_init_0 : decode prog_8_method_1_code 0 = .ok (.aload_n 0, 1) := by decide +kernel
theorem d_Req_init_1 : decode prog_8_method_1_code 1 = .ok (.invokespecial 5, 3) := by decide +kernel
theorem d_Req_init_4 : decode prog_8_method_1_code 4 = .ok (.aload_n 0, 1) := by decide +kernel
theorem d_Req_init_5 : decode prog_8_method_1_code 5 = .ok (.new 11, 3) := by decide +kernel
theorem d_Req_init_8 : decode prog_8_method_1_code 8 = .ok (.dup, 1) := by decide +kernel
theorem d_Req_init_9 : decode prog_8_method_1_code 9 = .ok (.aload_n 1, 1) := by decide +kernel
theorem d_Req_init_10 : decode prog_8_method_1_code 10 = .ok (.invokespecial 13, 3) := by decide +kernel
theorem d_Req_init_13 : decode prog_8_method_1_code 13 = .ok (.putfield 16, 3) := by decide +kernel
theorem d_Req_init_16 : decode prog_8_method_1_code 16 = .ok (.return_, 1) := by decide +kernel
theorem d_Dsk_init_0 : decode prog_1_method_1_code 0 = .ok (.aload_n 0, 1) := by decide +kernel
theorem d_Dsk_init_1 : decode prog_1_method_1_code 1 = .ok (.invokespecial 1, 3) := by decide +kernel
theorem d_Dsk_init_4 : decode prog_1_method_1_code 4 = .ok (.aload_n 0, 1) := by decide +kernel
theorem d_Dsk_init_5 : decode prog_1_method_1_code 5 = .ok (.new 7, 3) := by decide +kernel
theorem d_Dsk_init_8 : decode prog_1_method_1_code 8 = .ok (.dup, 1) := by decide +kernel
theorem d_Dsk_init_9 : decode prog_1_method_1_code 9 = .ok (.bipush 120, 2) := by decide +kernel
theorem d_Dsk_init_11 : decode prog_1_method_1_code 11 = .ok (.invokespecial 11, 3) := by decide +kernel
theorem d_Dsk_init_14 : decode prog_1_method_1_code 14 = .ok (.putfield 14, 3) := by decide +kernel
theorem d_Dsk_init_17 : decode prog_1_method_1_code 17 = .ok (.aload_n 0, 1) := by decide +kernel
theorem d_Dsk_init_18 : decode prog_1_method_1_code 18 = .ok (.new 7, 3) := by decide +kernel
theorem d_Dsk_init_21 : decode prog_1_method_1_code 21 = .ok (.dup, 1) := by decide +kernel
theorem d_Dsk_init_22 : decode prog_1_method_1_code 22 = .ok (.bipush 37, 2) := by decide +kernel
theorem d_Dsk_init_24 : decode prog_1_method_1_code 24 = .ok (.invokespecial 11, 3) := by decide +kernel
theorem d_Dsk_init_27 : decode prog_1_method_1_code 27 = .ok (.putfield 18, 3) := by decide +kernel
theorem d_Dsk_init_30 : decode prog_1_method_1_code 30 = .ok (.aload_n 0, 1) := by decide +kernel
theorem d_Dsk_init_31 : decode prog_1_method_1_code 31 = .ok (.new 21, 3) := by decide +kernel
theorem d_Dsk_init_34 : decode prog_1_method_1_code 34 = .ok (.dup, 1) := by decide +kernel
theorem d_Dsk_init_35 : decode prog_1_method_1_code 35 = .ok (.aload_n 0, 1) := by decide +kernel
theorem d_Dsk_init_36 : decode prog_1_method_1_code 36 = .ok (.getfield 14, 3) := by decide +kernel
theorem d_Dsk_init_39 : decode prog_1_method_1_code 39 = .ok (.invokespecial 23, 3) := by decide +kernel
theorem d_Dsk_init_42 : decode prog_1_method_1_code 42 = .ok (.putfield 26, 3) := by decide +kernel
theorem d_Dsk_init_45 : decode prog_1_method_1_code 45 = .ok (.aload_n 0, 1) := by decide +kernel
theorem d_Dsk_init_46 : decode prog_1_method_1_code 46 = .ok (.new 30, 3) := by decide +kernel
theorem d_Dsk_init_49 : decode prog_1_method_1_code 49 = .ok (.dup, 1) := by decide +kernel
theorem d_Dsk_init_50 : decode prog_1_method_1_code 50 = .ok (.invokespecial 32, 3) := by decide +kernel
theorem d_Dsk_init_53 : decode prog_1_method_1_code 53 = .ok (.putfield 33, 3) := by decide +kernel
theorem d_Dsk_init_56 : decode prog_1_method_1_code 56 = .ok (.aload_n 0, 1) := by decide +kernel
theorem d_Dsk_init_57 : decode prog_1_method_1_code 57 = .ok (.new 37, 3) := by decide +kernel
theorem d_Dsk_init_60 : decode prog_1_method_1_code 60 = .ok (.dup, 1) := by decide +kernel
theorem d_Dsk_init_61 : decode prog_1_method_1_code 61 = .ok (.invokespecial 39, 3) := by decide +kernel
theorem d_Dsk_init_64 : decode prog_1_method_1_code 64 = .ok (.putfield 40, 3) := by decide +kernel
theorem d_Dsk_init_67 : decode prog_1_method_1_code 67 = .ok (.aload_n 0, 1) := by decide +kernel
theorem d_Dsk_init_68 : decode prog_1_method_1_code 68 = .ok (.lconst 0, 1) := by decide +kernel
theorem d_Dsk_init_69 : decode prog_1_method_1_code 69 = .ok (.putfield 44, 3) := by decide +kernel
theorem d_Dsk_init_72 : decode prog_1_method_1_code 72 = .ok (.aload_n 0, 1) := by decide +kernel
theorem d_Dsk_init_73 : decode prog_1_method_1_code 73 = .ok (.lconst 0, 1) := by decide +kernel
theorem d_Dsk_init_74 : decode prog_1_method_1_code 74 = .ok (.putfield 48, 3) := by decide +kernel
theorem d_Dsk_init_77 : decode prog_1_method_1_code 77 = .ok (.return_, 1) := by decide +kernel
theorem d_Mod_init_0 : decode prog_10_method_1_code 0 = .ok (.aload_n 0, 1) := by decide +kernel
theorem d_Mod_init_1 : decode prog_10_method_1_code 1 = .ok (.invokespecial 1, 3) := by decide +kernel
theorem d_Mod_init_4 : decode prog_10_method_1_code 4 = .ok (.aload_n 0, 1) := by decide +kernel
theorem d_Mod_init_5 : decode prog_10_method_1_code 5 = .ok (.bipush 6, 2) := by decide +kernel
theorem d_Mod_init_7 : decode prog_10_method_1_code 7 = .ok (.newarray .long, 2) := by decide +kernel
theorem d_Mod_init_9 : decode prog_10_method_1_code 9 = .ok (.putfield 7, 3) := by decide +kernel
theorem d_Mod_init_12 : decode prog_10_method_1_code 12 = .ok (.aload_n 0, 1) := by decide +kernel
theorem d_Mod_init_13 : decode prog_10_method_1_code 13 = .ok (.bipush 6, 2) := by decide +kernel
theorem d_Mod_init_15 : decode prog_10_method_1_code 15 = .ok (.newarray .long, 2) := by decide +kernel
theorem d_Mod_init_17 : decode prog_10_method_1_code 17 = .ok (.putfield 13, 3) := by decide +kernel
theorem d_Mod_init_20 : decode prog_10_method_1_code 20 = .ok (.aload_n 0, 1) := by decide +kernel
theorem d_Mod_init_21 : decode prog_10_method_1_code 21 = .ok (.bipush 120, 2) := by decide +kernel
theorem d_Mod_init_23 : decode prog_10_method_1_code 23 = .ok (.newarray .int, 2) := by decide +kernel
theorem d_Mod_init_25 : decode prog_10_method_1_code 25 = .ok (.putfield 16, 3) := by decide +kernel
theorem d_Mod_init_28 : decode prog_10_method_1_code 28 = .ok (.aload_n 0, 1) := by decide +kernel
theorem d_Mod_init_29 : decode prog_10_method_1_code 29 = .ok (.bipush 80, 2) := by decide +kernel
theorem d_Mod_init_31 : decode prog_10_method_1_code 31 = .ok (.newarray .int, 2) := by decide +kernel
theorem d_Mod_init_33 : decode prog_10_method_1_code 33 = .ok (.putfield 20, 3) := by decide +kernel
theorem d_Mod_init_36 : decode prog_10_method_1_code 36 = .ok (.aload_n 0, 1) := by decide +kernel
theorem d_Mod_init_37 : decode prog_10_method_1_code 37 = .ok (.bipush 65, 2) := by decide +kernel
theorem d_Mod_init_39 : decode prog_10_method_1_code 39 = .ok (.newarray .boolean, 2) := by decide +kernel
theorem d_Mod_init_41 : decode prog_10_method_1_code 41 = .ok (.putfield 23, 3) := by decide +kernel
theorem d_Mod_init_44 : decode prog_10_method_1_code 44 = .ok (.aload_n 0, 1) := by decide +kernel
theorem d_Mod_init_45 : decode prog_10_method_1_code 45 = .ok (.bipush 65, 2) := by decide +kernel
theorem d_Mod_init_47 : decode prog_10_method_1_code 47 = .ok (.newarray .int, 2) := by decide +kernel
theorem d_Mod_init_49 : decode prog_10_method_1_code 49 = .ok (.putfield 27, 3) := by decide +kernel
theorem d_Mod_init_52 : decode prog_10_method_1_code 52 = .ok (.aload_n 0, 1) := by decide +kernel
theorem d_Mod_init_53 : decode prog_10_method_1_code 53 = .ok (.bipush 65, 2) := by decide +kernel
theorem d_Mod_init_55 : decode prog_10_method_1_code 55 = .ok (.newarray .int, 2) := by decide +kernel
theorem d_Mod_init_57 : decode prog_10_method_1_code 57 = .ok (.putfield 30, 3) := by decide +kernel
theorem d_Mod_init_60 : decode prog_10_method_1_code 60 = .ok (.aload_n 0, 1) := by decide +kernel
theorem d_Mod_init_61 : decode prog_10_method_1_code 61 = .ok (.bipush 40, 2) := by decide +kernel
theorem d_Mod_init_63 : decode prog_10_method_1_code 63 = .ok (.newarray .int, 2) := by decide +kernel
theorem d_Mod_init_65 : decode prog_10_method_1_code 65 = .ok (.putfield 33, 3) := by decide +kernel
theorem d_Mod_init_68 : decode prog_10_method_1_code 68 = .ok (.aload_n 0, 1) := by decide +kernel
theorem d_Mod_init_69 : decode prog_10_method_1_code 69 = .ok (.bipush 40, 2) := by decide +kernel
theorem d_Mod_init_71 : decode prog_10_method_1_code 71 = .ok (.newarray .int, 2) := by decide +kernel
theorem d_Mod_init_73 : decode prog_10_method_1_code 73 = .ok (.putfield 36, 3) := by decide +kernel
theorem d_Mod_init_76 : decode prog_10_method_1_code 76 = .ok (.aload_n 0, 1) := by decide +kernel
theorem d_Mod_init_77 : decode prog_10_method_1_code 77 = .ok (.bipush 40, 2) := by decide +kernel
theorem d_Mod_init_79 : decode prog_10_method_1_code 79 = .ok (.newarray .int, 2) := by decide +kernel
theorem d_Mod_init_81 : decode prog_10_method_1_code 81 = .ok (.putfield 39, 3) := by decide +kernel
theorem d_Mod_init_84 : decode prog_10_method_1_code 84 = .ok (.aload_n 0, 1) := by decide +kernel
theorem d_Mod_init_85 : decode prog_10_method_1_code 85 = .ok (.bipush 40, 2) := by decide +kernel
theorem d_Mod_init_87 : decode prog_10_method_1_code 87 = .ok (.newarray .long, 2) := by decide +kernel
theorem d_Mod_init_89 : decode prog_10_method_1_code 89 = .ok (.putfield 42, 3) := by decide +kernel
theorem d_Mod_init_92 : decode prog_10_method_1_code 92 = .ok (.aload_n 0, 1) := by decide +kernel
theorem d_Mod_init_93 : decode prog_10_method_1_code 93 = .ok (.bipush 40, 2) := by decide +kernel
theorem d_Mod_init_95 : decode prog_10_method_1_code 95 = .ok (.newarray .int, 2) := by decide +kernel
theorem d_Mod_init_97 : decode prog_10_method_1_code 97 = .ok (.putfield 45, 3) := by decide +kernel
theorem d_Mod_init_100 : decode prog_10_method_1_code 100 = .ok (.aload_n 0, 1) := by decide +kernel
theorem d_Mod_init_101 : decode prog_10_method_1_code 101 = .ok (.bipush 40, 2) := by decide +kernel
theorem d_Mod_init_103 : decode prog_10_method_1_code 103 = .ok (.newarray .long, 2) := by decide +kernel
theorem d_Mod_init_105 : decode prog_10_method_1_code 105 = .ok (.putfield 48, 3) := by decide +kernel
theorem d_Mod_init_108 : decode prog_10_method_1_code 108 = .ok (.aload_n 0, 1) := by decide +kernel
theorem d_Mod_init_109 : decode prog_10_method_1_code 109 = .ok (.bipush 40, 2) := by decide +kernel
theorem d_Mod_init_111 : decode prog_10_method_1_code 111 = .ok (.newarray .int, 2) := by decide +kernel
theorem d_Mod_init_113 : decode prog_10_method_1_code 113 = .ok (.putfield 51, 3) := by decide +kernel
theorem d_Mod_init_116 : decode prog_10_method_1_code 116 = .ok (.aload_n 0, 1) := by decide +kernel
theorem d_Mod_init_117 : decode prog_10_method_1_code 117 = .ok (.bipush 40, 2) := by decide +kernel
theorem d_Mod_init_119 : decode prog_10_method_1_code 119 = .ok (.newarray .int, 2) := by decide +kernel
theorem d_Mod_init_121 : decode prog_10_method_1_code 121 = .ok (.putfield 54, 3) := by decide +kernel
theorem d_Mod_init_124 : decode prog_10_method_1_code 124 = .ok (.aload_n 0, 1) := by decide +kernel
theorem d_Mod_init_125 : decode prog_10_method_1_code 125 = .ok (.bipush 40, 2) := by decide +kernel
theorem d_Mod_init_127 : decode prog_10_method_1_code 127 = .ok (.newarray .int, 2) := by decide +kernel
theorem d_Mod_init_129 : decode prog_10_method_1_code 129 = .ok (.putfield 57, 3) := by decide +kernel
theorem d_Mod_init_132 : decode prog_10_method_1_code 132 = .ok (.return_, 1) := by decide +kernel
/-! constructors: worlds that grow -/
def nx (U : State) : Prop := nw U ∧ va_AO "CardMessageDesk$Account" U ∧ va_AO "CardMessageDesk$Entry" U
theorem nx_warm {s U : State} (hW : s.WarmedH U.vm) (h : nx s) : nx U := ⟨nw_warm hW h.1, va_AO.moved hW.alike h.2.1, va_AO.moved hW.alike h.2.2⟩
abbrev iPre (dC : Nat → ClassId) (dI : Nat → Nat → Nat) (sz : Nat) (W0 : va_W) (U : State) : Prop := U.heap.size = sz ∧ va_P (dC, dI) vwCl W0 U.heap ∧ va_K (dC, dI) vwCl [] U ∧ va_D (fun _ => True) W0 ∧ nx U
abbrev iAt (dC : Nat → ClassId) (dI : Nat → Nat → Nat) (A : Nat → Prop) (W1 : va_W) (tys : List (ClassId × FieldType)) (t : State) : Prop := va_P (dC, dI) vwCl W1 t.heap ∧ va_K (dC, dI) vwCl tys t ∧ va_D A W1
theorem iBl {dC : Nat → ClassId} {dI : Nat → Nat → Nat} {sz : Nat} {W0 : va_W} {av : List Value} : FrameBlind (va_Pc av (iPre dC dI sz W0)) := fun a U g mk q => by
  obtain ⟨q0, q1, qP, qK, qD, qN⟩ := q
  exact ⟨q0, q1, qP, va_K.moved (u := U) (U := U.calling g mk a) (Vm.Alike.refl U.vm) qK, qD, nw_same (u := U) rfl qN.1, va_AO.moved (u := U) (U := U.calling g mk a) (Vm.Alike.refl U.vm) qN.2.1, va_AO.moved (u := U) (U := U.calling g mk a) (Vm.Alike.refl U.vm) qN.2.2⟩
theorem iPr {dC : Nat → ClassId} {dI : Nat → Nat → Nat} {W0 : va_W} {s U : State} {H : Heap} {A : Nat → Prop} {tys : List (ClassId × FieldType)} (hP : va_P (dC, dI) vwCl W0 H) (hK : va_K (dC, dI) vwCl tys s) (hD : va_D A W0) (hN : nx s) (hU : U.heap = H) (hW : s.WarmedH U.vm) : iPre dC dI H.size W0 U := ⟨by rw [hU], by rw [hU]; exact hP, va_K.moved hW.alike (hK.sub (tys' := []) [] rfl), hD.weaken (fun _ _ _ _ => trivial), nx_warm hW hN⟩
def ms0 : MS := (fun _ => 0, fun _ => 0, 0, 0, fun _ => 0, 0, fun _ => 0, 0, 0, 0, fun _ => 0, fun _ => 0, fun _ => 0, 0, 0, 0, 0, 0, 0, 0, 0, fun _ => 0, fun _ => 0, fun _ => 0, fun _ => 0, fun _ => 0, fun _ => 0, fun _ => 0, fun _ => 0, fun _ => 0, 0, 0)
set_option maxHeartbeats 4000000 in
set_option maxRecDepth 100000 in
theorem ci_Row (l : Launch) (dC : Nat → ClassId) (dI : Nat → Nat → Nat) (h0 sz : Nat) (N : Nat) (hN9 : N ≤ 1000) : Met l y_Row_init w_Row_init ({ frames := 1, cells := 1, slots := N, locals := 12 }) (va_Pc [.ref h0, .int (nI N)] (iPre dC dI sz [(h0, .inr (1, [.null, .int 0]))])) (va_Qv (fun _ : Nat × ClassId => True) (fun u t => iAt dC dI (va_A [(h0, .inr (1, [.null, .int 0]))] sz) ([(h0, .inr (1, [.ref u.1, .int 0])), (u.1, .inl (u.2, N, .inl (fun _ => 0)))]) [(u.2, .int)] t) (va_A [(h0, .inr (1, [.null, .int 0]))] sz)) 1 N (va_A [(h0, .inr (1, [.null, .int 0]))] sz) := by
  refine Met.ofW (cc := prog_3_method_1_code) (maxL := 2) (ret := none) (by decide) rfl ?_
  intro p e s m args below meth c s₁ B hml hv
  obtain ⟨rfl, hsz, hP, hK, hD0, hN⟩ := hv
  have hx := B.exec
  have hb := B.bytes
  have hr := B.returns
  have hts0 := atoms_spec (ws := w_Row_init) B.pre
  have hts : ∀ w ∈ gt, w.before _ s = true := fun w h => hts0 w (List.mem_cons_of_mem _ h)
  have hown : s.vm.findClass "CardMessageDesk$ByteRow" = some m.cls := findClass_of_methodNamed B.named
  have hlocks := B.notSynchronized
  have hin : meth.name = "<init>" := (name_of_methodNamed B.named B.method).1
  subst hsz
  have hD := hD0.self (sz := s.heap.size)
  generalize hAe : va_A [(h0, .inr (1, [.null, .int 0]))] s.heap.size = A at hD ⊢
  have hA : ∀ q : Nat, s.heap.size ≤ q → A q := fun q h => by rw [← hAe]; exact Or.inr h
  have hS : va_S A s.heap s.heap [] := va_S.rf
  have hl := lv_entry ([.ref h0, .int (nI N)]) (n := 2) (Nat.le_of_ble_eq_true rfl)
  rw [lg_entry_eq]
  generalize (lg_sl ([.ref h0, .int (nI N)]) ++ List.replicate (2 - (lg_sl ([.ref h0, .int (nI N)])).length) Slot.unset).toArray = ls at hl ⊢
  have hl : lv_has ls 2 [(0, .ref h0), (1, .int (nI N))] := hl
  refine lv_aload_n hx hb d_Row_init_0 rfl (lv_at hl 0 rfl) ?_
  refine W.objInit hx hb hown (hts _ tw24) (hts _ tw17) (hts _ tw18) rfl (by rw [hml]; exact hl.1) rfl d_Row_init_1 (Nat.le_of_ble_eq_true rfl) (Nat.le_of_ble_eq_true rfl) ?_
  refine W.eq (g2 := F0 m 4 ls []) rfl ?_
  refine lv_aload_n hx hb d_Row_init_4 rfl (lv_at hl 0 rfl) ?_
  refine lv_iload_n hx hb d_Row_init_5 rfl (lv_at hl 1 rfl) ?_
  refine va_newa (atype := .int) (ty := .int) (N' := N) (a0 := (N, .inl (fun _ => 0))) hx hb (hts _ tw34) rfl hK hP hD hS hA (fun _ => rfl) (nI_pos (by omega)) (nI_clamp (by omega)) (show N * 4 ≤ _ by omega) (Nat.le_refl _) (show 0 + N ≤ N by omega) d_Row_init_6 (fun q1 cA1 H hK hP hD hS => ?_)
  refine W.widen (k := 1) (n := N) (by decide) (by omega) ?_
  have hP : va_P (dC, dI) vwCl ([(h0, .inr (1, [.null, .int 0])), (q1, .inl (cA1, N, .inl (fun _ => 0)))]) H := hP
  have hD : va_D A ([(h0, .inr (1, [.null, .int 0])), (q1, .inl (cA1, N, .inl (fun _ => 0)))]) := hD
  have hK : va_K (dC, dI) vwCl [(cA1, .int)] s := hK
  refine va_putF (D := (dC, dI)) (ci := 1) (v := .ref q1) (ty := .array .int) (C := "CardMessageDesk$ByteRow") (T := T_Row) (N := 2) hx hb hts in_Row ty_Row ty_Row_ok nm_Row hown hK hP hD hS 0 rfl rfl 0 (by decide) (hts _ tw25) (fun _ h9 => h9) rfl hin rfl (by decide +kernel) rfl rfl (Nat.le_of_ble_eq_true rfl) d_Row_init_8 (fun H locs hP hD hS => ?_)
  have hP : va_P (dC, dI) vwCl ([(h0, .inr (1, [.ref q1, .int 0])), (q1, .inl (cA1, N, .inl (fun _ => 0)))]) H := hP
  have hD : va_D A ([(h0, .inr (1, [.ref q1, .int 0])), (q1, .inl (cA1, N, .inl (fun _ => 0)))]) := hD
  refine lv_aload_n hx hb d_Row_init_11 rfl (lv_at hl 0 rfl) ?_
  refine lv_iconst (v := 0) hx hb d_Row_init_12 (by decide) ?_
  refine va_put (D := (dC, dI)) (ci := 1) (v := .int 0) (ty := .int) (C := "CardMessageDesk$ByteRow") (T := T_Row) (N := 2) hx hb hts in_Row ty_Row ty_Row_ok nm_Row hown hK hP hD hS 0 rfl rfl 1 (by decide) (hts _ tw26) (fun _ h9 => h9) rfl (by decide +kernel) rfl rfl (Nat.le_of_ble_eq_true rfl) d_Row_init_13 (fun H locs hP hD hS => ?_)
  have hP : va_P (dC, dI) vwCl ([(h0, .inr (1, [.ref q1, .int 0])), (q1, .inl (cA1, N, .inl (fun _ => 0)))]) H := hP
  have hD : va_D A ([(h0, .inr (1, [.ref q1, .int 0])), (q1, .inl (cA1, N, .inl (fun _ => 0)))]) := hD
  exact W.vret hx hb hr (fun t ht hW => ⟨⟨(q1, cA1), rfl, trivial, by rw [ht]; exact hP, va_K.moved hW.alike hK, hD⟩, hS.F ht⟩) hS.2.2 d_Row_init_16
set_option maxHeartbeats 4000000 in
set_option maxRecDepth 100000 in
theorem ci_Rdr (l : Launch) (dC : Nat → ClassId) (dI : Nat → Nat → Nat) (h0 sz : Nat) (r0 : Nat) : Met l y_Rdr_init w_Rdr_init ({ frames := 1, cells := 0, slots := 0, locals := 12 }) (va_Pc [.ref h0, .ref r0] (iPre dC dI sz [(h0, .inr (5, [.null, .int 0, .int 0]))])) (va_Qv (fun _ : Unit => True) (fun u t => iAt dC dI (va_A [(h0, .inr (5, [.null, .int 0, .int 0]))] sz) ([(h0, .inr (5, [.ref r0, .int 0, .int 1]))]) [] t) (va_A [(h0, .inr (5, [.null, .int 0, .int 0]))] sz)) 0 0 (va_A [(h0, .inr (5, [.null, .int 0, .int 0]))] sz) := by
  refine Met.ofW (cc := prog_7_method_1_code) (maxL := 2) (ret := none) (by decide) rfl ?_
  intro p e s m args below meth c s₁ B hml hv
  obtain ⟨rfl, hsz, hP, hK, hD0, hN⟩ := hv
  have hx := B.exec
  have hb := B.bytes
  have hr := B.returns
  have hts0 := atoms_spec (ws := w_Rdr_init) B.pre
  have hts : ∀ w ∈ gt, w.before _ s = true := fun w h => hts0 w (List.mem_cons_of_mem _ h)
  have hown : s.vm.findClass "CardMessageDesk$Reader" = some m.cls := findClass_of_methodNamed B.named
  have hlocks := B.notSynchronized
  have hin : meth.name = "<init>" := (name_of_methodNamed B.named B.method).1
  subst hsz
  have hD := hD0.self (sz := s.heap.size)
  generalize hAe : va_A [(h0, .inr (5, [.null, .int 0, .int 0]))] s.heap.size = A at hD ⊢
  have hA : ∀ q : Nat, s.heap.size ≤ q → A q := fun q h => by rw [← hAe]; exact Or.inr h
  have hS : va_S A s.heap s.heap [] := va_S.rf
  have hl := lv_entry ([.ref h0, .ref r0]) (n := 2) (Nat.le_of_ble_eq_true rfl)
  rw [lg_entry_eq]
  generalize (lg_sl ([.ref h0, .ref r0]) ++ List.replicate (2 - (lg_sl ([.ref h0, .ref r0])).length) Slot.unset).toArray = ls at hl ⊢
  have hl : lv_has ls 2 [(0, .ref h0), (1, .ref r0)] := hl
  refine lv_aload_n hx hb d_Rdr_init_0 rfl (lv_at hl 0 rfl) ?_
  refine W.objInit hx hb hown (hts _ tw46) (hts _ tw17) (hts _ tw18) rfl (by rw [hml]; exact hl.1) rfl d_Rdr_init_1 (Nat.le_of_ble_eq_true rfl) (Nat.le_of_ble_eq_true rfl) ?_
  refine W.eq (g2 := F0 m 4 ls []) rfl ?_
  refine lv_aload_n hx hb d_Rdr_init_4 rfl (lv_at hl 0 rfl) ?_
  refine lv_aload_n hx hb d_Rdr_init_5 rfl (lv_at hl 1 rfl) ?_
  refine va_putF (D := (dC, dI)) (ci := 5) (v := .ref r0) (ty := .object "CardMessageDesk$ByteRow") (C := "CardMessageDesk$Reader") (T := T_Rdr) (N := 3) hx hb hts in_Rdr ty_Rdr ty_Rdr_ok nm_Rdr hown hK hP hD hS 0 rfl rfl 0 (by decide) (hts _ tw47) (fun _ h9 => h9) rfl hin rfl (by decide +kernel) rfl rfl (Nat.le_of_ble_eq_true rfl) d_Rdr_init_6 (fun H locs hP hD hS => ?_)
  have hP : va_P (dC, dI) vwCl ([(h0, .inr (5, [.ref r0, .int 0, .int 0]))]) H := hP
  have hD : va_D A ([(h0, .inr (5, [.ref r0, .int 0, .int 0]))]) := hD
  refine lv_aload_n hx hb d_Rdr_init_9 rfl (lv_at hl 0 rfl) ?_
  refine lv_iconst (v := 0) hx hb d_Rdr_init_10 (by decide) ?_
  refine va_put (D := (dC, dI)) (ci := 5) (v := .int 0) (ty := .int) (C := "CardMessageDesk$Reader") (T := T_Rdr) (N := 3) hx hb hts in_Rdr ty_Rdr ty_Rdr_ok nm_Rdr hown hK hP hD hS 0 rfl rfl 1 (by decide) (hts _ tw48) (fun _ h9 => h9) rfl (by decide +kernel) rfl rfl (Nat.le_of_ble_eq_true rfl) d_Rdr_init_11 (fun H locs hP hD hS => ?_)
  have hP : va_P (dC, dI) vwCl ([(h0, .inr (5, [.ref r0, .int 0, .int 0]))]) H := hP
  have hD : va_D A ([(h0, .inr (5, [.ref r0, .int 0, .int 0]))]) := hD
  refine lv_aload_n hx hb d_Rdr_init_14 rfl (lv_at hl 0 rfl) ?_
  refine lv_iconst (v := 1) hx hb d_Rdr_init_15 (by decide) ?_
  refine va_put (D := (dC, dI)) (ci := 5) (v := .int 1) (ty := .boolean) (C := "CardMessageDesk$Reader") (T := T_Rdr) (N := 3) hx hb hts in_Rdr ty_Rdr ty_Rdr_ok nm_Rdr hown hK hP hD hS 0 rfl rfl 2 (by decide) (hts _ tw50) (fun _ h9 => h9) rfl (by decide +kernel) rfl rfl (Nat.le_of_ble_eq_true rfl) d_Rdr_init_16 (fun H locs hP hD hS => ?_)
  have hP : va_P (dC, dI) vwCl ([(h0, .inr (5, [.ref r0, .int 0, .int 1]))]) H := hP
  have hD : va_D A ([(h0, .inr (5, [.ref r0, .int 0, .int 1]))]) := hD
  exact W.vret hx hb hr (fun t ht hW => ⟨⟨(), rfl, trivial, by rw [ht]; exact hP, va_K.moved hW.alike hK, hD⟩, hS.F ht⟩) hS.2.2 d_Rdr_init_19
set_option maxHeartbeats 4000000 in
set_option maxRecDepth 100000 in
theorem ci_Acc (l : Launch) (dC : Nat → ClassId) (dI : Nat → Nat → Nat) (h0 sz : Nat)  : Met l y_Acc_init w_Acc_init ({ frames := 1, cells := 0, slots := 0, locals := 12 }) (va_Pc [.ref h0] (iPre dC dI sz [(h0, .inr (0, [.long 0, .long 0]))])) (va_Qv (fun _ : Unit => True) (fun u t => iAt dC dI (va_A [(h0, .inr (0, [.long 0, .long 0]))] sz) ([(h0, .inr (0, [.long 0, .long 0]))]) [] t) (va_A [(h0, .inr (0, [.long 0, .long 0]))] sz)) 0 0 (va_A [(h0, .inr (0, [.long 0, .long 0]))] sz) := by
  refine Met.ofW (cc := prog_2_method_1_code) (maxL := 1) (ret := none) (by decide) rfl ?_
  intro p e s m args below meth c s₁ B hml hv
  obtain ⟨rfl, hsz, hP, hK, hD0, hN⟩ := hv
  have hx := B.exec
  have hb := B.bytes
  have hr := B.returns
  have hts0 := atoms_spec (ws := w_Acc_init) B.pre
  have hts : ∀ w ∈ gt, w.before _ s = true := fun w h => hts0 w (List.mem_cons_of_mem _ h)
  have hown : s.vm.findClass "CardMessageDesk$Account" = some m.cls := findClass_of_methodNamed B.named
  have hlocks := B.notSynchronized
  have hin : meth.name = "<init>" := (name_of_methodNamed B.named B.method).1
  subst hsz
  have hD := hD0.self (sz := s.heap.size)
  generalize hAe : va_A [(h0, .inr (0, [.long 0, .long 0]))] s.heap.size = A at hD ⊢
  have hA : ∀ q : Nat, s.heap.size ≤ q → A q := fun q h => by rw [← hAe]; exact Or.inr h
  have hS : va_S A s.heap s.heap [] := va_S.rf
  have hl := lv_entry ([.ref h0]) (n := 1) (Nat.le_of_ble_eq_true rfl)
  rw [lg_entry_eq]
  generalize (lg_sl ([.ref h0]) ++ List.replicate (1 - (lg_sl ([.ref h0])).length) Slot.unset).toArray = ls at hl ⊢
  have hl : lv_has ls 1 [(0, .ref h0)] := hl
  refine lv_aload_n hx hb d_Acc_init_0 rfl (lv_at hl 0 rfl) ?_
  refine W.objInit hx hb hown (hts _ tw116) (hts _ tw17) (hts _ tw18) rfl (by rw [hml]; exact hl.1) rfl d_Acc_init_1 (Nat.le_of_ble_eq_true rfl) (Nat.le_of_ble_eq_true rfl) ?_
  refine W.eq (g2 := F0 m 4 ls []) rfl ?_
  exact W.vret hx hb hr (fun t ht hW => ⟨⟨(), rfl, trivial, by rw [ht]; exact hP, va_K.moved hW.alike hK, hD⟩, hS.F ht⟩) hS.2.2 d_Acc_init_4
set_option maxHeartbeats 4000000 in
set_option maxRecDepth 100000 in
theorem ci_Ent (l : Launch) (dC : Nat → ClassId) (dI : Nat → Nat → Nat) (h0 sz : Nat)  : Met l y_Ent_init w_Ent_init ({ frames := 1, cells := 0, slots := 0, locals := 12 }) (va_Pc [.ref h0] (iPre dC dI sz [(h0, .inr (3, [.int 0, .int 0, .int 0, .long 0, .int 0, .long 0, .int 0, .int 0, .long 0]))])) (va_Qv (fun _ : Unit => True) (fun u t => iAt dC dI (va_A [(h0, .inr (3, [.int 0, .int 0, .int 0, .long 0, .int 0, .long 0, .int 0, .int 0, .long 0]))] sz) ([(h0, .inr (3, [.int 0, .int 0, .int 0, .long 0, .int 0, .long 0, .int 0, .int 0, .long 0]))]) [] t) (va_A [(h0, .inr (3, [.int 0, .int 0, .int 0, .long 0, .int 0, .long 0, .int 0, .int 0, .long 0]))] sz)) 0 0 (va_A [(h0, .inr (3, [.int 0, .int 0, .int 0, .long 0, .int 0, .long 0, .int 0, .int 0, .long 0]))] sz) := by
  refine Met.ofW (cc := prog_5_method_1_code) (maxL := 1) (ret := none) (by decide) rfl ?_
  intro p e s m args below meth c s₁ B hml hv
  obtain ⟨rfl, hsz, hP, hK, hD0, hN⟩ := hv
  have hx := B.exec
  have hb := B.bytes
  have hr := B.returns
  have hts0 := atoms_spec (ws := w_Ent_init) B.pre
  have hts : ∀ w ∈ gt, w.before _ s = true := fun w h => hts0 w (List.mem_cons_of_mem _ h)
  have hown : s.vm.findClass "CardMessageDesk$Entry" = some m.cls := findClass_of_methodNamed B.named
  have hlocks := B.notSynchronized
  have hin : meth.name = "<init>" := (name_of_methodNamed B.named B.method).1
  subst hsz
  have hD := hD0.self (sz := s.heap.size)
  generalize hAe : va_A [(h0, .inr (3, [.int 0, .int 0, .int 0, .long 0, .int 0, .long 0, .int 0, .int 0, .long 0]))] s.heap.size = A at hD ⊢
  have hA : ∀ q : Nat, s.heap.size ≤ q → A q := fun q h => by rw [← hAe]; exact Or.inr h
  have hS : va_S A s.heap s.heap [] := va_S.rf
  have hl := lv_entry ([.ref h0]) (n := 1) (Nat.le_of_ble_eq_true rfl)
  rw [lg_entry_eq]
  generalize (lg_sl ([.ref h0]) ++ List.replicate (1 - (lg_sl ([.ref h0])).length) Slot.unset).toArray = ls at hl ⊢
  have hl : lv_has ls 1 [(0, .ref h0)] := hl
  refine lv_aload_n hx hb d_Ent_init_0 rfl (lv_at hl 0 rfl) ?_
  refine W.objInit hx hb hown (hts _ tw146) (hts _ tw17) (hts _ tw18) rfl (by rw [hml]; exact hl.1) rfl d_Ent_init_1 (Nat.le_of_ble_eq_true rfl) (Nat.le_of_ble_eq_true rfl) ?_
  refine W.eq (g2 := F0 m 4 ls []) rfl ?_
  exact W.vret hx hb hr (fun t ht hW => ⟨⟨(), rfl, trivial, by rw [ht]; exact hP, va_K.moved hW.alike hK, hD⟩, hS.F ht⟩) hS.2.2 d_Ent_init_4
set_option maxHeartbeats 4000000 in
set_option maxRecDepth 100000 in
theorem ci_Mod (l : Launch) (dC : Nat → ClassId) (dI : Nat → Nat → Nat) (h0 sz : Nat)  : Met l y_Mod_init w_Mod_init ({ frames := 1, cells := 16, slots := 767, locals := 12 }) (va_Pc [.ref h0] (iPre dC dI sz [(h0, .inr (8, [.null, .null, .int 0, .int 0, .null, .int 0, .null, .int 0, .int 0, .long 0, .null, .null, .null, .int 0, .long 0, .int 0, .long 0, .int 0, .int 0, .int 0, .int 0, .null, .null, .null, .null, .null, .null, .null, .null, .null, .long 0, .long 0]))])) (va_Qv (fun _ : (Nat → Nat) × (Nat → ClassId) => True) (fun u t => u.1 0 = h0 ∧ iAt dC dI (va_A [(h0, .inr (8, [.null, .null, .int 0, .int 0, .null, .int 0, .null, .int 0, .int 0, .long 0, .null, .null, .null, .int 0, .long 0, .int 0, .long 0, .int 0, .int 0, .int 0, .int 0, .null, .null, .null, .null, .null, .null, .null, .null, .null, .long 0, .long 0]))] sz) (mw u.1 u.2 ms0) (mT u.2) t) (va_A [(h0, .inr (8, [.null, .null, .int 0, .int 0, .null, .int 0, .null, .int 0, .int 0, .long 0, .null, .null, .null, .int 0, .long 0, .int 0, .long 0, .int 0, .int 0, .int 0, .int 0, .null, .null, .null, .null, .null, .null, .null, .null, .null, .long 0, .long 0]))] sz)) 16 767 (va_A [(h0, .inr (8, [.null, .null, .int 0, .int 0, .null, .int 0, .null, .int 0, .int 0, .long 0, .null, .null, .null, .int 0, .long 0, .int 0, .long 0, .int 0, .int 0, .int 0, .int 0, .null, .null, .null, .null, .null, .null, .null, .null, .null, .long 0, .long 0]))] sz) := by
  refine Met.ofW (cc := prog_10_method_1_code) (maxL := 1) (ret := none) (by decide) rfl ?_
  intro p e s m args below meth c s₁ B hml hv
  obtain ⟨rfl, hsz, hP, hK, hD0, hN⟩ := hv
  have hx := B.exec
  have hb := B.bytes
  have hr := B.returns
  have hts0 := atoms_spec (ws := w_Mod_init) B.pre
  have hts : ∀ w ∈ gt, w.before _ s = true := fun w h => hts0 w (List.mem_cons_of_mem _ h)
  have hown : s.vm.findClass "CardMessageDeskModel" = some m.cls := findClass_of_methodNamed B.named
  have hlocks := B.notSynchronized
  have hin : meth.name = "<init>" := (name_of_methodNamed B.named B.method).1
  subst hsz
  have hD := hD0.self (sz := s.heap.size)
  generalize hAe : va_A [(h0, .inr (8, [.null, .null, .int 0, .int 0, .null, .int 0, .null, .int 0, .int 0, .long 0, .null, .null, .null, .int 0, .long 0, .int 0, .long 0, .int 0, .int 0, .int 0, .int 0, .null, .null, .null, .null, .null, .null, .null, .null, .null, .long 0, .long 0]))] s.heap.size = A at hD ⊢
  have hA : ∀ q : Nat, s.heap.size ≤ q → A q := fun q h => by rw [← hAe]; exact Or.inr h
  have hS : va_S A s.heap s.heap [] := va_S.rf
  have hl := lv_entry ([.ref h0]) (n := 1) (Nat.le_of_ble_eq_true rfl)
  rw [lg_entry_eq]
  generalize (lg_sl ([.ref h0]) ++ List.replicate (1 - (lg_sl ([.ref h0])).length) Slot.unset).toArray = ls at hl ⊢
  have hl : lv_has ls 1 [(0, .ref h0)] := hl
  refine lv_aload_n hx hb d_Mod_init_0 rfl (lv_at hl 0 rfl) ?_
  refine W.objInit hx hb hown (hts _ tw499) (hts _ tw17) (hts _ tw18) rfl (by rw [hml]; exact hl.1) rfl d_Mod_init_1 (Nat.le_of_ble_eq_true rfl) (Nat.le_of_ble_eq_true rfl) ?_
  refine W.eq (g2 := F0 m 4 ls []) rfl ?_
  refine lv_aload_n hx hb d_Mod_init_4 rfl (lv_at hl 0 rfl) ?_
  refine lv_bipush (v := 6) hx hb d_Mod_init_5 (by decide) ?_
  refine va_newa (atype := .long) (ty := .long) (N' := 6) (a0 := (6, .inr (.inl (fun _ => 0)))) hx hb (hts _ tw597) rfl hK hP hD hS hA (fun _ => rfl) (by decide) rfl (by decide) (by decide) (by decide) d_Mod_init_7 (fun q1 cA1 H hK hP hD hS => ?_)
  refine W.widen (k := 1) (n := 6) (by decide) (by decide) ?_
  have hP : va_P (dC, dI) vwCl ([(h0, .inr (8, [.null, .null, .int 0, .int 0, .null, .int 0, .null, .int 0, .int 0, .long 0, .null, .null, .null, .int 0, .long 0, .int 0, .long 0, .int 0, .int 0, .int 0, .int 0, .null, .null, .null, .null, .null, .null, .null, .null, .null, .long 0, .long 0])), (q1, .inl (cA1, 6, .inr (.inl (fun _ => 0))))]) H := hP
  have hD : va_D A ([(h0, .inr (8, [.null, .null, .int 0, .int 0, .null, .int 0, .null, .int 0, .int 0, .long 0, .null, .null, .null, .int 0, .long 0, .int 0, .long 0, .int 0, .int 0, .int 0, .int 0, .null, .null, .null, .null, .null, .null, .null, .null, .null, .long 0, .long 0])), (q1, .inl (cA1, 6, .inr (.inl (fun _ => 0))))]) := hD
  have hK : va_K (dC, dI) vwCl [(cA1, .long)] s := hK
  refine va_putF (D := (dC, dI)) (ci := 8) (v := .ref q1) (ty := .array .long) (C := "CardMessageDeskModel") (T := T_Mod) (N := 32) hx hb hts in_Mod ty_Mod ty_Mod_ok nm_Mod hown hK hP hD hS 0 rfl rfl 0 (by decide) (hts _ tw500) (fun _ h9 => h9) rfl hin rfl (by decide +kernel) rfl rfl (Nat.le_of_ble_eq_true rfl) d_Mod_init_9 (fun H locs hP hD hS => ?_)
  have hP : va_P (dC, dI) vwCl ([(h0, .inr (8, [.ref q1, .null, .int 0, .int 0, .null, .int 0, .null, .int 0, .int 0, .long 0, .null, .null, .null, .int 0, .long 0, .int 0, .long 0, .int 0, .int 0, .int 0, .int 0, .null, .null, .null, .null, .null, .null, .null, .null, .null, .long 0, .long 0])), (q1, .inl (cA1, 6, .inr (.inl (fun _ => 0))))]) H := hP
  have hD : va_D A ([(h0, .inr (8, [.ref q1, .null, .int 0, .int 0, .null, .int 0, .null, .int 0, .int 0, .long 0, .null, .null, .null, .int 0, .long 0, .int 0, .long 0, .int 0, .int 0, .int 0, .int 0, .null, .null, .null, .null, .null, .null, .null, .null, .null, .long 0, .long 0])), (q1, .inl (cA1, 6, .inr (.inl (fun _ => 0))))]) := hD
  refine lv_aload_n hx hb d_Mod_init_12 rfl (lv_at hl 0 rfl) ?_
  refine lv_bipush (v := 6) hx hb d_Mod_init_13 (by decide) ?_
  refine va_newa (atype := .long) (ty := .long) (N' := 6) (a0 := (6, .inr (.inl (fun _ => 0)))) hx hb (hts _ tw597) rfl hK hP hD hS hA (fun _ => rfl) (by decide) rfl (by decide) (by decide) (by decide) d_Mod_init_15 (fun q2 cA2 H hK hP hD hS => ?_)
  refine W.widen (k := 2) (n := 12) (by decide) (by decide) ?_
  have hP : va_P (dC, dI) vwCl ([(h0, .inr (8, [.ref q1, .null, .int 0, .int 0, .null, .int 0, .null, .int 0, .int 0, .long 0, .null, .null, .null, .int 0, .long 0, .int 0, .long 0, .int 0, .int 0, .int 0, .int 0, .null, .null, .null, .null, .null, .null, .null, .null, .null, .long 0, .long 0])), (q1, .inl (cA1, 6, .inr (.inl (fun _ => 0)))), (q2, .inl (cA2, 6, .inr (.inl (fun _ => 0))))]) H := hP
  have hD : va_D A ([(h0, .inr (8, [.ref q1, .null, .int 0, .int 0, .null, .int 0, .null, .int 0, .int 0, .long 0, .null, .null, .null, .int 0, .long 0, .int 0, .long 0, .int 0, .int 0, .int 0, .int 0, .null, .null, .null, .null, .null, .null, .null, .null, .null, .long 0, .long 0])), (q1, .inl (cA1, 6, .inr (.inl (fun _ => 0)))), (q2, .inl (cA2, 6, .inr (.inl (fun _ => 0))))]) := hD
  have hK : va_K (dC, dI) vwCl [(cA1, .long), (cA2, .long)] s := hK
  refine va_putF (D := (dC, dI)) (ci := 8) (v := .ref q2) (ty := .array .long) (C := "CardMessageDeskModel") (T := T_Mod) (N := 32) hx hb hts in_Mod ty_Mod ty_Mod_ok nm_Mod hown hK hP hD hS 0 rfl rfl 1 (by decide) (hts _ tw501) (fun _ h9 => h9) rfl hin rfl (by decide +kernel) rfl rfl (Nat.le_of_ble_eq_true rfl) d_Mod_init_17 (fun H locs hP hD hS => ?_)
  have hP : va_P (dC, dI) vwCl ([(h0, .inr (8, [.ref q1, .ref q2, .int 0, .int 0, .null, .int 0, .null, .int 0, .int 0, .long 0, .null, .null, .null, .int 0, .long 0, .int 0, .long 0, .int 0, .int 0, .int 0, .int 0, .null, .null, .null, .null, .null, .null, .null, .null, .null, .long 0, .long 0])), (q1, .inl (cA1, 6, .inr (.inl (fun _ => 0)))), (q2, .inl (cA2, 6, .inr (.inl (fun _ => 0))))]) H := hP
  have hD : va_D A ([(h0, .inr (8, [.ref q1, .ref q2, .int 0, .int 0, .null, .int 0, .null, .int 0, .int 0, .long 0, .null, .null, .null, .int 0, .long 0, .int 0, .long 0, .int 0, .int 0, .int 0, .int 0, .null, .null, .null, .null, .null, .null, .null, .null, .null, .long 0, .long 0])), (q1, .inl (cA1, 6, .inr (.inl (fun _ => 0)))), (q2, .inl (cA2, 6, .inr (.inl (fun _ => 0))))]) := hD
  refine lv_aload_n hx hb d_Mod_init_20 rfl (lv_at hl 0 rfl) ?_
  refine lv_bipush (v := 120) hx hb d_Mod_init_21 (by decide) ?_
  refine va_newa (atype := .int) (ty := .int) (N' := 120) (a0 := (120, .inl (fun _ => 0))) hx hb (hts _ tw34) rfl hK hP hD hS hA (fun _ => rfl) (by decide) rfl (by decide) (by decide) (by decide) d_Mod_init_23 (fun q3 cA3 H hK hP hD hS => ?_)
  refine W.widen (k := 3) (n := 132) (by decide) (by decide) ?_
  have hP : va_P (dC, dI) vwCl ([(h0, .inr (8, [.ref q1, .ref q2, .int 0, .int 0, .null, .int 0, .null, .int 0, .int 0, .long 0, .null, .null, .null, .int 0, .long 0, .int 0, .long 0, .int 0, .int 0, .int 0, .int 0, .null, .null, .null, .null, .null, .null, .null, .null, .null, .long 0, .long 0])), (q1, .inl (cA1, 6, .inr (.inl (fun _ => 0)))), (q2, .inl (cA2, 6, .inr (.inl (fun _ => 0)))), (q3, .inl (cA3, 120, .inl (fun _ => 0)))]) H := hP
  have hD : va_D A ([(h0, .inr (8, [.ref q1, .ref q2, .int 0, .int 0, .null, .int 0, .null, .int 0, .int 0, .long 0, .null, .null, .null, .int 0, .long 0, .int 0, .long 0, .int 0, .int 0, .int 0, .int 0, .null, .null, .null, .null, .null, .null, .null, .null, .null, .long 0, .long 0])), (q1, .inl (cA1, 6, .inr (.inl (fun _ => 0)))), (q2, .inl (cA2, 6, .inr (.inl (fun _ => 0)))), (q3, .inl (cA3, 120, .inl (fun _ => 0)))]) := hD
  have hK : va_K (dC, dI) vwCl [(cA1, .long), (cA2, .long), (cA3, .int)] s := hK
  refine va_putF (D := (dC, dI)) (ci := 8) (v := .ref q3) (ty := .array .int) (C := "CardMessageDeskModel") (T := T_Mod) (N := 32) hx hb hts in_Mod ty_Mod ty_Mod_ok nm_Mod hown hK hP hD hS 0 rfl rfl 4 (by decide) (hts _ tw504) (fun _ h9 => h9) rfl hin rfl (by decide +kernel) rfl rfl (Nat.le_of_ble_eq_true rfl) d_Mod_init_25 (fun H locs hP hD hS => ?_)
  have hP : va_P (dC, dI) vwCl ([(h0, .inr (8, [.ref q1, .ref q2, .int 0, .int 0, .ref q3, .int 0, .null, .int 0, .int 0, .long 0, .null, .null, .null, .int 0, .long 0, .int 0, .long 0, .int 0, .int 0, .int 0, .int 0, .null, .null, .null, .null, .null, .null, .null, .null, .null, .long 0, .long 0])), (q1, .inl (cA1, 6, .inr (.inl (fun _ => 0)))), (q2, .inl (cA2, 6, .inr (.inl (fun _ => 0)))), (q3, .inl (cA3, 120, .inl (fun _ => 0)))]) H := hP
  have hD : va_D A ([(h0, .inr (8, [.ref q1, .ref q2, .int 0, .int 0, .ref q3, .int 0, .null, .int 0, .int 0, .long 0, .null, .null, .null, .int 0, .long 0, .int 0, .long 0, .int 0, .int 0, .int 0, .int 0, .null, .null, .null, .null, .null, .null, .null, .null, .null, .long 0, .long 0])), (q1, .inl (cA1, 6, .inr (.inl (fun _ => 0)))), (q2, .inl (cA2, 6, .inr (.inl (fun _ => 0)))), (q3, .inl (cA3, 120, .inl (fun _ => 0)))]) := hD
  refine lv_aload_n hx hb d_Mod_init_28 rfl (lv_at hl 0 rfl) ?_
  refine lv_bipush (v := 80) hx hb d_Mod_init_29 (by decide) ?_
  refine va_newa (atype := .int) (ty := .int) (N' := 80) (a0 := (80, .inl (fun _ => 0))) hx hb (hts _ tw34) rfl hK hP hD hS hA (fun _ => rfl) (by decide) rfl (by decide) (by decide) (by decide) d_Mod_init_31 (fun q4 cA4 H hK hP hD hS => ?_)
  refine W.widen (k := 4) (n := 212) (by decide) (by decide) ?_
  have hP : va_P (dC, dI) vwCl ([(h0, .inr (8, [.ref q1, .ref q2, .int 0, .int 0, .ref q3, .int 0, .null, .int 0, .int 0, .long 0, .null, .null, .null, .int 0, .long 0, .int 0, .long 0, .int 0, .int 0, .int 0, .int 0, .null, .null, .null, .null, .null, .null, .null, .null, .null, .long 0, .long 0])), (q1, .inl (cA1, 6, .inr (.inl (fun _ => 0)))), (q2, .inl (cA2, 6, .inr (.inl (fun _ => 0)))), (q3, .inl (cA3, 120, .inl (fun _ => 0))), (q4, .inl (cA4, 80, .inl (fun _ => 0)))]) H := hP
  have hD : va_D A ([(h0, .inr (8, [.ref q1, .ref q2, .int 0, .int 0, .ref q3, .int 0, .null, .int 0, .int 0, .long 0, .null, .null, .null, .int 0, .long 0, .int 0, .long 0, .int 0, .int 0, .int 0, .int 0, .null, .null, .null, .null, .null, .null, .null, .null, .null, .long 0, .long 0])), (q1, .inl (cA1, 6, .inr (.inl (fun _ => 0)))), (q2, .inl (cA2, 6, .inr (.inl (fun _ => 0)))), (q3, .inl (cA3, 120, .inl (fun _ => 0))), (q4, .inl (cA4, 80, .inl (fun _ => 0)))]) := hD
  have hK : va_K (dC, dI) vwCl [(cA1, .long), (cA2, .long), (cA3, .int), (cA4, .int)] s := hK
  refine va_putF (D := (dC, dI)) (ci := 8) (v := .ref q4) (ty := .array .int) (C := "CardMessageDeskModel") (T := T_Mod) (N := 32) hx hb hts in_Mod ty_Mod ty_Mod_ok nm_Mod hown hK hP hD hS 0 rfl rfl 6 (by decide) (hts _ tw506) (fun _ h9 => h9) rfl hin rfl (by decide +kernel) rfl rfl (Nat.le_of_ble_eq_true rfl) d_Mod_init_33 (fun H locs hP hD hS => ?_)
  have hP : va_P (dC, dI) vwCl ([(h0, .inr (8, [.ref q1, .ref q2, .int 0, .int 0, .ref q3, .int 0, .ref q4, .int 0, .int 0, .long 0, .null, .null, .null, .int 0, .long 0, .int 0, .long 0, .int 0, .int 0, .int 0, .int 0, .null, .null, .null, .null, .null, .null, .null, .null, .null, .long 0, .long 0])), (q1, .inl (cA1, 6, .inr (.inl (fun _ => 0)))), (q2, .inl (cA2, 6, .inr (.inl (fun _ => 0)))), (q3, .inl (cA3, 120, .inl (fun _ => 0))), (q4, .inl (cA4, 80, .inl (fun _ => 0)))]) H := hP
  have hD : va_D A ([(h0, .inr (8, [.ref q1, .ref q2, .int 0, .int 0, .ref q3, .int 0, .ref q4, .int 0, .int 0, .long 0, .null, .null, .null, .int 0, .long 0, .int 0, .long 0, .int 0, .int 0, .int 0, .int 0, .null, .null, .null, .null, .null, .null, .null, .null, .null, .long 0, .long 0])), (q1, .inl (cA1, 6, .inr (.inl (fun _ => 0)))), (q2, .inl (cA2, 6, .inr (.inl (fun _ => 0)))), (q3, .inl (cA3, 120, .inl (fun _ => 0))), (q4, .inl (cA4, 80, .inl (fun _ => 0)))]) := hD
  refine lv_aload_n hx hb d_Mod_init_36 rfl (lv_at hl 0 rfl) ?_
  refine lv_bipush (v := 65) hx hb d_Mod_init_37 (by decide) ?_
  refine va_newa (atype := .boolean) (ty := .boolean) (N' := 65) (a0 := (65, .inl (fun _ => 0))) hx hb (hts _ tw598) rfl hK hP hD hS hA (fun _ => rfl) (by decide) rfl (by decide) (by decide) (by decide) d_Mod_init_39 (fun q5 cA5 H hK hP hD hS => ?_)
  refine W.widen (k := 5) (n := 277) (by decide) (by decide) ?_
  have hP : va_P (dC, dI) vwCl ([(h0, .inr (8, [.ref q1, .ref q2, .int 0, .int 0, .ref q3, .int 0, .ref q4, .int 0, .int 0, .long 0, .null, .null, .null, .int 0, .long 0, .int 0, .long 0, .int 0, .int 0, .int 0, .int 0, .null, .null, .null, .null, .null, .null, .null, .null, .null, .long 0, .long 0])), (q1, .inl (cA1, 6, .inr (.inl (fun _ => 0)))), (q2, .inl (cA2, 6, .inr (.inl (fun _ => 0)))), (q3, .inl (cA3, 120, .inl (fun _ => 0))), (q4, .inl (cA4, 80, .inl (fun _ => 0))), (q5, .inl (cA5, 65, .inl (fun _ => 0)))]) H := hP
  have hD : va_D A ([(h0, .inr (8, [.ref q1, .ref q2, .int 0, .int 0, .ref q3, .int 0, .ref q4, .int 0, .int 0, .long 0, .null, .null, .null, .int 0, .long 0, .int 0, .long 0, .int 0, .int 0, .int 0, .int 0, .null, .null, .null, .null, .null, .null, .null, .null, .null, .long 0, .long 0])), (q1, .inl (cA1, 6, .inr (.inl (fun _ => 0)))), (q2, .inl (cA2, 6, .inr (.inl (fun _ => 0)))), (q3, .inl (cA3, 120, .inl (fun _ => 0))), (q4, .inl (cA4, 80, .inl (fun _ => 0))), (q5, .inl (cA5, 65, .inl (fun _ => 0)))]) := hD
  have hK : va_K (dC, dI) vwCl [(cA1, .long), (cA2, .long), (cA3, .int), (cA4, .int), (cA5, .boolean)] s := hK
  refine va_putF (D := (dC, dI)) (ci := 8) (v := .ref q5) (ty := .array .boolean) (C := "CardMessageDeskModel") (T := T_Mod) (N := 32) hx hb hts in_Mod ty_Mod ty_Mod_ok nm_Mod hown hK hP hD hS 0 rfl rfl 10 (by decide) (hts _ tw510) (fun _ h9 => h9) rfl hin rfl (by decide +kernel) rfl rfl (Nat.le_of_ble_eq_true rfl) d_Mod_init_41 (fun H locs hP hD hS => ?_)
  have hP : va_P (dC, dI) vwCl ([(h0, .inr (8, [.ref q1, .ref q2, .int 0, .int 0, .ref q3, .int 0, .ref q4, .int 0, .int 0, .long 0, .ref q5, .null, .null, .int 0, .long 0, .int 0, .long 0, .int 0, .int 0, .int 0, .int 0, .null, .null, .null, .null, .null, .null, .null, .null, .null, .long 0, .long 0])), (q1, .inl (cA1, 6, .inr (.inl (fun _ => 0)))), (q2, .inl (cA2, 6, .inr (.inl (fun _ => 0)))), (q3, .inl (cA3, 120, .inl (fun _ => 0))), (q4, .inl (cA4, 80, .inl (fun _ => 0))), (q5, .inl (cA5, 65, .inl (fun _ => 0)))]) H := hP
  have hD : va_D A ([(h0, .inr (8, [.ref q1, .ref q2, .int 0, .int 0, .ref q3, .int 0, .ref q4, .int 0, .int 0, .long 0, .ref q5, .null, .null, .int 0, .long 0, .int 0, .long 0, .int 0, .int 0, .int 0, .int 0, .null, .null, .null, .null, .null, .null, .null, .null, .null, .long 0, .long 0])), (q1, .inl (cA1, 6, .inr (.inl (fun _ => 0)))), (q2, .inl (cA2, 6, .inr (.inl (fun _ => 0)))), (q3, .inl (cA3, 120, .inl (fun _ => 0))), (q4, .inl (cA4, 80, .inl (fun _ => 0))), (q5, .inl (cA5, 65, .inl (fun _ => 0)))]) := hD
  refine lv_aload_n hx hb d_Mod_init_44 rfl (lv_at hl 0 rfl) ?_
  refine lv_bipush (v := 65) hx hb d_Mod_init_45 (by decide) ?_
  refine va_newa (atype := .int) (ty := .int) (N' := 65) (a0 := (65, .inl (fun _ => 0))) hx hb (hts _ tw34) rfl hK hP hD hS hA (fun _ => rfl) (by decide) rfl (by decide) (by decide) (by decide) d_Mod_init_47 (fun q6 cA6 H hK hP hD hS => ?_)
  refine W.widen (k := 6) (n := 342) (by decide) (by decide) ?_
  have hP : va_P (dC, dI) vwCl ([(h0, .inr (8, [.ref q1, .ref q2, .int 0, .int 0, .ref q3, .int 0, .ref q4, .int 0, .int 0, .long 0, .ref q5, .null, .null, .int 0, .long 0, .int 0, .long 0, .int 0, .int 0, .int 0, .int 0, .null, .null, .null, .null, .null, .null, .null, .null, .null, .long 0, .long 0])), (q1, .inl (cA1, 6, .inr (.inl (fun _ => 0)))), (q2, .inl (cA2, 6, .inr (.inl (fun _ => 0)))), (q3, .inl (cA3, 120, .inl (fun _ => 0))), (q4, .inl (cA4, 80, .inl (fun _ => 0))), (q5, .inl (cA5, 65, .inl (fun _ => 0))), (q6, .inl (cA6, 65, .inl (fun _ => 0)))]) H := hP
  have hD : va_D A ([(h0, .inr (8, [.ref q1, .ref q2, .int 0, .int 0, .ref q3, .int 0, .ref q4, .int 0, .int 0, .long 0, .ref q5, .null, .null, .int 0, .long 0, .int 0, .long 0, .int 0, .int 0, .int 0, .int 0, .null, .null, .null, .null, .null, .null, .null, .null, .null, .long 0, .long 0])), (q1, .inl (cA1, 6, .inr (.inl (fun _ => 0)))), (q2, .inl (cA2, 6, .inr (.inl (fun _ => 0)))), (q3, .inl (cA3, 120, .inl (fun _ => 0))), (q4, .inl (cA4, 80, .inl (fun _ => 0))), (q5, .inl (cA5, 65, .inl (fun _ => 0))), (q6, .inl (cA6, 65, .inl (fun _ => 0)))]) := hD
  have hK : va_K (dC, dI) vwCl [(cA1, .long), (cA2, .long), (cA3, .int), (cA4, .int), (cA5, .boolean), (cA6, .int)] s := hK
  refine va_putF (D := (dC, dI)) (ci := 8) (v := .ref q6) (ty := .array .int) (C := "CardMessageDeskModel") (T := T_Mod) (N := 32) hx hb hts in_Mod ty_Mod ty_Mod_ok nm_Mod hown hK hP hD hS 0 rfl rfl 11 (by decide) (hts _ tw511) (fun _ h9 => h9) rfl hin rfl (by decide +kernel) rfl rfl (Nat.le_of_ble_eq_true rfl) d_Mod_init_49 (fun H locs hP hD hS => ?_)
  have hP : va_P (dC, dI) vwCl ([(h0, .inr (8, [.ref q1, .ref q2, .int 0, .int 0, .ref q3, .int 0, .ref q4, .int 0, .int 0, .long 0, .ref q5, .ref q6, .null, .int 0, .long 0, .int 0, .long 0, .int 0, .int 0, .int 0, .int 0, .null, .null, .null, .null, .null, .null, .null, .null, .null, .long 0, .long 0])), (q1, .inl (cA1, 6, .inr (.inl (fun _ => 0)))), (q2, .inl (cA2, 6, .inr (.inl (fun _ => 0)))), (q3, .inl (cA3, 120, .inl (fun _ => 0))), (q4, .inl (cA4, 80, .inl (fun _ => 0))), (q5, .inl (cA5, 65, .inl (fun _ => 0))), (q6, .inl (cA6, 65, .inl (fun _ => 0)))]) H := hP
  have hD : va_D A ([(h0, .inr (8, [.ref q1, .ref q2, .int 0, .int 0, .ref q3, .int 0, .ref q4, .int 0, .int 0, .long 0, .ref q5, .ref q6, .null, .int 0, .long 0, .int 0, .long 0, .int 0, .int 0, .int 0, .int 0, .null, .null, .null, .null, .null, .null, .null, .null, .null, .long 0, .long 0])), (q1, .inl (cA1, 6, .inr (.inl (fun _ => 0)))), (q2, .inl (cA2, 6, .inr (.inl (fun _ => 0)))), (q3, .inl (cA3, 120, .inl (fun _ => 0))), (q4, .inl (cA4, 80, .inl (fun _ => 0))), (q5, .inl (cA5, 65, .inl (fun _ => 0))), (q6, .inl (cA6, 65, .inl (fun _ => 0)))]) := hD
  refine lv_aload_n hx hb d_Mod_init_52 rfl (lv_at hl 0 rfl) ?_
  refine lv_bipush (v := 65) hx hb d_Mod_init_53 (by decide) ?_
  refine va_newa (atype := .int) (ty := .int) (N' := 65) (a0 := (65, .inl (fun _ => 0))) hx hb (hts _ tw34) rfl hK hP hD hS hA (fun _ => rfl) (by decide) rfl (by decide) (by decide) (by decide) d_Mod_init_55 (fun q7 cA7 H hK hP hD hS => ?_)
  refine W.widen (k := 7) (n := 407) (by decide) (by decide) ?_
  have hP : va_P (dC, dI) vwCl ([(h0, .inr (8, [.ref q1, .ref q2, .int 0, .int 0, .ref q3, .int 0, .ref q4, .int 0, .int 0, .long 0, .ref q5, .ref q6, .null, .int 0, .long 0, .int 0, .long 0, .int 0, .int 0, .int 0, .int 0, .null, .null, .null, .null, .null, .null, .null, .null, .null, .long 0, .long 0])), (q1, .inl (cA1, 6, .inr (.inl (fun _ => 0)))), (q2, .inl (cA2, 6, .inr (.inl (fun _ => 0)))), (q3, .inl (cA3, 120, .inl (fun _ => 0))), (q4, .inl (cA4, 80, .inl (fun _ => 0))), (q5, .inl (cA5, 65, .inl (fun _ => 0))), (q6, .inl (cA6, 65, .inl (fun _ => 0))), (q7, .inl (cA7, 65, .inl (fun _ => 0)))]) H := hP
  have hD : va_D A ([(h0, .inr (8, [.ref q1, .ref q2, .int 0, .int 0, .ref q3, .int 0, .ref q4, .int 0, .int 0, .long 0, .ref q5, .ref q6, .null, .int 0, .long 0, .int 0, .long 0, .int 0, .int 0, .int 0, .int 0, .null, .null, .null, .null, .null, .null, .null, .null, .null, .long 0, .long 0])), (q1, .inl (cA1, 6, .inr (.inl (fun _ => 0)))), (q2, .inl (cA2, 6, .inr (.inl (fun _ => 0)))), (q3, .inl (cA3, 120, .inl (fun _ => 0))), (q4, .inl (cA4, 80, .inl (fun _ => 0))), (q5, .inl (cA5, 65, .inl (fun _ => 0))), (q6, .inl (cA6, 65, .inl (fun _ => 0))), (q7, .inl (cA7, 65, .inl (fun _ => 0)))]) := hD
  have hK : va_K (dC, dI) vwCl [(cA1, .long), (cA2, .long), (cA3, .int), (cA4, .int), (cA5, .boolean), (cA6, .int), (cA7, .int)] s := hK
  refine va_putF (D := (dC, dI)) (ci := 8) (v := .ref q7) (ty := .array .int) (C := "CardMessageDeskModel") (T := T_Mod) (N := 32) hx hb hts in_Mod ty_Mod ty_Mod_ok nm_Mod hown hK hP hD hS 0 rfl rfl 12 (by decide) (hts _ tw512) (fun _ h9 => h9) rfl hin rfl (by decide +kernel) rfl rfl (Nat.le_of_ble_eq_true rfl) d_Mod_init_57 (fun H locs hP hD hS => ?_)
  have hP : va_P (dC, dI) vwCl ([(h0, .inr (8, [.ref q1, .ref q2, .int 0, .int 0, .ref q3, .int 0, .ref q4, .int 0, .int 0, .long 0, .ref q5, .ref q6, .ref q7, .int 0, .long 0, .int 0, .long 0, .int 0, .int 0, .int 0, .int 0, .null, .null, .null, .null, .null, .null, .null, .null, .null, .long 0, .long 0])), (q1, .inl (cA1, 6, .inr (.inl (fun _ => 0)))), (q2, .inl (cA2, 6, .inr (.inl (fun _ => 0)))), (q3, .inl (cA3, 120, .inl (fun _ => 0))), (q4, .inl (cA4, 80, .inl (fun _ => 0))), (q5, .inl (cA5, 65, .inl (fun _ => 0))), (q6, .inl (cA6, 65, .inl (fun _ => 0))), (q7, .inl (cA7, 65, .inl (fun _ => 0)))]) H := hP
  have hD : va_D A ([(h0, .inr (8, [.ref q1, .ref q2, .int 0, .int 0, .ref q3, .int 0, .ref q4, .int 0, .int 0, .long 0, .ref q5, .ref q6, .ref q7, .int 0, .long 0, .int 0, .long 0, .int 0, .int 0, .int 0, .int 0, .null, .null, .null, .null, .null, .null, .null, .null, .null, .long 0, .long 0])), (q1, .inl (cA1, 6, .inr (.inl (fun _ => 0)))), (q2, .inl (cA2, 6, .inr (.inl (fun _ => 0)))), (q3, .inl (cA3, 120, .inl (fun _ => 0))), (q4, .inl (cA4, 80, .inl (fun _ => 0))), (q5, .inl (cA5, 65, .inl (fun _ => 0))), (q6, .inl (cA6, 65, .inl (fun _ => 0))), (q7, .inl (cA7, 65, .inl (fun _ => 0)))]) := hD
  refine lv_aload_n hx hb d_Mod_init_60 rfl (lv_at hl 0 rfl) ?_
  refine lv_bipush (v := 40) hx hb d_Mod_init_61 (by decide) ?_
  refine va_newa (atype := .int) (ty := .int) (N' := 40) (a0 := (40, .inl (fun _ => 0))) hx hb (hts _ tw34) rfl hK hP hD hS hA (fun _ => rfl) (by decide) rfl (by decide) (by decide) (by decide) d_Mod_init_63 (fun q8 cA8 H hK hP hD hS => ?_)
  refine W.widen (k := 8) (n := 447) (by decide) (by decide) ?_
  have hP : va_P (dC, dI) vwCl ([(h0, .inr (8, [.ref q1, .ref q2, .int 0, .int 0, .ref q3, .int 0, .ref q4, .int 0, .int 0, .long 0, .ref q5, .ref q6, .ref q7, .int 0, .long 0, .int 0, .long 0, .int 0, .int 0, .int 0, .int 0, .null, .null, .null, .null, .null, .null, .null, .null, .null, .long 0, .long 0])), (q1, .inl (cA1, 6, .inr (.inl (fun _ => 0)))), (q2, .inl (cA2, 6, .inr (.inl (fun _ => 0)))), (q3, .inl (cA3, 120, .inl (fun _ => 0))), (q4, .inl (cA4, 80, .inl (fun _ => 0))), (q5, .inl (cA5, 65, .inl (fun _ => 0))), (q6, .inl (cA6, 65, .inl (fun _ => 0))), (q7, .inl (cA7, 65, .inl (fun _ => 0))), (q8, .inl (cA8, 40, .inl (fun _ => 0)))]) H := hP
  have hD : va_D A ([(h0, .inr (8, [.ref q1, .ref q2, .int 0, .int 0, .ref q3, .int 0, .ref q4, .int 0, .int 0, .long 0, .ref q5, .ref q6, .ref q7, .int 0, .long 0, .int 0, .long 0, .int 0, .int 0, .int 0, .int 0, .null, .null, .null, .null, .null, .null, .null, .null, .null, .long 0, .long 0])), (q1, .inl (cA1, 6, .inr (.inl (fun _ => 0)))), (q2, .inl (cA2, 6, .inr (.inl (fun _ => 0)))), (q3, .inl (cA3, 120, .inl (fun _ => 0))), (q4, .inl (cA4, 80, .inl (fun _ => 0))), (q5, .inl (cA5, 65, .inl (fun _ => 0))), (q6, .inl (cA6, 65, .inl (fun _ => 0))), (q7, .inl (cA7, 65, .inl (fun _ => 0))), (q8, .inl (cA8, 40, .inl (fun _ => 0)))]) := hD
  have hK : va_K (dC, dI) vwCl [(cA1, .long), (cA2, .long), (cA3, .int), (cA4, .int), (cA5, .boolean), (cA6, .int), (cA7, .int), (cA8, .int)] s := hK
  refine va_putF (D := (dC, dI)) (ci := 8) (v := .ref q8) (ty := .array .int) (C := "CardMessageDeskModel") (T := T_Mod) (N := 32) hx hb hts in_Mod ty_Mod ty_Mod_ok nm_Mod hown hK hP hD hS 0 rfl rfl 21 (by decide) (hts _ tw521) (fun _ h9 => h9) rfl hin rfl (by decide +kernel) rfl rfl (Nat.le_of_ble_eq_true rfl) d_Mod_init_65 (fun H locs hP hD hS => ?_)
  have hP : va_P (dC, dI) vwCl ([(h0, .inr (8, [.ref q1, .ref q2, .int 0, .int 0, .ref q3, .int 0, .ref q4, .int 0, .int 0, .long 0, .ref q5, .ref q6, .ref q7, .int 0, .long 0, .int 0, .long 0, .int 0, .int 0, .int 0, .int 0, .ref q8, .null, .null, .null, .null, .null, .null, .null, .null, .long 0, .long 0])), (q1, .inl (cA1, 6, .inr (.inl (fun _ => 0)))), (q2, .inl (cA2, 6, .inr (.inl (fun _ => 0)))), (q3, .inl (cA3, 120, .inl (fun _ => 0))), (q4, .inl (cA4, 80, .inl (fun _ => 0))), (q5, .inl (cA5, 65, .inl (fun _ => 0))), (q6, .inl (cA6, 65, .inl (fun _ => 0))), (q7, .inl (cA7, 65, .inl (fun _ => 0))), (q8, .inl (cA8, 40, .inl (fun _ => 0)))]) H := hP
  have hD : va_D A ([(h0, .inr (8, [.ref q1, .ref q2, .int 0, .int 0, .ref q3, .int 0, .ref q4, .int 0, .int 0, .long 0, .ref q5, .ref q6, .ref q7, .int 0, .long 0, .int 0, .long 0, .int 0, .int 0, .int 0, .int 0, .ref q8, .null, .null, .null, .null, .null, .null, .null, .null, .long 0, .long 0])), (q1, .inl (cA1, 6, .inr (.inl (fun _ => 0)))), (q2, .inl (cA2, 6, .inr (.inl (fun _ => 0)))), (q3, .inl (cA3, 120, .inl (fun _ => 0))), (q4, .inl (cA4, 80, .inl (fun _ => 0))), (q5, .inl (cA5, 65, .inl (fun _ => 0))), (q6, .inl (cA6, 65, .inl (fun _ => 0))), (q7, .inl (cA7, 65, .inl (fun _ => 0))), (q8, .inl (cA8, 40, .inl (fun _ => 0)))]) := hD
  refine lv_aload_n hx hb d_Mod_init_68 rfl (lv_at hl 0 rfl) ?_
  refine lv_bipush (v := 40) hx hb d_Mod_init_69 (by decide) ?_
  refine va_newa (atype := .int) (ty := .int) (N' := 40) (a0 := (40, .inl (fun _ => 0))) hx hb (hts _ tw34) rfl hK hP hD hS hA (fun _ => rfl) (by decide) rfl (by decide) (by decide) (by decide) d_Mod_init_71 (fun q9 cA9 H hK hP hD hS => ?_)
  refine W.widen (k := 9) (n := 487) (by decide) (by decide) ?_
  have hP : va_P (dC, dI) vwCl ([(h0, .inr (8, [.ref q1, .ref q2, .int 0, .int 0, .ref q3, .int 0, .ref q4, .int 0, .int 0, .long 0, .ref q5, .ref q6, .ref q7, .int 0, .long 0, .int 0, .long 0, .int 0, .int 0, .int 0, .int 0, .ref q8, .null, .null, .null, .null, .null, .null, .null, .null, .long 0, .long 0])), (q1, .inl (cA1, 6, .inr (.inl (fun _ => 0)))), (q2, .inl (cA2, 6, .inr (.inl (fun _ => 0)))), (q3, .inl (cA3, 120, .inl (fun _ => 0))), (q4, .inl (cA4, 80, .inl (fun _ => 0))), (q5, .inl (cA5, 65, .inl (fun _ => 0))), (q6, .inl (cA6, 65, .inl (fun _ => 0))), (q7, .inl (cA7, 65, .inl (fun _ => 0))), (q8, .inl (cA8, 40, .inl (fun _ => 0))), (q9, .inl (cA9, 40, .inl (fun _ => 0)))]) H := hP
  have hD : va_D A ([(h0, .inr (8, [.ref q1, .ref q2, .int 0, .int 0, .ref q3, .int 0, .ref q4, .int 0, .int 0, .long 0, .ref q5, .ref q6, .ref q7, .int 0, .long 0, .int 0, .long 0, .int 0, .int 0, .int 0, .int 0, .ref q8, .null, .null, .null, .null, .null, .null, .null, .null, .long 0, .long 0])), (q1, .inl (cA1, 6, .inr (.inl (fun _ => 0)))), (q2, .inl (cA2, 6, .inr (.inl (fun _ => 0)))), (q3, .inl (cA3, 120, .inl (fun _ => 0))), (q4, .inl (cA4, 80, .inl (fun _ => 0))), (q5, .inl (cA5, 65, .inl (fun _ => 0))), (q6, .inl (cA6, 65, .inl (fun _ => 0))), (q7, .inl (cA7, 65, .inl (fun _ => 0))), (q8, .inl (cA8, 40, .inl (fun _ => 0))), (q9, .inl (cA9, 40, .inl (fun _ => 0)))]) := hD
  have hK : va_K (dC, dI) vwCl [(cA1, .long), (cA2, .long), (cA3, .int), (cA4, .int), (cA5, .boolean), (cA6, .int), (cA7, .int), (cA8, .int), (cA9, .int)] s := hK
  refine va_putF (D := (dC, dI)) (ci := 8) (v := .ref q9) (ty := .array .int) (C := "CardMessageDeskModel") (T := T_Mod) (N := 32) hx hb hts in_Mod ty_Mod ty_Mod_ok nm_Mod hown hK hP hD hS 0 rfl rfl 22 (by decide) (hts _ tw522) (fun _ h9 => h9) rfl hin rfl (by decide +kernel) rfl rfl (Nat.le_of_ble_eq_true rfl) d_Mod_init_73 (fun H locs hP hD hS => ?_)
  have hP : va_P (dC, dI) vwCl ([(h0, .inr (8, [.ref q1, .ref q2, .int 0, .int 0, .ref q3, .int 0, .ref q4, .int 0, .int 0, .long 0, .ref q5, .ref q6, .ref q7, .int 0, .long 0, .int 0, .long 0, .int 0, .int 0, .int 0, .int 0, .ref q8, .ref q9, .null, .null, .null, .null, .null, .null, .null, .long 0, .long 0])), (q1, .inl (cA1, 6, .inr (.inl (fun _ => 0)))), (q2, .inl (cA2, 6, .inr (.inl (fun _ => 0)))), (q3, .inl (cA3, 120, .inl (fun _ => 0))), (q4, .inl (cA4, 80, .inl (fun _ => 0))), (q5, .inl (cA5, 65, .inl (fun _ => 0))), (q6, .inl (cA6, 65, .inl (fun _ => 0))), (q7, .inl (cA7, 65, .inl (fun _ => 0))), (q8, .inl (cA8, 40, .inl (fun _ => 0))), (q9, .inl (cA9, 40, .inl (fun _ => 0)))]) H := hP
  have hD : va_D A ([(h0, .inr (8, [.ref q1, .ref q2, .int 0, .int 0, .ref q3, .int 0, .ref q4, .int 0, .int 0, .long 0, .ref q5, .ref q6, .ref q7, .int 0, .long 0, .int 0, .long 0, .int 0, .int 0, .int 0, .int 0, .ref q8, .ref q9, .null, .null, .null, .null, .null, .null, .null, .long 0, .long 0])), (q1, .inl (cA1, 6, .inr (.inl (fun _ => 0)))), (q2, .inl (cA2, 6, .inr (.inl (fun _ => 0)))), (q3, .inl (cA3, 120, .inl (fun _ => 0))), (q4, .inl (cA4, 80, .inl (fun _ => 0))), (q5, .inl (cA5, 65, .inl (fun _ => 0))), (q6, .inl (cA6, 65, .inl (fun _ => 0))), (q7, .inl (cA7, 65, .inl (fun _ => 0))), (q8, .inl (cA8, 40, .inl (fun _ => 0))), (q9, .inl (cA9, 40, .inl (fun _ => 0)))]) := hD
  refine lv_aload_n hx hb d_Mod_init_76 rfl (lv_at hl 0 rfl) ?_
  refine lv_bipush (v := 40) hx hb d_Mod_init_77 (by decide) ?_
  refine va_newa (atype := .int) (ty := .int) (N' := 40) (a0 := (40, .inl (fun _ => 0))) hx hb (hts _ tw34) rfl hK hP hD hS hA (fun _ => rfl) (by decide) rfl (by decide) (by decide) (by decide) d_Mod_init_79 (fun q10 cA10 H hK hP hD hS => ?_)
  refine W.widen (k := 10) (n := 527) (by decide) (by decide) ?_
  have hP : va_P (dC, dI) vwCl ([(h0, .inr (8, [.ref q1, .ref q2, .int 0, .int 0, .ref q3, .int 0, .ref q4, .int 0, .int 0, .long 0, .ref q5, .ref q6, .ref q7, .int 0, .long 0, .int 0, .long 0, .int 0, .int 0, .int 0, .int 0, .ref q8, .ref q9, .null, .null, .null, .null, .null, .null, .null, .long 0, .long 0])), (q1, .inl (cA1, 6, .inr (.inl (fun _ => 0)))), (q2, .inl (cA2, 6, .inr (.inl (fun _ => 0)))), (q3, .inl (cA3, 120, .inl (fun _ => 0))), (q4, .inl (cA4, 80, .inl (fun _ => 0))), (q5, .inl (cA5, 65, .inl (fun _ => 0))), (q6, .inl (cA6, 65, .inl (fun _ => 0))), (q7, .inl (cA7, 65, .inl (fun _ => 0))), (q8, .inl (cA8, 40, .inl (fun _ => 0))), (q9, .inl (cA9, 40, .inl (fun _ => 0))), (q10, .inl (cA10, 40, .inl (fun _ => 0)))]) H := hP
  have hD : va_D A ([(h0, .inr (8, [.ref q1, .ref q2, .int 0, .int 0, .ref q3, .int 0, .ref q4, .int 0, .int 0, .long 0, .ref q5, .ref q6, .ref q7, .int 0, .long 0, .int 0, .long 0, .int 0, .int 0, .int 0, .int 0, .ref q8, .ref q9, .null, .null, .null, .null, .null, .null, .null, .long 0, .long 0])), (q1, .inl (cA1, 6, .inr (.inl (fun _ => 0)))), (q2, .inl (cA2, 6, .inr (.inl (fun _ => 0)))), (q3, .inl (cA3, 120, .inl (fun _ => 0))), (q4, .inl (cA4, 80, .inl (fun _ => 0))), (q5, .inl (cA5, 65, .inl (fun _ => 0))), (q6, .inl (cA6, 65, .inl (fun _ => 0))), (q7, .inl (cA7, 65, .inl (fun _ => 0))), (q8, .inl (cA8, 40, .inl (fun _ => 0))), (q9, .inl (cA9, 40, .inl (fun _ => 0))), (q10, .inl (cA10, 40, .inl (fun _ => 0)))]) := hD
  have hK : va_K (dC, dI) vwCl [(cA1, .long), (cA2, .long), (cA3, .int), (cA4, .int), (cA5, .boolean), (cA6, .int), (cA7, .int), (cA8, .int), (cA9, .int), (cA10, .int)] s := hK
  refine va_putF (D := (dC, dI)) (ci := 8) (v := .ref q10) (ty := .array .int) (C := "CardMessageDeskModel") (T := T_Mod) (N := 32) hx hb hts in_Mod ty_Mod ty_Mod_ok nm_Mod hown hK hP hD hS 0 rfl rfl 23 (by decide) (hts _ tw523) (fun _ h9 => h9) rfl hin rfl (by decide +kernel) rfl rfl (Nat.le_of_ble_eq_true rfl) d_Mod_init_81 (fun H locs hP hD hS => ?_)
  have hP : va_P (dC, dI) vwCl ([(h0, .inr (8, [.ref q1, .ref q2, .int 0, .int 0, .ref q3, .int 0, .ref q4, .int 0, .int 0, .long 0, .ref q5, .ref q6, .ref q7, .int 0, .long 0, .int 0, .long 0, .int 0, .int 0, .int 0, .int 0, .ref q8, .ref q9, .ref q10, .null, .null, .null, .null, .null, .null, .long 0, .long 0])), (q1, .inl (cA1, 6, .inr (.inl (fun _ => 0)))), (q2, .inl (cA2, 6, .inr (.inl (fun _ => 0)))), (q3, .inl (cA3, 120, .inl (fun _ => 0))), (q4, .inl (cA4, 80, .inl (fun _ => 0))), (q5, .inl (cA5, 65, .inl (fun _ => 0))), (q6, .inl (cA6, 65, .inl (fun _ => 0))), (q7, .inl (cA7, 65, .inl (fun _ => 0))), (q8, .inl (cA8, 40, .inl (fun _ => 0))), (q9, .inl (cA9, 40, .inl (fun _ => 0))), (q10, .inl (cA10, 40, .inl (fun _ => 0)))]) H := hP
  have hD : va_D A ([(h0, .inr (8, [.ref q1, .ref q2, .int 0, .int 0, .ref q3, .int 0, .ref q4, .int 0, .int 0, .long 0, .ref q5, .ref q6, .ref q7, .int 0, .long 0, .int 0, .long 0, .int 0, .int 0, .int 0, .int 0, .ref q8, .ref q9, .ref q10, .null, .null, .null, .null, .null, .null, .long 0, .long 0])), (q1, .inl (cA1, 6, .inr (.inl (fun _ => 0)))), (q2, .inl (cA2, 6, .inr (.inl (fun _ => 0)))), (q3, .inl (cA3, 120, .inl (fun _ => 0))), (q4, .inl (cA4, 80, .inl (fun _ => 0))), (q5, .inl (cA5, 65, .inl (fun _ => 0))), (q6, .inl (cA6, 65, .inl (fun _ => 0))), (q7, .inl (cA7, 65, .inl (fun _ => 0))), (q8, .inl (cA8, 40, .inl (fun _ => 0))), (q9, .inl (cA9, 40, .inl (fun _ => 0))), (q10, .inl (cA10, 40, .inl (fun _ => 0)))]) := hD
  refine lv_aload_n hx hb d_Mod_init_84 rfl (lv_at hl 0 rfl) ?_
  refine lv_bipush (v := 40) hx hb d_Mod_init_85 (by decide) ?_
  refine va_newa (atype := .long) (ty := .long) (N' := 40) (a0 := (40, .inr (.inl (fun _ => 0)))) hx hb (hts _ tw597) rfl hK hP hD hS hA (fun _ => rfl) (by decide) rfl (by decide) (by decide) (by decide) d_Mod_init_87 (fun q11 cA11 H hK hP hD hS => ?_)
  refine W.widen (k := 11) (n := 567) (by decide) (by decide) ?_
  have hP : va_P (dC, dI) vwCl ([(h0, .inr (8, [.ref q1, .ref q2, .int 0, .int 0, .ref q3, .int 0, .ref q4, .int 0, .int 0, .long 0, .ref q5, .ref q6, .ref q7, .int 0, .long 0, .int 0, .long 0, .int 0, .int 0, .int 0, .int 0, .ref q8, .ref q9, .ref q10, .null, .null, .null, .null, .null, .null, .long 0, .long 0])), (q1, .inl (cA1, 6, .inr (.inl (fun _ => 0)))), (q2, .inl (cA2, 6, .inr (.inl (fun _ => 0)))), (q3, .inl (cA3, 120, .inl (fun _ => 0))), (q4, .inl (cA4, 80, .inl (fun _ => 0))), (q5, .inl (cA5, 65, .inl (fun _ => 0))), (q6, .inl (cA6, 65, .inl (fun _ => 0))), (q7, .inl (cA7, 65, .inl (fun _ => 0))), (q8, .inl (cA8, 40, .inl (fun _ => 0))), (q9, .inl (cA9, 40, .inl (fun _ => 0))), (q10, .inl (cA10, 40, .inl (fun _ => 0))), (q11, .inl (cA11, 40, .inr (.inl (fun _ => 0))))]) H := hP
  have hD : va_D A ([(h0, .inr (8, [.ref q1, .ref q2, .int 0, .int 0, .ref q3, .int 0, .ref q4, .int 0, .int 0, .long 0, .ref q5, .ref q6, .ref q7, .int 0, .long 0, .int 0, .long 0, .int 0, .int 0, .int 0, .int 0, .ref q8, .ref q9, .ref q10, .null, .null, .null, .null, .null, .null, .long 0, .long 0])), (q1, .inl (cA1, 6, .inr (.inl (fun _ => 0)))), (q2, .inl (cA2, 6, .inr (.inl (fun _ => 0)))), (q3, .inl (cA3, 120, .inl (fun _ => 0))), (q4, .inl (cA4, 80, .inl (fun _ => 0))), (q5, .inl (cA5, 65, .inl (fun _ => 0))), (q6, .inl (cA6, 65, .inl (fun _ => 0))), (q7, .inl (cA7, 65, .inl (fun _ => 0))), (q8, .inl (cA8, 40, .inl (fun _ => 0))), (q9, .inl (cA9, 40, .inl (fun _ => 0))), (q10, .inl (cA10, 40, .inl (fun _ => 0))), (q11, .inl (cA11, 40, .inr (.inl (fun _ => 0))))]) := hD
  have hK : va_K (dC, dI) vwCl [(cA1, .long), (cA2, .long), (cA3, .int), (cA4, .int), (cA5, .boolean), (cA6, .int), (cA7, .int), (cA8, .int), (cA9, .int), (cA10, .int), (cA11, .long)] s := hK
  refine va_putF (D := (dC, dI)) (ci := 8) (v := .ref q11) (ty := .array .long) (C := "CardMessageDeskModel") (T := T_Mod) (N := 32) hx hb hts in_Mod ty_Mod ty_Mod_ok nm_Mod hown hK hP hD hS 0 rfl rfl 24 (by decide) (hts _ tw524) (fun _ h9 => h9) rfl hin rfl (by decide +kernel) rfl rfl (Nat.le_of_ble_eq_true rfl) d_Mod_init_89 (fun H locs hP hD hS => ?_)
  have hP : va_P (dC, dI) vwCl ([(h0, .inr (8, [.ref q1, .ref q2, .int 0, .int 0, .ref q3, .int 0, .ref q4, .int 0, .int 0, .long 0, .ref q5, .ref q6, .ref q7, .int 0, .long 0, .int 0, .long 0, .int 0, .int 0, .int 0, .int 0, .ref q8, .ref q9, .ref q10, .ref q11, .null, .null, .null, .null, .null, .long 0, .long 0])), (q1, .inl (cA1, 6, .inr (.inl (fun _ => 0)))), (q2, .inl (cA2, 6, .inr (.inl (fun _ => 0)))), (q3, .inl (cA3, 120, .inl (fun _ => 0))), (q4, .inl (cA4, 80, .inl (fun _ => 0))), (q5, .inl (cA5, 65, .inl (fun _ => 0))), (q6, .inl (cA6, 65, .inl (fun _ => 0))), (q7, .inl (cA7, 65, .inl (fun _ => 0))), (q8, .inl (cA8, 40, .inl (fun _ => 0))), (q9, .inl (cA9, 40, .inl (fun _ => 0))), (q10, .inl (cA10, 40, .inl (fun _ => 0))), (q11, .inl (cA11, 40, .inr (.inl (fun _ => 0))))]) H := hP
  have hD : va_D A ([(h0, .inr (8, [.ref q1, .ref q2, .int 0, .int 0, .ref q3, .int 0, .ref q4, .int 0, .int 0, .long 0, .ref q5, .ref q6, .ref q7, .int 0, .long 0, .int 0, .long 0, .int 0, .int 0, .int 0, .int 0, .ref q8, .ref q9, .ref q10, .ref q11, .null, .null, .null, .null, .null, .long 0, .long 0])), (q1, .inl (cA1, 6, .inr (.inl (fun _ => 0)))), (q2, .inl (cA2, 6, .inr (.inl (fun _ => 0)))), (q3, .inl (cA3, 120, .inl (fun _ => 0))), (q4, .inl (cA4, 80, .inl (fun _ => 0))), (q5, .inl (cA5, 65, .inl (fun _ => 0))), (q6, .inl (cA6, 65, .inl (fun _ => 0))), (q7, .inl (cA7, 65, .inl (fun _ => 0))), (q8, .inl (cA8, 40, .inl (fun _ => 0))), (q9, .inl (cA9, 40, .inl (fun _ => 0))), (q10, .inl (cA10, 40, .inl (fun _ => 0))), (q11, .inl (cA11, 40, .inr (.inl (fun _ => 0))))]) := hD
  refine lv_aload_n hx hb d_Mod_init_92 rfl (lv_at hl 0 rfl) ?_
  refine lv_bipush (v := 40) hx hb d_Mod_init_93 (by decide) ?_
  refine va_newa (atype := .int) (ty := .int) (N' := 40) (a0 := (40, .inl (fun _ => 0))) hx hb (hts _ tw34) rfl hK hP hD hS hA (fun _ => rfl) (by decide) rfl (by decide) (by decide) (by decide) d_Mod_init_95 (fun q12 cA12 H hK hP hD hS => ?_)
  refine W.widen (k := 12) (n := 607) (by decide) (by decide) ?_
  have hP : va_P (dC, dI) vwCl ([(h0, .inr (8, [.ref q1, .ref q2, .int 0, .int 0, .ref q3, .int 0, .ref q4, .int 0, .int 0, .long 0, .ref q5, .ref q6, .ref q7, .int 0, .long 0, .int 0, .long 0, .int 0, .int 0, .int 0, .int 0, .ref q8, .ref q9, .ref q10, .ref q11, .null, .null, .null, .null, .null, .long 0, .long 0])), (q1, .inl (cA1, 6, .inr (.inl (fun _ => 0)))), (q2, .inl (cA2, 6, .inr (.inl (fun _ => 0)))), (q3, .inl (cA3, 120, .inl (fun _ => 0))), (q4, .inl (cA4, 80, .inl (fun _ => 0))), (q5, .inl (cA5, 65, .inl (fun _ => 0))), (q6, .inl (cA6, 65, .inl (fun _ => 0))), (q7, .inl (cA7, 65, .inl (fun _ => 0))), (q8, .inl (cA8, 40, .inl (fun _ => 0))), (q9, .inl (cA9, 40, .inl (fun _ => 0))), (q10, .inl (cA10, 40, .inl (fun _ => 0))), (q11, .inl (cA11, 40, .inr (.inl (fun _ => 0)))), (q12, .inl (cA12, 40, .inl (fun _ => 0)))]) H := hP
  have hD : va_D A ([(h0, .inr (8, [.ref q1, .ref q2, .int 0, .int 0, .ref q3, .int 0, .ref q4, .int 0, .int 0, .long 0, .ref q5, .ref q6, .ref q7, .int 0, .long 0, .int 0, .long 0, .int 0, .int 0, .int 0, .int 0, .ref q8, .ref q9, .ref q10, .ref q11, .null, .null, .null, .null, .null, .long 0, .long 0])), (q1, .inl (cA1, 6, .inr (.inl (fun _ => 0)))), (q2, .inl (cA2, 6, .inr (.inl (fun _ => 0)))), (q3, .inl (cA3, 120, .inl (fun _ => 0))), (q4, .inl (cA4, 80, .inl (fun _ => 0))), (q5, .inl (cA5, 65, .inl (fun _ => 0))), (q6, .inl (cA6, 65, .inl (fun _ => 0))), (q7, .inl (cA7, 65, .inl (fun _ => 0))), (q8, .inl (cA8, 40, .inl (fun _ => 0))), (q9, .inl (cA9, 40, .inl (fun _ => 0))), (q10, .inl (cA10, 40, .inl (fun _ => 0))), (q11, .inl (cA11, 40, .inr (.inl (fun _ => 0)))), (q12, .inl (cA12, 40, .inl (fun _ => 0)))]) := hD
  have hK : va_K (dC, dI) vwCl [(cA1, .long), (cA2, .long), (cA3, .int), (cA4, .int), (cA5, .boolean), (cA6, .int), (cA7, .int), (cA8, .int), (cA9, .int), (cA10, .int), (cA11, .long), (cA12, .int)] s := hK
  refine va_putF (D := (dC, dI)) (ci := 8) (v := .ref q12) (ty := .array .int) (C := "CardMessageDeskModel") (T := T_Mod) (N := 32) hx hb hts in_Mod ty_Mod ty_Mod_ok nm_Mod hown hK hP hD hS 0 rfl rfl 25 (by decide) (hts _ tw525) (fun _ h9 => h9) rfl hin rfl (by decide +kernel) rfl rfl (Nat.le_of_ble_eq_true rfl) d_Mod_init_97 (fun H locs hP hD hS => ?_)
  have hP : va_P (dC, dI) vwCl ([(h0, .inr (8, [.ref q1, .ref q2, .int 0, .int 0, .ref q3, .int 0, .ref q4, .int 0, .int 0, .long 0, .ref q5, .ref q6, .ref q7, .int 0, .long 0, .int 0, .long 0, .int 0, .int 0, .int 0, .int 0, .ref q8, .ref q9, .ref q10, .ref q11, .ref q12, .null, .null, .null, .null, .long 0, .long 0])), (q1, .inl (cA1, 6, .inr (.inl (fun _ => 0)))), (q2, .inl (cA2, 6, .inr (.inl (fun _ => 0)))), (q3, .inl (cA3, 120, .inl (fun _ => 0))), (q4, .inl (cA4, 80, .inl (fun _ => 0))), (q5, .inl (cA5, 65, .inl (fun _ => 0))), (q6, .inl (cA6, 65, .inl (fun _ => 0))), (q7, .inl (cA7, 65, .inl (fun _ => 0))), (q8, .inl (cA8, 40, .inl (fun _ => 0))), (q9, .inl (cA9, 40, .inl (fun _ => 0))), (q10, .inl (cA10, 40, .inl (fun _ => 0))), (q11, .inl (cA11, 40, .inr (.inl (fun _ => 0)))), (q12, .inl (cA12, 40, .inl (fun _ => 0)))]) H := hP
  have hD : va_D A ([(h0, .inr (8, [.ref q1, .ref q2, .int 0, .int 0, .ref q3, .int 0, .ref q4, .int 0, .int 0, .long 0, .ref q5, .ref q6, .ref q7, .int 0, .long 0, .int 0, .long 0, .int 0, .int 0, .int 0, .int 0, .ref q8, .ref q9, .ref q10, .ref q11, .ref q12, .null, .null, .null, .null, .long 0, .long 0])), (q1, .inl (cA1, 6, .inr (.inl (fun _ => 0)))), (q2, .inl (cA2, 6, .inr (.inl (fun _ => 0)))), (q3, .inl (cA3, 120, .inl (fun _ => 0))), (q4, .inl (cA4, 80, .inl (fun _ => 0))), (q5, .inl (cA5, 65, .inl (fun _ => 0))), (q6, .inl (cA6, 65, .inl (fun _ => 0))), (q7, .inl (cA7, 65, .inl (fun _ => 0))), (q8, .inl (cA8, 40, .inl (fun _ => 0))), (q9, .inl (cA9, 40, .inl (fun _ => 0))), (q10, .inl (cA10, 40, .inl (fun _ => 0))), (q11, .inl (cA11, 40, .inr (.inl (fun _ => 0)))), (q12, .inl (cA12, 40, .inl (fun _ => 0)))]) := hD
  refine lv_aload_n hx hb d_Mod_init_100 rfl (lv_at hl 0 rfl) ?_
  refine lv_bipush (v := 40) hx hb d_Mod_init_101 (by decide) ?_
  refine va_newa (atype := .long) (ty := .long) (N' := 40) (a0 := (40, .inr (.inl (fun _ => 0)))) hx hb (hts _ tw597) rfl hK hP hD hS hA (fun _ => rfl) (by decide) rfl (by decide) (by decide) (by decide) d_Mod_init_103 (fun q13 cA13 H hK hP hD hS => ?_)
  refine W.widen (k := 13) (n := 647) (by decide) (by decide) ?_
  have hP : va_P (dC, dI) vwCl ([(h0, .inr (8, [.ref q1, .ref q2, .int 0, .int 0, .ref q3, .int 0, .ref q4, .int 0, .int 0, .long 0, .ref q5, .ref q6, .ref q7, .int 0, .long 0, .int 0, .long 0, .int 0, .int 0, .int 0, .int 0, .ref q8, .ref q9, .ref q10, .ref q11, .ref q12, .null, .null, .null, .null, .long 0, .long 0])), (q1, .inl (cA1, 6, .inr (.inl (fun _ => 0)))), (q2, .inl (cA2, 6, .inr (.inl (fun _ => 0)))), (q3, .inl (cA3, 120, .inl (fun _ => 0))), (q4, .inl (cA4, 80, .inl (fun _ => 0))), (q5, .inl (cA5, 65, .inl (fun _ => 0))), (q6, .inl (cA6, 65, .inl (fun _ => 0))), (q7, .inl (cA7, 65, .inl (fun _ => 0))), (q8, .inl (cA8, 40, .inl (fun _ => 0))), (q9, .inl (cA9, 40, .inl (fun _ => 0))), (q10, .inl (cA10, 40, .inl (fun _ => 0))), (q11, .inl (cA11, 40, .inr (.inl (fun _ => 0)))), (q12, .inl (cA12, 40, .inl (fun _ => 0))), (q13, .inl (cA13, 40, .inr (.inl (fun _ => 0))))]) H := hP
  have hD : va_D A ([(h0, .inr (8, [.ref q1, .ref q2, .int 0, .int 0, .ref q3, .int 0, .ref q4, .int 0, .int 0, .long 0, .ref q5, .ref q6, .ref q7, .int 0, .long 0, .int 0, .long 0, .int 0, .int 0, .int 0, .int 0, .ref q8, .ref q9, .ref q10, .ref q11, .ref q12, .null, .null, .null, .null, .long 0, .long 0])), (q1, .inl (cA1, 6, .inr (.inl (fun _ => 0)))), (q2, .inl (cA2, 6, .inr (.inl (fun _ => 0)))), (q3, .inl (cA3, 120, .inl (fun _ => 0))), (q4, .inl (cA4, 80, .inl (fun _ => 0))), (q5, .inl (cA5, 65, .inl (fun _ => 0))), (q6, .inl (cA6, 65, .inl (fun _ => 0))), (q7, .inl (cA7, 65, .inl (fun _ => 0))), (q8, .inl (cA8, 40, .inl (fun _ => 0))), (q9, .inl (cA9, 40, .inl (fun _ => 0))), (q10, .inl (cA10, 40, .inl (fun _ => 0))), (q11, .inl (cA11, 40, .inr (.inl (fun _ => 0)))), (q12, .inl (cA12, 40, .inl (fun _ => 0))), (q13, .inl (cA13, 40, .inr (.inl (fun _ => 0))))]) := hD
  have hK : va_K (dC, dI) vwCl [(cA1, .long), (cA2, .long), (cA3, .int), (cA4, .int), (cA5, .boolean), (cA6, .int), (cA7, .int), (cA8, .int), (cA9, .int), (cA10, .int), (cA11, .long), (cA12, .int), (cA13, .long)] s := hK
  refine va_putF (D := (dC, dI)) (ci := 8) (v := .ref q13) (ty := .array .long) (C := "CardMessageDeskModel") (T := T_Mod) (N := 32) hx hb hts in_Mod ty_Mod ty_Mod_ok nm_Mod hown hK hP hD hS 0 rfl rfl 26 (by decide) (hts _ tw526) (fun _ h9 => h9) rfl hin rfl (by decide +kernel) rfl rfl (Nat.le_of_ble_eq_true rfl) d_Mod_init_105 (fun H locs hP hD hS => ?_)
  have hP : va_P (dC, dI) vwCl ([(h0, .inr (8, [.ref q1, .ref q2, .int 0, .int 0, .ref q3, .int 0, .ref q4, .int 0, .int 0, .long 0, .ref q5, .ref q6, .ref q7, .int 0, .long 0, .int 0, .long 0, .int 0, .int 0, .int 0, .int 0, .ref q8, .ref q9, .ref q10, .ref q11, .ref q12, .ref q13, .null, .null, .null, .long 0, .long 0])), (q1, .inl (cA1, 6, .inr (.inl (fun _ => 0)))), (q2, .inl (cA2, 6, .inr (.inl (fun _ => 0)))), (q3, .inl (cA3, 120, .inl (fun _ => 0))), (q4, .inl (cA4, 80, .inl (fun _ => 0))), (q5, .inl (cA5, 65, .inl (fun _ => 0))), (q6, .inl (cA6, 65, .inl (fun _ => 0))), (q7, .inl (cA7, 65, .inl (fun _ => 0))), (q8, .inl (cA8, 40, .inl (fun _ => 0))), (q9, .inl (cA9, 40, .inl (fun _ => 0))), (q10, .inl (cA10, 40, .inl (fun _ => 0))), (q11, .inl (cA11, 40, .inr (.inl (fun _ => 0)))), (q12, .inl (cA12, 40, .inl (fun _ => 0))), (q13, .inl (cA13, 40, .inr (.inl (fun _ => 0))))]) H := hP
  have hD : va_D A ([(h0, .inr (8, [.ref q1, .ref q2, .int 0, .int 0, .ref q3, .int 0, .ref q4, .int 0, .int 0, .long 0, .ref q5, .ref q6, .ref q7, .int 0, .long 0, .int 0, .long 0, .int 0, .int 0, .int 0, .int 0, .ref q8, .ref q9, .ref q10, .ref q11, .ref q12, .ref q13, .null, .null, .null, .long 0, .long 0])), (q1, .inl (cA1, 6, .inr (.inl (fun _ => 0)))), (q2, .inl (cA2, 6, .inr (.inl (fun _ => 0)))), (q3, .inl (cA3, 120, .inl (fun _ => 0))), (q4, .inl (cA4, 80, .inl (fun _ => 0))), (q5, .inl (cA5, 65, .inl (fun _ => 0))), (q6, .inl (cA6, 65, .inl (fun _ => 0))), (q7, .inl (cA7, 65, .inl (fun _ => 0))), (q8, .inl (cA8, 40, .inl (fun _ => 0))), (q9, .inl (cA9, 40, .inl (fun _ => 0))), (q10, .inl (cA10, 40, .inl (fun _ => 0))), (q11, .inl (cA11, 40, .inr (.inl (fun _ => 0)))), (q12, .inl (cA12, 40, .inl (fun _ => 0))), (q13, .inl (cA13, 40, .inr (.inl (fun _ => 0))))]) := hD
  refine lv_aload_n hx hb d_Mod_init_108 rfl (lv_at hl 0 rfl) ?_
  refine lv_bipush (v := 40) hx hb d_Mod_init_109 (by decide) ?_
  refine va_newa (atype := .int) (ty := .int) (N' := 40) (a0 := (40, .inl (fun _ => 0))) hx hb (hts _ tw34) rfl hK hP hD hS hA (fun _ => rfl) (by decide) rfl (by decide) (by decide) (by decide) d_Mod_init_111 (fun q14 cA14 H hK hP hD hS => ?_)
  refine W.widen (k := 14) (n := 687) (by decide) (by decide) ?_
  have hP : va_P (dC, dI) vwCl ([(h0, .inr (8, [.ref q1, .ref q2, .int 0, .int 0, .ref q3, .int 0, .ref q4, .int 0, .int 0, .long 0, .ref q5, .ref q6, .ref q7, .int 0, .long 0, .int 0, .long 0, .int 0, .int 0, .int 0, .int 0, .ref q8, .ref q9, .ref q10, .ref q11, .ref q12, .ref q13, .null, .null, .null, .long 0, .long 0])), (q1, .inl (cA1, 6, .inr (.inl (fun _ => 0)))), (q2, .inl (cA2, 6, .inr (.inl (fun _ => 0)))), (q3, .inl (cA3, 120, .inl (fun _ => 0))), (q4, .inl (cA4, 80, .inl (fun _ => 0))), (q5, .inl (cA5, 65, .inl (fun _ => 0))), (q6, .inl (cA6, 65, .inl (fun _ => 0))), (q7, .inl (cA7, 65, .inl (fun _ => 0))), (q8, .inl (cA8, 40, .inl (fun _ => 0))), (q9, .inl (cA9, 40, .inl (fun _ => 0))), (q10, .inl (cA10, 40, .inl (fun _ => 0))), (q11, .inl (cA11, 40, .inr (.inl (fun _ => 0)))), (q12, .inl (cA12, 40, .inl (fun _ => 0))), (q13, .inl (cA13, 40, .inr (.inl (fun _ => 0)))), (q14, .inl (cA14, 40, .inl (fun _ => 0)))]) H := hP
  have hD : va_D A ([(h0, .inr (8, [.ref q1, .ref q2, .int 0, .int 0, .ref q3, .int 0, .ref q4, .int 0, .int 0, .long 0, .ref q5, .ref q6, .ref q7, .int 0, .long 0, .int 0, .long 0, .int 0, .int 0, .int 0, .int 0, .ref q8, .ref q9, .ref q10, .ref q11, .ref q12, .ref q13, .null, .null, .null, .long 0, .long 0])), (q1, .inl (cA1, 6, .inr (.inl (fun _ => 0)))), (q2, .inl (cA2, 6, .inr (.inl (fun _ => 0)))), (q3, .inl (cA3, 120, .inl (fun _ => 0))), (q4, .inl (cA4, 80, .inl (fun _ => 0))), (q5, .inl (cA5, 65, .inl (fun _ => 0))), (q6, .inl (cA6, 65, .inl (fun _ => 0))), (q7, .inl (cA7, 65, .inl (fun _ => 0))), (q8, .inl (cA8, 40, .inl (fun _ => 0))), (q9, .inl (cA9, 40, .inl (fun _ => 0))), (q10, .inl (cA10, 40, .inl (fun _ => 0))), (q11, .inl (cA11, 40, .inr (.inl (fun _ => 0)))), (q12, .inl (cA12, 40, .inl (fun _ => 0))), (q13, .inl (cA13, 40, .inr (.inl (fun _ => 0)))), (q14, .inl (cA14, 40, .inl (fun _ => 0)))]) := hD
  have hK : va_K (dC, dI) vwCl [(cA1, .long), (cA2, .long), (cA3, .int), (cA4, .int), (cA5, .boolean), (cA6, .int), (cA7, .int), (cA8, .int), (cA9, .int), (cA10, .int), (cA11, .long), (cA12, .int), (cA13, .long), (cA14, .int)] s := hK
  refine va_putF (D := (dC, dI)) (ci := 8) (v := .ref q14) (ty := .array .int) (C := "CardMessageDeskModel") (T := T_Mod) (N := 32) hx hb hts in_Mod ty_Mod ty_Mod_ok nm_Mod hown hK hP hD hS 0 rfl rfl 27 (by decide) (hts _ tw527) (fun _ h9 => h9) rfl hin rfl (by decide +kernel) rfl rfl (Nat.le_of_ble_eq_true rfl) d_Mod_init_113 (fun H locs hP hD hS => ?_)
  have hP : va_P (dC, dI) vwCl ([(h0, .inr (8, [.ref q1, .ref q2, .int 0, .int 0, .ref q3, .int 0, .ref q4, .int 0, .int 0, .long 0, .ref q5, .ref q6, .ref q7, .int 0, .long 0, .int 0, .long 0, .int 0, .int 0, .int 0, .int 0, .ref q8, .ref q9, .ref q10, .ref q11, .ref q12, .ref q13, .ref q14, .null, .null, .long 0, .long 0])), (q1, .inl (cA1, 6, .inr (.inl (fun _ => 0)))), (q2, .inl (cA2, 6, .inr (.inl (fun _ => 0)))), (q3, .inl (cA3, 120, .inl (fun _ => 0))), (q4, .inl (cA4, 80, .inl (fun _ => 0))), (q5, .inl (cA5, 65, .inl (fun _ => 0))), (q6, .inl (cA6, 65, .inl (fun _ => 0))), (q7, .inl (cA7, 65, .inl (fun _ => 0))), (q8, .inl (cA8, 40, .inl (fun _ => 0))), (q9, .inl (cA9, 40, .inl (fun _ => 0))), (q10, .inl (cA10, 40, .inl (fun _ => 0))), (q11, .inl (cA11, 40, .inr (.inl (fun _ => 0)))), (q12, .inl (cA12, 40, .inl (fun _ => 0))), (q13, .inl (cA13, 40, .inr (.inl (fun _ => 0)))), (q14, .inl (cA14, 40, .inl (fun _ => 0)))]) H := hP
  have hD : va_D A ([(h0, .inr (8, [.ref q1, .ref q2, .int 0, .int 0, .ref q3, .int 0, .ref q4, .int 0, .int 0, .long 0, .ref q5, .ref q6, .ref q7, .int 0, .long 0, .int 0, .long 0, .int 0, .int 0, .int 0, .int 0, .ref q8, .ref q9, .ref q10, .ref q11, .ref q12, .ref q13, .ref q14, .null, .null, .long 0, .long 0])), (q1, .inl (cA1, 6, .inr (.inl (fun _ => 0)))), (q2, .inl (cA2, 6, .inr (.inl (fun _ => 0)))), (q3, .inl (cA3, 120, .inl (fun _ => 0))), (q4, .inl (cA4, 80, .inl (fun _ => 0))), (q5, .inl (cA5, 65, .inl (fun _ => 0))), (q6, .inl (cA6, 65, .inl (fun _ => 0))), (q7, .inl (cA7, 65, .inl (fun _ => 0))), (q8, .inl (cA8, 40, .inl (fun _ => 0))), (q9, .inl (cA9, 40, .inl (fun _ => 0))), (q10, .inl (cA10, 40, .inl (fun _ => 0))), (q11, .inl (cA11, 40, .inr (.inl (fun _ => 0)))), (q12, .inl (cA12, 40, .inl (fun _ => 0))), (q13, .inl (cA13, 40, .inr (.inl (fun _ => 0)))), (q14, .inl (cA14, 40, .inl (fun _ => 0)))]) := hD
  refine lv_aload_n hx hb d_Mod_init_116 rfl (lv_at hl 0 rfl) ?_
  refine lv_bipush (v := 40) hx hb d_Mod_init_117 (by decide) ?_
  refine va_newa (atype := .int) (ty := .int) (N' := 40) (a0 := (40, .inl (fun _ => 0))) hx hb (hts _ tw34) rfl hK hP hD hS hA (fun _ => rfl) (by decide) rfl (by decide) (by decide) (by decide) d_Mod_init_119 (fun q15 cA15 H hK hP hD hS => ?_)
  refine W.widen (k := 15) (n := 727) (by decide) (by decide) ?_
  have hP : va_P (dC, dI) vwCl ([(h0, .inr (8, [.ref q1, .ref q2, .int 0, .int 0, .ref q3, .int 0, .ref q4, .int 0, .int 0, .long 0, .ref q5, .ref q6, .ref q7, .int 0, .long 0, .int 0, .long 0, .int 0, .int 0, .int 0, .int 0, .ref q8, .ref q9, .ref q10, .ref q11, .ref q12, .ref q13, .ref q14, .null, .null, .long 0, .long 0])), (q1, .inl (cA1, 6, .inr (.inl (fun _ => 0)))), (q2, .inl (cA2, 6, .inr (.inl (fun _ => 0)))), (q3, .inl (cA3, 120, .inl (fun _ => 0))), (q4, .inl (cA4, 80, .inl (fun _ => 0))), (q5, .inl (cA5, 65, .inl (fun _ => 0))), (q6, .inl (cA6, 65, .inl (fun _ => 0))), (q7, .inl (cA7, 65, .inl (fun _ => 0))), (q8, .inl (cA8, 40, .inl (fun _ => 0))), (q9, .inl (cA9, 40, .inl (fun _ => 0))), (q10, .inl (cA10, 40, .inl (fun _ => 0))), (q11, .inl (cA11, 40, .inr (.inl (fun _ => 0)))), (q12, .inl (cA12, 40, .inl (fun _ => 0))), (q13, .inl (cA13, 40, .inr (.inl (fun _ => 0)))), (q14, .inl (cA14, 40, .inl (fun _ => 0))), (q15, .inl (cA15, 40, .inl (fun _ => 0)))]) H := hP
  have hD : va_D A ([(h0, .inr (8, [.ref q1, .ref q2, .int 0, .int 0, .ref q3, .int 0, .ref q4, .int 0, .int 0, .long 0, .ref q5, .ref q6, .ref q7, .int 0, .long 0, .int 0, .long 0, .int 0, .int 0, .int 0, .int 0, .ref q8, .ref q9, .ref q10, .ref q11, .ref q12, .ref q13, .ref q14, .null, .null, .long 0, .long 0])), (q1, .inl (cA1, 6, .inr (.inl (fun _ => 0)))), (q2, .inl (cA2, 6, .inr (.inl (fun _ => 0)))), (q3, .inl (cA3, 120, .inl (fun _ => 0))), (q4, .inl (cA4, 80, .inl (fun _ => 0))), (q5, .inl (cA5, 65, .inl (fun _ => 0))), (q6, .inl (cA6, 65, .inl (fun _ => 0))), (q7, .inl (cA7, 65, .inl (fun _ => 0))), (q8, .inl (cA8, 40, .inl (fun _ => 0))), (q9, .inl (cA9, 40, .inl (fun _ => 0))), (q10, .inl (cA10, 40, .inl (fun _ => 0))), (q11, .inl (cA11, 40, .inr (.inl (fun _ => 0)))), (q12, .inl (cA12, 40, .inl (fun _ => 0))), (q13, .inl (cA13, 40, .inr (.inl (fun _ => 0)))), (q14, .inl (cA14, 40, .inl (fun _ => 0))), (q15, .inl (cA15, 40, .inl (fun _ => 0)))]) := hD
  have hK : va_K (dC, dI) vwCl [(cA1, .long), (cA2, .long), (cA3, .int), (cA4, .int), (cA5, .boolean), (cA6, .int), (cA7, .int), (cA8, .int), (cA9, .int), (cA10, .int), (cA11, .long), (cA12, .int), (cA13, .long), (cA14, .int), (cA15, .int)] s := hK
  refine va_putF (D := (dC, dI)) (ci := 8) (v := .ref q15) (ty := .array .int) (C := "CardMessageDeskModel") (T := T_Mod) (N := 32) hx hb hts in_Mod ty_Mod ty_Mod_ok nm_Mod hown hK hP hD hS 0 rfl rfl 28 (by decide) (hts _ tw528) (fun _ h9 => h9) rfl hin rfl (by decide +kernel) rfl rfl (Nat.le_of_ble_eq_true rfl) d_Mod_init_121 (fun H locs hP hD hS => ?_)
  have hP : va_P (dC, dI) vwCl ([(h0, .inr (8, [.ref q1, .ref q2, .int 0, .int 0, .ref q3, .int 0, .ref q4, .int 0, .int 0, .long 0, .ref q5, .ref q6, .ref q7, .int 0, .long 0, .int 0, .long 0, .int 0, .int 0, .int 0, .int 0, .ref q8, .ref q9, .ref q10, .ref q11, .ref q12, .ref q13, .ref q14, .ref q15, .null, .long 0, .long 0])), (q1, .inl (cA1, 6, .inr (.inl (fun _ => 0)))), (q2, .inl (cA2, 6, .inr (.inl (fun _ => 0)))), (q3, .inl (cA3, 120, .inl (fun _ => 0))), (q4, .inl (cA4, 80, .inl (fun _ => 0))), (q5, .inl (cA5, 65, .inl (fun _ => 0))), (q6, .inl (cA6, 65, .inl (fun _ => 0))), (q7, .inl (cA7, 65, .inl (fun _ => 0))), (q8, .inl (cA8, 40, .inl (fun _ => 0))), (q9, .inl (cA9, 40, .inl (fun _ => 0))), (q10, .inl (cA10, 40, .inl (fun _ => 0))), (q11, .inl (cA11, 40, .inr (.inl (fun _ => 0)))), (q12, .inl (cA12, 40, .inl (fun _ => 0))), (q13, .inl (cA13, 40, .inr (.inl (fun _ => 0)))), (q14, .inl (cA14, 40, .inl (fun _ => 0))), (q15, .inl (cA15, 40, .inl (fun _ => 0)))]) H := hP
  have hD : va_D A ([(h0, .inr (8, [.ref q1, .ref q2, .int 0, .int 0, .ref q3, .int 0, .ref q4, .int 0, .int 0, .long 0, .ref q5, .ref q6, .ref q7, .int 0, .long 0, .int 0, .long 0, .int 0, .int 0, .int 0, .int 0, .ref q8, .ref q9, .ref q10, .ref q11, .ref q12, .ref q13, .ref q14, .ref q15, .null, .long 0, .long 0])), (q1, .inl (cA1, 6, .inr (.inl (fun _ => 0)))), (q2, .inl (cA2, 6, .inr (.inl (fun _ => 0)))), (q3, .inl (cA3, 120, .inl (fun _ => 0))), (q4, .inl (cA4, 80, .inl (fun _ => 0))), (q5, .inl (cA5, 65, .inl (fun _ => 0))), (q6, .inl (cA6, 65, .inl (fun _ => 0))), (q7, .inl (cA7, 65, .inl (fun _ => 0))), (q8, .inl (cA8, 40, .inl (fun _ => 0))), (q9, .inl (cA9, 40, .inl (fun _ => 0))), (q10, .inl (cA10, 40, .inl (fun _ => 0))), (q11, .inl (cA11, 40, .inr (.inl (fun _ => 0)))), (q12, .inl (cA12, 40, .inl (fun _ => 0))), (q13, .inl (cA13, 40, .inr (.inl (fun _ => 0)))), (q14, .inl (cA14, 40, .inl (fun _ => 0))), (q15, .inl (cA15, 40, .inl (fun _ => 0)))]) := hD
  refine lv_aload_n hx hb d_Mod_init_124 rfl (lv_at hl 0 rfl) ?_
  refine lv_bipush (v := 40) hx hb d_Mod_init_125 (by decide) ?_
  refine va_newa (atype := .int) (ty := .int) (N' := 40) (a0 := (40, .inl (fun _ => 0))) hx hb (hts _ tw34) rfl hK hP hD hS hA (fun _ => rfl) (by decide) rfl (by decide) (by decide) (by decide) d_Mod_init_127 (fun q16 cA16 H hK hP hD hS => ?_)
  refine W.widen (k := 16) (n := 767) (by decide) (by decide) ?_
  have hP : va_P (dC, dI) vwCl ([(h0, .inr (8, [.ref q1, .ref q2, .int 0, .int 0, .ref q3, .int 0, .ref q4, .int 0, .int 0, .long 0, .ref q5, .ref q6, .ref q7, .int 0, .long 0, .int 0, .long 0, .int 0, .int 0, .int 0, .int 0, .ref q8, .ref q9, .ref q10, .ref q11, .ref q12, .ref q13, .ref q14, .ref q15, .null, .long 0, .long 0])), (q1, .inl (cA1, 6, .inr (.inl (fun _ => 0)))), (q2, .inl (cA2, 6, .inr (.inl (fun _ => 0)))), (q3, .inl (cA3, 120, .inl (fun _ => 0))), (q4, .inl (cA4, 80, .inl (fun _ => 0))), (q5, .inl (cA5, 65, .inl (fun _ => 0))), (q6, .inl (cA6, 65, .inl (fun _ => 0))), (q7, .inl (cA7, 65, .inl (fun _ => 0))), (q8, .inl (cA8, 40, .inl (fun _ => 0))), (q9, .inl (cA9, 40, .inl (fun _ => 0))), (q10, .inl (cA10, 40, .inl (fun _ => 0))), (q11, .inl (cA11, 40, .inr (.inl (fun _ => 0)))), (q12, .inl (cA12, 40, .inl (fun _ => 0))), (q13, .inl (cA13, 40, .inr (.inl (fun _ => 0)))), (q14, .inl (cA14, 40, .inl (fun _ => 0))), (q15, .inl (cA15, 40, .inl (fun _ => 0))), (q16, .inl (cA16, 40, .inl (fun _ => 0)))]) H := hP
  have hD : va_D A ([(h0, .inr (8, [.ref q1, .ref q2, .int 0, .int 0, .ref q3, .int 0, .ref q4, .int 0, .int 0, .long 0, .ref q5, .ref q6, .ref q7, .int 0, .long 0, .int 0, .long 0, .int 0, .int 0, .int 0, .int 0, .ref q8, .ref q9, .ref q10, .ref q11, .ref q12, .ref q13, .ref q14, .ref q15, .null, .long 0, .long 0])), (q1, .inl (cA1, 6, .inr (.inl (fun _ => 0)))), (q2, .inl (cA2, 6, .inr (.inl (fun _ => 0)))), (q3, .inl (cA3, 120, .inl (fun _ => 0))), (q4, .inl (cA4, 80, .inl (fun _ => 0))), (q5, .inl (cA5, 65, .inl (fun _ => 0))), (q6, .inl (cA6, 65, .inl (fun _ => 0))), (q7, .inl (cA7, 65, .inl (fun _ => 0))), (q8, .inl (cA8, 40, .inl (fun _ => 0))), (q9, .inl (cA9, 40, .inl (fun _ => 0))), (q10, .inl (cA10, 40, .inl (fun _ => 0))), (q11, .inl (cA11, 40, .inr (.inl (fun _ => 0)))), (q12, .inl (cA12, 40, .inl (fun _ => 0))), (q13, .inl (cA13, 40, .inr (.inl (fun _ => 0)))), (q14, .inl (cA14, 40, .inl (fun _ => 0))), (q15, .inl (cA15, 40, .inl (fun _ => 0))), (q16, .inl (cA16, 40, .inl (fun _ => 0)))]) := hD
  have hK : va_K (dC, dI) vwCl [(cA1, .long), (cA2, .long), (cA3, .int), (cA4, .int), (cA5, .boolean), (cA6, .int), (cA7, .int), (cA8, .int), (cA9, .int), (cA10, .int), (cA11, .long), (cA12, .int), (cA13, .long), (cA14, .int), (cA15, .int), (cA16, .int)] s := hK
  refine va_putF (D := (dC, dI)) (ci := 8) (v := .ref q16) (ty := .array .int) (C := "CardMessageDeskModel") (T := T_Mod) (N := 32) hx hb hts in_Mod ty_Mod ty_Mod_ok nm_Mod hown hK hP hD hS 0 rfl rfl 29 (by decide) (hts _ tw529) (fun _ h9 => h9) rfl hin rfl (by decide +kernel) rfl rfl (Nat.le_of_ble_eq_true rfl) d_Mod_init_129 (fun H locs hP hD hS => ?_)
  have hP : va_P (dC, dI) vwCl ([(h0, .inr (8, [.ref q1, .ref q2, .int 0, .int 0, .ref q3, .int 0, .ref q4, .int 0, .int 0, .long 0, .ref q5, .ref q6, .ref q7, .int 0, .long 0, .int 0, .long 0, .int 0, .int 0, .int 0, .int 0, .ref q8, .ref q9, .ref q10, .ref q11, .ref q12, .ref q13, .ref q14, .ref q15, .ref q16, .long 0, .long 0])), (q1, .inl (cA1, 6, .inr (.inl (fun _ => 0)))), (q2, .inl (cA2, 6, .inr (.inl (fun _ => 0)))), (q3, .inl (cA3, 120, .inl (fun _ => 0))), (q4, .inl (cA4, 80, .inl (fun _ => 0))), (q5, .inl (cA5, 65, .inl (fun _ => 0))), (q6, .inl (cA6, 65, .inl (fun _ => 0))), (q7, .inl (cA7, 65, .inl (fun _ => 0))), (q8, .inl (cA8, 40, .inl (fun _ => 0))), (q9, .inl (cA9, 40, .inl (fun _ => 0))), (q10, .inl (cA10, 40, .inl (fun _ => 0))), (q11, .inl (cA11, 40, .inr (.inl (fun _ => 0)))), (q12, .inl (cA12, 40, .inl (fun _ => 0))), (q13, .inl (cA13, 40, .inr (.inl (fun _ => 0)))), (q14, .inl (cA14, 40, .inl (fun _ => 0))), (q15, .inl (cA15, 40, .inl (fun _ => 0))), (q16, .inl (cA16, 40, .inl (fun _ => 0)))]) H := hP
  have hD : va_D A ([(h0, .inr (8, [.ref q1, .ref q2, .int 0, .int 0, .ref q3, .int 0, .ref q4, .int 0, .int 0, .long 0, .ref q5, .ref q6, .ref q7, .int 0, .long 0, .int 0, .long 0, .int 0, .int 0, .int 0, .int 0, .ref q8, .ref q9, .ref q10, .ref q11, .ref q12, .ref q13, .ref q14, .ref q15, .ref q16, .long 0, .long 0])), (q1, .inl (cA1, 6, .inr (.inl (fun _ => 0)))), (q2, .inl (cA2, 6, .inr (.inl (fun _ => 0)))), (q3, .inl (cA3, 120, .inl (fun _ => 0))), (q4, .inl (cA4, 80, .inl (fun _ => 0))), (q5, .inl (cA5, 65, .inl (fun _ => 0))), (q6, .inl (cA6, 65, .inl (fun _ => 0))), (q7, .inl (cA7, 65, .inl (fun _ => 0))), (q8, .inl (cA8, 40, .inl (fun _ => 0))), (q9, .inl (cA9, 40, .inl (fun _ => 0))), (q10, .inl (cA10, 40, .inl (fun _ => 0))), (q11, .inl (cA11, 40, .inr (.inl (fun _ => 0)))), (q12, .inl (cA12, 40, .inl (fun _ => 0))), (q13, .inl (cA13, 40, .inr (.inl (fun _ => 0)))), (q14, .inl (cA14, 40, .inl (fun _ => 0))), (q15, .inl (cA15, 40, .inl (fun _ => 0))), (q16, .inl (cA16, 40, .inl (fun _ => 0)))]) := hD
  exact W.vret hx hb hr (fun t ht hW => ⟨⟨(fun k => match k with | 0 => h0 | 1 => q1 | 2 => q2 | 3 => q3 | 4 => q4 | 5 => q5 | 6 => q6 | 7 => q7 | 8 => q8 | 9 => q9 | 10 => q10 | 11 => q11 | 12 => q12 | 13 => q13 | 14 => q14 | 15 => q15 | 16 => q16 | _ => 0, fun k => match k with | 1 => cA1 | 2 => cA2 | 3 => cA3 | 4 => cA4 | 5 => cA5 | 6 => cA6 | 7 => cA7 | 8 => cA8 | 9 => cA9 | 10 => cA10 | 11 => cA11 | 12 => cA12 | 13 => cA13 | 14 => cA14 | 15 => cA15 | 16 => cA16 | _ => cA1), rfl, trivial, rfl, by rw [ht]; exact hP, va_K.moved hW.alike hK, hD⟩, hS.F ht⟩) hS.2.2 d_Mod_init_132
/-- an array of references that holds n different objects of a pool -/
def PLs (n : Nat) (f : Nat → Option Nat) (L : List Nat) : Prop := ∃ ac : Nat → Nat, (∀ k, k < n → f k = some (ac k) ∧ ac k ∈ L) ∧ ∀ i j, i < n → j < n → ac i = ac j → i = j
theorem PLs_0 {f : Nat → Option Nat} {L : List Nat} : PLs 0 f L := ⟨fun _ => 0, fun k h => absurd h (Nat.not_lt_zero k), fun i _ h => absurd h (Nat.not_lt_zero i)⟩
theorem PLs_s {n : Nat} {f : Nat → Option Nat} {L : List Nat} {q : Nat} (h : PLs n f L) (hq : q ∉ L) : PLs (n + 1) (va_up f n (some q)) (L ++ [q]) := by
  obtain ⟨ac, h1, h2⟩ := h
  refine ⟨va_up ac n q, fun k hk => ?_, fun i j hi hj e => ?_⟩
  · by_cases c : k = n
    · subst c
      rw [va_up_self, va_up_self]
      exact ⟨rfl, List.mem_append_right _ List.mem_cons_self⟩
    · rw [va_up_ne _ _ c, va_up_ne _ _ c]
      obtain ⟨a, b⟩ := h1 k (by omega)
      exact ⟨a, List.mem_append_left _ b⟩
  · by_cases c1 : i = n
    · by_cases c2 : j = n
      · omega
      · rw [c1, va_up_self, va_up_ne _ _ c2] at e
        exact absurd (e ▸ (h1 j (by omega)).2) hq
    · by_cases c2 : j = n
      · rw [c2, va_up_self, va_up_ne _ _ c1] at e
        exact absurd (e ▸ (h1 i (by omega)).2) hq
      · rw [va_up_ne _ _ c1, va_up_ne _ _ c2] at e
        exact h2 i j (by omega) (by omega) e

set_option maxHeartbeats 4000000 in
set_option maxRecDepth 100000 in
theorem ci_Req (l : Launch) (dC : Nat → ClassId) (dI : Nat → Nat → Nat) (h0 sz : Nat) (r0 : Nat) : Met l y_Req_init w_Req_init ({ frames := 2, cells := 1, slots := 3, locals := 33 }) (va_Pc [.ref h0, .ref r0] (iPre dC dI sz [(h0, .inr (6, [.null, .int 0, .long 0, .long 0, .int 0, .long 0, .int 0, .int 0, .int 0, .int 0]))])) (va_Qv (fun _ : Nat => True) (fun u t => iAt dC dI (va_A [(h0, .inr (6, [.null, .int 0, .long 0, .long 0, .int 0, .long 0, .int 0, .int 0, .int 0, .int 0]))] sz) ([(h0, .inr (6, [.ref u, .int 0, .long 0, .long 0, .int 0, .long 0, .int 0, .int 0, .int 0, .int 0])), (u, .inr (5, [.ref r0, .int 0, .int 1]))]) [] t) (va_A [(h0, .inr (6, [.null, .int 0, .long 0, .long 0, .int 0, .long 0, .int 0, .int 0, .int 0, .int 0]))] sz)) 1 3 (va_A [(h0, .inr (6, [.null, .int 0, .long 0, .long 0, .int 0, .long 0, .int 0, .int 0, .int 0, .int 0]))] sz) := by
  refine Met.ofW (cc := prog_8_method_1_code) (maxL := 2) (ret := none) (by decide) rfl ?_
  intro p e s m args below meth c s₁ B hml hv
  obtain ⟨rfl, hsz, hP, hK, hD0, hN⟩ := hv
  have hx := B.exec
  have hb := B.bytes
  have hr := B.returns
  have hts0 := atoms_spec (ws := w_Req_init) B.pre
  have hts : ∀ w ∈ gt, w.before _ s = true := fun w h => hts0 w (List.mem_cons_of_mem _ h)
  have hown : s.vm.findClass "CardMessageDesk$Request" = some m.cls := findClass_of_methodNamed B.named
  have hlocks := B.notSynchronized
  have hin : meth.name = "<init>" := (name_of_methodNamed B.named B.method).1
  subst hsz
  have hD := hD0.self (sz := s.heap.size)
  generalize hAe : va_A [(h0, .inr (6, [.null, .int 0, .long 0, .long 0, .int 0, .long 0, .int 0, .int 0, .int 0, .int 0]))] s.heap.size = A at hD ⊢
  have hA : ∀ q : Nat, s.heap.size ≤ q → A q := fun q h => by rw [← hAe]; exact Or.inr h
  have hS : va_S A s.heap s.heap [] := va_S.rf
  have hl := lv_entry ([.ref h0, .ref r0]) (n := 2) (Nat.le_of_ble_eq_true rfl)
  rw [lg_entry_eq]
  generalize (lg_sl ([.ref h0, .ref r0]) ++ List.replicate (2 - (lg_sl ([.ref h0, .ref r0])).length) Slot.unset).toArray = ls at hl ⊢
  have hl : lv_has ls 2 [(0, .ref h0), (1, .ref r0)] := hl
  refine lv_aload_n hx hb d_Req_init_0 rfl (lv_at hl 0 rfl) ?_
  refine W.objInit hx hb hown (hts _ tw40) (hts _ tw17) (hts _ tw18) rfl (by rw [hml]; exact hl.1) rfl d_Req_init_1 (Nat.le_of_ble_eq_true rfl) (Nat.le_of_ble_eq_true rfl) ?_
  refine W.eq (g2 := F0 m 4 ls []) rfl ?_
  refine lv_aload_n hx hb d_Req_init_4 rfl (lv_at hl 0 rfl) ?_
  refine va_new (ci := 5) (fs := [.null, .int 0, .int 0]) (C := "CardMessageDesk$Reader") (T := T_Rdr) (N := 3) hx hb hts in_Rdr ty_Rdr ty_Rdr_ok hown (hts _ tw41) (hts _ tw42) (hts _ tw4) hK hP hD hS hA rfl (by decide +kernel) (by decide) (by decide) d_Req_init_5 (fun q1 H hP hD hS => ?_)
  refine W.widen (k := 1) (n := 3) (by decide) (by decide) ?_
  have hP : va_P (dC, dI) vwCl ([(h0, .inr (6, [.null, .int 0, .long 0, .long 0, .int 0, .long 0, .int 0, .int 0, .int 0, .int 0])), (q1, .inr (5, [.null, .int 0, .int 0]))]) H := hP
  have hD : va_D A ([(h0, .inr (6, [.null, .int 0, .long 0, .long 0, .int 0, .long 0, .int 0, .int 0, .int 0, .int 0])), (q1, .inr (5, [.null, .int 0, .int 0]))]) := hD
  refine lv_dup hx hb d_Req_init_8 rfl ?_
  refine lv_aload_n hx hb d_Req_init_9 rfl (lv_at hl 1 rfl) ?_
  have hPc := hP.sub (ws' := [(q1, .inr (5, [.null, .int 0, .int 0]))]) [1] rfl
  have hDc := hD.sub (ws' := [(q1, .inr (5, [.null, .int 0, .int 0]))]) [1] (by decide) rfl
  have hFc := va_free (wc := [(q1, .inr (5, [.null, .int 0, .int 0]))]) hD hS hA [1] rfl
  refine va_callv (va_runI (As := [.ref r0]) (rest := [.ref q1, .ref h0]) ⟨hx, hb, hml, hown, hts⟩ (ci_Rdr l dC dI q1 H.size r0) (cwI 1 hts (gt_c tw45) rfl rfl rfl (hts _ tw4) (hts _ tw43) (hts _ tw44) rfl (by decide +kernel) ⟨Nat.le_of_ble_eq_true rfl, Nat.le_of_ble_eq_true rfl⟩) ⟨iBl, fun U hU hW => ⟨rfl, iPr hPc hK hDc hN hU hW⟩⟩ rfl rfl hl.1 rfl (lv_room (Nat.le_of_ble_eq_true rfl)) d_Req_init_10 ⟨Nat.le_of_ble_eq_true rfl, Nat.le_of_ble_eq_true rfl⟩) hS (fun q _ h => hFc q h) hFc (fun u t H1 locs ht hvm hpost hB hz1 hk1 hS => ?_)
  obtain ⟨hP1, hK1, hD1⟩ := hB
  rw [ht] at hP1
  have hK1 := va_K.moved hvm.symm hK1
  obtain ⟨hP, hD⟩ := va_join (wr := [(h0, .inr (6, [.null, .int 0, .long 0, .long 0, .int 0, .long 0, .int 0, .int 0, .int 0, .int 0]))]) (w1 := [(q1, .inr (5, [.ref r0, .int 0, .int 1]))]) hP hD [1] [0] rfl rfl (by decide) (by decide) hk1 hFc hP1 hD1
  have hK := hK.app hK1
  generalize H1 = H at hP hS ⊢
  have hK : va_K (dC, dI) vwCl [] s := hK
  have hP : va_P (dC, dI) vwCl ([(h0, .inr (6, [.null, .int 0, .long 0, .long 0, .int 0, .long 0, .int 0, .int 0, .int 0, .int 0])), (q1, .inr (5, [.ref r0, .int 0, .int 1]))]) H := hP
  have hD : va_D A ([(h0, .inr (6, [.null, .int 0, .long 0, .long 0, .int 0, .long 0, .int 0, .int 0, .int 0, .int 0])), (q1, .inr (5, [.ref r0, .int 0, .int 1]))]) := hD
  refine va_putF (D := (dC, dI)) (ci := 6) (v := .ref q1) (ty := .object "CardMessageDesk$Reader") (C := "CardMessageDesk$Request") (T := T_Req) (N := 10) hx hb hts in_Req ty_Req ty_Req_ok nm_Req hown hK hP hD hS 0 rfl rfl 0 (by decide) (hts _ tw58) (fun _ h9 => h9) rfl hin rfl (by decide +kernel) rfl rfl (Nat.le_of_ble_eq_true rfl) d_Req_init_13 (fun H locs hP hD hS => ?_)
  have hP : va_P (dC, dI) vwCl ([(h0, .inr (6, [.ref q1, .int 0, .long 0, .long 0, .int 0, .long 0, .int 0, .int 0, .int 0, .int 0])), (q1, .inr (5, [.ref r0, .int 0, .int 1]))]) H := hP
  have hD : va_D A ([(h0, .inr (6, [.ref q1, .int 0, .long 0, .long 0, .int 0, .long 0, .int 0, .int 0, .int 0, .int 0])), (q1, .inr (5, [.ref r0, .int 0, .int 1]))]) := hD
  exact W.vret hx hb hr (fun t ht hW => ⟨⟨q1, rfl, trivial, by rw [ht]; exact hP, va_K.moved hW.alike hK, hD⟩, hS.F ht⟩) hS.2.2 d_Req_init_16
set_option maxHeartbeats 4000000 in
set_option maxRecDepth 100000 in
theorem ci_Crd_L {p : Program} {l : Launch} {e : Env} {s : State} {m : MethodId} {args : Array Value} {below : List Frame} {meth : Method} {c : Code} {dC : Nat → ClassId} {dI : Nat → Nat → Nat} {A : Nat → Prop} {h0 q1 : Nat} {cA1 : ClassId} (hx : p.tables.exec = Jvm.exec) (hb : c.code = prog_4_method_1_code) (hr : meth.sig.returnType = none) (hlocks : meth.locks = false) (hml : c.maxLocals = 2) (hown : s.vm.findClass "CardMessageDesk$Cards" = some m.cls) (hts : ∀ w ∈ gt, w.before args s = true) (hN : nx s) (hA : ∀ q : Nat, s.heap.size ≤ q → A q) (hK : va_K (dC, dI) vwCl [(cA1, .object "CardMessageDesk$Account")] s) :
    ∀ (n k : Nat) (L : List Nat) (f : Nat → Option Nat) (H : Heap) (locs : List Loc) (ls : Array Slot), k + n = 6 → PLs k f L → va_P (dC, dI) vwCl ([(h0, .inr (2, [.ref q1, .int 0])), (q1, .inl (cA1, 6, .inr (.inr (.inr (.inr f)))))] ++ va_pl L (fun _ => .inr (0, [.long 0, .long 0]))) H → va_D A ([(h0, .inr (2, [.ref q1, .int 0])), (q1, .inl (cA1, 6, .inr (.inr (.inr (.inr f)))))] ++ va_pl L (fun _ => .inr (0, [.long 0, .long 0]))) → va_S A s.heap H locs → lv_has ls 2 [(1, .int (nI k)), (0, .ref h0)] → W p l e ({ frames := 2, cells := 7, slots := 18, locals := 32 }) s m args below meth c H locs (1 + k) (6 + 2 * k) (MQ below (va_Qv (fun u : Nat × ClassId × List Nat × (Nat → Option Nat) => PLs 6 u.2.2.2 u.2.2.1) (fun u t => iAt dC dI A ([(h0, .inr (2, [.ref u.1, .int 0])), (u.1, .inl (u.2.1, 6, .inr (.inr (.inr (.inr u.2.2.2)))))] ++ va_pl u.2.2.1 (fun _ => .inr (0, [.long 0, .long 0]))) [(u.2.1, .object "CardMessageDesk$Account")] t) A) args s 7 18 A) (F0 m 15 ls []) := by
  intro n
  induction n with
  | zero =>
    intro k L f H locs ls hkn hPL hP hD hS hl
    refine lv_iload_n hx hb d_Crd_init_15 rfl (lv_at hl 0 rfl) ?_
    refine lv_bipush (v := 6) hx hb d_Crd_init_16 (by decide) ?_
    refine lv_icmp_ge (tgt := 40) hx hb d_Crd_init_18 (by decide) (fun c_1 => ?_) (fun c_1 => ?_)
    · have hk : k = 6 := by omega
      subst hk
      refine lv_aload_n hx hb d_Crd_init_40 rfl (lv_at hl 1 rfl) ?_
      refine lv_iconst (v := 0) hx hb d_Crd_init_41 (by decide) ?_
      refine va_put (D := (dC, dI)) (ci := 2) (v := .int 0) (ty := .int) (C := "CardMessageDesk$Cards") (T := T_Crd) (N := 2) hx hb hts in_Crd ty_Crd ty_Crd_ok nm_Crd hown hK hP hD hS 0 rfl rfl 1 (by decide) (hts _ tw128) (fun _ h9 => h9) rfl (by decide +kernel) rfl rfl (Nat.le_of_ble_eq_true rfl) d_Crd_init_42 (fun H locs hP hD hS => ?_)
      have hP : va_P (dC, dI) vwCl ([(h0, .inr (2, [.ref q1, .int 0])), (q1, .inl (cA1, 6, .inr (.inr (.inr (.inr f)))))] ++ va_pl L (fun _ => .inr (0, [.long 0, .long 0]))) H := hP
      have hD : va_D A ([(h0, .inr (2, [.ref q1, .int 0])), (q1, .inl (cA1, 6, .inr (.inr (.inr (.inr f)))))] ++ va_pl L (fun _ => .inr (0, [.long 0, .long 0]))) := hD
      exact W.vret hx hb hr (fun t ht hW => ⟨⟨(q1, cA1, L, f), rfl, hPL, by rw [ht]; exact hP, va_K.moved hW.alike hK, hD⟩, hS.F ht⟩) hS.2.2 d_Crd_init_45
    · exact absurd (nI_le (a := 6) (b := k) (by omega) (by omega)) c_1
  | succ n ih =>
    intro k L f H locs ls hkn hPL hP hD hS hl
    refine lv_iload_n hx hb d_Crd_init_15 rfl (lv_at hl 0 rfl) ?_
    refine lv_bipush (v := 6) hx hb d_Crd_init_16 (by decide) ?_
    refine lv_icmp_ge (tgt := 40) hx hb d_Crd_init_18 (by decide) (fun c_1 => ?_) (fun c_1 => ?_)
    · exact absurd c_1 (nI_ge (a := k) (b := 6) (by omega) (by decide))
    · skip
      refine lv_aload_n hx hb d_Crd_init_21 rfl (lv_at hl 1 rfl) ?_
      refine va_get (D := (dC, dI)) (ci := 2) (v := .ref q1) (C := "CardMessageDesk$Cards") (T := T_Crd) (N := 2) hx hb hts in_Crd hown hK hP 0 rfl rfl 0 (by decide) (hts _ tw127) (fun _ h9 => h9) rfl d_Crd_init_22 ?_
      refine lv_iload_n hx hb d_Crd_init_25 rfl (lv_at hl 0 rfl) ?_
      refine va_new (ci := 0) (fs := [.long 0, .long 0]) (C := "CardMessageDesk$Account") (T := T_Acc) (N := 2) hx hb hts in_Acc ty_Acc ty_Acc_ok hown (hts _ tw110) (hts _ tw112) (hts _ tw6) hK hP hD hS hA rfl (by decide +kernel) (show 1 + k + 1 ≤ 7 by omega) (show 6 + 2 * k + 2 ≤ 18 by omega) d_Crd_init_26 (fun qn H hP hD hS => ?_)
      have hq : qn ∉ L := va_pl_fresh2 hD
      have hP := hP.swap
      have hD := hD.swap
      have hP : va_P (dC, dI) vwCl ([(h0, .inr (2, [.ref q1, .int 0])), (q1, .inl (cA1, 6, .inr (.inr (.inr (.inr f))))), (qn, .inr (0, [.long 0, .long 0]))] ++ va_pl L (fun _ => .inr (0, [.long 0, .long 0]))) H := hP
      have hD : va_D A ([(h0, .inr (2, [.ref q1, .int 0])), (q1, .inl (cA1, 6, .inr (.inr (.inr (.inr f))))), (qn, .inr (0, [.long 0, .long 0]))] ++ va_pl L (fun _ => .inr (0, [.long 0, .long 0]))) := hD
      refine lv_dup hx hb d_Crd_init_29 rfl ?_
      have hPc := hP.sub (ws' := [(qn, .inr (0, [.long 0, .long 0]))]) [2] rfl
      have hDc := hD.sub (ws' := [(qn, .inr (0, [.long 0, .long 0]))]) [2] (by decide) rfl
      have hFc := va_free (wc := [(qn, .inr (0, [.long 0, .long 0]))]) hD hS hA [2] rfl
      refine va_callv (va_runIN (As := []) (rest := [.ref qn, .int (nI k), .ref q1]) ⟨hx, hb, hml, hown, hts⟩ (ci_Acc l dC dI qn H.size) ⟨va_cnB 0 hts (gt_c tw115) rfl rfl rfl (nw_m hN.1 (i := 0) rfl) (hts _ tw6) (by decide +kernel) ⟨Nat.le_of_ble_eq_true rfl, Nat.le_of_ble_eq_true rfl⟩, rfl, hts _ tw114⟩ ⟨iBl, fun U hU hW => ⟨rfl, iPr hPc hK hDc hN hU hW⟩⟩ rfl rfl hl.1 rfl (lv_room (Nat.le_of_ble_eq_true rfl)) d_Crd_init_30 ⟨(show 1 + k + 1 + 0 ≤ 7 by omega), (show 6 + 2 * k + 2 + 0 ≤ 18 by omega)⟩) hS (fun q _ h => hFc q h) hFc (fun u t H1 locs ht hvm hpost hB hz1 hk1 hS => ?_)
      obtain ⟨hP1, hK1, hD1⟩ := hB
      rw [ht] at hP1
      have hK1 := va_K.moved hvm.symm hK1
      obtain ⟨hP, hD⟩ := va_joinQ (X := [(h0, .inr (2, [.ref q1, .int 0])), (q1, .inl (cA1, 6, .inr (.inr (.inr (.inr f))))), (qn, .inr (0, [.long 0, .long 0]))]) (pl := va_pl L (fun _ => .inr (0, [.long 0, .long 0]))) (wr := [(h0, .inr (2, [.ref q1, .int 0])), (q1, .inl (cA1, 6, .inr (.inr (.inr (.inr f)))))]) (w1 := [(qn, .inr (0, [.long 0, .long 0]))]) hP hD [2] [0, 1] rfl rfl (by decide) (by decide) hk1 hFc hP1 hD1
      have hK := hK.app hK1
      generalize H1 = H at hP hS ⊢
      have hK : va_K (dC, dI) vwCl [(cA1, .object "CardMessageDesk$Account")] s := hK
      have hP := hP.swap
      have hD := hD.swap
      have hE : ([(h0, .inr (2, [.ref q1, .int 0])), (q1, .inl (cA1, 6, .inr (.inr (.inr (.inr f)))))] ++ va_pl L (fun _ => .inr (0, [.long 0, .long 0]))) ++ [(qn, .inr (0, [.long 0, .long 0]))] = [(h0, .inr (2, [.ref q1, .int 0])), (q1, .inl (cA1, 6, .inr (.inr (.inr (.inr f)))))] ++ va_pl (L ++ [qn]) (fun _ => .inr (0, [.long 0, .long 0])) := by
        rw [List.append_assoc, va_pl_push hq]
        congr 1
        refine va_pl_congr (fun b => ?_)
        by_cases hb9 : b = qn
        · subst hb9
          rw [va_up_self]
        · rw [va_up_ne _ _ hb9]
      rw [hE] at hP hD
      obtain ⟨kx, hkx⟩ := va_pl_get (X := [(h0, .inr (2, [.ref q1, .int 0])), (q1, .inl (cA1, 6, .inr (.inr (.inr (.inr f)))))]) (f := fun _ => .inr (0, [.long 0, .long 0])) (show qn ∈ L ++ [qn] from List.mem_append_right _ List.mem_cons_self)
      have hK : va_K (dC, dI) vwCl [(cA1, .object "CardMessageDesk$Account")] s := hK
      refine va_astq hx hb hK hP hD hS 1 0 kx 0 rfl rfl hkx rfl (nI_in (show k < 6 by omega) (by decide)) d_Crd_init_33 (fun H locs hP hD hS => ?_)
      rw [nI_clamp (by omega)] at hP hD
      refine lv_iinc (v := nI k + 1) (lv' := [(1, .int (nI k + 1)), (0, .ref h0)]) hx hb d_Crd_init_34 hl (k := 0) rfl rfl (by decide) rfl (fun ls hl => ?_)
      refine lv_goto (tgt := 15) hx hb d_Crd_init_37 (by decide) ?_
      rw [nI_1] at hl
      have ih := ih (k + 1) (L ++ [qn]) (va_up f k (some qn)) H locs ls (by omega) (PLs_s hPL hq) hP hD hS hl
      have e1 : 1 + (k + 1) = 1 + k + 1 := by omega
      have e2 : 6 + 2 * (k + 1) = 6 + 2 * k + 2 := by omega
      rw [e1, e2] at ih
      exact ih
set_option maxHeartbeats 4000000 in
set_option maxRecDepth 100000 in
theorem ci_Crd (l : Launch) (dC : Nat → ClassId) (dI : Nat → Nat → Nat) (h0 sz : Nat)  : Met l y_Crd_init w_Crd_init ({ frames := 2, cells := 7, slots := 18, locals := 32 }) (va_Pc [.ref h0] (iPre dC dI sz [(h0, .inr (2, [.null, .int 0]))])) (va_Qv (fun u : Nat × ClassId × List Nat × (Nat → Option Nat) => PLs 6 u.2.2.2 u.2.2.1) (fun u t => iAt dC dI (va_A [(h0, .inr (2, [.null, .int 0]))] sz) ([(h0, .inr (2, [.ref u.1, .int 0])), (u.1, .inl (u.2.1, 6, .inr (.inr (.inr (.inr u.2.2.2)))))] ++ va_pl u.2.2.1 (fun _ => .inr (0, [.long 0, .long 0]))) [(u.2.1, .object "CardMessageDesk$Account")] t) (va_A [(h0, .inr (2, [.null, .int 0]))] sz)) 7 18 (va_A [(h0, .inr (2, [.null, .int 0]))] sz) := by
  refine Met.ofW (cc := prog_4_method_1_code) (maxL := 2) (ret := none) (by decide) rfl ?_
  intro p e s m args below meth c s₁ B hml hv
  obtain ⟨rfl, hsz, hP, hK, hD0, hN⟩ := hv
  have hx := B.exec
  have hb := B.bytes
  have hr := B.returns
  have hts0 := atoms_spec (ws := w_Crd_init) B.pre
  have hts : ∀ w ∈ gt, w.before _ s = true := fun w h => hts0 w (List.mem_cons_of_mem _ h)
  have hown : s.vm.findClass "CardMessageDesk$Cards" = some m.cls := findClass_of_methodNamed B.named
  have hlocks := B.notSynchronized
  have hin : meth.name = "<init>" := (name_of_methodNamed B.named B.method).1
  subst hsz
  have hD := hD0.self (sz := s.heap.size)
  generalize hAe : va_A [(h0, .inr (2, [.null, .int 0]))] s.heap.size = A at hD ⊢
  have hA : ∀ q : Nat, s.heap.size ≤ q → A q := fun q h => by rw [← hAe]; exact Or.inr h
  have hS : va_S A s.heap s.heap [] := va_S.rf
  have hl := lv_entry ([.ref h0]) (n := 2) (Nat.le_of_ble_eq_true rfl)
  rw [lg_entry_eq]
  generalize (lg_sl ([.ref h0]) ++ List.replicate (2 - (lg_sl ([.ref h0])).length) Slot.unset).toArray = ls at hl ⊢
  have hl : lv_has ls 2 [(0, .ref h0)] := hl
  refine lv_aload_n hx hb d_Crd_init_0 rfl (lv_at hl 0 rfl) ?_
  refine W.objInit hx hb hown (hts _ tw109) (hts _ tw17) (hts _ tw18) rfl (by rw [hml]; exact hl.1) rfl d_Crd_init_1 (Nat.le_of_ble_eq_true rfl) (Nat.le_of_ble_eq_true rfl) ?_
  refine W.eq (g2 := F0 m 4 ls []) rfl ?_
  refine lv_aload_n hx hb d_Crd_init_4 rfl (lv_at hl 0 rfl) ?_
  refine lv_bipush (v := 6) hx hb d_Crd_init_5 (by decide) ?_
  refine va_newq (C := "CardMessageDesk$Account") (N' := 6) hx hb hown (hts _ tw110) hN.2.1 hK hP hD hS hA (by decide) rfl (by decide) (by decide) (by decide) d_Crd_init_7 (fun q1 cA1 H hK hP hD hS => ?_)
  refine W.widen (k := 1) (n := 6) (by decide) (by decide) ?_
  have hP : va_P (dC, dI) vwCl ([(h0, .inr (2, [.null, .int 0])), (q1, .inl (cA1, 6, .inr (.inr (.inr (.inr (fun _ => none))))))]) H := hP
  have hD : va_D A ([(h0, .inr (2, [.null, .int 0])), (q1, .inl (cA1, 6, .inr (.inr (.inr (.inr (fun _ => none))))))]) := hD
  have hK : va_K (dC, dI) vwCl [(cA1, .object "CardMessageDesk$Account")] s := hK
  refine va_putF (D := (dC, dI)) (ci := 2) (v := .ref q1) (ty := .array (.object "CardMessageDesk$Account")) (C := "CardMessageDesk$Cards") (T := T_Crd) (N := 2) hx hb hts in_Crd ty_Crd ty_Crd_ok nm_Crd hown hK hP hD hS 0 rfl rfl 0 (by decide) (hts _ tw127) (fun _ h9 => h9) rfl hin rfl (by decide +kernel) rfl rfl (Nat.le_of_ble_eq_true rfl) d_Crd_init_10 (fun H locs hP hD hS => ?_)
  have hP : va_P (dC, dI) vwCl ([(h0, .inr (2, [.ref q1, .int 0])), (q1, .inl (cA1, 6, .inr (.inr (.inr (.inr (fun _ => none))))))]) H := hP
  have hD : va_D A ([(h0, .inr (2, [.ref q1, .int 0])), (q1, .inl (cA1, 6, .inr (.inr (.inr (.inr (fun _ => none))))))]) := hD
  refine lv_iconst (v := 0) hx hb d_Crd_init_13 (by decide) ?_
  refine lv_istore_n (lv' := [(1, .int 0), (0, .ref h0)]) hx hb d_Crd_init_14 rfl hl (by decide) rfl (fun ls hl => ?_)
  exact ci_Crd_L hx hb hr hlocks hml hown hts hN hA hK 6 0 [] (fun _ => none) _ _ ls (by decide) PLs_0 (by rw [show va_pl [] (fun _ => (.inr (0, [.long 0, .long 0]) : va_E)) = [] from rfl, List.append_nil]; exact hP) (by rw [show va_pl [] (fun _ => (.inr (0, [.long 0, .long 0]) : va_E)) = [] from rfl, List.append_nil]; exact hD) hS hl
set_option maxHeartbeats 4000000 in
set_option maxRecDepth 100000 in
theorem ci_Jou_L {p : Program} {l : Launch} {e : Env} {s : State} {m : MethodId} {args : Array Value} {below : List Frame} {meth : Method} {c : Code} {dC : Nat → ClassId} {dI : Nat → Nat → Nat} {A : Nat → Prop} {h0 q1 : Nat} {cA1 : ClassId} (hx : p.tables.exec = Jvm.exec) (hb : c.code = prog_6_method_1_code) (hr : meth.sig.returnType = none) (hlocks : meth.locks = false) (hml : c.maxLocals = 2) (hown : s.vm.findClass "CardMessageDesk$Journal" = some m.cls) (hts : ∀ w ∈ gt, w.before args s = true) (hN : nx s) (hA : ∀ q : Nat, s.heap.size ≤ q → A q) (hK : va_K (dC, dI) vwCl [(cA1, .object "CardMessageDesk$Entry")] s) :
    ∀ (n k : Nat) (L : List Nat) (f : Nat → Option Nat) (H : Heap) (locs : List Loc) (ls : Array Slot), k + n = 32 → PLs k f L → va_P (dC, dI) vwCl ([(h0, .inr (4, [.ref q1, .int 0, .long 0])), (q1, .inl (cA1, 32, .inr (.inr (.inr (.inr f)))))] ++ va_pl L (fun _ => .inr (3, [.int 0, .int 0, .int 0, .long 0, .int 0, .long 0, .int 0, .int 0, .long 0]))) H → va_D A ([(h0, .inr (4, [.ref q1, .int 0, .long 0])), (q1, .inl (cA1, 32, .inr (.inr (.inr (.inr f)))))] ++ va_pl L (fun _ => .inr (3, [.int 0, .int 0, .int 0, .long 0, .int 0, .long 0, .int 0, .int 0, .long 0]))) → va_S A s.heap H locs → lv_has ls 2 [(1, .int (nI k)), (0, .ref h0)] → W p l e ({ frames := 2, cells := 33, slots := 320, locals := 32 }) s m args below meth c H locs (1 + k) (32 + 9 * k) (MQ below (va_Qv (fun u : Nat × ClassId × List Nat × (Nat → Option Nat) => PLs 32 u.2.2.2 u.2.2.1) (fun u t => iAt dC dI A ([(h0, .inr (4, [.ref u.1, .int 0, .long 0])), (u.1, .inl (u.2.1, 32, .inr (.inr (.inr (.inr u.2.2.2)))))] ++ va_pl u.2.2.1 (fun _ => .inr (3, [.int 0, .int 0, .int 0, .long 0, .int 0, .long 0, .int 0, .int 0, .long 0]))) [(u.2.1, .object "CardMessageDesk$Entry")] t) A) args s 33 320 A) (F0 m 15 ls []) := by
  intro n
  induction n with
  | zero =>
    intro k L f H locs ls hkn hPL hP hD hS hl
    refine lv_iload_n hx hb d_Jou_init_15 rfl (lv_at hl 0 rfl) ?_
    refine lv_bipush (v := 32) hx hb d_Jou_init_16 (by decide) ?_
    refine lv_icmp_ge (tgt := 40) hx hb d_Jou_init_18 (by decide) (fun c_1 => ?_) (fun c_1 => ?_)
    · have hk : k = 32 := by omega
      subst hk
      refine lv_aload_n hx hb d_Jou_init_40 rfl (lv_at hl 1 rfl) ?_
      refine lv_iconst (v := 0) hx hb d_Jou_init_41 (by decide) ?_
      refine va_put (D := (dC, dI)) (ci := 4) (v := .int 0) (ty := .int) (C := "CardMessageDesk$Journal") (T := T_Jou) (N := 3) hx hb hts in_Jou ty_Jou ty_Jou_ok nm_Jou hown hK hP hD hS 0 rfl rfl 1 (by decide) (hts _ tw186) (fun _ h9 => h9) rfl (by decide +kernel) rfl rfl (Nat.le_of_ble_eq_true rfl) d_Jou_init_42 (fun H locs hP hD hS => ?_)
      have hP : va_P (dC, dI) vwCl ([(h0, .inr (4, [.ref q1, .int 0, .long 0])), (q1, .inl (cA1, 32, .inr (.inr (.inr (.inr f)))))] ++ va_pl L (fun _ => .inr (3, [.int 0, .int 0, .int 0, .long 0, .int 0, .long 0, .int 0, .int 0, .long 0]))) H := hP
      have hD : va_D A ([(h0, .inr (4, [.ref q1, .int 0, .long 0])), (q1, .inl (cA1, 32, .inr (.inr (.inr (.inr f)))))] ++ va_pl L (fun _ => .inr (3, [.int 0, .int 0, .int 0, .long 0, .int 0, .long 0, .int 0, .int 0, .long 0]))) := hD
      refine lv_aload_n hx hb d_Jou_init_45 rfl (lv_at hl 1 rfl) ?_
      refine lv_lconst (v := 0) hx hb d_Jou_init_46 (by decide) ?_
      refine va_put (D := (dC, dI)) (ci := 4) (v := .long 0) (ty := .long) (C := "CardMessageDesk$Journal") (T := T_Jou) (N := 3) hx hb hts in_Jou ty_Jou ty_Jou_ok nm_Jou hown hK hP hD hS 0 rfl rfl 2 (by decide) (hts _ tw188) (fun _ h9 => h9) rfl (by decide +kernel) rfl rfl (Nat.le_of_ble_eq_true rfl) d_Jou_init_47 (fun H locs hP hD hS => ?_)
      have hP : va_P (dC, dI) vwCl ([(h0, .inr (4, [.ref q1, .int 0, .long 0])), (q1, .inl (cA1, 32, .inr (.inr (.inr (.inr f)))))] ++ va_pl L (fun _ => .inr (3, [.int 0, .int 0, .int 0, .long 0, .int 0, .long 0, .int 0, .int 0, .long 0]))) H := hP
      have hD : va_D A ([(h0, .inr (4, [.ref q1, .int 0, .long 0])), (q1, .inl (cA1, 32, .inr (.inr (.inr (.inr f)))))] ++ va_pl L (fun _ => .inr (3, [.int 0, .int 0, .int 0, .long 0, .int 0, .long 0, .int 0, .int 0, .long 0]))) := hD
      exact W.vret hx hb hr (fun t ht hW => ⟨⟨(q1, cA1, L, f), rfl, hPL, by rw [ht]; exact hP, va_K.moved hW.alike hK, hD⟩, hS.F ht⟩) hS.2.2 d_Jou_init_50
    · exact absurd (nI_le (a := 32) (b := k) (by omega) (by omega)) c_1
  | succ n ih =>
    intro k L f H locs ls hkn hPL hP hD hS hl
    refine lv_iload_n hx hb d_Jou_init_15 rfl (lv_at hl 0 rfl) ?_
    refine lv_bipush (v := 32) hx hb d_Jou_init_16 (by decide) ?_
    refine lv_icmp_ge (tgt := 40) hx hb d_Jou_init_18 (by decide) (fun c_1 => ?_) (fun c_1 => ?_)
    · exact absurd c_1 (nI_ge (a := k) (b := 32) (by omega) (by decide))
    · skip
      refine lv_aload_n hx hb d_Jou_init_21 rfl (lv_at hl 1 rfl) ?_
      refine va_get (D := (dC, dI)) (ci := 4) (v := .ref q1) (C := "CardMessageDesk$Journal") (T := T_Jou) (N := 3) hx hb hts in_Jou hown hK hP 0 rfl rfl 0 (by decide) (hts _ tw185) (fun _ h9 => h9) rfl d_Jou_init_22 ?_
      refine lv_iload_n hx hb d_Jou_init_25 rfl (lv_at hl 0 rfl) ?_
      refine va_new (ci := 3) (fs := [.int 0, .int 0, .int 0, .long 0, .int 0, .long 0, .int 0, .int 0, .long 0]) (C := "CardMessageDesk$Entry") (T := T_Ent) (N := 9) hx hb hts in_Ent ty_Ent ty_Ent_ok hown (hts _ tw140) (hts _ tw142) (hts _ tw8) hK hP hD hS hA rfl (by decide +kernel) (show 1 + k + 1 ≤ 33 by omega) (show 32 + 9 * k + 9 ≤ 320 by omega) d_Jou_init_26 (fun qn H hP hD hS => ?_)
      have hq : qn ∉ L := va_pl_fresh2 hD
      have hP := hP.swap
      have hD := hD.swap
      have hP : va_P (dC, dI) vwCl ([(h0, .inr (4, [.ref q1, .int 0, .long 0])), (q1, .inl (cA1, 32, .inr (.inr (.inr (.inr f))))), (qn, .inr (3, [.int 0, .int 0, .int 0, .long 0, .int 0, .long 0, .int 0, .int 0, .long 0]))] ++ va_pl L (fun _ => .inr (3, [.int 0, .int 0, .int 0, .long 0, .int 0, .long 0, .int 0, .int 0, .long 0]))) H := hP
      have hD : va_D A ([(h0, .inr (4, [.ref q1, .int 0, .long 0])), (q1, .inl (cA1, 32, .inr (.inr (.inr (.inr f))))), (qn, .inr (3, [.int 0, .int 0, .int 0, .long 0, .int 0, .long 0, .int 0, .int 0, .long 0]))] ++ va_pl L (fun _ => .inr (3, [.int 0, .int 0, .int 0, .long 0, .int 0, .long 0, .int 0, .int 0, .long 0]))) := hD
      refine lv_dup hx hb d_Jou_init_29 rfl ?_
      have hPc := hP.sub (ws' := [(qn, .inr (3, [.int 0, .int 0, .int 0, .long 0, .int 0, .long 0, .int 0, .int 0, .long 0]))]) [2] rfl
      have hDc := hD.sub (ws' := [(qn, .inr (3, [.int 0, .int 0, .int 0, .long 0, .int 0, .long 0, .int 0, .int 0, .long 0]))]) [2] (by decide) rfl
      have hFc := va_free (wc := [(qn, .inr (3, [.int 0, .int 0, .int 0, .long 0, .int 0, .long 0, .int 0, .int 0, .long 0]))]) hD hS hA [2] rfl
      refine va_callv (va_runIN (As := []) (rest := [.ref qn, .int (nI k), .ref q1]) ⟨hx, hb, hml, hown, hts⟩ (ci_Ent l dC dI qn H.size) ⟨va_cnB 0 hts (gt_c tw145) rfl rfl rfl (nw_m hN.1 (i := 1) rfl) (hts _ tw8) (by decide +kernel) ⟨Nat.le_of_ble_eq_true rfl, Nat.le_of_ble_eq_true rfl⟩, rfl, hts _ tw144⟩ ⟨iBl, fun U hU hW => ⟨rfl, iPr hPc hK hDc hN hU hW⟩⟩ rfl rfl hl.1 rfl (lv_room (Nat.le_of_ble_eq_true rfl)) d_Jou_init_30 ⟨(show 1 + k + 1 + 0 ≤ 33 by omega), (show 32 + 9 * k + 9 + 0 ≤ 320 by omega)⟩) hS (fun q _ h => hFc q h) hFc (fun u t H1 locs ht hvm hpost hB hz1 hk1 hS => ?_)
      obtain ⟨hP1, hK1, hD1⟩ := hB
      rw [ht] at hP1
      have hK1 := va_K.moved hvm.symm hK1
      obtain ⟨hP, hD⟩ := va_joinQ (X := [(h0, .inr (4, [.ref q1, .int 0, .long 0])), (q1, .inl (cA1, 32, .inr (.inr (.inr (.inr f))))), (qn, .inr (3, [.int 0, .int 0, .int 0, .long 0, .int 0, .long 0, .int 0, .int 0, .long 0]))]) (pl := va_pl L (fun _ => .inr (3, [.int 0, .int 0, .int 0, .long 0, .int 0, .long 0, .int 0, .int 0, .long 0]))) (wr := [(h0, .inr (4, [.ref q1, .int 0, .long 0])), (q1, .inl (cA1, 32, .inr (.inr (.inr (.inr f)))))]) (w1 := [(qn, .inr (3, [.int 0, .int 0, .int 0, .long 0, .int 0, .long 0, .int 0, .int 0, .long 0]))]) hP hD [2] [0, 1] rfl rfl (by decide) (by decide) hk1 hFc hP1 hD1
      have hK := hK.app hK1
      generalize H1 = H at hP hS ⊢
      have hK : va_K (dC, dI) vwCl [(cA1, .object "CardMessageDesk$Entry")] s := hK
      have hP := hP.swap
      have hD := hD.swap
      have hE : ([(h0, .inr (4, [.ref q1, .int 0, .long 0])), (q1, .inl (cA1, 32, .inr (.inr (.inr (.inr f)))))] ++ va_pl L (fun _ => .inr (3, [.int 0, .int 0, .int 0, .long 0, .int 0, .long 0, .int 0, .int 0, .long 0]))) ++ [(qn, .inr (3, [.int 0, .int 0, .int 0, .long 0, .int 0, .long 0, .int 0, .int 0, .long 0]))] = [(h0, .inr (4, [.ref q1, .int 0, .long 0])), (q1, .inl (cA1, 32, .inr (.inr (.inr (.inr f)))))] ++ va_pl (L ++ [qn]) (fun _ => .inr (3, [.int 0, .int 0, .int 0, .long 0, .int 0, .long 0, .int 0, .int 0, .long 0])) := by
        rw [List.append_assoc, va_pl_push hq]
        congr 1
        refine va_pl_congr (fun b => ?_)
        by_cases hb9 : b = qn
        · subst hb9
          rw [va_up_self]
        · rw [va_up_ne _ _ hb9]
      rw [hE] at hP hD
      obtain ⟨kx, hkx⟩ := va_pl_get (X := [(h0, .inr (4, [.ref q1, .int 0, .long 0])), (q1, .inl (cA1, 32, .inr (.inr (.inr (.inr f)))))]) (f := fun _ => .inr (3, [.int 0, .int 0, .int 0, .long 0, .int 0, .long 0, .int 0, .int 0, .long 0])) (show qn ∈ L ++ [qn] from List.mem_append_right _ List.mem_cons_self)
      have hK : va_K (dC, dI) vwCl [(cA1, .object "CardMessageDesk$Entry")] s := hK
      refine va_astq hx hb hK hP hD hS 1 0 kx 3 rfl rfl hkx rfl (nI_in (show k < 32 by omega) (by decide)) d_Jou_init_33 (fun H locs hP hD hS => ?_)
      rw [nI_clamp (by omega)] at hP hD
      refine lv_iinc (v := nI k + 1) (lv' := [(1, .int (nI k + 1)), (0, .ref h0)]) hx hb d_Jou_init_34 hl (k := 0) rfl rfl (by decide) rfl (fun ls hl => ?_)
      refine lv_goto (tgt := 15) hx hb d_Jou_init_37 (by decide) ?_
      rw [nI_1] at hl
      have ih := ih (k + 1) (L ++ [qn]) (va_up f k (some qn)) H locs ls (by omega) (PLs_s hPL hq) hP hD hS hl
      have e1 : 1 + (k + 1) = 1 + k + 1 := by omega
      have e2 : 32 + 9 * (k + 1) = 32 + 9 * k + 9 := by omega
      rw [e1, e2] at ih
      exact ih
set_option maxHeartbeats 4000000 in
set_option maxRecDepth 100000 in
theorem ci_Jou (l : Launch) (dC : Nat → ClassId) (dI : Nat → Nat → Nat) (h0 sz : Nat)  : Met l y_Jou_init w_Jou_init ({ frames := 2, cells := 33, slots := 320, locals := 32 }) (va_Pc [.ref h0] (iPre dC dI sz [(h0, .inr (4, [.null, .int 0, .long 0]))])) (va_Qv (fun u : Nat × ClassId × List Nat × (Nat → Option Nat) => PLs 32 u.2.2.2 u.2.2.1) (fun u t => iAt dC dI (va_A [(h0, .inr (4, [.null, .int 0, .long 0]))] sz) ([(h0, .inr (4, [.ref u.1, .int 0, .long 0])), (u.1, .inl (u.2.1, 32, .inr (.inr (.inr (.inr u.2.2.2)))))] ++ va_pl u.2.2.1 (fun _ => .inr (3, [.int 0, .int 0, .int 0, .long 0, .int 0, .long 0, .int 0, .int 0, .long 0]))) [(u.2.1, .object "CardMessageDesk$Entry")] t) (va_A [(h0, .inr (4, [.null, .int 0, .long 0]))] sz)) 33 320 (va_A [(h0, .inr (4, [.null, .int 0, .long 0]))] sz) := by
  refine Met.ofW (cc := prog_6_method_1_code) (maxL := 2) (ret := none) (by decide) rfl ?_
  intro p e s m args below meth c s₁ B hml hv
  obtain ⟨rfl, hsz, hP, hK, hD0, hN⟩ := hv
  have hx := B.exec
  have hb := B.bytes
  have hr := B.returns
  have hts0 := atoms_spec (ws := w_Jou_init) B.pre
  have hts : ∀ w ∈ gt, w.before _ s = true := fun w h => hts0 w (List.mem_cons_of_mem _ h)
  have hown : s.vm.findClass "CardMessageDesk$Journal" = some m.cls := findClass_of_methodNamed B.named
  have hlocks := B.notSynchronized
  have hin : meth.name = "<init>" := (name_of_methodNamed B.named B.method).1
  subst hsz
  have hD := hD0.self (sz := s.heap.size)
  generalize hAe : va_A [(h0, .inr (4, [.null, .int 0, .long 0]))] s.heap.size = A at hD ⊢
  have hA : ∀ q : Nat, s.heap.size ≤ q → A q := fun q h => by rw [← hAe]; exact Or.inr h
  have hS : va_S A s.heap s.heap [] := va_S.rf
  have hl := lv_entry ([.ref h0]) (n := 2) (Nat.le_of_ble_eq_true rfl)
  rw [lg_entry_eq]
  generalize (lg_sl ([.ref h0]) ++ List.replicate (2 - (lg_sl ([.ref h0])).length) Slot.unset).toArray = ls at hl ⊢
  have hl : lv_has ls 2 [(0, .ref h0)] := hl
  refine lv_aload_n hx hb d_Jou_init_0 rfl (lv_at hl 0 rfl) ?_
  refine W.objInit hx hb hown (hts _ tw139) (hts _ tw17) (hts _ tw18) rfl (by rw [hml]; exact hl.1) rfl d_Jou_init_1 (Nat.le_of_ble_eq_true rfl) (Nat.le_of_ble_eq_true rfl) ?_
  refine W.eq (g2 := F0 m 4 ls []) rfl ?_
  refine lv_aload_n hx hb d_Jou_init_4 rfl (lv_at hl 0 rfl) ?_
  refine lv_bipush (v := 32) hx hb d_Jou_init_5 (by decide) ?_
  refine va_newq (C := "CardMessageDesk$Entry") (N' := 32) hx hb hown (hts _ tw140) hN.2.2 hK hP hD hS hA (by decide) rfl (by decide) (by decide) (by decide) d_Jou_init_7 (fun q1 cA1 H hK hP hD hS => ?_)
  refine W.widen (k := 1) (n := 32) (by decide) (by decide) ?_
  have hP : va_P (dC, dI) vwCl ([(h0, .inr (4, [.null, .int 0, .long 0])), (q1, .inl (cA1, 32, .inr (.inr (.inr (.inr (fun _ => none))))))]) H := hP
  have hD : va_D A ([(h0, .inr (4, [.null, .int 0, .long 0])), (q1, .inl (cA1, 32, .inr (.inr (.inr (.inr (fun _ => none))))))]) := hD
  have hK : va_K (dC, dI) vwCl [(cA1, .object "CardMessageDesk$Entry")] s := hK
  refine va_putF (D := (dC, dI)) (ci := 4) (v := .ref q1) (ty := .array (.object "CardMessageDesk$Entry")) (C := "CardMessageDesk$Journal") (T := T_Jou) (N := 3) hx hb hts in_Jou ty_Jou ty_Jou_ok nm_Jou hown hK hP hD hS 0 rfl rfl 0 (by decide) (hts _ tw185) (fun _ h9 => h9) rfl hin rfl (by decide +kernel) rfl rfl (Nat.le_of_ble_eq_true rfl) d_Jou_init_10 (fun H locs hP hD hS => ?_)
  have hP : va_P (dC, dI) vwCl ([(h0, .inr (4, [.ref q1, .int 0, .long 0])), (q1, .inl (cA1, 32, .inr (.inr (.inr (.inr (fun _ => none))))))]) H := hP
  have hD : va_D A ([(h0, .inr (4, [.ref q1, .int 0, .long 0])), (q1, .inl (cA1, 32, .inr (.inr (.inr (.inr (fun _ => none))))))]) := hD
  refine lv_iconst (v := 0) hx hb d_Jou_init_13 (by decide) ?_
  refine lv_istore_n (lv' := [(1, .int 0), (0, .ref h0)]) hx hb d_Jou_init_14 rfl hl (by decide) rfl (fun ls hl => ?_)
  exact ci_Jou_L hx hb hr hlocks hml hown hts hN hA hK 32 0 [] (fun _ => none) _ _ ls (by decide) PLs_0 (by rw [show va_pl [] (fun _ => (.inr (3, [.int 0, .int 0, .int 0, .long 0, .int 0, .long 0, .int 0, .int 0, .long 0]) : va_E)) = [] from rfl, List.append_nil]; exact hP) (by rw [show va_pl [] (fun _ => (.inr (3, [.int 0, .int 0, .int 0, .long 0, .int 0, .long 0, .int 0, .int 0, .long 0]) : va_E)) = [] from rfl, List.append_nil]; exact hD) hS hl
def cs0 (fA fE : Nat → Option Nat) : CS := (0, fun _ => 0, 0, fun _ => 0, 0, 0, 0, 0, 0, 0, 0, 0, 0, 0, 1, 0, fA, 0, 0, fE, 0, 0, fun _ => (0, 0), fun _ => (0, 0, 0, 0, 0, 0, 0, 0, 0))
set_option maxHeartbeats 4000000 in
set_option maxRecDepth 100000 in
theorem ci_Dsk (l : Launch) (dC : Nat → ClassId) (dI : Nat → Nat → Nat) (h0 sz : Nat)  : Met l y_Dsk_init w_Dsk_init ({ frames := 3, cells := 48, slots := 517, locals := 54 }) (va_Pc [.ref h0] (iPre dC dI sz [(h0, .inr (7, [.null, .null, .null, .null, .null, .long 0, .long 0]))])) (va_Qv (fun u : (Nat → Nat) × (Nat → ClassId) × List Nat × List Nat × (Nat → Option Nat) × (Nat → Option Nat) => u.1 0 = h0 ∧ PLs 6 u.2.2.2.2.1 u.2.2.1 ∧ PLs 32 u.2.2.2.2.2 u.2.2.2.1) (fun u t => iAt dC dI (va_A [(h0, .inr (7, [.null, .null, .null, .null, .null, .long 0, .long 0]))] sz) (cw u.1 u.2.1 u.2.2.1 u.2.2.2.1 (cs0 u.2.2.2.2.1 u.2.2.2.2.2)) (cT u.2.1) t) (va_A [(h0, .inr (7, [.null, .null, .null, .null, .null, .long 0, .long 0]))] sz)) 48 517 (va_A [(h0, .inr (7, [.null, .null, .null, .null, .null, .long 0, .long 0]))] sz) := by
  refine Met.ofW (cc := prog_1_method_1_code) (maxL := 1) (ret := none) (by decide) rfl ?_
  intro p e s m args below meth c s₁ B hml hv
  obtain ⟨rfl, hsz, hP, hK, hD0, hN⟩ := hv
  have hx := B.exec
  have hb := B.bytes
  have hr := B.returns
  have hts0 := atoms_spec (ws := w_Dsk_init) B.pre
  have hts : ∀ w ∈ gt, w.before _ s = true := fun w h => hts0 w (List.mem_cons_of_mem _ h)
  have hown : s.vm.findClass "CardMessageDesk" = some m.cls := findClass_of_methodNamed B.named
  have hlocks := B.notSynchronized
  have hin : meth.name = "<init>" := (name_of_methodNamed B.named B.method).1
  subst hsz
  have hD := hD0.self (sz := s.heap.size)
  generalize hAe : va_A [(h0, .inr (7, [.null, .null, .null, .null, .null, .long 0, .long 0]))] s.heap.size = A at hD ⊢
  have hA : ∀ q : Nat, s.heap.size ≤ q → A q := fun q h => by rw [← hAe]; exact Or.inr h
  have hS : va_S A s.heap s.heap [] := va_S.rf
  have hl := lv_entry ([.ref h0]) (n := 1) (Nat.le_of_ble_eq_true rfl)
  rw [lg_entry_eq]
  generalize (lg_sl ([.ref h0]) ++ List.replicate (1 - (lg_sl ([.ref h0])).length) Slot.unset).toArray = ls at hl ⊢
  have hl : lv_has ls 1 [(0, .ref h0)] := hl
  refine lv_aload_n hx hb d_Dsk_init_0 rfl (lv_at hl 0 rfl) ?_
  refine W.objInit hx hb hown (hts _ tw16) (hts _ tw17) (hts _ tw18) rfl (by rw [hml]; exact hl.1) rfl d_Dsk_init_1 (Nat.le_of_ble_eq_true rfl) (Nat.le_of_ble_eq_true rfl) ?_
  refine W.eq (g2 := F0 m 4 ls []) rfl ?_
  refine lv_aload_n hx hb d_Dsk_init_4 rfl (lv_at hl 0 rfl) ?_
  refine va_new (ci := 1) (fs := [.null, .int 0]) (C := "CardMessageDesk$ByteRow") (T := T_Row) (N := 2) hx hb hts in_Row ty_Row ty_Row_ok hown (hts _ tw19) (hts _ tw20) (hts _ tw2) hK hP hD hS hA rfl (by decide +kernel) (by decide) (by decide) d_Dsk_init_5 (fun q1 H hP hD hS => ?_)
  refine W.widen (k := 1) (n := 2) (by decide) (by decide) ?_
  have hP : va_P (dC, dI) vwCl ([(h0, .inr (7, [.null, .null, .null, .null, .null, .long 0, .long 0])), (q1, .inr (1, [.null, .int 0]))]) H := hP
  have hD : va_D A ([(h0, .inr (7, [.null, .null, .null, .null, .null, .long 0, .long 0])), (q1, .inr (1, [.null, .int 0]))]) := hD
  refine lv_dup hx hb d_Dsk_init_8 rfl ?_
  refine lv_bipush (v := 120) hx hb d_Dsk_init_9 (by decide) ?_
  have hPc := hP.sub (ws' := [(q1, .inr (1, [.null, .int 0]))]) [1] rfl
  have hDc := hD.sub (ws' := [(q1, .inr (1, [.null, .int 0]))]) [1] (by decide) rfl
  have hFc := va_free (wc := [(q1, .inr (1, [.null, .int 0]))]) hD hS hA [1] rfl
  refine va_callv (va_runI (As := [.int 120]) (rest := [.ref q1, .ref h0]) ⟨hx, hb, hml, hown, hts⟩ (ci_Row l dC dI q1 H.size 120 (by decide)) (cwI 1 hts (gt_c tw23) rfl rfl rfl (hts _ tw2) (hts _ tw21) (hts _ tw22) rfl (by decide +kernel) ⟨Nat.le_of_ble_eq_true rfl, Nat.le_of_ble_eq_true rfl⟩) ⟨iBl, fun U hU hW => ⟨rfl, iPr hPc hK hDc hN hU hW⟩⟩ rfl rfl hl.1 rfl (lv_room (Nat.le_of_ble_eq_true rfl)) d_Dsk_init_11 ⟨Nat.le_of_ble_eq_true rfl, Nat.le_of_ble_eq_true rfl⟩) hS (fun q _ h => hFc q h) hFc (fun u t H1 locs ht hvm hpost hB hz1 hk1 hS => ?_)
  obtain ⟨hP1, hK1, hD1⟩ := hB
  rw [ht] at hP1
  have hK1 := va_K.moved hvm.symm hK1
  obtain ⟨u1, v1⟩ := u
  obtain ⟨hP, hD⟩ := va_join (wr := [(h0, .inr (7, [.null, .null, .null, .null, .null, .long 0, .long 0]))]) (w1 := [(q1, .inr (1, [.ref u1, .int 0])), (u1, .inl (v1, 120, .inl (fun _ => 0)))]) hP hD [1] [0] rfl rfl (by decide) (by decide) hk1 hFc hP1 hD1
  have hK := hK.app hK1
  generalize H1 = H at hP hS ⊢
  have hK : va_K (dC, dI) vwCl [(v1, .int)] s := hK
  have hP : va_P (dC, dI) vwCl ([(h0, .inr (7, [.null, .null, .null, .null, .null, .long 0, .long 0])), (q1, .inr (1, [.ref u1, .int 0])), (u1, .inl (v1, 120, .inl (fun _ => 0)))]) H := hP
  have hD : va_D A ([(h0, .inr (7, [.null, .null, .null, .null, .null, .long 0, .long 0])), (q1, .inr (1, [.ref u1, .int 0])), (u1, .inl (v1, 120, .inl (fun _ => 0)))]) := hD
  refine va_putF (D := (dC, dI)) (ci := 7) (v := .ref q1) (ty := .object "CardMessageDesk$ByteRow") (C := "CardMessageDesk") (T := T_Dsk) (N := 7) hx hb hts in_Dsk ty_Dsk ty_Dsk_ok nm_Dsk hown hK hP hD hS 0 rfl rfl 0 (by decide) (hts _ tw197) (fun _ h9 => h9) rfl hin rfl (by decide +kernel) rfl rfl (Nat.le_of_ble_eq_true rfl) d_Dsk_init_14 (fun H locs hP hD hS => ?_)
  have hP : va_P (dC, dI) vwCl ([(h0, .inr (7, [.ref q1, .null, .null, .null, .null, .long 0, .long 0])), (q1, .inr (1, [.ref u1, .int 0])), (u1, .inl (v1, 120, .inl (fun _ => 0)))]) H := hP
  have hD : va_D A ([(h0, .inr (7, [.ref q1, .null, .null, .null, .null, .long 0, .long 0])), (q1, .inr (1, [.ref u1, .int 0])), (u1, .inl (v1, 120, .inl (fun _ => 0)))]) := hD
  refine lv_aload_n hx hb d_Dsk_init_17 rfl (lv_at hl 0 rfl) ?_
  refine va_new (ci := 1) (fs := [.null, .int 0]) (C := "CardMessageDesk$ByteRow") (T := T_Row) (N := 2) hx hb hts in_Row ty_Row ty_Row_ok hown (hts _ tw19) (hts _ tw20) (hts _ tw2) hK hP hD hS hA rfl (by decide +kernel) (by decide) (by decide) d_Dsk_init_18 (fun q2 H hP hD hS => ?_)
  refine W.widen (k := 3) (n := 124) (by decide) (by decide) ?_
  have hP : va_P (dC, dI) vwCl ([(h0, .inr (7, [.ref q1, .null, .null, .null, .null, .long 0, .long 0])), (q1, .inr (1, [.ref u1, .int 0])), (u1, .inl (v1, 120, .inl (fun _ => 0))), (q2, .inr (1, [.null, .int 0]))]) H := hP
  have hD : va_D A ([(h0, .inr (7, [.ref q1, .null, .null, .null, .null, .long 0, .long 0])), (q1, .inr (1, [.ref u1, .int 0])), (u1, .inl (v1, 120, .inl (fun _ => 0))), (q2, .inr (1, [.null, .int 0]))]) := hD
  refine lv_dup hx hb d_Dsk_init_21 rfl ?_
  refine lv_bipush (v := 37) hx hb d_Dsk_init_22 (by decide) ?_
  have hPc := hP.sub (ws' := [(q2, .inr (1, [.null, .int 0]))]) [3] rfl
  have hDc := hD.sub (ws' := [(q2, .inr (1, [.null, .int 0]))]) [3] (by decide) rfl
  have hFc := va_free (wc := [(q2, .inr (1, [.null, .int 0]))]) hD hS hA [3] rfl
  refine va_callv (va_runI (As := [.int 37]) (rest := [.ref q2, .ref h0]) ⟨hx, hb, hml, hown, hts⟩ (ci_Row l dC dI q2 H.size 37 (by decide)) (cwI 1 hts (gt_c tw23) rfl rfl rfl (hts _ tw2) (hts _ tw21) (hts _ tw22) rfl (by decide +kernel) ⟨Nat.le_of_ble_eq_true rfl, Nat.le_of_ble_eq_true rfl⟩) ⟨iBl, fun U hU hW => ⟨rfl, iPr hPc hK hDc hN hU hW⟩⟩ rfl rfl hl.1 rfl (lv_room (Nat.le_of_ble_eq_true rfl)) d_Dsk_init_24 ⟨Nat.le_of_ble_eq_true rfl, Nat.le_of_ble_eq_true rfl⟩) hS (fun q _ h => hFc q h) hFc (fun u t H1 locs ht hvm hpost hB hz1 hk1 hS => ?_)
  obtain ⟨hP1, hK1, hD1⟩ := hB
  rw [ht] at hP1
  have hK1 := va_K.moved hvm.symm hK1
  obtain ⟨u2, v2⟩ := u
  obtain ⟨hP, hD⟩ := va_join (wr := [(h0, .inr (7, [.ref q1, .null, .null, .null, .null, .long 0, .long 0])), (q1, .inr (1, [.ref u1, .int 0])), (u1, .inl (v1, 120, .inl (fun _ => 0)))]) (w1 := [(q2, .inr (1, [.ref u2, .int 0])), (u2, .inl (v2, 37, .inl (fun _ => 0)))]) hP hD [3] [0, 1, 2] rfl rfl (by decide) (by decide) hk1 hFc hP1 hD1
  have hK := hK.app hK1
  generalize H1 = H at hP hS ⊢
  have hK : va_K (dC, dI) vwCl [(v1, .int), (v2, .int)] s := hK
  have hP : va_P (dC, dI) vwCl ([(h0, .inr (7, [.ref q1, .null, .null, .null, .null, .long 0, .long 0])), (q1, .inr (1, [.ref u1, .int 0])), (u1, .inl (v1, 120, .inl (fun _ => 0))), (q2, .inr (1, [.ref u2, .int 0])), (u2, .inl (v2, 37, .inl (fun _ => 0)))]) H := hP
  have hD : va_D A ([(h0, .inr (7, [.ref q1, .null, .null, .null, .null, .long 0, .long 0])), (q1, .inr (1, [.ref u1, .int 0])), (u1, .inl (v1, 120, .inl (fun _ => 0))), (q2, .inr (1, [.ref u2, .int 0])), (u2, .inl (v2, 37, .inl (fun _ => 0)))]) := hD
  refine va_putF (D := (dC, dI)) (ci := 7) (v := .ref q2) (ty := .object "CardMessageDesk$ByteRow") (C := "CardMessageDesk") (T := T_Dsk) (N := 7) hx hb hts in_Dsk ty_Dsk ty_Dsk_ok nm_Dsk hown hK hP hD hS 0 rfl rfl 1 (by decide) (hts _ tw198) (fun _ h9 => h9) rfl hin rfl (by decide +kernel) rfl rfl (Nat.le_of_ble_eq_true rfl) d_Dsk_init_27 (fun H locs hP hD hS => ?_)
  have hP : va_P (dC, dI) vwCl ([(h0, .inr (7, [.ref q1, .ref q2, .null, .null, .null, .long 0, .long 0])), (q1, .inr (1, [.ref u1, .int 0])), (u1, .inl (v1, 120, .inl (fun _ => 0))), (q2, .inr (1, [.ref u2, .int 0])), (u2, .inl (v2, 37, .inl (fun _ => 0)))]) H := hP
  have hD : va_D A ([(h0, .inr (7, [.ref q1, .ref q2, .null, .null, .null, .long 0, .long 0])), (q1, .inr (1, [.ref u1, .int 0])), (u1, .inl (v1, 120, .inl (fun _ => 0))), (q2, .inr (1, [.ref u2, .int 0])), (u2, .inl (v2, 37, .inl (fun _ => 0)))]) := hD
  refine lv_aload_n hx hb d_Dsk_init_30 rfl (lv_at hl 0 rfl) ?_
  refine va_new (ci := 6) (fs := [.null, .int 0, .long 0, .long 0, .int 0, .long 0, .int 0, .int 0, .int 0, .int 0]) (C := "CardMessageDesk$Request") (T := T_Req) (N := 10) hx hb hts in_Req ty_Req ty_Req_ok hown (hts _ tw35) (hts _ tw36) (hts _ tw3) hK hP hD hS hA rfl (by decide +kernel) (by decide) (by decide) d_Dsk_init_31 (fun q3 H hP hD hS => ?_)
  refine W.widen (k := 5) (n := 171) (by decide) (by decide) ?_
  have hP : va_P (dC, dI) vwCl ([(h0, .inr (7, [.ref q1, .ref q2, .null, .null, .null, .long 0, .long 0])), (q1, .inr (1, [.ref u1, .int 0])), (u1, .inl (v1, 120, .inl (fun _ => 0))), (q2, .inr (1, [.ref u2, .int 0])), (u2, .inl (v2, 37, .inl (fun _ => 0))), (q3, .inr (6, [.null, .int 0, .long 0, .long 0, .int 0, .long 0, .int 0, .int 0, .int 0, .int 0]))]) H := hP
  have hD : va_D A ([(h0, .inr (7, [.ref q1, .ref q2, .null, .null, .null, .long 0, .long 0])), (q1, .inr (1, [.ref u1, .int 0])), (u1, .inl (v1, 120, .inl (fun _ => 0))), (q2, .inr (1, [.ref u2, .int 0])), (u2, .inl (v2, 37, .inl (fun _ => 0))), (q3, .inr (6, [.null, .int 0, .long 0, .long 0, .int 0, .long 0, .int 0, .int 0, .int 0, .int 0]))]) := hD
  refine lv_dup hx hb d_Dsk_init_34 rfl ?_
  refine lv_aload_n hx hb d_Dsk_init_35 rfl (lv_at hl 0 rfl) ?_
  refine va_get (D := (dC, dI)) (ci := 7) (v := .ref q1) (C := "CardMessageDesk") (T := T_Dsk) (N := 7) hx hb hts in_Dsk hown hK hP 0 rfl rfl 0 (by decide) (hts _ tw197) (fun _ h9 => h9) rfl d_Dsk_init_36 ?_
  have hPc := hP.sub (ws' := [(q3, .inr (6, [.null, .int 0, .long 0, .long 0, .int 0, .long 0, .int 0, .int 0, .int 0, .int 0]))]) [5] rfl
  have hDc := hD.sub (ws' := [(q3, .inr (6, [.null, .int 0, .long 0, .long 0, .int 0, .long 0, .int 0, .int 0, .int 0, .int 0]))]) [5] (by decide) rfl
  have hFc := va_free (wc := [(q3, .inr (6, [.null, .int 0, .long 0, .long 0, .int 0, .long 0, .int 0, .int 0, .int 0, .int 0]))]) hD hS hA [5] rfl
  refine va_callv (va_runI (As := [.ref q1]) (rest := [.ref q3, .ref h0]) ⟨hx, hb, hml, hown, hts⟩ (ci_Req l dC dI q3 H.size q1) (cwI 1 hts (gt_c tw39) rfl rfl rfl (hts _ tw3) (hts _ tw37) (hts _ tw38) rfl (by decide +kernel) ⟨Nat.le_of_ble_eq_true rfl, Nat.le_of_ble_eq_true rfl⟩) ⟨iBl, fun U hU hW => ⟨rfl, iPr hPc hK hDc hN hU hW⟩⟩ rfl rfl hl.1 rfl (lv_room (Nat.le_of_ble_eq_true rfl)) d_Dsk_init_39 ⟨Nat.le_of_ble_eq_true rfl, Nat.le_of_ble_eq_true rfl⟩) hS (fun q _ h => hFc q h) hFc (fun u t H1 locs ht hvm hpost hB hz1 hk1 hS => ?_)
  obtain ⟨hP1, hK1, hD1⟩ := hB
  rw [ht] at hP1
  have hK1 := va_K.moved hvm.symm hK1
  obtain ⟨u3, hu3⟩ : ∃ z, z = u := ⟨_, rfl⟩
  subst hu3
  obtain ⟨hP, hD⟩ := va_join (wr := [(h0, .inr (7, [.ref q1, .ref q2, .null, .null, .null, .long 0, .long 0])), (q1, .inr (1, [.ref u1, .int 0])), (u1, .inl (v1, 120, .inl (fun _ => 0))), (q2, .inr (1, [.ref u2, .int 0])), (u2, .inl (v2, 37, .inl (fun _ => 0)))]) (w1 := [(q3, .inr (6, [.ref u3, .int 0, .long 0, .long 0, .int 0, .long 0, .int 0, .int 0, .int 0, .int 0])), (u3, .inr (5, [.ref q1, .int 0, .int 1]))]) hP hD [5] [0, 1, 2, 3, 4] rfl rfl (by decide) (by decide) hk1 hFc hP1 hD1
  have hK := hK.app hK1
  generalize H1 = H at hP hS ⊢
  have hK : va_K (dC, dI) vwCl [(v1, .int), (v2, .int)] s := hK
  have hP : va_P (dC, dI) vwCl ([(h0, .inr (7, [.ref q1, .ref q2, .null, .null, .null, .long 0, .long 0])), (q1, .inr (1, [.ref u1, .int 0])), (u1, .inl (v1, 120, .inl (fun _ => 0))), (q2, .inr (1, [.ref u2, .int 0])), (u2, .inl (v2, 37, .inl (fun _ => 0))), (q3, .inr (6, [.ref u3, .int 0, .long 0, .long 0, .int 0, .long 0, .int 0, .int 0, .int 0, .int 0])), (u3, .inr (5, [.ref q1, .int 0, .int 1]))]) H := hP
  have hD : va_D A ([(h0, .inr (7, [.ref q1, .ref q2, .null, .null, .null, .long 0, .long 0])), (q1, .inr (1, [.ref u1, .int 0])), (u1, .inl (v1, 120, .inl (fun _ => 0))), (q2, .inr (1, [.ref u2, .int 0])), (u2, .inl (v2, 37, .inl (fun _ => 0))), (q3, .inr (6, [.ref u3, .int 0, .long 0, .long 0, .int 0, .long 0, .int 0, .int 0, .int 0, .int 0])), (u3, .inr (5, [.ref q1, .int 0, .int 1]))]) := hD
  refine va_putF (D := (dC, dI)) (ci := 7) (v := .ref q3) (ty := .object "CardMessageDesk$Request") (C := "CardMessageDesk") (T := T_Dsk) (N := 7) hx hb hts in_Dsk ty_Dsk ty_Dsk_ok nm_Dsk hown hK hP hD hS 0 rfl rfl 2 (by decide) (hts _ tw199) (fun _ h9 => h9) rfl hin rfl (by decide +kernel) rfl rfl (Nat.le_of_ble_eq_true rfl) d_Dsk_init_42 (fun H locs hP hD hS => ?_)
  have hP : va_P (dC, dI) vwCl ([(h0, .inr (7, [.ref q1, .ref q2, .ref q3, .null, .null, .long 0, .long 0])), (q1, .inr (1, [.ref u1, .int 0])), (u1, .inl (v1, 120, .inl (fun _ => 0))), (q2, .inr (1, [.ref u2, .int 0])), (u2, .inl (v2, 37, .inl (fun _ => 0))), (q3, .inr (6, [.ref u3, .int 0, .long 0, .long 0, .int 0, .long 0, .int 0, .int 0, .int 0, .int 0])), (u3, .inr (5, [.ref q1, .int 0, .int 1]))]) H := hP
  have hD : va_D A ([(h0, .inr (7, [.ref q1, .ref q2, .ref q3, .null, .null, .long 0, .long 0])), (q1, .inr (1, [.ref u1, .int 0])), (u1, .inl (v1, 120, .inl (fun _ => 0))), (q2, .inr (1, [.ref u2, .int 0])), (u2, .inl (v2, 37, .inl (fun _ => 0))), (q3, .inr (6, [.ref u3, .int 0, .long 0, .long 0, .int 0, .long 0, .int 0, .int 0, .int 0, .int 0])), (u3, .inr (5, [.ref q1, .int 0, .int 1]))]) := hD
  refine lv_aload_n hx hb d_Dsk_init_45 rfl (lv_at hl 0 rfl) ?_
  refine va_new (ci := 2) (fs := [.null, .int 0]) (C := "CardMessageDesk$Cards") (T := T_Crd) (N := 2) hx hb hts in_Crd ty_Crd ty_Crd_ok hown (hts _ tw104) (hts _ tw105) (hts _ tw5) hK hP hD hS hA rfl (by decide +kernel) (by decide) (by decide) d_Dsk_init_46 (fun q4 H hP hD hS => ?_)
  refine W.widen (k := 7) (n := 176) (by decide) (by decide) ?_
  have hP : va_P (dC, dI) vwCl ([(h0, .inr (7, [.ref q1, .ref q2, .ref q3, .null, .null, .long 0, .long 0])), (q1, .inr (1, [.ref u1, .int 0])), (u1, .inl (v1, 120, .inl (fun _ => 0))), (q2, .inr (1, [.ref u2, .int 0])), (u2, .inl (v2, 37, .inl (fun _ => 0))), (q3, .inr (6, [.ref u3, .int 0, .long 0, .long 0, .int 0, .long 0, .int 0, .int 0, .int 0, .int 0])), (u3, .inr (5, [.ref q1, .int 0, .int 1])), (q4, .inr (2, [.null, .int 0]))]) H := hP
  have hD : va_D A ([(h0, .inr (7, [.ref q1, .ref q2, .ref q3, .null, .null, .long 0, .long 0])), (q1, .inr (1, [.ref u1, .int 0])), (u1, .inl (v1, 120, .inl (fun _ => 0))), (q2, .inr (1, [.ref u2, .int 0])), (u2, .inl (v2, 37, .inl (fun _ => 0))), (q3, .inr (6, [.ref u3, .int 0, .long 0, .long 0, .int 0, .long 0, .int 0, .int 0, .int 0, .int 0])), (u3, .inr (5, [.ref q1, .int 0, .int 1])), (q4, .inr (2, [.null, .int 0]))]) := hD
  refine lv_dup hx hb d_Dsk_init_49 rfl ?_
  have hPc := hP.sub (ws' := [(q4, .inr (2, [.null, .int 0]))]) [7] rfl
  have hDc := hD.sub (ws' := [(q4, .inr (2, [.null, .int 0]))]) [7] (by decide) rfl
  have hFc := va_free (wc := [(q4, .inr (2, [.null, .int 0]))]) hD hS hA [7] rfl
  refine va_callv (va_runI (As := []) (rest := [.ref q4, .ref h0]) ⟨hx, hb, hml, hown, hts⟩ (ci_Crd l dC dI q4 H.size) (cwI 0 hts (gt_c tw108) rfl rfl rfl (hts _ tw5) (hts _ tw106) (hts _ tw107) rfl (by decide +kernel) ⟨Nat.le_of_ble_eq_true rfl, Nat.le_of_ble_eq_true rfl⟩) ⟨iBl, fun U hU hW => ⟨rfl, iPr hPc hK hDc hN hU hW⟩⟩ rfl rfl hl.1 rfl (lv_room (Nat.le_of_ble_eq_true rfl)) d_Dsk_init_50 ⟨Nat.le_of_ble_eq_true rfl, Nat.le_of_ble_eq_true rfl⟩) hS (fun q _ h => hFc q h) hFc (fun u t H1 locs ht hvm hpost hB hz1 hk1 hS => ?_)
  obtain ⟨hP1, hK1, hD1⟩ := hB
  rw [ht] at hP1
  have hK1 := va_K.moved hvm.symm hK1
  obtain ⟨u4, v4, LA, fA⟩ := u
  have hpA : PLs 6 fA LA := hpost
  obtain ⟨hP, hD⟩ := va_join (wr := [(h0, .inr (7, [.ref q1, .ref q2, .ref q3, .null, .null, .long 0, .long 0])), (q1, .inr (1, [.ref u1, .int 0])), (u1, .inl (v1, 120, .inl (fun _ => 0))), (q2, .inr (1, [.ref u2, .int 0])), (u2, .inl (v2, 37, .inl (fun _ => 0))), (q3, .inr (6, [.ref u3, .int 0, .long 0, .long 0, .int 0, .long 0, .int 0, .int 0, .int 0, .int 0])), (u3, .inr (5, [.ref q1, .int 0, .int 1]))]) (w1 := [(q4, .inr (2, [.ref u4, .int 0])), (u4, .inl (v4, 6, .inr (.inr (.inr (.inr fA)))))] ++ va_pl LA (fun _ => .inr (0, [.long 0, .long 0]))) hP hD [7] [0, 1, 2, 3, 4, 5, 6] rfl rfl (by decide) (by decide) hk1 hFc hP1 hD1
  have hK := hK.app hK1
  generalize H1 = H at hP hS ⊢
  have hK : va_K (dC, dI) vwCl [(v1, .int), (v2, .int), (v4, .object "CardMessageDesk$Account")] s := hK
  have hP : va_P (dC, dI) vwCl ([(h0, .inr (7, [.ref q1, .ref q2, .ref q3, .null, .null, .long 0, .long 0])), (q1, .inr (1, [.ref u1, .int 0])), (u1, .inl (v1, 120, .inl (fun _ => 0))), (q2, .inr (1, [.ref u2, .int 0])), (u2, .inl (v2, 37, .inl (fun _ => 0))), (q3, .inr (6, [.ref u3, .int 0, .long 0, .long 0, .int 0, .long 0, .int 0, .int 0, .int 0, .int 0])), (u3, .inr (5, [.ref q1, .int 0, .int 1])), (q4, .inr (2, [.ref u4, .int 0])), (u4, .inl (v4, 6, .inr (.inr (.inr (.inr fA)))))] ++ va_pl LA (fun _ => .inr (0, [.long 0, .long 0]))) H := hP
  have hD : va_D A ([(h0, .inr (7, [.ref q1, .ref q2, .ref q3, .null, .null, .long 0, .long 0])), (q1, .inr (1, [.ref u1, .int 0])), (u1, .inl (v1, 120, .inl (fun _ => 0))), (q2, .inr (1, [.ref u2, .int 0])), (u2, .inl (v2, 37, .inl (fun _ => 0))), (q3, .inr (6, [.ref u3, .int 0, .long 0, .long 0, .int 0, .long 0, .int 0, .int 0, .int 0, .int 0])), (u3, .inr (5, [.ref q1, .int 0, .int 1])), (q4, .inr (2, [.ref u4, .int 0])), (u4, .inl (v4, 6, .inr (.inr (.inr (.inr fA)))))] ++ va_pl LA (fun _ => .inr (0, [.long 0, .long 0]))) := hD
  refine va_putF (D := (dC, dI)) (ci := 7) (v := .ref q4) (ty := .object "CardMessageDesk$Cards") (C := "CardMessageDesk") (T := T_Dsk) (N := 7) hx hb hts in_Dsk ty_Dsk ty_Dsk_ok nm_Dsk hown hK hP hD hS 0 rfl rfl 3 (by decide) (hts _ tw200) (fun _ h9 => h9) rfl hin rfl (by decide +kernel) rfl rfl (Nat.le_of_ble_eq_true rfl) d_Dsk_init_53 (fun H locs hP hD hS => ?_)
  have hP : va_P (dC, dI) vwCl ([(h0, .inr (7, [.ref q1, .ref q2, .ref q3, .ref q4, .null, .long 0, .long 0])), (q1, .inr (1, [.ref u1, .int 0])), (u1, .inl (v1, 120, .inl (fun _ => 0))), (q2, .inr (1, [.ref u2, .int 0])), (u2, .inl (v2, 37, .inl (fun _ => 0))), (q3, .inr (6, [.ref u3, .int 0, .long 0, .long 0, .int 0, .long 0, .int 0, .int 0, .int 0, .int 0])), (u3, .inr (5, [.ref q1, .int 0, .int 1])), (q4, .inr (2, [.ref u4, .int 0])), (u4, .inl (v4, 6, .inr (.inr (.inr (.inr fA)))))] ++ va_pl LA (fun _ => .inr (0, [.long 0, .long 0]))) H := hP
  have hD : va_D A ([(h0, .inr (7, [.ref q1, .ref q2, .ref q3, .ref q4, .null, .long 0, .long 0])), (q1, .inr (1, [.ref u1, .int 0])), (u1, .inl (v1, 120, .inl (fun _ => 0))), (q2, .inr (1, [.ref u2, .int 0])), (u2, .inl (v2, 37, .inl (fun _ => 0))), (q3, .inr (6, [.ref u3, .int 0, .long 0, .long 0, .int 0, .long 0, .int 0, .int 0, .int 0, .int 0])), (u3, .inr (5, [.ref q1, .int 0, .int 1])), (q4, .inr (2, [.ref u4, .int 0])), (u4, .inl (v4, 6, .inr (.inr (.inr (.inr fA)))))] ++ va_pl LA (fun _ => .inr (0, [.long 0, .long 0]))) := hD
  refine lv_aload_n hx hb d_Dsk_init_56 rfl (lv_at hl 0 rfl) ?_
  refine va_new (ci := 4) (fs := [.null, .int 0, .long 0]) (C := "CardMessageDesk$Journal") (T := T_Jou) (N := 3) hx hb hts in_Jou ty_Jou ty_Jou_ok hown (hts _ tw134) (hts _ tw135) (hts _ tw7) hK hP hD hS hA rfl (by decide +kernel) (by decide) (by decide) d_Dsk_init_57 (fun q5 H hP hD hS => ?_)
  have hP := hP.swap
  have hD := hD.swap
  refine W.widen (k := 15) (n := 197) (by decide) (by decide) ?_
  have hP : va_P (dC, dI) vwCl ([(h0, .inr (7, [.ref q1, .ref q2, .ref q3, .ref q4, .null, .long 0, .long 0])), (q1, .inr (1, [.ref u1, .int 0])), (u1, .inl (v1, 120, .inl (fun _ => 0))), (q2, .inr (1, [.ref u2, .int 0])), (u2, .inl (v2, 37, .inl (fun _ => 0))), (q3, .inr (6, [.ref u3, .int 0, .long 0, .long 0, .int 0, .long 0, .int 0, .int 0, .int 0, .int 0])), (u3, .inr (5, [.ref q1, .int 0, .int 1])), (q4, .inr (2, [.ref u4, .int 0])), (u4, .inl (v4, 6, .inr (.inr (.inr (.inr fA))))), (q5, .inr (4, [.null, .int 0, .long 0]))] ++ va_pl LA (fun _ => .inr (0, [.long 0, .long 0]))) H := hP
  have hD : va_D A ([(h0, .inr (7, [.ref q1, .ref q2, .ref q3, .ref q4, .null, .long 0, .long 0])), (q1, .inr (1, [.ref u1, .int 0])), (u1, .inl (v1, 120, .inl (fun _ => 0))), (q2, .inr (1, [.ref u2, .int 0])), (u2, .inl (v2, 37, .inl (fun _ => 0))), (q3, .inr (6, [.ref u3, .int 0, .long 0, .long 0, .int 0, .long 0, .int 0, .int 0, .int 0, .int 0])), (u3, .inr (5, [.ref q1, .int 0, .int 1])), (q4, .inr (2, [.ref u4, .int 0])), (u4, .inl (v4, 6, .inr (.inr (.inr (.inr fA))))), (q5, .inr (4, [.null, .int 0, .long 0]))] ++ va_pl LA (fun _ => .inr (0, [.long 0, .long 0]))) := hD
  refine lv_dup hx hb d_Dsk_init_60 rfl ?_
  have hPc := hP.sub (ws' := [(q5, .inr (4, [.null, .int 0, .long 0]))]) [9] rfl
  have hDc := hD.sub (ws' := [(q5, .inr (4, [.null, .int 0, .long 0]))]) [9] (by decide) rfl
  have hFc := va_free (wc := [(q5, .inr (4, [.null, .int 0, .long 0]))]) hD hS hA [9] rfl
  refine va_callv (va_runI (As := []) (rest := [.ref q5, .ref h0]) ⟨hx, hb, hml, hown, hts⟩ (ci_Jou l dC dI q5 H.size) (cwI 0 hts (gt_c tw138) rfl rfl rfl (hts _ tw7) (hts _ tw136) (hts _ tw137) rfl (by decide +kernel) ⟨Nat.le_of_ble_eq_true rfl, Nat.le_of_ble_eq_true rfl⟩) ⟨iBl, fun U hU hW => ⟨rfl, iPr hPc hK hDc hN hU hW⟩⟩ rfl rfl hl.1 rfl (lv_room (Nat.le_of_ble_eq_true rfl)) d_Dsk_init_61 ⟨Nat.le_of_ble_eq_true rfl, Nat.le_of_ble_eq_true rfl⟩) hS (fun q _ h => hFc q h) hFc (fun u t H1 locs ht hvm hpost hB hz1 hk1 hS => ?_)
  obtain ⟨hP1, hK1, hD1⟩ := hB
  rw [ht] at hP1
  have hK1 := va_K.moved hvm.symm hK1
  obtain ⟨u5, v5, LE, fE⟩ := u
  have hpE : PLs 32 fE LE := hpost
  obtain ⟨hP, hD⟩ := va_joinQ (X := [(h0, .inr (7, [.ref q1, .ref q2, .ref q3, .ref q4, .null, .long 0, .long 0])), (q1, .inr (1, [.ref u1, .int 0])), (u1, .inl (v1, 120, .inl (fun _ => 0))), (q2, .inr (1, [.ref u2, .int 0])), (u2, .inl (v2, 37, .inl (fun _ => 0))), (q3, .inr (6, [.ref u3, .int 0, .long 0, .long 0, .int 0, .long 0, .int 0, .int 0, .int 0, .int 0])), (u3, .inr (5, [.ref q1, .int 0, .int 1])), (q4, .inr (2, [.ref u4, .int 0])), (u4, .inl (v4, 6, .inr (.inr (.inr (.inr fA))))), (q5, .inr (4, [.null, .int 0, .long 0]))]) (pl := va_pl LA (fun _ => .inr (0, [.long 0, .long 0]))) (wr := [(h0, .inr (7, [.ref q1, .ref q2, .ref q3, .ref q4, .null, .long 0, .long 0])), (q1, .inr (1, [.ref u1, .int 0])), (u1, .inl (v1, 120, .inl (fun _ => 0))), (q2, .inr (1, [.ref u2, .int 0])), (u2, .inl (v2, 37, .inl (fun _ => 0))), (q3, .inr (6, [.ref u3, .int 0, .long 0, .long 0, .int 0, .long 0, .int 0, .int 0, .int 0, .int 0])), (u3, .inr (5, [.ref q1, .int 0, .int 1])), (q4, .inr (2, [.ref u4, .int 0])), (u4, .inl (v4, 6, .inr (.inr (.inr (.inr fA)))))]) (w1 := [(q5, .inr (4, [.ref u5, .int 0, .long 0])), (u5, .inl (v5, 32, .inr (.inr (.inr (.inr fE)))))] ++ va_pl LE (fun _ => .inr (3, [.int 0, .int 0, .int 0, .long 0, .int 0, .long 0, .int 0, .int 0, .long 0]))) hP hD [9] [0, 1, 2, 3, 4, 5, 6, 7, 8] rfl rfl (by decide) (by decide) hk1 hFc hP1 hD1
  have hK := hK.app hK1
  generalize H1 = H at hP hS ⊢
  have hK : va_K (dC, dI) vwCl [(v1, .int), (v2, .int), (v4, .object "CardMessageDesk$Account"), (v5, .object "CardMessageDesk$Entry")] s := hK
  have hP : va_P (dC, dI) vwCl (([(h0, .inr (7, [.ref q1, .ref q2, .ref q3, .ref q4, .null, .long 0, .long 0])), (q1, .inr (1, [.ref u1, .int 0])), (u1, .inl (v1, 120, .inl (fun _ => 0))), (q2, .inr (1, [.ref u2, .int 0])), (u2, .inl (v2, 37, .inl (fun _ => 0))), (q3, .inr (6, [.ref u3, .int 0, .long 0, .long 0, .int 0, .long 0, .int 0, .int 0, .int 0, .int 0])), (u3, .inr (5, [.ref q1, .int 0, .int 1])), (q4, .inr (2, [.ref u4, .int 0])), (u4, .inl (v4, 6, .inr (.inr (.inr (.inr fA))))), (q5, .inr (4, [.ref u5, .int 0, .long 0])), (u5, .inl (v5, 32, .inr (.inr (.inr (.inr fE)))))] ++ va_pl LE (fun _ => .inr (3, [.int 0, .int 0, .int 0, .long 0, .int 0, .long 0, .int 0, .int 0, .long 0]))) ++ va_pl LA (fun _ => .inr (0, [.long 0, .long 0]))) H := hP
  have hD : va_D A (([(h0, .inr (7, [.ref q1, .ref q2, .ref q3, .ref q4, .null, .long 0, .long 0])), (q1, .inr (1, [.ref u1, .int 0])), (u1, .inl (v1, 120, .inl (fun _ => 0))), (q2, .inr (1, [.ref u2, .int 0])), (u2, .inl (v2, 37, .inl (fun _ => 0))), (q3, .inr (6, [.ref u3, .int 0, .long 0, .long 0, .int 0, .long 0, .int 0, .int 0, .int 0, .int 0])), (u3, .inr (5, [.ref q1, .int 0, .int 1])), (q4, .inr (2, [.ref u4, .int 0])), (u4, .inl (v4, 6, .inr (.inr (.inr (.inr fA))))), (q5, .inr (4, [.ref u5, .int 0, .long 0])), (u5, .inl (v5, 32, .inr (.inr (.inr (.inr fE)))))] ++ va_pl LE (fun _ => .inr (3, [.int 0, .int 0, .int 0, .long 0, .int 0, .long 0, .int 0, .int 0, .long 0]))) ++ va_pl LA (fun _ => .inr (0, [.long 0, .long 0]))) := hD
  have hP := hP.swap
  have hD := hD.swap
  refine va_putF (D := (dC, dI)) (ci := 7) (v := .ref q5) (ty := .object "CardMessageDesk$Journal") (C := "CardMessageDesk") (T := T_Dsk) (N := 7) hx hb hts in_Dsk ty_Dsk ty_Dsk_ok nm_Dsk hown hK hP hD hS 0 rfl rfl 4 (by decide) (hts _ tw201) (fun _ h9 => h9) rfl hin rfl (by decide +kernel) rfl rfl (Nat.le_of_ble_eq_true rfl) d_Dsk_init_64 (fun H locs hP hD hS => ?_)
  have hP : va_P (dC, dI) vwCl (([(h0, .inr (7, [.ref q1, .ref q2, .ref q3, .ref q4, .ref q5, .long 0, .long 0])), (q1, .inr (1, [.ref u1, .int 0])), (u1, .inl (v1, 120, .inl (fun _ => 0))), (q2, .inr (1, [.ref u2, .int 0])), (u2, .inl (v2, 37, .inl (fun _ => 0))), (q3, .inr (6, [.ref u3, .int 0, .long 0, .long 0, .int 0, .long 0, .int 0, .int 0, .int 0, .int 0])), (u3, .inr (5, [.ref q1, .int 0, .int 1])), (q4, .inr (2, [.ref u4, .int 0])), (u4, .inl (v4, 6, .inr (.inr (.inr (.inr fA))))), (q5, .inr (4, [.ref u5, .int 0, .long 0])), (u5, .inl (v5, 32, .inr (.inr (.inr (.inr fE)))))] ++ va_pl LA (fun _ => .inr (0, [.long 0, .long 0]))) ++ va_pl LE (fun _ => .inr (3, [.int 0, .int 0, .int 0, .long 0, .int 0, .long 0, .int 0, .int 0, .long 0]))) H := hP
  have hD : va_D A (([(h0, .inr (7, [.ref q1, .ref q2, .ref q3, .ref q4, .ref q5, .long 0, .long 0])), (q1, .inr (1, [.ref u1, .int 0])), (u1, .inl (v1, 120, .inl (fun _ => 0))), (q2, .inr (1, [.ref u2, .int 0])), (u2, .inl (v2, 37, .inl (fun _ => 0))), (q3, .inr (6, [.ref u3, .int 0, .long 0, .long 0, .int 0, .long 0, .int 0, .int 0, .int 0, .int 0])), (u3, .inr (5, [.ref q1, .int 0, .int 1])), (q4, .inr (2, [.ref u4, .int 0])), (u4, .inl (v4, 6, .inr (.inr (.inr (.inr fA))))), (q5, .inr (4, [.ref u5, .int 0, .long 0])), (u5, .inl (v5, 32, .inr (.inr (.inr (.inr fE)))))] ++ va_pl LA (fun _ => .inr (0, [.long 0, .long 0]))) ++ va_pl LE (fun _ => .inr (3, [.int 0, .int 0, .int 0, .long 0, .int 0, .long 0, .int 0, .int 0, .long 0]))) := hD
  refine lv_aload_n hx hb d_Dsk_init_67 rfl (lv_at hl 0 rfl) ?_
  refine lv_lconst (v := 0) hx hb d_Dsk_init_68 (by decide) ?_
  refine va_put (D := (dC, dI)) (ci := 7) (v := .long 0) (ty := .long) (C := "CardMessageDesk") (T := T_Dsk) (N := 7) hx hb hts in_Dsk ty_Dsk ty_Dsk_ok nm_Dsk hown hK hP hD hS 0 rfl rfl 5 (by decide) (hts _ tw202) (fun _ h9 => h9) rfl (by decide +kernel) rfl rfl (Nat.le_of_ble_eq_true rfl) d_Dsk_init_69 (fun H locs hP hD hS => ?_)
  have hP : va_P (dC, dI) vwCl (([(h0, .inr (7, [.ref q1, .ref q2, .ref q3, .ref q4, .ref q5, .long 0, .long 0])), (q1, .inr (1, [.ref u1, .int 0])), (u1, .inl (v1, 120, .inl (fun _ => 0))), (q2, .inr (1, [.ref u2, .int 0])), (u2, .inl (v2, 37, .inl (fun _ => 0))), (q3, .inr (6, [.ref u3, .int 0, .long 0, .long 0, .int 0, .long 0, .int 0, .int 0, .int 0, .int 0])), (u3, .inr (5, [.ref q1, .int 0, .int 1])), (q4, .inr (2, [.ref u4, .int 0])), (u4, .inl (v4, 6, .inr (.inr (.inr (.inr fA))))), (q5, .inr (4, [.ref u5, .int 0, .long 0])), (u5, .inl (v5, 32, .inr (.inr (.inr (.inr fE)))))] ++ va_pl LA (fun _ => .inr (0, [.long 0, .long 0]))) ++ va_pl LE (fun _ => .inr (3, [.int 0, .int 0, .int 0, .long 0, .int 0, .long 0, .int 0, .int 0, .long 0]))) H := hP
  have hD : va_D A (([(h0, .inr (7, [.ref q1, .ref q2, .ref q3, .ref q4, .ref q5, .long 0, .long 0])), (q1, .inr (1, [.ref u1, .int 0])), (u1, .inl (v1, 120, .inl (fun _ => 0))), (q2, .inr (1, [.ref u2, .int 0])), (u2, .inl (v2, 37, .inl (fun _ => 0))), (q3, .inr (6, [.ref u3, .int 0, .long 0, .long 0, .int 0, .long 0, .int 0, .int 0, .int 0, .int 0])), (u3, .inr (5, [.ref q1, .int 0, .int 1])), (q4, .inr (2, [.ref u4, .int 0])), (u4, .inl (v4, 6, .inr (.inr (.inr (.inr fA))))), (q5, .inr (4, [.ref u5, .int 0, .long 0])), (u5, .inl (v5, 32, .inr (.inr (.inr (.inr fE)))))] ++ va_pl LA (fun _ => .inr (0, [.long 0, .long 0]))) ++ va_pl LE (fun _ => .inr (3, [.int 0, .int 0, .int 0, .long 0, .int 0, .long 0, .int 0, .int 0, .long 0]))) := hD
  refine lv_aload_n hx hb d_Dsk_init_72 rfl (lv_at hl 0 rfl) ?_
  refine lv_lconst (v := 0) hx hb d_Dsk_init_73 (by decide) ?_
  refine va_put (D := (dC, dI)) (ci := 7) (v := .long 0) (ty := .long) (C := "CardMessageDesk") (T := T_Dsk) (N := 7) hx hb hts in_Dsk ty_Dsk ty_Dsk_ok nm_Dsk hown hK hP hD hS 0 rfl rfl 6 (by decide) (hts _ tw203) (fun _ h9 => h9) rfl (by decide +kernel) rfl rfl (Nat.le_of_ble_eq_true rfl) d_Dsk_init_74 (fun H locs hP hD hS => ?_)
  have hP : va_P (dC, dI) vwCl (([(h0, .inr (7, [.ref q1, .ref q2, .ref q3, .ref q4, .ref q5, .long 0, .long 0])), (q1, .inr (1, [.ref u1, .int 0])), (u1, .inl (v1, 120, .inl (fun _ => 0))), (q2, .inr (1, [.ref u2, .int 0])), (u2, .inl (v2, 37, .inl (fun _ => 0))), (q3, .inr (6, [.ref u3, .int 0, .long 0, .long 0, .int 0, .long 0, .int 0, .int 0, .int 0, .int 0])), (u3, .inr (5, [.ref q1, .int 0, .int 1])), (q4, .inr (2, [.ref u4, .int 0])), (u4, .inl (v4, 6, .inr (.inr (.inr (.inr fA))))), (q5, .inr (4, [.ref u5, .int 0, .long 0])), (u5, .inl (v5, 32, .inr (.inr (.inr (.inr fE)))))] ++ va_pl LA (fun _ => .inr (0, [.long 0, .long 0]))) ++ va_pl LE (fun _ => .inr (3, [.int 0, .int 0, .int 0, .long 0, .int 0, .long 0, .int 0, .int 0, .long 0]))) H := hP
  have hD : va_D A (([(h0, .inr (7, [.ref q1, .ref q2, .ref q3, .ref q4, .ref q5, .long 0, .long 0])), (q1, .inr (1, [.ref u1, .int 0])), (u1, .inl (v1, 120, .inl (fun _ => 0))), (q2, .inr (1, [.ref u2, .int 0])), (u2, .inl (v2, 37, .inl (fun _ => 0))), (q3, .inr (6, [.ref u3, .int 0, .long 0, .long 0, .int 0, .long 0, .int 0, .int 0, .int 0, .int 0])), (u3, .inr (5, [.ref q1, .int 0, .int 1])), (q4, .inr (2, [.ref u4, .int 0])), (u4, .inl (v4, 6, .inr (.inr (.inr (.inr fA))))), (q5, .inr (4, [.ref u5, .int 0, .long 0])), (u5, .inl (v5, 32, .inr (.inr (.inr (.inr fE)))))] ++ va_pl LA (fun _ => .inr (0, [.long 0, .long 0]))) ++ va_pl LE (fun _ => .inr (3, [.int 0, .int 0, .int 0, .long 0, .int 0, .long 0, .int 0, .int 0, .long 0]))) := hD
  exact W.vret hx hb hr (fun t ht hW => ⟨⟨(fun k => match k with | 0 => h0 | 1 => q1 | 2 => u1 | 3 => q2 | 4 => u2 | 5 => q3 | 6 => u3 | 7 => q4 | 8 => u4 | 9 => q5 | 10 => u5 | _ => 0, fun k => match k with | 2 => v1 | 4 => v2 | 8 => v4 | 10 => v5 | _ => v1, LA, LE, fA, fE), rfl, ⟨rfl, hpA, hpE⟩, by rw [ht]; exact hP, va_K.moved hW.alike hK, hD⟩, hS.F ht⟩) hS.2.2 d_Dsk_init_77
