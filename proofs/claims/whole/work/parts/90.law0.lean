theorem tw11 : Cond.classLink "CardMessageDeskLaw" 7 "CardMessageDesk" ∈ gt := gt_t (i := 11) (by decide +kernel) rfl
theorem tw12 : Cond.instantiable "CardMessageDesk" 7 ∈ gt := gt_t (i := 12) (by decide +kernel) rfl
theorem tw13 : Cond.methodLink "CardMessageDeskLaw" 9 ⟨"CardMessageDesk", "<init>", "()V"⟩ ∈ gt := gt_t (i := 13) (by decide +kernel) rfl
theorem tw14 : Cond.instanceMethod ⟨"CardMessageDesk", "<init>", "()V"⟩ ∈ gt := gt_t (i := 14) (by decide +kernel) rfl
theorem tw15 : Cond.code ⟨"CardMessageDesk", "<init>", "()V"⟩ prog_1_method_1_code 1 none ∈ gt := gt_t (i := 15) (by decide +kernel) rfl
theorem tw219 : Cond.methodLink "CardMessageDeskLaw" 15 ⟨"CardMessageDesk", "open", "(JJ)Z"⟩ ∈ gt := gt_t (i := 219) (by decide +kernel) rfl
theorem tw220 : Cond.instanceMethod ⟨"CardMessageDesk", "open", "(JJ)Z"⟩ ∈ gt := gt_t (i := 220) (by decide +kernel) rfl
theorem tw221 : Cond.selects "CardMessageDesk" ⟨"CardMessageDesk", "open", "(JJ)Z"⟩ ⟨"CardMessageDesk", "open", "(JJ)Z"⟩ ∈ gt := gt_t (i := 221) (by decide +kernel) rfl
theorem tw222 : Cond.code ⟨"CardMessageDesk", "open", "(JJ)Z"⟩ prog_1_method_2_code 5 (some .boolean) ∈ gt := gt_t (i := 222) (by decide +kernel) rfl
theorem tw233 : Cond.methodLink "CardMessageDeskLaw" 20 ⟨"CardMessageDesk", "feed", "(JI)I"⟩ ∈ gt := gt_t (i := 233) (by decide +kernel) rfl
theorem tw234 : Cond.instanceMethod ⟨"CardMessageDesk", "feed", "(JI)I"⟩ ∈ gt := gt_t (i := 234) (by decide +kernel) rfl
theorem tw235 : Cond.selects "CardMessageDesk" ⟨"CardMessageDesk", "feed", "(JI)I"⟩ ⟨"CardMessageDesk", "feed", "(JI)I"⟩ ∈ gt := gt_t (i := 235) (by decide +kernel) rfl
theorem tw236 : Cond.code ⟨"CardMessageDesk", "feed", "(JI)I"⟩ prog_1_method_3_code 4 (some .int) ∈ gt := gt_t (i := 236) (by decide +kernel) rfl
theorem tw245 : Cond.methodLink "CardMessageDeskLaw" 25 ⟨"CardMessageDesk", "handle", "()I"⟩ ∈ gt := gt_t (i := 245) (by decide +kernel) rfl
theorem tw246 : Cond.instanceMethod ⟨"CardMessageDesk", "handle", "()I"⟩ ∈ gt := gt_t (i := 246) (by decide +kernel) rfl
theorem tw247 : Cond.selects "CardMessageDesk" ⟨"CardMessageDesk", "handle", "()I"⟩ ⟨"CardMessageDesk", "handle", "()I"⟩ ∈ gt := gt_t (i := 247) (by decide +kernel) rfl
theorem tw248 : Cond.code ⟨"CardMessageDesk", "handle", "()I"⟩ prog_1_method_4_code 2 (some .int) ∈ gt := gt_t (i := 248) (by decide +kernel) rfl
theorem tw446 : Cond.methodLink "CardMessageDeskLaw" 30 ⟨"CardMessageDesk", "reply", "(I)I"⟩ ∈ gt := gt_t (i := 446) (by decide +kernel) rfl
theorem tw447 : Cond.instanceMethod ⟨"CardMessageDesk", "reply", "(I)I"⟩ ∈ gt := gt_t (i := 447) (by decide +kernel) rfl
theorem tw448 : Cond.selects "CardMessageDesk" ⟨"CardMessageDesk", "reply", "(I)I"⟩ ⟨"CardMessageDesk", "reply", "(I)I"⟩ ∈ gt := gt_t (i := 448) (by decide +kernel) rfl
theorem tw449 : Cond.code ⟨"CardMessageDesk", "reply", "(I)I"⟩ prog_1_method_5_code 2 (some .int) ∈ gt := gt_t (i := 449) (by decide +kernel) rfl
theorem tw451 : Cond.methodLink "CardMessageDeskLaw" 35 ⟨"CardMessageDesk", "tick", "(I)Z"⟩ ∈ gt := gt_t (i := 451) (by decide +kernel) rfl
theorem tw452 : Cond.instanceMethod ⟨"CardMessageDesk", "tick", "(I)Z"⟩ ∈ gt := gt_t (i := 452) (by decide +kernel) rfl
theorem tw453 : Cond.selects "CardMessageDesk" ⟨"CardMessageDesk", "tick", "(I)Z"⟩ ⟨"CardMessageDesk", "tick", "(I)Z"⟩ ∈ gt := gt_t (i := 453) (by decide +kernel) rfl
theorem tw454 : Cond.code ⟨"CardMessageDesk", "tick", "(I)Z"⟩ prog_1_method_6_code 2 (some .boolean) ∈ gt := gt_t (i := 454) (by decide +kernel) rfl
theorem tw455 : Cond.methodLink "CardMessageDeskLaw" 40 ⟨"CardMessageDesk", "balance", "(J)J"⟩ ∈ gt := gt_t (i := 455) (by decide +kernel) rfl
theorem tw456 : Cond.instanceMethod ⟨"CardMessageDesk", "balance", "(J)J"⟩ ∈ gt := gt_t (i := 456) (by decide +kernel) rfl
theorem tw457 : Cond.selects "CardMessageDesk" ⟨"CardMessageDesk", "balance", "(J)J"⟩ ⟨"CardMessageDesk", "balance", "(J)J"⟩ ∈ gt := gt_t (i := 457) (by decide +kernel) rfl
theorem tw458 : Cond.code ⟨"CardMessageDesk", "balance", "(J)J"⟩ prog_1_method_7_code 4 (some .long) ∈ gt := gt_t (i := 458) (by decide +kernel) rfl
theorem tw460 : Cond.methodLink "CardMessageDeskLaw" 45 ⟨"CardMessageDesk", "available", "(J)J"⟩ ∈ gt := gt_t (i := 460) (by decide +kernel) rfl
theorem tw461 : Cond.instanceMethod ⟨"CardMessageDesk", "available", "(J)J"⟩ ∈ gt := gt_t (i := 461) (by decide +kernel) rfl
theorem tw462 : Cond.selects "CardMessageDesk" ⟨"CardMessageDesk", "available", "(J)J"⟩ ⟨"CardMessageDesk", "available", "(J)J"⟩ ∈ gt := gt_t (i := 462) (by decide +kernel) rfl
theorem tw463 : Cond.code ⟨"CardMessageDesk", "available", "(J)J"⟩ prog_1_method_8_code 4 (some .long) ∈ gt := gt_t (i := 463) (by decide +kernel) rfl
theorem tw464 : Cond.methodLink "CardMessageDeskLaw" 49 ⟨"CardMessageDesk", "entries", "()I"⟩ ∈ gt := gt_t (i := 464) (by decide +kernel) rfl
theorem tw465 : Cond.instanceMethod ⟨"CardMessageDesk", "entries", "()I"⟩ ∈ gt := gt_t (i := 465) (by decide +kernel) rfl
theorem tw466 : Cond.selects "CardMessageDesk" ⟨"CardMessageDesk", "entries", "()I"⟩ ⟨"CardMessageDesk", "entries", "()I"⟩ ∈ gt := gt_t (i := 466) (by decide +kernel) rfl
theorem tw467 : Cond.code ⟨"CardMessageDesk", "entries", "()I"⟩ prog_1_method_9_code 1 (some .int) ∈ gt := gt_t (i := 467) (by decide +kernel) rfl
theorem tw468 : Cond.methodLink "CardMessageDeskLaw" 53 ⟨"CardMessageDesk", "entry", "(II)I"⟩ ∈ gt := gt_t (i := 468) (by decide +kernel) rfl
theorem tw469 : Cond.instanceMethod ⟨"CardMessageDesk", "entry", "(II)I"⟩ ∈ gt := gt_t (i := 469) (by decide +kernel) rfl
theorem tw470 : Cond.selects "CardMessageDesk" ⟨"CardMessageDesk", "entry", "(II)I"⟩ ⟨"CardMessageDesk", "entry", "(II)I"⟩ ∈ gt := gt_t (i := 470) (by decide +kernel) rfl
theorem tw471 : Cond.code ⟨"CardMessageDesk", "entry", "(II)I"⟩ prog_1_method_10_code 4 (some .int) ∈ gt := gt_t (i := 471) (by decide +kernel) rfl
theorem tw481 : Cond.methodLink "CardMessageDeskLaw" 58 ⟨"CardMessageDesk", "amount", "(I)J"⟩ ∈ gt := gt_t (i := 481) (by decide +kernel) rfl
theorem tw482 : Cond.instanceMethod ⟨"CardMessageDesk", "amount", "(I)J"⟩ ∈ gt := gt_t (i := 482) (by decide +kernel) rfl
theorem tw483 : Cond.selects "CardMessageDesk" ⟨"CardMessageDesk", "amount", "(I)J"⟩ ⟨"CardMessageDesk", "amount", "(I)J"⟩ ∈ gt := gt_t (i := 483) (by decide +kernel) rfl
theorem tw484 : Cond.code ⟨"CardMessageDesk", "amount", "(I)J"⟩ prog_1_method_11_code 3 (some .long) ∈ gt := gt_t (i := 484) (by decide +kernel) rfl
theorem tw486 : Cond.methodLink "CardMessageDeskLaw" 63 ⟨"CardMessageDesk", "net", "(I)J"⟩ ∈ gt := gt_t (i := 486) (by decide +kernel) rfl
theorem tw487 : Cond.instanceMethod ⟨"CardMessageDesk", "net", "(I)J"⟩ ∈ gt := gt_t (i := 487) (by decide +kernel) rfl
theorem tw488 : Cond.selects "CardMessageDesk" ⟨"CardMessageDesk", "net", "(I)J"⟩ ⟨"CardMessageDesk", "net", "(I)J"⟩ ∈ gt := gt_t (i := 488) (by decide +kernel) rfl
theorem tw489 : Cond.code ⟨"CardMessageDesk", "net", "(I)J"⟩ prog_1_method_12_code 2 (some .long) ∈ gt := gt_t (i := 489) (by decide +kernel) rfl
theorem tw490 : Cond.methodLink "CardMessageDeskLaw" 67 ⟨"CardMessageDesk", "settled", "()J"⟩ ∈ gt := gt_t (i := 490) (by decide +kernel) rfl
theorem tw491 : Cond.instanceMethod ⟨"CardMessageDesk", "settled", "()J"⟩ ∈ gt := gt_t (i := 491) (by decide +kernel) rfl
theorem tw492 : Cond.selects "CardMessageDesk" ⟨"CardMessageDesk", "settled", "()J"⟩ ⟨"CardMessageDesk", "settled", "()J"⟩ ∈ gt := gt_t (i := 492) (by decide +kernel) rfl
theorem tw493 : Cond.code ⟨"CardMessageDesk", "settled", "()J"⟩ prog_1_method_13_code 1 (some .long) ∈ gt := gt_t (i := 493) (by decide +kernel) rfl
theorem tw494 : Cond.classLink "CardMessageDeskLaw" 10 "CardMessageDeskModel" ∈ gt := gt_t (i := 494) (by decide +kernel) rfl
theorem tw495 : Cond.instantiable "CardMessageDeskModel" 32 ∈ gt := gt_t (i := 495) (by decide +kernel) rfl
theorem tw496 : Cond.methodLink "CardMessageDeskLaw" 12 ⟨"CardMessageDeskModel", "<init>", "()V"⟩ ∈ gt := gt_t (i := 496) (by decide +kernel) rfl
theorem tw497 : Cond.instanceMethod ⟨"CardMessageDeskModel", "<init>", "()V"⟩ ∈ gt := gt_t (i := 497) (by decide +kernel) rfl
theorem tw498 : Cond.code ⟨"CardMessageDeskModel", "<init>", "()V"⟩ prog_10_method_1_code 1 none ∈ gt := gt_t (i := 498) (by decide +kernel) rfl
theorem tw599 : Cond.methodLink "CardMessageDeskLaw" 19 ⟨"CardMessageDeskModel", "open", "(JJ)Z"⟩ ∈ gt := gt_t (i := 599) (by decide +kernel) rfl
theorem tw600 : Cond.instanceMethod ⟨"CardMessageDeskModel", "open", "(JJ)Z"⟩ ∈ gt := gt_t (i := 600) (by decide +kernel) rfl
theorem tw601 : Cond.selects "CardMessageDeskModel" ⟨"CardMessageDeskModel", "open", "(JJ)Z"⟩ ⟨"CardMessageDeskModel", "open", "(JJ)Z"⟩ ∈ gt := gt_t (i := 601) (by decide +kernel) rfl
theorem tw602 : Cond.code ⟨"CardMessageDeskModel", "open", "(JJ)Z"⟩ prog_10_method_3_code 6 (some .boolean) ∈ gt := gt_t (i := 602) (by decide +kernel) rfl
theorem tw609 : Cond.methodLink "CardMessageDeskLaw" 44 ⟨"CardMessageDeskModel", "balance", "(J)J"⟩ ∈ gt := gt_t (i := 609) (by decide +kernel) rfl
theorem tw610 : Cond.instanceMethod ⟨"CardMessageDeskModel", "balance", "(J)J"⟩ ∈ gt := gt_t (i := 610) (by decide +kernel) rfl
theorem tw611 : Cond.selects "CardMessageDeskModel" ⟨"CardMessageDeskModel", "balance", "(J)J"⟩ ⟨"CardMessageDeskModel", "balance", "(J)J"⟩ ∈ gt := gt_t (i := 611) (by decide +kernel) rfl
theorem tw612 : Cond.code ⟨"CardMessageDeskModel", "balance", "(J)J"⟩ prog_10_method_4_code 4 (some .long) ∈ gt := gt_t (i := 612) (by decide +kernel) rfl
theorem tw614 : Cond.methodLink "CardMessageDeskLaw" 48 ⟨"CardMessageDeskModel", "available", "(J)J"⟩ ∈ gt := gt_t (i := 614) (by decide +kernel) rfl
theorem tw622 : Cond.methodLink "CardMessageDeskLaw" 39 ⟨"CardMessageDeskModel", "tick", "(I)Z"⟩ ∈ gt := gt_t (i := 622) (by decide +kernel) rfl
theorem tw623 : Cond.instanceMethod ⟨"CardMessageDeskModel", "tick", "(I)Z"⟩ ∈ gt := gt_t (i := 623) (by decide +kernel) rfl
theorem tw624 : Cond.selects "CardMessageDeskModel" ⟨"CardMessageDeskModel", "tick", "(I)Z"⟩ ⟨"CardMessageDeskModel", "tick", "(I)Z"⟩ ∈ gt := gt_t (i := 624) (by decide +kernel) rfl
theorem tw625 : Cond.code ⟨"CardMessageDeskModel", "tick", "(I)Z"⟩ prog_10_method_7_code 2 (some .boolean) ∈ gt := gt_t (i := 625) (by decide +kernel) rfl
theorem tw626 : Cond.methodLink "CardMessageDeskLaw" 24 ⟨"CardMessageDeskModel", "feed", "(JI)I"⟩ ∈ gt := gt_t (i := 626) (by decide +kernel) rfl
theorem tw627 : Cond.instanceMethod ⟨"CardMessageDeskModel", "feed", "(JI)I"⟩ ∈ gt := gt_t (i := 627) (by decide +kernel) rfl
theorem tw628 : Cond.selects "CardMessageDeskModel" ⟨"CardMessageDeskModel", "feed", "(JI)I"⟩ ⟨"CardMessageDeskModel", "feed", "(JI)I"⟩ ∈ gt := gt_t (i := 628) (by decide +kernel) rfl
theorem tw629 : Cond.code ⟨"CardMessageDeskModel", "feed", "(JI)I"⟩ prog_10_method_8_code 5 (some .int) ∈ gt := gt_t (i := 629) (by decide +kernel) rfl
theorem tw631 : Cond.methodLink "CardMessageDeskLaw" 29 ⟨"CardMessageDeskModel", "handle", "()I"⟩ ∈ gt := gt_t (i := 631) (by decide +kernel) rfl
theorem tw632 : Cond.instanceMethod ⟨"CardMessageDeskModel", "handle", "()I"⟩ ∈ gt := gt_t (i := 632) (by decide +kernel) rfl
theorem tw633 : Cond.selects "CardMessageDeskModel" ⟨"CardMessageDeskModel", "handle", "()I"⟩ ⟨"CardMessageDeskModel", "handle", "()I"⟩ ∈ gt := gt_t (i := 633) (by decide +kernel) rfl
theorem tw634 : Cond.code ⟨"CardMessageDeskModel", "handle", "()I"⟩ prog_10_method_33_code 3 (some .int) ∈ gt := gt_t (i := 634) (by decide +kernel) rfl
theorem tw738 : Cond.methodLink "CardMessageDeskLaw" 34 ⟨"CardMessageDeskModel", "reply", "(I)I"⟩ ∈ gt := gt_t (i := 738) (by decide +kernel) rfl
theorem tw739 : Cond.instanceMethod ⟨"CardMessageDeskModel", "reply", "(I)I"⟩ ∈ gt := gt_t (i := 739) (by decide +kernel) rfl
theorem tw740 : Cond.selects "CardMessageDeskModel" ⟨"CardMessageDeskModel", "reply", "(I)I"⟩ ⟨"CardMessageDeskModel", "reply", "(I)I"⟩ ∈ gt := gt_t (i := 740) (by decide +kernel) rfl
theorem tw741 : Cond.code ⟨"CardMessageDeskModel", "reply", "(I)I"⟩ prog_10_method_34_code 2 (some .int) ∈ gt := gt_t (i := 741) (by decide +kernel) rfl
theorem tw742 : Cond.methodLink "CardMessageDeskLaw" 52 ⟨"CardMessageDeskModel", "entries", "()I"⟩ ∈ gt := gt_t (i := 742) (by decide +kernel) rfl
theorem tw743 : Cond.instanceMethod ⟨"CardMessageDeskModel", "entries", "()I"⟩ ∈ gt := gt_t (i := 743) (by decide +kernel) rfl
theorem tw744 : Cond.selects "CardMessageDeskModel" ⟨"CardMessageDeskModel", "entries", "()I"⟩ ⟨"CardMessageDeskModel", "entries", "()I"⟩ ∈ gt := gt_t (i := 744) (by decide +kernel) rfl
theorem tw745 : Cond.code ⟨"CardMessageDeskModel", "entries", "()I"⟩ prog_10_method_35_code 1 (some .int) ∈ gt := gt_t (i := 745) (by decide +kernel) rfl
theorem tw746 : Cond.methodLink "CardMessageDeskLaw" 57 ⟨"CardMessageDeskModel", "entry", "(II)I"⟩ ∈ gt := gt_t (i := 746) (by decide +kernel) rfl
theorem tw747 : Cond.instanceMethod ⟨"CardMessageDeskModel", "entry", "(II)I"⟩ ∈ gt := gt_t (i := 747) (by decide +kernel) rfl
theorem tw748 : Cond.selects "CardMessageDeskModel" ⟨"CardMessageDeskModel", "entry", "(II)I"⟩ ⟨"CardMessageDeskModel", "entry", "(II)I"⟩ ∈ gt := gt_t (i := 748) (by decide +kernel) rfl
theorem tw749 : Cond.code ⟨"CardMessageDeskModel", "entry", "(II)I"⟩ prog_10_method_36_code 3 (some .int) ∈ gt := gt_t (i := 749) (by decide +kernel) rfl
theorem tw750 : Cond.methodLink "CardMessageDeskLaw" 62 ⟨"CardMessageDeskModel", "amount", "(I)J"⟩ ∈ gt := gt_t (i := 750) (by decide +kernel) rfl
theorem tw751 : Cond.instanceMethod ⟨"CardMessageDeskModel", "amount", "(I)J"⟩ ∈ gt := gt_t (i := 751) (by decide +kernel) rfl
theorem tw752 : Cond.selects "CardMessageDeskModel" ⟨"CardMessageDeskModel", "amount", "(I)J"⟩ ⟨"CardMessageDeskModel", "amount", "(I)J"⟩ ∈ gt := gt_t (i := 752) (by decide +kernel) rfl
theorem tw753 : Cond.code ⟨"CardMessageDeskModel", "amount", "(I)J"⟩ prog_10_method_37_code 2 (some .long) ∈ gt := gt_t (i := 753) (by decide +kernel) rfl
theorem tw755 : Cond.methodLink "CardMessageDeskLaw" 66 ⟨"CardMessageDeskModel", "net", "(I)J"⟩ ∈ gt := gt_t (i := 755) (by decide +kernel) rfl
theorem tw756 : Cond.instanceMethod ⟨"CardMessageDeskModel", "net", "(I)J"⟩ ∈ gt := gt_t (i := 756) (by decide +kernel) rfl
theorem tw757 : Cond.selects "CardMessageDeskModel" ⟨"CardMessageDeskModel", "net", "(I)J"⟩ ⟨"CardMessageDeskModel", "net", "(I)J"⟩ ∈ gt := gt_t (i := 757) (by decide +kernel) rfl
theorem tw758 : Cond.code ⟨"CardMessageDeskModel", "net", "(I)J"⟩ prog_10_method_38_code 2 (some .long) ∈ gt := gt_t (i := 758) (by decide +kernel) rfl
theorem tw759 : Cond.methodLink "CardMessageDeskLaw" 71 ⟨"CardMessageDeskModel", "settled", "()J"⟩ ∈ gt := gt_t (i := 759) (by decide +kernel) rfl
theorem tw760 : Cond.instanceMethod ⟨"CardMessageDeskModel", "settled", "()J"⟩ ∈ gt := gt_t (i := 760) (by decide +kernel) rfl
theorem tw761 : Cond.selects "CardMessageDeskModel" ⟨"CardMessageDeskModel", "settled", "()J"⟩ ⟨"CardMessageDeskModel", "settled", "()J"⟩ ∈ gt := gt_t (i := 761) (by decide +kernel) rfl
theorem tw762 : Cond.code ⟨"CardMessageDeskModel", "settled", "()J"⟩ prog_10_method_39_code 1 (some .long) ∈ gt := gt_t (i := 762) (by decide +kernel) rfl
theorem tw763 : Cond.constantLong "CardMessageDeskLaw" 13 4294967295 ∈ gt := gt_t (i := 763) (by decide +kernel) rfl
theorem d_Law_law_0 : decode code 0 = .ok (.new 7, 3) := by decide +kernel
theorem d_Law_law_3 : decode code 3 = .ok (.dup, 1) := by decide +kernel
theorem d_Law_law_4 : decode code 4 = .ok (.invokespecial 9, 3) := by decide +kernel
theorem d_Law_law_7 : decode code 7 = .ok (.astore_n 1, 1) := by decide +kernel
theorem d_Law_law_8 : decode code 8 = .ok (.new 10, 3) := by decide +kernel
theorem d_Law_law_11 : decode code 11 = .ok (.dup, 1) := by decide +kernel
theorem d_Law_law_12 : decode code 12 = .ok (.invokespecial 12, 3) := by decide +kernel
theorem d_Law_law_15 : decode code 15 = .ok (.astore_n 2, 1) := by decide +kernel
theorem d_Law_law_16 : decode code 16 = .ok (.iconst 0, 1) := by decide +kernel
theorem d_Law_law_17 : decode code 17 = .ok (.istore_n 3, 1) := by decide +kernel
theorem d_Law_law_18 : decode code 18 = .ok (.iload_n 3, 1) := by decide +kernel
theorem d_Law_law_19 : decode code 19 = .ok (.aload_n 0, 1) := by decide +kernel
theorem d_Law_law_20 : decode code 20 = .ok (.arraylength, 1) := by decide +kernel
theorem d_Law_law_21 : decode code 21 = .ok (.iconst 5, 1) := by decide +kernel
theorem d_Law_law_22 : decode code 22 = .ok (.isub, 1) := by decide +kernel
theorem d_Law_law_23 : decode code 23 = .ok (.if_icmp .gt 510, 3) := by decide +kernel
theorem d_Law_law_26 : decode code 26 = .ok (.aload_n 0, 1) := by decide +kernel
theorem d_Law_law_27 : decode code 27 = .ok (.iload_n 3, 1) := by decide +kernel
theorem d_Law_law_28 : decode code 28 = .ok (.iaload, 1) := by decide +kernel
theorem d_Law_law_29 : decode code 29 = .ok (.bipush 15, 2) := by decide +kernel
theorem d_Law_law_31 : decode code 31 = .ok (.iand, 1) := by decide +kernel
theorem d_Law_law_32 : decode code 32 = .ok (.tableswitch 495 0 11 #[64, 157, 220, 233, 256, 279, 333, 387, 400, 433, 457, 481], 64) := by decide +kernel
theorem d_Law_law_96 : decode code 96 = .ok (.aload_n 1, 1) := by decide +kernel
theorem d_Law_law_97 : decode code 97 = .ok (.aload_n 0, 1) := by decide +kernel
theorem d_Law_law_98 : decode code 98 = .ok (.iload_n 3, 1) := by decide +kernel
theorem d_Law_law_99 : decode code 99 = .ok (.iconst 1, 1) := by decide +kernel
theorem d_Law_law_100 : decode code 100 = .ok (.iadd, 1) := by decide +kernel
theorem d_Law_law_101 : decode code 101 = .ok (.iaload, 1) := by decide +kernel
theorem d_Law_law_102 : decode code 102 = .ok (.i2l, 1) := by decide +kernel
theorem d_Law_law_103 : decode code 103 = .ok (.bipush 32, 2) := by decide +kernel
theorem d_Law_law_105 : decode code 105 = .ok (.lshl, 1) := by decide +kernel
theorem d_Law_law_106 : decode code 106 = .ok (.aload_n 0, 1) := by decide +kernel
theorem d_Law_law_107 : decode code 107 = .ok (.iload_n 3, 1) := by decide +kernel
theorem d_Law_law_108 : decode code 108 = .ok (.iconst 2, 1) := by decide +kernel
theorem d_Law_law_109 : decode code 109 = .ok (.iadd, 1) := by decide +kernel
theorem d_Law_law_110 : decode code 110 = .ok (.iaload, 1) := by decide +kernel
theorem d_Law_law_111 : decode code 111 = .ok (.i2l, 1) := by decide +kernel
theorem d_Law_law_112 : decode code 112 = .ok (.ldc2_w 13, 3) := by decide +kernel
theorem d_Law_law_115 : decode code 115 = .ok (.land, 1) := by decide +kernel
theorem d_Law_law_116 : decode code 116 = .ok (.lor, 1) := by decide +kernel
theorem d_Law_law_117 : decode code 117 = .ok (.aload_n 0, 1) := by decide +kernel
theorem d_Law_law_118 : decode code 118 = .ok (.iload_n 3, 1) := by decide +kernel
theorem d_Law_law_119 : decode code 119 = .ok (.iconst 3, 1) := by decide +kernel
theorem d_Law_law_120 : decode code 120 = .ok (.iadd, 1) := by decide +kernel
theorem d_Law_law_121 : decode code 121 = .ok (.iaload, 1) := by decide +kernel
theorem d_Law_law_122 : decode code 122 = .ok (.i2l, 1) := by decide +kernel
theorem d_Law_law_123 : decode code 123 = .ok (.bipush 32, 2) := by decide +kernel
theorem d_Law_law_125 : decode code 125 = .ok (.lshl, 1) := by decide +kernel
theorem d_Law_law_126 : decode code 126 = .ok (.aload_n 0, 1) := by decide +kernel
theorem d_Law_law_127 : decode code 127 = .ok (.iload_n 3, 1) := by decide +kernel
theorem d_Law_law_128 : decode code 128 = .ok (.iconst 4, 1) := by decide +kernel
theorem d_Law_law_129 : decode code 129 = .ok (.iadd, 1) := by decide +kernel
theorem d_Law_law_130 : decode code 130 = .ok (.iaload, 1) := by decide +kernel
theorem d_Law_law_131 : decode code 131 = .ok (.i2l, 1) := by decide +kernel
theorem d_Law_law_132 : decode code 132 = .ok (.ldc2_w 13, 3) := by decide +kernel
theorem d_Law_law_135 : decode code 135 = .ok (.land, 1) := by decide +kernel
theorem d_Law_law_136 : decode code 136 = .ok (.lor, 1) := by decide +kernel
theorem d_Law_law_137 : decode code 137 = .ok (.invokevirtual 15, 3) := by decide +kernel
theorem d_Law_law_140 : decode code 140 = .ok (.aload_n 2, 1) := by decide +kernel
theorem d_Law_law_141 : decode code 141 = .ok (.aload_n 0, 1) := by decide +kernel
theorem d_Law_law_142 : decode code 142 = .ok (.iload_n 3, 1) := by decide +kernel
theorem d_Law_law_143 : decode code 143 = .ok (.iconst 1, 1) := by decide +kernel
theorem d_Law_law_144 : decode code 144 = .ok (.iadd, 1) := by decide +kernel
theorem d_Law_law_145 : decode code 145 = .ok (.iaload, 1) := by decide +kernel
theorem d_Law_law_146 : decode code 146 = .ok (.i2l, 1) := by decide +kernel
theorem d_Law_law_147 : decode code 147 = .ok (.bipush 32, 2) := by decide +kernel
theorem d_Law_law_149 : decode code 149 = .ok (.lshl, 1) := by decide +kernel
theorem d_Law_law_150 : decode code 150 = .ok (.aload_n 0, 1) := by decide +kernel
theorem d_Law_law_151 : decode code 151 = .ok (.iload_n 3, 1) := by decide +kernel
theorem d_Law_law_152 : decode code 152 = .ok (.iconst 2, 1) := by decide +kernel
theorem d_Law_law_153 : decode code 153 = .ok (.iadd, 1) := by decide +kernel
theorem d_Law_law_154 : decode code 154 = .ok (.iaload, 1) := by decide +kernel
theorem d_Law_law_155 : decode code 155 = .ok (.i2l, 1) := by decide +kernel
theorem d_Law_law_156 : decode code 156 = .ok (.ldc2_w 13, 3) := by decide +kernel
theorem d_Law_law_159 : decode code 159 = .ok (.land, 1) := by decide +kernel
theorem d_Law_law_160 : decode code 160 = .ok (.lor, 1) := by decide +kernel
theorem d_Law_law_161 : decode code 161 = .ok (.aload_n 0, 1) := by decide +kernel
theorem d_Law_law_162 : decode code 162 = .ok (.iload_n 3, 1) := by decide +kernel
theorem d_Law_law_163 : decode code 163 = .ok (.iconst 3, 1) := by decide +kernel
theorem d_Law_law_164 : decode code 164 = .ok (.iadd, 1) := by decide +kernel
theorem d_Law_law_165 : decode code 165 = .ok (.iaload, 1) := by decide +kernel
theorem d_Law_law_166 : decode code 166 = .ok (.i2l, 1) := by decide +kernel
theorem d_Law_law_167 : decode code 167 = .ok (.bipush 32, 2) := by decide +kernel
theorem d_Law_law_169 : decode code 169 = .ok (.lshl, 1) := by decide +kernel
theorem d_Law_law_170 : decode code 170 = .ok (.aload_n 0, 1) := by decide +kernel
theorem d_Law_law_171 : decode code 171 = .ok (.iload_n 3, 1) := by decide +kernel
theorem d_Law_law_172 : decode code 172 = .ok (.iconst 4, 1) := by decide +kernel
theorem d_Law_law_173 : decode code 173 = .ok (.iadd, 1) := by decide +kernel
theorem d_Law_law_174 : decode code 174 = .ok (.iaload, 1) := by decide +kernel
theorem d_Law_law_175 : decode code 175 = .ok (.i2l, 1) := by decide +kernel
theorem d_Law_law_176 : decode code 176 = .ok (.ldc2_w 13, 3) := by decide +kernel
theorem d_Law_law_179 : decode code 179 = .ok (.land, 1) := by decide +kernel
theorem d_Law_law_180 : decode code 180 = .ok (.lor, 1) := by decide +kernel
theorem d_Law_law_181 : decode code 181 = .ok (.invokevirtual 19, 3) := by decide +kernel
theorem d_Law_law_184 : decode code 184 = .ok (.if_icmp .eq 343, 3) := by decide +kernel
theorem d_Law_law_187 : decode code 187 = .ok (.iconst 0, 1) := by decide +kernel
theorem d_Law_law_188 : decode code 188 = .ok (.ireturn, 1) := by decide +kernel
theorem d_Law_law_189 : decode code 189 = .ok (.aload_n 1, 1) := by decide +kernel
theorem d_Law_law_190 : decode code 190 = .ok (.aload_n 0, 1) := by decide +kernel
theorem d_Law_law_191 : decode code 191 = .ok (.iload_n 3, 1) := by decide +kernel
theorem d_Law_law_192 : decode code 192 = .ok (.iconst 1, 1) := by decide +kernel
theorem d_Law_law_193 : decode code 193 = .ok (.iadd, 1) := by decide +kernel
theorem d_Law_law_194 : decode code 194 = .ok (.iaload, 1) := by decide +kernel
theorem d_Law_law_195 : decode code 195 = .ok (.i2l, 1) := by decide +kernel
theorem d_Law_law_196 : decode code 196 = .ok (.bipush 32, 2) := by decide +kernel
theorem d_Law_law_198 : decode code 198 = .ok (.lshl, 1) := by decide +kernel
theorem d_Law_law_199 : decode code 199 = .ok (.aload_n 0, 1) := by decide +kernel
theorem d_Law_law_200 : decode code 200 = .ok (.iload_n 3, 1) := by decide +kernel
theorem d_Law_law_201 : decode code 201 = .ok (.iconst 2, 1) := by decide +kernel
theorem d_Law_law_202 : decode code 202 = .ok (.iadd, 1) := by decide +kernel
theorem d_Law_law_203 : decode code 203 = .ok (.iaload, 1) := by decide +kernel
theorem d_Law_law_204 : decode code 204 = .ok (.i2l, 1) := by decide +kernel
theorem d_Law_law_205 : decode code 205 = .ok (.ldc2_w 13, 3) := by decide +kernel
theorem d_Law_law_208 : decode code 208 = .ok (.land, 1) := by decide +kernel
theorem d_Law_law_209 : decode code 209 = .ok (.lor, 1) := by decide +kernel
theorem d_Law_law_210 : decode code 210 = .ok (.aload_n 0, 1) := by decide +kernel
theorem d_Law_law_211 : decode code 211 = .ok (.iload_n 3, 1) := by decide +kernel
theorem d_Law_law_212 : decode code 212 = .ok (.iconst 3, 1) := by decide +kernel
theorem d_Law_law_213 : decode code 213 = .ok (.iadd, 1) := by decide +kernel
theorem d_Law_law_214 : decode code 214 = .ok (.iaload, 1) := by decide +kernel
theorem d_Law_law_215 : decode code 215 = .ok (.invokevirtual 20, 3) := by decide +kernel
theorem d_Law_law_218 : decode code 218 = .ok (.aload_n 2, 1) := by decide +kernel
theorem d_Law_law_219 : decode code 219 = .ok (.aload_n 0, 1) := by decide +kernel
theorem d_Law_law_220 : decode code 220 = .ok (.iload_n 3, 1) := by decide +kernel
theorem d_Law_law_221 : decode code 221 = .ok (.iconst 1, 1) := by decide +kernel
theorem d_Law_law_222 : decode code 222 = .ok (.iadd, 1) := by decide +kernel
theorem d_Law_law_223 : decode code 223 = .ok (.iaload, 1) := by decide +kernel
theorem d_Law_law_224 : decode code 224 = .ok (.i2l, 1) := by decide +kernel
theorem d_Law_law_225 : decode code 225 = .ok (.bipush 32, 2) := by decide +kernel
theorem d_Law_law_227 : decode code 227 = .ok (.lshl, 1) := by decide +kernel
theorem d_Law_law_228 : decode code 228 = .ok (.aload_n 0, 1) := by decide +kernel
theorem d_Law_law_229 : decode code 229 = .ok (.iload_n 3, 1) := by decide +kernel
theorem d_Law_law_230 : decode code 230 = .ok (.iconst 2, 1) := by decide +kernel
theorem d_Law_law_231 : decode code 231 = .ok (.iadd, 1) := by decide +kernel
theorem d_Law_law_232 : decode code 232 = .ok (.iaload, 1) := by decide +kernel
theorem d_Law_law_233 : decode code 233 = .ok (.i2l, 1) := by decide +kernel
theorem d_Law_law_234 : decode code 234 = .ok (.ldc2_w 13, 3) := by decide +kernel
theorem d_Law_law_237 : decode code 237 = .ok (.land, 1) := by decide +kernel
theorem d_Law_law_238 : decode code 238 = .ok (.lor, 1) := by decide +kernel
theorem d_Law_law_239 : decode code 239 = .ok (.aload_n 0, 1) := by decide +kernel
theorem d_Law_law_240 : decode code 240 = .ok (.iload_n 3, 1) := by decide +kernel
theorem d_Law_law_241 : decode code 241 = .ok (.iconst 3, 1) := by decide +kernel
theorem d_Law_law_242 : decode code 242 = .ok (.iadd, 1) := by decide +kernel
theorem d_Law_law_243 : decode code 243 = .ok (.iaload, 1) := by decide +kernel
theorem d_Law_law_244 : decode code 244 = .ok (.invokevirtual 24, 3) := by decide +kernel
theorem d_Law_law_247 : decode code 247 = .ok (.if_icmp .eq 280, 3) := by decide +kernel
theorem d_Law_law_250 : decode code 250 = .ok (.iconst 0, 1) := by decide +kernel
theorem d_Law_law_251 : decode code 251 = .ok (.ireturn, 1) := by decide +kernel
theorem d_Law_law_252 : decode code 252 = .ok (.aload_n 1, 1) := by decide +kernel
theorem d_Law_law_253 : decode code 253 = .ok (.invokevirtual 25, 3) := by decide +kernel
theorem d_Law_law_256 : decode code 256 = .ok (.aload_n 2, 1) := by decide +kernel
theorem d_Law_law_257 : decode code 257 = .ok (.invokevirtual 29, 3) := by decide +kernel
theorem d_Law_law_260 : decode code 260 = .ok (.if_icmp .eq 267, 3) := by decide +kernel
theorem d_Law_law_263 : decode code 263 = .ok (.iconst 0, 1) := by decide +kernel
theorem d_Law_law_264 : decode code 264 = .ok (.ireturn, 1) := by decide +kernel
theorem d_Law_law_265 : decode code 265 = .ok (.aload_n 1, 1) := by decide +kernel
theorem d_Law_law_266 : decode code 266 = .ok (.aload_n 0, 1) := by decide +kernel
theorem d_Law_law_267 : decode code 267 = .ok (.iload_n 3, 1) := by decide +kernel
theorem d_Law_law_268 : decode code 268 = .ok (.iconst 1, 1) := by decide +kernel
theorem d_Law_law_269 : decode code 269 = .ok (.iadd, 1) := by decide +kernel
theorem d_Law_law_270 : decode code 270 = .ok (.iaload, 1) := by decide +kernel
theorem d_Law_law_271 : decode code 271 = .ok (.invokevirtual 30, 3) := by decide +kernel
theorem d_Law_law_274 : decode code 274 = .ok (.aload_n 2, 1) := by decide +kernel
theorem d_Law_law_275 : decode code 275 = .ok (.aload_n 0, 1) := by decide +kernel
theorem d_Law_law_276 : decode code 276 = .ok (.iload_n 3, 1) := by decide +kernel
theorem d_Law_law_277 : decode code 277 = .ok (.iconst 1, 1) := by decide +kernel
theorem d_Law_law_278 : decode code 278 = .ok (.iadd, 1) := by decide +kernel
theorem d_Law_law_279 : decode code 279 = .ok (.iaload, 1) := by decide +kernel
theorem d_Law_law_280 : decode code 280 = .ok (.invokevirtual 34, 3) := by decide +kernel
theorem d_Law_law_283 : decode code 283 = .ok (.if_icmp .eq 244, 3) := by decide +kernel
theorem d_Law_law_286 : decode code 286 = .ok (.iconst 0, 1) := by decide +kernel
theorem d_Law_law_287 : decode code 287 = .ok (.ireturn, 1) := by decide +kernel
theorem d_Law_law_288 : decode code 288 = .ok (.aload_n 1, 1) := by decide +kernel
theorem d_Law_law_289 : decode code 289 = .ok (.aload_n 0, 1) := by decide +kernel
theorem d_Law_law_290 : decode code 290 = .ok (.iload_n 3, 1) := by decide +kernel
theorem d_Law_law_291 : decode code 291 = .ok (.iconst 1, 1) := by decide +kernel
theorem d_Law_law_292 : decode code 292 = .ok (.iadd, 1) := by decide +kernel
theorem d_Law_law_293 : decode code 293 = .ok (.iaload, 1) := by decide +kernel
theorem d_Law_law_294 : decode code 294 = .ok (.invokevirtual 35, 3) := by decide +kernel
theorem d_Law_law_297 : decode code 297 = .ok (.aload_n 2, 1) := by decide +kernel
theorem d_Law_law_298 : decode code 298 = .ok (.aload_n 0, 1) := by decide +kernel
theorem d_Law_law_299 : decode code 299 = .ok (.iload_n 3, 1) := by decide +kernel
theorem d_Law_law_300 : decode code 300 = .ok (.iconst 1, 1) := by decide +kernel
theorem d_Law_law_301 : decode code 301 = .ok (.iadd, 1) := by decide +kernel
theorem d_Law_law_302 : decode code 302 = .ok (.iaload, 1) := by decide +kernel
theorem d_Law_law_303 : decode code 303 = .ok (.invokevirtual 39, 3) := by decide +kernel
theorem d_Law_law_306 : decode code 306 = .ok (.if_icmp .eq 221, 3) := by decide +kernel
theorem d_Law_law_309 : decode code 309 = .ok (.iconst 0, 1) := by decide +kernel
theorem d_Law_law_310 : decode code 310 = .ok (.ireturn, 1) := by decide +kernel
theorem d_Law_law_311 : decode code 311 = .ok (.aload_n 1, 1) := by decide +kernel
theorem d_Law_law_312 : decode code 312 = .ok (.aload_n 0, 1) := by decide +kernel
theorem d_Law_law_313 : decode code 313 = .ok (.iload_n 3, 1) := by decide +kernel
theorem d_Law_law_314 : decode code 314 = .ok (.iconst 1, 1) := by decide +kernel
theorem d_Law_law_315 : decode code 315 = .ok (.iadd, 1) := by decide +kernel
theorem d_Law_law_316 : decode code 316 = .ok (.iaload, 1) := by decide +kernel
theorem d_Law_law_317 : decode code 317 = .ok (.i2l, 1) := by decide +kernel
theorem d_Law_law_318 : decode code 318 = .ok (.bipush 32, 2) := by decide +kernel
theorem d_Law_law_320 : decode code 320 = .ok (.lshl, 1) := by decide +kernel
theorem d_Law_law_321 : decode code 321 = .ok (.aload_n 0, 1) := by decide +kernel
theorem d_Law_law_322 : decode code 322 = .ok (.iload_n 3, 1) := by decide +kernel
theorem d_Law_law_323 : decode code 323 = .ok (.iconst 2, 1) := by decide +kernel
theorem d_Law_law_324 : decode code 324 = .ok (.iadd, 1) := by decide +kernel
theorem d_Law_law_325 : decode code 325 = .ok (.iaload, 1) := by decide +kernel
theorem d_Law_law_326 : decode code 326 = .ok (.i2l, 1) := by decide +kernel
theorem d_Law_law_327 : decode code 327 = .ok (.ldc2_w 13, 3) := by decide +kernel
theorem d_Law_law_330 : decode code 330 = .ok (.land, 1) := by decide +kernel
theorem d_Law_law_331 : decode code 331 = .ok (.lor, 1) := by decide +kernel
theorem d_Law_law_332 : decode code 332 = .ok (.invokevirtual 40, 3) := by decide +kernel
theorem d_Law_law_335 : decode code 335 = .ok (.aload_n 2, 1) := by decide +kernel
theorem d_Law_law_336 : decode code 336 = .ok (.aload_n 0, 1) := by decide +kernel
theorem d_Law_law_337 : decode code 337 = .ok (.iload_n 3, 1) := by decide +kernel
theorem d_Law_law_338 : decode code 338 = .ok (.iconst 1, 1) := by decide +kernel
theorem d_Law_law_339 : decode code 339 = .ok (.iadd, 1) := by decide +kernel
theorem d_Law_law_340 : decode code 340 = .ok (.iaload, 1) := by decide +kernel
theorem d_Law_law_341 : decode code 341 = .ok (.i2l, 1) := by decide +kernel
theorem d_Law_law_342 : decode code 342 = .ok (.bipush 32, 2) := by decide +kernel
theorem d_Law_law_344 : decode code 344 = .ok (.lshl, 1) := by decide +kernel
theorem d_Law_law_345 : decode code 345 = .ok (.aload_n 0, 1) := by decide +kernel
theorem d_Law_law_346 : decode code 346 = .ok (.iload_n 3, 1) := by decide +kernel
theorem d_Law_law_347 : decode code 347 = .ok (.iconst 2, 1) := by decide +kernel
theorem d_Law_law_348 : decode code 348 = .ok (.iadd, 1) := by decide +kernel
theorem d_Law_law_349 : decode code 349 = .ok (.iaload, 1) := by decide +kernel
theorem d_Law_law_350 : decode code 350 = .ok (.i2l, 1) := by decide +kernel
theorem d_Law_law_351 : decode code 351 = .ok (.ldc2_w 13, 3) := by decide +kernel
theorem d_Law_law_354 : decode code 354 = .ok (.land, 1) := by decide +kernel
theorem d_Law_law_355 : decode code 355 = .ok (.lor, 1) := by decide +kernel
theorem d_Law_law_356 : decode code 356 = .ok (.invokevirtual 44, 3) := by decide +kernel
theorem d_Law_law_359 : decode code 359 = .ok (.lcmp, 1) := by decide +kernel
theorem d_Law_law_360 : decode code 360 = .ok (.ifCond .eq 167, 3) := by decide +kernel
theorem d_Law_law_363 : decode code 363 = .ok (.iconst 0, 1) := by decide +kernel
theorem d_Law_law_364 : decode code 364 = .ok (.ireturn, 1) := by decide +kernel
theorem d_Law_law_365 : decode code 365 = .ok (.aload_n 1, 1) := by decide +kernel
theorem d_Law_law_366 : decode code 366 = .ok (.aload_n 0, 1) := by decide +kernel
theorem d_Law_law_367 : decode code 367 = .ok (.iload_n 3, 1) := by decide +kernel
theorem d_Law_law_368 : decode code 368 = .ok (.iconst 1, 1) := by decide +kernel
theorem d_Law_law_369 : decode code 369 = .ok (.iadd, 1) := by decide +kernel
theorem d_Law_law_370 : decode code 370 = .ok (.iaload, 1) := by decide +kernel
theorem d_Law_law_371 : decode code 371 = .ok (.i2l, 1) := by decide +kernel
theorem d_Law_law_372 : decode code 372 = .ok (.bipush 32, 2) := by decide +kernel
theorem d_Law_law_374 : decode code 374 = .ok (.lshl, 1) := by decide +kernel
theorem d_Law_law_375 : decode code 375 = .ok (.aload_n 0, 1) := by decide +kernel
theorem d_Law_law_376 : decode code 376 = .ok (.iload_n 3, 1) := by decide +kernel
theorem d_Law_law_377 : decode code 377 = .ok (.iconst 2, 1) := by decide +kernel
theorem d_Law_law_378 : decode code 378 = .ok (.iadd, 1) := by decide +kernel
theorem d_Law_law_379 : decode code 379 = .ok (.iaload, 1) := by decide +kernel
theorem d_Law_law_380 : decode code 380 = .ok (.i2l, 1) := by decide +kernel
theorem d_Law_law_381 : decode code 381 = .ok (.ldc2_w 13, 3) := by decide +kernel
theorem d_Law_law_384 : decode code 384 = .ok (.land, 1) := by decide +kernel
theorem d_Law_law_385 : decode code 385 = .ok (.lor, 1) := by decide +kernel
theorem d_Law_law_386 : decode code 386 = .ok (.invokevirtual 45, 3) := by decide +kernel
theorem d_Law_law_389 : decode code 389 = .ok (.aload_n 2, 1) := by decide +kernel
theorem d_Law_law_390 : decode code 390 = .ok (.aload_n 0, 1) := by decide +kernel
theorem d_Law_law_391 : decode code 391 = .ok (.iload_n 3, 1) := by decide +kernel
theorem d_Law_law_392 : decode code 392 = .ok (.iconst 1, 1) := by decide +kernel
theorem d_Law_law_393 : decode code 393 = .ok (.iadd, 1) := by decide +kernel
theorem d_Law_law_394 : decode code 394 = .ok (.iaload, 1) := by decide +kernel
theorem d_Law_law_395 : decode code 395 = .ok (.i2l, 1) := by decide +kernel
theorem d_Law_law_396 : decode code 396 = .ok (.bipush 32, 2) := by decide +kernel
theorem d_Law_law_398 : decode code 398 = .ok (.lshl, 1) := by decide +kernel
theorem d_Law_law_399 : decode code 399 = .ok (.aload_n 0, 1) := by decide +kernel
theorem d_Law_law_400 : decode code 400 = .ok (.iload_n 3, 1) := by decide +kernel
theorem d_Law_law_401 : decode code 401 = .ok (.iconst 2, 1) := by decide +kernel
theorem d_Law_law_402 : decode code 402 = .ok (.iadd, 1) := by decide +kernel
theorem d_Law_law_403 : decode code 403 = .ok (.iaload, 1) := by decide +kernel
theorem d_Law_law_404 : decode code 404 = .ok (.i2l, 1) := by decide +kernel
theorem d_Law_law_405 : decode code 405 = .ok (.ldc2_w 13, 3) := by decide +kernel
theorem d_Law_law_408 : decode code 408 = .ok (.land, 1) := by decide +kernel
theorem d_Law_law_409 : decode code 409 = .ok (.lor, 1) := by decide +kernel
theorem d_Law_law_410 : decode code 410 = .ok (.invokevirtual 48, 3) := by decide +kernel
theorem d_Law_law_413 : decode code 413 = .ok (.lcmp, 1) := by decide +kernel
theorem d_Law_law_414 : decode code 414 = .ok (.ifCond .eq 113, 3) := by decide +kernel
theorem d_Law_law_417 : decode code 417 = .ok (.iconst 0, 1) := by decide +kernel
theorem d_Law_law_418 : decode code 418 = .ok (.ireturn, 1) := by decide +kernel
theorem d_Law_law_419 : decode code 419 = .ok (.aload_n 1, 1) := by decide +kernel
theorem d_Law_law_420 : decode code 420 = .ok (.invokevirtual 49, 3) := by decide +kernel
theorem d_Law_law_423 : decode code 423 = .ok (.aload_n 2, 1) := by decide +kernel
theorem d_Law_law_424 : decode code 424 = .ok (.invokevirtual 52, 3) := by decide +kernel
theorem d_Law_law_427 : decode code 427 = .ok (.if_icmp .eq 100, 3) := by decide +kernel
theorem d_Law_law_430 : decode code 430 = .ok (.iconst 0, 1) := by decide +kernel
theorem d_Law_law_431 : decode code 431 = .ok (.ireturn, 1) := by decide +kernel
theorem d_Law_law_432 : decode code 432 = .ok (.aload_n 1, 1) := by decide +kernel
theorem d_Law_law_433 : decode code 433 = .ok (.aload_n 0, 1) := by decide +kernel
theorem d_Law_law_434 : decode code 434 = .ok (.iload_n 3, 1) := by decide +kernel
theorem d_Law_law_435 : decode code 435 = .ok (.iconst 1, 1) := by decide +kernel
theorem d_Law_law_436 : decode code 436 = .ok (.iadd, 1) := by decide +kernel
theorem d_Law_law_437 : decode code 437 = .ok (.iaload, 1) := by decide +kernel
theorem d_Law_law_438 : decode code 438 = .ok (.aload_n 0, 1) := by decide +kernel
theorem d_Law_law_439 : decode code 439 = .ok (.iload_n 3, 1) := by decide +kernel
theorem d_Law_law_440 : decode code 440 = .ok (.iconst 2, 1) := by decide +kernel
theorem d_Law_law_441 : decode code 441 = .ok (.iadd, 1) := by decide +kernel
theorem d_Law_law_442 : decode code 442 = .ok (.iaload, 1) := by decide +kernel
theorem d_Law_law_443 : decode code 443 = .ok (.invokevirtual 53, 3) := by decide +kernel
theorem d_Law_law_446 : decode code 446 = .ok (.aload_n 2, 1) := by decide +kernel
theorem d_Law_law_447 : decode code 447 = .ok (.aload_n 0, 1) := by decide +kernel
theorem d_Law_law_448 : decode code 448 = .ok (.iload_n 3, 1) := by decide +kernel
theorem d_Law_law_449 : decode code 449 = .ok (.iconst 1, 1) := by decide +kernel
theorem d_Law_law_450 : decode code 450 = .ok (.iadd, 1) := by decide +kernel
theorem d_Law_law_451 : decode code 451 = .ok (.iaload, 1) := by decide +kernel
theorem d_Law_law_452 : decode code 452 = .ok (.aload_n 0, 1) := by decide +kernel
theorem d_Law_law_453 : decode code 453 = .ok (.iload_n 3, 1) := by decide +kernel
theorem d_Law_law_454 : decode code 454 = .ok (.iconst 2, 1) := by decide +kernel
theorem d_Law_law_455 : decode code 455 = .ok (.iadd, 1) := by decide +kernel
theorem d_Law_law_456 : decode code 456 = .ok (.iaload, 1) := by decide +kernel
theorem d_Law_law_457 : decode code 457 = .ok (.invokevirtual 57, 3) := by decide +kernel
theorem d_Law_law_460 : decode code 460 = .ok (.if_icmp .eq 67, 3) := by decide +kernel
theorem d_Law_law_463 : decode code 463 = .ok (.iconst 0, 1) := by decide +kernel
theorem d_Law_law_464 : decode code 464 = .ok (.ireturn, 1) := by decide +kernel
theorem d_Law_law_465 : decode code 465 = .ok (.aload_n 1, 1) := by decide +kernel
theorem d_Law_law_466 : decode code 466 = .ok (.aload_n 0, 1) := by decide +kernel
theorem d_Law_law_467 : decode code 467 = .ok (.iload_n 3, 1) := by decide +kernel
theorem d_Law_law_468 : decode code 468 = .ok (.iconst 1, 1) := by decide +kernel
theorem d_Law_law_469 : decode code 469 = .ok (.iadd, 1) := by decide +kernel
theorem d_Law_law_470 : decode code 470 = .ok (.iaload, 1) := by decide +kernel
theorem d_Law_law_471 : decode code 471 = .ok (.invokevirtual 58, 3) := by decide +kernel
theorem d_Law_law_474 : decode code 474 = .ok (.aload_n 2, 1) := by decide +kernel
theorem d_Law_law_475 : decode code 475 = .ok (.aload_n 0, 1) := by decide +kernel
theorem d_Law_law_476 : decode code 476 = .ok (.iload_n 3, 1) := by decide +kernel
theorem d_Law_law_477 : decode code 477 = .ok (.iconst 1, 1) := by decide +kernel
theorem d_Law_law_478 : decode code 478 = .ok (.iadd, 1) := by decide +kernel
theorem d_Law_law_479 : decode code 479 = .ok (.iaload, 1) := by decide +kernel
theorem d_Law_law_480 : decode code 480 = .ok (.invokevirtual 62, 3) := by decide +kernel
theorem d_Law_law_483 : decode code 483 = .ok (.lcmp, 1) := by decide +kernel
theorem d_Law_law_484 : decode code 484 = .ok (.ifCond .eq 43, 3) := by decide +kernel
theorem d_Law_law_487 : decode code 487 = .ok (.iconst 0, 1) := by decide +kernel
theorem d_Law_law_488 : decode code 488 = .ok (.ireturn, 1) := by decide +kernel
theorem d_Law_law_489 : decode code 489 = .ok (.aload_n 1, 1) := by decide +kernel
theorem d_Law_law_490 : decode code 490 = .ok (.aload_n 0, 1) := by decide +kernel
theorem d_Law_law_491 : decode code 491 = .ok (.iload_n 3, 1) := by decide +kernel
theorem d_Law_law_492 : decode code 492 = .ok (.iconst 1, 1) := by decide +kernel
theorem d_Law_law_493 : decode code 493 = .ok (.iadd, 1) := by decide +kernel
theorem d_Law_law_494 : decode code 494 = .ok (.iaload, 1) := by decide +kernel
theorem d_Law_law_495 : decode code 495 = .ok (.invokevirtual 63, 3) := by decide +kernel
theorem d_Law_law_498 : decode code 498 = .ok (.aload_n 2, 1) := by decide +kernel
theorem d_Law_law_499 : decode code 499 = .ok (.aload_n 0, 1) := by decide +kernel
theorem d_Law_law_500 : decode code 500 = .ok (.iload_n 3, 1) := by decide +kernel
theorem d_Law_law_501 : decode code 501 = .ok (.iconst 1, 1) := by decide +kernel
theorem d_Law_law_502 : decode code 502 = .ok (.iadd, 1) := by decide +kernel
theorem d_Law_law_503 : decode code 503 = .ok (.iaload, 1) := by decide +kernel
theorem d_Law_law_504 : decode code 504 = .ok (.invokevirtual 66, 3) := by decide +kernel
theorem d_Law_law_507 : decode code 507 = .ok (.lcmp, 1) := by decide +kernel
theorem d_Law_law_508 : decode code 508 = .ok (.ifCond .eq 19, 3) := by decide +kernel
theorem d_Law_law_511 : decode code 511 = .ok (.iconst 0, 1) := by decide +kernel
theorem d_Law_law_512 : decode code 512 = .ok (.ireturn, 1) := by decide +kernel
theorem d_Law_law_513 : decode code 513 = .ok (.aload_n 1, 1) := by decide +kernel
theorem d_Law_law_514 : decode code 514 = .ok (.invokevirtual 67, 3) := by decide +kernel
theorem d_Law_law_517 : decode code 517 = .ok (.aload_n 2, 1) := by decide +kernel
theorem d_Law_law_518 : decode code 518 = .ok (.invokevirtual 71, 3) := by decide +kernel
theorem d_Law_law_521 : decode code 521 = .ok (.lcmp, 1) := by decide +kernel
theorem d_Law_law_522 : decode code 522 = .ok (.ifCond .eq 5, 3) := by decide +kernel
theorem d_Law_law_525 : decode code 525 = .ok (.iconst 0, 1) := by decide +kernel
theorem d_Law_law_526 : decode code 526 = .ok (.ireturn, 1) := by decide +kernel
theorem d_Law_law_527 : decode code 527 = .ok (.iinc 3 5, 3) := by decide +kernel
theorem d_Law_law_530 : decode code 530 = .ok (.goto (-512), 3) := by decide +kernel
theorem d_Law_law_533 : decode code 533 = .ok (.iconst 1, 1) := by decide +kernel
theorem d_Law_law_534 : decode code 534 = .ok (.ireturn, 1) := by decide +kernel
theorem nF_in : ∀ q ∈ nF, (Cond.fieldLinkNest q.1 q.2.1 q.2.2.1 q.2.2.2.1 q.2.2.2.2.1 q.2.2.2.2.2) ∈ tables_1 := by decide +kernel
theorem nM_in : ∀ q ∈ nM, (Cond.methodLinkNest q.1 q.2.1 q.2.2.1 q.2.2.2) ∈ tables_1 := by decide +kernel
/-! THE CLAIM OUT OF ONE WALK OF THE LAW'S BODY. Your part is whole_start (and what it stands on); all else here is the same for every law, but numbers. -/
def R_law : String := "CardMessageDeskLaw"
def lw_P (b : Addr) (xs : List Int32) (args : Array Value) (s : State) : Prop := args = #[.ref b] ∧ s.IntsAt b xs ∧ xs.length ≤ 2560 ∧ (Jvm.Cond.and given_1 narrow_1).before args s = true
def lw_Q (_ : Array Value) (s : State) (o : Outcome) (t : State) : Prop := o = .returned (some (.int 1)) ∧ Framed s o t [] 600000 7302250
def lw_Z (below : List Frame) (a : Array Value) (s : State) : State → Prop := fun t => ∃ o, t.status = .running ∧ Ended t below o ∧ lw_Q a s o t
/-- the law's own end, with 1 on the stack, nothing written that was there before, its room as the claim has it -/
theorem lw_ret {p : Program} {l : Launch} {e : Env} {s : State} {m : MethodId} {below : List Frame} {meth : Method} {c : Code} {b : Nat} (hx : p.tables.exec = Jvm.exec) (hb : c.code = code) (hr : meth.sig.returnType = ret) (hlocks : meth.locks = false) {pc : Nat} {H : Heap} {ls : Array Slot} (hdg : decode code pc = .ok (.ireturn, 1)) : W p l e room_1 s m #[Value.ref b] below meth c H [] 600000 7302250 (lw_Z below #[Value.ref b] s) (F0 m pc ls [.int 1]) := by
  intro T hT X
  obtain ⟨fs, hret, hrun, hended, hW, hframe⟩ := X.leave (v := some (.int 1)) (hlocks := hlocks) (fun h => by rw [hr] at h; cases h)
  have hmeth' : T.vm.method? m = some meth := X.method'
  refine ⟨T.setFrames fs, ?_, .returned (some (.int 1)), hrun, hended, rfl, ⟨_, rfl⟩, hW, hframe⟩
  jvm_step X.here [X.here.top, hx, hb, hdg, hmeth', hr, ret, narrow_b1]
  (try refine ⟨rfl, ?_⟩); (try refine ⟨rfl, ?_⟩)
  first | (intro acts; rw [hret _ acts rfl rfl rfl]) | rw [hret _ _ rfl rfl rfl]
  exact Steps.refl _
/-- what holds at the law's entry: the machine, the code, the tables' words (any of lw_tbl by 'hts w (by decide +kernel)'), the script of L ints xs at the cell b, what the Statement gives of the start (any of its parts by flat_of_before) -/
def lw_At (p : Program) (s : State) (m : MethodId) (meth : Method) (c : Code) (b L : Nat) (xs : Nat → Int32) : Prop :=
  p.tables.exec = Jvm.exec ∧ c.code = code ∧ meth.sig.returnType = ret ∧ c.maxLocals = 4 ∧ s.vm.findClass R_law = some m.cls ∧ (∀ w ∈ lw_tbl, w.before #[Value.ref b] s = true) ∧ va_X b L xs s s.heap ∧ b < s.heap.size ∧ meth.locks = false ∧ (Jvm.Cond.and given_1 narrow_1).before #[Value.ref b] s = true
