/-! decode rows (by program) -/
theorem dd_PH_dropGoneHeaps_9 : decode prog_1_method_38_code 9 = .ok (.aload_n 0, 1) := by decide +kernel
theorem dd_PH_dropGoneHeaps_10 : decode prog_1_method_38_code 10 = .ok (.iload_n 1, 1) := by decide +kernel
theorem dd_PH_dropGoneHeaps_11 : decode prog_1_method_38_code 11 = .ok (.invokevirtual 143, 3) := by decide +kernel
theorem dd_PH_dropGoneHeaps_14 : decode prog_1_method_38_code 14 = .ok (.ifCond .eq 45, 3) := by decide +kernel
theorem dd_PH_dropGoneHeaps_17 : decode prog_1_method_38_code 17 = .ok (.aload_n 0, 1) := by decide +kernel
theorem dd_PH_dropGoneHeaps_18 : decode prog_1_method_38_code 18 = .ok (.iload_n 1, 1) := by decide +kernel
theorem dd_PH_dropGoneHeaps_19 : decode prog_1_method_38_code 19 = .ok (.invokevirtual 229, 3) := by decide +kernel
theorem dd_PH_dropGoneHeaps_22 : decode prog_1_method_38_code 22 = .ok (.ifCond .ne 37, 3) := by decide +kernel
theorem dd_PH_dropGoneHeaps_25 : decode prog_1_method_38_code 25 = .ok (.aload_n 0, 1) := by decide +kernel
theorem dd_PH_dropGoneHeaps_26 : decode prog_1_method_38_code 26 = .ok (.getfield 10, 3) := by decide +kernel
theorem dd_PH_dropGoneHeaps_29 : decode prog_1_method_38_code 29 = .ok (.bipush 8, 2) := by decide +kernel
theorem dd_PH_dropGoneHeaps_31 : decode prog_1_method_38_code 31 = .ok (.iload_n 1, 1) := by decide +kernel
theorem dd_PH_dropGoneHeaps_32 : decode prog_1_method_38_code 32 = .ok (.invokevirtual 220, 3) := by decide +kernel
theorem dd_PH_dropGoneHeaps_35 : decode prog_1_method_38_code 35 = .ok (.ifCond .ne 24, 3) := by decide +kernel
theorem dd_PH_dropGoneHeaps_38 : decode prog_1_method_38_code 38 = .ok (.aload_n 0, 1) := by decide +kernel
theorem dd_PH_dropGoneHeaps_39 : decode prog_1_method_38_code 39 = .ok (.getfield 38, 3) := by decide +kernel
theorem dd_PH_dropGoneHeaps_42 : decode prog_1_method_38_code 42 = .ok (.iload_n 1, 1) := by decide +kernel
theorem dd_PH_dropGoneHeaps_43 : decode prog_1_method_38_code 43 = .ok (.aconst_null, 1) := by decide +kernel
theorem dd_PH_dropGoneHeaps_44 : decode prog_1_method_38_code 44 = .ok (.aastore, 1) := by decide +kernel
theorem dd_PH_dropGoneHeaps_45 : decode prog_1_method_38_code 45 = .ok (.aload_n 0, 1) := by decide +kernel
theorem dd_PH_dropGoneHeaps_46 : decode prog_1_method_38_code 46 = .ok (.getfield 10, 3) := by decide +kernel
theorem dd_PH_dropGoneHeaps_49 : decode prog_1_method_38_code 49 = .ok (.iload_n 1, 1) := by decide +kernel
theorem dd_PH_dropGoneHeaps_50 : decode prog_1_method_38_code 50 = .ok (.invokevirtual 232, 3) := by decide +kernel
theorem dd_PH_dropGoneHeaps_53 : decode prog_1_method_38_code 53 = .ok (.pop, 1) := by decide +kernel
theorem dd_PH_dropGoneHeaps_54 : decode prog_1_method_38_code 54 = .ok (.aload_n 0, 1) := by decide +kernel
theorem dd_PH_dropGoneHeaps_55 : decode prog_1_method_38_code 55 = .ok (.iload_n 1, 1) := by decide +kernel
theorem dd_PH_dropGoneHeaps_56 : decode prog_1_method_38_code 56 = .ok (.invokevirtual 226, 3) := by decide +kernel
theorem dd_PH_dropGoneHeaps_59 : decode prog_1_method_38_code 59 = .ok (.iinc 1 1, 3) := by decide +kernel
theorem dd_PH_dropGoneHeaps_62 : decode prog_1_method_38_code 62 = .ok (.goto (-59), 3) := by decide +kernel
theorem dd_PH_dropGoneHeaps_65 : decode prog_1_method_38_code 65 = .ok (.return_, 1) := by decide +kernel
theorem dd_PH_isFrozen_0 : decode prog_1_method_25_code 0 = .ok (.iload_n 1, 1) := by decide +kernel
theorem dd_PH_isFrozen_1 : decode prog_1_method_25_code 1 = .ok (.invokestatic 158, 3) := by decide +kernel
theorem dd_PH_isFrozen_4 : decode prog_1_method_25_code 4 = .ok (.ifCond .eq 16, 3) := by decide +kernel
theorem dd_PH_isFrozen_7 : decode prog_1_method_25_code 7 = .ok (.aload_n 0, 1) := by decide +kernel
theorem dd_PH_isFrozen_8 : decode prog_1_method_25_code 8 = .ok (.getfield 38, 3) := by decide +kernel
theorem dd_PH_isFrozen_11 : decode prog_1_method_25_code 11 = .ok (.iload_n 1, 1) := by decide +kernel
theorem dd_PH_isFrozen_12 : decode prog_1_method_25_code 12 = .ok (.aaload, 1) := by decide +kernel
theorem dd_PH_isFrozen_13 : decode prog_1_method_25_code 13 = .ok (.ifnull 7, 3) := by decide +kernel
theorem dd_PH_isFrozen_16 : decode prog_1_method_25_code 16 = .ok (.iconst 1, 1) := by decide +kernel
theorem dd_PH_isFrozen_17 : decode prog_1_method_25_code 17 = .ok (.goto 4, 3) := by decide +kernel
theorem dd_PH_isFrozen_20 : decode prog_1_method_25_code 20 = .ok (.iconst 0, 1) := by decide +kernel
theorem dd_PH_isFrozen_21 : decode prog_1_method_25_code 21 = .ok (.ireturn, 1) := by decide +kernel
theorem dd_PH_isHeap_0 : decode prog_1_method_24_code 0 = .ok (.iload_n 0, 1) := by decide +kernel
theorem dd_PH_isHeap_1 : decode prog_1_method_24_code 1 = .ok (.ifCond .lt 13, 3) := by decide +kernel
theorem dd_PH_isHeap_4 : decode prog_1_method_24_code 4 = .ok (.iload_n 0, 1) := by decide +kernel
theorem dd_PH_isHeap_5 : decode prog_1_method_24_code 5 = .ok (.bipush 13, 2) := by decide +kernel
theorem dd_PH_isHeap_7 : decode prog_1_method_24_code 7 = .ok (.if_icmp .ge 7, 3) := by decide +kernel
theorem dd_PH_isHeap_10 : decode prog_1_method_24_code 10 = .ok (.iconst 1, 1) := by decide +kernel
theorem dd_PH_isHeap_11 : decode prog_1_method_24_code 11 = .ok (.goto 4, 3) := by decide +kernel
theorem dd_PH_isHeap_14 : decode prog_1_method_24_code 14 = .ok (.iconst 0, 1) := by decide +kernel
theorem dd_PH_isHeap_15 : decode prog_1_method_24_code 15 = .ok (.ireturn, 1) := by decide +kernel
theorem dd_PH_isSharedByLiving_0 : decode prog_1_method_39_code 0 = .ok (.iconst 0, 1) := by decide +kernel
theorem dd_PH_isSharedByLiving_1 : decode prog_1_method_39_code 1 = .ok (.istore_n 2, 1) := by decide +kernel
theorem dd_PH_isSharedByLiving_2 : decode prog_1_method_39_code 2 = .ok (.iload_n 2, 1) := by decide +kernel
theorem dd_PH_isSharedByLiving_3 : decode prog_1_method_39_code 3 = .ok (.aload_n 0, 1) := by decide +kernel
theorem dd_PH_isSharedByLiving_4 : decode prog_1_method_39_code 4 = .ok (.getfield 42, 3) := by decide +kernel
theorem dd_PH_isSharedByLiving_7 : decode prog_1_method_39_code 7 = .ok (.if_icmp .ge 36, 3) := by decide +kernel
theorem dd_PH_isSharedByLiving_10 : decode prog_1_method_39_code 10 = .ok (.aload_n 0, 1) := by decide +kernel
theorem dd_PH_isSharedByLiving_11 : decode prog_1_method_39_code 11 = .ok (.getfield 32, 3) := by decide +kernel
theorem dd_PH_isSharedByLiving_14 : decode prog_1_method_39_code 14 = .ok (.iload_n 2, 1) := by decide +kernel
theorem dd_PH_isSharedByLiving_15 : decode prog_1_method_39_code 15 = .ok (.aaload, 1) := by decide +kernel
theorem dd_PH_isSharedByLiving_16 : decode prog_1_method_39_code 16 = .ok (.invokevirtual 182, 3) := by decide +kernel
theorem dd_PH_isSharedByLiving_19 : decode prog_1_method_39_code 19 = .ok (.ifCond .eq 18, 3) := by decide +kernel
theorem dd_PH_isSharedByLiving_22 : decode prog_1_method_39_code 22 = .ok (.aload_n 0, 1) := by decide +kernel
theorem dd_PH_isSharedByLiving_23 : decode prog_1_method_39_code 23 = .ok (.getfield 32, 3) := by decide +kernel
theorem dd_PH_isSharedByLiving_26 : decode prog_1_method_39_code 26 = .ok (.iload_n 2, 1) := by decide +kernel
theorem dd_PH_isSharedByLiving_27 : decode prog_1_method_39_code 27 = .ok (.aaload, 1) := by decide +kernel
theorem dd_PH_isSharedByLiving_28 : decode prog_1_method_39_code 28 = .ok (.iload_n 1, 1) := by decide +kernel
theorem dd_PH_isSharedByLiving_29 : decode prog_1_method_39_code 29 = .ok (.invokevirtual 146, 3) := by decide +kernel
theorem dd_PH_isSharedByLiving_32 : decode prog_1_method_39_code 32 = .ok (.ifCond .eq 5, 3) := by decide +kernel
theorem dd_PH_isSharedByLiving_35 : decode prog_1_method_39_code 35 = .ok (.iconst 1, 1) := by decide +kernel
theorem dd_PH_isSharedByLiving_36 : decode prog_1_method_39_code 36 = .ok (.ireturn, 1) := by decide +kernel
theorem dd_PH_isSharedByLiving_37 : decode prog_1_method_39_code 37 = .ok (.iinc 2 1, 3) := by decide +kernel
theorem dd_PH_isSharedByLiving_40 : decode prog_1_method_39_code 40 = .ok (.goto (-38), 3) := by decide +kernel
theorem dd_PH_isSharedByLiving_43 : decode prog_1_method_39_code 43 = .ok (.iconst 0, 1) := by decide +kernel
theorem dd_PH_isSharedByLiving_44 : decode prog_1_method_39_code 44 = .ok (.ireturn, 1) := by decide +kernel
theorem dd_Me_freeUnreached_0 : decode prog_6_method_10_code 0 = .ok (.iconst 0, 1) := by decide +kernel
theorem dd_Me_freeUnreached_1 : decode prog_6_method_10_code 1 = .ok (.istore_n 2, 1) := by decide +kernel
theorem dd_Me_freeUnreached_2 : decode prog_6_method_10_code 2 = .ok (.aload_n 0, 1) := by decide +kernel
theorem dd_Me_freeUnreached_3 : decode prog_6_method_10_code 3 = .ok (.getfield 18, 3) := by decide +kernel
theorem dd_Me_freeUnreached_6 : decode prog_6_method_10_code 6 = .ok (.invokevirtual 21, 3) := by decide +kernel
theorem dd_Me_freeUnreached_9 : decode prog_6_method_10_code 9 = .ok (.iconst 1, 1) := by decide +kernel
theorem dd_Me_freeUnreached_10 : decode prog_6_method_10_code 10 = .ok (.isub, 1) := by decide +kernel
theorem dd_Me_freeUnreached_11 : decode prog_6_method_10_code 11 = .ok (.istore_n 3, 1) := by decide +kernel
theorem dd_Me_freeUnreached_12 : decode prog_6_method_10_code 12 = .ok (.iload_n 3, 1) := by decide +kernel
theorem dd_Me_freeUnreached_13 : decode prog_6_method_10_code 13 = .ok (.ifCond .lt 75, 3) := by decide +kernel
theorem dd_Me_freeUnreached_16 : decode prog_6_method_10_code 16 = .ok (.aload_n 0, 1) := by decide +kernel
theorem dd_Me_freeUnreached_17 : decode prog_6_method_10_code 17 = .ok (.getfield 18, 3) := by decide +kernel
theorem dd_Me_freeUnreached_20 : decode prog_6_method_10_code 20 = .ok (.iload_n 3, 1) := by decide +kernel
theorem dd_Me_freeUnreached_21 : decode prog_6_method_10_code 21 = .ok (.invokevirtual 25, 3) := by decide +kernel
theorem dd_Me_freeUnreached_24 : decode prog_6_method_10_code 24 = .ok (.checkcast 47, 3) := by decide +kernel
theorem dd_Me_freeUnreached_27 : decode prog_6_method_10_code 27 = .ok (.astore 4, 2) := by decide +kernel
theorem dd_Me_freeUnreached_29 : decode prog_6_method_10_code 29 = .ok (.aload 4, 2) := by decide +kernel
theorem dd_Me_freeUnreached_31 : decode prog_6_method_10_code 31 = .ok (.invokevirtual 49, 3) := by decide +kernel
theorem dd_Me_freeUnreached_34 : decode prog_6_method_10_code 34 = .ok (.iload_n 1, 1) := by decide +kernel
theorem dd_Me_freeUnreached_35 : decode prog_6_method_10_code 35 = .ok (.if_icmp .ne 41, 3) := by decide +kernel
theorem dd_Me_freeUnreached_38 : decode prog_6_method_10_code 38 = .ok (.aload 4, 2) := by decide +kernel
theorem dd_Me_freeUnreached_40 : decode prog_6_method_10_code 40 = .ok (.getfield 68, 3) := by decide +kernel
theorem dd_Me_freeUnreached_43 : decode prog_6_method_10_code 43 = .ok (.ifCond .ne 33, 3) := by decide +kernel
theorem dd_Me_freeUnreached_46 : decode prog_6_method_10_code 46 = .ok (.aload 4, 2) := by decide +kernel
theorem dd_Me_freeUnreached_48 : decode prog_6_method_10_code 48 = .ok (.getfield 72, 3) := by decide +kernel
theorem dd_Me_freeUnreached_51 : decode prog_6_method_10_code 51 = .ok (.dup, 1) := by decide +kernel
theorem dd_Me_freeUnreached_52 : decode prog_6_method_10_code 52 = .ok (.getfield 55, 3) := by decide +kernel
theorem dd_Me_freeUnreached_55 : decode prog_6_method_10_code 55 = .ok (.aload 4, 2) := by decide +kernel
theorem dd_Me_freeUnreached_57 : decode prog_6_method_10_code 57 = .ok (.getfield 76, 3) := by decide +kernel
theorem dd_Me_freeUnreached_60 : decode prog_6_method_10_code 60 = .ok (.iadd, 1) := by decide +kernel
theorem dd_Me_freeUnreached_61 : decode prog_6_method_10_code 61 = .ok (.putfield 55, 3) := by decide +kernel
theorem dd_Me_freeUnreached_64 : decode prog_6_method_10_code 64 = .ok (.aload_n 0, 1) := by decide +kernel
theorem dd_Me_freeUnreached_65 : decode prog_6_method_10_code 65 = .ok (.getfield 18, 3) := by decide +kernel
theorem dd_Me_freeUnreached_68 : decode prog_6_method_10_code 68 = .ok (.iload_n 3, 1) := by decide +kernel
theorem dd_Me_freeUnreached_69 : decode prog_6_method_10_code 69 = .ok (.invokevirtual 78, 3) := by decide +kernel
theorem dd_Me_freeUnreached_72 : decode prog_6_method_10_code 72 = .ok (.pop, 1) := by decide +kernel
theorem dd_Me_freeUnreached_73 : decode prog_6_method_10_code 73 = .ok (.iinc 2 1, 3) := by decide +kernel
theorem dd_Me_freeUnreached_76 : decode prog_6_method_10_code 76 = .ok (.aload 4, 2) := by decide +kernel
theorem dd_Me_freeUnreached_78 : decode prog_6_method_10_code 78 = .ok (.iconst 0, 1) := by decide +kernel
theorem dd_Me_freeUnreached_79 : decode prog_6_method_10_code 79 = .ok (.putfield 68, 3) := by decide +kernel
theorem dd_Me_freeUnreached_82 : decode prog_6_method_10_code 82 = .ok (.iinc 3 (-1), 3) := by decide +kernel
theorem dd_Me_freeUnreached_85 : decode prog_6_method_10_code 85 = .ok (.goto (-73), 3) := by decide +kernel
theorem dd_Me_freeUnreached_88 : decode prog_6_method_10_code 88 = .ok (.aload_n 0, 1) := by decide +kernel
theorem dd_Me_freeUnreached_89 : decode prog_6_method_10_code 89 = .ok (.invokevirtual 81, 3) := by decide +kernel
theorem dd_Me_freeUnreached_92 : decode prog_6_method_10_code 92 = .ok (.iload_n 2, 1) := by decide +kernel
theorem dd_Me_freeUnreached_93 : decode prog_6_method_10_code 93 = .ok (.ireturn, 1) := by decide +kernel
theorem dd_Me_giveBackEmptyPages_0 : decode prog_6_method_11_code 0 = .ok (.aload_n 0, 1) := by decide +kernel
theorem dd_Me_giveBackEmptyPages_1 : decode prog_6_method_11_code 1 = .ok (.getfield 12, 3) := by decide +kernel
theorem dd_Me_giveBackEmptyPages_4 : decode prog_6_method_11_code 4 = .ok (.invokevirtual 21, 3) := by decide +kernel
theorem dd_Me_giveBackEmptyPages_7 : decode prog_6_method_11_code 7 = .ok (.iconst 1, 1) := by decide +kernel
theorem dd_Me_giveBackEmptyPages_8 : decode prog_6_method_11_code 8 = .ok (.isub, 1) := by decide +kernel
theorem dd_Me_giveBackEmptyPages_9 : decode prog_6_method_11_code 9 = .ok (.istore_n 1, 1) := by decide +kernel
theorem dd_Me_giveBackEmptyPages_10 : decode prog_6_method_11_code 10 = .ok (.iload_n 1, 1) := by decide +kernel
theorem dd_Me_giveBackEmptyPages_11 : decode prog_6_method_11_code 11 = .ok (.ifCond .lt 37, 3) := by decide +kernel
theorem dd_Me_giveBackEmptyPages_14 : decode prog_6_method_11_code 14 = .ok (.aload_n 0, 1) := by decide +kernel
theorem dd_Me_giveBackEmptyPages_15 : decode prog_6_method_11_code 15 = .ok (.getfield 12, 3) := by decide +kernel
theorem dd_Me_giveBackEmptyPages_18 : decode prog_6_method_11_code 18 = .ok (.iload_n 1, 1) := by decide +kernel
theorem dd_Me_giveBackEmptyPages_19 : decode prog_6_method_11_code 19 = .ok (.invokevirtual 25, 3) := by decide +kernel
theorem dd_Me_giveBackEmptyPages_22 : decode prog_6_method_11_code 22 = .ok (.checkcast 29, 3) := by decide +kernel
theorem dd_Me_giveBackEmptyPages_25 : decode prog_6_method_11_code 25 = .ok (.getfield 55, 3) := by decide +kernel
theorem dd_Me_giveBackEmptyPages_28 : decode prog_6_method_11_code 28 = .ok (.bipush 16, 2) := by decide +kernel
theorem dd_Me_giveBackEmptyPages_30 : decode prog_6_method_11_code 30 = .ok (.if_icmp .ne 12, 3) := by decide +kernel
theorem dd_Me_giveBackEmptyPages_33 : decode prog_6_method_11_code 33 = .ok (.aload_n 0, 1) := by decide +kernel
theorem dd_Me_giveBackEmptyPages_34 : decode prog_6_method_11_code 34 = .ok (.getfield 12, 3) := by decide +kernel
theorem dd_Me_giveBackEmptyPages_37 : decode prog_6_method_11_code 37 = .ok (.iload_n 1, 1) := by decide +kernel
theorem dd_Me_giveBackEmptyPages_38 : decode prog_6_method_11_code 38 = .ok (.invokevirtual 78, 3) := by decide +kernel
theorem dd_Me_giveBackEmptyPages_41 : decode prog_6_method_11_code 41 = .ok (.pop, 1) := by decide +kernel
theorem dd_Me_giveBackEmptyPages_42 : decode prog_6_method_11_code 42 = .ok (.iinc 1 (-1), 3) := by decide +kernel
theorem dd_Me_giveBackEmptyPages_45 : decode prog_6_method_11_code 45 = .ok (.goto (-35), 3) := by decide +kernel
theorem dd_Me_giveBackEmptyPages_48 : decode prog_6_method_11_code 48 = .ok (.return_, 1) := by decide +kernel
theorem dd_PH_endPaymentOfDead_0 : decode prog_1_method_37_code 0 = .ok (.iconst 0, 1) := by decide +kernel
theorem dd_PH_endPaymentOfDead_1 : decode prog_1_method_37_code 1 = .ok (.istore_n 2, 1) := by decide +kernel
theorem dd_PH_endPaymentOfDead_2 : decode prog_1_method_37_code 2 = .ok (.iload_n 2, 1) := by decide +kernel
theorem dd_PH_endPaymentOfDead_3 : decode prog_1_method_37_code 3 = .ok (.aload_n 0, 1) := by decide +kernel
theorem dd_PH_endPaymentOfDead_4 : decode prog_1_method_37_code 4 = .ok (.getfield 42, 3) := by decide +kernel
theorem dd_PH_endPaymentOfDead_7 : decode prog_1_method_37_code 7 = .ok (.if_icmp .ge 31, 3) := by decide +kernel
theorem dd_PH_endPaymentOfDead_10 : decode prog_1_method_37_code 10 = .ok (.aload_n 0, 1) := by decide +kernel
theorem dd_PH_endPaymentOfDead_11 : decode prog_1_method_37_code 11 = .ok (.getfield 32, 3) := by decide +kernel
theorem dd_PH_endPaymentOfDead_14 : decode prog_1_method_37_code 14 = .ok (.iload_n 2, 1) := by decide +kernel
theorem dd_PH_endPaymentOfDead_15 : decode prog_1_method_37_code 15 = .ok (.aaload, 1) := by decide +kernel
theorem dd_PH_endPaymentOfDead_16 : decode prog_1_method_37_code 16 = .ok (.invokevirtual 182, 3) := by decide +kernel
theorem dd_PH_endPaymentOfDead_19 : decode prog_1_method_37_code 19 = .ok (.ifCond .ne 13, 3) := by decide +kernel
theorem dd_PH_endPaymentOfDead_22 : decode prog_1_method_37_code 22 = .ok (.aload_n 0, 1) := by decide +kernel
theorem dd_PH_endPaymentOfDead_23 : decode prog_1_method_37_code 23 = .ok (.getfield 32, 3) := by decide +kernel
theorem dd_PH_endPaymentOfDead_26 : decode prog_1_method_37_code 26 = .ok (.iload_n 2, 1) := by decide +kernel
theorem dd_PH_endPaymentOfDead_27 : decode prog_1_method_37_code 27 = .ok (.aaload, 1) := by decide +kernel
theorem dd_PH_endPaymentOfDead_28 : decode prog_1_method_37_code 28 = .ok (.iload_n 1, 1) := by decide +kernel
theorem dd_PH_endPaymentOfDead_29 : decode prog_1_method_37_code 29 = .ok (.invokevirtual 223, 3) := by decide +kernel
theorem dd_PH_endPaymentOfDead_32 : decode prog_1_method_37_code 32 = .ok (.iinc 2 1, 3) := by decide +kernel
theorem dd_PH_endPaymentOfDead_35 : decode prog_1_method_37_code 35 = .ok (.goto (-33), 3) := by decide +kernel
theorem dd_PH_endPaymentOfDead_38 : decode prog_1_method_37_code 38 = .ok (.return_, 1) := by decide +kernel
theorem dd_PH_mode_0 : decode prog_1_method_4_code 0 = .ok (.aload_n 0, 1) := by decide +kernel
theorem dd_PH_mode_1 : decode prog_1_method_4_code 1 = .ok (.iload_n 1, 1) := by decide +kernel
theorem dd_PH_mode_2 : decode prog_1_method_4_code 2 = .ok (.invokevirtual 61, 3) := by decide +kernel
theorem dd_PH_mode_5 : decode prog_1_method_4_code 5 = .ok (.astore_n 3, 1) := by decide +kernel
theorem dd_PH_mode_6 : decode prog_1_method_4_code 6 = .ok (.aload_n 3, 1) := by decide +kernel
theorem dd_PH_mode_7 : decode prog_1_method_4_code 7 = .ok (.ifnull 11, 3) := by decide +kernel
theorem dd_PH_mode_10 : decode prog_1_method_4_code 10 = .ok (.aload_n 3, 1) := by decide +kernel
theorem dd_PH_mode_11 : decode prog_1_method_4_code 11 = .ok (.invokevirtual 72, 3) := by decide +kernel
theorem dd_PH_mode_14 : decode prog_1_method_4_code 14 = .ok (.iload_n 2, 1) := by decide +kernel
theorem dd_PH_mode_15 : decode prog_1_method_4_code 15 = .ok (.if_icmp .ne 5, 3) := by decide +kernel
theorem dd_PH_mode_18 : decode prog_1_method_4_code 18 = .ok (.iconst 0, 1) := by decide +kernel
theorem dd_PH_mode_19 : decode prog_1_method_4_code 19 = .ok (.ireturn, 1) := by decide +kernel
theorem dd_PH_mode_20 : decode prog_1_method_4_code 20 = .ok (.aload_n 3, 1) := by decide +kernel
theorem dd_PH_mode_21 : decode prog_1_method_4_code 21 = .ok (.getfield 69, 3) := by decide +kernel
theorem dd_PH_mode_24 : decode prog_1_method_4_code 24 = .ok (.iconst 3, 1) := by decide +kernel
theorem dd_PH_mode_25 : decode prog_1_method_4_code 25 = .ok (.if_icmp .ne 11, 3) := by decide +kernel
theorem dd_PH_mode_28 : decode prog_1_method_4_code 28 = .ok (.aload_n 0, 1) := by decide +kernel
theorem dd_PH_mode_29 : decode prog_1_method_4_code 29 = .ok (.aload_n 3, 1) := by decide +kernel
theorem dd_PH_mode_30 : decode prog_1_method_4_code 30 = .ok (.invokevirtual 76, 3) := by decide +kernel
theorem dd_PH_mode_33 : decode prog_1_method_4_code 33 = .ok (.goto 16, 3) := by decide +kernel
theorem dd_PH_mode_36 : decode prog_1_method_4_code 36 = .ok (.aload_n 3, 1) := by decide +kernel
theorem dd_PH_mode_37 : decode prog_1_method_4_code 37 = .ok (.iload_n 2, 1) := by decide +kernel
theorem dd_PH_mode_38 : decode prog_1_method_4_code 38 = .ok (.ifCond .eq 7, 3) := by decide +kernel
theorem dd_PH_mode_41 : decode prog_1_method_4_code 41 = .ok (.iconst 2, 1) := by decide +kernel
theorem dd_PH_mode_42 : decode prog_1_method_4_code 42 = .ok (.goto 4, 3) := by decide +kernel
theorem dd_PH_mode_45 : decode prog_1_method_4_code 45 = .ok (.iconst 1, 1) := by decide +kernel
theorem dd_PH_mode_46 : decode prog_1_method_4_code 46 = .ok (.putfield 69, 3) := by decide +kernel
theorem dd_PH_mode_49 : decode prog_1_method_4_code 49 = .ok (.iconst 1, 1) := by decide +kernel
theorem dd_PH_mode_50 : decode prog_1_method_4_code 50 = .ok (.ireturn, 1) := by decide +kernel
theorem dd_PH_make_0 : decode prog_1_method_5_code 0 = .ok (.aload_n 0, 1) := by decide +kernel
theorem dd_PH_make_1 : decode prog_1_method_5_code 1 = .ok (.iload_n 1, 1) := by decide +kernel
theorem dd_PH_make_2 : decode prog_1_method_5_code 2 = .ok (.invokevirtual 61, 3) := by decide +kernel
theorem dd_PH_make_5 : decode prog_1_method_5_code 5 = .ok (.astore 5, 2) := by decide +kernel
theorem dd_PH_make_7 : decode prog_1_method_5_code 7 = .ok (.aload 5, 2) := by decide +kernel
theorem dd_PH_make_9 : decode prog_1_method_5_code 9 = .ok (.ifnull 21, 3) := by decide +kernel
theorem dd_PH_make_12 : decode prog_1_method_5_code 12 = .ok (.iload_n 2, 1) := by decide +kernel
theorem dd_PH_make_13 : decode prog_1_method_5_code 13 = .ok (.invokestatic 80, 3) := by decide +kernel
theorem dd_PH_make_16 : decode prog_1_method_5_code 16 = .ok (.ifCond .eq 14, 3) := by decide +kernel
theorem dd_PH_make_19 : decode prog_1_method_5_code 19 = .ok (.iload_n 3, 1) := by decide +kernel
theorem dd_PH_make_20 : decode prog_1_method_5_code 20 = .ok (.iconst 1, 1) := by decide +kernel
theorem dd_PH_make_21 : decode prog_1_method_5_code 21 = .ok (.if_icmp .lt 9, 3) := by decide +kernel
theorem dd_PH_make_24 : decode prog_1_method_5_code 24 = .ok (.iload_n 3, 1) := by decide +kernel
theorem dd_PH_make_25 : decode prog_1_method_5_code 25 = .ok (.bipush 16, 2) := by decide +kernel
theorem dd_PH_make_27 : decode prog_1_method_5_code 27 = .ok (.if_icmp .le 5, 3) := by decide +kernel
theorem dd_PH_make_30 : decode prog_1_method_5_code 30 = .ok (.iconst (-1), 1) := by decide +kernel
theorem dd_PH_make_31 : decode prog_1_method_5_code 31 = .ok (.ireturn, 1) := by decide +kernel
theorem dd_PH_make_32 : decode prog_1_method_5_code 32 = .ok (.aload_n 0, 1) := by decide +kernel
theorem dd_PH_make_33 : decode prog_1_method_5_code 33 = .ok (.getfield 10, 3) := by decide +kernel
theorem dd_PH_make_36 : decode prog_1_method_5_code 36 = .ok (.getfield 84, 3) := by decide +kernel
theorem dd_PH_make_39 : decode prog_1_method_5_code 39 = .ok (.invokevirtual 88, 3) := by decide +kernel
theorem dd_PH_make_42 : decode prog_1_method_5_code 42 = .ok (.bipush 60, 2) := by decide +kernel
theorem dd_PH_make_44 : decode prog_1_method_5_code 44 = .ok (.if_icmp .lt 6, 3) := by decide +kernel
theorem dd_PH_make_47 : decode prog_1_method_5_code 47 = .ok (.bipush (-4), 2) := by decide +kernel
theorem dd_PH_make_49 : decode prog_1_method_5_code 49 = .ok (.ireturn, 1) := by decide +kernel
theorem dd_PH_make_50 : decode prog_1_method_5_code 50 = .ok (.aload_n 0, 1) := by decide +kernel
theorem dd_PH_make_51 : decode prog_1_method_5_code 51 = .ok (.aload 5, 2) := by decide +kernel
theorem dd_PH_make_53 : decode prog_1_method_5_code 53 = .ok (.iload_n 3, 1) := by decide +kernel
theorem dd_PH_make_54 : decode prog_1_method_5_code 54 = .ok (.invokevirtual 94, 3) := by decide +kernel
theorem dd_PH_make_57 : decode prog_1_method_5_code 57 = .ok (.astore 6, 2) := by decide +kernel
theorem dd_PH_make_59 : decode prog_1_method_5_code 59 = .ok (.aload 6, 2) := by decide +kernel
theorem dd_PH_make_61 : decode prog_1_method_5_code 61 = .ok (.ifnonnull 31, 3) := by decide +kernel
theorem dd_PH_make_64 : decode prog_1_method_5_code 64 = .ok (.aload_n 0, 1) := by decide +kernel
theorem dd_PH_make_65 : decode prog_1_method_5_code 65 = .ok (.aload 5, 2) := by decide +kernel
theorem dd_PH_make_67 : decode prog_1_method_5_code 67 = .ok (.invokevirtual 72, 3) := by decide +kernel
theorem dd_PH_make_70 : decode prog_1_method_5_code 70 = .ok (.ifCond .eq 8, 3) := by decide +kernel
theorem dd_PH_make_73 : decode prog_1_method_5_code 73 = .ok (.bipush 8, 2) := by decide +kernel
theorem dd_PH_make_75 : decode prog_1_method_5_code 75 = .ok (.goto 4, 3) := by decide +kernel
theorem dd_PH_make_78 : decode prog_1_method_5_code 78 = .ok (.iload_n 1, 1) := by decide +kernel
theorem dd_PH_make_79 : decode prog_1_method_5_code 79 = .ok (.invokevirtual 98, 3) := by decide +kernel
theorem dd_PH_make_82 : decode prog_1_method_5_code 82 = .ok (.pop, 1) := by decide +kernel
theorem dd_PH_make_83 : decode prog_1_method_5_code 83 = .ok (.aload_n 0, 1) := by decide +kernel
theorem dd_PH_make_84 : decode prog_1_method_5_code 84 = .ok (.aload 5, 2) := by decide +kernel
theorem dd_PH_make_86 : decode prog_1_method_5_code 86 = .ok (.iload_n 3, 1) := by decide +kernel
theorem dd_PH_make_87 : decode prog_1_method_5_code 87 = .ok (.invokevirtual 94, 3) := by decide +kernel
theorem dd_PH_make_90 : decode prog_1_method_5_code 90 = .ok (.astore 6, 2) := by decide +kernel
theorem dd_PH_make_92 : decode prog_1_method_5_code 92 = .ok (.aload 6, 2) := by decide +kernel
theorem dd_PH_make_94 : decode prog_1_method_5_code 94 = .ok (.ifnonnull 6, 3) := by decide +kernel
theorem dd_PH_make_97 : decode prog_1_method_5_code 97 = .ok (.bipush (-5), 2) := by decide +kernel
theorem dd_PH_make_99 : decode prog_1_method_5_code 99 = .ok (.ireturn, 1) := by decide +kernel
theorem dd_PH_make_100 : decode prog_1_method_5_code 100 = .ok (.aload 5, 2) := by decide +kernel
theorem dd_PH_make_102 : decode prog_1_method_5_code 102 = .ok (.getfield 102, 3) := by decide +kernel
theorem dd_PH_make_105 : decode prog_1_method_5_code 105 = .ok (.iload_n 2, 1) := by decide +kernel
theorem dd_PH_make_106 : decode prog_1_method_5_code 106 = .ok (.aload_n 0, 1) := by decide +kernel
theorem dd_PH_make_107 : decode prog_1_method_5_code 107 = .ok (.getfield 10, 3) := by decide +kernel
theorem dd_PH_make_110 : decode prog_1_method_5_code 110 = .ok (.aload 6, 2) := by decide +kernel
theorem dd_PH_make_112 : decode prog_1_method_5_code 112 = .ok (.iload_n 3, 1) := by decide +kernel
theorem dd_PH_make_113 : decode prog_1_method_5_code 113 = .ok (.iload 4, 2) := by decide +kernel
theorem dd_PH_make_115 : decode prog_1_method_5_code 115 = .ok (.invokevirtual 105, 3) := by decide +kernel
theorem dd_PH_make_118 : decode prog_1_method_5_code 118 = .ok (.aastore, 1) := by decide +kernel
theorem dd_PH_make_119 : decode prog_1_method_5_code 119 = .ok (.iconst 0, 1) := by decide +kernel
theorem dd_PH_make_120 : decode prog_1_method_5_code 120 = .ok (.ireturn, 1) := by decide +kernel
theorem dd_PH_isRegister_0 : decode prog_1_method_22_code 0 = .ok (.iload_n 0, 1) := by decide +kernel
theorem dd_PH_isRegister_1 : decode prog_1_method_22_code 1 = .ok (.ifCond .lt 12, 3) := by decide +kernel
theorem dd_PH_isRegister_4 : decode prog_1_method_22_code 4 = .ok (.iload_n 0, 1) := by decide +kernel
theorem dd_PH_isRegister_5 : decode prog_1_method_22_code 5 = .ok (.iconst 4, 1) := by decide +kernel
theorem dd_PH_isRegister_6 : decode prog_1_method_22_code 6 = .ok (.if_icmp .ge 7, 3) := by decide +kernel
theorem dd_PH_isRegister_9 : decode prog_1_method_22_code 9 = .ok (.iconst 1, 1) := by decide +kernel
theorem dd_PH_isRegister_10 : decode prog_1_method_22_code 10 = .ok (.goto 4, 3) := by decide +kernel
theorem dd_PH_isRegister_13 : decode prog_1_method_22_code 13 = .ok (.iconst 0, 1) := by decide +kernel
theorem dd_PH_isRegister_14 : decode prog_1_method_22_code 14 = .ok (.ireturn, 1) := by decide +kernel
theorem dd_PH_pageForMaking_0 : decode prog_1_method_29_code 0 = .ok (.aload_n 1, 1) := by decide +kernel
theorem dd_PH_pageForMaking_1 : decode prog_1_method_29_code 1 = .ok (.invokevirtual 185, 3) := by decide +kernel
theorem dd_PH_pageForMaking_4 : decode prog_1_method_29_code 4 = .ok (.istore_n 3, 1) := by decide +kernel
theorem dd_PH_pageForMaking_5 : decode prog_1_method_29_code 5 = .ok (.aload_n 0, 1) := by decide +kernel
theorem dd_PH_pageForMaking_6 : decode prog_1_method_29_code 6 = .ok (.getfield 10, 3) := by decide +kernel
theorem dd_PH_pageForMaking_9 : decode prog_1_method_29_code 9 = .ok (.iload_n 3, 1) := by decide +kernel
theorem dd_PH_pageForMaking_10 : decode prog_1_method_29_code 10 = .ok (.iload_n 2, 1) := by decide +kernel
theorem dd_PH_pageForMaking_11 : decode prog_1_method_29_code 11 = .ok (.invokevirtual 188, 3) := by decide +kernel
theorem dd_PH_pageForMaking_14 : decode prog_1_method_29_code 14 = .ok (.astore 4, 2) := by decide +kernel
theorem dd_PH_pageForMaking_16 : decode prog_1_method_29_code 16 = .ok (.aload 4, 2) := by decide +kernel
theorem dd_PH_pageForMaking_18 : decode prog_1_method_29_code 18 = .ok (.ifnull 6, 3) := by decide +kernel
theorem dd_PH_pageForMaking_21 : decode prog_1_method_29_code 21 = .ok (.aload 4, 2) := by decide +kernel
theorem dd_PH_pageForMaking_23 : decode prog_1_method_29_code 23 = .ok (.areturn, 1) := by decide +kernel
theorem dd_PH_pageForMaking_24 : decode prog_1_method_29_code 24 = .ok (.iload_n 3, 1) := by decide +kernel
theorem dd_PH_pageForMaking_25 : decode prog_1_method_29_code 25 = .ok (.bipush 8, 2) := by decide +kernel
theorem dd_PH_pageForMaking_27 : decode prog_1_method_29_code 27 = .ok (.if_icmp .ne 7, 3) := by decide +kernel
theorem dd_PH_pageForMaking_30 : decode prog_1_method_29_code 30 = .ok (.iconst 0, 1) := by decide +kernel
theorem dd_PH_pageForMaking_31 : decode prog_1_method_29_code 31 = .ok (.goto 7, 3) := by decide +kernel
theorem dd_PH_pageForMaking_34 : decode prog_1_method_29_code 34 = .ok (.aload_n 1, 1) := by decide +kernel
theorem dd_PH_pageForMaking_35 : decode prog_1_method_29_code 35 = .ok (.getfield 192, 3) := by decide +kernel
theorem dd_PH_pageForMaking_38 : decode prog_1_method_29_code 38 = .ok (.istore 5, 2) := by decide +kernel
theorem dd_PH_pageForMaking_40 : decode prog_1_method_29_code 40 = .ok (.aload_n 0, 1) := by decide +kernel
theorem dd_PH_pageForMaking_41 : decode prog_1_method_29_code 41 = .ok (.iload 5, 2) := by decide +kernel
theorem dd_PH_pageForMaking_43 : decode prog_1_method_29_code 43 = .ok (.iconst 1, 1) := by decide +kernel
theorem dd_PH_pageForMaking_44 : decode prog_1_method_29_code 44 = .ok (.invokevirtual 65, 3) := by decide +kernel
theorem dd_PH_pageForMaking_47 : decode prog_1_method_29_code 47 = .ok (.ifCond .eq 16, 3) := by decide +kernel
theorem dd_PH_pageForMaking_50 : decode prog_1_method_29_code 50 = .ok (.aload_n 0, 1) := by decide +kernel
theorem dd_PH_pageForMaking_51 : decode prog_1_method_29_code 51 = .ok (.getfield 10, 3) := by decide +kernel
theorem dd_PH_pageForMaking_54 : decode prog_1_method_29_code 54 = .ok (.iload_n 3, 1) := by decide +kernel
theorem dd_PH_pageForMaking_55 : decode prog_1_method_29_code 55 = .ok (.iload 5, 2) := by decide +kernel
theorem dd_PH_pageForMaking_57 : decode prog_1_method_29_code 57 = .ok (.invokevirtual 195, 3) := by decide +kernel
theorem dd_PH_pageForMaking_60 : decode prog_1_method_29_code 60 = .ok (.goto 4, 3) := by decide +kernel
theorem dd_PH_pageForMaking_63 : decode prog_1_method_29_code 63 = .ok (.aconst_null, 1) := by decide +kernel
theorem dd_PH_pageForMaking_64 : decode prog_1_method_29_code 64 = .ok (.areturn, 1) := by decide +kernel
theorem dd_Pr_heapForMaking_0 : decode prog_4_method_7_code 0 = .ok (.aload_n 0, 1) := by decide +kernel
theorem dd_Pr_heapForMaking_1 : decode prog_4_method_7_code 1 = .ok (.invokevirtual 40, 3) := by decide +kernel
theorem dd_Pr_heapForMaking_4 : decode prog_4_method_7_code 4 = .ok (.ifCond .eq 6, 3) := by decide +kernel
theorem dd_Pr_heapForMaking_7 : decode prog_4_method_7_code 7 = .ok (.bipush 8, 2) := by decide +kernel
theorem dd_Pr_heapForMaking_9 : decode prog_4_method_7_code 9 = .ok (.ireturn, 1) := by decide +kernel
theorem dd_Pr_heapForMaking_10 : decode prog_4_method_7_code 10 = .ok (.aload_n 0, 1) := by decide +kernel
theorem dd_Pr_heapForMaking_11 : decode prog_4_method_7_code 11 = .ok (.getfield 21, 3) := by decide +kernel
theorem dd_Pr_heapForMaking_14 : decode prog_4_method_7_code 14 = .ok (.iconst (-1), 1) := by decide +kernel
theorem dd_Pr_heapForMaking_15 : decode prog_4_method_7_code 15 = .ok (.if_icmp .ne 10, 3) := by decide +kernel
theorem dd_Pr_heapForMaking_18 : decode prog_4_method_7_code 18 = .ok (.aload_n 0, 1) := by decide +kernel
theorem dd_Pr_heapForMaking_19 : decode prog_4_method_7_code 19 = .ok (.getfield 27, 3) := by decide +kernel
theorem dd_Pr_heapForMaking_22 : decode prog_4_method_7_code 22 = .ok (.goto 7, 3) := by decide +kernel
theorem dd_Pr_heapForMaking_25 : decode prog_4_method_7_code 25 = .ok (.aload_n 0, 1) := by decide +kernel
theorem dd_Pr_heapForMaking_26 : decode prog_4_method_7_code 26 = .ok (.getfield 21, 3) := by decide +kernel
theorem dd_Pr_heapForMaking_29 : decode prog_4_method_7_code 29 = .ok (.ireturn, 1) := by decide +kernel
theorem dd_Me_findPage_0 : decode prog_6_method_7_code 0 = .ok (.iconst 0, 1) := by decide +kernel
theorem dd_Me_findPage_1 : decode prog_6_method_7_code 1 = .ok (.istore_n 3, 1) := by decide +kernel
theorem dd_Me_findPage_2 : decode prog_6_method_7_code 2 = .ok (.iload_n 3, 1) := by decide +kernel
theorem dd_Me_findPage_3 : decode prog_6_method_7_code 3 = .ok (.aload_n 0, 1) := by decide +kernel
theorem dd_Me_findPage_4 : decode prog_6_method_7_code 4 = .ok (.getfield 12, 3) := by decide +kernel
theorem dd_Me_findPage_7 : decode prog_6_method_7_code 7 = .ok (.invokevirtual 21, 3) := by decide +kernel
theorem dd_Me_findPage_10 : decode prog_6_method_7_code 10 = .ok (.if_icmp .ge 43, 3) := by decide +kernel
theorem dd_Me_findPage_13 : decode prog_6_method_7_code 13 = .ok (.aload_n 0, 1) := by decide +kernel
theorem dd_Me_findPage_14 : decode prog_6_method_7_code 14 = .ok (.getfield 12, 3) := by decide +kernel
theorem dd_Me_findPage_17 : decode prog_6_method_7_code 17 = .ok (.iload_n 3, 1) := by decide +kernel
theorem dd_Me_findPage_18 : decode prog_6_method_7_code 18 = .ok (.invokevirtual 25, 3) := by decide +kernel
theorem dd_Me_findPage_21 : decode prog_6_method_7_code 21 = .ok (.checkcast 29, 3) := by decide +kernel
theorem dd_Me_findPage_24 : decode prog_6_method_7_code 24 = .ok (.astore 4, 2) := by decide +kernel
theorem dd_Me_findPage_26 : decode prog_6_method_7_code 26 = .ok (.aload 4, 2) := by decide +kernel
theorem dd_Me_findPage_28 : decode prog_6_method_7_code 28 = .ok (.getfield 31, 3) := by decide +kernel
theorem dd_Me_findPage_31 : decode prog_6_method_7_code 31 = .ok (.iload_n 1, 1) := by decide +kernel
theorem dd_Me_findPage_32 : decode prog_6_method_7_code 32 = .ok (.if_icmp .ne 15, 3) := by decide +kernel
theorem dd_Me_findPage_35 : decode prog_6_method_7_code 35 = .ok (.aload 4, 2) := by decide +kernel
theorem dd_Me_findPage_37 : decode prog_6_method_7_code 37 = .ok (.getfield 55, 3) := by decide +kernel
theorem dd_Me_findPage_40 : decode prog_6_method_7_code 40 = .ok (.iload_n 2, 1) := by decide +kernel
theorem dd_Me_findPage_41 : decode prog_6_method_7_code 41 = .ok (.if_icmp .lt 6, 3) := by decide +kernel
theorem dd_Me_findPage_44 : decode prog_6_method_7_code 44 = .ok (.aload 4, 2) := by decide +kernel
theorem dd_Me_findPage_46 : decode prog_6_method_7_code 46 = .ok (.areturn, 1) := by decide +kernel
theorem dd_Me_findPage_47 : decode prog_6_method_7_code 47 = .ok (.iinc 3 1, 3) := by decide +kernel
theorem dd_Me_findPage_50 : decode prog_6_method_7_code 50 = .ok (.goto (-48), 3) := by decide +kernel
theorem dd_Me_findPage_53 : decode prog_6_method_7_code 53 = .ok (.aconst_null, 1) := by decide +kernel
theorem dd_Me_findPage_54 : decode prog_6_method_7_code 54 = .ok (.areturn, 1) := by decide +kernel
theorem dd_Me_addPage_0 : decode prog_6_method_8_code 0 = .ok (.new 29, 3) := by decide +kernel
theorem dd_Me_addPage_3 : decode prog_6_method_8_code 3 = .ok (.dup, 1) := by decide +kernel
theorem dd_Me_addPage_4 : decode prog_6_method_8_code 4 = .ok (.iload_n 1, 1) := by decide +kernel
theorem dd_Me_addPage_5 : decode prog_6_method_8_code 5 = .ok (.iload_n 2, 1) := by decide +kernel
theorem dd_Me_addPage_6 : decode prog_6_method_8_code 6 = .ok (.invokespecial 58, 3) := by decide +kernel
theorem dd_Me_addPage_9 : decode prog_6_method_8_code 9 = .ok (.astore_n 3, 1) := by decide +kernel
theorem dd_Me_addPage_10 : decode prog_6_method_8_code 10 = .ok (.aload_n 0, 1) := by decide +kernel
theorem dd_Me_addPage_11 : decode prog_6_method_8_code 11 = .ok (.getfield 12, 3) := by decide +kernel
theorem dd_Me_addPage_14 : decode prog_6_method_8_code 14 = .ok (.aload_n 3, 1) := by decide +kernel
theorem dd_Me_addPage_15 : decode prog_6_method_8_code 15 = .ok (.invokevirtual 61, 3) := by decide +kernel
theorem dd_Me_addPage_18 : decode prog_6_method_8_code 18 = .ok (.pop, 1) := by decide +kernel
theorem dd_Me_addPage_19 : decode prog_6_method_8_code 19 = .ok (.aload_n 3, 1) := by decide +kernel
theorem dd_Me_addPage_20 : decode prog_6_method_8_code 20 = .ok (.areturn, 1) := by decide +kernel
theorem dd_Pa_init_0 : decode prog_7_method_1_code 0 = .ok (.aload_n 0, 1) := by decide +kernel
theorem dd_Pa_init_1 : decode prog_7_method_1_code 1 = .ok (.invokespecial 3, 3) := by decide +kernel
theorem dd_Pa_init_4 : decode prog_7_method_1_code 4 = .ok (.aload_n 0, 1) := by decide +kernel
theorem dd_Pa_init_5 : decode prog_7_method_1_code 5 = .ok (.bipush 16, 2) := by decide +kernel
theorem dd_Pa_init_7 : decode prog_7_method_1_code 7 = .ok (.putfield 9, 3) := by decide +kernel
theorem dd_Pa_init_10 : decode prog_7_method_1_code 10 = .ok (.aload_n 0, 1) := by decide +kernel
theorem dd_Pa_init_11 : decode prog_7_method_1_code 11 = .ok (.iload_n 1, 1) := by decide +kernel
theorem dd_Pa_init_12 : decode prog_7_method_1_code 12 = .ok (.putfield 15, 3) := by decide +kernel
theorem dd_Pa_init_15 : decode prog_7_method_1_code 15 = .ok (.aload_n 0, 1) := by decide +kernel
theorem dd_Pa_init_16 : decode prog_7_method_1_code 16 = .ok (.iload_n 2, 1) := by decide +kernel
theorem dd_Pa_init_17 : decode prog_7_method_1_code 17 = .ok (.putfield 18, 3) := by decide +kernel
theorem dd_Pa_init_20 : decode prog_7_method_1_code 20 = .ok (.return_, 1) := by decide +kernel
theorem dd_PH_collectHeap_0 : decode prog_1_method_33_code 0 = .ok (.aload_n 0, 1) := by decide +kernel
theorem dd_PH_collectHeap_1 : decode prog_1_method_33_code 1 = .ok (.getfield 19, 3) := by decide +kernel
theorem dd_PH_collectHeap_4 : decode prog_1_method_33_code 4 = .ok (.iload_n 1, 1) := by decide +kernel
theorem dd_PH_collectHeap_5 : decode prog_1_method_33_code 5 = .ok (.aload_n 0, 1) := by decide +kernel
theorem dd_PH_collectHeap_6 : decode prog_1_method_33_code 6 = .ok (.getfield 10, 3) := by decide +kernel
theorem dd_PH_collectHeap_9 : decode prog_1_method_33_code 9 = .ok (.aload_n 0, 1) := by decide +kernel
theorem dd_PH_collectHeap_10 : decode prog_1_method_33_code 10 = .ok (.getfield 32, 3) := by decide +kernel
theorem dd_PH_collectHeap_13 : decode prog_1_method_33_code 13 = .ok (.invokevirtual 198, 3) := by decide +kernel
theorem dd_PH_collectHeap_16 : decode prog_1_method_33_code 16 = .ok (.istore_n 2, 1) := by decide +kernel
theorem dd_PH_collectHeap_17 : decode prog_1_method_33_code 17 = .ok (.iload_n 1, 1) := by decide +kernel
theorem dd_PH_collectHeap_18 : decode prog_1_method_33_code 18 = .ok (.bipush 8, 2) := by decide +kernel
theorem dd_PH_collectHeap_20 : decode prog_1_method_33_code 20 = .ok (.if_icmp .ne 10, 3) := by decide +kernel
theorem dd_PH_collectHeap_23 : decode prog_1_method_33_code 23 = .ok (.aload_n 0, 1) := by decide +kernel
theorem dd_PH_collectHeap_24 : decode prog_1_method_33_code 24 = .ok (.invokevirtual 202, 3) := by decide +kernel
theorem dd_PH_collectHeap_27 : decode prog_1_method_33_code 27 = .ok (.goto 13, 3) := by decide +kernel
theorem dd_PH_collectHeap_30 : decode prog_1_method_33_code 30 = .ok (.aload_n 0, 1) := by decide +kernel
theorem dd_PH_collectHeap_31 : decode prog_1_method_33_code 31 = .ok (.aload_n 0, 1) := by decide +kernel
theorem dd_PH_collectHeap_32 : decode prog_1_method_33_code 32 = .ok (.getfield 32, 3) := by decide +kernel
theorem dd_PH_collectHeap_35 : decode prog_1_method_33_code 35 = .ok (.iload_n 1, 1) := by decide +kernel
theorem dd_PH_collectHeap_36 : decode prog_1_method_33_code 36 = .ok (.aaload, 1) := by decide +kernel
theorem dd_PH_collectHeap_37 : decode prog_1_method_33_code 37 = .ok (.invokevirtual 205, 3) := by decide +kernel
theorem dd_PH_collectHeap_40 : decode prog_1_method_33_code 40 = .ok (.aload_n 0, 1) := by decide +kernel
theorem dd_PH_collectHeap_41 : decode prog_1_method_33_code 41 = .ok (.invokevirtual 208, 3) := by decide +kernel
theorem dd_PH_collectHeap_44 : decode prog_1_method_33_code 44 = .ok (.iload_n 2, 1) := by decide +kernel
theorem dd_PH_collectHeap_45 : decode prog_1_method_33_code 45 = .ok (.ireturn, 1) := by decide +kernel
theorem dd_Co_run_0 : decode prog_2_method_2_code 0 = .ok (.aload_n 0, 1) := by decide +kernel
theorem dd_Co_run_1 : decode prog_2_method_2_code 1 = .ok (.iconst 0, 1) := by decide +kernel
theorem dd_Co_run_2 : decode prog_2_method_2_code 2 = .ok (.putfield 17, 3) := by decide +kernel
theorem dd_Co_run_5 : decode prog_2_method_2_code 5 = .ok (.aload_n 0, 1) := by decide +kernel
theorem dd_Co_run_6 : decode prog_2_method_2_code 6 = .ok (.iload_n 1, 1) := by decide +kernel
theorem dd_Co_run_7 : decode prog_2_method_2_code 7 = .ok (.aload_n 3, 1) := by decide +kernel
theorem dd_Co_run_8 : decode prog_2_method_2_code 8 = .ok (.invokevirtual 21, 3) := by decide +kernel
theorem dd_Co_run_11 : decode prog_2_method_2_code 11 = .ok (.aload_n 0, 1) := by decide +kernel
theorem dd_Co_run_12 : decode prog_2_method_2_code 12 = .ok (.iload_n 1, 1) := by decide +kernel
theorem dd_Co_run_13 : decode prog_2_method_2_code 13 = .ok (.aload_n 2, 1) := by decide +kernel
theorem dd_Co_run_14 : decode prog_2_method_2_code 14 = .ok (.invokevirtual 25, 3) := by decide +kernel
theorem dd_Co_run_17 : decode prog_2_method_2_code 17 = .ok (.aload_n 0, 1) := by decide +kernel
theorem dd_Co_run_18 : decode prog_2_method_2_code 18 = .ok (.iload_n 1, 1) := by decide +kernel
theorem dd_Co_run_19 : decode prog_2_method_2_code 19 = .ok (.invokevirtual 29, 3) := by decide +kernel
theorem dd_Co_run_22 : decode prog_2_method_2_code 22 = .ok (.aload_n 2, 1) := by decide +kernel
theorem dd_Co_run_23 : decode prog_2_method_2_code 23 = .ok (.iload_n 1, 1) := by decide +kernel
theorem dd_Co_run_24 : decode prog_2_method_2_code 24 = .ok (.invokevirtual 33, 3) := by decide +kernel
theorem dd_Co_run_27 : decode prog_2_method_2_code 27 = .ok (.istore 4, 2) := by decide +kernel
theorem dd_Co_run_29 : decode prog_2_method_2_code 29 = .ok (.aload_n 0, 1) := by decide +kernel
theorem dd_Co_run_30 : decode prog_2_method_2_code 30 = .ok (.iload_n 1, 1) := by decide +kernel
theorem dd_Co_run_31 : decode prog_2_method_2_code 31 = .ok (.aload_n 2, 1) := by decide +kernel
theorem dd_Co_run_32 : decode prog_2_method_2_code 32 = .ok (.invokevirtual 39, 3) := by decide +kernel
theorem dd_Co_run_35 : decode prog_2_method_2_code 35 = .ok (.iload 4, 2) := by decide +kernel
theorem dd_Co_run_37 : decode prog_2_method_2_code 37 = .ok (.ireturn, 1) := by decide +kernel
theorem dd_Co_reachHeld_0 : decode prog_2_method_3_code 0 = .ok (.iconst 0, 1) := by decide +kernel
theorem dd_Co_reachHeld_1 : decode prog_2_method_3_code 1 = .ok (.istore_n 3, 1) := by decide +kernel
theorem dd_Co_reachHeld_2 : decode prog_2_method_3_code 2 = .ok (.iload_n 3, 1) := by decide +kernel
theorem dd_Co_reachHeld_3 : decode prog_2_method_3_code 3 = .ok (.bipush 8, 2) := by decide +kernel
theorem dd_Co_reachHeld_5 : decode prog_2_method_3_code 5 = .ok (.if_icmp .ge 44, 3) := by decide +kernel
theorem dd_Co_reachHeld_8 : decode prog_2_method_3_code 8 = .ok (.iconst 0, 1) := by decide +kernel
theorem dd_Co_reachHeld_9 : decode prog_2_method_3_code 9 = .ok (.istore 4, 2) := by decide +kernel
theorem dd_Co_reachHeld_11 : decode prog_2_method_3_code 11 = .ok (.aload_n 2, 1) := by decide +kernel
theorem dd_Co_reachHeld_12 : decode prog_2_method_3_code 12 = .ok (.iload_n 3, 1) := by decide +kernel
theorem dd_Co_reachHeld_13 : decode prog_2_method_3_code 13 = .ok (.aaload, 1) := by decide +kernel
theorem dd_Co_reachHeld_14 : decode prog_2_method_3_code 14 = .ok (.ifnull 29, 3) := by decide +kernel
theorem dd_Co_reachHeld_17 : decode prog_2_method_3_code 17 = .ok (.iload 4, 2) := by decide +kernel
theorem dd_Co_reachHeld_19 : decode prog_2_method_3_code 19 = .ok (.iconst 4, 1) := by decide +kernel
theorem dd_Co_reachHeld_20 : decode prog_2_method_3_code 20 = .ok (.if_icmp .ge 23, 3) := by decide +kernel
theorem dd_Co_reachHeld_23 : decode prog_2_method_3_code 23 = .ok (.aload_n 0, 1) := by decide +kernel
theorem dd_Co_reachHeld_24 : decode prog_2_method_3_code 24 = .ok (.iload_n 1, 1) := by decide +kernel
theorem dd_Co_reachHeld_25 : decode prog_2_method_3_code 25 = .ok (.aload_n 2, 1) := by decide +kernel
theorem dd_Co_reachHeld_26 : decode prog_2_method_3_code 26 = .ok (.iload_n 3, 1) := by decide +kernel
theorem dd_Co_reachHeld_27 : decode prog_2_method_3_code 27 = .ok (.aaload, 1) := by decide +kernel
theorem dd_Co_reachHeld_28 : decode prog_2_method_3_code 28 = .ok (.getfield 42, 3) := by decide +kernel
theorem dd_Co_reachHeld_31 : decode prog_2_method_3_code 31 = .ok (.iload 4, 2) := by decide +kernel
theorem dd_Co_reachHeld_33 : decode prog_2_method_3_code 33 = .ok (.aaload, 1) := by decide +kernel
theorem dd_Co_reachHeld_34 : decode prog_2_method_3_code 34 = .ok (.invokevirtual 47, 3) := by decide +kernel
theorem dd_Co_reachHeld_37 : decode prog_2_method_3_code 37 = .ok (.iinc 4 1, 3) := by decide +kernel
theorem dd_Co_reachHeld_40 : decode prog_2_method_3_code 40 = .ok (.goto (-29), 3) := by decide +kernel
theorem dd_Co_reachHeld_43 : decode prog_2_method_3_code 43 = .ok (.iinc 3 1, 3) := by decide +kernel
theorem dd_Co_reachHeld_46 : decode prog_2_method_3_code 46 = .ok (.goto (-44), 3) := by decide +kernel
theorem dd_Co_reachHeld_49 : decode prog_2_method_3_code 49 = .ok (.return_, 1) := by decide +kernel
theorem dd_Co_reachObject_0 : decode prog_2_method_6_code 0 = .ok (.aload_n 2, 1) := by decide +kernel
theorem dd_Co_reachObject_1 : decode prog_2_method_6_code 1 = .ok (.ifnull 27, 3) := by decide +kernel
theorem dd_Co_reachObject_4 : decode prog_2_method_6_code 4 = .ok (.aload_n 2, 1) := by decide +kernel
theorem dd_Co_reachObject_5 : decode prog_2_method_6_code 5 = .ok (.invokevirtual 72, 3) := by decide +kernel
theorem dd_Co_reachObject_8 : decode prog_2_method_6_code 8 = .ok (.iload_n 1, 1) := by decide +kernel
theorem dd_Co_reachObject_9 : decode prog_2_method_6_code 9 = .ok (.if_icmp .ne 19, 3) := by decide +kernel
theorem dd_Co_reachObject_12 : decode prog_2_method_6_code 12 = .ok (.aload_n 2, 1) := by decide +kernel
theorem dd_Co_reachObject_13 : decode prog_2_method_6_code 13 = .ok (.getfield 75, 3) := by decide +kernel
theorem dd_Co_reachObject_16 : decode prog_2_method_6_code 16 = .ok (.ifCond .ne 12, 3) := by decide +kernel
theorem dd_Co_reachObject_19 : decode prog_2_method_6_code 19 = .ok (.aload_n 0, 1) := by decide +kernel
theorem dd_Co_reachObject_20 : decode prog_2_method_6_code 20 = .ok (.getfield 17, 3) := by decide +kernel
theorem dd_Co_reachObject_23 : decode prog_2_method_6_code 23 = .ok (.bipush 60, 2) := by decide +kernel
theorem dd_Co_reachObject_25 : decode prog_2_method_6_code 25 = .ok (.if_icmp .lt 4, 3) := by decide +kernel
theorem dd_Co_reachObject_28 : decode prog_2_method_6_code 28 = .ok (.return_, 1) := by decide +kernel
theorem dd_Co_reachObject_29 : decode prog_2_method_6_code 29 = .ok (.aload_n 2, 1) := by decide +kernel
theorem dd_Co_reachObject_30 : decode prog_2_method_6_code 30 = .ok (.iconst 1, 1) := by decide +kernel
theorem dd_Co_reachObject_31 : decode prog_2_method_6_code 31 = .ok (.putfield 75, 3) := by decide +kernel
theorem dd_Co_reachObject_34 : decode prog_2_method_6_code 34 = .ok (.aload_n 0, 1) := by decide +kernel
theorem dd_Co_reachObject_35 : decode prog_2_method_6_code 35 = .ok (.getfield 11, 3) := by decide +kernel
theorem dd_Co_reachObject_38 : decode prog_2_method_6_code 38 = .ok (.aload_n 0, 1) := by decide +kernel
theorem dd_Co_reachObject_39 : decode prog_2_method_6_code 39 = .ok (.getfield 17, 3) := by decide +kernel
theorem dd_Co_reachObject_42 : decode prog_2_method_6_code 42 = .ok (.aload_n 2, 1) := by decide +kernel
theorem dd_Co_reachObject_43 : decode prog_2_method_6_code 43 = .ok (.aastore, 1) := by decide +kernel
theorem dd_Co_reachObject_44 : decode prog_2_method_6_code 44 = .ok (.aload_n 0, 1) := by decide +kernel
theorem dd_Co_reachObject_45 : decode prog_2_method_6_code 45 = .ok (.dup, 1) := by decide +kernel
theorem dd_Co_reachObject_46 : decode prog_2_method_6_code 46 = .ok (.getfield 17, 3) := by decide +kernel
theorem dd_Co_reachObject_49 : decode prog_2_method_6_code 49 = .ok (.iconst 1, 1) := by decide +kernel
theorem dd_Co_reachObject_50 : decode prog_2_method_6_code 50 = .ok (.iadd, 1) := by decide +kernel
theorem dd_Co_reachObject_51 : decode prog_2_method_6_code 51 = .ok (.putfield 17, 3) := by decide +kernel
theorem dd_Co_reachObject_54 : decode prog_2_method_6_code 54 = .ok (.return_, 1) := by decide +kernel
theorem dd_Co_reachNamedFromOutside_0 : decode prog_2_method_4_code 0 = .ok (.iconst 0, 1) := by decide +kernel
theorem dd_Co_reachNamedFromOutside_1 : decode prog_2_method_4_code 1 = .ok (.istore_n 3, 1) := by decide +kernel
theorem dd_Co_reachNamedFromOutside_2 : decode prog_2_method_4_code 2 = .ok (.iload_n 3, 1) := by decide +kernel
theorem dd_Co_reachNamedFromOutside_3 : decode prog_2_method_4_code 3 = .ok (.aload_n 2, 1) := by decide +kernel
theorem dd_Co_reachNamedFromOutside_4 : decode prog_2_method_4_code 4 = .ok (.getfield 51, 3) := by decide +kernel
theorem dd_Co_reachNamedFromOutside_7 : decode prog_2_method_4_code 7 = .ok (.invokevirtual 55, 3) := by decide +kernel
theorem dd_Co_reachNamedFromOutside_10 : decode prog_2_method_4_code 10 = .ok (.if_icmp .ge 42, 3) := by decide +kernel
theorem dd_Co_reachNamedFromOutside_13 : decode prog_2_method_4_code 13 = .ok (.aload_n 2, 1) := by decide +kernel
theorem dd_Co_reachNamedFromOutside_14 : decode prog_2_method_4_code 14 = .ok (.getfield 51, 3) := by decide +kernel
theorem dd_Co_reachNamedFromOutside_17 : decode prog_2_method_4_code 17 = .ok (.iload_n 3, 1) := by decide +kernel
theorem dd_Co_reachNamedFromOutside_18 : decode prog_2_method_4_code 18 = .ok (.invokevirtual 61, 3) := by decide +kernel
theorem dd_Co_reachNamedFromOutside_21 : decode prog_2_method_4_code 21 = .ok (.checkcast 9, 3) := by decide +kernel
theorem dd_Co_reachNamedFromOutside_24 : decode prog_2_method_4_code 24 = .ok (.invokevirtual 65, 3) := by decide +kernel
theorem dd_Co_reachNamedFromOutside_27 : decode prog_2_method_4_code 27 = .ok (.ifCond .eq 19, 3) := by decide +kernel
theorem dd_Co_reachNamedFromOutside_30 : decode prog_2_method_4_code 30 = .ok (.aload_n 0, 1) := by decide +kernel
theorem dd_Co_reachNamedFromOutside_31 : decode prog_2_method_4_code 31 = .ok (.iload_n 1, 1) := by decide +kernel
theorem dd_Co_reachNamedFromOutside_32 : decode prog_2_method_4_code 32 = .ok (.aload_n 2, 1) := by decide +kernel
theorem dd_Co_reachNamedFromOutside_33 : decode prog_2_method_4_code 33 = .ok (.getfield 51, 3) := by decide +kernel
theorem dd_Co_reachNamedFromOutside_36 : decode prog_2_method_4_code 36 = .ok (.iload_n 3, 1) := by decide +kernel
theorem dd_Co_reachNamedFromOutside_37 : decode prog_2_method_4_code 37 = .ok (.invokevirtual 61, 3) := by decide +kernel
theorem dd_Co_reachNamedFromOutside_40 : decode prog_2_method_4_code 40 = .ok (.checkcast 9, 3) := by decide +kernel
theorem dd_Co_reachNamedFromOutside_43 : decode prog_2_method_4_code 43 = .ok (.invokevirtual 47, 3) := by decide +kernel
theorem dd_Co_reachNamedFromOutside_46 : decode prog_2_method_4_code 46 = .ok (.iinc 3 1, 3) := by decide +kernel
theorem dd_Co_reachNamedFromOutside_49 : decode prog_2_method_4_code 49 = .ok (.goto (-47), 3) := by decide +kernel
theorem dd_Co_reachNamedFromOutside_52 : decode prog_2_method_4_code 52 = .ok (.return_, 1) := by decide +kernel
theorem dd_Ob_hasAnyItem_0 : decode prog_3_method_6_code 0 = .ok (.aload_n 0, 1) := by decide +kernel
theorem dd_Ob_hasAnyItem_1 : decode prog_3_method_6_code 1 = .ok (.getfield 19, 3) := by decide +kernel
theorem dd_Ob_hasAnyItem_4 : decode prog_3_method_6_code 4 = .ok (.ifCond .eq 7, 3) := by decide +kernel
theorem dd_Ob_hasAnyItem_7 : decode prog_3_method_6_code 7 = .ok (.iconst 1, 1) := by decide +kernel
theorem dd_Ob_hasAnyItem_8 : decode prog_3_method_6_code 8 = .ok (.goto 4, 3) := by decide +kernel
theorem dd_Ob_hasAnyItem_11 : decode prog_3_method_6_code 11 = .ok (.iconst 0, 1) := by decide +kernel
theorem dd_Ob_hasAnyItem_12 : decode prog_3_method_6_code 12 = .ok (.ireturn, 1) := by decide +kernel
theorem dd_Co_followFields_0 : decode prog_2_method_5_code 0 = .ok (.iconst 0, 1) := by decide +kernel
theorem dd_Co_followFields_1 : decode prog_2_method_5_code 1 = .ok (.istore_n 2, 1) := by decide +kernel
theorem dd_Co_followFields_2 : decode prog_2_method_5_code 2 = .ok (.iload_n 2, 1) := by decide +kernel
theorem dd_Co_followFields_3 : decode prog_2_method_5_code 3 = .ok (.aload_n 0, 1) := by decide +kernel
theorem dd_Co_followFields_4 : decode prog_2_method_5_code 4 = .ok (.getfield 17, 3) := by decide +kernel
theorem dd_Co_followFields_7 : decode prog_2_method_5_code 7 = .ok (.if_icmp .ge 44, 3) := by decide +kernel
theorem dd_Co_followFields_10 : decode prog_2_method_5_code 10 = .ok (.iload_n 2, 1) := by decide +kernel
theorem dd_Co_followFields_11 : decode prog_2_method_5_code 11 = .ok (.bipush 60, 2) := by decide +kernel
theorem dd_Co_followFields_13 : decode prog_2_method_5_code 13 = .ok (.if_icmp .ge 38, 3) := by decide +kernel
theorem dd_Co_followFields_16 : decode prog_2_method_5_code 16 = .ok (.iconst 0, 1) := by decide +kernel
theorem dd_Co_followFields_17 : decode prog_2_method_5_code 17 = .ok (.istore_n 3, 1) := by decide +kernel
theorem dd_Co_followFields_18 : decode prog_2_method_5_code 18 = .ok (.iload_n 3, 1) := by decide +kernel
theorem dd_Co_followFields_19 : decode prog_2_method_5_code 19 = .ok (.iconst 3, 1) := by decide +kernel
theorem dd_Co_followFields_20 : decode prog_2_method_5_code 20 = .ok (.if_icmp .ge 25, 3) := by decide +kernel
theorem dd_Co_followFields_23 : decode prog_2_method_5_code 23 = .ok (.aload_n 0, 1) := by decide +kernel
theorem dd_Co_followFields_24 : decode prog_2_method_5_code 24 = .ok (.iload_n 1, 1) := by decide +kernel
theorem dd_Co_followFields_25 : decode prog_2_method_5_code 25 = .ok (.aload_n 0, 1) := by decide +kernel
theorem dd_Co_followFields_26 : decode prog_2_method_5_code 26 = .ok (.getfield 11, 3) := by decide +kernel
theorem dd_Co_followFields_29 : decode prog_2_method_5_code 29 = .ok (.iload_n 2, 1) := by decide +kernel
theorem dd_Co_followFields_30 : decode prog_2_method_5_code 30 = .ok (.aaload, 1) := by decide +kernel
theorem dd_Co_followFields_31 : decode prog_2_method_5_code 31 = .ok (.getfield 69, 3) := by decide +kernel
theorem dd_Co_followFields_34 : decode prog_2_method_5_code 34 = .ok (.iload_n 3, 1) := by decide +kernel
theorem dd_Co_followFields_35 : decode prog_2_method_5_code 35 = .ok (.aaload, 1) := by decide +kernel
theorem dd_Co_followFields_36 : decode prog_2_method_5_code 36 = .ok (.invokevirtual 47, 3) := by decide +kernel
theorem dd_Co_followFields_39 : decode prog_2_method_5_code 39 = .ok (.iinc 3 1, 3) := by decide +kernel
theorem dd_Co_followFields_42 : decode prog_2_method_5_code 42 = .ok (.goto (-24), 3) := by decide +kernel
theorem dd_Co_followFields_45 : decode prog_2_method_5_code 45 = .ok (.iinc 2 1, 3) := by decide +kernel
theorem dd_Co_followFields_48 : decode prog_2_method_5_code 48 = .ok (.goto (-46), 3) := by decide +kernel
theorem dd_Co_followFields_51 : decode prog_2_method_5_code 51 = .ok (.return_, 1) := by decide +kernel
theorem dd_Co_loseItems_0 : decode prog_2_method_7_code 0 = .ok (.iconst 0, 1) := by decide +kernel
theorem dd_Co_loseItems_1 : decode prog_2_method_7_code 1 = .ok (.istore_n 3, 1) := by decide +kernel
theorem dd_Co_loseItems_2 : decode prog_2_method_7_code 2 = .ok (.iload_n 3, 1) := by decide +kernel
theorem dd_Co_loseItems_3 : decode prog_2_method_7_code 3 = .ok (.aload_n 2, 1) := by decide +kernel
theorem dd_Co_loseItems_4 : decode prog_2_method_7_code 4 = .ok (.getfield 51, 3) := by decide +kernel
theorem dd_Co_loseItems_7 : decode prog_2_method_7_code 7 = .ok (.invokevirtual 55, 3) := by decide +kernel
theorem dd_Co_loseItems_10 : decode prog_2_method_7_code 10 = .ok (.if_icmp .ge 24, 3) := by decide +kernel
theorem dd_Co_loseItems_13 : decode prog_2_method_7_code 13 = .ok (.aload_n 2, 1) := by decide +kernel
theorem dd_Co_loseItems_14 : decode prog_2_method_7_code 14 = .ok (.getfield 51, 3) := by decide +kernel
theorem dd_Co_loseItems_17 : decode prog_2_method_7_code 17 = .ok (.iload_n 3, 1) := by decide +kernel
theorem dd_Co_loseItems_18 : decode prog_2_method_7_code 18 = .ok (.invokevirtual 61, 3) := by decide +kernel
theorem dd_Co_loseItems_21 : decode prog_2_method_7_code 21 = .ok (.checkcast 9, 3) := by decide +kernel
theorem dd_Co_loseItems_24 : decode prog_2_method_7_code 24 = .ok (.iload_n 1, 1) := by decide +kernel
theorem dd_Co_loseItems_25 : decode prog_2_method_7_code 25 = .ok (.invokevirtual 78, 3) := by decide +kernel
theorem dd_Co_loseItems_28 : decode prog_2_method_7_code 28 = .ok (.iinc 3 1, 3) := by decide +kernel
theorem dd_Co_loseItems_31 : decode prog_2_method_7_code 31 = .ok (.goto (-29), 3) := by decide +kernel
theorem dd_Co_loseItems_34 : decode prog_2_method_7_code 34 = .ok (.iconst 0, 1) := by decide +kernel
theorem dd_Co_loseItems_35 : decode prog_2_method_7_code 35 = .ok (.istore_n 3, 1) := by decide +kernel
theorem dd_Co_loseItems_36 : decode prog_2_method_7_code 36 = .ok (.iload_n 3, 1) := by decide +kernel
theorem dd_Co_loseItems_37 : decode prog_2_method_7_code 37 = .ok (.aload_n 0, 1) := by decide +kernel
theorem dd_Co_loseItems_38 : decode prog_2_method_7_code 38 = .ok (.getfield 17, 3) := by decide +kernel
theorem dd_Co_loseItems_41 : decode prog_2_method_7_code 41 = .ok (.if_icmp .ge 18, 3) := by decide +kernel
theorem dd_Co_loseItems_44 : decode prog_2_method_7_code 44 = .ok (.aload_n 0, 1) := by decide +kernel
theorem dd_Co_loseItems_45 : decode prog_2_method_7_code 45 = .ok (.getfield 11, 3) := by decide +kernel
theorem dd_Co_loseItems_48 : decode prog_2_method_7_code 48 = .ok (.iload_n 3, 1) := by decide +kernel
theorem dd_Co_loseItems_49 : decode prog_2_method_7_code 49 = .ok (.aaload, 1) := by decide +kernel
theorem dd_Co_loseItems_50 : decode prog_2_method_7_code 50 = .ok (.invokevirtual 81, 3) := by decide +kernel
theorem dd_Co_loseItems_53 : decode prog_2_method_7_code 53 = .ok (.iinc 3 1, 3) := by decide +kernel
theorem dd_Co_loseItems_56 : decode prog_2_method_7_code 56 = .ok (.goto (-20), 3) := by decide +kernel
theorem dd_Co_loseItems_59 : decode prog_2_method_7_code 59 = .ok (.return_, 1) := by decide +kernel
theorem dd_Ob_addItemsForFields_0 : decode prog_3_method_4_code 0 = .ok (.iconst 0, 1) := by decide +kernel
theorem dd_Ob_addItemsForFields_1 : decode prog_3_method_4_code 1 = .ok (.istore_n 1, 1) := by decide +kernel
theorem dd_Ob_addItemsForFields_2 : decode prog_3_method_4_code 2 = .ok (.iload_n 1, 1) := by decide +kernel
theorem dd_Ob_addItemsForFields_3 : decode prog_3_method_4_code 3 = .ok (.iconst 3, 1) := by decide +kernel
theorem dd_Ob_addItemsForFields_4 : decode prog_3_method_4_code 4 = .ok (.if_icmp .ge 19, 3) := by decide +kernel
theorem dd_Ob_addItemsForFields_7 : decode prog_3_method_4_code 7 = .ok (.aload_n 0, 1) := by decide +kernel
theorem dd_Ob_addItemsForFields_8 : decode prog_3_method_4_code 8 = .ok (.aload_n 0, 1) := by decide +kernel
theorem dd_Ob_addItemsForFields_9 : decode prog_3_method_4_code 9 = .ok (.getfield 11, 3) := by decide +kernel
theorem dd_Ob_addItemsForFields_12 : decode prog_3_method_4_code 12 = .ok (.iload_n 1, 1) := by decide +kernel
theorem dd_Ob_addItemsForFields_13 : decode prog_3_method_4_code 13 = .ok (.aaload, 1) := by decide +kernel
theorem dd_Ob_addItemsForFields_14 : decode prog_3_method_4_code 14 = .ok (.invokevirtual 38, 3) := by decide +kernel
theorem dd_Ob_addItemsForFields_17 : decode prog_3_method_4_code 17 = .ok (.iinc 1 1, 3) := by decide +kernel
theorem dd_Ob_addItemsForFields_20 : decode prog_3_method_4_code 20 = .ok (.goto (-18), 3) := by decide +kernel
theorem dd_Ob_addItemsForFields_23 : decode prog_3_method_4_code 23 = .ok (.return_, 1) := by decide +kernel
theorem dd_Ob_addItemFor_0 : decode prog_3_method_5_code 0 = .ok (.aload_n 1, 1) := by decide +kernel
theorem dd_Ob_addItemFor_1 : decode prog_3_method_5_code 1 = .ok (.ifnull 22, 3) := by decide +kernel
theorem dd_Ob_addItemFor_4 : decode prog_3_method_5_code 4 = .ok (.aload_n 1, 1) := by decide +kernel
theorem dd_Ob_addItemFor_5 : decode prog_3_method_5_code 5 = .ok (.invokevirtual 42, 3) := by decide +kernel
theorem dd_Ob_addItemFor_8 : decode prog_3_method_5_code 8 = .ok (.aload_n 0, 1) := by decide +kernel
theorem dd_Ob_addItemFor_9 : decode prog_3_method_5_code 9 = .ok (.invokevirtual 42, 3) := by decide +kernel
theorem dd_Ob_addItemFor_12 : decode prog_3_method_5_code 12 = .ok (.if_icmp .eq 11, 3) := by decide +kernel
theorem dd_Ob_addItemFor_15 : decode prog_3_method_5_code 15 = .ok (.aload_n 1, 1) := by decide +kernel
theorem dd_Ob_addItemFor_16 : decode prog_3_method_5_code 16 = .ok (.aload_n 0, 1) := by decide +kernel
theorem dd_Ob_addItemFor_17 : decode prog_3_method_5_code 17 = .ok (.invokevirtual 42, 3) := by decide +kernel
theorem dd_Ob_addItemFor_20 : decode prog_3_method_5_code 20 = .ok (.invokevirtual 46, 3) := by decide +kernel
theorem dd_Ob_addItemFor_23 : decode prog_3_method_5_code 23 = .ok (.return_, 1) := by decide +kernel
theorem dd_PH_dropChargesOfDead_0 : decode prog_1_method_36_code 0 = .ok (.bipush 9, 2) := by decide +kernel
theorem dd_PH_dropChargesOfDead_2 : decode prog_1_method_36_code 2 = .ok (.istore_n 1, 1) := by decide +kernel
theorem dd_PH_dropChargesOfDead_3 : decode prog_1_method_36_code 3 = .ok (.iload_n 1, 1) := by decide +kernel
theorem dd_PH_dropChargesOfDead_4 : decode prog_1_method_36_code 4 = .ok (.bipush 13, 2) := by decide +kernel
theorem dd_PH_dropChargesOfDead_6 : decode prog_1_method_36_code 6 = .ok (.if_icmp .ge 27, 3) := by decide +kernel
theorem dd_PH_dropChargesOfDead_9 : decode prog_1_method_36_code 9 = .ok (.aload_n 0, 1) := by decide +kernel
theorem dd_PH_dropChargesOfDead_10 : decode prog_1_method_36_code 10 = .ok (.getfield 10, 3) := by decide +kernel
theorem dd_PH_dropChargesOfDead_13 : decode prog_1_method_36_code 13 = .ok (.bipush 8, 2) := by decide +kernel
theorem dd_PH_dropChargesOfDead_15 : decode prog_1_method_36_code 15 = .ok (.iload_n 1, 1) := by decide +kernel
theorem dd_PH_dropChargesOfDead_16 : decode prog_1_method_36_code 16 = .ok (.invokevirtual 220, 3) := by decide +kernel
theorem dd_PH_dropChargesOfDead_19 : decode prog_1_method_36_code 19 = .ok (.ifCond .ne 8, 3) := by decide +kernel
theorem dd_PH_dropChargesOfDead_22 : decode prog_1_method_36_code 22 = .ok (.aload_n 0, 1) := by decide +kernel
theorem dd_PH_dropChargesOfDead_23 : decode prog_1_method_36_code 23 = .ok (.iload_n 1, 1) := by decide +kernel
theorem dd_PH_dropChargesOfDead_24 : decode prog_1_method_36_code 24 = .ok (.invokevirtual 226, 3) := by decide +kernel
theorem dd_PH_dropChargesOfDead_27 : decode prog_1_method_36_code 27 = .ok (.iinc 1 1, 3) := by decide +kernel
theorem dd_PH_dropChargesOfDead_30 : decode prog_1_method_36_code 30 = .ok (.goto (-27), 3) := by decide +kernel
theorem dd_PH_dropChargesOfDead_33 : decode prog_1_method_36_code 33 = .ok (.return_, 1) := by decide +kernel
theorem dd_Me_putObject_0 : decode prog_6_method_9_code 0 = .ok (.new 47, 3) := by decide +kernel
theorem dd_Me_putObject_3 : decode prog_6_method_9_code 3 = .ok (.dup, 1) := by decide +kernel
theorem dd_Me_putObject_4 : decode prog_6_method_9_code 4 = .ok (.aload_n 1, 1) := by decide +kernel
theorem dd_Me_putObject_5 : decode prog_6_method_9_code 5 = .ok (.iload_n 2, 1) := by decide +kernel
theorem dd_Me_putObject_6 : decode prog_6_method_9_code 6 = .ok (.iload_n 3, 1) := by decide +kernel
theorem dd_Me_putObject_7 : decode prog_6_method_9_code 7 = .ok (.invokespecial 65, 3) := by decide +kernel
theorem dd_Me_putObject_10 : decode prog_6_method_9_code 10 = .ok (.astore 4, 2) := by decide +kernel
theorem dd_Me_putObject_12 : decode prog_6_method_9_code 12 = .ok (.aload_n 1, 1) := by decide +kernel
theorem dd_Me_putObject_13 : decode prog_6_method_9_code 13 = .ok (.dup, 1) := by decide +kernel
theorem dd_Me_putObject_14 : decode prog_6_method_9_code 14 = .ok (.getfield 55, 3) := by decide +kernel
theorem dd_Me_putObject_17 : decode prog_6_method_9_code 17 = .ok (.iload_n 2, 1) := by decide +kernel
theorem dd_Me_putObject_18 : decode prog_6_method_9_code 18 = .ok (.isub, 1) := by decide +kernel
theorem dd_Me_putObject_19 : decode prog_6_method_9_code 19 = .ok (.putfield 55, 3) := by decide +kernel
theorem dd_Me_putObject_22 : decode prog_6_method_9_code 22 = .ok (.aload_n 0, 1) := by decide +kernel
theorem dd_Me_putObject_23 : decode prog_6_method_9_code 23 = .ok (.getfield 18, 3) := by decide +kernel
theorem dd_Me_putObject_26 : decode prog_6_method_9_code 26 = .ok (.aload 4, 2) := by decide +kernel
theorem dd_Me_putObject_28 : decode prog_6_method_9_code 28 = .ok (.invokevirtual 61, 3) := by decide +kernel
theorem dd_Me_putObject_31 : decode prog_6_method_9_code 31 = .ok (.pop, 1) := by decide +kernel
theorem dd_Me_putObject_32 : decode prog_6_method_9_code 32 = .ok (.aload 4, 2) := by decide +kernel
theorem dd_Me_putObject_34 : decode prog_6_method_9_code 34 = .ok (.areturn, 1) := by decide +kernel
theorem dd_Ob_init_0 : decode prog_3_method_1_code 0 = .ok (.aload_n 0, 1) := by decide +kernel
theorem dd_Ob_init_1 : decode prog_3_method_1_code 1 = .ok (.invokespecial 3, 3) := by decide +kernel
theorem dd_Ob_init_4 : decode prog_3_method_1_code 4 = .ok (.aload_n 0, 1) := by decide +kernel
theorem dd_Ob_init_5 : decode prog_3_method_1_code 5 = .ok (.iconst 3, 1) := by decide +kernel
theorem dd_Ob_init_6 : decode prog_3_method_1_code 6 = .ok (.anewarray 9, 3) := by decide +kernel
theorem dd_Ob_init_9 : decode prog_3_method_1_code 9 = .ok (.putfield 11, 3) := by decide +kernel
theorem dd_Ob_init_12 : decode prog_3_method_1_code 12 = .ok (.aload_n 0, 1) := by decide +kernel
theorem dd_Ob_init_13 : decode prog_3_method_1_code 13 = .ok (.iconst 0, 1) := by decide +kernel
theorem dd_Ob_init_14 : decode prog_3_method_1_code 14 = .ok (.putfield 15, 3) := by decide +kernel
theorem dd_Ob_init_17 : decode prog_3_method_1_code 17 = .ok (.aload_n 0, 1) := by decide +kernel
theorem dd_Ob_init_18 : decode prog_3_method_1_code 18 = .ok (.iconst 0, 1) := by decide +kernel
theorem dd_Ob_init_19 : decode prog_3_method_1_code 19 = .ok (.putfield 19, 3) := by decide +kernel
theorem dd_Ob_init_22 : decode prog_3_method_1_code 22 = .ok (.aload_n 0, 1) := by decide +kernel
theorem dd_Ob_init_23 : decode prog_3_method_1_code 23 = .ok (.aload_n 1, 1) := by decide +kernel
theorem dd_Ob_init_24 : decode prog_3_method_1_code 24 = .ok (.putfield 23, 3) := by decide +kernel
theorem dd_Ob_init_27 : decode prog_3_method_1_code 27 = .ok (.aload_n 0, 1) := by decide +kernel
theorem dd_Ob_init_28 : decode prog_3_method_1_code 28 = .ok (.iload_n 2, 1) := by decide +kernel
theorem dd_Ob_init_29 : decode prog_3_method_1_code 29 = .ok (.putfield 27, 3) := by decide +kernel
theorem dd_Ob_init_32 : decode prog_3_method_1_code 32 = .ok (.aload_n 0, 1) := by decide +kernel
theorem dd_Ob_init_33 : decode prog_3_method_1_code 33 = .ok (.iload_n 3, 1) := by decide +kernel
theorem dd_Ob_init_34 : decode prog_3_method_1_code 34 = .ok (.putfield 30, 3) := by decide +kernel
theorem dd_Ob_init_37 : decode prog_3_method_1_code 37 = .ok (.return_, 1) := by decide +kernel
theorem dd_PH_store_0 : decode prog_1_method_6_code 0 = .ok (.aload_n 0, 1) := by decide +kernel
theorem dd_PH_store_1 : decode prog_1_method_6_code 1 = .ok (.iload_n 1, 1) := by decide +kernel
theorem dd_PH_store_2 : decode prog_1_method_6_code 2 = .ok (.invokevirtual 61, 3) := by decide +kernel
theorem dd_PH_store_5 : decode prog_1_method_6_code 5 = .ok (.astore 5, 2) := by decide +kernel
theorem dd_PH_store_7 : decode prog_1_method_6_code 7 = .ok (.aload 5, 2) := by decide +kernel
theorem dd_PH_store_9 : decode prog_1_method_6_code 9 = .ok (.ifnull 25, 3) := by decide +kernel
theorem dd_PH_store_12 : decode prog_1_method_6_code 12 = .ok (.iload_n 2, 1) := by decide +kernel
theorem dd_PH_store_13 : decode prog_1_method_6_code 13 = .ok (.invokestatic 80, 3) := by decide +kernel
theorem dd_PH_store_16 : decode prog_1_method_6_code 16 = .ok (.ifCond .eq 18, 3) := by decide +kernel
theorem dd_PH_store_19 : decode prog_1_method_6_code 19 = .ok (.iload 4, 2) := by decide +kernel
theorem dd_PH_store_21 : decode prog_1_method_6_code 21 = .ok (.invokestatic 80, 3) := by decide +kernel
theorem dd_PH_store_24 : decode prog_1_method_6_code 24 = .ok (.ifCond .eq 10, 3) := by decide +kernel
theorem dd_PH_store_27 : decode prog_1_method_6_code 27 = .ok (.iload_n 3, 1) := by decide +kernel
theorem dd_PH_store_28 : decode prog_1_method_6_code 28 = .ok (.invokestatic 109, 3) := by decide +kernel
theorem dd_PH_store_31 : decode prog_1_method_6_code 31 = .ok (.ifCond .ne 5, 3) := by decide +kernel
theorem dd_PH_store_34 : decode prog_1_method_6_code 34 = .ok (.iconst (-1), 1) := by decide +kernel
theorem dd_PH_store_35 : decode prog_1_method_6_code 35 = .ok (.ireturn, 1) := by decide +kernel
theorem dd_PH_store_36 : decode prog_1_method_6_code 36 = .ok (.aload 5, 2) := by decide +kernel
theorem dd_PH_store_38 : decode prog_1_method_6_code 38 = .ok (.getfield 102, 3) := by decide +kernel
theorem dd_PH_store_41 : decode prog_1_method_6_code 41 = .ok (.iload_n 2, 1) := by decide +kernel
theorem dd_PH_store_42 : decode prog_1_method_6_code 42 = .ok (.aaload, 1) := by decide +kernel
theorem dd_PH_store_43 : decode prog_1_method_6_code 43 = .ok (.astore 6, 2) := by decide +kernel
theorem dd_PH_store_45 : decode prog_1_method_6_code 45 = .ok (.aload 6, 2) := by decide +kernel
theorem dd_PH_store_47 : decode prog_1_method_6_code 47 = .ok (.ifnonnull 6, 3) := by decide +kernel
theorem dd_PH_store_50 : decode prog_1_method_6_code 50 = .ok (.bipush (-2), 2) := by decide +kernel
theorem dd_PH_store_52 : decode prog_1_method_6_code 52 = .ok (.ireturn, 1) := by decide +kernel
theorem dd_PH_store_53 : decode prog_1_method_6_code 53 = .ok (.aload 5, 2) := by decide +kernel
theorem dd_PH_store_55 : decode prog_1_method_6_code 55 = .ok (.getfield 102, 3) := by decide +kernel
theorem dd_PH_store_58 : decode prog_1_method_6_code 58 = .ok (.iload 4, 2) := by decide +kernel
theorem dd_PH_store_60 : decode prog_1_method_6_code 60 = .ok (.aaload, 1) := by decide +kernel
theorem dd_PH_store_61 : decode prog_1_method_6_code 61 = .ok (.astore 7, 2) := by decide +kernel
theorem dd_PH_store_63 : decode prog_1_method_6_code 63 = .ok (.aload_n 0, 1) := by decide +kernel
theorem dd_PH_store_64 : decode prog_1_method_6_code 64 = .ok (.aload 5, 2) := by decide +kernel
theorem dd_PH_store_66 : decode prog_1_method_6_code 66 = .ok (.aload 6, 2) := by decide +kernel
theorem dd_PH_store_68 : decode prog_1_method_6_code 68 = .ok (.invokevirtual 112, 3) := by decide +kernel
theorem dd_PH_store_71 : decode prog_1_method_6_code 71 = .ok (.ifCond .eq 16, 3) := by decide +kernel
theorem dd_PH_store_74 : decode prog_1_method_6_code 74 = .ok (.aload_n 0, 1) := by decide +kernel
theorem dd_PH_store_75 : decode prog_1_method_6_code 75 = .ok (.aload 5, 2) := by decide +kernel
theorem dd_PH_store_77 : decode prog_1_method_6_code 77 = .ok (.aload 6, 2) := by decide +kernel
theorem dd_PH_store_79 : decode prog_1_method_6_code 79 = .ok (.aload 7, 2) := by decide +kernel
theorem dd_PH_store_81 : decode prog_1_method_6_code 81 = .ok (.invokevirtual 116, 3) := by decide +kernel
theorem dd_PH_store_84 : decode prog_1_method_6_code 84 = .ok (.ifCond .ne 6, 3) := by decide +kernel
theorem dd_PH_store_87 : decode prog_1_method_6_code 87 = .ok (.bipush (-3), 2) := by decide +kernel
theorem dd_PH_store_89 : decode prog_1_method_6_code 89 = .ok (.ireturn, 1) := by decide +kernel
theorem dd_PH_store_90 : decode prog_1_method_6_code 90 = .ok (.aload 6, 2) := by decide +kernel
theorem dd_PH_store_92 : decode prog_1_method_6_code 92 = .ok (.iload_n 3, 1) := by decide +kernel
theorem dd_PH_store_93 : decode prog_1_method_6_code 93 = .ok (.aload 7, 2) := by decide +kernel
theorem dd_PH_store_95 : decode prog_1_method_6_code 95 = .ok (.invokevirtual 120, 3) := by decide +kernel
theorem dd_PH_store_98 : decode prog_1_method_6_code 98 = .ok (.iconst 0, 1) := by decide +kernel
theorem dd_PH_store_99 : decode prog_1_method_6_code 99 = .ok (.ireturn, 1) := by decide +kernel
theorem dd_PH_isField_0 : decode prog_1_method_23_code 0 = .ok (.iload_n 0, 1) := by decide +kernel
theorem dd_PH_isField_1 : decode prog_1_method_23_code 1 = .ok (.ifCond .lt 12, 3) := by decide +kernel
theorem dd_PH_isField_4 : decode prog_1_method_23_code 4 = .ok (.iload_n 0, 1) := by decide +kernel
theorem dd_PH_isField_5 : decode prog_1_method_23_code 5 = .ok (.iconst 3, 1) := by decide +kernel
theorem dd_PH_isField_6 : decode prog_1_method_23_code 6 = .ok (.if_icmp .ge 7, 3) := by decide +kernel
theorem dd_PH_isField_9 : decode prog_1_method_23_code 9 = .ok (.iconst 1, 1) := by decide +kernel
theorem dd_PH_isField_10 : decode prog_1_method_23_code 10 = .ok (.goto 4, 3) := by decide +kernel
theorem dd_PH_isField_13 : decode prog_1_method_23_code 13 = .ok (.iconst 0, 1) := by decide +kernel
theorem dd_PH_isField_14 : decode prog_1_method_23_code 14 = .ok (.ireturn, 1) := by decide +kernel
theorem dd_PH_mayChange_0 : decode prog_1_method_30_code 0 = .ok (.aload_n 2, 1) := by decide +kernel
theorem dd_PH_mayChange_1 : decode prog_1_method_30_code 1 = .ok (.invokevirtual 133, 3) := by decide +kernel
theorem dd_PH_mayChange_4 : decode prog_1_method_30_code 4 = .ok (.istore_n 3, 1) := by decide +kernel
theorem dd_PH_mayChange_5 : decode prog_1_method_30_code 5 = .ok (.iload_n 3, 1) := by decide +kernel
theorem dd_PH_mayChange_6 : decode prog_1_method_30_code 6 = .ok (.bipush 8, 2) := by decide +kernel
theorem dd_PH_mayChange_8 : decode prog_1_method_30_code 8 = .ok (.if_icmp .ne 10, 3) := by decide +kernel
theorem dd_PH_mayChange_11 : decode prog_1_method_30_code 11 = .ok (.aload_n 1, 1) := by decide +kernel
theorem dd_PH_mayChange_12 : decode prog_1_method_30_code 12 = .ok (.invokevirtual 72, 3) := by decide +kernel
theorem dd_PH_mayChange_15 : decode prog_1_method_30_code 15 = .ok (.goto 16, 3) := by decide +kernel
theorem dd_PH_mayChange_18 : decode prog_1_method_30_code 18 = .ok (.aload_n 0, 1) := by decide +kernel
theorem dd_PH_mayChange_19 : decode prog_1_method_30_code 19 = .ok (.iload_n 3, 1) := by decide +kernel
theorem dd_PH_mayChange_20 : decode prog_1_method_30_code 20 = .ok (.invokevirtual 143, 3) := by decide +kernel
theorem dd_PH_mayChange_23 : decode prog_1_method_30_code 23 = .ok (.ifCond .ne 7, 3) := by decide +kernel
theorem dd_PH_mayChange_26 : decode prog_1_method_30_code 26 = .ok (.iconst 1, 1) := by decide +kernel
theorem dd_PH_mayChange_27 : decode prog_1_method_30_code 27 = .ok (.goto 4, 3) := by decide +kernel
theorem dd_PH_mayChange_30 : decode prog_1_method_30_code 30 = .ok (.iconst 0, 1) := by decide +kernel
theorem dd_PH_mayChange_31 : decode prog_1_method_30_code 31 = .ok (.ireturn, 1) := by decide +kernel
theorem dd_PH_mayName_0 : decode prog_1_method_31_code 0 = .ok (.aload_n 3, 1) := by decide +kernel
theorem dd_PH_mayName_1 : decode prog_1_method_31_code 1 = .ok (.ifnonnull 5, 3) := by decide +kernel
theorem dd_PH_mayName_4 : decode prog_1_method_31_code 4 = .ok (.iconst 1, 1) := by decide +kernel
theorem dd_PH_mayName_5 : decode prog_1_method_31_code 5 = .ok (.ireturn, 1) := by decide +kernel
theorem dd_PH_mayName_6 : decode prog_1_method_31_code 6 = .ok (.aload_n 2, 1) := by decide +kernel
theorem dd_PH_mayName_7 : decode prog_1_method_31_code 7 = .ok (.invokevirtual 133, 3) := by decide +kernel
theorem dd_PH_mayName_10 : decode prog_1_method_31_code 10 = .ok (.istore 4, 2) := by decide +kernel
theorem dd_PH_mayName_12 : decode prog_1_method_31_code 12 = .ok (.aload_n 3, 1) := by decide +kernel
theorem dd_PH_mayName_13 : decode prog_1_method_31_code 13 = .ok (.invokevirtual 133, 3) := by decide +kernel
theorem dd_PH_mayName_16 : decode prog_1_method_31_code 16 = .ok (.istore 5, 2) := by decide +kernel
theorem dd_PH_mayName_18 : decode prog_1_method_31_code 18 = .ok (.iload 4, 2) := by decide +kernel
theorem dd_PH_mayName_20 : decode prog_1_method_31_code 20 = .ok (.iload 5, 2) := by decide +kernel
theorem dd_PH_mayName_22 : decode prog_1_method_31_code 22 = .ok (.if_icmp .ne 5, 3) := by decide +kernel
theorem dd_PH_mayName_25 : decode prog_1_method_31_code 25 = .ok (.iconst 1, 1) := by decide +kernel
theorem dd_PH_mayName_26 : decode prog_1_method_31_code 26 = .ok (.ireturn, 1) := by decide +kernel
theorem dd_PH_mayName_27 : decode prog_1_method_31_code 27 = .ok (.iload 4, 2) := by decide +kernel
theorem dd_PH_mayName_29 : decode prog_1_method_31_code 29 = .ok (.bipush 8, 2) := by decide +kernel
theorem dd_PH_mayName_31 : decode prog_1_method_31_code 31 = .ok (.if_icmp .ne 18, 3) := by decide +kernel
theorem dd_PH_mayName_34 : decode prog_1_method_31_code 34 = .ok (.iload 5, 2) := by decide +kernel
theorem dd_PH_mayName_36 : decode prog_1_method_31_code 36 = .ok (.aload_n 1, 1) := by decide +kernel
theorem dd_PH_mayName_37 : decode prog_1_method_31_code 37 = .ok (.getfield 192, 3) := by decide +kernel
theorem dd_PH_mayName_40 : decode prog_1_method_31_code 40 = .ok (.if_icmp .ne 7, 3) := by decide +kernel
theorem dd_PH_mayName_43 : decode prog_1_method_31_code 43 = .ok (.iconst 1, 1) := by decide +kernel
theorem dd_PH_mayName_44 : decode prog_1_method_31_code 44 = .ok (.goto 4, 3) := by decide +kernel
theorem dd_PH_mayName_47 : decode prog_1_method_31_code 47 = .ok (.iconst 0, 1) := by decide +kernel
theorem dd_PH_mayName_48 : decode prog_1_method_31_code 48 = .ok (.ireturn, 1) := by decide +kernel
theorem dd_PH_mayName_49 : decode prog_1_method_31_code 49 = .ok (.iload 4, 2) := by decide +kernel
theorem dd_PH_mayName_51 : decode prog_1_method_31_code 51 = .ok (.aload_n 1, 1) := by decide +kernel
theorem dd_PH_mayName_52 : decode prog_1_method_31_code 52 = .ok (.getfield 192, 3) := by decide +kernel
theorem dd_PH_mayName_55 : decode prog_1_method_31_code 55 = .ok (.if_icmp .ne 23, 3) := by decide +kernel
theorem dd_PH_mayName_58 : decode prog_1_method_31_code 58 = .ok (.iload 5, 2) := by decide +kernel
theorem dd_PH_mayName_60 : decode prog_1_method_31_code 60 = .ok (.bipush 8, 2) := by decide +kernel
theorem dd_PH_mayName_62 : decode prog_1_method_31_code 62 = .ok (.if_icmp .eq 12, 3) := by decide +kernel
theorem dd_PH_mayName_65 : decode prog_1_method_31_code 65 = .ok (.aload_n 0, 1) := by decide +kernel
theorem dd_PH_mayName_66 : decode prog_1_method_31_code 66 = .ok (.iload 5, 2) := by decide +kernel
theorem dd_PH_mayName_68 : decode prog_1_method_31_code 68 = .ok (.invokevirtual 143, 3) := by decide +kernel
theorem dd_PH_mayName_71 : decode prog_1_method_31_code 71 = .ok (.ifCond .eq 7, 3) := by decide +kernel
theorem dd_PH_mayName_74 : decode prog_1_method_31_code 74 = .ok (.iconst 1, 1) := by decide +kernel
theorem dd_PH_mayName_75 : decode prog_1_method_31_code 75 = .ok (.goto 4, 3) := by decide +kernel
theorem dd_PH_mayName_78 : decode prog_1_method_31_code 78 = .ok (.iconst 0, 1) := by decide +kernel
theorem dd_PH_mayName_79 : decode prog_1_method_31_code 79 = .ok (.ireturn, 1) := by decide +kernel
theorem dd_Ob_setField_0 : decode prog_3_method_3_code 0 = .ok (.aload_n 0, 1) := by decide +kernel
theorem dd_Ob_setField_1 : decode prog_3_method_3_code 1 = .ok (.getfield 11, 3) := by decide +kernel
theorem dd_Ob_setField_4 : decode prog_3_method_3_code 4 = .ok (.iload_n 1, 1) := by decide +kernel
theorem dd_Ob_setField_5 : decode prog_3_method_3_code 5 = .ok (.aload_n 2, 1) := by decide +kernel
theorem dd_Ob_setField_6 : decode prog_3_method_3_code 6 = .ok (.aastore, 1) := by decide +kernel
theorem dd_Ob_setField_7 : decode prog_3_method_3_code 7 = .ok (.aload_n 0, 1) := by decide +kernel
theorem dd_Ob_setField_8 : decode prog_3_method_3_code 8 = .ok (.aload_n 2, 1) := by decide +kernel
theorem dd_Ob_setField_9 : decode prog_3_method_3_code 9 = .ok (.invokevirtual 38, 3) := by decide +kernel
theorem dd_Ob_setField_12 : decode prog_3_method_3_code 12 = .ok (.return_, 1) := by decide +kernel
theorem dd_PH_load_0 : decode prog_1_method_7_code 0 = .ok (.aload_n 0, 1) := by decide +kernel
theorem dd_PH_load_1 : decode prog_1_method_7_code 1 = .ok (.iload_n 1, 1) := by decide +kernel
theorem dd_PH_load_2 : decode prog_1_method_7_code 2 = .ok (.invokevirtual 61, 3) := by decide +kernel
theorem dd_PH_load_5 : decode prog_1_method_7_code 5 = .ok (.astore 5, 2) := by decide +kernel
theorem dd_PH_load_7 : decode prog_1_method_7_code 7 = .ok (.aload 5, 2) := by decide +kernel
theorem dd_PH_load_9 : decode prog_1_method_7_code 9 = .ok (.ifnull 25, 3) := by decide +kernel
theorem dd_PH_load_12 : decode prog_1_method_7_code 12 = .ok (.iload_n 2, 1) := by decide +kernel
theorem dd_PH_load_13 : decode prog_1_method_7_code 13 = .ok (.invokestatic 80, 3) := by decide +kernel
theorem dd_PH_load_16 : decode prog_1_method_7_code 16 = .ok (.ifCond .eq 18, 3) := by decide +kernel
theorem dd_PH_load_19 : decode prog_1_method_7_code 19 = .ok (.iload_n 3, 1) := by decide +kernel
theorem dd_PH_load_20 : decode prog_1_method_7_code 20 = .ok (.invokestatic 80, 3) := by decide +kernel
theorem dd_PH_load_23 : decode prog_1_method_7_code 23 = .ok (.ifCond .eq 11, 3) := by decide +kernel
theorem dd_PH_load_26 : decode prog_1_method_7_code 26 = .ok (.iload 4, 2) := by decide +kernel
theorem dd_PH_load_28 : decode prog_1_method_7_code 28 = .ok (.invokestatic 109, 3) := by decide +kernel
theorem dd_PH_load_31 : decode prog_1_method_7_code 31 = .ok (.ifCond .ne 5, 3) := by decide +kernel
theorem dd_PH_load_34 : decode prog_1_method_7_code 34 = .ok (.iconst (-1), 1) := by decide +kernel
theorem dd_PH_load_35 : decode prog_1_method_7_code 35 = .ok (.ireturn, 1) := by decide +kernel
theorem dd_PH_load_36 : decode prog_1_method_7_code 36 = .ok (.aload 5, 2) := by decide +kernel
theorem dd_PH_load_38 : decode prog_1_method_7_code 38 = .ok (.getfield 102, 3) := by decide +kernel
theorem dd_PH_load_41 : decode prog_1_method_7_code 41 = .ok (.iload_n 3, 1) := by decide +kernel
theorem dd_PH_load_42 : decode prog_1_method_7_code 42 = .ok (.aaload, 1) := by decide +kernel
theorem dd_PH_load_43 : decode prog_1_method_7_code 43 = .ok (.astore 6, 2) := by decide +kernel
theorem dd_PH_load_45 : decode prog_1_method_7_code 45 = .ok (.aload 6, 2) := by decide +kernel
theorem dd_PH_load_47 : decode prog_1_method_7_code 47 = .ok (.ifnonnull 6, 3) := by decide +kernel
theorem dd_PH_load_50 : decode prog_1_method_7_code 50 = .ok (.bipush (-2), 2) := by decide +kernel
theorem dd_PH_load_52 : decode prog_1_method_7_code 52 = .ok (.ireturn, 1) := by decide +kernel
theorem dd_PH_load_53 : decode prog_1_method_7_code 53 = .ok (.aload 6, 2) := by decide +kernel
theorem dd_PH_load_55 : decode prog_1_method_7_code 55 = .ok (.getfield 124, 3) := by decide +kernel
theorem dd_PH_load_58 : decode prog_1_method_7_code 58 = .ok (.iload 4, 2) := by decide +kernel
theorem dd_PH_load_60 : decode prog_1_method_7_code 60 = .ok (.aaload, 1) := by decide +kernel
theorem dd_PH_load_61 : decode prog_1_method_7_code 61 = .ok (.astore 7, 2) := by decide +kernel
theorem dd_PH_load_63 : decode prog_1_method_7_code 63 = .ok (.aload_n 0, 1) := by decide +kernel
theorem dd_PH_load_64 : decode prog_1_method_7_code 64 = .ok (.aload 5, 2) := by decide +kernel
theorem dd_PH_load_66 : decode prog_1_method_7_code 66 = .ok (.aload 7, 2) := by decide +kernel
theorem dd_PH_load_68 : decode prog_1_method_7_code 68 = .ok (.invokevirtual 127, 3) := by decide +kernel
theorem dd_PH_load_71 : decode prog_1_method_7_code 71 = .ok (.ifCond .ne 6, 3) := by decide +kernel
theorem dd_PH_load_74 : decode prog_1_method_7_code 74 = .ok (.bipush (-3), 2) := by decide +kernel
theorem dd_PH_load_76 : decode prog_1_method_7_code 76 = .ok (.ireturn, 1) := by decide +kernel
theorem dd_PH_load_77 : decode prog_1_method_7_code 77 = .ok (.aload 5, 2) := by decide +kernel
theorem dd_PH_load_79 : decode prog_1_method_7_code 79 = .ok (.getfield 102, 3) := by decide +kernel
theorem dd_PH_load_82 : decode prog_1_method_7_code 82 = .ok (.iload_n 2, 1) := by decide +kernel
theorem dd_PH_load_83 : decode prog_1_method_7_code 83 = .ok (.aload 7, 2) := by decide +kernel
theorem dd_PH_load_85 : decode prog_1_method_7_code 85 = .ok (.aastore, 1) := by decide +kernel
theorem dd_PH_load_86 : decode prog_1_method_7_code 86 = .ok (.iconst 0, 1) := by decide +kernel
theorem dd_PH_load_87 : decode prog_1_method_7_code 87 = .ok (.ireturn, 1) := by decide +kernel
theorem dd_PH_mayHold_0 : decode prog_1_method_32_code 0 = .ok (.aload_n 2, 1) := by decide +kernel
theorem dd_PH_mayHold_1 : decode prog_1_method_32_code 1 = .ok (.ifnonnull 5, 3) := by decide +kernel
theorem dd_PH_mayHold_4 : decode prog_1_method_32_code 4 = .ok (.iconst 1, 1) := by decide +kernel
theorem dd_PH_mayHold_5 : decode prog_1_method_32_code 5 = .ok (.ireturn, 1) := by decide +kernel
theorem dd_PH_mayHold_6 : decode prog_1_method_32_code 6 = .ok (.aload_n 2, 1) := by decide +kernel
theorem dd_PH_mayHold_7 : decode prog_1_method_32_code 7 = .ok (.invokevirtual 133, 3) := by decide +kernel
theorem dd_PH_mayHold_10 : decode prog_1_method_32_code 10 = .ok (.istore_n 3, 1) := by decide +kernel
theorem dd_PH_mayHold_11 : decode prog_1_method_32_code 11 = .ok (.iload_n 3, 1) := by decide +kernel
theorem dd_PH_mayHold_12 : decode prog_1_method_32_code 12 = .ok (.bipush 8, 2) := by decide +kernel
theorem dd_PH_mayHold_14 : decode prog_1_method_32_code 14 = .ok (.if_icmp .ge 17, 3) := by decide +kernel
theorem dd_PH_mayHold_17 : decode prog_1_method_32_code 17 = .ok (.iload_n 3, 1) := by decide +kernel
theorem dd_PH_mayHold_18 : decode prog_1_method_32_code 18 = .ok (.aload_n 1, 1) := by decide +kernel
theorem dd_PH_mayHold_19 : decode prog_1_method_32_code 19 = .ok (.getfield 192, 3) := by decide +kernel
theorem dd_PH_mayHold_22 : decode prog_1_method_32_code 22 = .ok (.if_icmp .ne 7, 3) := by decide +kernel
theorem dd_PH_mayHold_25 : decode prog_1_method_32_code 25 = .ok (.iconst 1, 1) := by decide +kernel
theorem dd_PH_mayHold_26 : decode prog_1_method_32_code 26 = .ok (.goto 4, 3) := by decide +kernel
theorem dd_PH_mayHold_29 : decode prog_1_method_32_code 29 = .ok (.iconst 0, 1) := by decide +kernel
theorem dd_PH_mayHold_30 : decode prog_1_method_32_code 30 = .ok (.ireturn, 1) := by decide +kernel
theorem dd_PH_mayHold_31 : decode prog_1_method_32_code 31 = .ok (.aload_n 0, 1) := by decide +kernel
theorem dd_PH_mayHold_32 : decode prog_1_method_32_code 32 = .ok (.iload_n 3, 1) := by decide +kernel
theorem dd_PH_mayHold_33 : decode prog_1_method_32_code 33 = .ok (.invokevirtual 143, 3) := by decide +kernel
theorem dd_PH_mayHold_36 : decode prog_1_method_32_code 36 = .ok (.ifCond .eq 11, 3) := by decide +kernel
theorem dd_PH_mayHold_39 : decode prog_1_method_32_code 39 = .ok (.aload_n 1, 1) := by decide +kernel
theorem dd_PH_mayHold_40 : decode prog_1_method_32_code 40 = .ok (.iload_n 3, 1) := by decide +kernel
theorem dd_PH_mayHold_41 : decode prog_1_method_32_code 41 = .ok (.invokevirtual 146, 3) := by decide +kernel
theorem dd_PH_mayHold_44 : decode prog_1_method_32_code 44 = .ok (.ifCond .eq 7, 3) := by decide +kernel
theorem dd_PH_mayHold_47 : decode prog_1_method_32_code 47 = .ok (.iconst 1, 1) := by decide +kernel
theorem dd_PH_mayHold_48 : decode prog_1_method_32_code 48 = .ok (.goto 4, 3) := by decide +kernel
theorem dd_PH_mayHold_51 : decode prog_1_method_32_code 51 = .ok (.iconst 0, 1) := by decide +kernel
theorem dd_PH_mayHold_52 : decode prog_1_method_32_code 52 = .ok (.ireturn, 1) := by decide +kernel
theorem dd_PH_move_0 : decode prog_1_method_8_code 0 = .ok (.aload_n 0, 1) := by decide +kernel
theorem dd_PH_move_1 : decode prog_1_method_8_code 1 = .ok (.iload_n 1, 1) := by decide +kernel
theorem dd_PH_move_2 : decode prog_1_method_8_code 2 = .ok (.invokevirtual 61, 3) := by decide +kernel
theorem dd_PH_move_5 : decode prog_1_method_8_code 5 = .ok (.astore 4, 2) := by decide +kernel
theorem dd_PH_move_7 : decode prog_1_method_8_code 7 = .ok (.aload 4, 2) := by decide +kernel
theorem dd_PH_move_9 : decode prog_1_method_8_code 9 = .ok (.ifnull 22, 3) := by decide +kernel
theorem dd_PH_move_12 : decode prog_1_method_8_code 12 = .ok (.iload_n 2, 1) := by decide +kernel
theorem dd_PH_move_13 : decode prog_1_method_8_code 13 = .ok (.invokestatic 80, 3) := by decide +kernel
theorem dd_PH_move_16 : decode prog_1_method_8_code 16 = .ok (.ifCond .eq 15, 3) := by decide +kernel
theorem dd_PH_move_19 : decode prog_1_method_8_code 19 = .ok (.iload_n 3, 1) := by decide +kernel
theorem dd_PH_move_20 : decode prog_1_method_8_code 20 = .ok (.iconst (-1), 1) := by decide +kernel
theorem dd_PH_move_21 : decode prog_1_method_8_code 21 = .ok (.if_icmp .eq 12, 3) := by decide +kernel
theorem dd_PH_move_24 : decode prog_1_method_8_code 24 = .ok (.iload_n 3, 1) := by decide +kernel
theorem dd_PH_move_25 : decode prog_1_method_8_code 25 = .ok (.invokestatic 80, 3) := by decide +kernel
theorem dd_PH_move_28 : decode prog_1_method_8_code 28 = .ok (.ifCond .ne 5, 3) := by decide +kernel
theorem dd_PH_move_31 : decode prog_1_method_8_code 31 = .ok (.iconst 0, 1) := by decide +kernel
theorem dd_PH_move_32 : decode prog_1_method_8_code 32 = .ok (.ireturn, 1) := by decide +kernel
theorem dd_PH_move_33 : decode prog_1_method_8_code 33 = .ok (.aload 4, 2) := by decide +kernel
theorem dd_PH_move_35 : decode prog_1_method_8_code 35 = .ok (.getfield 102, 3) := by decide +kernel
theorem dd_PH_move_38 : decode prog_1_method_8_code 38 = .ok (.iload_n 2, 1) := by decide +kernel
theorem dd_PH_move_39 : decode prog_1_method_8_code 39 = .ok (.iload_n 3, 1) := by decide +kernel
theorem dd_PH_move_40 : decode prog_1_method_8_code 40 = .ok (.iconst (-1), 1) := by decide +kernel
theorem dd_PH_move_41 : decode prog_1_method_8_code 41 = .ok (.if_icmp .ne 7, 3) := by decide +kernel
theorem dd_PH_move_44 : decode prog_1_method_8_code 44 = .ok (.aconst_null, 1) := by decide +kernel
theorem dd_PH_move_45 : decode prog_1_method_8_code 45 = .ok (.goto 10, 3) := by decide +kernel
theorem dd_PH_move_48 : decode prog_1_method_8_code 48 = .ok (.aload 4, 2) := by decide +kernel
theorem dd_PH_move_50 : decode prog_1_method_8_code 50 = .ok (.getfield 102, 3) := by decide +kernel
theorem dd_PH_move_53 : decode prog_1_method_8_code 53 = .ok (.iload_n 3, 1) := by decide +kernel
theorem dd_PH_move_54 : decode prog_1_method_8_code 54 = .ok (.aaload, 1) := by decide +kernel
theorem dd_PH_move_55 : decode prog_1_method_8_code 55 = .ok (.aastore, 1) := by decide +kernel
theorem dd_PH_move_56 : decode prog_1_method_8_code 56 = .ok (.iconst 1, 1) := by decide +kernel
theorem dd_PH_move_57 : decode prog_1_method_8_code 57 = .ok (.ireturn, 1) := by decide +kernel
theorem dd_PH_begin_0 : decode prog_1_method_9_code 0 = .ok (.aload_n 0, 1) := by decide +kernel
theorem dd_PH_begin_1 : decode prog_1_method_9_code 1 = .ok (.iload_n 1, 1) := by decide +kernel
theorem dd_PH_begin_2 : decode prog_1_method_9_code 2 = .ok (.invokevirtual 61, 3) := by decide +kernel
theorem dd_PH_begin_5 : decode prog_1_method_9_code 5 = .ok (.astore_n 2, 1) := by decide +kernel
theorem dd_PH_begin_6 : decode prog_1_method_9_code 6 = .ok (.aload_n 2, 1) := by decide +kernel
theorem dd_PH_begin_7 : decode prog_1_method_9_code 7 = .ok (.ifnull 11, 3) := by decide +kernel
theorem dd_PH_begin_10 : decode prog_1_method_9_code 10 = .ok (.aload_n 2, 1) := by decide +kernel
theorem dd_PH_begin_11 : decode prog_1_method_9_code 11 = .ok (.getfield 130, 3) := by decide +kernel
theorem dd_PH_begin_14 : decode prog_1_method_9_code 14 = .ok (.iconst (-1), 1) := by decide +kernel
theorem dd_PH_begin_15 : decode prog_1_method_9_code 15 = .ok (.if_icmp .eq 5, 3) := by decide +kernel
theorem dd_PH_begin_18 : decode prog_1_method_9_code 18 = .ok (.iconst (-1), 1) := by decide +kernel
theorem dd_PH_begin_19 : decode prog_1_method_9_code 19 = .ok (.ireturn, 1) := by decide +kernel
theorem dd_PH_begin_20 : decode prog_1_method_9_code 20 = .ok (.aload_n 0, 1) := by decide +kernel
theorem dd_PH_begin_21 : decode prog_1_method_9_code 21 = .ok (.getfield 46, 3) := by decide +kernel
theorem dd_PH_begin_24 : decode prog_1_method_9_code 24 = .ok (.bipush 13, 2) := by decide +kernel
theorem dd_PH_begin_26 : decode prog_1_method_9_code 26 = .ok (.if_icmp .lt 6, 3) := by decide +kernel
