/-! decode rows (by program) -/
theorem dd_PH_begin_29 : decode prog_1_method_9_code 29 = .ok (.bipush (-4), 2) := by decide +kernel
theorem dd_PH_begin_31 : decode prog_1_method_9_code 31 = .ok (.ireturn, 1) := by decide +kernel
theorem dd_PH_begin_32 : decode prog_1_method_9_code 32 = .ok (.aload_n 2, 1) := by decide +kernel
theorem dd_PH_begin_33 : decode prog_1_method_9_code 33 = .ok (.aload_n 0, 1) := by decide +kernel
theorem dd_PH_begin_34 : decode prog_1_method_9_code 34 = .ok (.getfield 46, 3) := by decide +kernel
theorem dd_PH_begin_37 : decode prog_1_method_9_code 37 = .ok (.putfield 130, 3) := by decide +kernel
theorem dd_PH_begin_40 : decode prog_1_method_9_code 40 = .ok (.aload_n 0, 1) := by decide +kernel
theorem dd_PH_begin_41 : decode prog_1_method_9_code 41 = .ok (.dup, 1) := by decide +kernel
theorem dd_PH_begin_42 : decode prog_1_method_9_code 42 = .ok (.getfield 46, 3) := by decide +kernel
theorem dd_PH_begin_45 : decode prog_1_method_9_code 45 = .ok (.iconst 1, 1) := by decide +kernel
theorem dd_PH_begin_46 : decode prog_1_method_9_code 46 = .ok (.iadd, 1) := by decide +kernel
theorem dd_PH_begin_47 : decode prog_1_method_9_code 47 = .ok (.putfield 46, 3) := by decide +kernel
theorem dd_PH_begin_50 : decode prog_1_method_9_code 50 = .ok (.aload_n 2, 1) := by decide +kernel
theorem dd_PH_begin_51 : decode prog_1_method_9_code 51 = .ok (.getfield 130, 3) := by decide +kernel
theorem dd_PH_begin_54 : decode prog_1_method_9_code 54 = .ok (.ireturn, 1) := by decide +kernel
theorem dd_PH_freeze_0 : decode prog_1_method_10_code 0 = .ok (.aload_n 0, 1) := by decide +kernel
theorem dd_PH_freeze_1 : decode prog_1_method_10_code 1 = .ok (.iload_n 1, 1) := by decide +kernel
theorem dd_PH_freeze_2 : decode prog_1_method_10_code 2 = .ok (.invokevirtual 61, 3) := by decide +kernel
theorem dd_PH_freeze_5 : decode prog_1_method_10_code 5 = .ok (.astore_n 3, 1) := by decide +kernel
theorem dd_PH_freeze_6 : decode prog_1_method_10_code 6 = .ok (.aload_n 3, 1) := by decide +kernel
theorem dd_PH_freeze_7 : decode prog_1_method_10_code 7 = .ok (.ifnull 18, 3) := by decide +kernel
theorem dd_PH_freeze_10 : decode prog_1_method_10_code 10 = .ok (.iload_n 2, 1) := by decide +kernel
theorem dd_PH_freeze_11 : decode prog_1_method_10_code 11 = .ok (.invokestatic 80, 3) := by decide +kernel
theorem dd_PH_freeze_14 : decode prog_1_method_10_code 14 = .ok (.ifCond .eq 11, 3) := by decide +kernel
theorem dd_PH_freeze_17 : decode prog_1_method_10_code 17 = .ok (.aload_n 3, 1) := by decide +kernel
theorem dd_PH_freeze_18 : decode prog_1_method_10_code 18 = .ok (.getfield 130, 3) := by decide +kernel
theorem dd_PH_freeze_21 : decode prog_1_method_10_code 21 = .ok (.iconst (-1), 1) := by decide +kernel
theorem dd_PH_freeze_22 : decode prog_1_method_10_code 22 = .ok (.if_icmp .ne 5, 3) := by decide +kernel
theorem dd_PH_freeze_25 : decode prog_1_method_10_code 25 = .ok (.iconst (-1), 1) := by decide +kernel
theorem dd_PH_freeze_26 : decode prog_1_method_10_code 26 = .ok (.ireturn, 1) := by decide +kernel
theorem dd_PH_freeze_27 : decode prog_1_method_10_code 27 = .ok (.aload_n 3, 1) := by decide +kernel
theorem dd_PH_freeze_28 : decode prog_1_method_10_code 28 = .ok (.getfield 130, 3) := by decide +kernel
theorem dd_PH_freeze_31 : decode prog_1_method_10_code 31 = .ok (.istore 4, 2) := by decide +kernel
theorem dd_PH_freeze_33 : decode prog_1_method_10_code 33 = .ok (.aload_n 3, 1) := by decide +kernel
theorem dd_PH_freeze_34 : decode prog_1_method_10_code 34 = .ok (.getfield 102, 3) := by decide +kernel
theorem dd_PH_freeze_37 : decode prog_1_method_10_code 37 = .ok (.iload_n 2, 1) := by decide +kernel
theorem dd_PH_freeze_38 : decode prog_1_method_10_code 38 = .ok (.aaload, 1) := by decide +kernel
theorem dd_PH_freeze_39 : decode prog_1_method_10_code 39 = .ok (.astore 5, 2) := by decide +kernel
theorem dd_PH_freeze_41 : decode prog_1_method_10_code 41 = .ok (.aload 5, 2) := by decide +kernel
theorem dd_PH_freeze_43 : decode prog_1_method_10_code 43 = .ok (.ifnull 13, 3) := by decide +kernel
theorem dd_PH_freeze_46 : decode prog_1_method_10_code 46 = .ok (.aload 5, 2) := by decide +kernel
theorem dd_PH_freeze_48 : decode prog_1_method_10_code 48 = .ok (.invokevirtual 133, 3) := by decide +kernel
theorem dd_PH_freeze_51 : decode prog_1_method_10_code 51 = .ok (.iload 4, 2) := by decide +kernel
theorem dd_PH_freeze_53 : decode prog_1_method_10_code 53 = .ok (.if_icmp .eq 5, 3) := by decide +kernel
theorem dd_PH_freeze_56 : decode prog_1_method_10_code 56 = .ok (.iconst (-1), 1) := by decide +kernel
theorem dd_PH_freeze_57 : decode prog_1_method_10_code 57 = .ok (.ireturn, 1) := by decide +kernel
theorem dd_PH_freeze_58 : decode prog_1_method_10_code 58 = .ok (.aload_n 0, 1) := by decide +kernel
theorem dd_PH_freeze_59 : decode prog_1_method_10_code 59 = .ok (.getfield 38, 3) := by decide +kernel
theorem dd_PH_freeze_62 : decode prog_1_method_10_code 62 = .ok (.iload 4, 2) := by decide +kernel
theorem dd_PH_freeze_64 : decode prog_1_method_10_code 64 = .ok (.aload 5, 2) := by decide +kernel
theorem dd_PH_freeze_66 : decode prog_1_method_10_code 66 = .ok (.aastore, 1) := by decide +kernel
theorem dd_PH_freeze_67 : decode prog_1_method_10_code 67 = .ok (.aload_n 3, 1) := by decide +kernel
theorem dd_PH_freeze_68 : decode prog_1_method_10_code 68 = .ok (.iconst (-1), 1) := by decide +kernel
theorem dd_PH_freeze_69 : decode prog_1_method_10_code 69 = .ok (.putfield 130, 3) := by decide +kernel
theorem dd_PH_freeze_72 : decode prog_1_method_10_code 72 = .ok (.aload_n 0, 1) := by decide +kernel
theorem dd_PH_freeze_73 : decode prog_1_method_10_code 73 = .ok (.getfield 10, 3) := by decide +kernel
theorem dd_PH_freeze_76 : decode prog_1_method_10_code 76 = .ok (.iload 4, 2) := by decide +kernel
theorem dd_PH_freeze_78 : decode prog_1_method_10_code 78 = .ok (.invokevirtual 136, 3) := by decide +kernel
theorem dd_PH_freeze_81 : decode prog_1_method_10_code 81 = .ok (.aload_n 3, 1) := by decide +kernel
theorem dd_PH_freeze_82 : decode prog_1_method_10_code 82 = .ok (.iload 4, 2) := by decide +kernel
theorem dd_PH_freeze_84 : decode prog_1_method_10_code 84 = .ok (.invokevirtual 140, 3) := by decide +kernel
theorem dd_PH_freeze_87 : decode prog_1_method_10_code 87 = .ok (.iload 4, 2) := by decide +kernel
theorem dd_PH_freeze_89 : decode prog_1_method_10_code 89 = .ok (.ireturn, 1) := by decide +kernel
theorem dd_Me_endSinglePayment_0 : decode prog_6_method_12_code 0 = .ok (.iconst 0, 1) := by decide +kernel
theorem dd_Me_endSinglePayment_1 : decode prog_6_method_12_code 1 = .ok (.istore_n 2, 1) := by decide +kernel
theorem dd_Me_endSinglePayment_2 : decode prog_6_method_12_code 2 = .ok (.iload_n 2, 1) := by decide +kernel
theorem dd_Me_endSinglePayment_3 : decode prog_6_method_12_code 3 = .ok (.aload_n 0, 1) := by decide +kernel
theorem dd_Me_endSinglePayment_4 : decode prog_6_method_12_code 4 = .ok (.getfield 12, 3) := by decide +kernel
theorem dd_Me_endSinglePayment_7 : decode prog_6_method_12_code 7 = .ok (.invokevirtual 21, 3) := by decide +kernel
theorem dd_Me_endSinglePayment_10 : decode prog_6_method_12_code 10 = .ok (.if_icmp .ge 34, 3) := by decide +kernel
theorem dd_Me_endSinglePayment_13 : decode prog_6_method_12_code 13 = .ok (.aload_n 0, 1) := by decide +kernel
theorem dd_Me_endSinglePayment_14 : decode prog_6_method_12_code 14 = .ok (.getfield 12, 3) := by decide +kernel
theorem dd_Me_endSinglePayment_17 : decode prog_6_method_12_code 17 = .ok (.iload_n 2, 1) := by decide +kernel
theorem dd_Me_endSinglePayment_18 : decode prog_6_method_12_code 18 = .ok (.invokevirtual 25, 3) := by decide +kernel
theorem dd_Me_endSinglePayment_21 : decode prog_6_method_12_code 21 = .ok (.checkcast 29, 3) := by decide +kernel
theorem dd_Me_endSinglePayment_24 : decode prog_6_method_12_code 24 = .ok (.astore_n 3, 1) := by decide +kernel
theorem dd_Me_endSinglePayment_25 : decode prog_6_method_12_code 25 = .ok (.aload_n 3, 1) := by decide +kernel
theorem dd_Me_endSinglePayment_26 : decode prog_6_method_12_code 26 = .ok (.getfield 31, 3) := by decide +kernel
theorem dd_Me_endSinglePayment_29 : decode prog_6_method_12_code 29 = .ok (.iload_n 1, 1) := by decide +kernel
theorem dd_Me_endSinglePayment_30 : decode prog_6_method_12_code 30 = .ok (.if_icmp .ne 8, 3) := by decide +kernel
theorem dd_Me_endSinglePayment_33 : decode prog_6_method_12_code 33 = .ok (.aload_n 3, 1) := by decide +kernel
theorem dd_Me_endSinglePayment_34 : decode prog_6_method_12_code 34 = .ok (.iconst (-1), 1) := by decide +kernel
theorem dd_Me_endSinglePayment_35 : decode prog_6_method_12_code 35 = .ok (.putfield 35, 3) := by decide +kernel
theorem dd_Me_endSinglePayment_38 : decode prog_6_method_12_code 38 = .ok (.iinc 2 1, 3) := by decide +kernel
theorem dd_Me_endSinglePayment_41 : decode prog_6_method_12_code 41 = .ok (.goto (-39), 3) := by decide +kernel
theorem dd_Me_endSinglePayment_44 : decode prog_6_method_12_code 44 = .ok (.return_, 1) := by decide +kernel
theorem dd_Pr_addCharge_0 : decode prog_4_method_5_code 0 = .ok (.aload_n 0, 1) := by decide +kernel
theorem dd_Pr_addCharge_1 : decode prog_4_method_5_code 1 = .ok (.dup, 1) := by decide +kernel
theorem dd_Pr_addCharge_2 : decode prog_4_method_5_code 2 = .ok (.getfield 24, 3) := by decide +kernel
theorem dd_Pr_addCharge_5 : decode prog_4_method_5_code 5 = .ok (.iconst 1, 1) := by decide +kernel
theorem dd_Pr_addCharge_6 : decode prog_4_method_5_code 6 = .ok (.iload_n 1, 1) := by decide +kernel
theorem dd_Pr_addCharge_7 : decode prog_4_method_5_code 7 = .ok (.ishl, 1) := by decide +kernel
theorem dd_Pr_addCharge_8 : decode prog_4_method_5_code 8 = .ok (.ior, 1) := by decide +kernel
theorem dd_Pr_addCharge_9 : decode prog_4_method_5_code 9 = .ok (.putfield 24, 3) := by decide +kernel
theorem dd_Pr_addCharge_12 : decode prog_4_method_5_code 12 = .ok (.return_, 1) := by decide +kernel
theorem dd_PH_lookup_0 : decode prog_1_method_11_code 0 = .ok (.aload_n 0, 1) := by decide +kernel
theorem dd_PH_lookup_1 : decode prog_1_method_11_code 1 = .ok (.iload_n 1, 1) := by decide +kernel
theorem dd_PH_lookup_2 : decode prog_1_method_11_code 2 = .ok (.invokevirtual 61, 3) := by decide +kernel
theorem dd_PH_lookup_5 : decode prog_1_method_11_code 5 = .ok (.astore 4, 2) := by decide +kernel
theorem dd_PH_lookup_7 : decode prog_1_method_11_code 7 = .ok (.aload 4, 2) := by decide +kernel
theorem dd_PH_lookup_9 : decode prog_1_method_11_code 9 = .ok (.ifnull 18, 3) := by decide +kernel
theorem dd_PH_lookup_12 : decode prog_1_method_11_code 12 = .ok (.iload_n 3, 1) := by decide +kernel
theorem dd_PH_lookup_13 : decode prog_1_method_11_code 13 = .ok (.invokestatic 80, 3) := by decide +kernel
theorem dd_PH_lookup_16 : decode prog_1_method_11_code 16 = .ok (.ifCond .eq 11, 3) := by decide +kernel
theorem dd_PH_lookup_19 : decode prog_1_method_11_code 19 = .ok (.aload_n 0, 1) := by decide +kernel
theorem dd_PH_lookup_20 : decode prog_1_method_11_code 20 = .ok (.iload_n 2, 1) := by decide +kernel
theorem dd_PH_lookup_21 : decode prog_1_method_11_code 21 = .ok (.invokevirtual 143, 3) := by decide +kernel
theorem dd_PH_lookup_24 : decode prog_1_method_11_code 24 = .ok (.ifCond .ne 5, 3) := by decide +kernel
theorem dd_PH_lookup_27 : decode prog_1_method_11_code 27 = .ok (.iconst (-1), 1) := by decide +kernel
theorem dd_PH_lookup_28 : decode prog_1_method_11_code 28 = .ok (.ireturn, 1) := by decide +kernel
theorem dd_PH_lookup_29 : decode prog_1_method_11_code 29 = .ok (.aload 4, 2) := by decide +kernel
theorem dd_PH_lookup_31 : decode prog_1_method_11_code 31 = .ok (.iload_n 2, 1) := by decide +kernel
theorem dd_PH_lookup_32 : decode prog_1_method_11_code 32 = .ok (.invokevirtual 146, 3) := by decide +kernel
theorem dd_PH_lookup_35 : decode prog_1_method_11_code 35 = .ok (.ifCond .ne 48, 3) := by decide +kernel
theorem dd_PH_lookup_38 : decode prog_1_method_11_code 38 = .ok (.aload_n 0, 1) := by decide +kernel
theorem dd_PH_lookup_39 : decode prog_1_method_11_code 39 = .ok (.getfield 10, 3) := by decide +kernel
theorem dd_PH_lookup_42 : decode prog_1_method_11_code 42 = .ok (.iload_n 2, 1) := by decide +kernel
theorem dd_PH_lookup_43 : decode prog_1_method_11_code 43 = .ok (.invokevirtual 149, 3) := by decide +kernel
theorem dd_PH_lookup_46 : decode prog_1_method_11_code 46 = .ok (.istore 5, 2) := by decide +kernel
theorem dd_PH_lookup_48 : decode prog_1_method_11_code 48 = .ok (.aload_n 0, 1) := by decide +kernel
theorem dd_PH_lookup_49 : decode prog_1_method_11_code 49 = .ok (.iload_n 1, 1) := by decide +kernel
theorem dd_PH_lookup_50 : decode prog_1_method_11_code 50 = .ok (.iload 5, 2) := by decide +kernel
theorem dd_PH_lookup_52 : decode prog_1_method_11_code 52 = .ok (.invokevirtual 65, 3) := by decide +kernel
theorem dd_PH_lookup_55 : decode prog_1_method_11_code 55 = .ok (.ifCond .ne 9, 3) := by decide +kernel
theorem dd_PH_lookup_58 : decode prog_1_method_11_code 58 = .ok (.aload_n 0, 1) := by decide +kernel
theorem dd_PH_lookup_59 : decode prog_1_method_11_code 59 = .ok (.iload_n 1, 1) := by decide +kernel
theorem dd_PH_lookup_60 : decode prog_1_method_11_code 60 = .ok (.invokevirtual 98, 3) := by decide +kernel
theorem dd_PH_lookup_63 : decode prog_1_method_11_code 63 = .ok (.pop, 1) := by decide +kernel
theorem dd_PH_lookup_64 : decode prog_1_method_11_code 64 = .ok (.aload_n 0, 1) := by decide +kernel
theorem dd_PH_lookup_65 : decode prog_1_method_11_code 65 = .ok (.iload_n 1, 1) := by decide +kernel
theorem dd_PH_lookup_66 : decode prog_1_method_11_code 66 = .ok (.iload 5, 2) := by decide +kernel
theorem dd_PH_lookup_68 : decode prog_1_method_11_code 68 = .ok (.invokevirtual 65, 3) := by decide +kernel
theorem dd_PH_lookup_71 : decode prog_1_method_11_code 71 = .ok (.ifCond .ne 6, 3) := by decide +kernel
theorem dd_PH_lookup_74 : decode prog_1_method_11_code 74 = .ok (.bipush (-5), 2) := by decide +kernel
theorem dd_PH_lookup_76 : decode prog_1_method_11_code 76 = .ok (.ireturn, 1) := by decide +kernel
theorem dd_PH_lookup_77 : decode prog_1_method_11_code 77 = .ok (.aload 4, 2) := by decide +kernel
theorem dd_PH_lookup_79 : decode prog_1_method_11_code 79 = .ok (.iload_n 2, 1) := by decide +kernel
theorem dd_PH_lookup_80 : decode prog_1_method_11_code 80 = .ok (.invokevirtual 140, 3) := by decide +kernel
theorem dd_PH_lookup_83 : decode prog_1_method_11_code 83 = .ok (.aload 4, 2) := by decide +kernel
theorem dd_PH_lookup_85 : decode prog_1_method_11_code 85 = .ok (.getfield 102, 3) := by decide +kernel
theorem dd_PH_lookup_88 : decode prog_1_method_11_code 88 = .ok (.iload_n 3, 1) := by decide +kernel
theorem dd_PH_lookup_89 : decode prog_1_method_11_code 89 = .ok (.aload_n 0, 1) := by decide +kernel
theorem dd_PH_lookup_90 : decode prog_1_method_11_code 90 = .ok (.getfield 38, 3) := by decide +kernel
theorem dd_PH_lookup_93 : decode prog_1_method_11_code 93 = .ok (.iload_n 2, 1) := by decide +kernel
theorem dd_PH_lookup_94 : decode prog_1_method_11_code 94 = .ok (.aaload, 1) := by decide +kernel
theorem dd_PH_lookup_95 : decode prog_1_method_11_code 95 = .ok (.aastore, 1) := by decide +kernel
theorem dd_PH_lookup_96 : decode prog_1_method_11_code 96 = .ok (.iconst 0, 1) := by decide +kernel
theorem dd_PH_lookup_97 : decode prog_1_method_11_code 97 = .ok (.ireturn, 1) := by decide +kernel
theorem dd_Me_countPages_0 : decode prog_6_method_2_code 0 = .ok (.iconst 0, 1) := by decide +kernel
theorem dd_Me_countPages_1 : decode prog_6_method_2_code 1 = .ok (.istore_n 2, 1) := by decide +kernel
theorem dd_Me_countPages_2 : decode prog_6_method_2_code 2 = .ok (.iconst 0, 1) := by decide +kernel
theorem dd_Me_countPages_3 : decode prog_6_method_2_code 3 = .ok (.istore_n 3, 1) := by decide +kernel
theorem dd_Me_countPages_4 : decode prog_6_method_2_code 4 = .ok (.iload_n 3, 1) := by decide +kernel
theorem dd_Me_countPages_5 : decode prog_6_method_2_code 5 = .ok (.aload_n 0, 1) := by decide +kernel
theorem dd_Me_countPages_6 : decode prog_6_method_2_code 6 = .ok (.getfield 12, 3) := by decide +kernel
theorem dd_Me_countPages_9 : decode prog_6_method_2_code 9 = .ok (.invokevirtual 21, 3) := by decide +kernel
theorem dd_Me_countPages_12 : decode prog_6_method_2_code 12 = .ok (.if_icmp .ge 30, 3) := by decide +kernel
theorem dd_Me_countPages_15 : decode prog_6_method_2_code 15 = .ok (.aload_n 0, 1) := by decide +kernel
theorem dd_Me_countPages_16 : decode prog_6_method_2_code 16 = .ok (.getfield 12, 3) := by decide +kernel
theorem dd_Me_countPages_19 : decode prog_6_method_2_code 19 = .ok (.iload_n 3, 1) := by decide +kernel
theorem dd_Me_countPages_20 : decode prog_6_method_2_code 20 = .ok (.invokevirtual 25, 3) := by decide +kernel
theorem dd_Me_countPages_23 : decode prog_6_method_2_code 23 = .ok (.checkcast 29, 3) := by decide +kernel
theorem dd_Me_countPages_26 : decode prog_6_method_2_code 26 = .ok (.getfield 31, 3) := by decide +kernel
theorem dd_Me_countPages_29 : decode prog_6_method_2_code 29 = .ok (.iload_n 1, 1) := by decide +kernel
theorem dd_Me_countPages_30 : decode prog_6_method_2_code 30 = .ok (.if_icmp .ne 6, 3) := by decide +kernel
theorem dd_Me_countPages_33 : decode prog_6_method_2_code 33 = .ok (.iinc 2 1, 3) := by decide +kernel
theorem dd_Me_countPages_36 : decode prog_6_method_2_code 36 = .ok (.iinc 3 1, 3) := by decide +kernel
theorem dd_Me_countPages_39 : decode prog_6_method_2_code 39 = .ok (.goto (-35), 3) := by decide +kernel
theorem dd_Me_countPages_42 : decode prog_6_method_2_code 42 = .ok (.iload_n 2, 1) := by decide +kernel
theorem dd_Me_countPages_43 : decode prog_6_method_2_code 43 = .ok (.ireturn, 1) := by decide +kernel
theorem dd_PH_collect_0 : decode prog_1_method_12_code 0 = .ok (.iload_n 1, 1) := by decide +kernel
theorem dd_PH_collect_1 : decode prog_1_method_12_code 1 = .ok (.bipush 8, 2) := by decide +kernel
theorem dd_PH_collect_3 : decode prog_1_method_12_code 3 = .ok (.if_icmp .eq 13, 3) := by decide +kernel
theorem dd_PH_collect_6 : decode prog_1_method_12_code 6 = .ok (.aload_n 0, 1) := by decide +kernel
theorem dd_PH_collect_7 : decode prog_1_method_12_code 7 = .ok (.iload_n 1, 1) := by decide +kernel
theorem dd_PH_collect_8 : decode prog_1_method_12_code 8 = .ok (.invokevirtual 61, 3) := by decide +kernel
theorem dd_PH_collect_11 : decode prog_1_method_12_code 11 = .ok (.ifnonnull 5, 3) := by decide +kernel
theorem dd_PH_collect_14 : decode prog_1_method_12_code 14 = .ok (.iconst (-1), 1) := by decide +kernel
theorem dd_PH_collect_15 : decode prog_1_method_12_code 15 = .ok (.ireturn, 1) := by decide +kernel
theorem dd_PH_collect_16 : decode prog_1_method_12_code 16 = .ok (.aload_n 0, 1) := by decide +kernel
theorem dd_PH_collect_17 : decode prog_1_method_12_code 17 = .ok (.iload_n 1, 1) := by decide +kernel
theorem dd_PH_collect_18 : decode prog_1_method_12_code 18 = .ok (.invokevirtual 98, 3) := by decide +kernel
theorem dd_PH_collect_21 : decode prog_1_method_12_code 21 = .ok (.ireturn, 1) := by decide +kernel
theorem dd_PH_state_0 : decode prog_1_method_13_code 0 = .ok (.aload_n 0, 1) := by decide +kernel
theorem dd_PH_state_1 : decode prog_1_method_13_code 1 = .ok (.iload_n 1, 1) := by decide +kernel
theorem dd_PH_state_2 : decode prog_1_method_13_code 2 = .ok (.invokevirtual 152, 3) := by decide +kernel
theorem dd_PH_state_5 : decode prog_1_method_13_code 5 = .ok (.ifCond .eq 15, 3) := by decide +kernel
theorem dd_PH_state_8 : decode prog_1_method_13_code 8 = .ok (.aload_n 0, 1) := by decide +kernel
theorem dd_PH_state_9 : decode prog_1_method_13_code 9 = .ok (.getfield 32, 3) := by decide +kernel
theorem dd_PH_state_12 : decode prog_1_method_13_code 12 = .ok (.iload_n 1, 1) := by decide +kernel
theorem dd_PH_state_13 : decode prog_1_method_13_code 13 = .ok (.aaload, 1) := by decide +kernel
theorem dd_PH_state_14 : decode prog_1_method_13_code 14 = .ok (.getfield 69, 3) := by decide +kernel
theorem dd_PH_state_17 : decode prog_1_method_13_code 17 = .ok (.goto 4, 3) := by decide +kernel
theorem dd_PH_state_20 : decode prog_1_method_13_code 20 = .ok (.iconst 0, 1) := by decide +kernel
theorem dd_PH_state_21 : decode prog_1_method_13_code 21 = .ok (.ireturn, 1) := by decide +kernel
theorem dd_PH_pages_0 : decode prog_1_method_14_code 0 = .ok (.aload_n 0, 1) := by decide +kernel
theorem dd_PH_pages_1 : decode prog_1_method_14_code 1 = .ok (.getfield 10, 3) := by decide +kernel
theorem dd_PH_pages_4 : decode prog_1_method_14_code 4 = .ok (.iload_n 1, 1) := by decide +kernel
theorem dd_PH_pages_5 : decode prog_1_method_14_code 5 = .ok (.invokevirtual 149, 3) := by decide +kernel
theorem dd_PH_pages_8 : decode prog_1_method_14_code 8 = .ok (.ireturn, 1) := by decide +kernel
theorem dd_PH_objects_0 : decode prog_1_method_15_code 0 = .ok (.aload_n 0, 1) := by decide +kernel
theorem dd_PH_objects_1 : decode prog_1_method_15_code 1 = .ok (.getfield 10, 3) := by decide +kernel
theorem dd_PH_objects_4 : decode prog_1_method_15_code 4 = .ok (.iload_n 1, 1) := by decide +kernel
theorem dd_PH_objects_5 : decode prog_1_method_15_code 5 = .ok (.invokevirtual 155, 3) := by decide +kernel
theorem dd_PH_objects_8 : decode prog_1_method_15_code 8 = .ok (.ireturn, 1) := by decide +kernel
theorem dd_Me_countObjects_0 : decode prog_6_method_4_code 0 = .ok (.iconst 0, 1) := by decide +kernel
theorem dd_Me_countObjects_1 : decode prog_6_method_4_code 1 = .ok (.istore_n 2, 1) := by decide +kernel
theorem dd_Me_countObjects_2 : decode prog_6_method_4_code 2 = .ok (.iconst 0, 1) := by decide +kernel
theorem dd_Me_countObjects_3 : decode prog_6_method_4_code 3 = .ok (.istore_n 3, 1) := by decide +kernel
theorem dd_Me_countObjects_4 : decode prog_6_method_4_code 4 = .ok (.iload_n 3, 1) := by decide +kernel
theorem dd_Me_countObjects_5 : decode prog_6_method_4_code 5 = .ok (.aload_n 0, 1) := by decide +kernel
theorem dd_Me_countObjects_6 : decode prog_6_method_4_code 6 = .ok (.getfield 18, 3) := by decide +kernel
theorem dd_Me_countObjects_9 : decode prog_6_method_4_code 9 = .ok (.invokevirtual 21, 3) := by decide +kernel
theorem dd_Me_countObjects_12 : decode prog_6_method_4_code 12 = .ok (.if_icmp .ge 30, 3) := by decide +kernel
theorem dd_Me_countObjects_15 : decode prog_6_method_4_code 15 = .ok (.aload_n 0, 1) := by decide +kernel
theorem dd_Me_countObjects_16 : decode prog_6_method_4_code 16 = .ok (.getfield 18, 3) := by decide +kernel
theorem dd_Me_countObjects_19 : decode prog_6_method_4_code 19 = .ok (.iload_n 3, 1) := by decide +kernel
theorem dd_Me_countObjects_20 : decode prog_6_method_4_code 20 = .ok (.invokevirtual 25, 3) := by decide +kernel
theorem dd_Me_countObjects_23 : decode prog_6_method_4_code 23 = .ok (.checkcast 47, 3) := by decide +kernel
theorem dd_Me_countObjects_26 : decode prog_6_method_4_code 26 = .ok (.invokevirtual 49, 3) := by decide +kernel
theorem dd_Me_countObjects_29 : decode prog_6_method_4_code 29 = .ok (.iload_n 1, 1) := by decide +kernel
theorem dd_Me_countObjects_30 : decode prog_6_method_4_code 30 = .ok (.if_icmp .ne 6, 3) := by decide +kernel
theorem dd_Me_countObjects_33 : decode prog_6_method_4_code 33 = .ok (.iinc 2 1, 3) := by decide +kernel
theorem dd_Me_countObjects_36 : decode prog_6_method_4_code 36 = .ok (.iinc 3 1, 3) := by decide +kernel
theorem dd_Me_countObjects_39 : decode prog_6_method_4_code 39 = .ok (.goto (-35), 3) := by decide +kernel
theorem dd_Me_countObjects_42 : decode prog_6_method_4_code 42 = .ok (.iload_n 2, 1) := by decide +kernel
theorem dd_Me_countObjects_43 : decode prog_6_method_4_code 43 = .ok (.ireturn, 1) := by decide +kernel
theorem dd_PH_items_0 : decode prog_1_method_16_code 0 = .ok (.iload_n 1, 1) := by decide +kernel
theorem dd_PH_items_1 : decode prog_1_method_16_code 1 = .ok (.invokestatic 158, 3) := by decide +kernel
theorem dd_PH_items_4 : decode prog_1_method_16_code 4 = .ok (.ifCond .eq 14, 3) := by decide +kernel
theorem dd_PH_items_7 : decode prog_1_method_16_code 7 = .ok (.aload_n 0, 1) := by decide +kernel
theorem dd_PH_items_8 : decode prog_1_method_16_code 8 = .ok (.getfield 10, 3) := by decide +kernel
theorem dd_PH_items_11 : decode prog_1_method_16_code 11 = .ok (.iload_n 1, 1) := by decide +kernel
theorem dd_PH_items_12 : decode prog_1_method_16_code 12 = .ok (.invokevirtual 161, 3) := by decide +kernel
theorem dd_PH_items_15 : decode prog_1_method_16_code 15 = .ok (.goto 4, 3) := by decide +kernel
theorem dd_PH_items_18 : decode prog_1_method_16_code 18 = .ok (.iconst 0, 1) := by decide +kernel
theorem dd_PH_items_19 : decode prog_1_method_16_code 19 = .ok (.ireturn, 1) := by decide +kernel
theorem dd_Me_countItems_0 : decode prog_6_method_5_code 0 = .ok (.iconst 0, 1) := by decide +kernel
theorem dd_Me_countItems_1 : decode prog_6_method_5_code 1 = .ok (.istore_n 2, 1) := by decide +kernel
theorem dd_Me_countItems_2 : decode prog_6_method_5_code 2 = .ok (.iconst 0, 1) := by decide +kernel
theorem dd_Me_countItems_3 : decode prog_6_method_5_code 3 = .ok (.istore_n 3, 1) := by decide +kernel
theorem dd_Me_countItems_4 : decode prog_6_method_5_code 4 = .ok (.iload_n 3, 1) := by decide +kernel
theorem dd_Me_countItems_5 : decode prog_6_method_5_code 5 = .ok (.aload_n 0, 1) := by decide +kernel
theorem dd_Me_countItems_6 : decode prog_6_method_5_code 6 = .ok (.getfield 18, 3) := by decide +kernel
theorem dd_Me_countItems_9 : decode prog_6_method_5_code 9 = .ok (.invokevirtual 21, 3) := by decide +kernel
theorem dd_Me_countItems_12 : decode prog_6_method_5_code 12 = .ok (.if_icmp .ge 30, 3) := by decide +kernel
theorem dd_Me_countItems_15 : decode prog_6_method_5_code 15 = .ok (.aload_n 0, 1) := by decide +kernel
theorem dd_Me_countItems_16 : decode prog_6_method_5_code 16 = .ok (.getfield 18, 3) := by decide +kernel
theorem dd_Me_countItems_19 : decode prog_6_method_5_code 19 = .ok (.iload_n 3, 1) := by decide +kernel
theorem dd_Me_countItems_20 : decode prog_6_method_5_code 20 = .ok (.invokevirtual 25, 3) := by decide +kernel
theorem dd_Me_countItems_23 : decode prog_6_method_5_code 23 = .ok (.checkcast 47, 3) := by decide +kernel
theorem dd_Me_countItems_26 : decode prog_6_method_5_code 26 = .ok (.iload_n 1, 1) := by decide +kernel
theorem dd_Me_countItems_27 : decode prog_6_method_5_code 27 = .ok (.invokevirtual 52, 3) := by decide +kernel
theorem dd_Me_countItems_30 : decode prog_6_method_5_code 30 = .ok (.ifCond .eq 6, 3) := by decide +kernel
theorem dd_Me_countItems_33 : decode prog_6_method_5_code 33 = .ok (.iinc 2 1, 3) := by decide +kernel
theorem dd_Me_countItems_36 : decode prog_6_method_5_code 36 = .ok (.iinc 3 1, 3) := by decide +kernel
theorem dd_Me_countItems_39 : decode prog_6_method_5_code 39 = .ok (.goto (-35), 3) := by decide +kernel
theorem dd_Me_countItems_42 : decode prog_6_method_5_code 42 = .ok (.iload_n 2, 1) := by decide +kernel
theorem dd_Me_countItems_43 : decode prog_6_method_5_code 43 = .ok (.ireturn, 1) := by decide +kernel
theorem dd_PH_use_0 : decode prog_1_method_17_code 0 = .ok (.aload_n 0, 1) := by decide +kernel
theorem dd_PH_use_1 : decode prog_1_method_17_code 1 = .ok (.getfield 26, 3) := by decide +kernel
theorem dd_PH_use_4 : decode prog_1_method_17_code 4 = .ok (.aload_n 0, 1) := by decide +kernel
theorem dd_PH_use_5 : decode prog_1_method_17_code 5 = .ok (.getfield 32, 3) := by decide +kernel
theorem dd_PH_use_8 : decode prog_1_method_17_code 8 = .ok (.aload_n 0, 1) := by decide +kernel
theorem dd_PH_use_9 : decode prog_1_method_17_code 9 = .ok (.getfield 10, 3) := by decide +kernel
theorem dd_PH_use_12 : decode prog_1_method_17_code 12 = .ok (.invokevirtual 164, 3) := by decide +kernel
theorem dd_PH_use_15 : decode prog_1_method_17_code 15 = .ok (.aload_n 0, 1) := by decide +kernel
theorem dd_PH_use_16 : decode prog_1_method_17_code 16 = .ok (.iload_n 1, 1) := by decide +kernel
theorem dd_PH_use_17 : decode prog_1_method_17_code 17 = .ok (.invokevirtual 152, 3) := by decide +kernel
theorem dd_PH_use_20 : decode prog_1_method_17_code 20 = .ok (.ifCond .eq 27, 3) := by decide +kernel
theorem dd_PH_use_23 : decode prog_1_method_17_code 23 = .ok (.aload_n 0, 1) := by decide +kernel
theorem dd_PH_use_24 : decode prog_1_method_17_code 24 = .ok (.getfield 26, 3) := by decide +kernel
theorem dd_PH_use_27 : decode prog_1_method_17_code 27 = .ok (.getfield 168, 3) := by decide +kernel
theorem dd_PH_use_30 : decode prog_1_method_17_code 30 = .ok (.iload_n 1, 1) := by decide +kernel
theorem dd_PH_use_31 : decode prog_1_method_17_code 31 = .ok (.baload, 1) := by decide +kernel
theorem dd_PH_use_32 : decode prog_1_method_17_code 32 = .ok (.ifCond .eq 15, 3) := by decide +kernel
theorem dd_PH_use_35 : decode prog_1_method_17_code 35 = .ok (.aload_n 0, 1) := by decide +kernel
theorem dd_PH_use_36 : decode prog_1_method_17_code 36 = .ok (.getfield 26, 3) := by decide +kernel
theorem dd_PH_use_39 : decode prog_1_method_17_code 39 = .ok (.getfield 172, 3) := by decide +kernel
theorem dd_PH_use_42 : decode prog_1_method_17_code 42 = .ok (.iload_n 1, 1) := by decide +kernel
theorem dd_PH_use_43 : decode prog_1_method_17_code 43 = .ok (.iaload, 1) := by decide +kernel
theorem dd_PH_use_44 : decode prog_1_method_17_code 44 = .ok (.goto 4, 3) := by decide +kernel
theorem dd_PH_use_47 : decode prog_1_method_17_code 47 = .ok (.iconst (-1), 1) := by decide +kernel
theorem dd_PH_use_48 : decode prog_1_method_17_code 48 = .ok (.ireturn, 1) := by decide +kernel
theorem dd_PH_room_0 : decode prog_1_method_18_code 0 = .ok (.aload_n 0, 1) := by decide +kernel
theorem dd_PH_room_1 : decode prog_1_method_18_code 1 = .ok (.getfield 26, 3) := by decide +kernel
theorem dd_PH_room_4 : decode prog_1_method_18_code 4 = .ok (.aload_n 0, 1) := by decide +kernel
theorem dd_PH_room_5 : decode prog_1_method_18_code 5 = .ok (.getfield 32, 3) := by decide +kernel
theorem dd_PH_room_8 : decode prog_1_method_18_code 8 = .ok (.aload_n 0, 1) := by decide +kernel
theorem dd_PH_room_9 : decode prog_1_method_18_code 9 = .ok (.getfield 10, 3) := by decide +kernel
theorem dd_PH_room_12 : decode prog_1_method_18_code 12 = .ok (.invokevirtual 164, 3) := by decide +kernel
theorem dd_PH_room_15 : decode prog_1_method_18_code 15 = .ok (.aload_n 0, 1) := by decide +kernel
theorem dd_PH_room_16 : decode prog_1_method_18_code 16 = .ok (.iload_n 1, 1) := by decide +kernel
theorem dd_PH_room_17 : decode prog_1_method_18_code 17 = .ok (.invokevirtual 152, 3) := by decide +kernel
theorem dd_PH_room_20 : decode prog_1_method_18_code 20 = .ok (.ifCond .eq 27, 3) := by decide +kernel
theorem dd_PH_room_23 : decode prog_1_method_18_code 23 = .ok (.aload_n 0, 1) := by decide +kernel
theorem dd_PH_room_24 : decode prog_1_method_18_code 24 = .ok (.getfield 26, 3) := by decide +kernel
theorem dd_PH_room_27 : decode prog_1_method_18_code 27 = .ok (.getfield 168, 3) := by decide +kernel
theorem dd_PH_room_30 : decode prog_1_method_18_code 30 = .ok (.iload_n 1, 1) := by decide +kernel
theorem dd_PH_room_31 : decode prog_1_method_18_code 31 = .ok (.baload, 1) := by decide +kernel
theorem dd_PH_room_32 : decode prog_1_method_18_code 32 = .ok (.ifCond .eq 15, 3) := by decide +kernel
theorem dd_PH_room_35 : decode prog_1_method_18_code 35 = .ok (.aload_n 0, 1) := by decide +kernel
theorem dd_PH_room_36 : decode prog_1_method_18_code 36 = .ok (.getfield 26, 3) := by decide +kernel
theorem dd_PH_room_39 : decode prog_1_method_18_code 39 = .ok (.getfield 176, 3) := by decide +kernel
theorem dd_PH_room_42 : decode prog_1_method_18_code 42 = .ok (.iload_n 1, 1) := by decide +kernel
theorem dd_PH_room_43 : decode prog_1_method_18_code 43 = .ok (.iaload, 1) := by decide +kernel
theorem dd_PH_room_44 : decode prog_1_method_18_code 44 = .ok (.goto 4, 3) := by decide +kernel
theorem dd_PH_room_47 : decode prog_1_method_18_code 47 = .ok (.iconst (-1), 1) := by decide +kernel
theorem dd_PH_room_48 : decode prog_1_method_18_code 48 = .ok (.ireturn, 1) := by decide +kernel
theorem dd_PH_shares_0 : decode prog_1_method_19_code 0 = .ok (.aload_n 0, 1) := by decide +kernel
theorem dd_PH_shares_1 : decode prog_1_method_19_code 1 = .ok (.iload_n 1, 1) := by decide +kernel
theorem dd_PH_shares_2 : decode prog_1_method_19_code 2 = .ok (.invokevirtual 61, 3) := by decide +kernel
theorem dd_PH_shares_5 : decode prog_1_method_19_code 5 = .ok (.astore_n 3, 1) := by decide +kernel
theorem dd_PH_shares_6 : decode prog_1_method_19_code 6 = .ok (.aload_n 3, 1) := by decide +kernel
theorem dd_PH_shares_7 : decode prog_1_method_19_code 7 = .ok (.ifnull 22, 3) := by decide +kernel
theorem dd_PH_shares_10 : decode prog_1_method_19_code 10 = .ok (.iload_n 2, 1) := by decide +kernel
theorem dd_PH_shares_11 : decode prog_1_method_19_code 11 = .ok (.invokestatic 158, 3) := by decide +kernel
theorem dd_PH_shares_14 : decode prog_1_method_19_code 14 = .ok (.ifCond .eq 15, 3) := by decide +kernel
theorem dd_PH_shares_17 : decode prog_1_method_19_code 17 = .ok (.aload_n 3, 1) := by decide +kernel
theorem dd_PH_shares_18 : decode prog_1_method_19_code 18 = .ok (.iload_n 2, 1) := by decide +kernel
theorem dd_PH_shares_19 : decode prog_1_method_19_code 19 = .ok (.invokevirtual 146, 3) := by decide +kernel
theorem dd_PH_shares_22 : decode prog_1_method_19_code 22 = .ok (.ifCond .eq 7, 3) := by decide +kernel
theorem dd_PH_shares_25 : decode prog_1_method_19_code 25 = .ok (.iconst 1, 1) := by decide +kernel
theorem dd_PH_shares_26 : decode prog_1_method_19_code 26 = .ok (.goto 4, 3) := by decide +kernel
theorem dd_PH_shares_29 : decode prog_1_method_19_code 29 = .ok (.iconst 0, 1) := by decide +kernel
theorem dd_PH_shares_30 : decode prog_1_method_19_code 30 = .ok (.ireturn, 1) := by decide +kernel
theorem dd_PH_where_0 : decode prog_1_method_20_code 0 = .ok (.aload_n 0, 1) := by decide +kernel
theorem dd_PH_where_1 : decode prog_1_method_20_code 1 = .ok (.iload_n 1, 1) := by decide +kernel
theorem dd_PH_where_2 : decode prog_1_method_20_code 2 = .ok (.invokevirtual 61, 3) := by decide +kernel
theorem dd_PH_where_5 : decode prog_1_method_20_code 5 = .ok (.astore_n 3, 1) := by decide +kernel
theorem dd_PH_where_6 : decode prog_1_method_20_code 6 = .ok (.aload_n 3, 1) := by decide +kernel
theorem dd_PH_where_7 : decode prog_1_method_20_code 7 = .ok (.ifnull 10, 3) := by decide +kernel
theorem dd_PH_where_10 : decode prog_1_method_20_code 10 = .ok (.iload_n 2, 1) := by decide +kernel
theorem dd_PH_where_11 : decode prog_1_method_20_code 11 = .ok (.invokestatic 80, 3) := by decide +kernel
theorem dd_PH_where_14 : decode prog_1_method_20_code 14 = .ok (.ifCond .ne 5, 3) := by decide +kernel
theorem dd_PH_where_17 : decode prog_1_method_20_code 17 = .ok (.iconst (-1), 1) := by decide +kernel
theorem dd_PH_where_18 : decode prog_1_method_20_code 18 = .ok (.ireturn, 1) := by decide +kernel
theorem dd_PH_where_19 : decode prog_1_method_20_code 19 = .ok (.aload_n 3, 1) := by decide +kernel
theorem dd_PH_where_20 : decode prog_1_method_20_code 20 = .ok (.getfield 102, 3) := by decide +kernel
theorem dd_PH_where_23 : decode prog_1_method_20_code 23 = .ok (.iload_n 2, 1) := by decide +kernel
theorem dd_PH_where_24 : decode prog_1_method_20_code 24 = .ok (.aaload, 1) := by decide +kernel
theorem dd_PH_where_25 : decode prog_1_method_20_code 25 = .ok (.astore 4, 2) := by decide +kernel
theorem dd_PH_where_27 : decode prog_1_method_20_code 27 = .ok (.aload 4, 2) := by decide +kernel
theorem dd_PH_where_29 : decode prog_1_method_20_code 29 = .ok (.ifnonnull 8, 3) := by decide +kernel
theorem dd_PH_where_32 : decode prog_1_method_20_code 32 = .ok (.bipush (-2), 2) := by decide +kernel
theorem dd_PH_where_34 : decode prog_1_method_20_code 34 = .ok (.goto 8, 3) := by decide +kernel
theorem dd_PH_where_37 : decode prog_1_method_20_code 37 = .ok (.aload 4, 2) := by decide +kernel
theorem dd_PH_where_39 : decode prog_1_method_20_code 39 = .ok (.invokevirtual 133, 3) := by decide +kernel
theorem dd_PH_where_42 : decode prog_1_method_20_code 42 = .ok (.ireturn, 1) := by decide +kernel
theorem dd_PH_tag_0 : decode prog_1_method_21_code 0 = .ok (.aload_n 0, 1) := by decide +kernel
theorem dd_PH_tag_1 : decode prog_1_method_21_code 1 = .ok (.iload_n 1, 1) := by decide +kernel
theorem dd_PH_tag_2 : decode prog_1_method_21_code 2 = .ok (.invokevirtual 61, 3) := by decide +kernel
theorem dd_PH_tag_5 : decode prog_1_method_21_code 5 = .ok (.astore_n 3, 1) := by decide +kernel
theorem dd_PH_tag_6 : decode prog_1_method_21_code 6 = .ok (.aload_n 3, 1) := by decide +kernel
theorem dd_PH_tag_7 : decode prog_1_method_21_code 7 = .ok (.ifnull 10, 3) := by decide +kernel
theorem dd_PH_tag_10 : decode prog_1_method_21_code 10 = .ok (.iload_n 2, 1) := by decide +kernel
theorem dd_PH_tag_11 : decode prog_1_method_21_code 11 = .ok (.invokestatic 80, 3) := by decide +kernel
theorem dd_PH_tag_14 : decode prog_1_method_21_code 14 = .ok (.ifCond .ne 5, 3) := by decide +kernel
theorem dd_PH_tag_17 : decode prog_1_method_21_code 17 = .ok (.iconst 0, 1) := by decide +kernel
theorem dd_PH_tag_18 : decode prog_1_method_21_code 18 = .ok (.ireturn, 1) := by decide +kernel
theorem dd_PH_tag_19 : decode prog_1_method_21_code 19 = .ok (.aload_n 3, 1) := by decide +kernel
theorem dd_PH_tag_20 : decode prog_1_method_21_code 20 = .ok (.getfield 102, 3) := by decide +kernel
theorem dd_PH_tag_23 : decode prog_1_method_21_code 23 = .ok (.iload_n 2, 1) := by decide +kernel
theorem dd_PH_tag_24 : decode prog_1_method_21_code 24 = .ok (.aaload, 1) := by decide +kernel
theorem dd_PH_tag_25 : decode prog_1_method_21_code 25 = .ok (.astore 4, 2) := by decide +kernel
theorem dd_PH_tag_27 : decode prog_1_method_21_code 27 = .ok (.aload 4, 2) := by decide +kernel
theorem dd_PH_tag_29 : decode prog_1_method_21_code 29 = .ok (.ifnonnull 7, 3) := by decide +kernel
theorem dd_PH_tag_32 : decode prog_1_method_21_code 32 = .ok (.iconst 0, 1) := by decide +kernel
theorem dd_PH_tag_33 : decode prog_1_method_21_code 33 = .ok (.goto 8, 3) := by decide +kernel
theorem dd_PH_tag_36 : decode prog_1_method_21_code 36 = .ok (.aload 4, 2) := by decide +kernel
theorem dd_PH_tag_38 : decode prog_1_method_21_code 38 = .ok (.getfield 179, 3) := by decide +kernel
theorem dd_PH_tag_41 : decode prog_1_method_21_code 41 = .ok (.ireturn, 1) := by decide +kernel
theorem dd_La_cell_0 : decode method_2_code 0 = .ok (.iload_n 1, 1) := by decide +kernel
theorem dd_La_cell_1 : decode method_2_code 1 = .ok (.aload_n 0, 1) := by decide +kernel
theorem dd_La_cell_2 : decode method_2_code 2 = .ok (.arraylength, 1) := by decide +kernel
theorem dd_La_cell_3 : decode method_2_code 3 = .ok (.if_icmp .ge 9, 3) := by decide +kernel
theorem dd_La_cell_6 : decode method_2_code 6 = .ok (.aload_n 0, 1) := by decide +kernel
theorem dd_La_cell_7 : decode method_2_code 7 = .ok (.iload_n 1, 1) := by decide +kernel
theorem dd_La_cell_8 : decode method_2_code 8 = .ok (.iaload, 1) := by decide +kernel
theorem dd_La_cell_9 : decode method_2_code 9 = .ok (.goto 4, 3) := by decide +kernel
theorem dd_La_cell_12 : decode method_2_code 12 = .ok (.iconst 0, 1) := by decide +kernel
theorem dd_La_cell_13 : decode method_2_code 13 = .ok (.ireturn, 1) := by decide +kernel
theorem dd_Mo_init_0 : decode prog_9_method_1_code 0 = .ok (.aload_n 0, 1) := by decide +kernel
theorem dd_Mo_init_1 : decode prog_9_method_1_code 1 = .ok (.invokespecial 1, 3) := by decide +kernel
theorem dd_Mo_init_4 : decode prog_9_method_1_code 4 = .ok (.aload_n 0, 1) := by decide +kernel
theorem dd_Mo_init_5 : decode prog_9_method_1_code 5 = .ok (.bipush 8, 2) := by decide +kernel
theorem dd_Mo_init_7 : decode prog_9_method_1_code 7 = .ok (.newarray .int, 2) := by decide +kernel
theorem dd_Mo_init_9 : decode prog_9_method_1_code 9 = .ok (.putfield 7, 3) := by decide +kernel
theorem dd_Mo_init_12 : decode prog_9_method_1_code 12 = .ok (.aload_n 0, 1) := by decide +kernel
theorem dd_Mo_init_13 : decode prog_9_method_1_code 13 = .ok (.bipush 8, 2) := by decide +kernel
theorem dd_Mo_init_15 : decode prog_9_method_1_code 15 = .ok (.newarray .int, 2) := by decide +kernel
theorem dd_Mo_init_17 : decode prog_9_method_1_code 17 = .ok (.putfield 13, 3) := by decide +kernel
theorem dd_Mo_init_20 : decode prog_9_method_1_code 20 = .ok (.aload_n 0, 1) := by decide +kernel
theorem dd_Mo_init_21 : decode prog_9_method_1_code 21 = .ok (.bipush 8, 2) := by decide +kernel
theorem dd_Mo_init_23 : decode prog_9_method_1_code 23 = .ok (.newarray .int, 2) := by decide +kernel
theorem dd_Mo_init_25 : decode prog_9_method_1_code 25 = .ok (.putfield 16, 3) := by decide +kernel
theorem dd_Mo_init_28 : decode prog_9_method_1_code 28 = .ok (.aload_n 0, 1) := by decide +kernel
theorem dd_Mo_init_29 : decode prog_9_method_1_code 29 = .ok (.bipush 8, 2) := by decide +kernel
theorem dd_Mo_init_31 : decode prog_9_method_1_code 31 = .ok (.newarray .boolean, 2) := by decide +kernel
theorem dd_Mo_init_33 : decode prog_9_method_1_code 33 = .ok (.putfield 19, 3) := by decide +kernel
theorem dd_Mo_init_36 : decode prog_9_method_1_code 36 = .ok (.aload_n 0, 1) := by decide +kernel
theorem dd_Mo_init_37 : decode prog_9_method_1_code 37 = .ok (.bipush 32, 2) := by decide +kernel
theorem dd_Mo_init_39 : decode prog_9_method_1_code 39 = .ok (.newarray .int, 2) := by decide +kernel
theorem dd_Mo_init_41 : decode prog_9_method_1_code 41 = .ok (.putfield 23, 3) := by decide +kernel
theorem dd_Mo_init_44 : decode prog_9_method_1_code 44 = .ok (.aload_n 0, 1) := by decide +kernel
theorem dd_Mo_init_45 : decode prog_9_method_1_code 45 = .ok (.bipush 60, 2) := by decide +kernel
theorem dd_Mo_init_47 : decode prog_9_method_1_code 47 = .ok (.newarray .int, 2) := by decide +kernel
theorem dd_Mo_init_49 : decode prog_9_method_1_code 49 = .ok (.putfield 26, 3) := by decide +kernel
theorem dd_Mo_init_52 : decode prog_9_method_1_code 52 = .ok (.aload_n 0, 1) := by decide +kernel
theorem dd_Mo_init_53 : decode prog_9_method_1_code 53 = .ok (.bipush 60, 2) := by decide +kernel
theorem dd_Mo_init_55 : decode prog_9_method_1_code 55 = .ok (.newarray .int, 2) := by decide +kernel
theorem dd_Mo_init_57 : decode prog_9_method_1_code 57 = .ok (.putfield 29, 3) := by decide +kernel
theorem dd_Mo_init_60 : decode prog_9_method_1_code 60 = .ok (.aload_n 0, 1) := by decide +kernel
theorem dd_Mo_init_61 : decode prog_9_method_1_code 61 = .ok (.bipush 60, 2) := by decide +kernel
theorem dd_Mo_init_63 : decode prog_9_method_1_code 63 = .ok (.newarray .int, 2) := by decide +kernel
theorem dd_Mo_init_65 : decode prog_9_method_1_code 65 = .ok (.putfield 32, 3) := by decide +kernel
theorem dd_Mo_init_68 : decode prog_9_method_1_code 68 = .ok (.aload_n 0, 1) := by decide +kernel
theorem dd_Mo_init_69 : decode prog_9_method_1_code 69 = .ok (.bipush 60, 2) := by decide +kernel
theorem dd_Mo_init_71 : decode prog_9_method_1_code 71 = .ok (.newarray .int, 2) := by decide +kernel
theorem dd_Mo_init_73 : decode prog_9_method_1_code 73 = .ok (.putfield 35, 3) := by decide +kernel
theorem dd_Mo_init_76 : decode prog_9_method_1_code 76 = .ok (.aload_n 0, 1) := by decide +kernel
theorem dd_Mo_init_77 : decode prog_9_method_1_code 77 = .ok (.sipush 180, 3) := by decide +kernel
theorem dd_Mo_init_80 : decode prog_9_method_1_code 80 = .ok (.newarray .int, 2) := by decide +kernel
theorem dd_Mo_init_82 : decode prog_9_method_1_code 82 = .ok (.putfield 38, 3) := by decide +kernel
theorem dd_Mo_init_85 : decode prog_9_method_1_code 85 = .ok (.aload_n 0, 1) := by decide +kernel
theorem dd_Mo_init_86 : decode prog_9_method_1_code 86 = .ok (.bipush 24, 2) := by decide +kernel
theorem dd_Mo_init_88 : decode prog_9_method_1_code 88 = .ok (.newarray .int, 2) := by decide +kernel
theorem dd_Mo_init_90 : decode prog_9_method_1_code 90 = .ok (.putfield 41, 3) := by decide +kernel
theorem dd_Mo_init_93 : decode prog_9_method_1_code 93 = .ok (.aload_n 0, 1) := by decide +kernel
theorem dd_Mo_init_94 : decode prog_9_method_1_code 94 = .ok (.bipush 24, 2) := by decide +kernel
theorem dd_Mo_init_96 : decode prog_9_method_1_code 96 = .ok (.newarray .int, 2) := by decide +kernel
theorem dd_Mo_init_98 : decode prog_9_method_1_code 98 = .ok (.putfield 44, 3) := by decide +kernel
theorem dd_Mo_init_101 : decode prog_9_method_1_code 101 = .ok (.aload_n 0, 1) := by decide +kernel
theorem dd_Mo_init_102 : decode prog_9_method_1_code 102 = .ok (.bipush 24, 2) := by decide +kernel
theorem dd_Mo_init_104 : decode prog_9_method_1_code 104 = .ok (.newarray .int, 2) := by decide +kernel
theorem dd_Mo_init_106 : decode prog_9_method_1_code 106 = .ok (.putfield 47, 3) := by decide +kernel
theorem dd_Mo_init_109 : decode prog_9_method_1_code 109 = .ok (.aload_n 0, 1) := by decide +kernel
theorem dd_Mo_init_110 : decode prog_9_method_1_code 110 = .ok (.iconst 4, 1) := by decide +kernel
theorem dd_Mo_init_111 : decode prog_9_method_1_code 111 = .ok (.newarray .int, 2) := by decide +kernel
theorem dd_Mo_init_113 : decode prog_9_method_1_code 113 = .ok (.putfield 50, 3) := by decide +kernel
theorem dd_Mo_init_116 : decode prog_9_method_1_code 116 = .ok (.aload_n 0, 1) := by decide +kernel
theorem dd_Mo_init_117 : decode prog_9_method_1_code 117 = .ok (.iconst 4, 1) := by decide +kernel
theorem dd_Mo_init_118 : decode prog_9_method_1_code 118 = .ok (.newarray .int, 2) := by decide +kernel
theorem dd_Mo_init_120 : decode prog_9_method_1_code 120 = .ok (.putfield 53, 3) := by decide +kernel
theorem dd_Mo_init_123 : decode prog_9_method_1_code 123 = .ok (.aload_n 0, 1) := by decide +kernel
theorem dd_Mo_init_124 : decode prog_9_method_1_code 124 = .ok (.iconst 4, 1) := by decide +kernel
theorem dd_Mo_init_125 : decode prog_9_method_1_code 125 = .ok (.newarray .int, 2) := by decide +kernel
theorem dd_Mo_init_127 : decode prog_9_method_1_code 127 = .ok (.putfield 56, 3) := by decide +kernel
theorem dd_Mo_init_130 : decode prog_9_method_1_code 130 = .ok (.aload_n 0, 1) := by decide +kernel
theorem dd_Mo_init_131 : decode prog_9_method_1_code 131 = .ok (.bipush 32, 2) := by decide +kernel
theorem dd_Mo_init_133 : decode prog_9_method_1_code 133 = .ok (.newarray .boolean, 2) := by decide +kernel
theorem dd_Mo_init_135 : decode prog_9_method_1_code 135 = .ok (.putfield 59, 3) := by decide +kernel
theorem dd_Mo_init_138 : decode prog_9_method_1_code 138 = .ok (.aload_n 0, 1) := by decide +kernel
theorem dd_Mo_init_139 : decode prog_9_method_1_code 139 = .ok (.bipush 32, 2) := by decide +kernel
theorem dd_Mo_init_141 : decode prog_9_method_1_code 141 = .ok (.newarray .boolean, 2) := by decide +kernel
theorem dd_Mo_init_143 : decode prog_9_method_1_code 143 = .ok (.putfield 62, 3) := by decide +kernel
theorem dd_Mo_init_146 : decode prog_9_method_1_code 146 = .ok (.aload_n 0, 1) := by decide +kernel
theorem dd_Mo_init_147 : decode prog_9_method_1_code 147 = .ok (.sipush 780, 3) := by decide +kernel
theorem dd_Mo_init_150 : decode prog_9_method_1_code 150 = .ok (.newarray .boolean, 2) := by decide +kernel
theorem dd_Mo_init_152 : decode prog_9_method_1_code 152 = .ok (.putfield 65, 3) := by decide +kernel
theorem dd_Mo_init_155 : decode prog_9_method_1_code 155 = .ok (.aload_n 0, 1) := by decide +kernel
theorem dd_Mo_init_156 : decode prog_9_method_1_code 156 = .ok (.bipush 8, 2) := by decide +kernel
theorem dd_Mo_init_158 : decode prog_9_method_1_code 158 = .ok (.newarray .int, 2) := by decide +kernel
theorem dd_Mo_init_160 : decode prog_9_method_1_code 160 = .ok (.putfield 68, 3) := by decide +kernel
theorem dd_Mo_init_163 : decode prog_9_method_1_code 163 = .ok (.aload_n 0, 1) := by decide +kernel
theorem dd_Mo_init_164 : decode prog_9_method_1_code 164 = .ok (.bipush 8, 2) := by decide +kernel
theorem dd_Mo_init_166 : decode prog_9_method_1_code 166 = .ok (.newarray .boolean, 2) := by decide +kernel
theorem dd_Mo_init_168 : decode prog_9_method_1_code 168 = .ok (.putfield 71, 3) := by decide +kernel
theorem dd_Mo_init_171 : decode prog_9_method_1_code 171 = .ok (.aload_n 0, 1) := by decide +kernel
theorem dd_Mo_init_172 : decode prog_9_method_1_code 172 = .ok (.bipush 60, 2) := by decide +kernel
theorem dd_Mo_init_174 : decode prog_9_method_1_code 174 = .ok (.newarray .boolean, 2) := by decide +kernel
theorem dd_Mo_init_176 : decode prog_9_method_1_code 176 = .ok (.putfield 74, 3) := by decide +kernel
theorem dd_Mo_init_179 : decode prog_9_method_1_code 179 = .ok (.aload_n 0, 1) := by decide +kernel
theorem dd_Mo_init_180 : decode prog_9_method_1_code 180 = .ok (.getfield 16, 3) := by decide +kernel
theorem dd_Mo_init_183 : decode prog_9_method_1_code 183 = .ok (.iconst 0, 1) := by decide +kernel
theorem dd_Mo_init_184 : decode prog_9_method_1_code 184 = .ok (.iload_n 1, 1) := by decide +kernel
theorem dd_Mo_init_185 : decode prog_9_method_1_code 185 = .ok (.iconst 4, 1) := by decide +kernel
theorem dd_Mo_init_186 : decode prog_9_method_1_code 186 = .ok (.if_icmp .ge 7, 3) := by decide +kernel
theorem dd_Mo_init_189 : decode prog_9_method_1_code 189 = .ok (.iconst 4, 1) := by decide +kernel
theorem dd_Mo_init_190 : decode prog_9_method_1_code 190 = .ok (.goto 15, 3) := by decide +kernel
theorem dd_Mo_init_193 : decode prog_9_method_1_code 193 = .ok (.iload_n 1, 1) := by decide +kernel
theorem dd_Mo_init_194 : decode prog_9_method_1_code 194 = .ok (.bipush 24, 2) := by decide +kernel
theorem dd_Mo_init_196 : decode prog_9_method_1_code 196 = .ok (.if_icmp .le 8, 3) := by decide +kernel
theorem dd_Mo_init_199 : decode prog_9_method_1_code 199 = .ok (.bipush 24, 2) := by decide +kernel
theorem dd_Mo_init_201 : decode prog_9_method_1_code 201 = .ok (.goto 4, 3) := by decide +kernel
theorem dd_Mo_init_204 : decode prog_9_method_1_code 204 = .ok (.iload_n 1, 1) := by decide +kernel
theorem dd_Mo_init_205 : decode prog_9_method_1_code 205 = .ok (.iastore, 1) := by decide +kernel
theorem dd_Mo_init_206 : decode prog_9_method_1_code 206 = .ok (.aload_n 0, 1) := by decide +kernel
theorem dd_Mo_init_207 : decode prog_9_method_1_code 207 = .ok (.getfield 19, 3) := by decide +kernel
theorem dd_Mo_init_210 : decode prog_9_method_1_code 210 = .ok (.iconst 0, 1) := by decide +kernel
theorem dd_Mo_init_211 : decode prog_9_method_1_code 211 = .ok (.iconst 1, 1) := by decide +kernel
theorem dd_Mo_init_212 : decode prog_9_method_1_code 212 = .ok (.bastore, 1) := by decide +kernel
theorem dd_Mo_init_213 : decode prog_9_method_1_code 213 = .ok (.aload_n 0, 1) := by decide +kernel
theorem dd_Mo_init_214 : decode prog_9_method_1_code 214 = .ok (.getfield 7, 3) := by decide +kernel
theorem dd_Mo_init_217 : decode prog_9_method_1_code 217 = .ok (.iconst 0, 1) := by decide +kernel
theorem dd_Mo_init_218 : decode prog_9_method_1_code 218 = .ok (.iconst 1, 1) := by decide +kernel
theorem dd_Mo_init_219 : decode prog_9_method_1_code 219 = .ok (.iastore, 1) := by decide +kernel
theorem dd_Mo_init_220 : decode prog_9_method_1_code 220 = .ok (.aload_n 0, 1) := by decide +kernel
theorem dd_Mo_init_221 : decode prog_9_method_1_code 221 = .ok (.iconst 1, 1) := by decide +kernel
theorem dd_Mo_init_222 : decode prog_9_method_1_code 222 = .ok (.putfield 77, 3) := by decide +kernel
theorem dd_Mo_init_225 : decode prog_9_method_1_code 225 = .ok (.return_, 1) := by decide +kernel
theorem dd_Mo_spawn_0 : decode prog_9_method_17_code 0 = .ok (.aload_n 0, 1) := by decide +kernel
theorem dd_Mo_spawn_1 : decode prog_9_method_17_code 1 = .ok (.iload_n 1, 1) := by decide +kernel
theorem dd_Mo_spawn_2 : decode prog_9_method_17_code 2 = .ok (.invokevirtual 89, 3) := by decide +kernel
theorem dd_Mo_spawn_5 : decode prog_9_method_17_code 5 = .ok (.ifCond .eq 14, 3) := by decide +kernel
theorem dd_Mo_spawn_8 : decode prog_9_method_17_code 8 = .ok (.iload_n 2, 1) := by decide +kernel
theorem dd_Mo_spawn_9 : decode prog_9_method_17_code 9 = .ok (.iconst 1, 1) := by decide +kernel
theorem dd_Mo_spawn_10 : decode prog_9_method_17_code 10 = .ok (.if_icmp .lt 9, 3) := by decide +kernel
theorem dd_Mo_spawn_13 : decode prog_9_method_17_code 13 = .ok (.iload_n 2, 1) := by decide +kernel
theorem dd_Mo_spawn_14 : decode prog_9_method_17_code 14 = .ok (.bipush 24, 2) := by decide +kernel
theorem dd_Mo_spawn_16 : decode prog_9_method_17_code 16 = .ok (.if_icmp .le 5, 3) := by decide +kernel
theorem dd_Mo_spawn_19 : decode prog_9_method_17_code 19 = .ok (.iconst (-1), 1) := by decide +kernel
theorem dd_Mo_spawn_20 : decode prog_9_method_17_code 20 = .ok (.ireturn, 1) := by decide +kernel
theorem dd_Mo_spawn_21 : decode prog_9_method_17_code 21 = .ok (.aload_n 0, 1) := by decide +kernel
theorem dd_Mo_spawn_22 : decode prog_9_method_17_code 22 = .ok (.getfield 77, 3) := by decide +kernel
theorem dd_Mo_spawn_25 : decode prog_9_method_17_code 25 = .ok (.bipush 8, 2) := by decide +kernel
theorem dd_Mo_spawn_27 : decode prog_9_method_17_code 27 = .ok (.if_icmp .lt 6, 3) := by decide +kernel
theorem dd_Mo_spawn_30 : decode prog_9_method_17_code 30 = .ok (.bipush (-4), 2) := by decide +kernel
theorem dd_Mo_spawn_32 : decode prog_9_method_17_code 32 = .ok (.ireturn, 1) := by decide +kernel
theorem dd_Mo_spawn_33 : decode prog_9_method_17_code 33 = .ok (.iload_n 3, 1) := by decide +kernel
theorem dd_Mo_spawn_34 : decode prog_9_method_17_code 34 = .ok (.ifCond .eq 15, 3) := by decide +kernel
theorem dd_Mo_spawn_37 : decode prog_9_method_17_code 37 = .ok (.aload_n 0, 1) := by decide +kernel
theorem dd_Mo_spawn_38 : decode prog_9_method_17_code 38 = .ok (.iload_n 1, 1) := by decide +kernel
theorem dd_Mo_spawn_39 : decode prog_9_method_17_code 39 = .ok (.invokevirtual 124, 3) := by decide +kernel
theorem dd_Mo_spawn_42 : decode prog_9_method_17_code 42 = .ok (.iload_n 2, 1) := by decide +kernel
theorem dd_Mo_spawn_43 : decode prog_9_method_17_code 43 = .ok (.if_icmp .ge 6, 3) := by decide +kernel
theorem dd_Mo_spawn_46 : decode prog_9_method_17_code 46 = .ok (.bipush (-5), 2) := by decide +kernel
theorem dd_Mo_spawn_48 : decode prog_9_method_17_code 48 = .ok (.ireturn, 1) := by decide +kernel
theorem dd_Mo_spawn_49 : decode prog_9_method_17_code 49 = .ok (.aload_n 0, 1) := by decide +kernel
theorem dd_Mo_spawn_50 : decode prog_9_method_17_code 50 = .ok (.getfield 7, 3) := by decide +kernel
theorem dd_Mo_spawn_53 : decode prog_9_method_17_code 53 = .ok (.aload_n 0, 1) := by decide +kernel
theorem dd_Mo_spawn_54 : decode prog_9_method_17_code 54 = .ok (.getfield 77, 3) := by decide +kernel
theorem dd_Mo_spawn_57 : decode prog_9_method_17_code 57 = .ok (.iconst 1, 1) := by decide +kernel
theorem dd_Mo_spawn_58 : decode prog_9_method_17_code 58 = .ok (.iastore, 1) := by decide +kernel
theorem dd_Mo_spawn_59 : decode prog_9_method_17_code 59 = .ok (.aload_n 0, 1) := by decide +kernel
theorem dd_Mo_spawn_60 : decode prog_9_method_17_code 60 = .ok (.getfield 13, 3) := by decide +kernel
theorem dd_Mo_spawn_63 : decode prog_9_method_17_code 63 = .ok (.aload_n 0, 1) := by decide +kernel
theorem dd_Mo_spawn_64 : decode prog_9_method_17_code 64 = .ok (.getfield 77, 3) := by decide +kernel
theorem dd_Mo_spawn_67 : decode prog_9_method_17_code 67 = .ok (.iload_n 1, 1) := by decide +kernel
theorem dd_Mo_spawn_68 : decode prog_9_method_17_code 68 = .ok (.iastore, 1) := by decide +kernel
theorem dd_Mo_spawn_69 : decode prog_9_method_17_code 69 = .ok (.aload_n 0, 1) := by decide +kernel
theorem dd_Mo_spawn_70 : decode prog_9_method_17_code 70 = .ok (.getfield 16, 3) := by decide +kernel
theorem dd_Mo_spawn_73 : decode prog_9_method_17_code 73 = .ok (.aload_n 0, 1) := by decide +kernel
theorem dd_Mo_spawn_74 : decode prog_9_method_17_code 74 = .ok (.getfield 77, 3) := by decide +kernel
theorem dd_Mo_spawn_77 : decode prog_9_method_17_code 77 = .ok (.iload_n 2, 1) := by decide +kernel
theorem dd_Mo_spawn_78 : decode prog_9_method_17_code 78 = .ok (.iastore, 1) := by decide +kernel
theorem dd_Mo_spawn_79 : decode prog_9_method_17_code 79 = .ok (.aload_n 0, 1) := by decide +kernel
theorem dd_Mo_spawn_80 : decode prog_9_method_17_code 80 = .ok (.getfield 19, 3) := by decide +kernel
theorem dd_Mo_spawn_83 : decode prog_9_method_17_code 83 = .ok (.aload_n 0, 1) := by decide +kernel
theorem dd_Mo_spawn_84 : decode prog_9_method_17_code 84 = .ok (.getfield 77, 3) := by decide +kernel
theorem dd_Mo_spawn_87 : decode prog_9_method_17_code 87 = .ok (.iload_n 3, 1) := by decide +kernel
theorem dd_Mo_spawn_88 : decode prog_9_method_17_code 88 = .ok (.bastore, 1) := by decide +kernel
theorem dd_Mo_spawn_89 : decode prog_9_method_17_code 89 = .ok (.aload_n 0, 1) := by decide +kernel
theorem dd_Mo_spawn_90 : decode prog_9_method_17_code 90 = .ok (.dup, 1) := by decide +kernel
theorem dd_Mo_spawn_91 : decode prog_9_method_17_code 91 = .ok (.getfield 77, 3) := by decide +kernel
theorem dd_Mo_spawn_94 : decode prog_9_method_17_code 94 = .ok (.iconst 1, 1) := by decide +kernel
theorem dd_Mo_spawn_95 : decode prog_9_method_17_code 95 = .ok (.iadd, 1) := by decide +kernel
theorem dd_Mo_spawn_96 : decode prog_9_method_17_code 96 = .ok (.putfield 77, 3) := by decide +kernel
theorem dd_Mo_spawn_99 : decode prog_9_method_17_code 99 = .ok (.aload_n 0, 1) := by decide +kernel
theorem dd_Mo_spawn_100 : decode prog_9_method_17_code 100 = .ok (.getfield 77, 3) := by decide +kernel
theorem dd_Mo_spawn_103 : decode prog_9_method_17_code 103 = .ok (.iconst 1, 1) := by decide +kernel
theorem dd_Mo_spawn_104 : decode prog_9_method_17_code 104 = .ok (.isub, 1) := by decide +kernel
theorem dd_Mo_spawn_105 : decode prog_9_method_17_code 105 = .ok (.ireturn, 1) := by decide +kernel
theorem dd_Mo_lives_0 : decode prog_9_method_2_code 0 = .ok (.iload_n 1, 1) := by decide +kernel
theorem dd_Mo_lives_1 : decode prog_9_method_2_code 1 = .ok (.ifCond .lt 32, 3) := by decide +kernel
theorem dd_Mo_lives_4 : decode prog_9_method_2_code 4 = .ok (.iload_n 1, 1) := by decide +kernel
theorem dd_Mo_lives_5 : decode prog_9_method_2_code 5 = .ok (.bipush 8, 2) := by decide +kernel
theorem dd_Mo_lives_7 : decode prog_9_method_2_code 7 = .ok (.if_icmp .ge 26, 3) := by decide +kernel
theorem dd_Mo_lives_10 : decode prog_9_method_2_code 10 = .ok (.aload_n 0, 1) := by decide +kernel
theorem dd_Mo_lives_11 : decode prog_9_method_2_code 11 = .ok (.getfield 7, 3) := by decide +kernel
theorem dd_Mo_lives_14 : decode prog_9_method_2_code 14 = .ok (.iload_n 1, 1) := by decide +kernel
theorem dd_Mo_lives_15 : decode prog_9_method_2_code 15 = .ok (.iaload, 1) := by decide +kernel
theorem dd_Mo_lives_16 : decode prog_9_method_2_code 16 = .ok (.ifCond .le 17, 3) := by decide +kernel
theorem dd_Mo_lives_19 : decode prog_9_method_2_code 19 = .ok (.aload_n 0, 1) := by decide +kernel
theorem dd_Mo_lives_20 : decode prog_9_method_2_code 20 = .ok (.getfield 7, 3) := by decide +kernel
theorem dd_Mo_lives_23 : decode prog_9_method_2_code 23 = .ok (.iload_n 1, 1) := by decide +kernel
theorem dd_Mo_lives_24 : decode prog_9_method_2_code 24 = .ok (.iaload, 1) := by decide +kernel
theorem dd_Mo_lives_25 : decode prog_9_method_2_code 25 = .ok (.iconst 4, 1) := by decide +kernel
theorem dd_Mo_lives_26 : decode prog_9_method_2_code 26 = .ok (.if_icmp .ge 7, 3) := by decide +kernel
theorem dd_Mo_lives_29 : decode prog_9_method_2_code 29 = .ok (.iconst 1, 1) := by decide +kernel
theorem dd_Mo_lives_30 : decode prog_9_method_2_code 30 = .ok (.goto 4, 3) := by decide +kernel
theorem dd_Mo_lives_33 : decode prog_9_method_2_code 33 = .ok (.iconst 0, 1) := by decide +kernel
theorem dd_Mo_lives_34 : decode prog_9_method_2_code 34 = .ok (.ireturn, 1) := by decide +kernel
theorem dd_Mo_rest_0 : decode prog_9_method_6_code 0 = .ok (.aload_n 0, 1) := by decide +kernel
theorem dd_Mo_rest_1 : decode prog_9_method_6_code 1 = .ok (.invokevirtual 92, 3) := by decide +kernel
theorem dd_Mo_rest_4 : decode prog_9_method_6_code 4 = .ok (.aload_n 0, 1) := by decide +kernel
theorem dd_Mo_rest_5 : decode prog_9_method_6_code 5 = .ok (.getfield 16, 3) := by decide +kernel
theorem dd_Mo_rest_8 : decode prog_9_method_6_code 8 = .ok (.iload_n 1, 1) := by decide +kernel
theorem dd_Mo_rest_9 : decode prog_9_method_6_code 9 = .ok (.iaload, 1) := by decide +kernel
theorem dd_Mo_rest_10 : decode prog_9_method_6_code 10 = .ok (.aload_n 0, 1) := by decide +kernel
theorem dd_Mo_rest_11 : decode prog_9_method_6_code 11 = .ok (.getfield 68, 3) := by decide +kernel
theorem dd_Mo_rest_14 : decode prog_9_method_6_code 14 = .ok (.iload_n 1, 1) := by decide +kernel
theorem dd_Mo_rest_15 : decode prog_9_method_6_code 15 = .ok (.iaload, 1) := by decide +kernel
theorem dd_Mo_rest_16 : decode prog_9_method_6_code 16 = .ok (.isub, 1) := by decide +kernel
theorem dd_Mo_rest_17 : decode prog_9_method_6_code 17 = .ok (.istore_n 2, 1) := by decide +kernel
theorem dd_Mo_rest_18 : decode prog_9_method_6_code 18 = .ok (.iload_n 1, 1) := by decide +kernel
theorem dd_Mo_rest_19 : decode prog_9_method_6_code 19 = .ok (.istore_n 3, 1) := by decide +kernel
theorem dd_Mo_rest_20 : decode prog_9_method_6_code 20 = .ok (.iconst 0, 1) := by decide +kernel
theorem dd_Mo_rest_21 : decode prog_9_method_6_code 21 = .ok (.istore 4, 2) := by decide +kernel
theorem dd_Mo_rest_23 : decode prog_9_method_6_code 23 = .ok (.iload 4, 2) := by decide +kernel
theorem dd_Mo_rest_25 : decode prog_9_method_6_code 25 = .ok (.bipush 8, 2) := by decide +kernel
theorem dd_Mo_rest_27 : decode prog_9_method_6_code 27 = .ok (.if_icmp .ge 64, 3) := by decide +kernel
theorem dd_Mo_rest_30 : decode prog_9_method_6_code 30 = .ok (.iload_n 3, 1) := by decide +kernel
theorem dd_Mo_rest_31 : decode prog_9_method_6_code 31 = .ok (.ifCond .eq 60, 3) := by decide +kernel
theorem dd_Mo_rest_34 : decode prog_9_method_6_code 34 = .ok (.aload_n 0, 1) := by decide +kernel
theorem dd_Mo_rest_35 : decode prog_9_method_6_code 35 = .ok (.getfield 19, 3) := by decide +kernel
theorem dd_Mo_rest_38 : decode prog_9_method_6_code 38 = .ok (.iload_n 3, 1) := by decide +kernel
theorem dd_Mo_rest_39 : decode prog_9_method_6_code 39 = .ok (.baload, 1) := by decide +kernel
theorem dd_Mo_rest_40 : decode prog_9_method_6_code 40 = .ok (.ifCond .ne 51, 3) := by decide +kernel
theorem dd_Mo_rest_43 : decode prog_9_method_6_code 43 = .ok (.aload_n 0, 1) := by decide +kernel
theorem dd_Mo_rest_44 : decode prog_9_method_6_code 44 = .ok (.getfield 13, 3) := by decide +kernel
theorem dd_Mo_rest_47 : decode prog_9_method_6_code 47 = .ok (.iload_n 3, 1) := by decide +kernel
theorem dd_Mo_rest_48 : decode prog_9_method_6_code 48 = .ok (.iaload, 1) := by decide +kernel
theorem dd_Mo_rest_49 : decode prog_9_method_6_code 49 = .ok (.istore_n 3, 1) := by decide +kernel
theorem dd_Mo_rest_50 : decode prog_9_method_6_code 50 = .ok (.aload_n 0, 1) := by decide +kernel
theorem dd_Mo_rest_51 : decode prog_9_method_6_code 51 = .ok (.getfield 16, 3) := by decide +kernel
theorem dd_Mo_rest_54 : decode prog_9_method_6_code 54 = .ok (.iload_n 3, 1) := by decide +kernel
theorem dd_Mo_rest_55 : decode prog_9_method_6_code 55 = .ok (.iaload, 1) := by decide +kernel
theorem dd_Mo_rest_56 : decode prog_9_method_6_code 56 = .ok (.aload_n 0, 1) := by decide +kernel
theorem dd_Mo_rest_57 : decode prog_9_method_6_code 57 = .ok (.getfield 68, 3) := by decide +kernel
theorem dd_Mo_rest_60 : decode prog_9_method_6_code 60 = .ok (.iload_n 3, 1) := by decide +kernel
theorem dd_Mo_rest_61 : decode prog_9_method_6_code 61 = .ok (.iaload, 1) := by decide +kernel
theorem dd_Mo_rest_62 : decode prog_9_method_6_code 62 = .ok (.isub, 1) := by decide +kernel
theorem dd_Mo_rest_63 : decode prog_9_method_6_code 63 = .ok (.iload_n 2, 1) := by decide +kernel
theorem dd_Mo_rest_64 : decode prog_9_method_6_code 64 = .ok (.if_icmp .ge 19, 3) := by decide +kernel
theorem dd_Mo_rest_67 : decode prog_9_method_6_code 67 = .ok (.aload_n 0, 1) := by decide +kernel
theorem dd_Mo_rest_68 : decode prog_9_method_6_code 68 = .ok (.getfield 16, 3) := by decide +kernel
theorem dd_Mo_rest_71 : decode prog_9_method_6_code 71 = .ok (.iload_n 3, 1) := by decide +kernel
theorem dd_Mo_rest_72 : decode prog_9_method_6_code 72 = .ok (.iaload, 1) := by decide +kernel
theorem dd_Mo_rest_73 : decode prog_9_method_6_code 73 = .ok (.aload_n 0, 1) := by decide +kernel
theorem dd_Mo_rest_74 : decode prog_9_method_6_code 74 = .ok (.getfield 68, 3) := by decide +kernel
theorem dd_Mo_rest_77 : decode prog_9_method_6_code 77 = .ok (.iload_n 3, 1) := by decide +kernel
theorem dd_Mo_rest_78 : decode prog_9_method_6_code 78 = .ok (.iaload, 1) := by decide +kernel
theorem dd_Mo_rest_79 : decode prog_9_method_6_code 79 = .ok (.isub, 1) := by decide +kernel
theorem dd_Mo_rest_80 : decode prog_9_method_6_code 80 = .ok (.goto 4, 3) := by decide +kernel
theorem dd_Mo_rest_83 : decode prog_9_method_6_code 83 = .ok (.iload_n 2, 1) := by decide +kernel
theorem dd_Mo_rest_84 : decode prog_9_method_6_code 84 = .ok (.istore_n 2, 1) := by decide +kernel
theorem dd_Mo_rest_85 : decode prog_9_method_6_code 85 = .ok (.iinc 4 1, 3) := by decide +kernel
theorem dd_Mo_rest_88 : decode prog_9_method_6_code 88 = .ok (.goto (-65), 3) := by decide +kernel
theorem dd_Mo_rest_91 : decode prog_9_method_6_code 91 = .ok (.iload_n 2, 1) := by decide +kernel
theorem dd_Mo_rest_92 : decode prog_9_method_6_code 92 = .ok (.ireturn, 1) := by decide +kernel
theorem dd_Mo_work_0 : decode prog_9_method_5_code 0 = .ok (.bipush 7, 2) := by decide +kernel
theorem dd_Mo_work_2 : decode prog_9_method_5_code 2 = .ok (.istore_n 1, 1) := by decide +kernel
theorem dd_Mo_work_3 : decode prog_9_method_5_code 3 = .ok (.iload_n 1, 1) := by decide +kernel
theorem dd_Mo_work_4 : decode prog_9_method_5_code 4 = .ok (.ifCond .lt 232, 3) := by decide +kernel
theorem dd_Mo_work_7 : decode prog_9_method_5_code 7 = .ok (.iconst 0, 1) := by decide +kernel
theorem dd_Mo_work_8 : decode prog_9_method_5_code 8 = .ok (.istore_n 2, 1) := by decide +kernel
theorem dd_Mo_work_9 : decode prog_9_method_5_code 9 = .ok (.iconst 0, 1) := by decide +kernel
theorem dd_Mo_work_10 : decode prog_9_method_5_code 10 = .ok (.istore_n 3, 1) := by decide +kernel
theorem dd_Mo_work_11 : decode prog_9_method_5_code 11 = .ok (.iload_n 3, 1) := by decide +kernel
theorem dd_Mo_work_12 : decode prog_9_method_5_code 12 = .ok (.bipush 24, 2) := by decide +kernel
theorem dd_Mo_work_14 : decode prog_9_method_5_code 14 = .ok (.if_icmp .ge 46, 3) := by decide +kernel
theorem dd_Mo_work_17 : decode prog_9_method_5_code 17 = .ok (.aload_n 0, 1) := by decide +kernel
theorem dd_Mo_work_18 : decode prog_9_method_5_code 18 = .ok (.getfield 41, 3) := by decide +kernel
theorem dd_Mo_work_21 : decode prog_9_method_5_code 21 = .ok (.iload_n 3, 1) := by decide +kernel
theorem dd_Mo_work_22 : decode prog_9_method_5_code 22 = .ok (.iaload, 1) := by decide +kernel
theorem dd_Mo_work_23 : decode prog_9_method_5_code 23 = .ok (.ifCond .le 31, 3) := by decide +kernel
theorem dd_Mo_work_26 : decode prog_9_method_5_code 26 = .ok (.aload_n 0, 1) := by decide +kernel
theorem dd_Mo_work_27 : decode prog_9_method_5_code 27 = .ok (.aload_n 0, 1) := by decide +kernel
theorem dd_Mo_work_28 : decode prog_9_method_5_code 28 = .ok (.getfield 41, 3) := by decide +kernel
theorem dd_Mo_work_31 : decode prog_9_method_5_code 31 = .ok (.iload_n 3, 1) := by decide +kernel
theorem dd_Mo_work_32 : decode prog_9_method_5_code 32 = .ok (.iaload, 1) := by decide +kernel
theorem dd_Mo_work_33 : decode prog_9_method_5_code 33 = .ok (.iconst 1, 1) := by decide +kernel
theorem dd_Mo_work_34 : decode prog_9_method_5_code 34 = .ok (.isub, 1) := by decide +kernel
theorem dd_Mo_work_35 : decode prog_9_method_5_code 35 = .ok (.invokevirtual 81, 3) := by decide +kernel
theorem dd_Mo_work_38 : decode prog_9_method_5_code 38 = .ok (.ifCond .ne 16, 3) := by decide +kernel
theorem dd_Mo_work_41 : decode prog_9_method_5_code 41 = .ok (.aload_n 0, 1) := by decide +kernel
theorem dd_Mo_work_42 : decode prog_9_method_5_code 42 = .ok (.getfield 44, 3) := by decide +kernel
theorem dd_Mo_work_45 : decode prog_9_method_5_code 45 = .ok (.iload_n 3, 1) := by decide +kernel
theorem dd_Mo_work_46 : decode prog_9_method_5_code 46 = .ok (.iaload, 1) := by decide +kernel
theorem dd_Mo_work_47 : decode prog_9_method_5_code 47 = .ok (.iload_n 1, 1) := by decide +kernel
theorem dd_Mo_work_48 : decode prog_9_method_5_code 48 = .ok (.if_icmp .ne 6, 3) := by decide +kernel
theorem dd_Mo_work_51 : decode prog_9_method_5_code 51 = .ok (.iinc 2 1, 3) := by decide +kernel
theorem dd_Mo_work_54 : decode prog_9_method_5_code 54 = .ok (.iinc 3 1, 3) := by decide +kernel
theorem dd_Mo_work_57 : decode prog_9_method_5_code 57 = .ok (.goto (-46), 3) := by decide +kernel
theorem dd_Mo_work_60 : decode prog_9_method_5_code 60 = .ok (.iconst 0, 1) := by decide +kernel
theorem dd_Mo_work_61 : decode prog_9_method_5_code 61 = .ok (.istore_n 3, 1) := by decide +kernel
theorem dd_Mo_work_62 : decode prog_9_method_5_code 62 = .ok (.iload_n 3, 1) := by decide +kernel
theorem dd_Mo_work_63 : decode prog_9_method_5_code 63 = .ok (.iconst 4, 1) := by decide +kernel
theorem dd_Mo_work_64 : decode prog_9_method_5_code 64 = .ok (.if_icmp .ge 37, 3) := by decide +kernel
theorem dd_Mo_work_67 : decode prog_9_method_5_code 67 = .ok (.iload_n 2, 1) := by decide +kernel
theorem dd_Mo_work_68 : decode prog_9_method_5_code 68 = .ok (.aload_n 0, 1) := by decide +kernel
theorem dd_Mo_work_69 : decode prog_9_method_5_code 69 = .ok (.getfield 62, 3) := by decide +kernel
theorem dd_Mo_work_72 : decode prog_9_method_5_code 72 = .ok (.iconst 4, 1) := by decide +kernel
theorem dd_Mo_work_73 : decode prog_9_method_5_code 73 = .ok (.iload_n 1, 1) := by decide +kernel
theorem dd_Mo_work_74 : decode prog_9_method_5_code 74 = .ok (.imul, 1) := by decide +kernel
theorem dd_Mo_work_75 : decode prog_9_method_5_code 75 = .ok (.iload_n 3, 1) := by decide +kernel
theorem dd_Mo_work_76 : decode prog_9_method_5_code 76 = .ok (.iadd, 1) := by decide +kernel
theorem dd_Mo_work_77 : decode prog_9_method_5_code 77 = .ok (.baload, 1) := by decide +kernel
theorem dd_Mo_work_78 : decode prog_9_method_5_code 78 = .ok (.ifCond .eq 14, 3) := by decide +kernel
theorem dd_Mo_work_81 : decode prog_9_method_5_code 81 = .ok (.aload_n 0, 1) := by decide +kernel
theorem dd_Mo_work_82 : decode prog_9_method_5_code 82 = .ok (.bipush 9, 2) := by decide +kernel
theorem dd_Mo_work_84 : decode prog_9_method_5_code 84 = .ok (.iload_n 3, 1) := by decide +kernel
theorem dd_Mo_work_85 : decode prog_9_method_5_code 85 = .ok (.iadd, 1) := by decide +kernel
theorem dd_Mo_work_86 : decode prog_9_method_5_code 86 = .ok (.invokevirtual 85, 3) := by decide +kernel
theorem dd_Mo_work_89 : decode prog_9_method_5_code 89 = .ok (.goto 4, 3) := by decide +kernel
theorem dd_Mo_work_92 : decode prog_9_method_5_code 92 = .ok (.iconst 0, 1) := by decide +kernel
theorem dd_Mo_work_93 : decode prog_9_method_5_code 93 = .ok (.iadd, 1) := by decide +kernel
theorem dd_Mo_work_94 : decode prog_9_method_5_code 94 = .ok (.istore_n 2, 1) := by decide +kernel
theorem dd_Mo_work_95 : decode prog_9_method_5_code 95 = .ok (.iinc 3 1, 3) := by decide +kernel
theorem dd_Mo_work_98 : decode prog_9_method_5_code 98 = .ok (.goto (-36), 3) := by decide +kernel
theorem dd_Mo_work_101 : decode prog_9_method_5_code 101 = .ok (.iconst 0, 1) := by decide +kernel
theorem dd_Mo_work_102 : decode prog_9_method_5_code 102 = .ok (.istore_n 3, 1) := by decide +kernel
theorem dd_Mo_work_103 : decode prog_9_method_5_code 103 = .ok (.iconst 0, 1) := by decide +kernel
theorem dd_Mo_work_104 : decode prog_9_method_5_code 104 = .ok (.istore 4, 2) := by decide +kernel
theorem dd_Mo_work_106 : decode prog_9_method_5_code 106 = .ok (.iload_n 1, 1) := by decide +kernel
theorem dd_Mo_work_107 : decode prog_9_method_5_code 107 = .ok (.iconst 1, 1) := by decide +kernel
theorem dd_Mo_work_108 : decode prog_9_method_5_code 108 = .ok (.iadd, 1) := by decide +kernel
theorem dd_Mo_work_109 : decode prog_9_method_5_code 109 = .ok (.istore 5, 2) := by decide +kernel
theorem dd_Mo_work_111 : decode prog_9_method_5_code 111 = .ok (.iload 5, 2) := by decide +kernel
theorem dd_Mo_work_113 : decode prog_9_method_5_code 113 = .ok (.bipush 8, 2) := by decide +kernel
theorem dd_Mo_work_115 : decode prog_9_method_5_code 115 = .ok (.if_icmp .ge 74, 3) := by decide +kernel
theorem dd_Mo_work_118 : decode prog_9_method_5_code 118 = .ok (.aload_n 0, 1) := by decide +kernel
theorem dd_Mo_work_119 : decode prog_9_method_5_code 119 = .ok (.getfield 7, 3) := by decide +kernel
theorem dd_Mo_work_122 : decode prog_9_method_5_code 122 = .ok (.iload 5, 2) := by decide +kernel
theorem dd_Mo_work_124 : decode prog_9_method_5_code 124 = .ok (.iaload, 1) := by decide +kernel
theorem dd_Mo_work_125 : decode prog_9_method_5_code 125 = .ok (.ifCond .le 58, 3) := by decide +kernel
theorem dd_Mo_work_128 : decode prog_9_method_5_code 128 = .ok (.aload_n 0, 1) := by decide +kernel
theorem dd_Mo_work_129 : decode prog_9_method_5_code 129 = .ok (.getfield 13, 3) := by decide +kernel
theorem dd_Mo_work_132 : decode prog_9_method_5_code 132 = .ok (.iload 5, 2) := by decide +kernel
theorem dd_Mo_work_134 : decode prog_9_method_5_code 134 = .ok (.iaload, 1) := by decide +kernel
theorem dd_Mo_work_135 : decode prog_9_method_5_code 135 = .ok (.iload_n 1, 1) := by decide +kernel
theorem dd_Mo_work_136 : decode prog_9_method_5_code 136 = .ok (.if_icmp .ne 47, 3) := by decide +kernel
theorem dd_Mo_work_139 : decode prog_9_method_5_code 139 = .ok (.aload_n 0, 1) := by decide +kernel
theorem dd_Mo_work_140 : decode prog_9_method_5_code 140 = .ok (.getfield 71, 3) := by decide +kernel
theorem dd_Mo_work_143 : decode prog_9_method_5_code 143 = .ok (.iload 5, 2) := by decide +kernel
theorem dd_Mo_work_145 : decode prog_9_method_5_code 145 = .ok (.baload, 1) := by decide +kernel
theorem dd_Mo_work_146 : decode prog_9_method_5_code 146 = .ok (.ifCond .eq 37, 3) := by decide +kernel
theorem dd_Mo_work_149 : decode prog_9_method_5_code 149 = .ok (.iconst 1, 1) := by decide +kernel
theorem dd_Mo_work_150 : decode prog_9_method_5_code 150 = .ok (.istore_n 3, 1) := by decide +kernel
theorem dd_Mo_work_151 : decode prog_9_method_5_code 151 = .ok (.iload 4, 2) := by decide +kernel
theorem dd_Mo_work_153 : decode prog_9_method_5_code 153 = .ok (.aload_n 0, 1) := by decide +kernel
theorem dd_Mo_work_154 : decode prog_9_method_5_code 154 = .ok (.getfield 19, 3) := by decide +kernel
theorem dd_Mo_work_157 : decode prog_9_method_5_code 157 = .ok (.iload 5, 2) := by decide +kernel
theorem dd_Mo_work_159 : decode prog_9_method_5_code 159 = .ok (.baload, 1) := by decide +kernel
theorem dd_Mo_work_160 : decode prog_9_method_5_code 160 = .ok (.ifCond .eq 13, 3) := by decide +kernel
theorem dd_Mo_work_163 : decode prog_9_method_5_code 163 = .ok (.aload_n 0, 1) := by decide +kernel
theorem dd_Mo_work_164 : decode prog_9_method_5_code 164 = .ok (.getfield 16, 3) := by decide +kernel
theorem dd_Mo_work_167 : decode prog_9_method_5_code 167 = .ok (.iload 5, 2) := by decide +kernel
theorem dd_Mo_work_169 : decode prog_9_method_5_code 169 = .ok (.iaload, 1) := by decide +kernel
theorem dd_Mo_work_170 : decode prog_9_method_5_code 170 = .ok (.goto 10, 3) := by decide +kernel
theorem dd_Mo_work_173 : decode prog_9_method_5_code 173 = .ok (.aload_n 0, 1) := by decide +kernel
theorem dd_Mo_work_174 : decode prog_9_method_5_code 174 = .ok (.getfield 68, 3) := by decide +kernel
theorem dd_Mo_work_177 : decode prog_9_method_5_code 177 = .ok (.iload 5, 2) := by decide +kernel
theorem dd_Mo_work_179 : decode prog_9_method_5_code 179 = .ok (.iaload, 1) := by decide +kernel
theorem dd_Mo_work_180 : decode prog_9_method_5_code 180 = .ok (.iadd, 1) := by decide +kernel
theorem dd_Mo_work_181 : decode prog_9_method_5_code 181 = .ok (.istore 4, 2) := by decide +kernel
theorem dd_Mo_work_183 : decode prog_9_method_5_code 183 = .ok (.iinc 5 1, 3) := by decide +kernel
theorem dd_Mo_work_186 : decode prog_9_method_5_code 186 = .ok (.goto (-75), 3) := by decide +kernel
theorem dd_Mo_work_189 : decode prog_9_method_5_code 189 = .ok (.aload_n 0, 1) := by decide +kernel
theorem dd_Mo_work_190 : decode prog_9_method_5_code 190 = .ok (.getfield 68, 3) := by decide +kernel
theorem dd_Mo_work_193 : decode prog_9_method_5_code 193 = .ok (.iload_n 1, 1) := by decide +kernel
theorem dd_Mo_work_194 : decode prog_9_method_5_code 194 = .ok (.iload_n 2, 1) := by decide +kernel
theorem dd_Mo_work_195 : decode prog_9_method_5_code 195 = .ok (.iload 4, 2) := by decide +kernel
theorem dd_Mo_work_197 : decode prog_9_method_5_code 197 = .ok (.iadd, 1) := by decide +kernel
theorem dd_Mo_work_198 : decode prog_9_method_5_code 198 = .ok (.iastore, 1) := by decide +kernel
theorem dd_Mo_work_199 : decode prog_9_method_5_code 199 = .ok (.aload_n 0, 1) := by decide +kernel
theorem dd_Mo_work_200 : decode prog_9_method_5_code 200 = .ok (.getfield 71, 3) := by decide +kernel
theorem dd_Mo_work_203 : decode prog_9_method_5_code 203 = .ok (.iload_n 1, 1) := by decide +kernel
theorem dd_Mo_work_204 : decode prog_9_method_5_code 204 = .ok (.iload_n 1, 1) := by decide +kernel
theorem dd_Mo_work_205 : decode prog_9_method_5_code 205 = .ok (.ifCond .eq 19, 3) := by decide +kernel
theorem dd_Mo_work_208 : decode prog_9_method_5_code 208 = .ok (.aload_n 0, 1) := by decide +kernel
theorem dd_Mo_work_209 : decode prog_9_method_5_code 209 = .ok (.iload_n 1, 1) := by decide +kernel
theorem dd_Mo_work_210 : decode prog_9_method_5_code 210 = .ok (.invokevirtual 89, 3) := by decide +kernel
theorem dd_Mo_work_213 : decode prog_9_method_5_code 213 = .ok (.ifCond .ne 11, 3) := by decide +kernel
theorem dd_Mo_work_216 : decode prog_9_method_5_code 216 = .ok (.iload_n 2, 1) := by decide +kernel
theorem dd_Mo_work_217 : decode prog_9_method_5_code 217 = .ok (.ifCond .gt 7, 3) := by decide +kernel
theorem dd_Mo_work_220 : decode prog_9_method_5_code 220 = .ok (.iload_n 3, 1) := by decide +kernel
theorem dd_Mo_work_221 : decode prog_9_method_5_code 221 = .ok (.ifCond .eq 7, 3) := by decide +kernel
theorem dd_Mo_work_224 : decode prog_9_method_5_code 224 = .ok (.iconst 1, 1) := by decide +kernel
theorem dd_Mo_work_225 : decode prog_9_method_5_code 225 = .ok (.goto 4, 3) := by decide +kernel
theorem dd_Mo_work_228 : decode prog_9_method_5_code 228 = .ok (.iconst 0, 1) := by decide +kernel
theorem dd_Mo_work_229 : decode prog_9_method_5_code 229 = .ok (.bastore, 1) := by decide +kernel
theorem dd_Mo_work_230 : decode prog_9_method_5_code 230 = .ok (.iinc 1 (-1), 3) := by decide +kernel
theorem dd_Mo_work_233 : decode prog_9_method_5_code 233 = .ok (.goto (-230), 3) := by decide +kernel
theorem dd_Mo_work_236 : decode prog_9_method_5_code 236 = .ok (.return_, 1) := by decide +kernel
theorem dd_Mo_frozen_0 : decode prog_9_method_4_code 0 = .ok (.iload_n 1, 1) := by decide +kernel
theorem dd_Mo_frozen_1 : decode prog_9_method_4_code 1 = .ok (.bipush 9, 2) := by decide +kernel
theorem dd_Mo_frozen_3 : decode prog_9_method_4_code 3 = .ok (.if_icmp .lt 26, 3) := by decide +kernel
theorem dd_Mo_frozen_6 : decode prog_9_method_4_code 6 = .ok (.iload_n 1, 1) := by decide +kernel
theorem dd_Mo_frozen_7 : decode prog_9_method_4_code 7 = .ok (.bipush 12, 2) := by decide +kernel
theorem dd_Mo_frozen_9 : decode prog_9_method_4_code 9 = .ok (.if_icmp .gt 20, 3) := by decide +kernel
theorem dd_Mo_frozen_12 : decode prog_9_method_4_code 12 = .ok (.aload_n 0, 1) := by decide +kernel
theorem dd_Mo_frozen_13 : decode prog_9_method_4_code 13 = .ok (.getfield 50, 3) := by decide +kernel
theorem dd_Mo_frozen_16 : decode prog_9_method_4_code 16 = .ok (.iload_n 1, 1) := by decide +kernel
theorem dd_Mo_frozen_17 : decode prog_9_method_4_code 17 = .ok (.bipush 9, 2) := by decide +kernel
theorem dd_Mo_frozen_19 : decode prog_9_method_4_code 19 = .ok (.isub, 1) := by decide +kernel
theorem dd_Mo_frozen_20 : decode prog_9_method_4_code 20 = .ok (.iaload, 1) := by decide +kernel
theorem dd_Mo_frozen_21 : decode prog_9_method_4_code 21 = .ok (.iconst 2, 1) := by decide +kernel
theorem dd_Mo_frozen_22 : decode prog_9_method_4_code 22 = .ok (.if_icmp .ne 7, 3) := by decide +kernel
theorem dd_Mo_frozen_25 : decode prog_9_method_4_code 25 = .ok (.iconst 1, 1) := by decide +kernel
theorem dd_Mo_frozen_26 : decode prog_9_method_4_code 26 = .ok (.goto 4, 3) := by decide +kernel
theorem dd_Mo_frozen_29 : decode prog_9_method_4_code 29 = .ok (.iconst 0, 1) := by decide +kernel
theorem dd_Mo_frozen_30 : decode prog_9_method_4_code 30 = .ok (.ireturn, 1) := by decide +kernel
theorem dd_Mo_pages_0 : decode prog_9_method_31_code 0 = .ok (.iconst 0, 1) := by decide +kernel
theorem dd_Mo_pages_1 : decode prog_9_method_31_code 1 = .ok (.istore_n 2, 1) := by decide +kernel
theorem dd_Mo_pages_2 : decode prog_9_method_31_code 2 = .ok (.iconst 0, 1) := by decide +kernel
theorem dd_Mo_pages_3 : decode prog_9_method_31_code 3 = .ok (.istore_n 3, 1) := by decide +kernel
theorem dd_Mo_pages_4 : decode prog_9_method_31_code 4 = .ok (.iload_n 3, 1) := by decide +kernel
theorem dd_Mo_pages_5 : decode prog_9_method_31_code 5 = .ok (.bipush 24, 2) := by decide +kernel
theorem dd_Mo_pages_7 : decode prog_9_method_31_code 7 = .ok (.if_icmp .ge 39, 3) := by decide +kernel
theorem dd_Mo_pages_10 : decode prog_9_method_31_code 10 = .ok (.iload_n 2, 1) := by decide +kernel
theorem dd_Mo_pages_11 : decode prog_9_method_31_code 11 = .ok (.iload_n 1, 1) := by decide +kernel
theorem dd_Mo_pages_12 : decode prog_9_method_31_code 12 = .ok (.ifCond .lt 25, 3) := by decide +kernel
theorem dd_Mo_pages_15 : decode prog_9_method_31_code 15 = .ok (.iload_n 1, 1) := by decide +kernel
theorem dd_Mo_pages_16 : decode prog_9_method_31_code 16 = .ok (.bipush 13, 2) := by decide +kernel
theorem dd_Mo_pages_18 : decode prog_9_method_31_code 18 = .ok (.if_icmp .ge 19, 3) := by decide +kernel
theorem dd_Mo_pages_21 : decode prog_9_method_31_code 21 = .ok (.aload_n 0, 1) := by decide +kernel
theorem dd_Mo_pages_22 : decode prog_9_method_31_code 22 = .ok (.getfield 41, 3) := by decide +kernel
theorem dd_Mo_pages_25 : decode prog_9_method_31_code 25 = .ok (.iload_n 3, 1) := by decide +kernel
theorem dd_Mo_pages_26 : decode prog_9_method_31_code 26 = .ok (.iaload, 1) := by decide +kernel
theorem dd_Mo_pages_27 : decode prog_9_method_31_code 27 = .ok (.iload_n 1, 1) := by decide +kernel
theorem dd_Mo_pages_28 : decode prog_9_method_31_code 28 = .ok (.iconst 1, 1) := by decide +kernel
theorem dd_Mo_pages_29 : decode prog_9_method_31_code 29 = .ok (.iadd, 1) := by decide +kernel
theorem dd_Mo_pages_30 : decode prog_9_method_31_code 30 = .ok (.if_icmp .ne 7, 3) := by decide +kernel
theorem dd_Mo_pages_33 : decode prog_9_method_31_code 33 = .ok (.iconst 1, 1) := by decide +kernel
theorem dd_Mo_pages_34 : decode prog_9_method_31_code 34 = .ok (.goto 4, 3) := by decide +kernel
theorem dd_Mo_pages_37 : decode prog_9_method_31_code 37 = .ok (.iconst 0, 1) := by decide +kernel
theorem dd_Mo_pages_38 : decode prog_9_method_31_code 38 = .ok (.iadd, 1) := by decide +kernel
theorem dd_Mo_pages_39 : decode prog_9_method_31_code 39 = .ok (.istore_n 2, 1) := by decide +kernel
theorem dd_Mo_pages_40 : decode prog_9_method_31_code 40 = .ok (.iinc 3 1, 3) := by decide +kernel
theorem dd_Mo_pages_43 : decode prog_9_method_31_code 43 = .ok (.goto (-39), 3) := by decide +kernel
theorem dd_Mo_pages_46 : decode prog_9_method_31_code 46 = .ok (.iload_n 2, 1) := by decide +kernel
theorem dd_Mo_pages_47 : decode prog_9_method_31_code 47 = .ok (.ireturn, 1) := by decide +kernel
theorem dd_Mo_kill_0 : decode prog_9_method_18_code 0 = .ok (.aload_n 0, 1) := by decide +kernel
theorem dd_Mo_kill_1 : decode prog_9_method_18_code 1 = .ok (.iload_n 1, 1) := by decide +kernel
theorem dd_Mo_kill_2 : decode prog_9_method_18_code 2 = .ok (.invokevirtual 89, 3) := by decide +kernel
theorem dd_Mo_kill_5 : decode prog_9_method_18_code 5 = .ok (.ifCond .eq 17, 3) := by decide +kernel
theorem dd_Mo_kill_8 : decode prog_9_method_18_code 8 = .ok (.iload_n 1, 1) := by decide +kernel
theorem dd_Mo_kill_9 : decode prog_9_method_18_code 9 = .ok (.ifCond .eq 13, 3) := by decide +kernel
theorem dd_Mo_kill_12 : decode prog_9_method_18_code 12 = .ok (.aload_n 0, 1) := by decide +kernel
theorem dd_Mo_kill_13 : decode prog_9_method_18_code 13 = .ok (.getfield 7, 3) := by decide +kernel
theorem dd_Mo_kill_16 : decode prog_9_method_18_code 16 = .ok (.iload_n 1, 1) := by decide +kernel
theorem dd_Mo_kill_17 : decode prog_9_method_18_code 17 = .ok (.iaload, 1) := by decide +kernel
theorem dd_Mo_kill_18 : decode prog_9_method_18_code 18 = .ok (.iconst 3, 1) := by decide +kernel
theorem dd_Mo_kill_19 : decode prog_9_method_18_code 19 = .ok (.if_icmp .ne 5, 3) := by decide +kernel
theorem dd_Mo_kill_22 : decode prog_9_method_18_code 22 = .ok (.iconst 0, 1) := by decide +kernel
theorem dd_Mo_kill_23 : decode prog_9_method_18_code 23 = .ok (.ireturn, 1) := by decide +kernel
theorem dd_Mo_kill_24 : decode prog_9_method_18_code 24 = .ok (.aload_n 0, 1) := by decide +kernel
theorem dd_Mo_kill_25 : decode prog_9_method_18_code 25 = .ok (.getfield 7, 3) := by decide +kernel
theorem dd_Mo_kill_28 : decode prog_9_method_18_code 28 = .ok (.iload_n 1, 1) := by decide +kernel
theorem dd_Mo_kill_29 : decode prog_9_method_18_code 29 = .ok (.iaload, 1) := by decide +kernel
theorem dd_Mo_kill_30 : decode prog_9_method_18_code 30 = .ok (.iconst 1, 1) := by decide +kernel
theorem dd_Mo_kill_31 : decode prog_9_method_18_code 31 = .ok (.if_icmp .ne 11, 3) := by decide +kernel
theorem dd_Mo_kill_34 : decode prog_9_method_18_code 34 = .ok (.aload_n 0, 1) := by decide +kernel
theorem dd_Mo_kill_35 : decode prog_9_method_18_code 35 = .ok (.iload_n 1, 1) := by decide +kernel
theorem dd_Mo_kill_36 : decode prog_9_method_18_code 36 = .ok (.invokevirtual 127, 3) := by decide +kernel
theorem dd_Mo_kill_39 : decode prog_9_method_18_code 39 = .ok (.goto 10, 3) := by decide +kernel
theorem dd_Mo_kill_42 : decode prog_9_method_18_code 42 = .ok (.aload_n 0, 1) := by decide +kernel
theorem dd_Mo_kill_43 : decode prog_9_method_18_code 43 = .ok (.getfield 7, 3) := by decide +kernel
theorem dd_Mo_kill_46 : decode prog_9_method_18_code 46 = .ok (.iload_n 1, 1) := by decide +kernel
theorem dd_Mo_kill_47 : decode prog_9_method_18_code 47 = .ok (.iconst 3, 1) := by decide +kernel
theorem dd_Mo_kill_48 : decode prog_9_method_18_code 48 = .ok (.iastore, 1) := by decide +kernel
theorem dd_Mo_kill_49 : decode prog_9_method_18_code 49 = .ok (.iconst 1, 1) := by decide +kernel
theorem dd_Mo_kill_50 : decode prog_9_method_18_code 50 = .ok (.ireturn, 1) := by decide +kernel
theorem dd_Mo_die_0 : decode prog_9_method_16_code 0 = .ok (.aload_n 0, 1) := by decide +kernel
theorem dd_Mo_die_1 : decode prog_9_method_16_code 1 = .ok (.getfield 7, 3) := by decide +kernel
theorem dd_Mo_die_4 : decode prog_9_method_16_code 4 = .ok (.iload_n 1, 1) := by decide +kernel
theorem dd_Mo_die_5 : decode prog_9_method_16_code 5 = .ok (.iconst 4, 1) := by decide +kernel
theorem dd_Mo_die_6 : decode prog_9_method_16_code 6 = .ok (.iastore, 1) := by decide +kernel
theorem dd_Mo_die_7 : decode prog_9_method_16_code 7 = .ok (.iconst 0, 1) := by decide +kernel
theorem dd_Mo_die_8 : decode prog_9_method_16_code 8 = .ok (.istore_n 2, 1) := by decide +kernel
theorem dd_Mo_die_9 : decode prog_9_method_16_code 9 = .ok (.iload_n 2, 1) := by decide +kernel
theorem dd_Mo_die_10 : decode prog_9_method_16_code 10 = .ok (.iconst 4, 1) := by decide +kernel
theorem dd_Mo_die_11 : decode prog_9_method_16_code 11 = .ok (.if_icmp .ge 68, 3) := by decide +kernel
theorem dd_Mo_die_14 : decode prog_9_method_16_code 14 = .ok (.aload_n 0, 1) := by decide +kernel
theorem dd_Mo_die_15 : decode prog_9_method_16_code 15 = .ok (.getfield 23, 3) := by decide +kernel
theorem dd_Mo_die_18 : decode prog_9_method_16_code 18 = .ok (.iconst 4, 1) := by decide +kernel
theorem dd_Mo_die_19 : decode prog_9_method_16_code 19 = .ok (.iload_n 1, 1) := by decide +kernel
theorem dd_Mo_die_20 : decode prog_9_method_16_code 20 = .ok (.imul, 1) := by decide +kernel
theorem dd_Mo_die_21 : decode prog_9_method_16_code 21 = .ok (.iload_n 2, 1) := by decide +kernel
theorem dd_Mo_die_22 : decode prog_9_method_16_code 22 = .ok (.iadd, 1) := by decide +kernel
theorem dd_Mo_die_23 : decode prog_9_method_16_code 23 = .ok (.iconst 0, 1) := by decide +kernel
theorem dd_Mo_die_24 : decode prog_9_method_16_code 24 = .ok (.iastore, 1) := by decide +kernel
theorem dd_Mo_die_25 : decode prog_9_method_16_code 25 = .ok (.aload_n 0, 1) := by decide +kernel
theorem dd_Mo_die_26 : decode prog_9_method_16_code 26 = .ok (.getfield 59, 3) := by decide +kernel
theorem dd_Mo_die_29 : decode prog_9_method_16_code 29 = .ok (.iconst 4, 1) := by decide +kernel
theorem dd_Mo_die_30 : decode prog_9_method_16_code 30 = .ok (.iload_n 1, 1) := by decide +kernel
theorem dd_Mo_die_31 : decode prog_9_method_16_code 31 = .ok (.imul, 1) := by decide +kernel
theorem dd_Mo_die_32 : decode prog_9_method_16_code 32 = .ok (.iload_n 2, 1) := by decide +kernel
theorem dd_Mo_die_33 : decode prog_9_method_16_code 33 = .ok (.iadd, 1) := by decide +kernel
theorem dd_Mo_die_34 : decode prog_9_method_16_code 34 = .ok (.iconst 0, 1) := by decide +kernel
theorem dd_Mo_die_35 : decode prog_9_method_16_code 35 = .ok (.bastore, 1) := by decide +kernel
theorem dd_Mo_die_36 : decode prog_9_method_16_code 36 = .ok (.aload_n 0, 1) := by decide +kernel
theorem dd_Mo_die_37 : decode prog_9_method_16_code 37 = .ok (.getfield 62, 3) := by decide +kernel
theorem dd_Mo_die_40 : decode prog_9_method_16_code 40 = .ok (.iconst 4, 1) := by decide +kernel
theorem dd_Mo_die_41 : decode prog_9_method_16_code 41 = .ok (.iload_n 1, 1) := by decide +kernel
theorem dd_Mo_die_42 : decode prog_9_method_16_code 42 = .ok (.imul, 1) := by decide +kernel
theorem dd_Mo_die_43 : decode prog_9_method_16_code 43 = .ok (.iload_n 2, 1) := by decide +kernel
theorem dd_Mo_die_44 : decode prog_9_method_16_code 44 = .ok (.iadd, 1) := by decide +kernel
theorem dd_Mo_die_45 : decode prog_9_method_16_code 45 = .ok (.aload_n 0, 1) := by decide +kernel
theorem dd_Mo_die_46 : decode prog_9_method_16_code 46 = .ok (.getfield 50, 3) := by decide +kernel
theorem dd_Mo_die_49 : decode prog_9_method_16_code 49 = .ok (.iload_n 2, 1) := by decide +kernel
theorem dd_Mo_die_50 : decode prog_9_method_16_code 50 = .ok (.iaload, 1) := by decide +kernel
theorem dd_Mo_die_51 : decode prog_9_method_16_code 51 = .ok (.iconst 2, 1) := by decide +kernel
theorem dd_Mo_die_52 : decode prog_9_method_16_code 52 = .ok (.if_icmp .ne 19, 3) := by decide +kernel
theorem dd_Mo_die_55 : decode prog_9_method_16_code 55 = .ok (.aload_n 0, 1) := by decide +kernel
theorem dd_Mo_die_56 : decode prog_9_method_16_code 56 = .ok (.iload_n 1, 1) := by decide +kernel
theorem dd_Mo_die_57 : decode prog_9_method_16_code 57 = .ok (.bipush 9, 2) := by decide +kernel
theorem dd_Mo_die_59 : decode prog_9_method_16_code 59 = .ok (.iload_n 2, 1) := by decide +kernel
