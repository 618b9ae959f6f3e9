/-! decode rows (by program) -/
theorem dd_Mo_reach_90 : decode prog_9_method_11_code 90 = .ok (.iconst 3, 1) := by decide +kernel
theorem dd_Mo_reach_91 : decode prog_9_method_11_code 91 = .ok (.idiv, 1) := by decide +kernel
theorem dd_Mo_reach_92 : decode prog_9_method_11_code 92 = .ok (.baload, 1) := by decide +kernel
theorem dd_Mo_reach_93 : decode prog_9_method_11_code 93 = .ok (.ifCond .eq 41, 3) := by decide +kernel
theorem dd_Mo_reach_96 : decode prog_9_method_11_code 96 = .ok (.iload 5, 2) := by decide +kernel
theorem dd_Mo_reach_98 : decode prog_9_method_11_code 98 = .ok (.ifCond .lt 36, 3) := by decide +kernel
theorem dd_Mo_reach_101 : decode prog_9_method_11_code 101 = .ok (.aload_n 0, 1) := by decide +kernel
theorem dd_Mo_reach_102 : decode prog_9_method_11_code 102 = .ok (.getfield 26, 3) := by decide +kernel
theorem dd_Mo_reach_105 : decode prog_9_method_11_code 105 = .ok (.iload 5, 2) := by decide +kernel
theorem dd_Mo_reach_107 : decode prog_9_method_11_code 107 = .ok (.iaload, 1) := by decide +kernel
theorem dd_Mo_reach_108 : decode prog_9_method_11_code 108 = .ok (.iload_n 1, 1) := by decide +kernel
theorem dd_Mo_reach_109 : decode prog_9_method_11_code 109 = .ok (.iconst 1, 1) := by decide +kernel
theorem dd_Mo_reach_110 : decode prog_9_method_11_code 110 = .ok (.iadd, 1) := by decide +kernel
theorem dd_Mo_reach_111 : decode prog_9_method_11_code 111 = .ok (.if_icmp .ne 23, 3) := by decide +kernel
theorem dd_Mo_reach_114 : decode prog_9_method_11_code 114 = .ok (.aload_n 0, 1) := by decide +kernel
theorem dd_Mo_reach_115 : decode prog_9_method_11_code 115 = .ok (.getfield 74, 3) := by decide +kernel
theorem dd_Mo_reach_118 : decode prog_9_method_11_code 118 = .ok (.iload 5, 2) := by decide +kernel
theorem dd_Mo_reach_120 : decode prog_9_method_11_code 120 = .ok (.baload, 1) := by decide +kernel
theorem dd_Mo_reach_121 : decode prog_9_method_11_code 121 = .ok (.ifCond .ne 13, 3) := by decide +kernel
theorem dd_Mo_reach_124 : decode prog_9_method_11_code 124 = .ok (.aload_n 0, 1) := by decide +kernel
theorem dd_Mo_reach_125 : decode prog_9_method_11_code 125 = .ok (.getfield 74, 3) := by decide +kernel
theorem dd_Mo_reach_128 : decode prog_9_method_11_code 128 = .ok (.iload 5, 2) := by decide +kernel
theorem dd_Mo_reach_130 : decode prog_9_method_11_code 130 = .ok (.iconst 1, 1) := by decide +kernel
theorem dd_Mo_reach_131 : decode prog_9_method_11_code 131 = .ok (.bastore, 1) := by decide +kernel
theorem dd_Mo_reach_132 : decode prog_9_method_11_code 132 = .ok (.iconst 1, 1) := by decide +kernel
theorem dd_Mo_reach_133 : decode prog_9_method_11_code 133 = .ok (.istore_n 2, 1) := by decide +kernel
theorem dd_Mo_reach_134 : decode prog_9_method_11_code 134 = .ok (.iinc 4 1, 3) := by decide +kernel
theorem dd_Mo_reach_137 : decode prog_9_method_11_code 137 = .ok (.goto (-72), 3) := by decide +kernel
theorem dd_Mo_reach_140 : decode prog_9_method_11_code 140 = .ok (.iinc 3 1, 3) := by decide +kernel
theorem dd_Mo_reach_143 : decode prog_9_method_11_code 143 = .ok (.goto (-93), 3) := by decide +kernel
theorem dd_Mo_reach_146 : decode prog_9_method_11_code 146 = .ok (.return_, 1) := by decide +kernel
theorem dd_Mo_root_0 : decode prog_9_method_10_code 0 = .ok (.iconst 0, 1) := by decide +kernel
theorem dd_Mo_root_1 : decode prog_9_method_10_code 1 = .ok (.istore_n 3, 1) := by decide +kernel
theorem dd_Mo_root_2 : decode prog_9_method_10_code 2 = .ok (.iconst 0, 1) := by decide +kernel
theorem dd_Mo_root_3 : decode prog_9_method_10_code 3 = .ok (.istore 4, 2) := by decide +kernel
theorem dd_Mo_root_5 : decode prog_9_method_10_code 5 = .ok (.iload 4, 2) := by decide +kernel
theorem dd_Mo_root_7 : decode prog_9_method_10_code 7 = .ok (.bipush 32, 2) := by decide +kernel
theorem dd_Mo_root_9 : decode prog_9_method_10_code 9 = .ok (.if_icmp .ge 43, 3) := by decide +kernel
theorem dd_Mo_root_12 : decode prog_9_method_10_code 12 = .ok (.iload_n 3, 1) := by decide +kernel
theorem dd_Mo_root_13 : decode prog_9_method_10_code 13 = .ok (.ifCond .ne 27, 3) := by decide +kernel
theorem dd_Mo_root_16 : decode prog_9_method_10_code 16 = .ok (.aload_n 0, 1) := by decide +kernel
theorem dd_Mo_root_17 : decode prog_9_method_10_code 17 = .ok (.iload 4, 2) := by decide +kernel
theorem dd_Mo_root_19 : decode prog_9_method_10_code 19 = .ok (.iconst 4, 1) := by decide +kernel
theorem dd_Mo_root_20 : decode prog_9_method_10_code 20 = .ok (.idiv, 1) := by decide +kernel
theorem dd_Mo_root_21 : decode prog_9_method_10_code 21 = .ok (.invokevirtual 89, 3) := by decide +kernel
theorem dd_Mo_root_24 : decode prog_9_method_10_code 24 = .ok (.ifCond .eq 20, 3) := by decide +kernel
theorem dd_Mo_root_27 : decode prog_9_method_10_code 27 = .ok (.aload_n 0, 1) := by decide +kernel
theorem dd_Mo_root_28 : decode prog_9_method_10_code 28 = .ok (.getfield 23, 3) := by decide +kernel
theorem dd_Mo_root_31 : decode prog_9_method_10_code 31 = .ok (.iload 4, 2) := by decide +kernel
theorem dd_Mo_root_33 : decode prog_9_method_10_code 33 = .ok (.iaload, 1) := by decide +kernel
theorem dd_Mo_root_34 : decode prog_9_method_10_code 34 = .ok (.iload_n 2, 1) := by decide +kernel
theorem dd_Mo_root_35 : decode prog_9_method_10_code 35 = .ok (.iconst 1, 1) := by decide +kernel
theorem dd_Mo_root_36 : decode prog_9_method_10_code 36 = .ok (.iadd, 1) := by decide +kernel
theorem dd_Mo_root_37 : decode prog_9_method_10_code 37 = .ok (.if_icmp .ne 7, 3) := by decide +kernel
theorem dd_Mo_root_40 : decode prog_9_method_10_code 40 = .ok (.iconst 1, 1) := by decide +kernel
theorem dd_Mo_root_41 : decode prog_9_method_10_code 41 = .ok (.goto 4, 3) := by decide +kernel
theorem dd_Mo_root_44 : decode prog_9_method_10_code 44 = .ok (.iconst 0, 1) := by decide +kernel
theorem dd_Mo_root_45 : decode prog_9_method_10_code 45 = .ok (.istore_n 3, 1) := by decide +kernel
theorem dd_Mo_root_46 : decode prog_9_method_10_code 46 = .ok (.iinc 4 1, 3) := by decide +kernel
theorem dd_Mo_root_49 : decode prog_9_method_10_code 49 = .ok (.goto (-44), 3) := by decide +kernel
theorem dd_Mo_root_52 : decode prog_9_method_10_code 52 = .ok (.iconst 0, 1) := by decide +kernel
theorem dd_Mo_root_53 : decode prog_9_method_10_code 53 = .ok (.istore 4, 2) := by decide +kernel
theorem dd_Mo_root_55 : decode prog_9_method_10_code 55 = .ok (.iload 4, 2) := by decide +kernel
theorem dd_Mo_root_57 : decode prog_9_method_10_code 57 = .ok (.bipush 13, 2) := by decide +kernel
theorem dd_Mo_root_59 : decode prog_9_method_10_code 59 = .ok (.if_icmp .ge 40, 3) := by decide +kernel
theorem dd_Mo_root_62 : decode prog_9_method_10_code 62 = .ok (.iload_n 3, 1) := by decide +kernel
theorem dd_Mo_root_63 : decode prog_9_method_10_code 63 = .ok (.ifCond .ne 24, 3) := by decide +kernel
theorem dd_Mo_root_66 : decode prog_9_method_10_code 66 = .ok (.iload 4, 2) := by decide +kernel
theorem dd_Mo_root_68 : decode prog_9_method_10_code 68 = .ok (.iload_n 1, 1) := by decide +kernel
theorem dd_Mo_root_69 : decode prog_9_method_10_code 69 = .ok (.if_icmp .eq 22, 3) := by decide +kernel
theorem dd_Mo_root_72 : decode prog_9_method_10_code 72 = .ok (.aload_n 0, 1) := by decide +kernel
theorem dd_Mo_root_73 : decode prog_9_method_10_code 73 = .ok (.getfield 65, 3) := by decide +kernel
theorem dd_Mo_root_76 : decode prog_9_method_10_code 76 = .ok (.bipush 60, 2) := by decide +kernel
theorem dd_Mo_root_78 : decode prog_9_method_10_code 78 = .ok (.iload 4, 2) := by decide +kernel
theorem dd_Mo_root_80 : decode prog_9_method_10_code 80 = .ok (.imul, 1) := by decide +kernel
theorem dd_Mo_root_81 : decode prog_9_method_10_code 81 = .ok (.iload_n 2, 1) := by decide +kernel
theorem dd_Mo_root_82 : decode prog_9_method_10_code 82 = .ok (.iadd, 1) := by decide +kernel
theorem dd_Mo_root_83 : decode prog_9_method_10_code 83 = .ok (.baload, 1) := by decide +kernel
theorem dd_Mo_root_84 : decode prog_9_method_10_code 84 = .ok (.ifCond .eq 7, 3) := by decide +kernel
theorem dd_Mo_root_87 : decode prog_9_method_10_code 87 = .ok (.iconst 1, 1) := by decide +kernel
theorem dd_Mo_root_88 : decode prog_9_method_10_code 88 = .ok (.goto 4, 3) := by decide +kernel
theorem dd_Mo_root_91 : decode prog_9_method_10_code 91 = .ok (.iconst 0, 1) := by decide +kernel
theorem dd_Mo_root_92 : decode prog_9_method_10_code 92 = .ok (.istore_n 3, 1) := by decide +kernel
theorem dd_Mo_root_93 : decode prog_9_method_10_code 93 = .ok (.iinc 4 1, 3) := by decide +kernel
theorem dd_Mo_root_96 : decode prog_9_method_10_code 96 = .ok (.goto (-41), 3) := by decide +kernel
theorem dd_Mo_root_99 : decode prog_9_method_10_code 99 = .ok (.iload_n 3, 1) := by decide +kernel
theorem dd_Mo_root_100 : decode prog_9_method_10_code 100 = .ok (.ireturn, 1) := by decide +kernel
theorem dd_Mo_inField_0 : decode prog_9_method_12_code 0 = .ok (.iconst 0, 1) := by decide +kernel
theorem dd_Mo_inField_1 : decode prog_9_method_12_code 1 = .ok (.istore_n 3, 1) := by decide +kernel
theorem dd_Mo_inField_2 : decode prog_9_method_12_code 2 = .ok (.iconst 0, 1) := by decide +kernel
theorem dd_Mo_inField_3 : decode prog_9_method_12_code 3 = .ok (.istore 4, 2) := by decide +kernel
theorem dd_Mo_inField_5 : decode prog_9_method_12_code 5 = .ok (.iload 4, 2) := by decide +kernel
theorem dd_Mo_inField_7 : decode prog_9_method_12_code 7 = .ok (.sipush 180, 3) := by decide +kernel
theorem dd_Mo_inField_10 : decode prog_9_method_12_code 10 = .ok (.if_icmp .ge 47, 3) := by decide +kernel
theorem dd_Mo_inField_13 : decode prog_9_method_12_code 13 = .ok (.iload_n 3, 1) := by decide +kernel
theorem dd_Mo_inField_14 : decode prog_9_method_12_code 14 = .ok (.ifCond .ne 31, 3) := by decide +kernel
theorem dd_Mo_inField_17 : decode prog_9_method_12_code 17 = .ok (.aload_n 0, 1) := by decide +kernel
theorem dd_Mo_inField_18 : decode prog_9_method_12_code 18 = .ok (.getfield 26, 3) := by decide +kernel
theorem dd_Mo_inField_21 : decode prog_9_method_12_code 21 = .ok (.iload 4, 2) := by decide +kernel
theorem dd_Mo_inField_23 : decode prog_9_method_12_code 23 = .ok (.iconst 3, 1) := by decide +kernel
theorem dd_Mo_inField_24 : decode prog_9_method_12_code 24 = .ok (.idiv, 1) := by decide +kernel
theorem dd_Mo_inField_25 : decode prog_9_method_12_code 25 = .ok (.iaload, 1) := by decide +kernel
theorem dd_Mo_inField_26 : decode prog_9_method_12_code 26 = .ok (.iload_n 1, 1) := by decide +kernel
theorem dd_Mo_inField_27 : decode prog_9_method_12_code 27 = .ok (.iconst 1, 1) := by decide +kernel
theorem dd_Mo_inField_28 : decode prog_9_method_12_code 28 = .ok (.iadd, 1) := by decide +kernel
theorem dd_Mo_inField_29 : decode prog_9_method_12_code 29 = .ok (.if_icmp .ne 20, 3) := by decide +kernel
theorem dd_Mo_inField_32 : decode prog_9_method_12_code 32 = .ok (.aload_n 0, 1) := by decide +kernel
theorem dd_Mo_inField_33 : decode prog_9_method_12_code 33 = .ok (.getfield 38, 3) := by decide +kernel
theorem dd_Mo_inField_36 : decode prog_9_method_12_code 36 = .ok (.iload 4, 2) := by decide +kernel
theorem dd_Mo_inField_38 : decode prog_9_method_12_code 38 = .ok (.iaload, 1) := by decide +kernel
theorem dd_Mo_inField_39 : decode prog_9_method_12_code 39 = .ok (.iload_n 2, 1) := by decide +kernel
theorem dd_Mo_inField_40 : decode prog_9_method_12_code 40 = .ok (.iconst 1, 1) := by decide +kernel
theorem dd_Mo_inField_41 : decode prog_9_method_12_code 41 = .ok (.iadd, 1) := by decide +kernel
theorem dd_Mo_inField_42 : decode prog_9_method_12_code 42 = .ok (.if_icmp .ne 7, 3) := by decide +kernel
theorem dd_Mo_inField_45 : decode prog_9_method_12_code 45 = .ok (.iconst 1, 1) := by decide +kernel
theorem dd_Mo_inField_46 : decode prog_9_method_12_code 46 = .ok (.goto 4, 3) := by decide +kernel
theorem dd_Mo_inField_49 : decode prog_9_method_12_code 49 = .ok (.iconst 0, 1) := by decide +kernel
theorem dd_Mo_inField_50 : decode prog_9_method_12_code 50 = .ok (.istore_n 3, 1) := by decide +kernel
theorem dd_Mo_inField_51 : decode prog_9_method_12_code 51 = .ok (.iinc 4 1, 3) := by decide +kernel
theorem dd_Mo_inField_54 : decode prog_9_method_12_code 54 = .ok (.goto (-49), 3) := by decide +kernel
theorem dd_Mo_inField_57 : decode prog_9_method_12_code 57 = .ok (.iload_n 3, 1) := by decide +kernel
theorem dd_Mo_inField_58 : decode prog_9_method_12_code 58 = .ok (.ireturn, 1) := by decide +kernel
theorem dd_Mo_holds_0 : decode prog_9_method_9_code 0 = .ok (.iconst 0, 1) := by decide +kernel
theorem dd_Mo_holds_1 : decode prog_9_method_9_code 1 = .ok (.istore_n 3, 1) := by decide +kernel
theorem dd_Mo_holds_2 : decode prog_9_method_9_code 2 = .ok (.iconst 0, 1) := by decide +kernel
theorem dd_Mo_holds_3 : decode prog_9_method_9_code 3 = .ok (.istore 4, 2) := by decide +kernel
theorem dd_Mo_holds_5 : decode prog_9_method_9_code 5 = .ok (.iload 4, 2) := by decide +kernel
theorem dd_Mo_holds_7 : decode prog_9_method_9_code 7 = .ok (.iconst 4, 1) := by decide +kernel
theorem dd_Mo_holds_8 : decode prog_9_method_9_code 8 = .ok (.if_icmp .ge 52, 3) := by decide +kernel
theorem dd_Mo_holds_11 : decode prog_9_method_9_code 11 = .ok (.aload_n 0, 1) := by decide +kernel
theorem dd_Mo_holds_12 : decode prog_9_method_9_code 12 = .ok (.getfield 23, 3) := by decide +kernel
theorem dd_Mo_holds_15 : decode prog_9_method_9_code 15 = .ok (.iconst 4, 1) := by decide +kernel
theorem dd_Mo_holds_16 : decode prog_9_method_9_code 16 = .ok (.iload_n 1, 1) := by decide +kernel
theorem dd_Mo_holds_17 : decode prog_9_method_9_code 17 = .ok (.imul, 1) := by decide +kernel
theorem dd_Mo_holds_18 : decode prog_9_method_9_code 18 = .ok (.iload 4, 2) := by decide +kernel
theorem dd_Mo_holds_20 : decode prog_9_method_9_code 20 = .ok (.iadd, 1) := by decide +kernel
theorem dd_Mo_holds_21 : decode prog_9_method_9_code 21 = .ok (.iaload, 1) := by decide +kernel
theorem dd_Mo_holds_22 : decode prog_9_method_9_code 22 = .ok (.iconst 1, 1) := by decide +kernel
theorem dd_Mo_holds_23 : decode prog_9_method_9_code 23 = .ok (.isub, 1) := by decide +kernel
theorem dd_Mo_holds_24 : decode prog_9_method_9_code 24 = .ok (.istore 5, 2) := by decide +kernel
theorem dd_Mo_holds_26 : decode prog_9_method_9_code 26 = .ok (.iload_n 3, 1) := by decide +kernel
theorem dd_Mo_holds_27 : decode prog_9_method_9_code 27 = .ok (.ifCond .ne 21, 3) := by decide +kernel
theorem dd_Mo_holds_30 : decode prog_9_method_9_code 30 = .ok (.iload 5, 2) := by decide +kernel
theorem dd_Mo_holds_32 : decode prog_9_method_9_code 32 = .ok (.ifCond .lt 20, 3) := by decide +kernel
theorem dd_Mo_holds_35 : decode prog_9_method_9_code 35 = .ok (.aload_n 0, 1) := by decide +kernel
theorem dd_Mo_holds_36 : decode prog_9_method_9_code 36 = .ok (.getfield 26, 3) := by decide +kernel
theorem dd_Mo_holds_39 : decode prog_9_method_9_code 39 = .ok (.iload 5, 2) := by decide +kernel
theorem dd_Mo_holds_41 : decode prog_9_method_9_code 41 = .ok (.iaload, 1) := by decide +kernel
theorem dd_Mo_holds_42 : decode prog_9_method_9_code 42 = .ok (.iload_n 2, 1) := by decide +kernel
theorem dd_Mo_holds_43 : decode prog_9_method_9_code 43 = .ok (.iconst 1, 1) := by decide +kernel
theorem dd_Mo_holds_44 : decode prog_9_method_9_code 44 = .ok (.iadd, 1) := by decide +kernel
theorem dd_Mo_holds_45 : decode prog_9_method_9_code 45 = .ok (.if_icmp .ne 7, 3) := by decide +kernel
theorem dd_Mo_holds_48 : decode prog_9_method_9_code 48 = .ok (.iconst 1, 1) := by decide +kernel
theorem dd_Mo_holds_49 : decode prog_9_method_9_code 49 = .ok (.goto 4, 3) := by decide +kernel
theorem dd_Mo_holds_52 : decode prog_9_method_9_code 52 = .ok (.iconst 0, 1) := by decide +kernel
theorem dd_Mo_holds_53 : decode prog_9_method_9_code 53 = .ok (.istore_n 3, 1) := by decide +kernel
theorem dd_Mo_holds_54 : decode prog_9_method_9_code 54 = .ok (.iinc 4 1, 3) := by decide +kernel
theorem dd_Mo_holds_57 : decode prog_9_method_9_code 57 = .ok (.goto (-52), 3) := by decide +kernel
theorem dd_Mo_holds_60 : decode prog_9_method_9_code 60 = .ok (.iload_n 3, 1) := by decide +kernel
theorem dd_Mo_holds_61 : decode prog_9_method_9_code 61 = .ok (.ireturn, 1) := by decide +kernel
theorem dd_Mo_store_0 : decode prog_9_method_23_code 0 = .ok (.aload_n 0, 1) := by decide +kernel
theorem dd_Mo_store_1 : decode prog_9_method_23_code 1 = .ok (.iload_n 1, 1) := by decide +kernel
theorem dd_Mo_store_2 : decode prog_9_method_23_code 2 = .ok (.invokevirtual 89, 3) := by decide +kernel
theorem dd_Mo_store_5 : decode prog_9_method_23_code 5 = .ok (.ifCond .eq 27, 3) := by decide +kernel
theorem dd_Mo_store_8 : decode prog_9_method_23_code 8 = .ok (.iload_n 2, 1) := by decide +kernel
theorem dd_Mo_store_9 : decode prog_9_method_23_code 9 = .ok (.invokestatic 134, 3) := by decide +kernel
theorem dd_Mo_store_12 : decode prog_9_method_23_code 12 = .ok (.ifCond .eq 20, 3) := by decide +kernel
theorem dd_Mo_store_15 : decode prog_9_method_23_code 15 = .ok (.iload 4, 2) := by decide +kernel
theorem dd_Mo_store_17 : decode prog_9_method_23_code 17 = .ok (.invokestatic 134, 3) := by decide +kernel
theorem dd_Mo_store_20 : decode prog_9_method_23_code 20 = .ok (.ifCond .eq 12, 3) := by decide +kernel
theorem dd_Mo_store_23 : decode prog_9_method_23_code 23 = .ok (.iload_n 3, 1) := by decide +kernel
theorem dd_Mo_store_24 : decode prog_9_method_23_code 24 = .ok (.ifCond .lt 8, 3) := by decide +kernel
theorem dd_Mo_store_27 : decode prog_9_method_23_code 27 = .ok (.iload_n 3, 1) := by decide +kernel
theorem dd_Mo_store_28 : decode prog_9_method_23_code 28 = .ok (.iconst 2, 1) := by decide +kernel
theorem dd_Mo_store_29 : decode prog_9_method_23_code 29 = .ok (.if_icmp .le 5, 3) := by decide +kernel
theorem dd_Mo_store_32 : decode prog_9_method_23_code 32 = .ok (.iconst (-1), 1) := by decide +kernel
theorem dd_Mo_store_33 : decode prog_9_method_23_code 33 = .ok (.ireturn, 1) := by decide +kernel
theorem dd_Mo_store_34 : decode prog_9_method_23_code 34 = .ok (.aload_n 0, 1) := by decide +kernel
theorem dd_Mo_store_35 : decode prog_9_method_23_code 35 = .ok (.getfield 23, 3) := by decide +kernel
theorem dd_Mo_store_38 : decode prog_9_method_23_code 38 = .ok (.iconst 4, 1) := by decide +kernel
theorem dd_Mo_store_39 : decode prog_9_method_23_code 39 = .ok (.iload_n 1, 1) := by decide +kernel
theorem dd_Mo_store_40 : decode prog_9_method_23_code 40 = .ok (.imul, 1) := by decide +kernel
theorem dd_Mo_store_41 : decode prog_9_method_23_code 41 = .ok (.iload_n 2, 1) := by decide +kernel
theorem dd_Mo_store_42 : decode prog_9_method_23_code 42 = .ok (.iadd, 1) := by decide +kernel
theorem dd_Mo_store_43 : decode prog_9_method_23_code 43 = .ok (.iaload, 1) := by decide +kernel
theorem dd_Mo_store_44 : decode prog_9_method_23_code 44 = .ok (.iconst 1, 1) := by decide +kernel
theorem dd_Mo_store_45 : decode prog_9_method_23_code 45 = .ok (.isub, 1) := by decide +kernel
theorem dd_Mo_store_46 : decode prog_9_method_23_code 46 = .ok (.istore 5, 2) := by decide +kernel
theorem dd_Mo_store_48 : decode prog_9_method_23_code 48 = .ok (.aload_n 0, 1) := by decide +kernel
theorem dd_Mo_store_49 : decode prog_9_method_23_code 49 = .ok (.getfield 23, 3) := by decide +kernel
theorem dd_Mo_store_52 : decode prog_9_method_23_code 52 = .ok (.iconst 4, 1) := by decide +kernel
theorem dd_Mo_store_53 : decode prog_9_method_23_code 53 = .ok (.iload_n 1, 1) := by decide +kernel
theorem dd_Mo_store_54 : decode prog_9_method_23_code 54 = .ok (.imul, 1) := by decide +kernel
theorem dd_Mo_store_55 : decode prog_9_method_23_code 55 = .ok (.iload 4, 2) := by decide +kernel
theorem dd_Mo_store_57 : decode prog_9_method_23_code 57 = .ok (.iadd, 1) := by decide +kernel
theorem dd_Mo_store_58 : decode prog_9_method_23_code 58 = .ok (.iaload, 1) := by decide +kernel
theorem dd_Mo_store_59 : decode prog_9_method_23_code 59 = .ok (.iconst 1, 1) := by decide +kernel
theorem dd_Mo_store_60 : decode prog_9_method_23_code 60 = .ok (.isub, 1) := by decide +kernel
theorem dd_Mo_store_61 : decode prog_9_method_23_code 61 = .ok (.istore 6, 2) := by decide +kernel
theorem dd_Mo_store_63 : decode prog_9_method_23_code 63 = .ok (.iload 5, 2) := by decide +kernel
theorem dd_Mo_store_65 : decode prog_9_method_23_code 65 = .ok (.ifCond .ge 6, 3) := by decide +kernel
theorem dd_Mo_store_68 : decode prog_9_method_23_code 68 = .ok (.bipush (-2), 2) := by decide +kernel
theorem dd_Mo_store_70 : decode prog_9_method_23_code 70 = .ok (.ireturn, 1) := by decide +kernel
theorem dd_Mo_store_71 : decode prog_9_method_23_code 71 = .ok (.aload_n 0, 1) := by decide +kernel
theorem dd_Mo_store_72 : decode prog_9_method_23_code 72 = .ok (.getfield 26, 3) := by decide +kernel
theorem dd_Mo_store_75 : decode prog_9_method_23_code 75 = .ok (.iload 5, 2) := by decide +kernel
theorem dd_Mo_store_77 : decode prog_9_method_23_code 77 = .ok (.iaload, 1) := by decide +kernel
theorem dd_Mo_store_78 : decode prog_9_method_23_code 78 = .ok (.iconst 1, 1) := by decide +kernel
theorem dd_Mo_store_79 : decode prog_9_method_23_code 79 = .ok (.isub, 1) := by decide +kernel
theorem dd_Mo_store_80 : decode prog_9_method_23_code 80 = .ok (.istore 7, 2) := by decide +kernel
theorem dd_Mo_store_82 : decode prog_9_method_23_code 82 = .ok (.iload 6, 2) := by decide +kernel
theorem dd_Mo_store_84 : decode prog_9_method_23_code 84 = .ok (.ifCond .ge 8, 3) := by decide +kernel
theorem dd_Mo_store_87 : decode prog_9_method_23_code 87 = .ok (.iload 7, 2) := by decide +kernel
theorem dd_Mo_store_89 : decode prog_9_method_23_code 89 = .ok (.goto 12, 3) := by decide +kernel
theorem dd_Mo_store_92 : decode prog_9_method_23_code 92 = .ok (.aload_n 0, 1) := by decide +kernel
theorem dd_Mo_store_93 : decode prog_9_method_23_code 93 = .ok (.getfield 26, 3) := by decide +kernel
theorem dd_Mo_store_96 : decode prog_9_method_23_code 96 = .ok (.iload 6, 2) := by decide +kernel
theorem dd_Mo_store_98 : decode prog_9_method_23_code 98 = .ok (.iaload, 1) := by decide +kernel
theorem dd_Mo_store_99 : decode prog_9_method_23_code 99 = .ok (.iconst 1, 1) := by decide +kernel
theorem dd_Mo_store_100 : decode prog_9_method_23_code 100 = .ok (.isub, 1) := by decide +kernel
theorem dd_Mo_store_101 : decode prog_9_method_23_code 101 = .ok (.istore 8, 2) := by decide +kernel
theorem dd_Mo_store_103 : decode prog_9_method_23_code 103 = .ok (.iload 7, 2) := by decide +kernel
theorem dd_Mo_store_105 : decode prog_9_method_23_code 105 = .ok (.iload_n 1, 1) := by decide +kernel
theorem dd_Mo_store_106 : decode prog_9_method_23_code 106 = .ok (.if_icmp .ne 33, 3) := by decide +kernel
theorem dd_Mo_store_109 : decode prog_9_method_23_code 109 = .ok (.iload 8, 2) := by decide +kernel
theorem dd_Mo_store_111 : decode prog_9_method_23_code 111 = .ok (.iload_n 1, 1) := by decide +kernel
theorem dd_Mo_store_112 : decode prog_9_method_23_code 112 = .ok (.if_icmp .eq 19, 3) := by decide +kernel
theorem dd_Mo_store_115 : decode prog_9_method_23_code 115 = .ok (.iload 8, 2) := by decide +kernel
theorem dd_Mo_store_117 : decode prog_9_method_23_code 117 = .ok (.bipush 8, 2) := by decide +kernel
theorem dd_Mo_store_119 : decode prog_9_method_23_code 119 = .ok (.if_icmp .eq 12, 3) := by decide +kernel
theorem dd_Mo_store_122 : decode prog_9_method_23_code 122 = .ok (.aload_n 0, 1) := by decide +kernel
theorem dd_Mo_store_123 : decode prog_9_method_23_code 123 = .ok (.iload 8, 2) := by decide +kernel
theorem dd_Mo_store_125 : decode prog_9_method_23_code 125 = .ok (.invokevirtual 81, 3) := by decide +kernel
theorem dd_Mo_store_128 : decode prog_9_method_23_code 128 = .ok (.ifCond .eq 7, 3) := by decide +kernel
theorem dd_Mo_store_131 : decode prog_9_method_23_code 131 = .ok (.iconst 1, 1) := by decide +kernel
theorem dd_Mo_store_132 : decode prog_9_method_23_code 132 = .ok (.goto 66, 3) := by decide +kernel
theorem dd_Mo_store_135 : decode prog_9_method_23_code 135 = .ok (.iconst 0, 1) := by decide +kernel
theorem dd_Mo_store_136 : decode prog_9_method_23_code 136 = .ok (.goto 62, 3) := by decide +kernel
theorem dd_Mo_store_139 : decode prog_9_method_23_code 139 = .ok (.iload 7, 2) := by decide +kernel
theorem dd_Mo_store_141 : decode prog_9_method_23_code 141 = .ok (.bipush 8, 2) := by decide +kernel
theorem dd_Mo_store_143 : decode prog_9_method_23_code 143 = .ok (.if_icmp .ne 34, 3) := by decide +kernel
theorem dd_Mo_store_146 : decode prog_9_method_23_code 146 = .ok (.aload_n 0, 1) := by decide +kernel
theorem dd_Mo_store_147 : decode prog_9_method_23_code 147 = .ok (.getfield 7, 3) := by decide +kernel
theorem dd_Mo_store_150 : decode prog_9_method_23_code 150 = .ok (.iload_n 1, 1) := by decide +kernel
theorem dd_Mo_store_151 : decode prog_9_method_23_code 151 = .ok (.iaload, 1) := by decide +kernel
theorem dd_Mo_store_152 : decode prog_9_method_23_code 152 = .ok (.iconst 2, 1) := by decide +kernel
theorem dd_Mo_store_153 : decode prog_9_method_23_code 153 = .ok (.if_icmp .lt 20, 3) := by decide +kernel
theorem dd_Mo_store_156 : decode prog_9_method_23_code 156 = .ok (.iload 8, 2) := by decide +kernel
theorem dd_Mo_store_158 : decode prog_9_method_23_code 158 = .ok (.bipush 8, 2) := by decide +kernel
theorem dd_Mo_store_160 : decode prog_9_method_23_code 160 = .ok (.if_icmp .eq 9, 3) := by decide +kernel
theorem dd_Mo_store_163 : decode prog_9_method_23_code 163 = .ok (.iload 8, 2) := by decide +kernel
theorem dd_Mo_store_165 : decode prog_9_method_23_code 165 = .ok (.iload_n 1, 1) := by decide +kernel
theorem dd_Mo_store_166 : decode prog_9_method_23_code 166 = .ok (.if_icmp .ne 7, 3) := by decide +kernel
theorem dd_Mo_store_169 : decode prog_9_method_23_code 169 = .ok (.iconst 1, 1) := by decide +kernel
theorem dd_Mo_store_170 : decode prog_9_method_23_code 170 = .ok (.goto 28, 3) := by decide +kernel
theorem dd_Mo_store_173 : decode prog_9_method_23_code 173 = .ok (.iconst 0, 1) := by decide +kernel
theorem dd_Mo_store_174 : decode prog_9_method_23_code 174 = .ok (.goto 24, 3) := by decide +kernel
theorem dd_Mo_store_177 : decode prog_9_method_23_code 177 = .ok (.aload_n 0, 1) := by decide +kernel
theorem dd_Mo_store_178 : decode prog_9_method_23_code 178 = .ok (.iload 7, 2) := by decide +kernel
theorem dd_Mo_store_180 : decode prog_9_method_23_code 180 = .ok (.invokevirtual 81, 3) := by decide +kernel
theorem dd_Mo_store_183 : decode prog_9_method_23_code 183 = .ok (.ifCond .ne 14, 3) := by decide +kernel
theorem dd_Mo_store_186 : decode prog_9_method_23_code 186 = .ok (.iload 8, 2) := by decide +kernel
theorem dd_Mo_store_188 : decode prog_9_method_23_code 188 = .ok (.iload 7, 2) := by decide +kernel
theorem dd_Mo_store_190 : decode prog_9_method_23_code 190 = .ok (.if_icmp .ne 7, 3) := by decide +kernel
theorem dd_Mo_store_193 : decode prog_9_method_23_code 193 = .ok (.iconst 1, 1) := by decide +kernel
theorem dd_Mo_store_194 : decode prog_9_method_23_code 194 = .ok (.goto 4, 3) := by decide +kernel
theorem dd_Mo_store_197 : decode prog_9_method_23_code 197 = .ok (.iconst 0, 1) := by decide +kernel
theorem dd_Mo_store_198 : decode prog_9_method_23_code 198 = .ok (.istore 9, 2) := by decide +kernel
theorem dd_Mo_store_200 : decode prog_9_method_23_code 200 = .ok (.iload 9, 2) := by decide +kernel
theorem dd_Mo_store_202 : decode prog_9_method_23_code 202 = .ok (.ifCond .ne 6, 3) := by decide +kernel
theorem dd_Mo_store_205 : decode prog_9_method_23_code 205 = .ok (.bipush (-3), 2) := by decide +kernel
theorem dd_Mo_store_207 : decode prog_9_method_23_code 207 = .ok (.ireturn, 1) := by decide +kernel
theorem dd_Mo_store_208 : decode prog_9_method_23_code 208 = .ok (.aload_n 0, 1) := by decide +kernel
theorem dd_Mo_store_209 : decode prog_9_method_23_code 209 = .ok (.getfield 38, 3) := by decide +kernel
theorem dd_Mo_store_212 : decode prog_9_method_23_code 212 = .ok (.iconst 3, 1) := by decide +kernel
theorem dd_Mo_store_213 : decode prog_9_method_23_code 213 = .ok (.iload 5, 2) := by decide +kernel
theorem dd_Mo_store_215 : decode prog_9_method_23_code 215 = .ok (.imul, 1) := by decide +kernel
theorem dd_Mo_store_216 : decode prog_9_method_23_code 216 = .ok (.iload_n 3, 1) := by decide +kernel
theorem dd_Mo_store_217 : decode prog_9_method_23_code 217 = .ok (.iadd, 1) := by decide +kernel
theorem dd_Mo_store_218 : decode prog_9_method_23_code 218 = .ok (.iload 6, 2) := by decide +kernel
theorem dd_Mo_store_220 : decode prog_9_method_23_code 220 = .ok (.iconst 1, 1) := by decide +kernel
theorem dd_Mo_store_221 : decode prog_9_method_23_code 221 = .ok (.iadd, 1) := by decide +kernel
theorem dd_Mo_store_222 : decode prog_9_method_23_code 222 = .ok (.iastore, 1) := by decide +kernel
theorem dd_Mo_store_223 : decode prog_9_method_23_code 223 = .ok (.iload 8, 2) := by decide +kernel
theorem dd_Mo_store_225 : decode prog_9_method_23_code 225 = .ok (.iload 7, 2) := by decide +kernel
theorem dd_Mo_store_227 : decode prog_9_method_23_code 227 = .ok (.if_icmp .eq 17, 3) := by decide +kernel
theorem dd_Mo_store_230 : decode prog_9_method_23_code 230 = .ok (.aload_n 0, 1) := by decide +kernel
theorem dd_Mo_store_231 : decode prog_9_method_23_code 231 = .ok (.getfield 65, 3) := by decide +kernel
theorem dd_Mo_store_234 : decode prog_9_method_23_code 234 = .ok (.bipush 60, 2) := by decide +kernel
theorem dd_Mo_store_236 : decode prog_9_method_23_code 236 = .ok (.iload 7, 2) := by decide +kernel
theorem dd_Mo_store_238 : decode prog_9_method_23_code 238 = .ok (.imul, 1) := by decide +kernel
theorem dd_Mo_store_239 : decode prog_9_method_23_code 239 = .ok (.iload 6, 2) := by decide +kernel
theorem dd_Mo_store_241 : decode prog_9_method_23_code 241 = .ok (.iadd, 1) := by decide +kernel
theorem dd_Mo_store_242 : decode prog_9_method_23_code 242 = .ok (.iconst 1, 1) := by decide +kernel
theorem dd_Mo_store_243 : decode prog_9_method_23_code 243 = .ok (.bastore, 1) := by decide +kernel
theorem dd_Mo_store_244 : decode prog_9_method_23_code 244 = .ok (.iconst 0, 1) := by decide +kernel
theorem dd_Mo_store_245 : decode prog_9_method_23_code 245 = .ok (.ireturn, 1) := by decide +kernel
theorem dd_Mo_load_0 : decode prog_9_method_24_code 0 = .ok (.aload_n 0, 1) := by decide +kernel
theorem dd_Mo_load_1 : decode prog_9_method_24_code 1 = .ok (.iload_n 1, 1) := by decide +kernel
theorem dd_Mo_load_2 : decode prog_9_method_24_code 2 = .ok (.invokevirtual 89, 3) := by decide +kernel
theorem dd_Mo_load_5 : decode prog_9_method_24_code 5 = .ok (.ifCond .eq 28, 3) := by decide +kernel
theorem dd_Mo_load_8 : decode prog_9_method_24_code 8 = .ok (.iload_n 2, 1) := by decide +kernel
theorem dd_Mo_load_9 : decode prog_9_method_24_code 9 = .ok (.invokestatic 134, 3) := by decide +kernel
theorem dd_Mo_load_12 : decode prog_9_method_24_code 12 = .ok (.ifCond .eq 21, 3) := by decide +kernel
theorem dd_Mo_load_15 : decode prog_9_method_24_code 15 = .ok (.iload_n 3, 1) := by decide +kernel
theorem dd_Mo_load_16 : decode prog_9_method_24_code 16 = .ok (.invokestatic 134, 3) := by decide +kernel
theorem dd_Mo_load_19 : decode prog_9_method_24_code 19 = .ok (.ifCond .eq 14, 3) := by decide +kernel
theorem dd_Mo_load_22 : decode prog_9_method_24_code 22 = .ok (.iload 4, 2) := by decide +kernel
theorem dd_Mo_load_24 : decode prog_9_method_24_code 24 = .ok (.ifCond .lt 9, 3) := by decide +kernel
theorem dd_Mo_load_27 : decode prog_9_method_24_code 27 = .ok (.iload 4, 2) := by decide +kernel
theorem dd_Mo_load_29 : decode prog_9_method_24_code 29 = .ok (.iconst 2, 1) := by decide +kernel
theorem dd_Mo_load_30 : decode prog_9_method_24_code 30 = .ok (.if_icmp .le 5, 3) := by decide +kernel
theorem dd_Mo_load_33 : decode prog_9_method_24_code 33 = .ok (.iconst (-1), 1) := by decide +kernel
theorem dd_Mo_load_34 : decode prog_9_method_24_code 34 = .ok (.ireturn, 1) := by decide +kernel
theorem dd_Mo_load_35 : decode prog_9_method_24_code 35 = .ok (.aload_n 0, 1) := by decide +kernel
theorem dd_Mo_load_36 : decode prog_9_method_24_code 36 = .ok (.getfield 23, 3) := by decide +kernel
theorem dd_Mo_load_39 : decode prog_9_method_24_code 39 = .ok (.iconst 4, 1) := by decide +kernel
theorem dd_Mo_load_40 : decode prog_9_method_24_code 40 = .ok (.iload_n 1, 1) := by decide +kernel
theorem dd_Mo_load_41 : decode prog_9_method_24_code 41 = .ok (.imul, 1) := by decide +kernel
theorem dd_Mo_load_42 : decode prog_9_method_24_code 42 = .ok (.iload_n 3, 1) := by decide +kernel
theorem dd_Mo_load_43 : decode prog_9_method_24_code 43 = .ok (.iadd, 1) := by decide +kernel
theorem dd_Mo_load_44 : decode prog_9_method_24_code 44 = .ok (.iaload, 1) := by decide +kernel
theorem dd_Mo_load_45 : decode prog_9_method_24_code 45 = .ok (.iconst 1, 1) := by decide +kernel
theorem dd_Mo_load_46 : decode prog_9_method_24_code 46 = .ok (.isub, 1) := by decide +kernel
theorem dd_Mo_load_47 : decode prog_9_method_24_code 47 = .ok (.istore 5, 2) := by decide +kernel
theorem dd_Mo_load_49 : decode prog_9_method_24_code 49 = .ok (.iload 5, 2) := by decide +kernel
theorem dd_Mo_load_51 : decode prog_9_method_24_code 51 = .ok (.ifCond .ge 6, 3) := by decide +kernel
theorem dd_Mo_load_54 : decode prog_9_method_24_code 54 = .ok (.bipush (-2), 2) := by decide +kernel
theorem dd_Mo_load_56 : decode prog_9_method_24_code 56 = .ok (.ireturn, 1) := by decide +kernel
theorem dd_Mo_load_57 : decode prog_9_method_24_code 57 = .ok (.aload_n 0, 1) := by decide +kernel
theorem dd_Mo_load_58 : decode prog_9_method_24_code 58 = .ok (.getfield 38, 3) := by decide +kernel
theorem dd_Mo_load_61 : decode prog_9_method_24_code 61 = .ok (.iconst 3, 1) := by decide +kernel
theorem dd_Mo_load_62 : decode prog_9_method_24_code 62 = .ok (.iload 5, 2) := by decide +kernel
theorem dd_Mo_load_64 : decode prog_9_method_24_code 64 = .ok (.imul, 1) := by decide +kernel
theorem dd_Mo_load_65 : decode prog_9_method_24_code 65 = .ok (.iload 4, 2) := by decide +kernel
theorem dd_Mo_load_67 : decode prog_9_method_24_code 67 = .ok (.iadd, 1) := by decide +kernel
theorem dd_Mo_load_68 : decode prog_9_method_24_code 68 = .ok (.iaload, 1) := by decide +kernel
theorem dd_Mo_load_69 : decode prog_9_method_24_code 69 = .ok (.iconst 1, 1) := by decide +kernel
theorem dd_Mo_load_70 : decode prog_9_method_24_code 70 = .ok (.isub, 1) := by decide +kernel
theorem dd_Mo_load_71 : decode prog_9_method_24_code 71 = .ok (.istore 6, 2) := by decide +kernel
theorem dd_Mo_load_73 : decode prog_9_method_24_code 73 = .ok (.iload 6, 2) := by decide +kernel
theorem dd_Mo_load_75 : decode prog_9_method_24_code 75 = .ok (.ifCond .ge 7, 3) := by decide +kernel
theorem dd_Mo_load_78 : decode prog_9_method_24_code 78 = .ok (.iload_n 1, 1) := by decide +kernel
theorem dd_Mo_load_79 : decode prog_9_method_24_code 79 = .ok (.goto 12, 3) := by decide +kernel
theorem dd_Mo_load_82 : decode prog_9_method_24_code 82 = .ok (.aload_n 0, 1) := by decide +kernel
theorem dd_Mo_load_83 : decode prog_9_method_24_code 83 = .ok (.getfield 26, 3) := by decide +kernel
theorem dd_Mo_load_86 : decode prog_9_method_24_code 86 = .ok (.iload 6, 2) := by decide +kernel
theorem dd_Mo_load_88 : decode prog_9_method_24_code 88 = .ok (.iaload, 1) := by decide +kernel
theorem dd_Mo_load_89 : decode prog_9_method_24_code 89 = .ok (.iconst 1, 1) := by decide +kernel
theorem dd_Mo_load_90 : decode prog_9_method_24_code 90 = .ok (.isub, 1) := by decide +kernel
theorem dd_Mo_load_91 : decode prog_9_method_24_code 91 = .ok (.istore 7, 2) := by decide +kernel
theorem dd_Mo_load_93 : decode prog_9_method_24_code 93 = .ok (.iload 7, 2) := by decide +kernel
theorem dd_Mo_load_95 : decode prog_9_method_24_code 95 = .ok (.bipush 8, 2) := by decide +kernel
theorem dd_Mo_load_97 : decode prog_9_method_24_code 97 = .ok (.if_icmp .ge 9, 3) := by decide +kernel
theorem dd_Mo_load_100 : decode prog_9_method_24_code 100 = .ok (.iload 7, 2) := by decide +kernel
theorem dd_Mo_load_102 : decode prog_9_method_24_code 102 = .ok (.iload_n 1, 1) := by decide +kernel
theorem dd_Mo_load_103 : decode prog_9_method_24_code 103 = .ok (.if_icmp .ne 29, 3) := by decide +kernel
theorem dd_Mo_load_106 : decode prog_9_method_24_code 106 = .ok (.aload_n 0, 1) := by decide +kernel
theorem dd_Mo_load_107 : decode prog_9_method_24_code 107 = .ok (.iload 7, 2) := by decide +kernel
theorem dd_Mo_load_109 : decode prog_9_method_24_code 109 = .ok (.invokevirtual 81, 3) := by decide +kernel
theorem dd_Mo_load_112 : decode prog_9_method_24_code 112 = .ok (.ifCond .eq 23, 3) := by decide +kernel
theorem dd_Mo_load_115 : decode prog_9_method_24_code 115 = .ok (.aload_n 0, 1) := by decide +kernel
theorem dd_Mo_load_116 : decode prog_9_method_24_code 116 = .ok (.getfield 59, 3) := by decide +kernel
theorem dd_Mo_load_119 : decode prog_9_method_24_code 119 = .ok (.iconst 4, 1) := by decide +kernel
theorem dd_Mo_load_120 : decode prog_9_method_24_code 120 = .ok (.iload_n 1, 1) := by decide +kernel
theorem dd_Mo_load_121 : decode prog_9_method_24_code 121 = .ok (.imul, 1) := by decide +kernel
theorem dd_Mo_load_122 : decode prog_9_method_24_code 122 = .ok (.iload 7, 2) := by decide +kernel
theorem dd_Mo_load_124 : decode prog_9_method_24_code 124 = .ok (.iadd, 1) := by decide +kernel
theorem dd_Mo_load_125 : decode prog_9_method_24_code 125 = .ok (.bipush 9, 2) := by decide +kernel
theorem dd_Mo_load_127 : decode prog_9_method_24_code 127 = .ok (.isub, 1) := by decide +kernel
theorem dd_Mo_load_128 : decode prog_9_method_24_code 128 = .ok (.baload, 1) := by decide +kernel
theorem dd_Mo_load_129 : decode prog_9_method_24_code 129 = .ok (.ifCond .ne 6, 3) := by decide +kernel
theorem dd_Mo_load_132 : decode prog_9_method_24_code 132 = .ok (.bipush (-3), 2) := by decide +kernel
theorem dd_Mo_load_134 : decode prog_9_method_24_code 134 = .ok (.ireturn, 1) := by decide +kernel
theorem dd_Mo_load_135 : decode prog_9_method_24_code 135 = .ok (.aload_n 0, 1) := by decide +kernel
theorem dd_Mo_load_136 : decode prog_9_method_24_code 136 = .ok (.getfield 23, 3) := by decide +kernel
theorem dd_Mo_load_139 : decode prog_9_method_24_code 139 = .ok (.iconst 4, 1) := by decide +kernel
theorem dd_Mo_load_140 : decode prog_9_method_24_code 140 = .ok (.iload_n 1, 1) := by decide +kernel
theorem dd_Mo_load_141 : decode prog_9_method_24_code 141 = .ok (.imul, 1) := by decide +kernel
theorem dd_Mo_load_142 : decode prog_9_method_24_code 142 = .ok (.iload_n 2, 1) := by decide +kernel
theorem dd_Mo_load_143 : decode prog_9_method_24_code 143 = .ok (.iadd, 1) := by decide +kernel
theorem dd_Mo_load_144 : decode prog_9_method_24_code 144 = .ok (.iload 6, 2) := by decide +kernel
theorem dd_Mo_load_146 : decode prog_9_method_24_code 146 = .ok (.iconst 1, 1) := by decide +kernel
theorem dd_Mo_load_147 : decode prog_9_method_24_code 147 = .ok (.iadd, 1) := by decide +kernel
theorem dd_Mo_load_148 : decode prog_9_method_24_code 148 = .ok (.iastore, 1) := by decide +kernel
theorem dd_Mo_load_149 : decode prog_9_method_24_code 149 = .ok (.iconst 0, 1) := by decide +kernel
theorem dd_Mo_load_150 : decode prog_9_method_24_code 150 = .ok (.ireturn, 1) := by decide +kernel
theorem dd_Mo_move_0 : decode prog_9_method_25_code 0 = .ok (.aload_n 0, 1) := by decide +kernel
theorem dd_Mo_move_1 : decode prog_9_method_25_code 1 = .ok (.iload_n 1, 1) := by decide +kernel
theorem dd_Mo_move_2 : decode prog_9_method_25_code 2 = .ok (.invokevirtual 89, 3) := by decide +kernel
theorem dd_Mo_move_5 : decode prog_9_method_25_code 5 = .ok (.ifCond .eq 20, 3) := by decide +kernel
theorem dd_Mo_move_8 : decode prog_9_method_25_code 8 = .ok (.iload_n 2, 1) := by decide +kernel
theorem dd_Mo_move_9 : decode prog_9_method_25_code 9 = .ok (.invokestatic 134, 3) := by decide +kernel
theorem dd_Mo_move_12 : decode prog_9_method_25_code 12 = .ok (.ifCond .eq 13, 3) := by decide +kernel
theorem dd_Mo_move_15 : decode prog_9_method_25_code 15 = .ok (.iload_n 3, 1) := by decide +kernel
theorem dd_Mo_move_16 : decode prog_9_method_25_code 16 = .ok (.iconst (-1), 1) := by decide +kernel
theorem dd_Mo_move_17 : decode prog_9_method_25_code 17 = .ok (.if_icmp .lt 8, 3) := by decide +kernel
theorem dd_Mo_move_20 : decode prog_9_method_25_code 20 = .ok (.iload_n 3, 1) := by decide +kernel
theorem dd_Mo_move_21 : decode prog_9_method_25_code 21 = .ok (.iconst 3, 1) := by decide +kernel
theorem dd_Mo_move_22 : decode prog_9_method_25_code 22 = .ok (.if_icmp .le 5, 3) := by decide +kernel
theorem dd_Mo_move_25 : decode prog_9_method_25_code 25 = .ok (.iconst 0, 1) := by decide +kernel
theorem dd_Mo_move_26 : decode prog_9_method_25_code 26 = .ok (.ireturn, 1) := by decide +kernel
theorem dd_Mo_move_27 : decode prog_9_method_25_code 27 = .ok (.aload_n 0, 1) := by decide +kernel
theorem dd_Mo_move_28 : decode prog_9_method_25_code 28 = .ok (.getfield 23, 3) := by decide +kernel
theorem dd_Mo_move_31 : decode prog_9_method_25_code 31 = .ok (.iconst 4, 1) := by decide +kernel
theorem dd_Mo_move_32 : decode prog_9_method_25_code 32 = .ok (.iload_n 1, 1) := by decide +kernel
theorem dd_Mo_move_33 : decode prog_9_method_25_code 33 = .ok (.imul, 1) := by decide +kernel
theorem dd_Mo_move_34 : decode prog_9_method_25_code 34 = .ok (.iload_n 2, 1) := by decide +kernel
theorem dd_Mo_move_35 : decode prog_9_method_25_code 35 = .ok (.iadd, 1) := by decide +kernel
theorem dd_Mo_move_36 : decode prog_9_method_25_code 36 = .ok (.iload_n 3, 1) := by decide +kernel
theorem dd_Mo_move_37 : decode prog_9_method_25_code 37 = .ok (.ifCond .ge 7, 3) := by decide +kernel
theorem dd_Mo_move_40 : decode prog_9_method_25_code 40 = .ok (.iconst 0, 1) := by decide +kernel
theorem dd_Mo_move_41 : decode prog_9_method_25_code 41 = .ok (.goto 13, 3) := by decide +kernel
theorem dd_Mo_move_44 : decode prog_9_method_25_code 44 = .ok (.aload_n 0, 1) := by decide +kernel
theorem dd_Mo_move_45 : decode prog_9_method_25_code 45 = .ok (.getfield 23, 3) := by decide +kernel
theorem dd_Mo_move_48 : decode prog_9_method_25_code 48 = .ok (.iconst 4, 1) := by decide +kernel
theorem dd_Mo_move_49 : decode prog_9_method_25_code 49 = .ok (.iload_n 1, 1) := by decide +kernel
theorem dd_Mo_move_50 : decode prog_9_method_25_code 50 = .ok (.imul, 1) := by decide +kernel
theorem dd_Mo_move_51 : decode prog_9_method_25_code 51 = .ok (.iload_n 3, 1) := by decide +kernel
theorem dd_Mo_move_52 : decode prog_9_method_25_code 52 = .ok (.iadd, 1) := by decide +kernel
theorem dd_Mo_move_53 : decode prog_9_method_25_code 53 = .ok (.iaload, 1) := by decide +kernel
theorem dd_Mo_move_54 : decode prog_9_method_25_code 54 = .ok (.iastore, 1) := by decide +kernel
theorem dd_Mo_move_55 : decode prog_9_method_25_code 55 = .ok (.iconst 1, 1) := by decide +kernel
theorem dd_Mo_move_56 : decode prog_9_method_25_code 56 = .ok (.ireturn, 1) := by decide +kernel
theorem dd_Mo_begin_0 : decode prog_9_method_26_code 0 = .ok (.aload_n 0, 1) := by decide +kernel
theorem dd_Mo_begin_1 : decode prog_9_method_26_code 1 = .ok (.iload_n 1, 1) := by decide +kernel
theorem dd_Mo_begin_2 : decode prog_9_method_26_code 2 = .ok (.invokevirtual 89, 3) := by decide +kernel
theorem dd_Mo_begin_5 : decode prog_9_method_26_code 5 = .ok (.ifCond .ne 5, 3) := by decide +kernel
theorem dd_Mo_begin_8 : decode prog_9_method_26_code 8 = .ok (.iconst (-1), 1) := by decide +kernel
theorem dd_Mo_begin_9 : decode prog_9_method_26_code 9 = .ok (.ireturn, 1) := by decide +kernel
theorem dd_Mo_begin_10 : decode prog_9_method_26_code 10 = .ok (.iconst 0, 1) := by decide +kernel
theorem dd_Mo_begin_11 : decode prog_9_method_26_code 11 = .ok (.istore_n 2, 1) := by decide +kernel
theorem dd_Mo_begin_12 : decode prog_9_method_26_code 12 = .ok (.iload_n 2, 1) := by decide +kernel
theorem dd_Mo_begin_13 : decode prog_9_method_26_code 13 = .ok (.iconst 4, 1) := by decide +kernel
theorem dd_Mo_begin_14 : decode prog_9_method_26_code 14 = .ok (.if_icmp .ge 31, 3) := by decide +kernel
theorem dd_Mo_begin_17 : decode prog_9_method_26_code 17 = .ok (.aload_n 0, 1) := by decide +kernel
theorem dd_Mo_begin_18 : decode prog_9_method_26_code 18 = .ok (.getfield 50, 3) := by decide +kernel
theorem dd_Mo_begin_21 : decode prog_9_method_26_code 21 = .ok (.iload_n 2, 1) := by decide +kernel
theorem dd_Mo_begin_22 : decode prog_9_method_26_code 22 = .ok (.iaload, 1) := by decide +kernel
theorem dd_Mo_begin_23 : decode prog_9_method_26_code 23 = .ok (.iconst 1, 1) := by decide +kernel
theorem dd_Mo_begin_24 : decode prog_9_method_26_code 24 = .ok (.if_icmp .ne 15, 3) := by decide +kernel
theorem dd_Mo_begin_27 : decode prog_9_method_26_code 27 = .ok (.aload_n 0, 1) := by decide +kernel
theorem dd_Mo_begin_28 : decode prog_9_method_26_code 28 = .ok (.getfield 53, 3) := by decide +kernel
theorem dd_Mo_begin_31 : decode prog_9_method_26_code 31 = .ok (.iload_n 2, 1) := by decide +kernel
theorem dd_Mo_begin_32 : decode prog_9_method_26_code 32 = .ok (.iaload, 1) := by decide +kernel
theorem dd_Mo_begin_33 : decode prog_9_method_26_code 33 = .ok (.iload_n 1, 1) := by decide +kernel
theorem dd_Mo_begin_34 : decode prog_9_method_26_code 34 = .ok (.if_icmp .ne 5, 3) := by decide +kernel
theorem dd_Mo_begin_37 : decode prog_9_method_26_code 37 = .ok (.iconst (-1), 1) := by decide +kernel
theorem dd_Mo_begin_38 : decode prog_9_method_26_code 38 = .ok (.ireturn, 1) := by decide +kernel
theorem dd_Mo_begin_39 : decode prog_9_method_26_code 39 = .ok (.iinc 2 1, 3) := by decide +kernel
theorem dd_Mo_begin_42 : decode prog_9_method_26_code 42 = .ok (.goto (-30), 3) := by decide +kernel
theorem dd_Mo_begin_45 : decode prog_9_method_26_code 45 = .ok (.aload_n 0, 1) := by decide +kernel
theorem dd_Mo_begin_46 : decode prog_9_method_26_code 46 = .ok (.getfield 144, 3) := by decide +kernel
theorem dd_Mo_begin_49 : decode prog_9_method_26_code 49 = .ok (.iconst 4, 1) := by decide +kernel
theorem dd_Mo_begin_50 : decode prog_9_method_26_code 50 = .ok (.if_icmp .lt 6, 3) := by decide +kernel
theorem dd_Mo_begin_53 : decode prog_9_method_26_code 53 = .ok (.bipush (-4), 2) := by decide +kernel
theorem dd_Mo_begin_55 : decode prog_9_method_26_code 55 = .ok (.ireturn, 1) := by decide +kernel
theorem dd_Mo_begin_56 : decode prog_9_method_26_code 56 = .ok (.aload_n 0, 1) := by decide +kernel
theorem dd_Mo_begin_57 : decode prog_9_method_26_code 57 = .ok (.getfield 50, 3) := by decide +kernel
theorem dd_Mo_begin_60 : decode prog_9_method_26_code 60 = .ok (.aload_n 0, 1) := by decide +kernel
theorem dd_Mo_begin_61 : decode prog_9_method_26_code 61 = .ok (.getfield 144, 3) := by decide +kernel
theorem dd_Mo_begin_64 : decode prog_9_method_26_code 64 = .ok (.iconst 1, 1) := by decide +kernel
theorem dd_Mo_begin_65 : decode prog_9_method_26_code 65 = .ok (.iastore, 1) := by decide +kernel
theorem dd_Mo_begin_66 : decode prog_9_method_26_code 66 = .ok (.aload_n 0, 1) := by decide +kernel
theorem dd_Mo_begin_67 : decode prog_9_method_26_code 67 = .ok (.getfield 53, 3) := by decide +kernel
theorem dd_Mo_begin_70 : decode prog_9_method_26_code 70 = .ok (.aload_n 0, 1) := by decide +kernel
theorem dd_Mo_begin_71 : decode prog_9_method_26_code 71 = .ok (.getfield 144, 3) := by decide +kernel
theorem dd_Mo_begin_74 : decode prog_9_method_26_code 74 = .ok (.iload_n 1, 1) := by decide +kernel
theorem dd_Mo_begin_75 : decode prog_9_method_26_code 75 = .ok (.iastore, 1) := by decide +kernel
theorem dd_Mo_begin_76 : decode prog_9_method_26_code 76 = .ok (.aload_n 0, 1) := by decide +kernel
theorem dd_Mo_begin_77 : decode prog_9_method_26_code 77 = .ok (.dup, 1) := by decide +kernel
theorem dd_Mo_begin_78 : decode prog_9_method_26_code 78 = .ok (.getfield 144, 3) := by decide +kernel
theorem dd_Mo_begin_81 : decode prog_9_method_26_code 81 = .ok (.iconst 1, 1) := by decide +kernel
theorem dd_Mo_begin_82 : decode prog_9_method_26_code 82 = .ok (.iadd, 1) := by decide +kernel
theorem dd_Mo_begin_83 : decode prog_9_method_26_code 83 = .ok (.putfield 144, 3) := by decide +kernel
theorem dd_Mo_begin_86 : decode prog_9_method_26_code 86 = .ok (.bipush 8, 2) := by decide +kernel
theorem dd_Mo_begin_88 : decode prog_9_method_26_code 88 = .ok (.aload_n 0, 1) := by decide +kernel
theorem dd_Mo_begin_89 : decode prog_9_method_26_code 89 = .ok (.getfield 144, 3) := by decide +kernel
theorem dd_Mo_begin_92 : decode prog_9_method_26_code 92 = .ok (.iadd, 1) := by decide +kernel
theorem dd_Mo_begin_93 : decode prog_9_method_26_code 93 = .ok (.ireturn, 1) := by decide +kernel
theorem dd_Mo_freeze_0 : decode prog_9_method_27_code 0 = .ok (.aload_n 0, 1) := by decide +kernel
theorem dd_Mo_freeze_1 : decode prog_9_method_27_code 1 = .ok (.iload_n 1, 1) := by decide +kernel
theorem dd_Mo_freeze_2 : decode prog_9_method_27_code 2 = .ok (.invokevirtual 89, 3) := by decide +kernel
theorem dd_Mo_freeze_5 : decode prog_9_method_27_code 5 = .ok (.ifCond .eq 10, 3) := by decide +kernel
theorem dd_Mo_freeze_8 : decode prog_9_method_27_code 8 = .ok (.iload_n 2, 1) := by decide +kernel
theorem dd_Mo_freeze_9 : decode prog_9_method_27_code 9 = .ok (.invokestatic 134, 3) := by decide +kernel
theorem dd_Mo_freeze_12 : decode prog_9_method_27_code 12 = .ok (.ifCond .ne 5, 3) := by decide +kernel
theorem dd_Mo_freeze_15 : decode prog_9_method_27_code 15 = .ok (.iconst (-1), 1) := by decide +kernel
theorem dd_Mo_freeze_16 : decode prog_9_method_27_code 16 = .ok (.ireturn, 1) := by decide +kernel
theorem dd_Mo_freeze_17 : decode prog_9_method_27_code 17 = .ok (.aload_n 0, 1) := by decide +kernel
theorem dd_Mo_freeze_18 : decode prog_9_method_27_code 18 = .ok (.getfield 23, 3) := by decide +kernel
theorem dd_Mo_freeze_21 : decode prog_9_method_27_code 21 = .ok (.iconst 4, 1) := by decide +kernel
theorem dd_Mo_freeze_22 : decode prog_9_method_27_code 22 = .ok (.iload_n 1, 1) := by decide +kernel
theorem dd_Mo_freeze_23 : decode prog_9_method_27_code 23 = .ok (.imul, 1) := by decide +kernel
theorem dd_Mo_freeze_24 : decode prog_9_method_27_code 24 = .ok (.iload_n 2, 1) := by decide +kernel
theorem dd_Mo_freeze_25 : decode prog_9_method_27_code 25 = .ok (.iadd, 1) := by decide +kernel
theorem dd_Mo_freeze_26 : decode prog_9_method_27_code 26 = .ok (.iaload, 1) := by decide +kernel
theorem dd_Mo_freeze_27 : decode prog_9_method_27_code 27 = .ok (.iconst 1, 1) := by decide +kernel
theorem dd_Mo_freeze_28 : decode prog_9_method_27_code 28 = .ok (.isub, 1) := by decide +kernel
theorem dd_Mo_freeze_29 : decode prog_9_method_27_code 29 = .ok (.istore_n 3, 1) := by decide +kernel
theorem dd_Mo_freeze_30 : decode prog_9_method_27_code 30 = .ok (.iconst 0, 1) := by decide +kernel
theorem dd_Mo_freeze_31 : decode prog_9_method_27_code 31 = .ok (.istore 4, 2) := by decide +kernel
theorem dd_Mo_freeze_33 : decode prog_9_method_27_code 33 = .ok (.iload 4, 2) := by decide +kernel
theorem dd_Mo_freeze_35 : decode prog_9_method_27_code 35 = .ok (.iconst 4, 1) := by decide +kernel
theorem dd_Mo_freeze_36 : decode prog_9_method_27_code 36 = .ok (.if_icmp .ge 95, 3) := by decide +kernel
theorem dd_Mo_freeze_39 : decode prog_9_method_27_code 39 = .ok (.aload_n 0, 1) := by decide +kernel
theorem dd_Mo_freeze_40 : decode prog_9_method_27_code 40 = .ok (.getfield 50, 3) := by decide +kernel
theorem dd_Mo_freeze_43 : decode prog_9_method_27_code 43 = .ok (.iload 4, 2) := by decide +kernel
theorem dd_Mo_freeze_45 : decode prog_9_method_27_code 45 = .ok (.iaload, 1) := by decide +kernel
theorem dd_Mo_freeze_46 : decode prog_9_method_27_code 46 = .ok (.iconst 1, 1) := by decide +kernel
theorem dd_Mo_freeze_47 : decode prog_9_method_27_code 47 = .ok (.if_icmp .ne 78, 3) := by decide +kernel
theorem dd_Mo_freeze_50 : decode prog_9_method_27_code 50 = .ok (.aload_n 0, 1) := by decide +kernel
theorem dd_Mo_freeze_51 : decode prog_9_method_27_code 51 = .ok (.getfield 53, 3) := by decide +kernel
theorem dd_Mo_freeze_54 : decode prog_9_method_27_code 54 = .ok (.iload 4, 2) := by decide +kernel
theorem dd_Mo_freeze_56 : decode prog_9_method_27_code 56 = .ok (.iaload, 1) := by decide +kernel
theorem dd_Mo_freeze_57 : decode prog_9_method_27_code 57 = .ok (.iload_n 1, 1) := by decide +kernel
theorem dd_Mo_freeze_58 : decode prog_9_method_27_code 58 = .ok (.if_icmp .ne 67, 3) := by decide +kernel
theorem dd_Mo_freeze_61 : decode prog_9_method_27_code 61 = .ok (.iload_n 3, 1) := by decide +kernel
theorem dd_Mo_freeze_62 : decode prog_9_method_27_code 62 = .ok (.ifCond .lt 63, 3) := by decide +kernel
theorem dd_Mo_freeze_65 : decode prog_9_method_27_code 65 = .ok (.aload_n 0, 1) := by decide +kernel
theorem dd_Mo_freeze_66 : decode prog_9_method_27_code 66 = .ok (.getfield 26, 3) := by decide +kernel
theorem dd_Mo_freeze_69 : decode prog_9_method_27_code 69 = .ok (.iload_n 3, 1) := by decide +kernel
theorem dd_Mo_freeze_70 : decode prog_9_method_27_code 70 = .ok (.iaload, 1) := by decide +kernel
theorem dd_Mo_freeze_71 : decode prog_9_method_27_code 71 = .ok (.bipush 10, 2) := by decide +kernel
theorem dd_Mo_freeze_73 : decode prog_9_method_27_code 73 = .ok (.iload 4, 2) := by decide +kernel
theorem dd_Mo_freeze_75 : decode prog_9_method_27_code 75 = .ok (.iadd, 1) := by decide +kernel
theorem dd_Mo_freeze_76 : decode prog_9_method_27_code 76 = .ok (.if_icmp .ne 49, 3) := by decide +kernel
theorem dd_Mo_freeze_79 : decode prog_9_method_27_code 79 = .ok (.aload_n 0, 1) := by decide +kernel
theorem dd_Mo_freeze_80 : decode prog_9_method_27_code 80 = .ok (.getfield 50, 3) := by decide +kernel
theorem dd_Mo_freeze_83 : decode prog_9_method_27_code 83 = .ok (.iload 4, 2) := by decide +kernel
theorem dd_Mo_freeze_85 : decode prog_9_method_27_code 85 = .ok (.iconst 2, 1) := by decide +kernel
theorem dd_Mo_freeze_86 : decode prog_9_method_27_code 86 = .ok (.iastore, 1) := by decide +kernel
theorem dd_Mo_freeze_87 : decode prog_9_method_27_code 87 = .ok (.aload_n 0, 1) := by decide +kernel
theorem dd_Mo_freeze_88 : decode prog_9_method_27_code 88 = .ok (.getfield 56, 3) := by decide +kernel
theorem dd_Mo_freeze_91 : decode prog_9_method_27_code 91 = .ok (.iload 4, 2) := by decide +kernel
theorem dd_Mo_freeze_93 : decode prog_9_method_27_code 93 = .ok (.iload_n 3, 1) := by decide +kernel
theorem dd_Mo_freeze_94 : decode prog_9_method_27_code 94 = .ok (.iastore, 1) := by decide +kernel
theorem dd_Mo_freeze_95 : decode prog_9_method_27_code 95 = .ok (.aload_n 0, 1) := by decide +kernel
theorem dd_Mo_freeze_96 : decode prog_9_method_27_code 96 = .ok (.getfield 59, 3) := by decide +kernel
theorem dd_Mo_freeze_99 : decode prog_9_method_27_code 99 = .ok (.iconst 4, 1) := by decide +kernel
theorem dd_Mo_freeze_100 : decode prog_9_method_27_code 100 = .ok (.iload_n 1, 1) := by decide +kernel
theorem dd_Mo_freeze_101 : decode prog_9_method_27_code 101 = .ok (.imul, 1) := by decide +kernel
theorem dd_Mo_freeze_102 : decode prog_9_method_27_code 102 = .ok (.iload 4, 2) := by decide +kernel
theorem dd_Mo_freeze_104 : decode prog_9_method_27_code 104 = .ok (.iadd, 1) := by decide +kernel
theorem dd_Mo_freeze_105 : decode prog_9_method_27_code 105 = .ok (.iconst 1, 1) := by decide +kernel
theorem dd_Mo_freeze_106 : decode prog_9_method_27_code 106 = .ok (.bastore, 1) := by decide +kernel
theorem dd_Mo_freeze_107 : decode prog_9_method_27_code 107 = .ok (.aload_n 0, 1) := by decide +kernel
theorem dd_Mo_freeze_108 : decode prog_9_method_27_code 108 = .ok (.getfield 62, 3) := by decide +kernel
theorem dd_Mo_freeze_111 : decode prog_9_method_27_code 111 = .ok (.iconst 4, 1) := by decide +kernel
theorem dd_Mo_freeze_112 : decode prog_9_method_27_code 112 = .ok (.iload_n 1, 1) := by decide +kernel
theorem dd_Mo_freeze_113 : decode prog_9_method_27_code 113 = .ok (.imul, 1) := by decide +kernel
theorem dd_Mo_freeze_114 : decode prog_9_method_27_code 114 = .ok (.iload 4, 2) := by decide +kernel
theorem dd_Mo_freeze_116 : decode prog_9_method_27_code 116 = .ok (.iadd, 1) := by decide +kernel
theorem dd_Mo_freeze_117 : decode prog_9_method_27_code 117 = .ok (.iconst 1, 1) := by decide +kernel
theorem dd_Mo_freeze_118 : decode prog_9_method_27_code 118 = .ok (.bastore, 1) := by decide +kernel
theorem dd_Mo_freeze_119 : decode prog_9_method_27_code 119 = .ok (.bipush 9, 2) := by decide +kernel
theorem dd_Mo_freeze_121 : decode prog_9_method_27_code 121 = .ok (.iload 4, 2) := by decide +kernel
theorem dd_Mo_freeze_123 : decode prog_9_method_27_code 123 = .ok (.iadd, 1) := by decide +kernel
theorem dd_Mo_freeze_124 : decode prog_9_method_27_code 124 = .ok (.ireturn, 1) := by decide +kernel
theorem dd_Mo_freeze_125 : decode prog_9_method_27_code 125 = .ok (.iinc 4 1, 3) := by decide +kernel
theorem dd_Mo_freeze_128 : decode prog_9_method_27_code 128 = .ok (.goto (-95), 3) := by decide +kernel
theorem dd_Mo_freeze_131 : decode prog_9_method_27_code 131 = .ok (.iconst (-1), 1) := by decide +kernel
theorem dd_Mo_freeze_132 : decode prog_9_method_27_code 132 = .ok (.ireturn, 1) := by decide +kernel
theorem dd_Mo_lookup_0 : decode prog_9_method_28_code 0 = .ok (.aload_n 0, 1) := by decide +kernel
theorem dd_Mo_lookup_1 : decode prog_9_method_28_code 1 = .ok (.iload_n 1, 1) := by decide +kernel
theorem dd_Mo_lookup_2 : decode prog_9_method_28_code 2 = .ok (.invokevirtual 89, 3) := by decide +kernel
theorem dd_Mo_lookup_5 : decode prog_9_method_28_code 5 = .ok (.ifCond .eq 18, 3) := by decide +kernel
theorem dd_Mo_lookup_8 : decode prog_9_method_28_code 8 = .ok (.iload_n 3, 1) := by decide +kernel
theorem dd_Mo_lookup_9 : decode prog_9_method_28_code 9 = .ok (.invokestatic 134, 3) := by decide +kernel
theorem dd_Mo_lookup_12 : decode prog_9_method_28_code 12 = .ok (.ifCond .eq 11, 3) := by decide +kernel
theorem dd_Mo_lookup_15 : decode prog_9_method_28_code 15 = .ok (.aload_n 0, 1) := by decide +kernel
theorem dd_Mo_lookup_16 : decode prog_9_method_28_code 16 = .ok (.iload_n 2, 1) := by decide +kernel
theorem dd_Mo_lookup_17 : decode prog_9_method_28_code 17 = .ok (.invokevirtual 81, 3) := by decide +kernel
theorem dd_Mo_lookup_20 : decode prog_9_method_28_code 20 = .ok (.ifCond .ne 5, 3) := by decide +kernel
theorem dd_Mo_lookup_23 : decode prog_9_method_28_code 23 = .ok (.iconst (-1), 1) := by decide +kernel
theorem dd_Mo_lookup_24 : decode prog_9_method_28_code 24 = .ok (.ireturn, 1) := by decide +kernel
theorem dd_Mo_lookup_25 : decode prog_9_method_28_code 25 = .ok (.iload_n 2, 1) := by decide +kernel
theorem dd_Mo_lookup_26 : decode prog_9_method_28_code 26 = .ok (.bipush 9, 2) := by decide +kernel
theorem dd_Mo_lookup_28 : decode prog_9_method_28_code 28 = .ok (.isub, 1) := by decide +kernel
theorem dd_Mo_lookup_29 : decode prog_9_method_28_code 29 = .ok (.istore 4, 2) := by decide +kernel
theorem dd_Mo_lookup_31 : decode prog_9_method_28_code 31 = .ok (.aload_n 0, 1) := by decide +kernel
theorem dd_Mo_lookup_32 : decode prog_9_method_28_code 32 = .ok (.getfield 59, 3) := by decide +kernel
theorem dd_Mo_lookup_35 : decode prog_9_method_28_code 35 = .ok (.iconst 4, 1) := by decide +kernel
theorem dd_Mo_lookup_36 : decode prog_9_method_28_code 36 = .ok (.iload_n 1, 1) := by decide +kernel
theorem dd_Mo_lookup_37 : decode prog_9_method_28_code 37 = .ok (.imul, 1) := by decide +kernel
theorem dd_Mo_lookup_38 : decode prog_9_method_28_code 38 = .ok (.iload 4, 2) := by decide +kernel
theorem dd_Mo_lookup_40 : decode prog_9_method_28_code 40 = .ok (.iadd, 1) := by decide +kernel
theorem dd_Mo_lookup_41 : decode prog_9_method_28_code 41 = .ok (.baload, 1) := by decide +kernel
theorem dd_Mo_lookup_42 : decode prog_9_method_28_code 42 = .ok (.ifCond .ne 62, 3) := by decide +kernel
theorem dd_Mo_lookup_45 : decode prog_9_method_28_code 45 = .ok (.aload_n 0, 1) := by decide +kernel
theorem dd_Mo_lookup_46 : decode prog_9_method_28_code 46 = .ok (.iload_n 1, 1) := by decide +kernel
theorem dd_Mo_lookup_47 : decode prog_9_method_28_code 47 = .ok (.invokevirtual 124, 3) := by decide +kernel
theorem dd_Mo_lookup_50 : decode prog_9_method_28_code 50 = .ok (.aload_n 0, 1) := by decide +kernel
theorem dd_Mo_lookup_51 : decode prog_9_method_28_code 51 = .ok (.iload_n 2, 1) := by decide +kernel
theorem dd_Mo_lookup_52 : decode prog_9_method_28_code 52 = .ok (.invokevirtual 85, 3) := by decide +kernel
theorem dd_Mo_lookup_55 : decode prog_9_method_28_code 55 = .ok (.if_icmp .ge 9, 3) := by decide +kernel
theorem dd_Mo_lookup_58 : decode prog_9_method_28_code 58 = .ok (.aload_n 0, 1) := by decide +kernel
theorem dd_Mo_lookup_59 : decode prog_9_method_28_code 59 = .ok (.iload_n 1, 1) := by decide +kernel
theorem dd_Mo_lookup_60 : decode prog_9_method_28_code 60 = .ok (.invokevirtual 141, 3) := by decide +kernel
theorem dd_Mo_lookup_63 : decode prog_9_method_28_code 63 = .ok (.pop, 1) := by decide +kernel
theorem dd_Mo_lookup_64 : decode prog_9_method_28_code 64 = .ok (.aload_n 0, 1) := by decide +kernel
theorem dd_Mo_lookup_65 : decode prog_9_method_28_code 65 = .ok (.iload_n 1, 1) := by decide +kernel
theorem dd_Mo_lookup_66 : decode prog_9_method_28_code 66 = .ok (.invokevirtual 124, 3) := by decide +kernel
theorem dd_Mo_lookup_69 : decode prog_9_method_28_code 69 = .ok (.aload_n 0, 1) := by decide +kernel
theorem dd_Mo_lookup_70 : decode prog_9_method_28_code 70 = .ok (.iload_n 2, 1) := by decide +kernel
theorem dd_Mo_lookup_71 : decode prog_9_method_28_code 71 = .ok (.invokevirtual 85, 3) := by decide +kernel
theorem dd_Mo_lookup_74 : decode prog_9_method_28_code 74 = .ok (.if_icmp .ge 6, 3) := by decide +kernel
theorem dd_Mo_lookup_77 : decode prog_9_method_28_code 77 = .ok (.bipush (-5), 2) := by decide +kernel
theorem dd_Mo_lookup_79 : decode prog_9_method_28_code 79 = .ok (.ireturn, 1) := by decide +kernel
theorem dd_Mo_lookup_80 : decode prog_9_method_28_code 80 = .ok (.aload_n 0, 1) := by decide +kernel
theorem dd_Mo_lookup_81 : decode prog_9_method_28_code 81 = .ok (.getfield 59, 3) := by decide +kernel
theorem dd_Mo_lookup_84 : decode prog_9_method_28_code 84 = .ok (.iconst 4, 1) := by decide +kernel
theorem dd_Mo_lookup_85 : decode prog_9_method_28_code 85 = .ok (.iload_n 1, 1) := by decide +kernel
theorem dd_Mo_lookup_86 : decode prog_9_method_28_code 86 = .ok (.imul, 1) := by decide +kernel
theorem dd_Mo_lookup_87 : decode prog_9_method_28_code 87 = .ok (.iload 4, 2) := by decide +kernel
theorem dd_Mo_lookup_89 : decode prog_9_method_28_code 89 = .ok (.iadd, 1) := by decide +kernel
theorem dd_Mo_lookup_90 : decode prog_9_method_28_code 90 = .ok (.iconst 1, 1) := by decide +kernel
theorem dd_Mo_lookup_91 : decode prog_9_method_28_code 91 = .ok (.bastore, 1) := by decide +kernel
theorem dd_Mo_lookup_92 : decode prog_9_method_28_code 92 = .ok (.aload_n 0, 1) := by decide +kernel
theorem dd_Mo_lookup_93 : decode prog_9_method_28_code 93 = .ok (.getfield 62, 3) := by decide +kernel
theorem dd_Mo_lookup_96 : decode prog_9_method_28_code 96 = .ok (.iconst 4, 1) := by decide +kernel
theorem dd_Mo_lookup_97 : decode prog_9_method_28_code 97 = .ok (.iload_n 1, 1) := by decide +kernel
theorem dd_Mo_lookup_98 : decode prog_9_method_28_code 98 = .ok (.imul, 1) := by decide +kernel
theorem dd_Mo_lookup_99 : decode prog_9_method_28_code 99 = .ok (.iload 4, 2) := by decide +kernel
theorem dd_Mo_lookup_101 : decode prog_9_method_28_code 101 = .ok (.iadd, 1) := by decide +kernel
theorem dd_Mo_lookup_102 : decode prog_9_method_28_code 102 = .ok (.iconst 1, 1) := by decide +kernel
theorem dd_Mo_lookup_103 : decode prog_9_method_28_code 103 = .ok (.bastore, 1) := by decide +kernel
theorem dd_Mo_lookup_104 : decode prog_9_method_28_code 104 = .ok (.aload_n 0, 1) := by decide +kernel
theorem dd_Mo_lookup_105 : decode prog_9_method_28_code 105 = .ok (.getfield 23, 3) := by decide +kernel
theorem dd_Mo_lookup_108 : decode prog_9_method_28_code 108 = .ok (.iconst 4, 1) := by decide +kernel
theorem dd_Mo_lookup_109 : decode prog_9_method_28_code 109 = .ok (.iload_n 1, 1) := by decide +kernel
theorem dd_Mo_lookup_110 : decode prog_9_method_28_code 110 = .ok (.imul, 1) := by decide +kernel
theorem dd_Mo_lookup_111 : decode prog_9_method_28_code 111 = .ok (.iload_n 3, 1) := by decide +kernel
theorem dd_Mo_lookup_112 : decode prog_9_method_28_code 112 = .ok (.iadd, 1) := by decide +kernel
theorem dd_Mo_lookup_113 : decode prog_9_method_28_code 113 = .ok (.aload_n 0, 1) := by decide +kernel
theorem dd_Mo_lookup_114 : decode prog_9_method_28_code 114 = .ok (.getfield 56, 3) := by decide +kernel
theorem dd_Mo_lookup_117 : decode prog_9_method_28_code 117 = .ok (.iload 4, 2) := by decide +kernel
theorem dd_Mo_lookup_119 : decode prog_9_method_28_code 119 = .ok (.iaload, 1) := by decide +kernel
theorem dd_Mo_lookup_120 : decode prog_9_method_28_code 120 = .ok (.iconst 1, 1) := by decide +kernel
theorem dd_Mo_lookup_121 : decode prog_9_method_28_code 121 = .ok (.iadd, 1) := by decide +kernel
theorem dd_Mo_lookup_122 : decode prog_9_method_28_code 122 = .ok (.iastore, 1) := by decide +kernel
theorem dd_Mo_lookup_123 : decode prog_9_method_28_code 123 = .ok (.iconst 0, 1) := by decide +kernel
theorem dd_Mo_lookup_124 : decode prog_9_method_28_code 124 = .ok (.ireturn, 1) := by decide +kernel
theorem dd_Mo_collect_0 : decode prog_9_method_29_code 0 = .ok (.iload_n 1, 1) := by decide +kernel
theorem dd_Mo_collect_1 : decode prog_9_method_29_code 1 = .ok (.bipush 8, 2) := by decide +kernel
theorem dd_Mo_collect_3 : decode prog_9_method_29_code 3 = .ok (.if_icmp .eq 11, 3) := by decide +kernel
theorem dd_Mo_collect_6 : decode prog_9_method_29_code 6 = .ok (.aload_n 0, 1) := by decide +kernel
theorem dd_Mo_collect_7 : decode prog_9_method_29_code 7 = .ok (.iload_n 1, 1) := by decide +kernel
theorem dd_Mo_collect_8 : decode prog_9_method_29_code 8 = .ok (.invokevirtual 89, 3) := by decide +kernel
theorem dd_Mo_collect_11 : decode prog_9_method_29_code 11 = .ok (.ifCond .eq 11, 3) := by decide +kernel
theorem dd_Mo_collect_14 : decode prog_9_method_29_code 14 = .ok (.aload_n 0, 1) := by decide +kernel
theorem dd_Mo_collect_15 : decode prog_9_method_29_code 15 = .ok (.iload_n 1, 1) := by decide +kernel
theorem dd_Mo_collect_16 : decode prog_9_method_29_code 16 = .ok (.invokevirtual 141, 3) := by decide +kernel
theorem dd_Mo_collect_19 : decode prog_9_method_29_code 19 = .ok (.goto 4, 3) := by decide +kernel
theorem dd_Mo_collect_22 : decode prog_9_method_29_code 22 = .ok (.iconst (-1), 1) := by decide +kernel
theorem dd_Mo_collect_23 : decode prog_9_method_29_code 23 = .ok (.ireturn, 1) := by decide +kernel
theorem dd_Mo_state_0 : decode prog_9_method_30_code 0 = .ok (.iload_n 1, 1) := by decide +kernel
theorem dd_Mo_state_1 : decode prog_9_method_30_code 1 = .ok (.ifCond .lt 9, 3) := by decide +kernel
theorem dd_Mo_state_4 : decode prog_9_method_30_code 4 = .ok (.iload_n 1, 1) := by decide +kernel
theorem dd_Mo_state_5 : decode prog_9_method_30_code 5 = .ok (.bipush 7, 2) := by decide +kernel
theorem dd_Mo_state_7 : decode prog_9_method_30_code 7 = .ok (.if_icmp .le 7, 3) := by decide +kernel
theorem dd_Mo_state_10 : decode prog_9_method_30_code 10 = .ok (.iconst 0, 1) := by decide +kernel
theorem dd_Mo_state_11 : decode prog_9_method_30_code 11 = .ok (.goto 9, 3) := by decide +kernel
theorem dd_Mo_state_14 : decode prog_9_method_30_code 14 = .ok (.aload_n 0, 1) := by decide +kernel
theorem dd_Mo_state_15 : decode prog_9_method_30_code 15 = .ok (.getfield 7, 3) := by decide +kernel
theorem dd_Mo_state_18 : decode prog_9_method_30_code 18 = .ok (.iload_n 1, 1) := by decide +kernel
theorem dd_Mo_state_19 : decode prog_9_method_30_code 19 = .ok (.iaload, 1) := by decide +kernel
theorem dd_Mo_state_20 : decode prog_9_method_30_code 20 = .ok (.ireturn, 1) := by decide +kernel
theorem dd_Mo_objects_0 : decode prog_9_method_32_code 0 = .ok (.iconst 0, 1) := by decide +kernel
theorem dd_Mo_objects_1 : decode prog_9_method_32_code 1 = .ok (.istore_n 2, 1) := by decide +kernel
theorem dd_Mo_objects_2 : decode prog_9_method_32_code 2 = .ok (.iconst 0, 1) := by decide +kernel
theorem dd_Mo_objects_3 : decode prog_9_method_32_code 3 = .ok (.istore_n 3, 1) := by decide +kernel
theorem dd_Mo_objects_4 : decode prog_9_method_32_code 4 = .ok (.iload_n 3, 1) := by decide +kernel
theorem dd_Mo_objects_5 : decode prog_9_method_32_code 5 = .ok (.bipush 60, 2) := by decide +kernel
theorem dd_Mo_objects_7 : decode prog_9_method_32_code 7 = .ok (.if_icmp .ge 39, 3) := by decide +kernel
theorem dd_Mo_objects_10 : decode prog_9_method_32_code 10 = .ok (.iload_n 2, 1) := by decide +kernel
theorem dd_Mo_objects_11 : decode prog_9_method_32_code 11 = .ok (.iload_n 1, 1) := by decide +kernel
theorem dd_Mo_objects_12 : decode prog_9_method_32_code 12 = .ok (.ifCond .lt 25, 3) := by decide +kernel
theorem dd_Mo_objects_15 : decode prog_9_method_32_code 15 = .ok (.iload_n 1, 1) := by decide +kernel
theorem dd_Mo_objects_16 : decode prog_9_method_32_code 16 = .ok (.bipush 13, 2) := by decide +kernel
theorem dd_Mo_objects_18 : decode prog_9_method_32_code 18 = .ok (.if_icmp .ge 19, 3) := by decide +kernel
theorem dd_Mo_objects_21 : decode prog_9_method_32_code 21 = .ok (.aload_n 0, 1) := by decide +kernel
theorem dd_Mo_objects_22 : decode prog_9_method_32_code 22 = .ok (.getfield 26, 3) := by decide +kernel
theorem dd_Mo_objects_25 : decode prog_9_method_32_code 25 = .ok (.iload_n 3, 1) := by decide +kernel
theorem dd_Mo_objects_26 : decode prog_9_method_32_code 26 = .ok (.iaload, 1) := by decide +kernel
theorem dd_Mo_objects_27 : decode prog_9_method_32_code 27 = .ok (.iload_n 1, 1) := by decide +kernel
theorem dd_Mo_objects_28 : decode prog_9_method_32_code 28 = .ok (.iconst 1, 1) := by decide +kernel
theorem dd_Mo_objects_29 : decode prog_9_method_32_code 29 = .ok (.iadd, 1) := by decide +kernel
theorem dd_Mo_objects_30 : decode prog_9_method_32_code 30 = .ok (.if_icmp .ne 7, 3) := by decide +kernel
theorem dd_Mo_objects_33 : decode prog_9_method_32_code 33 = .ok (.iconst 1, 1) := by decide +kernel
theorem dd_Mo_objects_34 : decode prog_9_method_32_code 34 = .ok (.goto 4, 3) := by decide +kernel
theorem dd_Mo_objects_37 : decode prog_9_method_32_code 37 = .ok (.iconst 0, 1) := by decide +kernel
theorem dd_Mo_objects_38 : decode prog_9_method_32_code 38 = .ok (.iadd, 1) := by decide +kernel
theorem dd_Mo_objects_39 : decode prog_9_method_32_code 39 = .ok (.istore_n 2, 1) := by decide +kernel
theorem dd_Mo_objects_40 : decode prog_9_method_32_code 40 = .ok (.iinc 3 1, 3) := by decide +kernel
theorem dd_Mo_objects_43 : decode prog_9_method_32_code 43 = .ok (.goto (-39), 3) := by decide +kernel
theorem dd_Mo_objects_46 : decode prog_9_method_32_code 46 = .ok (.iload_n 2, 1) := by decide +kernel
theorem dd_Mo_objects_47 : decode prog_9_method_32_code 47 = .ok (.ireturn, 1) := by decide +kernel
theorem dd_Mo_items_0 : decode prog_9_method_33_code 0 = .ok (.iconst 0, 1) := by decide +kernel
theorem dd_Mo_items_1 : decode prog_9_method_33_code 1 = .ok (.istore_n 2, 1) := by decide +kernel
theorem dd_Mo_items_2 : decode prog_9_method_33_code 2 = .ok (.iconst 0, 1) := by decide +kernel
theorem dd_Mo_items_3 : decode prog_9_method_33_code 3 = .ok (.istore_n 3, 1) := by decide +kernel
theorem dd_Mo_items_4 : decode prog_9_method_33_code 4 = .ok (.iload_n 3, 1) := by decide +kernel
theorem dd_Mo_items_5 : decode prog_9_method_33_code 5 = .ok (.bipush 60, 2) := by decide +kernel
theorem dd_Mo_items_7 : decode prog_9_method_33_code 7 = .ok (.if_icmp .ge 41, 3) := by decide +kernel
theorem dd_Mo_items_10 : decode prog_9_method_33_code 10 = .ok (.iload_n 1, 1) := by decide +kernel
theorem dd_Mo_items_11 : decode prog_9_method_33_code 11 = .ok (.ifCond .lt 37, 3) := by decide +kernel
theorem dd_Mo_items_14 : decode prog_9_method_33_code 14 = .ok (.iload_n 1, 1) := by decide +kernel
theorem dd_Mo_items_15 : decode prog_9_method_33_code 15 = .ok (.bipush 13, 2) := by decide +kernel
theorem dd_Mo_items_17 : decode prog_9_method_33_code 17 = .ok (.if_icmp .ge 31, 3) := by decide +kernel
theorem dd_Mo_items_20 : decode prog_9_method_33_code 20 = .ok (.iload_n 2, 1) := by decide +kernel
theorem dd_Mo_items_21 : decode prog_9_method_33_code 21 = .ok (.aload_n 0, 1) := by decide +kernel
theorem dd_Mo_items_22 : decode prog_9_method_33_code 22 = .ok (.getfield 65, 3) := by decide +kernel
theorem dd_Mo_items_25 : decode prog_9_method_33_code 25 = .ok (.bipush 60, 2) := by decide +kernel
theorem dd_Mo_items_27 : decode prog_9_method_33_code 27 = .ok (.iload_n 1, 1) := by decide +kernel
theorem dd_Mo_items_28 : decode prog_9_method_33_code 28 = .ok (.imul, 1) := by decide +kernel
theorem dd_Mo_items_29 : decode prog_9_method_33_code 29 = .ok (.iload_n 3, 1) := by decide +kernel
theorem dd_Mo_items_30 : decode prog_9_method_33_code 30 = .ok (.iadd, 1) := by decide +kernel
theorem dd_Mo_items_31 : decode prog_9_method_33_code 31 = .ok (.baload, 1) := by decide +kernel
theorem dd_Mo_items_32 : decode prog_9_method_33_code 32 = .ok (.ifCond .eq 7, 3) := by decide +kernel
theorem dd_Mo_items_35 : decode prog_9_method_33_code 35 = .ok (.iconst 1, 1) := by decide +kernel
theorem dd_Mo_items_36 : decode prog_9_method_33_code 36 = .ok (.goto 4, 3) := by decide +kernel
theorem dd_Mo_items_39 : decode prog_9_method_33_code 39 = .ok (.iconst 0, 1) := by decide +kernel
theorem dd_Mo_items_40 : decode prog_9_method_33_code 40 = .ok (.iadd, 1) := by decide +kernel
theorem dd_Mo_items_41 : decode prog_9_method_33_code 41 = .ok (.istore_n 2, 1) := by decide +kernel
theorem dd_Mo_items_42 : decode prog_9_method_33_code 42 = .ok (.iinc 3 1, 3) := by decide +kernel
theorem dd_Mo_items_45 : decode prog_9_method_33_code 45 = .ok (.goto (-41), 3) := by decide +kernel
theorem dd_Mo_items_48 : decode prog_9_method_33_code 48 = .ok (.iload_n 2, 1) := by decide +kernel
theorem dd_Mo_items_49 : decode prog_9_method_33_code 49 = .ok (.ireturn, 1) := by decide +kernel
theorem dd_Mo_use_0 : decode prog_9_method_35_code 0 = .ok (.aload_n 0, 1) := by decide +kernel
theorem dd_Mo_use_1 : decode prog_9_method_35_code 1 = .ok (.iload_n 1, 1) := by decide +kernel
theorem dd_Mo_use_2 : decode prog_9_method_35_code 2 = .ok (.invokevirtual 147, 3) := by decide +kernel
theorem dd_Mo_use_5 : decode prog_9_method_35_code 5 = .ok (.ifCond .eq 12, 3) := by decide +kernel
theorem dd_Mo_use_8 : decode prog_9_method_35_code 8 = .ok (.aload_n 0, 1) := by decide +kernel
theorem dd_Mo_use_9 : decode prog_9_method_35_code 9 = .ok (.getfield 68, 3) := by decide +kernel
theorem dd_Mo_use_12 : decode prog_9_method_35_code 12 = .ok (.iload_n 1, 1) := by decide +kernel
theorem dd_Mo_use_13 : decode prog_9_method_35_code 13 = .ok (.iaload, 1) := by decide +kernel
theorem dd_Mo_use_14 : decode prog_9_method_35_code 14 = .ok (.goto 4, 3) := by decide +kernel
theorem dd_Mo_use_17 : decode prog_9_method_35_code 17 = .ok (.iconst (-1), 1) := by decide +kernel
theorem dd_Mo_use_18 : decode prog_9_method_35_code 18 = .ok (.ireturn, 1) := by decide +kernel
theorem dd_Mo_exists_0 : decode prog_9_method_34_code 0 = .ok (.aload_n 0, 1) := by decide +kernel
theorem dd_Mo_exists_1 : decode prog_9_method_34_code 1 = .ok (.invokevirtual 92, 3) := by decide +kernel
theorem dd_Mo_exists_4 : decode prog_9_method_34_code 4 = .ok (.iload_n 1, 1) := by decide +kernel
theorem dd_Mo_exists_5 : decode prog_9_method_34_code 5 = .ok (.ifCond .lt 31, 3) := by decide +kernel
theorem dd_Mo_exists_8 : decode prog_9_method_34_code 8 = .ok (.iload_n 1, 1) := by decide +kernel
theorem dd_Mo_exists_9 : decode prog_9_method_34_code 9 = .ok (.bipush 8, 2) := by decide +kernel
theorem dd_Mo_exists_11 : decode prog_9_method_34_code 11 = .ok (.if_icmp .ge 25, 3) := by decide +kernel
theorem dd_Mo_exists_14 : decode prog_9_method_34_code 14 = .ok (.aload_n 0, 1) := by decide +kernel
theorem dd_Mo_exists_15 : decode prog_9_method_34_code 15 = .ok (.getfield 7, 3) := by decide +kernel
theorem dd_Mo_exists_18 : decode prog_9_method_34_code 18 = .ok (.iload_n 1, 1) := by decide +kernel
theorem dd_Mo_exists_19 : decode prog_9_method_34_code 19 = .ok (.iaload, 1) := by decide +kernel
theorem dd_Mo_exists_20 : decode prog_9_method_34_code 20 = .ok (.ifCond .le 16, 3) := by decide +kernel
theorem dd_Mo_exists_23 : decode prog_9_method_34_code 23 = .ok (.aload_n 0, 1) := by decide +kernel
theorem dd_Mo_exists_24 : decode prog_9_method_34_code 24 = .ok (.getfield 71, 3) := by decide +kernel
theorem dd_Mo_exists_27 : decode prog_9_method_34_code 27 = .ok (.iload_n 1, 1) := by decide +kernel
theorem dd_Mo_exists_28 : decode prog_9_method_34_code 28 = .ok (.baload, 1) := by decide +kernel
theorem dd_Mo_exists_29 : decode prog_9_method_34_code 29 = .ok (.ifCond .eq 7, 3) := by decide +kernel
theorem dd_Mo_exists_32 : decode prog_9_method_34_code 32 = .ok (.iconst 1, 1) := by decide +kernel
theorem dd_Mo_exists_33 : decode prog_9_method_34_code 33 = .ok (.goto 4, 3) := by decide +kernel
theorem dd_Mo_exists_36 : decode prog_9_method_34_code 36 = .ok (.iconst 0, 1) := by decide +kernel
theorem dd_Mo_exists_37 : decode prog_9_method_34_code 37 = .ok (.ireturn, 1) := by decide +kernel
theorem dd_Mo_room_0 : decode prog_9_method_36_code 0 = .ok (.aload_n 0, 1) := by decide +kernel
theorem dd_Mo_room_1 : decode prog_9_method_36_code 1 = .ok (.iload_n 1, 1) := by decide +kernel
theorem dd_Mo_room_2 : decode prog_9_method_36_code 2 = .ok (.invokevirtual 147, 3) := by decide +kernel
theorem dd_Mo_room_5 : decode prog_9_method_36_code 5 = .ok (.ifCond .eq 11, 3) := by decide +kernel
theorem dd_Mo_room_8 : decode prog_9_method_36_code 8 = .ok (.aload_n 0, 1) := by decide +kernel
theorem dd_Mo_room_9 : decode prog_9_method_36_code 9 = .ok (.iload_n 1, 1) := by decide +kernel
theorem dd_Mo_room_10 : decode prog_9_method_36_code 10 = .ok (.invokevirtual 124, 3) := by decide +kernel
theorem dd_Mo_room_13 : decode prog_9_method_36_code 13 = .ok (.goto 4, 3) := by decide +kernel
theorem dd_Mo_room_16 : decode prog_9_method_36_code 16 = .ok (.iconst (-1), 1) := by decide +kernel
theorem dd_Mo_room_17 : decode prog_9_method_36_code 17 = .ok (.ireturn, 1) := by decide +kernel
theorem dd_Mo_shares_0 : decode prog_9_method_37_code 0 = .ok (.aload_n 0, 1) := by decide +kernel
theorem dd_Mo_shares_1 : decode prog_9_method_37_code 1 = .ok (.iload_n 1, 1) := by decide +kernel
theorem dd_Mo_shares_2 : decode prog_9_method_37_code 2 = .ok (.invokevirtual 89, 3) := by decide +kernel
theorem dd_Mo_shares_5 : decode prog_9_method_37_code 5 = .ok (.ifCond .eq 31, 3) := by decide +kernel
theorem dd_Mo_shares_8 : decode prog_9_method_37_code 8 = .ok (.aload_n 0, 1) := by decide +kernel
theorem dd_Mo_shares_9 : decode prog_9_method_37_code 9 = .ok (.iload_n 2, 1) := by decide +kernel
theorem dd_Mo_shares_10 : decode prog_9_method_37_code 10 = .ok (.invokevirtual 81, 3) := by decide +kernel
theorem dd_Mo_shares_13 : decode prog_9_method_37_code 13 = .ok (.ifCond .eq 23, 3) := by decide +kernel
theorem dd_Mo_shares_16 : decode prog_9_method_37_code 16 = .ok (.aload_n 0, 1) := by decide +kernel
theorem dd_Mo_shares_17 : decode prog_9_method_37_code 17 = .ok (.getfield 59, 3) := by decide +kernel
theorem dd_Mo_shares_20 : decode prog_9_method_37_code 20 = .ok (.iconst 4, 1) := by decide +kernel
theorem dd_Mo_shares_21 : decode prog_9_method_37_code 21 = .ok (.iload_n 1, 1) := by decide +kernel
theorem dd_Mo_shares_22 : decode prog_9_method_37_code 22 = .ok (.imul, 1) := by decide +kernel
theorem dd_Mo_shares_23 : decode prog_9_method_37_code 23 = .ok (.iload_n 2, 1) := by decide +kernel
theorem dd_Mo_shares_24 : decode prog_9_method_37_code 24 = .ok (.iadd, 1) := by decide +kernel
theorem dd_Mo_shares_25 : decode prog_9_method_37_code 25 = .ok (.bipush 9, 2) := by decide +kernel
theorem dd_Mo_shares_27 : decode prog_9_method_37_code 27 = .ok (.isub, 1) := by decide +kernel
theorem dd_Mo_shares_28 : decode prog_9_method_37_code 28 = .ok (.baload, 1) := by decide +kernel
theorem dd_Mo_shares_29 : decode prog_9_method_37_code 29 = .ok (.ifCond .eq 7, 3) := by decide +kernel
theorem dd_Mo_shares_32 : decode prog_9_method_37_code 32 = .ok (.iconst 1, 1) := by decide +kernel
theorem dd_Mo_shares_33 : decode prog_9_method_37_code 33 = .ok (.goto 4, 3) := by decide +kernel
theorem dd_Mo_shares_36 : decode prog_9_method_37_code 36 = .ok (.iconst 0, 1) := by decide +kernel
theorem dd_Mo_shares_37 : decode prog_9_method_37_code 37 = .ok (.ireturn, 1) := by decide +kernel
theorem dd_Mo_where_0 : decode prog_9_method_38_code 0 = .ok (.aload_n 0, 1) := by decide +kernel
theorem dd_Mo_where_1 : decode prog_9_method_38_code 1 = .ok (.iload_n 1, 1) := by decide +kernel
theorem dd_Mo_where_2 : decode prog_9_method_38_code 2 = .ok (.invokevirtual 89, 3) := by decide +kernel
theorem dd_Mo_where_5 : decode prog_9_method_38_code 5 = .ok (.ifCond .eq 10, 3) := by decide +kernel
theorem dd_Mo_where_8 : decode prog_9_method_38_code 8 = .ok (.iload_n 2, 1) := by decide +kernel
theorem dd_Mo_where_9 : decode prog_9_method_38_code 9 = .ok (.invokestatic 134, 3) := by decide +kernel
theorem dd_Mo_where_12 : decode prog_9_method_38_code 12 = .ok (.ifCond .ne 5, 3) := by decide +kernel
theorem dd_Mo_where_15 : decode prog_9_method_38_code 15 = .ok (.iconst (-1), 1) := by decide +kernel
theorem dd_Mo_where_16 : decode prog_9_method_38_code 16 = .ok (.ireturn, 1) := by decide +kernel
theorem dd_Mo_where_17 : decode prog_9_method_38_code 17 = .ok (.aload_n 0, 1) := by decide +kernel
theorem dd_Mo_where_18 : decode prog_9_method_38_code 18 = .ok (.getfield 23, 3) := by decide +kernel
theorem dd_Mo_where_21 : decode prog_9_method_38_code 21 = .ok (.iconst 4, 1) := by decide +kernel
theorem dd_Mo_where_22 : decode prog_9_method_38_code 22 = .ok (.iload_n 1, 1) := by decide +kernel
theorem dd_Mo_where_23 : decode prog_9_method_38_code 23 = .ok (.imul, 1) := by decide +kernel
theorem dd_Mo_where_24 : decode prog_9_method_38_code 24 = .ok (.iload_n 2, 1) := by decide +kernel
theorem dd_Mo_where_25 : decode prog_9_method_38_code 25 = .ok (.iadd, 1) := by decide +kernel
theorem dd_Mo_where_26 : decode prog_9_method_38_code 26 = .ok (.iaload, 1) := by decide +kernel
theorem dd_Mo_where_27 : decode prog_9_method_38_code 27 = .ok (.iconst 1, 1) := by decide +kernel
theorem dd_Mo_where_28 : decode prog_9_method_38_code 28 = .ok (.isub, 1) := by decide +kernel
theorem dd_Mo_where_29 : decode prog_9_method_38_code 29 = .ok (.istore_n 3, 1) := by decide +kernel
theorem dd_Mo_where_30 : decode prog_9_method_38_code 30 = .ok (.iload_n 3, 1) := by decide +kernel
theorem dd_Mo_where_31 : decode prog_9_method_38_code 31 = .ok (.ifCond .ge 8, 3) := by decide +kernel
theorem dd_Mo_where_34 : decode prog_9_method_38_code 34 = .ok (.bipush (-2), 2) := by decide +kernel
theorem dd_Mo_where_36 : decode prog_9_method_38_code 36 = .ok (.goto 11, 3) := by decide +kernel
theorem dd_Mo_where_39 : decode prog_9_method_38_code 39 = .ok (.aload_n 0, 1) := by decide +kernel
theorem dd_Mo_where_40 : decode prog_9_method_38_code 40 = .ok (.getfield 26, 3) := by decide +kernel
theorem dd_Mo_where_43 : decode prog_9_method_38_code 43 = .ok (.iload_n 3, 1) := by decide +kernel
theorem dd_Mo_where_44 : decode prog_9_method_38_code 44 = .ok (.iaload, 1) := by decide +kernel
theorem dd_Mo_where_45 : decode prog_9_method_38_code 45 = .ok (.iconst 1, 1) := by decide +kernel
theorem dd_Mo_where_46 : decode prog_9_method_38_code 46 = .ok (.isub, 1) := by decide +kernel
theorem dd_Mo_where_47 : decode prog_9_method_38_code 47 = .ok (.ireturn, 1) := by decide +kernel
theorem dd_Mo_tag_0 : decode prog_9_method_39_code 0 = .ok (.aload_n 0, 1) := by decide +kernel
theorem dd_Mo_tag_1 : decode prog_9_method_39_code 1 = .ok (.iload_n 1, 1) := by decide +kernel
theorem dd_Mo_tag_2 : decode prog_9_method_39_code 2 = .ok (.invokevirtual 89, 3) := by decide +kernel
theorem dd_Mo_tag_5 : decode prog_9_method_39_code 5 = .ok (.ifCond .eq 27, 3) := by decide +kernel
theorem dd_Mo_tag_8 : decode prog_9_method_39_code 8 = .ok (.iload_n 2, 1) := by decide +kernel
theorem dd_Mo_tag_9 : decode prog_9_method_39_code 9 = .ok (.invokestatic 134, 3) := by decide +kernel
theorem dd_Mo_tag_12 : decode prog_9_method_39_code 12 = .ok (.ifCond .eq 20, 3) := by decide +kernel
theorem dd_Mo_tag_15 : decode prog_9_method_39_code 15 = .ok (.aload_n 0, 1) := by decide +kernel
theorem dd_Mo_tag_16 : decode prog_9_method_39_code 16 = .ok (.getfield 23, 3) := by decide +kernel
theorem dd_Mo_tag_19 : decode prog_9_method_39_code 19 = .ok (.iconst 4, 1) := by decide +kernel
theorem dd_Mo_tag_20 : decode prog_9_method_39_code 20 = .ok (.iload_n 1, 1) := by decide +kernel
theorem dd_Mo_tag_21 : decode prog_9_method_39_code 21 = .ok (.imul, 1) := by decide +kernel
theorem dd_Mo_tag_22 : decode prog_9_method_39_code 22 = .ok (.iload_n 2, 1) := by decide +kernel
theorem dd_Mo_tag_23 : decode prog_9_method_39_code 23 = .ok (.iadd, 1) := by decide +kernel
theorem dd_Mo_tag_24 : decode prog_9_method_39_code 24 = .ok (.iaload, 1) := by decide +kernel
theorem dd_Mo_tag_25 : decode prog_9_method_39_code 25 = .ok (.ifCond .le 7, 3) := by decide +kernel
theorem dd_Mo_tag_28 : decode prog_9_method_39_code 28 = .ok (.iconst 1, 1) := by decide +kernel
theorem dd_Mo_tag_29 : decode prog_9_method_39_code 29 = .ok (.goto 4, 3) := by decide +kernel
theorem dd_Mo_tag_32 : decode prog_9_method_39_code 32 = .ok (.iconst 0, 1) := by decide +kernel
theorem dd_Mo_tag_33 : decode prog_9_method_39_code 33 = .ok (.istore_n 3, 1) := by decide +kernel
theorem dd_Mo_tag_34 : decode prog_9_method_39_code 34 = .ok (.iload_n 3, 1) := by decide +kernel
theorem dd_Mo_tag_35 : decode prog_9_method_39_code 35 = .ok (.ifCond .eq 23, 3) := by decide +kernel
theorem dd_Mo_tag_38 : decode prog_9_method_39_code 38 = .ok (.aload_n 0, 1) := by decide +kernel
theorem dd_Mo_tag_39 : decode prog_9_method_39_code 39 = .ok (.getfield 32, 3) := by decide +kernel
theorem dd_Mo_tag_42 : decode prog_9_method_39_code 42 = .ok (.aload_n 0, 1) := by decide +kernel
theorem dd_Mo_tag_43 : decode prog_9_method_39_code 43 = .ok (.getfield 23, 3) := by decide +kernel
theorem dd_Mo_tag_46 : decode prog_9_method_39_code 46 = .ok (.iconst 4, 1) := by decide +kernel
theorem dd_Mo_tag_47 : decode prog_9_method_39_code 47 = .ok (.iload_n 1, 1) := by decide +kernel
theorem dd_Mo_tag_48 : decode prog_9_method_39_code 48 = .ok (.imul, 1) := by decide +kernel
theorem dd_Mo_tag_49 : decode prog_9_method_39_code 49 = .ok (.iload_n 2, 1) := by decide +kernel
theorem dd_Mo_tag_50 : decode prog_9_method_39_code 50 = .ok (.iadd, 1) := by decide +kernel
theorem dd_Mo_tag_51 : decode prog_9_method_39_code 51 = .ok (.iaload, 1) := by decide +kernel
theorem dd_Mo_tag_52 : decode prog_9_method_39_code 52 = .ok (.iconst 1, 1) := by decide +kernel
theorem dd_Mo_tag_53 : decode prog_9_method_39_code 53 = .ok (.isub, 1) := by decide +kernel
theorem dd_Mo_tag_54 : decode prog_9_method_39_code 54 = .ok (.iaload, 1) := by decide +kernel
theorem dd_Mo_tag_55 : decode prog_9_method_39_code 55 = .ok (.goto 4, 3) := by decide +kernel
theorem dd_Mo_tag_58 : decode prog_9_method_39_code 58 = .ok (.iconst 0, 1) := by decide +kernel
theorem dd_Mo_tag_59 : decode prog_9_method_39_code 59 = .ok (.ireturn, 1) := by decide +kernel
theorem dd_La_law_0 : decode code 0 = .ok (.new 7, 3) := by decide +kernel
theorem dd_La_law_3 : decode code 3 = .ok (.dup, 1) := by decide +kernel
theorem dd_La_law_4 : decode code 4 = .ok (.aload_n 0, 1) := by decide +kernel
theorem dd_La_law_5 : decode code 5 = .ok (.iconst 0, 1) := by decide +kernel
theorem dd_La_law_6 : decode code 6 = .ok (.invokestatic 9, 3) := by decide +kernel
theorem dd_La_law_9 : decode code 9 = .ok (.invokespecial 15, 3) := by decide +kernel
theorem dd_La_law_12 : decode code 12 = .ok (.astore_n 1, 1) := by decide +kernel
theorem dd_La_law_13 : decode code 13 = .ok (.new 18, 3) := by decide +kernel
theorem dd_La_law_16 : decode code 16 = .ok (.dup, 1) := by decide +kernel
theorem dd_La_law_17 : decode code 17 = .ok (.aload_n 0, 1) := by decide +kernel
theorem dd_La_law_18 : decode code 18 = .ok (.iconst 0, 1) := by decide +kernel
theorem dd_La_law_19 : decode code 19 = .ok (.invokestatic 9, 3) := by decide +kernel
theorem dd_La_law_22 : decode code 22 = .ok (.invokespecial 20, 3) := by decide +kernel
theorem dd_La_law_25 : decode code 25 = .ok (.astore_n 2, 1) := by decide +kernel
theorem dd_La_law_26 : decode code 26 = .ok (.iconst 1, 1) := by decide +kernel
theorem dd_La_law_27 : decode code 27 = .ok (.istore_n 3, 1) := by decide +kernel
theorem dd_La_law_28 : decode code 28 = .ok (.iload_n 3, 1) := by decide +kernel
theorem dd_La_law_29 : decode code 29 = .ok (.aload_n 0, 1) := by decide +kernel
theorem dd_La_law_30 : decode code 30 = .ok (.arraylength, 1) := by decide +kernel
theorem dd_La_law_31 : decode code 31 = .ok (.iconst 5, 1) := by decide +kernel
theorem dd_La_law_32 : decode code 32 = .ok (.isub, 1) := by decide +kernel
theorem dd_La_law_33 : decode code 33 = .ok (.if_icmp .gt 801, 3) := by decide +kernel
theorem dd_La_law_36 : decode code 36 = .ok (.aload_n 0, 1) := by decide +kernel
theorem dd_La_law_37 : decode code 37 = .ok (.iload_n 3, 1) := by decide +kernel
theorem dd_La_law_38 : decode code 38 = .ok (.iaload, 1) := by decide +kernel
theorem dd_La_law_39 : decode code 39 = .ok (.bipush 31, 2) := by decide +kernel
theorem dd_La_law_41 : decode code 41 = .ok (.iand, 1) := by decide +kernel
theorem dd_La_law_42 : decode code 42 = .ok (.tableswitch 786 0 19 #[94, 153, 176, 225, 278, 331, 384, 427, 450, 483, 526, 549, 572, 595, 618, 641, 664, 687, 720, 753], 94) := by decide +kernel
theorem dd_La_law_136 : decode code 136 = .ok (.aload_n 1, 1) := by decide +kernel
theorem dd_La_law_137 : decode code 137 = .ok (.aload_n 0, 1) := by decide +kernel
theorem dd_La_law_138 : decode code 138 = .ok (.iload_n 3, 1) := by decide +kernel
theorem dd_La_law_139 : decode code 139 = .ok (.iconst 1, 1) := by decide +kernel
theorem dd_La_law_140 : decode code 140 = .ok (.iadd, 1) := by decide +kernel
theorem dd_La_law_141 : decode code 141 = .ok (.iaload, 1) := by decide +kernel
theorem dd_La_law_142 : decode code 142 = .ok (.aload_n 0, 1) := by decide +kernel
theorem dd_La_law_143 : decode code 143 = .ok (.iload_n 3, 1) := by decide +kernel
theorem dd_La_law_144 : decode code 144 = .ok (.iconst 2, 1) := by decide +kernel
