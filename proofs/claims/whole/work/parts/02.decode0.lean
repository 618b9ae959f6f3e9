/-! decode rows (by program) -/
theorem dd_PH_init_0 : decode prog_1_method_1_code 0 = .ok (.aload_n 0, 1) := by decide +kernel
theorem dd_PH_init_1 : decode prog_1_method_1_code 1 = .ok (.invokespecial 1, 3) := by decide +kernel
theorem dd_PH_init_4 : decode prog_1_method_1_code 4 = .ok (.aload_n 0, 1) := by decide +kernel
theorem dd_PH_init_5 : decode prog_1_method_1_code 5 = .ok (.new 7, 3) := by decide +kernel
theorem dd_PH_init_8 : decode prog_1_method_1_code 8 = .ok (.dup, 1) := by decide +kernel
theorem dd_PH_init_9 : decode prog_1_method_1_code 9 = .ok (.invokespecial 9, 3) := by decide +kernel
theorem dd_PH_init_12 : decode prog_1_method_1_code 12 = .ok (.putfield 10, 3) := by decide +kernel
theorem dd_PH_init_15 : decode prog_1_method_1_code 15 = .ok (.aload_n 0, 1) := by decide +kernel
theorem dd_PH_init_16 : decode prog_1_method_1_code 16 = .ok (.new 16, 3) := by decide +kernel
theorem dd_PH_init_19 : decode prog_1_method_1_code 19 = .ok (.dup, 1) := by decide +kernel
theorem dd_PH_init_20 : decode prog_1_method_1_code 20 = .ok (.invokespecial 18, 3) := by decide +kernel
theorem dd_PH_init_23 : decode prog_1_method_1_code 23 = .ok (.putfield 19, 3) := by decide +kernel
theorem dd_PH_init_26 : decode prog_1_method_1_code 26 = .ok (.aload_n 0, 1) := by decide +kernel
theorem dd_PH_init_27 : decode prog_1_method_1_code 27 = .ok (.new 23, 3) := by decide +kernel
theorem dd_PH_init_30 : decode prog_1_method_1_code 30 = .ok (.dup, 1) := by decide +kernel
theorem dd_PH_init_31 : decode prog_1_method_1_code 31 = .ok (.invokespecial 25, 3) := by decide +kernel
theorem dd_PH_init_34 : decode prog_1_method_1_code 34 = .ok (.putfield 26, 3) := by decide +kernel
theorem dd_PH_init_37 : decode prog_1_method_1_code 37 = .ok (.aload_n 0, 1) := by decide +kernel
theorem dd_PH_init_38 : decode prog_1_method_1_code 38 = .ok (.bipush 8, 2) := by decide +kernel
theorem dd_PH_init_40 : decode prog_1_method_1_code 40 = .ok (.anewarray 30, 3) := by decide +kernel
theorem dd_PH_init_43 : decode prog_1_method_1_code 43 = .ok (.putfield 32, 3) := by decide +kernel
theorem dd_PH_init_46 : decode prog_1_method_1_code 46 = .ok (.aload_n 0, 1) := by decide +kernel
theorem dd_PH_init_47 : decode prog_1_method_1_code 47 = .ok (.bipush 13, 2) := by decide +kernel
theorem dd_PH_init_49 : decode prog_1_method_1_code 49 = .ok (.anewarray 36, 3) := by decide +kernel
theorem dd_PH_init_52 : decode prog_1_method_1_code 52 = .ok (.putfield 38, 3) := by decide +kernel
theorem dd_PH_init_55 : decode prog_1_method_1_code 55 = .ok (.aload_n 0, 1) := by decide +kernel
theorem dd_PH_init_56 : decode prog_1_method_1_code 56 = .ok (.iconst 1, 1) := by decide +kernel
theorem dd_PH_init_57 : decode prog_1_method_1_code 57 = .ok (.putfield 42, 3) := by decide +kernel
theorem dd_PH_init_60 : decode prog_1_method_1_code 60 = .ok (.aload_n 0, 1) := by decide +kernel
theorem dd_PH_init_61 : decode prog_1_method_1_code 61 = .ok (.bipush 9, 2) := by decide +kernel
theorem dd_PH_init_63 : decode prog_1_method_1_code 63 = .ok (.putfield 46, 3) := by decide +kernel
theorem dd_PH_init_66 : decode prog_1_method_1_code 66 = .ok (.iconst 4, 1) := by decide +kernel
theorem dd_PH_init_67 : decode prog_1_method_1_code 67 = .ok (.bipush 24, 2) := by decide +kernel
theorem dd_PH_init_69 : decode prog_1_method_1_code 69 = .ok (.iload_n 1, 1) := by decide +kernel
theorem dd_PH_init_70 : decode prog_1_method_1_code 70 = .ok (.invokestatic 49, 3) := by decide +kernel
theorem dd_PH_init_73 : decode prog_1_method_1_code 73 = .ok (.invokestatic 55, 3) := by decide +kernel
theorem dd_PH_init_76 : decode prog_1_method_1_code 76 = .ok (.istore_n 2, 1) := by decide +kernel
theorem dd_PH_init_77 : decode prog_1_method_1_code 77 = .ok (.aload_n 0, 1) := by decide +kernel
theorem dd_PH_init_78 : decode prog_1_method_1_code 78 = .ok (.getfield 32, 3) := by decide +kernel
theorem dd_PH_init_81 : decode prog_1_method_1_code 81 = .ok (.iconst 0, 1) := by decide +kernel
theorem dd_PH_init_82 : decode prog_1_method_1_code 82 = .ok (.new 30, 3) := by decide +kernel
theorem dd_PH_init_85 : decode prog_1_method_1_code 85 = .ok (.dup, 1) := by decide +kernel
theorem dd_PH_init_86 : decode prog_1_method_1_code 86 = .ok (.iconst 0, 1) := by decide +kernel
theorem dd_PH_init_87 : decode prog_1_method_1_code 87 = .ok (.iconst (-1), 1) := by decide +kernel
theorem dd_PH_init_88 : decode prog_1_method_1_code 88 = .ok (.iload_n 2, 1) := by decide +kernel
theorem dd_PH_init_89 : decode prog_1_method_1_code 89 = .ok (.iconst 1, 1) := by decide +kernel
theorem dd_PH_init_90 : decode prog_1_method_1_code 90 = .ok (.invokespecial 58, 3) := by decide +kernel
theorem dd_PH_init_93 : decode prog_1_method_1_code 93 = .ok (.aastore, 1) := by decide +kernel
theorem dd_PH_init_94 : decode prog_1_method_1_code 94 = .ok (.return_, 1) := by decide +kernel
theorem dd_Me_init_0 : decode prog_6_method_1_code 0 = .ok (.aload_n 0, 1) := by decide +kernel
theorem dd_Me_init_1 : decode prog_6_method_1_code 1 = .ok (.invokespecial 3, 3) := by decide +kernel
theorem dd_Me_init_4 : decode prog_6_method_1_code 4 = .ok (.aload_n 0, 1) := by decide +kernel
theorem dd_Me_init_5 : decode prog_6_method_1_code 5 = .ok (.new 9, 3) := by decide +kernel
theorem dd_Me_init_8 : decode prog_6_method_1_code 8 = .ok (.dup, 1) := by decide +kernel
theorem dd_Me_init_9 : decode prog_6_method_1_code 9 = .ok (.invokespecial 11, 3) := by decide +kernel
theorem dd_Me_init_12 : decode prog_6_method_1_code 12 = .ok (.putfield 12, 3) := by decide +kernel
theorem dd_Me_init_15 : decode prog_6_method_1_code 15 = .ok (.aload_n 0, 1) := by decide +kernel
theorem dd_Me_init_16 : decode prog_6_method_1_code 16 = .ok (.new 9, 3) := by decide +kernel
theorem dd_Me_init_19 : decode prog_6_method_1_code 19 = .ok (.dup, 1) := by decide +kernel
theorem dd_Me_init_20 : decode prog_6_method_1_code 20 = .ok (.invokespecial 11, 3) := by decide +kernel
theorem dd_Me_init_23 : decode prog_6_method_1_code 23 = .ok (.putfield 18, 3) := by decide +kernel
theorem dd_Me_init_26 : decode prog_6_method_1_code 26 = .ok (.return_, 1) := by decide +kernel
theorem dd_AL_init_0 : decode prog_17_method_2_code 0 = .ok (.aload_n 0, 1) := by decide +kernel
theorem dd_AL_init_1 : decode prog_17_method_2_code 1 = .ok (.invokespecial 1, 3) := by decide +kernel
theorem dd_AL_init_4 : decode prog_17_method_2_code 4 = .ok (.aload_n 0, 1) := by decide +kernel
theorem dd_AL_init_5 : decode prog_17_method_2_code 5 = .ok (.getstatic 39, 3) := by decide +kernel
theorem dd_AL_init_8 : decode prog_17_method_2_code 8 = .ok (.putfield 9, 3) := by decide +kernel
theorem dd_AL_init_11 : decode prog_17_method_2_code 11 = .ok (.return_, 1) := by decide +kernel
theorem dd_Ab_init_0 : decode prog_16_method_1_code 0 = .ok (.aload_n 0, 1) := by decide +kernel
theorem dd_Ab_init_1 : decode prog_16_method_1_code 1 = .ok (.invokespecial 1, 3) := by decide +kernel
theorem dd_Ab_init_4 : decode prog_16_method_1_code 4 = .ok (.aload_n 0, 1) := by decide +kernel
theorem dd_Ab_init_5 : decode prog_16_method_1_code 5 = .ok (.iconst 0, 1) := by decide +kernel
theorem dd_Ab_init_6 : decode prog_16_method_1_code 6 = .ok (.putfield 7, 3) := by decide +kernel
theorem dd_Ab_init_9 : decode prog_16_method_1_code 9 = .ok (.return_, 1) := by decide +kernel
theorem dd_Ac_init_0 : decode prog_15_method_1_code 0 = .ok (.aload_n 0, 1) := by decide +kernel
theorem dd_Ac_init_1 : decode prog_15_method_1_code 1 = .ok (.invokespecial 1, 3) := by decide +kernel
theorem dd_Ac_init_4 : decode prog_15_method_1_code 4 = .ok (.return_, 1) := by decide +kernel
theorem dd_Co_init_0 : decode prog_2_method_1_code 0 = .ok (.aload_n 0, 1) := by decide +kernel
theorem dd_Co_init_1 : decode prog_2_method_1_code 1 = .ok (.invokespecial 3, 3) := by decide +kernel
theorem dd_Co_init_4 : decode prog_2_method_1_code 4 = .ok (.aload_n 0, 1) := by decide +kernel
theorem dd_Co_init_5 : decode prog_2_method_1_code 5 = .ok (.bipush 60, 2) := by decide +kernel
theorem dd_Co_init_7 : decode prog_2_method_1_code 7 = .ok (.anewarray 9, 3) := by decide +kernel
theorem dd_Co_init_10 : decode prog_2_method_1_code 10 = .ok (.putfield 11, 3) := by decide +kernel
theorem dd_Co_init_13 : decode prog_2_method_1_code 13 = .ok (.aload_n 0, 1) := by decide +kernel
theorem dd_Co_init_14 : decode prog_2_method_1_code 14 = .ok (.iconst 0, 1) := by decide +kernel
theorem dd_Co_init_15 : decode prog_2_method_1_code 15 = .ok (.putfield 17, 3) := by decide +kernel
theorem dd_Co_init_18 : decode prog_2_method_1_code 18 = .ok (.return_, 1) := by decide +kernel
theorem dd_Li_init_0 : decode prog_5_method_1_code 0 = .ok (.aload_n 0, 1) := by decide +kernel
theorem dd_Li_init_1 : decode prog_5_method_1_code 1 = .ok (.invokespecial 3, 3) := by decide +kernel
theorem dd_Li_init_4 : decode prog_5_method_1_code 4 = .ok (.aload_n 0, 1) := by decide +kernel
theorem dd_Li_init_5 : decode prog_5_method_1_code 5 = .ok (.bipush 8, 2) := by decide +kernel
theorem dd_Li_init_7 : decode prog_5_method_1_code 7 = .ok (.newarray .int, 2) := by decide +kernel
theorem dd_Li_init_9 : decode prog_5_method_1_code 9 = .ok (.putfield 9, 3) := by decide +kernel
theorem dd_Li_init_12 : decode prog_5_method_1_code 12 = .ok (.aload_n 0, 1) := by decide +kernel
theorem dd_Li_init_13 : decode prog_5_method_1_code 13 = .ok (.bipush 8, 2) := by decide +kernel
theorem dd_Li_init_15 : decode prog_5_method_1_code 15 = .ok (.newarray .int, 2) := by decide +kernel
theorem dd_Li_init_17 : decode prog_5_method_1_code 17 = .ok (.putfield 15, 3) := by decide +kernel
theorem dd_Li_init_20 : decode prog_5_method_1_code 20 = .ok (.aload_n 0, 1) := by decide +kernel
theorem dd_Li_init_21 : decode prog_5_method_1_code 21 = .ok (.bipush 8, 2) := by decide +kernel
theorem dd_Li_init_23 : decode prog_5_method_1_code 23 = .ok (.newarray .boolean, 2) := by decide +kernel
theorem dd_Li_init_25 : decode prog_5_method_1_code 25 = .ok (.putfield 18, 3) := by decide +kernel
theorem dd_Li_init_28 : decode prog_5_method_1_code 28 = .ok (.return_, 1) := by decide +kernel
theorem dd_Pr_init_0 : decode prog_4_method_1_code 0 = .ok (.aload_n 0, 1) := by decide +kernel
theorem dd_Pr_init_1 : decode prog_4_method_1_code 1 = .ok (.invokespecial 3, 3) := by decide +kernel
theorem dd_Pr_init_4 : decode prog_4_method_1_code 4 = .ok (.aload_n 0, 1) := by decide +kernel
theorem dd_Pr_init_5 : decode prog_4_method_1_code 5 = .ok (.iconst 4, 1) := by decide +kernel
theorem dd_Pr_init_6 : decode prog_4_method_1_code 6 = .ok (.anewarray 9, 3) := by decide +kernel
theorem dd_Pr_init_9 : decode prog_4_method_1_code 9 = .ok (.putfield 11, 3) := by decide +kernel
theorem dd_Pr_init_12 : decode prog_4_method_1_code 12 = .ok (.aload_n 0, 1) := by decide +kernel
theorem dd_Pr_init_13 : decode prog_4_method_1_code 13 = .ok (.iconst 1, 1) := by decide +kernel
theorem dd_Pr_init_14 : decode prog_4_method_1_code 14 = .ok (.putfield 17, 3) := by decide +kernel
theorem dd_Pr_init_17 : decode prog_4_method_1_code 17 = .ok (.aload_n 0, 1) := by decide +kernel
theorem dd_Pr_init_18 : decode prog_4_method_1_code 18 = .ok (.iconst (-1), 1) := by decide +kernel
theorem dd_Pr_init_19 : decode prog_4_method_1_code 19 = .ok (.putfield 21, 3) := by decide +kernel
theorem dd_Pr_init_22 : decode prog_4_method_1_code 22 = .ok (.aload_n 0, 1) := by decide +kernel
theorem dd_Pr_init_23 : decode prog_4_method_1_code 23 = .ok (.iconst 0, 1) := by decide +kernel
theorem dd_Pr_init_24 : decode prog_4_method_1_code 24 = .ok (.putfield 24, 3) := by decide +kernel
theorem dd_Pr_init_27 : decode prog_4_method_1_code 27 = .ok (.aload_n 0, 1) := by decide +kernel
theorem dd_Pr_init_28 : decode prog_4_method_1_code 28 = .ok (.iload_n 1, 1) := by decide +kernel
theorem dd_Pr_init_29 : decode prog_4_method_1_code 29 = .ok (.putfield 27, 3) := by decide +kernel
theorem dd_Pr_init_32 : decode prog_4_method_1_code 32 = .ok (.aload_n 0, 1) := by decide +kernel
theorem dd_Pr_init_33 : decode prog_4_method_1_code 33 = .ok (.iload_n 2, 1) := by decide +kernel
theorem dd_Pr_init_34 : decode prog_4_method_1_code 34 = .ok (.putfield 30, 3) := by decide +kernel
theorem dd_Pr_init_37 : decode prog_4_method_1_code 37 = .ok (.aload_n 0, 1) := by decide +kernel
theorem dd_Pr_init_38 : decode prog_4_method_1_code 38 = .ok (.iload_n 3, 1) := by decide +kernel
theorem dd_Pr_init_39 : decode prog_4_method_1_code 39 = .ok (.putfield 33, 3) := by decide +kernel
theorem dd_Pr_init_42 : decode prog_4_method_1_code 42 = .ok (.aload_n 0, 1) := by decide +kernel
theorem dd_Pr_init_43 : decode prog_4_method_1_code 43 = .ok (.iload 4, 2) := by decide +kernel
theorem dd_Pr_init_45 : decode prog_4_method_1_code 45 = .ok (.putfield 36, 3) := by decide +kernel
theorem dd_Pr_init_48 : decode prog_4_method_1_code 48 = .ok (.return_, 1) := by decide +kernel
theorem dd_PH_spawn_0 : decode prog_1_method_2_code 0 = .ok (.aload_n 0, 1) := by decide +kernel
theorem dd_PH_spawn_1 : decode prog_1_method_2_code 1 = .ok (.iload_n 1, 1) := by decide +kernel
theorem dd_PH_spawn_2 : decode prog_1_method_2_code 2 = .ok (.invokevirtual 61, 3) := by decide +kernel
theorem dd_PH_spawn_5 : decode prog_1_method_2_code 5 = .ok (.ifnull 14, 3) := by decide +kernel
theorem dd_PH_spawn_8 : decode prog_1_method_2_code 8 = .ok (.iload_n 2, 1) := by decide +kernel
theorem dd_PH_spawn_9 : decode prog_1_method_2_code 9 = .ok (.iconst 1, 1) := by decide +kernel
theorem dd_PH_spawn_10 : decode prog_1_method_2_code 10 = .ok (.if_icmp .lt 9, 3) := by decide +kernel
theorem dd_PH_spawn_13 : decode prog_1_method_2_code 13 = .ok (.iload_n 2, 1) := by decide +kernel
theorem dd_PH_spawn_14 : decode prog_1_method_2_code 14 = .ok (.bipush 24, 2) := by decide +kernel
theorem dd_PH_spawn_16 : decode prog_1_method_2_code 16 = .ok (.if_icmp .le 5, 3) := by decide +kernel
theorem dd_PH_spawn_19 : decode prog_1_method_2_code 19 = .ok (.iconst (-1), 1) := by decide +kernel
theorem dd_PH_spawn_20 : decode prog_1_method_2_code 20 = .ok (.ireturn, 1) := by decide +kernel
theorem dd_PH_spawn_21 : decode prog_1_method_2_code 21 = .ok (.aload_n 0, 1) := by decide +kernel
theorem dd_PH_spawn_22 : decode prog_1_method_2_code 22 = .ok (.getfield 42, 3) := by decide +kernel
theorem dd_PH_spawn_25 : decode prog_1_method_2_code 25 = .ok (.bipush 8, 2) := by decide +kernel
theorem dd_PH_spawn_27 : decode prog_1_method_2_code 27 = .ok (.if_icmp .lt 6, 3) := by decide +kernel
theorem dd_PH_spawn_30 : decode prog_1_method_2_code 30 = .ok (.bipush (-4), 2) := by decide +kernel
theorem dd_PH_spawn_32 : decode prog_1_method_2_code 32 = .ok (.ireturn, 1) := by decide +kernel
theorem dd_PH_spawn_33 : decode prog_1_method_2_code 33 = .ok (.iload_n 3, 1) := by decide +kernel
theorem dd_PH_spawn_34 : decode prog_1_method_2_code 34 = .ok (.ifCond .eq 15, 3) := by decide +kernel
theorem dd_PH_spawn_37 : decode prog_1_method_2_code 37 = .ok (.aload_n 0, 1) := by decide +kernel
theorem dd_PH_spawn_38 : decode prog_1_method_2_code 38 = .ok (.iload_n 1, 1) := by decide +kernel
theorem dd_PH_spawn_39 : decode prog_1_method_2_code 39 = .ok (.iload_n 2, 1) := by decide +kernel
theorem dd_PH_spawn_40 : decode prog_1_method_2_code 40 = .ok (.invokevirtual 65, 3) := by decide +kernel
theorem dd_PH_spawn_43 : decode prog_1_method_2_code 43 = .ok (.ifCond .ne 6, 3) := by decide +kernel
theorem dd_PH_spawn_46 : decode prog_1_method_2_code 46 = .ok (.bipush (-5), 2) := by decide +kernel
theorem dd_PH_spawn_48 : decode prog_1_method_2_code 48 = .ok (.ireturn, 1) := by decide +kernel
theorem dd_PH_spawn_49 : decode prog_1_method_2_code 49 = .ok (.aload_n 0, 1) := by decide +kernel
theorem dd_PH_spawn_50 : decode prog_1_method_2_code 50 = .ok (.getfield 42, 3) := by decide +kernel
theorem dd_PH_spawn_53 : decode prog_1_method_2_code 53 = .ok (.istore 4, 2) := by decide +kernel
theorem dd_PH_spawn_55 : decode prog_1_method_2_code 55 = .ok (.aload_n 0, 1) := by decide +kernel
theorem dd_PH_spawn_56 : decode prog_1_method_2_code 56 = .ok (.getfield 32, 3) := by decide +kernel
theorem dd_PH_spawn_59 : decode prog_1_method_2_code 59 = .ok (.iload 4, 2) := by decide +kernel
theorem dd_PH_spawn_61 : decode prog_1_method_2_code 61 = .ok (.new 30, 3) := by decide +kernel
theorem dd_PH_spawn_64 : decode prog_1_method_2_code 64 = .ok (.dup, 1) := by decide +kernel
theorem dd_PH_spawn_65 : decode prog_1_method_2_code 65 = .ok (.iload 4, 2) := by decide +kernel
theorem dd_PH_spawn_67 : decode prog_1_method_2_code 67 = .ok (.iload_n 1, 1) := by decide +kernel
theorem dd_PH_spawn_68 : decode prog_1_method_2_code 68 = .ok (.iload_n 2, 1) := by decide +kernel
theorem dd_PH_spawn_69 : decode prog_1_method_2_code 69 = .ok (.iload_n 3, 1) := by decide +kernel
theorem dd_PH_spawn_70 : decode prog_1_method_2_code 70 = .ok (.invokespecial 58, 3) := by decide +kernel
theorem dd_PH_spawn_73 : decode prog_1_method_2_code 73 = .ok (.aastore, 1) := by decide +kernel
theorem dd_PH_spawn_74 : decode prog_1_method_2_code 74 = .ok (.aload_n 0, 1) := by decide +kernel
theorem dd_PH_spawn_75 : decode prog_1_method_2_code 75 = .ok (.dup, 1) := by decide +kernel
theorem dd_PH_spawn_76 : decode prog_1_method_2_code 76 = .ok (.getfield 42, 3) := by decide +kernel
theorem dd_PH_spawn_79 : decode prog_1_method_2_code 79 = .ok (.iconst 1, 1) := by decide +kernel
theorem dd_PH_spawn_80 : decode prog_1_method_2_code 80 = .ok (.iadd, 1) := by decide +kernel
theorem dd_PH_spawn_81 : decode prog_1_method_2_code 81 = .ok (.putfield 42, 3) := by decide +kernel
theorem dd_PH_spawn_84 : decode prog_1_method_2_code 84 = .ok (.iload 4, 2) := by decide +kernel
theorem dd_PH_spawn_86 : decode prog_1_method_2_code 86 = .ok (.ireturn, 1) := by decide +kernel
theorem dd_PH_livingProcess_0 : decode prog_1_method_27_code 0 = .ok (.aload_n 0, 1) := by decide +kernel
theorem dd_PH_livingProcess_1 : decode prog_1_method_27_code 1 = .ok (.iload_n 1, 1) := by decide +kernel
theorem dd_PH_livingProcess_2 : decode prog_1_method_27_code 2 = .ok (.invokevirtual 152, 3) := by decide +kernel
theorem dd_PH_livingProcess_5 : decode prog_1_method_27_code 5 = .ok (.ifCond .eq 24, 3) := by decide +kernel
theorem dd_PH_livingProcess_8 : decode prog_1_method_27_code 8 = .ok (.aload_n 0, 1) := by decide +kernel
theorem dd_PH_livingProcess_9 : decode prog_1_method_27_code 9 = .ok (.getfield 32, 3) := by decide +kernel
theorem dd_PH_livingProcess_12 : decode prog_1_method_27_code 12 = .ok (.iload_n 1, 1) := by decide +kernel
theorem dd_PH_livingProcess_13 : decode prog_1_method_27_code 13 = .ok (.aaload, 1) := by decide +kernel
theorem dd_PH_livingProcess_14 : decode prog_1_method_27_code 14 = .ok (.invokevirtual 182, 3) := by decide +kernel
theorem dd_PH_livingProcess_17 : decode prog_1_method_27_code 17 = .ok (.ifCond .eq 12, 3) := by decide +kernel
theorem dd_PH_livingProcess_20 : decode prog_1_method_27_code 20 = .ok (.aload_n 0, 1) := by decide +kernel
theorem dd_PH_livingProcess_21 : decode prog_1_method_27_code 21 = .ok (.getfield 32, 3) := by decide +kernel
theorem dd_PH_livingProcess_24 : decode prog_1_method_27_code 24 = .ok (.iload_n 1, 1) := by decide +kernel
theorem dd_PH_livingProcess_25 : decode prog_1_method_27_code 25 = .ok (.aaload, 1) := by decide +kernel
theorem dd_PH_livingProcess_26 : decode prog_1_method_27_code 26 = .ok (.goto 4, 3) := by decide +kernel
theorem dd_PH_livingProcess_29 : decode prog_1_method_27_code 29 = .ok (.aconst_null, 1) := by decide +kernel
theorem dd_PH_livingProcess_30 : decode prog_1_method_27_code 30 = .ok (.areturn, 1) := by decide +kernel
theorem dd_PH_isMade_0 : decode prog_1_method_26_code 0 = .ok (.iload_n 1, 1) := by decide +kernel
theorem dd_PH_isMade_1 : decode prog_1_method_26_code 1 = .ok (.ifCond .lt 22, 3) := by decide +kernel
theorem dd_PH_isMade_4 : decode prog_1_method_26_code 4 = .ok (.iload_n 1, 1) := by decide +kernel
theorem dd_PH_isMade_5 : decode prog_1_method_26_code 5 = .ok (.bipush 8, 2) := by decide +kernel
theorem dd_PH_isMade_7 : decode prog_1_method_26_code 7 = .ok (.if_icmp .ge 16, 3) := by decide +kernel
theorem dd_PH_isMade_10 : decode prog_1_method_26_code 10 = .ok (.aload_n 0, 1) := by decide +kernel
theorem dd_PH_isMade_11 : decode prog_1_method_26_code 11 = .ok (.getfield 32, 3) := by decide +kernel
theorem dd_PH_isMade_14 : decode prog_1_method_26_code 14 = .ok (.iload_n 1, 1) := by decide +kernel
theorem dd_PH_isMade_15 : decode prog_1_method_26_code 15 = .ok (.aaload, 1) := by decide +kernel
theorem dd_PH_isMade_16 : decode prog_1_method_26_code 16 = .ok (.ifnull 7, 3) := by decide +kernel
theorem dd_PH_isMade_19 : decode prog_1_method_26_code 19 = .ok (.iconst 1, 1) := by decide +kernel
theorem dd_PH_isMade_20 : decode prog_1_method_26_code 20 = .ok (.goto 4, 3) := by decide +kernel
theorem dd_PH_isMade_23 : decode prog_1_method_26_code 23 = .ok (.iconst 0, 1) := by decide +kernel
theorem dd_PH_isMade_24 : decode prog_1_method_26_code 24 = .ok (.ireturn, 1) := by decide +kernel
theorem dd_Pr_isLiving_0 : decode prog_4_method_2_code 0 = .ok (.aload_n 0, 1) := by decide +kernel
theorem dd_Pr_isLiving_1 : decode prog_4_method_2_code 1 = .ok (.getfield 17, 3) := by decide +kernel
theorem dd_Pr_isLiving_4 : decode prog_4_method_2_code 4 = .ok (.iconst 4, 1) := by decide +kernel
theorem dd_Pr_isLiving_5 : decode prog_4_method_2_code 5 = .ok (.if_icmp .eq 7, 3) := by decide +kernel
theorem dd_Pr_isLiving_8 : decode prog_4_method_2_code 8 = .ok (.iconst 1, 1) := by decide +kernel
theorem dd_Pr_isLiving_9 : decode prog_4_method_2_code 9 = .ok (.goto 4, 3) := by decide +kernel
theorem dd_Pr_isLiving_12 : decode prog_4_method_2_code 12 = .ok (.iconst 0, 1) := by decide +kernel
theorem dd_Pr_isLiving_13 : decode prog_4_method_2_code 13 = .ok (.ireturn, 1) := by decide +kernel
theorem dd_PH_canPay_0 : decode prog_1_method_28_code 0 = .ok (.aload_n 0, 1) := by decide +kernel
theorem dd_PH_canPay_1 : decode prog_1_method_28_code 1 = .ok (.getfield 26, 3) := by decide +kernel
theorem dd_PH_canPay_4 : decode prog_1_method_28_code 4 = .ok (.aload_n 0, 1) := by decide +kernel
theorem dd_PH_canPay_5 : decode prog_1_method_28_code 5 = .ok (.getfield 32, 3) := by decide +kernel
theorem dd_PH_canPay_8 : decode prog_1_method_28_code 8 = .ok (.aload_n 0, 1) := by decide +kernel
theorem dd_PH_canPay_9 : decode prog_1_method_28_code 9 = .ok (.getfield 10, 3) := by decide +kernel
theorem dd_PH_canPay_12 : decode prog_1_method_28_code 12 = .ok (.invokevirtual 164, 3) := by decide +kernel
theorem dd_PH_canPay_15 : decode prog_1_method_28_code 15 = .ok (.aload_n 0, 1) := by decide +kernel
theorem dd_PH_canPay_16 : decode prog_1_method_28_code 16 = .ok (.getfield 26, 3) := by decide +kernel
theorem dd_PH_canPay_19 : decode prog_1_method_28_code 19 = .ok (.getfield 176, 3) := by decide +kernel
theorem dd_PH_canPay_22 : decode prog_1_method_28_code 22 = .ok (.iload_n 1, 1) := by decide +kernel
theorem dd_PH_canPay_23 : decode prog_1_method_28_code 23 = .ok (.iaload, 1) := by decide +kernel
theorem dd_PH_canPay_24 : decode prog_1_method_28_code 24 = .ok (.iload_n 2, 1) := by decide +kernel
theorem dd_PH_canPay_25 : decode prog_1_method_28_code 25 = .ok (.if_icmp .lt 7, 3) := by decide +kernel
theorem dd_PH_canPay_28 : decode prog_1_method_28_code 28 = .ok (.iconst 1, 1) := by decide +kernel
theorem dd_PH_canPay_29 : decode prog_1_method_28_code 29 = .ok (.goto 4, 3) := by decide +kernel
theorem dd_PH_canPay_32 : decode prog_1_method_28_code 32 = .ok (.iconst 0, 1) := by decide +kernel
theorem dd_PH_canPay_33 : decode prog_1_method_28_code 33 = .ok (.ireturn, 1) := by decide +kernel
theorem dd_Li_reckon_0 : decode prog_5_method_2_code 0 = .ok (.aload_n 0, 1) := by decide +kernel
theorem dd_Li_reckon_1 : decode prog_5_method_2_code 1 = .ok (.aload_n 1, 1) := by decide +kernel
theorem dd_Li_reckon_2 : decode prog_5_method_2_code 2 = .ok (.aload_n 2, 1) := by decide +kernel
theorem dd_Li_reckon_3 : decode prog_5_method_2_code 3 = .ok (.invokevirtual 22, 3) := by decide +kernel
theorem dd_Li_reckon_6 : decode prog_5_method_2_code 6 = .ok (.aload_n 0, 1) := by decide +kernel
theorem dd_Li_reckon_7 : decode prog_5_method_2_code 7 = .ok (.aload_n 1, 1) := by decide +kernel
theorem dd_Li_reckon_8 : decode prog_5_method_2_code 8 = .ok (.invokevirtual 26, 3) := by decide +kernel
theorem dd_Li_reckon_11 : decode prog_5_method_2_code 11 = .ok (.aload_n 0, 1) := by decide +kernel
theorem dd_Li_reckon_12 : decode prog_5_method_2_code 12 = .ok (.aload_n 1, 1) := by decide +kernel
theorem dd_Li_reckon_13 : decode prog_5_method_2_code 13 = .ok (.invokevirtual 30, 3) := by decide +kernel
theorem dd_Li_reckon_16 : decode prog_5_method_2_code 16 = .ok (.return_, 1) := by decide +kernel
theorem dd_Li_reckonPayments_0 : decode prog_5_method_3_code 0 = .ok (.iconst 0, 1) := by decide +kernel
theorem dd_Li_reckonPayments_1 : decode prog_5_method_3_code 1 = .ok (.istore_n 3, 1) := by decide +kernel
theorem dd_Li_reckonPayments_2 : decode prog_5_method_3_code 2 = .ok (.iload_n 3, 1) := by decide +kernel
theorem dd_Li_reckonPayments_3 : decode prog_5_method_3_code 3 = .ok (.bipush 8, 2) := by decide +kernel
theorem dd_Li_reckonPayments_5 : decode prog_5_method_3_code 5 = .ok (.if_icmp .ge 72, 3) := by decide +kernel
theorem dd_Li_reckonPayments_8 : decode prog_5_method_3_code 8 = .ok (.aload_n 1, 1) := by decide +kernel
theorem dd_Li_reckonPayments_9 : decode prog_5_method_3_code 9 = .ok (.iload_n 3, 1) := by decide +kernel
theorem dd_Li_reckonPayments_10 : decode prog_5_method_3_code 10 = .ok (.aaload, 1) := by decide +kernel
theorem dd_Li_reckonPayments_11 : decode prog_5_method_3_code 11 = .ok (.astore 4, 2) := by decide +kernel
theorem dd_Li_reckonPayments_13 : decode prog_5_method_3_code 13 = .ok (.aload_n 0, 1) := by decide +kernel
theorem dd_Li_reckonPayments_14 : decode prog_5_method_3_code 14 = .ok (.getfield 9, 3) := by decide +kernel
theorem dd_Li_reckonPayments_17 : decode prog_5_method_3_code 17 = .ok (.iload_n 3, 1) := by decide +kernel
theorem dd_Li_reckonPayments_18 : decode prog_5_method_3_code 18 = .ok (.aload 4, 2) := by decide +kernel
theorem dd_Li_reckonPayments_20 : decode prog_5_method_3_code 20 = .ok (.ifnonnull 7, 3) := by decide +kernel
theorem dd_Li_reckonPayments_23 : decode prog_5_method_3_code 23 = .ok (.iconst 0, 1) := by decide +kernel
theorem dd_Li_reckonPayments_24 : decode prog_5_method_3_code 24 = .ok (.goto 9, 3) := by decide +kernel
theorem dd_Li_reckonPayments_27 : decode prog_5_method_3_code 27 = .ok (.aload_n 2, 1) := by decide +kernel
theorem dd_Li_reckonPayments_28 : decode prog_5_method_3_code 28 = .ok (.aload 4, 2) := by decide +kernel
theorem dd_Li_reckonPayments_30 : decode prog_5_method_3_code 30 = .ok (.invokevirtual 33, 3) := by decide +kernel
theorem dd_Li_reckonPayments_33 : decode prog_5_method_3_code 33 = .ok (.iastore, 1) := by decide +kernel
theorem dd_Li_reckonPayments_34 : decode prog_5_method_3_code 34 = .ok (.aload_n 0, 1) := by decide +kernel
theorem dd_Li_reckonPayments_35 : decode prog_5_method_3_code 35 = .ok (.getfield 18, 3) := by decide +kernel
theorem dd_Li_reckonPayments_38 : decode prog_5_method_3_code 38 = .ok (.iload_n 3, 1) := by decide +kernel
theorem dd_Li_reckonPayments_39 : decode prog_5_method_3_code 39 = .ok (.aload 4, 2) := by decide +kernel
theorem dd_Li_reckonPayments_41 : decode prog_5_method_3_code 41 = .ok (.ifnull 28, 3) := by decide +kernel
theorem dd_Li_reckonPayments_44 : decode prog_5_method_3_code 44 = .ok (.iload_n 3, 1) := by decide +kernel
theorem dd_Li_reckonPayments_45 : decode prog_5_method_3_code 45 = .ok (.ifCond .eq 20, 3) := by decide +kernel
theorem dd_Li_reckonPayments_48 : decode prog_5_method_3_code 48 = .ok (.aload 4, 2) := by decide +kernel
theorem dd_Li_reckonPayments_50 : decode prog_5_method_3_code 50 = .ok (.invokevirtual 39, 3) := by decide +kernel
theorem dd_Li_reckonPayments_53 : decode prog_5_method_3_code 53 = .ok (.ifCond .ne 12, 3) := by decide +kernel
theorem dd_Li_reckonPayments_56 : decode prog_5_method_3_code 56 = .ok (.aload_n 0, 1) := by decide +kernel
theorem dd_Li_reckonPayments_57 : decode prog_5_method_3_code 57 = .ok (.getfield 9, 3) := by decide +kernel
theorem dd_Li_reckonPayments_60 : decode prog_5_method_3_code 60 = .ok (.iload_n 3, 1) := by decide +kernel
theorem dd_Li_reckonPayments_61 : decode prog_5_method_3_code 61 = .ok (.iaload, 1) := by decide +kernel
theorem dd_Li_reckonPayments_62 : decode prog_5_method_3_code 62 = .ok (.ifCond .le 7, 3) := by decide +kernel
theorem dd_Li_reckonPayments_65 : decode prog_5_method_3_code 65 = .ok (.iconst 1, 1) := by decide +kernel
theorem dd_Li_reckonPayments_66 : decode prog_5_method_3_code 66 = .ok (.goto 4, 3) := by decide +kernel
theorem dd_Li_reckonPayments_69 : decode prog_5_method_3_code 69 = .ok (.iconst 0, 1) := by decide +kernel
theorem dd_Li_reckonPayments_70 : decode prog_5_method_3_code 70 = .ok (.bastore, 1) := by decide +kernel
theorem dd_Li_reckonPayments_71 : decode prog_5_method_3_code 71 = .ok (.iinc 3 1, 3) := by decide +kernel
theorem dd_Li_reckonPayments_74 : decode prog_5_method_3_code 74 = .ok (.goto (-72), 3) := by decide +kernel
theorem dd_Li_reckonPayments_77 : decode prog_5_method_3_code 77 = .ok (.return_, 1) := by decide +kernel
theorem dd_Me_countPaidPages_0 : decode prog_6_method_3_code 0 = .ok (.iconst 0, 1) := by decide +kernel
theorem dd_Me_countPaidPages_1 : decode prog_6_method_3_code 1 = .ok (.istore_n 2, 1) := by decide +kernel
theorem dd_Me_countPaidPages_2 : decode prog_6_method_3_code 2 = .ok (.iconst 0, 1) := by decide +kernel
theorem dd_Me_countPaidPages_3 : decode prog_6_method_3_code 3 = .ok (.istore_n 3, 1) := by decide +kernel
theorem dd_Me_countPaidPages_4 : decode prog_6_method_3_code 4 = .ok (.iload_n 3, 1) := by decide +kernel
theorem dd_Me_countPaidPages_5 : decode prog_6_method_3_code 5 = .ok (.aload_n 0, 1) := by decide +kernel
theorem dd_Me_countPaidPages_6 : decode prog_6_method_3_code 6 = .ok (.getfield 12, 3) := by decide +kernel
theorem dd_Me_countPaidPages_9 : decode prog_6_method_3_code 9 = .ok (.invokevirtual 21, 3) := by decide +kernel
theorem dd_Me_countPaidPages_12 : decode prog_6_method_3_code 12 = .ok (.if_icmp .ge 49, 3) := by decide +kernel
theorem dd_Me_countPaidPages_15 : decode prog_6_method_3_code 15 = .ok (.aload_n 0, 1) := by decide +kernel
theorem dd_Me_countPaidPages_16 : decode prog_6_method_3_code 16 = .ok (.getfield 12, 3) := by decide +kernel
theorem dd_Me_countPaidPages_19 : decode prog_6_method_3_code 19 = .ok (.iload_n 3, 1) := by decide +kernel
theorem dd_Me_countPaidPages_20 : decode prog_6_method_3_code 20 = .ok (.invokevirtual 25, 3) := by decide +kernel
theorem dd_Me_countPaidPages_23 : decode prog_6_method_3_code 23 = .ok (.checkcast 29, 3) := by decide +kernel
theorem dd_Me_countPaidPages_26 : decode prog_6_method_3_code 26 = .ok (.astore 4, 2) := by decide +kernel
theorem dd_Me_countPaidPages_28 : decode prog_6_method_3_code 28 = .ok (.aload 4, 2) := by decide +kernel
theorem dd_Me_countPaidPages_30 : decode prog_6_method_3_code 30 = .ok (.getfield 35, 3) := by decide +kernel
theorem dd_Me_countPaidPages_33 : decode prog_6_method_3_code 33 = .ok (.aload_n 1, 1) := by decide +kernel
theorem dd_Me_countPaidPages_34 : decode prog_6_method_3_code 34 = .ok (.getfield 38, 3) := by decide +kernel
theorem dd_Me_countPaidPages_37 : decode prog_6_method_3_code 37 = .ok (.if_icmp .eq 15, 3) := by decide +kernel
theorem dd_Me_countPaidPages_40 : decode prog_6_method_3_code 40 = .ok (.aload_n 1, 1) := by decide +kernel
theorem dd_Me_countPaidPages_41 : decode prog_6_method_3_code 41 = .ok (.aload 4, 2) := by decide +kernel
theorem dd_Me_countPaidPages_43 : decode prog_6_method_3_code 43 = .ok (.getfield 31, 3) := by decide +kernel
theorem dd_Me_countPaidPages_46 : decode prog_6_method_3_code 46 = .ok (.invokevirtual 43, 3) := by decide +kernel
theorem dd_Me_countPaidPages_49 : decode prog_6_method_3_code 49 = .ok (.ifCond .eq 6, 3) := by decide +kernel
theorem dd_Me_countPaidPages_52 : decode prog_6_method_3_code 52 = .ok (.iinc 2 1, 3) := by decide +kernel
theorem dd_Me_countPaidPages_55 : decode prog_6_method_3_code 55 = .ok (.iinc 3 1, 3) := by decide +kernel
theorem dd_Me_countPaidPages_58 : decode prog_6_method_3_code 58 = .ok (.goto (-54), 3) := by decide +kernel
theorem dd_Me_countPaidPages_61 : decode prog_6_method_3_code 61 = .ok (.iload_n 2, 1) := by decide +kernel
theorem dd_Me_countPaidPages_62 : decode prog_6_method_3_code 62 = .ok (.ireturn, 1) := by decide +kernel
theorem dd_AL_size_0 : decode prog_17_method_8_code 0 = .ok (.aload_n 0, 1) := by decide +kernel
theorem dd_AL_size_1 : decode prog_17_method_8_code 1 = .ok (.getfield 48, 3) := by decide +kernel
theorem dd_AL_size_4 : decode prog_17_method_8_code 4 = .ok (.ireturn, 1) := by decide +kernel
theorem dd_AL_get_0 : decode prog_17_method_20_code 0 = .ok (.iload_n 1, 1) := by decide +kernel
theorem dd_AL_get_1 : decode prog_17_method_20_code 1 = .ok (.aload_n 0, 1) := by decide +kernel
theorem dd_AL_get_2 : decode prog_17_method_20_code 2 = .ok (.getfield 48, 3) := by decide +kernel
theorem dd_AL_get_5 : decode prog_17_method_20_code 5 = .ok (.invokestatic 118, 3) := by decide +kernel
theorem dd_AL_get_8 : decode prog_17_method_20_code 8 = .ok (.pop, 1) := by decide +kernel
theorem dd_AL_get_9 : decode prog_17_method_20_code 9 = .ok (.aload_n 0, 1) := by decide +kernel
theorem dd_AL_get_10 : decode prog_17_method_20_code 10 = .ok (.iload_n 1, 1) := by decide +kernel
theorem dd_AL_get_11 : decode prog_17_method_20_code 11 = .ok (.invokevirtual 123, 3) := by decide +kernel
theorem dd_AL_get_14 : decode prog_17_method_20_code 14 = .ok (.areturn, 1) := by decide +kernel
theorem dd_Os_checkIndex_0 : decode prog_21_method_17_code 0 = .ok (.iload_n 0, 1) := by decide +kernel
theorem dd_Os_checkIndex_1 : decode prog_21_method_17_code 1 = .ok (.iload_n 1, 1) := by decide +kernel
theorem dd_Os_checkIndex_2 : decode prog_21_method_17_code 2 = .ok (.aconst_null, 1) := by decide +kernel
theorem dd_Os_checkIndex_3 : decode prog_21_method_17_code 3 = .ok (.invokestatic 105, 3) := by decide +kernel
theorem dd_Os_checkIndex_6 : decode prog_21_method_17_code 6 = .ok (.ireturn, 1) := by decide +kernel
theorem dd_Pc_checkIndex_0 : decode prog_25_method_11_code 0 = .ok (.iload_n 0, 1) := by decide +kernel
theorem dd_Pc_checkIndex_1 : decode prog_25_method_11_code 1 = .ok (.ifCond .lt 8, 3) := by decide +kernel
theorem dd_Pc_checkIndex_4 : decode prog_25_method_11_code 4 = .ok (.iload_n 0, 1) := by decide +kernel
theorem dd_Pc_checkIndex_5 : decode prog_25_method_11_code 5 = .ok (.iload_n 1, 1) := by decide +kernel
theorem dd_Pc_checkIndex_6 : decode prog_25_method_11_code 6 = .ok (.if_icmp .lt 10, 3) := by decide +kernel
theorem dd_Pc_checkIndex_9 : decode prog_25_method_11_code 9 = .ok (.aload_n 2, 1) := by decide +kernel
theorem dd_Pc_checkIndex_10 : decode prog_25_method_11_code 10 = .ok (.iload_n 0, 1) := by decide +kernel
theorem dd_Pc_checkIndex_11 : decode prog_25_method_11_code 11 = .ok (.iload_n 1, 1) := by decide +kernel
theorem dd_Pc_checkIndex_12 : decode prog_25_method_11_code 12 = .ok (.invokestatic 95, 3) := by decide +kernel
theorem dd_Pc_checkIndex_15 : decode prog_25_method_11_code 15 = .ok (.athrow, 1) := by decide +kernel
theorem dd_Pc_checkIndex_16 : decode prog_25_method_11_code 16 = .ok (.iload_n 0, 1) := by decide +kernel
theorem dd_Pc_checkIndex_17 : decode prog_25_method_11_code 17 = .ok (.ireturn, 1) := by decide +kernel
theorem dd_AL_elementData_0 : decode prog_17_method_18_code 0 = .ok (.aload_n 0, 1) := by decide +kernel
theorem dd_AL_elementData_1 : decode prog_17_method_18_code 1 = .ok (.getfield 9, 3) := by decide +kernel
theorem dd_AL_elementData_4 : decode prog_17_method_18_code 4 = .ok (.iload_n 1, 1) := by decide +kernel
theorem dd_AL_elementData_5 : decode prog_17_method_18_code 5 = .ok (.aaload, 1) := by decide +kernel
theorem dd_AL_elementData_6 : decode prog_17_method_18_code 6 = .ok (.areturn, 1) := by decide +kernel
theorem dd_Pr_isCharged_0 : decode prog_4_method_4_code 0 = .ok (.aload_n 0, 1) := by decide +kernel
theorem dd_Pr_isCharged_1 : decode prog_4_method_4_code 1 = .ok (.getfield 24, 3) := by decide +kernel
theorem dd_Pr_isCharged_4 : decode prog_4_method_4_code 4 = .ok (.iconst 1, 1) := by decide +kernel
theorem dd_Pr_isCharged_5 : decode prog_4_method_4_code 5 = .ok (.iload_n 1, 1) := by decide +kernel
theorem dd_Pr_isCharged_6 : decode prog_4_method_4_code 6 = .ok (.ishl, 1) := by decide +kernel
theorem dd_Pr_isCharged_7 : decode prog_4_method_4_code 7 = .ok (.iand, 1) := by decide +kernel
theorem dd_Pr_isCharged_8 : decode prog_4_method_4_code 8 = .ok (.ifCond .eq 7, 3) := by decide +kernel
theorem dd_Pr_isCharged_11 : decode prog_4_method_4_code 11 = .ok (.iconst 1, 1) := by decide +kernel
theorem dd_Pr_isCharged_12 : decode prog_4_method_4_code 12 = .ok (.goto 4, 3) := by decide +kernel
theorem dd_Pr_isCharged_15 : decode prog_4_method_4_code 15 = .ok (.iconst 0, 1) := by decide +kernel
theorem dd_Pr_isCharged_16 : decode prog_4_method_4_code 16 = .ok (.ireturn, 1) := by decide +kernel
theorem dd_Li_addChildren_0 : decode prog_5_method_4_code 0 = .ok (.bipush 7, 2) := by decide +kernel
theorem dd_Li_addChildren_2 : decode prog_5_method_4_code 2 = .ok (.istore_n 2, 1) := by decide +kernel
theorem dd_Li_addChildren_3 : decode prog_5_method_4_code 3 = .ok (.iload_n 2, 1) := by decide +kernel
theorem dd_Li_addChildren_4 : decode prog_5_method_4_code 4 = .ok (.ifCond .le 64, 3) := by decide +kernel
theorem dd_Li_addChildren_7 : decode prog_5_method_4_code 7 = .ok (.aload_n 0, 1) := by decide +kernel
theorem dd_Li_addChildren_8 : decode prog_5_method_4_code 8 = .ok (.getfield 18, 3) := by decide +kernel
theorem dd_Li_addChildren_11 : decode prog_5_method_4_code 11 = .ok (.iload_n 2, 1) := by decide +kernel
theorem dd_Li_addChildren_12 : decode prog_5_method_4_code 12 = .ok (.baload, 1) := by decide +kernel
theorem dd_Li_addChildren_13 : decode prog_5_method_4_code 13 = .ok (.ifCond .eq 49, 3) := by decide +kernel
theorem dd_Li_addChildren_16 : decode prog_5_method_4_code 16 = .ok (.aload_n 1, 1) := by decide +kernel
theorem dd_Li_addChildren_17 : decode prog_5_method_4_code 17 = .ok (.iload_n 2, 1) := by decide +kernel
theorem dd_Li_addChildren_18 : decode prog_5_method_4_code 18 = .ok (.aaload, 1) := by decide +kernel
theorem dd_Li_addChildren_19 : decode prog_5_method_4_code 19 = .ok (.astore_n 3, 1) := by decide +kernel
theorem dd_Li_addChildren_20 : decode prog_5_method_4_code 20 = .ok (.aload_n 0, 1) := by decide +kernel
theorem dd_Li_addChildren_21 : decode prog_5_method_4_code 21 = .ok (.getfield 9, 3) := by decide +kernel
theorem dd_Li_addChildren_24 : decode prog_5_method_4_code 24 = .ok (.aload_n 3, 1) := by decide +kernel
theorem dd_Li_addChildren_25 : decode prog_5_method_4_code 25 = .ok (.getfield 45, 3) := by decide +kernel
theorem dd_Li_addChildren_28 : decode prog_5_method_4_code 28 = .ok (.dup2, 1) := by decide +kernel
theorem dd_Li_addChildren_29 : decode prog_5_method_4_code 29 = .ok (.iaload, 1) := by decide +kernel
theorem dd_Li_addChildren_30 : decode prog_5_method_4_code 30 = .ok (.aload_n 3, 1) := by decide +kernel
theorem dd_Li_addChildren_31 : decode prog_5_method_4_code 31 = .ok (.getfield 49, 3) := by decide +kernel
theorem dd_Li_addChildren_34 : decode prog_5_method_4_code 34 = .ok (.ifCond .eq 10, 3) := by decide +kernel
theorem dd_Li_addChildren_37 : decode prog_5_method_4_code 37 = .ok (.aload_n 3, 1) := by decide +kernel
theorem dd_Li_addChildren_38 : decode prog_5_method_4_code 38 = .ok (.getfield 53, 3) := by decide +kernel
theorem dd_Li_addChildren_41 : decode prog_5_method_4_code 41 = .ok (.goto 9, 3) := by decide +kernel
theorem dd_Li_addChildren_44 : decode prog_5_method_4_code 44 = .ok (.aload_n 0, 1) := by decide +kernel
theorem dd_Li_addChildren_45 : decode prog_5_method_4_code 45 = .ok (.getfield 9, 3) := by decide +kernel
theorem dd_Li_addChildren_48 : decode prog_5_method_4_code 48 = .ok (.iload_n 2, 1) := by decide +kernel
theorem dd_Li_addChildren_49 : decode prog_5_method_4_code 49 = .ok (.iaload, 1) := by decide +kernel
theorem dd_Li_addChildren_50 : decode prog_5_method_4_code 50 = .ok (.iadd, 1) := by decide +kernel
theorem dd_Li_addChildren_51 : decode prog_5_method_4_code 51 = .ok (.iastore, 1) := by decide +kernel
theorem dd_Li_addChildren_52 : decode prog_5_method_4_code 52 = .ok (.aload_n 0, 1) := by decide +kernel
theorem dd_Li_addChildren_53 : decode prog_5_method_4_code 53 = .ok (.getfield 18, 3) := by decide +kernel
theorem dd_Li_addChildren_56 : decode prog_5_method_4_code 56 = .ok (.aload_n 3, 1) := by decide +kernel
theorem dd_Li_addChildren_57 : decode prog_5_method_4_code 57 = .ok (.getfield 45, 3) := by decide +kernel
theorem dd_Li_addChildren_60 : decode prog_5_method_4_code 60 = .ok (.iconst 1, 1) := by decide +kernel
theorem dd_Li_addChildren_61 : decode prog_5_method_4_code 61 = .ok (.bastore, 1) := by decide +kernel
theorem dd_Li_addChildren_62 : decode prog_5_method_4_code 62 = .ok (.iinc 2 (-1), 3) := by decide +kernel
theorem dd_Li_addChildren_65 : decode prog_5_method_4_code 65 = .ok (.goto (-62), 3) := by decide +kernel
theorem dd_Li_addChildren_68 : decode prog_5_method_4_code 68 = .ok (.return_, 1) := by decide +kernel
theorem dd_Li_reckonSpare_0 : decode prog_5_method_5_code 0 = .ok (.iconst 0, 1) := by decide +kernel
theorem dd_Li_reckonSpare_1 : decode prog_5_method_5_code 1 = .ok (.istore_n 2, 1) := by decide +kernel
theorem dd_Li_reckonSpare_2 : decode prog_5_method_5_code 2 = .ok (.iload_n 2, 1) := by decide +kernel
theorem dd_Li_reckonSpare_3 : decode prog_5_method_5_code 3 = .ok (.bipush 8, 2) := by decide +kernel
theorem dd_Li_reckonSpare_5 : decode prog_5_method_5_code 5 = .ok (.if_icmp .ge 73, 3) := by decide +kernel
theorem dd_Li_reckonSpare_8 : decode prog_5_method_5_code 8 = .ok (.aload_n 1, 1) := by decide +kernel
theorem dd_Li_reckonSpare_9 : decode prog_5_method_5_code 9 = .ok (.iload_n 2, 1) := by decide +kernel
theorem dd_Li_reckonSpare_10 : decode prog_5_method_5_code 10 = .ok (.aaload, 1) := by decide +kernel
theorem dd_Li_reckonSpare_11 : decode prog_5_method_5_code 11 = .ok (.astore_n 3, 1) := by decide +kernel
theorem dd_Li_reckonSpare_12 : decode prog_5_method_5_code 12 = .ok (.aload_n 0, 1) := by decide +kernel
theorem dd_Li_reckonSpare_13 : decode prog_5_method_5_code 13 = .ok (.getfield 15, 3) := by decide +kernel
theorem dd_Li_reckonSpare_16 : decode prog_5_method_5_code 16 = .ok (.iload_n 2, 1) := by decide +kernel
theorem dd_Li_reckonSpare_17 : decode prog_5_method_5_code 17 = .ok (.aload_n 3, 1) := by decide +kernel
theorem dd_Li_reckonSpare_18 : decode prog_5_method_5_code 18 = .ok (.ifnonnull 7, 3) := by decide +kernel
theorem dd_Li_reckonSpare_21 : decode prog_5_method_5_code 21 = .ok (.iconst 0, 1) := by decide +kernel
theorem dd_Li_reckonSpare_22 : decode prog_5_method_5_code 22 = .ok (.goto 14, 3) := by decide +kernel
theorem dd_Li_reckonSpare_25 : decode prog_5_method_5_code 25 = .ok (.aload_n 3, 1) := by decide +kernel
theorem dd_Li_reckonSpare_26 : decode prog_5_method_5_code 26 = .ok (.getfield 53, 3) := by decide +kernel
theorem dd_Li_reckonSpare_29 : decode prog_5_method_5_code 29 = .ok (.aload_n 0, 1) := by decide +kernel
theorem dd_Li_reckonSpare_30 : decode prog_5_method_5_code 30 = .ok (.getfield 9, 3) := by decide +kernel
theorem dd_Li_reckonSpare_33 : decode prog_5_method_5_code 33 = .ok (.iload_n 2, 1) := by decide +kernel
theorem dd_Li_reckonSpare_34 : decode prog_5_method_5_code 34 = .ok (.iaload, 1) := by decide +kernel
theorem dd_Li_reckonSpare_35 : decode prog_5_method_5_code 35 = .ok (.isub, 1) := by decide +kernel
theorem dd_Li_reckonSpare_36 : decode prog_5_method_5_code 36 = .ok (.iastore, 1) := by decide +kernel
theorem dd_Li_reckonSpare_37 : decode prog_5_method_5_code 37 = .ok (.aload_n 3, 1) := by decide +kernel
theorem dd_Li_reckonSpare_38 : decode prog_5_method_5_code 38 = .ok (.ifnull 34, 3) := by decide +kernel
theorem dd_Li_reckonSpare_41 : decode prog_5_method_5_code 41 = .ok (.aload_n 3, 1) := by decide +kernel
theorem dd_Li_reckonSpare_42 : decode prog_5_method_5_code 42 = .ok (.getfield 49, 3) := by decide +kernel
theorem dd_Li_reckonSpare_45 : decode prog_5_method_5_code 45 = .ok (.ifCond .ne 27, 3) := by decide +kernel
theorem dd_Li_reckonSpare_48 : decode prog_5_method_5_code 48 = .ok (.aload_n 0, 1) := by decide +kernel
theorem dd_Li_reckonSpare_49 : decode prog_5_method_5_code 49 = .ok (.getfield 15, 3) := by decide +kernel
theorem dd_Li_reckonSpare_52 : decode prog_5_method_5_code 52 = .ok (.iload_n 2, 1) := by decide +kernel
theorem dd_Li_reckonSpare_53 : decode prog_5_method_5_code 53 = .ok (.aload_n 0, 1) := by decide +kernel
theorem dd_Li_reckonSpare_54 : decode prog_5_method_5_code 54 = .ok (.getfield 15, 3) := by decide +kernel
theorem dd_Li_reckonSpare_57 : decode prog_5_method_5_code 57 = .ok (.iload_n 2, 1) := by decide +kernel
theorem dd_Li_reckonSpare_58 : decode prog_5_method_5_code 58 = .ok (.iaload, 1) := by decide +kernel
theorem dd_Li_reckonSpare_59 : decode prog_5_method_5_code 59 = .ok (.aload_n 0, 1) := by decide +kernel
theorem dd_Li_reckonSpare_60 : decode prog_5_method_5_code 60 = .ok (.getfield 15, 3) := by decide +kernel
theorem dd_Li_reckonSpare_63 : decode prog_5_method_5_code 63 = .ok (.aload_n 3, 1) := by decide +kernel
theorem dd_Li_reckonSpare_64 : decode prog_5_method_5_code 64 = .ok (.getfield 45, 3) := by decide +kernel
theorem dd_Li_reckonSpare_67 : decode prog_5_method_5_code 67 = .ok (.iaload, 1) := by decide +kernel
theorem dd_Li_reckonSpare_68 : decode prog_5_method_5_code 68 = .ok (.invokestatic 56, 3) := by decide +kernel
theorem dd_Li_reckonSpare_71 : decode prog_5_method_5_code 71 = .ok (.iastore, 1) := by decide +kernel
theorem dd_Li_reckonSpare_72 : decode prog_5_method_5_code 72 = .ok (.iinc 2 1, 3) := by decide +kernel
theorem dd_Li_reckonSpare_75 : decode prog_5_method_5_code 75 = .ok (.goto (-73), 3) := by decide +kernel
theorem dd_Li_reckonSpare_78 : decode prog_5_method_5_code 78 = .ok (.return_, 1) := by decide +kernel
theorem dd_PH_kill_0 : decode prog_1_method_3_code 0 = .ok (.aload_n 0, 1) := by decide +kernel
theorem dd_PH_kill_1 : decode prog_1_method_3_code 1 = .ok (.iload_n 1, 1) := by decide +kernel
theorem dd_PH_kill_2 : decode prog_1_method_3_code 2 = .ok (.invokevirtual 61, 3) := by decide +kernel
theorem dd_PH_kill_5 : decode prog_1_method_3_code 5 = .ok (.astore_n 2, 1) := by decide +kernel
theorem dd_PH_kill_6 : decode prog_1_method_3_code 6 = .ok (.aload_n 2, 1) := by decide +kernel
theorem dd_PH_kill_7 : decode prog_1_method_3_code 7 = .ok (.ifnull 15, 3) := by decide +kernel
theorem dd_PH_kill_10 : decode prog_1_method_3_code 10 = .ok (.iload_n 1, 1) := by decide +kernel
theorem dd_PH_kill_11 : decode prog_1_method_3_code 11 = .ok (.ifCond .eq 11, 3) := by decide +kernel
theorem dd_PH_kill_14 : decode prog_1_method_3_code 14 = .ok (.aload_n 2, 1) := by decide +kernel
theorem dd_PH_kill_15 : decode prog_1_method_3_code 15 = .ok (.getfield 69, 3) := by decide +kernel
theorem dd_PH_kill_18 : decode prog_1_method_3_code 18 = .ok (.iconst 3, 1) := by decide +kernel
theorem dd_PH_kill_19 : decode prog_1_method_3_code 19 = .ok (.if_icmp .ne 5, 3) := by decide +kernel
theorem dd_PH_kill_22 : decode prog_1_method_3_code 22 = .ok (.iconst 0, 1) := by decide +kernel
theorem dd_PH_kill_23 : decode prog_1_method_3_code 23 = .ok (.ireturn, 1) := by decide +kernel
theorem dd_PH_kill_24 : decode prog_1_method_3_code 24 = .ok (.aload_n 2, 1) := by decide +kernel
theorem dd_PH_kill_25 : decode prog_1_method_3_code 25 = .ok (.invokevirtual 72, 3) := by decide +kernel
theorem dd_PH_kill_28 : decode prog_1_method_3_code 28 = .ok (.ifCond .eq 11, 3) := by decide +kernel
theorem dd_PH_kill_31 : decode prog_1_method_3_code 31 = .ok (.aload_n 2, 1) := by decide +kernel
theorem dd_PH_kill_32 : decode prog_1_method_3_code 32 = .ok (.iconst 3, 1) := by decide +kernel
theorem dd_PH_kill_33 : decode prog_1_method_3_code 33 = .ok (.putfield 69, 3) := by decide +kernel
theorem dd_PH_kill_36 : decode prog_1_method_3_code 36 = .ok (.goto 8, 3) := by decide +kernel
theorem dd_PH_kill_39 : decode prog_1_method_3_code 39 = .ok (.aload_n 0, 1) := by decide +kernel
theorem dd_PH_kill_40 : decode prog_1_method_3_code 40 = .ok (.aload_n 2, 1) := by decide +kernel
theorem dd_PH_kill_41 : decode prog_1_method_3_code 41 = .ok (.invokevirtual 76, 3) := by decide +kernel
theorem dd_PH_kill_44 : decode prog_1_method_3_code 44 = .ok (.iconst 1, 1) := by decide +kernel
theorem dd_PH_kill_45 : decode prog_1_method_3_code 45 = .ok (.ireturn, 1) := by decide +kernel
theorem dd_Pr_isInKernelMode_0 : decode prog_4_method_3_code 0 = .ok (.aload_n 0, 1) := by decide +kernel
theorem dd_Pr_isInKernelMode_1 : decode prog_4_method_3_code 1 = .ok (.getfield 17, 3) := by decide +kernel
theorem dd_Pr_isInKernelMode_4 : decode prog_4_method_3_code 4 = .ok (.iconst 2, 1) := by decide +kernel
theorem dd_Pr_isInKernelMode_5 : decode prog_4_method_3_code 5 = .ok (.if_icmp .eq 11, 3) := by decide +kernel
theorem dd_Pr_isInKernelMode_8 : decode prog_4_method_3_code 8 = .ok (.aload_n 0, 1) := by decide +kernel
theorem dd_Pr_isInKernelMode_9 : decode prog_4_method_3_code 9 = .ok (.getfield 17, 3) := by decide +kernel
theorem dd_Pr_isInKernelMode_12 : decode prog_4_method_3_code 12 = .ok (.iconst 3, 1) := by decide +kernel
theorem dd_Pr_isInKernelMode_13 : decode prog_4_method_3_code 13 = .ok (.if_icmp .ne 7, 3) := by decide +kernel
theorem dd_Pr_isInKernelMode_16 : decode prog_4_method_3_code 16 = .ok (.iconst 1, 1) := by decide +kernel
theorem dd_Pr_isInKernelMode_17 : decode prog_4_method_3_code 17 = .ok (.goto 4, 3) := by decide +kernel
theorem dd_Pr_isInKernelMode_20 : decode prog_4_method_3_code 20 = .ok (.iconst 0, 1) := by decide +kernel
theorem dd_Pr_isInKernelMode_21 : decode prog_4_method_3_code 21 = .ok (.ireturn, 1) := by decide +kernel
theorem dd_PH_die_0 : decode prog_1_method_34_code 0 = .ok (.aload_n 1, 1) := by decide +kernel
theorem dd_PH_die_1 : decode prog_1_method_34_code 1 = .ok (.iconst 4, 1) := by decide +kernel
theorem dd_PH_die_2 : decode prog_1_method_34_code 2 = .ok (.putfield 69, 3) := by decide +kernel
theorem dd_PH_die_5 : decode prog_1_method_34_code 5 = .ok (.iconst 0, 1) := by decide +kernel
theorem dd_PH_die_6 : decode prog_1_method_34_code 6 = .ok (.istore_n 2, 1) := by decide +kernel
theorem dd_PH_die_7 : decode prog_1_method_34_code 7 = .ok (.iload_n 2, 1) := by decide +kernel
theorem dd_PH_die_8 : decode prog_1_method_34_code 8 = .ok (.iconst 4, 1) := by decide +kernel
theorem dd_PH_die_9 : decode prog_1_method_34_code 9 = .ok (.if_icmp .ge 16, 3) := by decide +kernel
theorem dd_PH_die_12 : decode prog_1_method_34_code 12 = .ok (.aload_n 1, 1) := by decide +kernel
theorem dd_PH_die_13 : decode prog_1_method_34_code 13 = .ok (.getfield 102, 3) := by decide +kernel
theorem dd_PH_die_16 : decode prog_1_method_34_code 16 = .ok (.iload_n 2, 1) := by decide +kernel
theorem dd_PH_die_17 : decode prog_1_method_34_code 17 = .ok (.aconst_null, 1) := by decide +kernel
theorem dd_PH_die_18 : decode prog_1_method_34_code 18 = .ok (.aastore, 1) := by decide +kernel
theorem dd_PH_die_19 : decode prog_1_method_34_code 19 = .ok (.iinc 2 1, 3) := by decide +kernel
theorem dd_PH_die_22 : decode prog_1_method_34_code 22 = .ok (.goto (-15), 3) := by decide +kernel
theorem dd_PH_die_25 : decode prog_1_method_34_code 25 = .ok (.aload_n 0, 1) := by decide +kernel
theorem dd_PH_die_26 : decode prog_1_method_34_code 26 = .ok (.aload_n 1, 1) := by decide +kernel
theorem dd_PH_die_27 : decode prog_1_method_34_code 27 = .ok (.invokevirtual 205, 3) := by decide +kernel
theorem dd_PH_die_30 : decode prog_1_method_34_code 30 = .ok (.aload_n 0, 1) := by decide +kernel
theorem dd_PH_die_31 : decode prog_1_method_34_code 31 = .ok (.getfield 10, 3) := by decide +kernel
theorem dd_PH_die_34 : decode prog_1_method_34_code 34 = .ok (.aload_n 1, 1) := by decide +kernel
theorem dd_PH_die_35 : decode prog_1_method_34_code 35 = .ok (.getfield 192, 3) := by decide +kernel
theorem dd_PH_die_38 : decode prog_1_method_34_code 38 = .ok (.invokevirtual 211, 3) := by decide +kernel
theorem dd_PH_die_41 : decode prog_1_method_34_code 41 = .ok (.aload_n 1, 1) := by decide +kernel
theorem dd_PH_die_42 : decode prog_1_method_34_code 42 = .ok (.getfield 130, 3) := by decide +kernel
theorem dd_PH_die_45 : decode prog_1_method_34_code 45 = .ok (.iconst (-1), 1) := by decide +kernel
theorem dd_PH_die_46 : decode prog_1_method_34_code 46 = .ok (.if_icmp .eq 19, 3) := by decide +kernel
theorem dd_PH_die_49 : decode prog_1_method_34_code 49 = .ok (.aload_n 0, 1) := by decide +kernel
theorem dd_PH_die_50 : decode prog_1_method_34_code 50 = .ok (.getfield 10, 3) := by decide +kernel
theorem dd_PH_die_53 : decode prog_1_method_34_code 53 = .ok (.aload_n 1, 1) := by decide +kernel
theorem dd_PH_die_54 : decode prog_1_method_34_code 54 = .ok (.getfield 130, 3) := by decide +kernel
theorem dd_PH_die_57 : decode prog_1_method_34_code 57 = .ok (.invokevirtual 211, 3) := by decide +kernel
theorem dd_PH_die_60 : decode prog_1_method_34_code 60 = .ok (.aload_n 1, 1) := by decide +kernel
theorem dd_PH_die_61 : decode prog_1_method_34_code 61 = .ok (.iconst (-1), 1) := by decide +kernel
theorem dd_PH_die_62 : decode prog_1_method_34_code 62 = .ok (.putfield 130, 3) := by decide +kernel
theorem dd_PH_die_65 : decode prog_1_method_34_code 65 = .ok (.aload_n 0, 1) := by decide +kernel
theorem dd_PH_die_66 : decode prog_1_method_34_code 66 = .ok (.getfield 10, 3) := by decide +kernel
theorem dd_PH_die_69 : decode prog_1_method_34_code 69 = .ok (.aload_n 1, 1) := by decide +kernel
theorem dd_PH_die_70 : decode prog_1_method_34_code 70 = .ok (.getfield 192, 3) := by decide +kernel
theorem dd_PH_die_73 : decode prog_1_method_34_code 73 = .ok (.invokevirtual 214, 3) := by decide +kernel
theorem dd_PH_die_76 : decode prog_1_method_34_code 76 = .ok (.aload_n 0, 1) := by decide +kernel
theorem dd_PH_die_77 : decode prog_1_method_34_code 77 = .ok (.invokevirtual 208, 3) := by decide +kernel
theorem dd_PH_die_80 : decode prog_1_method_34_code 80 = .ok (.return_, 1) := by decide +kernel
theorem dd_PH_dropUnusedCharges_0 : decode prog_1_method_35_code 0 = .ok (.bipush 9, 2) := by decide +kernel
theorem dd_PH_dropUnusedCharges_2 : decode prog_1_method_35_code 2 = .ok (.istore_n 2, 1) := by decide +kernel
theorem dd_PH_dropUnusedCharges_3 : decode prog_1_method_35_code 3 = .ok (.iload_n 2, 1) := by decide +kernel
theorem dd_PH_dropUnusedCharges_4 : decode prog_1_method_35_code 4 = .ok (.bipush 13, 2) := by decide +kernel
theorem dd_PH_dropUnusedCharges_6 : decode prog_1_method_35_code 6 = .ok (.if_icmp .ge 37, 3) := by decide +kernel
theorem dd_PH_dropUnusedCharges_9 : decode prog_1_method_35_code 9 = .ok (.aload_n 1, 1) := by decide +kernel
theorem dd_PH_dropUnusedCharges_10 : decode prog_1_method_35_code 10 = .ok (.iload_n 2, 1) := by decide +kernel
theorem dd_PH_dropUnusedCharges_11 : decode prog_1_method_35_code 11 = .ok (.invokevirtual 217, 3) := by decide +kernel
theorem dd_PH_dropUnusedCharges_14 : decode prog_1_method_35_code 14 = .ok (.ifCond .ne 23, 3) := by decide +kernel
theorem dd_PH_dropUnusedCharges_17 : decode prog_1_method_35_code 17 = .ok (.aload_n 0, 1) := by decide +kernel
theorem dd_PH_dropUnusedCharges_18 : decode prog_1_method_35_code 18 = .ok (.getfield 10, 3) := by decide +kernel
theorem dd_PH_dropUnusedCharges_21 : decode prog_1_method_35_code 21 = .ok (.aload_n 1, 1) := by decide +kernel
theorem dd_PH_dropUnusedCharges_22 : decode prog_1_method_35_code 22 = .ok (.getfield 192, 3) := by decide +kernel
theorem dd_PH_dropUnusedCharges_25 : decode prog_1_method_35_code 25 = .ok (.iload_n 2, 1) := by decide +kernel
theorem dd_PH_dropUnusedCharges_26 : decode prog_1_method_35_code 26 = .ok (.invokevirtual 220, 3) := by decide +kernel
theorem dd_PH_dropUnusedCharges_29 : decode prog_1_method_35_code 29 = .ok (.ifCond .ne 8, 3) := by decide +kernel
theorem dd_PH_dropUnusedCharges_32 : decode prog_1_method_35_code 32 = .ok (.aload_n 1, 1) := by decide +kernel
theorem dd_PH_dropUnusedCharges_33 : decode prog_1_method_35_code 33 = .ok (.iload_n 2, 1) := by decide +kernel
theorem dd_PH_dropUnusedCharges_34 : decode prog_1_method_35_code 34 = .ok (.invokevirtual 223, 3) := by decide +kernel
theorem dd_PH_dropUnusedCharges_37 : decode prog_1_method_35_code 37 = .ok (.iinc 2 1, 3) := by decide +kernel
theorem dd_PH_dropUnusedCharges_40 : decode prog_1_method_35_code 40 = .ok (.goto (-37), 3) := by decide +kernel
theorem dd_PH_dropUnusedCharges_43 : decode prog_1_method_35_code 43 = .ok (.return_, 1) := by decide +kernel
theorem dd_Pr_holdsObjectOf_0 : decode prog_4_method_8_code 0 = .ok (.iconst 0, 1) := by decide +kernel
theorem dd_Pr_holdsObjectOf_1 : decode prog_4_method_8_code 1 = .ok (.istore_n 2, 1) := by decide +kernel
theorem dd_Pr_holdsObjectOf_2 : decode prog_4_method_8_code 2 = .ok (.iload_n 2, 1) := by decide +kernel
theorem dd_Pr_holdsObjectOf_3 : decode prog_4_method_8_code 3 = .ok (.iconst 4, 1) := by decide +kernel
theorem dd_Pr_holdsObjectOf_4 : decode prog_4_method_8_code 4 = .ok (.if_icmp .ge 30, 3) := by decide +kernel
theorem dd_Pr_holdsObjectOf_7 : decode prog_4_method_8_code 7 = .ok (.aload_n 0, 1) := by decide +kernel
theorem dd_Pr_holdsObjectOf_8 : decode prog_4_method_8_code 8 = .ok (.getfield 11, 3) := by decide +kernel
theorem dd_Pr_holdsObjectOf_11 : decode prog_4_method_8_code 11 = .ok (.iload_n 2, 1) := by decide +kernel
theorem dd_Pr_holdsObjectOf_12 : decode prog_4_method_8_code 12 = .ok (.aaload, 1) := by decide +kernel
theorem dd_Pr_holdsObjectOf_13 : decode prog_4_method_8_code 13 = .ok (.astore_n 3, 1) := by decide +kernel
theorem dd_Pr_holdsObjectOf_14 : decode prog_4_method_8_code 14 = .ok (.aload_n 3, 1) := by decide +kernel
theorem dd_Pr_holdsObjectOf_15 : decode prog_4_method_8_code 15 = .ok (.ifnull 13, 3) := by decide +kernel
theorem dd_Pr_holdsObjectOf_18 : decode prog_4_method_8_code 18 = .ok (.aload_n 3, 1) := by decide +kernel
theorem dd_Pr_holdsObjectOf_19 : decode prog_4_method_8_code 19 = .ok (.invokevirtual 44, 3) := by decide +kernel
theorem dd_Pr_holdsObjectOf_22 : decode prog_4_method_8_code 22 = .ok (.iload_n 1, 1) := by decide +kernel
theorem dd_Pr_holdsObjectOf_23 : decode prog_4_method_8_code 23 = .ok (.if_icmp .ne 5, 3) := by decide +kernel
theorem dd_Pr_holdsObjectOf_26 : decode prog_4_method_8_code 26 = .ok (.iconst 1, 1) := by decide +kernel
theorem dd_Pr_holdsObjectOf_27 : decode prog_4_method_8_code 27 = .ok (.ireturn, 1) := by decide +kernel
theorem dd_Pr_holdsObjectOf_28 : decode prog_4_method_8_code 28 = .ok (.iinc 2 1, 3) := by decide +kernel
theorem dd_Pr_holdsObjectOf_31 : decode prog_4_method_8_code 31 = .ok (.goto (-29), 3) := by decide +kernel
theorem dd_Pr_holdsObjectOf_34 : decode prog_4_method_8_code 34 = .ok (.iconst 0, 1) := by decide +kernel
theorem dd_Pr_holdsObjectOf_35 : decode prog_4_method_8_code 35 = .ok (.ireturn, 1) := by decide +kernel
theorem dd_Ob_heapNumber_0 : decode prog_3_method_2_code 0 = .ok (.aload_n 0, 1) := by decide +kernel
theorem dd_Ob_heapNumber_1 : decode prog_3_method_2_code 1 = .ok (.getfield 23, 3) := by decide +kernel
theorem dd_Ob_heapNumber_4 : decode prog_3_method_2_code 4 = .ok (.getfield 33, 3) := by decide +kernel
theorem dd_Ob_heapNumber_7 : decode prog_3_method_2_code 7 = .ok (.ireturn, 1) := by decide +kernel
theorem dd_Me_hasItemInto_0 : decode prog_6_method_6_code 0 = .ok (.iconst 0, 1) := by decide +kernel
theorem dd_Me_hasItemInto_1 : decode prog_6_method_6_code 1 = .ok (.istore_n 3, 1) := by decide +kernel
theorem dd_Me_hasItemInto_2 : decode prog_6_method_6_code 2 = .ok (.iload_n 3, 1) := by decide +kernel
theorem dd_Me_hasItemInto_3 : decode prog_6_method_6_code 3 = .ok (.aload_n 0, 1) := by decide +kernel
theorem dd_Me_hasItemInto_4 : decode prog_6_method_6_code 4 = .ok (.getfield 18, 3) := by decide +kernel
theorem dd_Me_hasItemInto_7 : decode prog_6_method_6_code 7 = .ok (.invokevirtual 21, 3) := by decide +kernel
theorem dd_Me_hasItemInto_10 : decode prog_6_method_6_code 10 = .ok (.if_icmp .ge 42, 3) := by decide +kernel
theorem dd_Me_hasItemInto_13 : decode prog_6_method_6_code 13 = .ok (.aload_n 0, 1) := by decide +kernel
theorem dd_Me_hasItemInto_14 : decode prog_6_method_6_code 14 = .ok (.getfield 18, 3) := by decide +kernel
theorem dd_Me_hasItemInto_17 : decode prog_6_method_6_code 17 = .ok (.iload_n 3, 1) := by decide +kernel
theorem dd_Me_hasItemInto_18 : decode prog_6_method_6_code 18 = .ok (.invokevirtual 25, 3) := by decide +kernel
theorem dd_Me_hasItemInto_21 : decode prog_6_method_6_code 21 = .ok (.checkcast 47, 3) := by decide +kernel
theorem dd_Me_hasItemInto_24 : decode prog_6_method_6_code 24 = .ok (.astore 4, 2) := by decide +kernel
theorem dd_Me_hasItemInto_26 : decode prog_6_method_6_code 26 = .ok (.aload 4, 2) := by decide +kernel
theorem dd_Me_hasItemInto_28 : decode prog_6_method_6_code 28 = .ok (.invokevirtual 49, 3) := by decide +kernel
theorem dd_Me_hasItemInto_31 : decode prog_6_method_6_code 31 = .ok (.iload_n 2, 1) := by decide +kernel
theorem dd_Me_hasItemInto_32 : decode prog_6_method_6_code 32 = .ok (.if_icmp .ne 14, 3) := by decide +kernel
theorem dd_Me_hasItemInto_35 : decode prog_6_method_6_code 35 = .ok (.aload 4, 2) := by decide +kernel
theorem dd_Me_hasItemInto_37 : decode prog_6_method_6_code 37 = .ok (.iload_n 1, 1) := by decide +kernel
theorem dd_Me_hasItemInto_38 : decode prog_6_method_6_code 38 = .ok (.invokevirtual 52, 3) := by decide +kernel
theorem dd_Me_hasItemInto_41 : decode prog_6_method_6_code 41 = .ok (.ifCond .eq 5, 3) := by decide +kernel
theorem dd_Me_hasItemInto_44 : decode prog_6_method_6_code 44 = .ok (.iconst 1, 1) := by decide +kernel
theorem dd_Me_hasItemInto_45 : decode prog_6_method_6_code 45 = .ok (.ireturn, 1) := by decide +kernel
theorem dd_Me_hasItemInto_46 : decode prog_6_method_6_code 46 = .ok (.iinc 3 1, 3) := by decide +kernel
theorem dd_Me_hasItemInto_49 : decode prog_6_method_6_code 49 = .ok (.goto (-47), 3) := by decide +kernel
theorem dd_Me_hasItemInto_52 : decode prog_6_method_6_code 52 = .ok (.iconst 0, 1) := by decide +kernel
theorem dd_Me_hasItemInto_53 : decode prog_6_method_6_code 53 = .ok (.ireturn, 1) := by decide +kernel
theorem dd_Ob_hasItem_0 : decode prog_3_method_7_code 0 = .ok (.aload_n 0, 1) := by decide +kernel
theorem dd_Ob_hasItem_1 : decode prog_3_method_7_code 1 = .ok (.getfield 19, 3) := by decide +kernel
theorem dd_Ob_hasItem_4 : decode prog_3_method_7_code 4 = .ok (.iconst 1, 1) := by decide +kernel
theorem dd_Ob_hasItem_5 : decode prog_3_method_7_code 5 = .ok (.iload_n 1, 1) := by decide +kernel
theorem dd_Ob_hasItem_6 : decode prog_3_method_7_code 6 = .ok (.ishl, 1) := by decide +kernel
theorem dd_Ob_hasItem_7 : decode prog_3_method_7_code 7 = .ok (.iand, 1) := by decide +kernel
theorem dd_Ob_hasItem_8 : decode prog_3_method_7_code 8 = .ok (.ifCond .eq 7, 3) := by decide +kernel
theorem dd_Ob_hasItem_11 : decode prog_3_method_7_code 11 = .ok (.iconst 1, 1) := by decide +kernel
theorem dd_Ob_hasItem_12 : decode prog_3_method_7_code 12 = .ok (.goto 4, 3) := by decide +kernel
theorem dd_Ob_hasItem_15 : decode prog_3_method_7_code 15 = .ok (.iconst 0, 1) := by decide +kernel
theorem dd_Ob_hasItem_16 : decode prog_3_method_7_code 16 = .ok (.ireturn, 1) := by decide +kernel
theorem dd_Pr_dropCharge_0 : decode prog_4_method_6_code 0 = .ok (.aload_n 0, 1) := by decide +kernel
theorem dd_Pr_dropCharge_1 : decode prog_4_method_6_code 1 = .ok (.dup, 1) := by decide +kernel
theorem dd_Pr_dropCharge_2 : decode prog_4_method_6_code 2 = .ok (.getfield 24, 3) := by decide +kernel
theorem dd_Pr_dropCharge_5 : decode prog_4_method_6_code 5 = .ok (.iconst 1, 1) := by decide +kernel
theorem dd_Pr_dropCharge_6 : decode prog_4_method_6_code 6 = .ok (.iload_n 1, 1) := by decide +kernel
theorem dd_Pr_dropCharge_7 : decode prog_4_method_6_code 7 = .ok (.ishl, 1) := by decide +kernel
theorem dd_Pr_dropCharge_8 : decode prog_4_method_6_code 8 = .ok (.iconst (-1), 1) := by decide +kernel
theorem dd_Pr_dropCharge_9 : decode prog_4_method_6_code 9 = .ok (.ixor, 1) := by decide +kernel
theorem dd_Pr_dropCharge_10 : decode prog_4_method_6_code 10 = .ok (.iand, 1) := by decide +kernel
theorem dd_Pr_dropCharge_11 : decode prog_4_method_6_code 11 = .ok (.putfield 24, 3) := by decide +kernel
theorem dd_Pr_dropCharge_14 : decode prog_4_method_6_code 14 = .ok (.return_, 1) := by decide +kernel
theorem dd_Me_mergeIntoKernel_0 : decode prog_6_method_13_code 0 = .ok (.aload_n 0, 1) := by decide +kernel
theorem dd_Me_mergeIntoKernel_1 : decode prog_6_method_13_code 1 = .ok (.getfield 12, 3) := by decide +kernel
theorem dd_Me_mergeIntoKernel_4 : decode prog_6_method_13_code 4 = .ok (.invokevirtual 21, 3) := by decide +kernel
theorem dd_Me_mergeIntoKernel_7 : decode prog_6_method_13_code 7 = .ok (.istore_n 2, 1) := by decide +kernel
theorem dd_Me_mergeIntoKernel_8 : decode prog_6_method_13_code 8 = .ok (.iconst 0, 1) := by decide +kernel
theorem dd_Me_mergeIntoKernel_9 : decode prog_6_method_13_code 9 = .ok (.istore_n 3, 1) := by decide +kernel
theorem dd_Me_mergeIntoKernel_10 : decode prog_6_method_13_code 10 = .ok (.iconst 0, 1) := by decide +kernel
theorem dd_Me_mergeIntoKernel_11 : decode prog_6_method_13_code 11 = .ok (.istore 4, 2) := by decide +kernel
theorem dd_Me_mergeIntoKernel_13 : decode prog_6_method_13_code 13 = .ok (.iload 4, 2) := by decide +kernel
theorem dd_Me_mergeIntoKernel_15 : decode prog_6_method_13_code 15 = .ok (.iload_n 2, 1) := by decide +kernel
theorem dd_Me_mergeIntoKernel_16 : decode prog_6_method_13_code 16 = .ok (.if_icmp .ge 66, 3) := by decide +kernel
theorem dd_Me_mergeIntoKernel_19 : decode prog_6_method_13_code 19 = .ok (.aload_n 0, 1) := by decide +kernel
theorem dd_Me_mergeIntoKernel_20 : decode prog_6_method_13_code 20 = .ok (.getfield 12, 3) := by decide +kernel
theorem dd_Me_mergeIntoKernel_23 : decode prog_6_method_13_code 23 = .ok (.iload 4, 2) := by decide +kernel
theorem dd_Me_mergeIntoKernel_25 : decode prog_6_method_13_code 25 = .ok (.iload_n 3, 1) := by decide +kernel
theorem dd_Me_mergeIntoKernel_26 : decode prog_6_method_13_code 26 = .ok (.isub, 1) := by decide +kernel
theorem dd_Me_mergeIntoKernel_27 : decode prog_6_method_13_code 27 = .ok (.invokevirtual 25, 3) := by decide +kernel
theorem dd_Me_mergeIntoKernel_30 : decode prog_6_method_13_code 30 = .ok (.checkcast 29, 3) := by decide +kernel
theorem dd_Me_mergeIntoKernel_33 : decode prog_6_method_13_code 33 = .ok (.astore 5, 2) := by decide +kernel
theorem dd_Me_mergeIntoKernel_35 : decode prog_6_method_13_code 35 = .ok (.aload 5, 2) := by decide +kernel
theorem dd_Me_mergeIntoKernel_37 : decode prog_6_method_13_code 37 = .ok (.getfield 31, 3) := by decide +kernel
theorem dd_Me_mergeIntoKernel_40 : decode prog_6_method_13_code 40 = .ok (.iload_n 1, 1) := by decide +kernel
theorem dd_Me_mergeIntoKernel_41 : decode prog_6_method_13_code 41 = .ok (.if_icmp .ne 35, 3) := by decide +kernel
theorem dd_Me_mergeIntoKernel_44 : decode prog_6_method_13_code 44 = .ok (.aload_n 0, 1) := by decide +kernel
theorem dd_Me_mergeIntoKernel_45 : decode prog_6_method_13_code 45 = .ok (.getfield 12, 3) := by decide +kernel
theorem dd_Me_mergeIntoKernel_48 : decode prog_6_method_13_code 48 = .ok (.iload 4, 2) := by decide +kernel
theorem dd_Me_mergeIntoKernel_50 : decode prog_6_method_13_code 50 = .ok (.iload_n 3, 1) := by decide +kernel
theorem dd_Me_mergeIntoKernel_51 : decode prog_6_method_13_code 51 = .ok (.isub, 1) := by decide +kernel
theorem dd_Me_mergeIntoKernel_52 : decode prog_6_method_13_code 52 = .ok (.invokevirtual 78, 3) := by decide +kernel
theorem dd_Me_mergeIntoKernel_55 : decode prog_6_method_13_code 55 = .ok (.pop, 1) := by decide +kernel
theorem dd_Me_mergeIntoKernel_56 : decode prog_6_method_13_code 56 = .ok (.aload_n 0, 1) := by decide +kernel
theorem dd_Me_mergeIntoKernel_57 : decode prog_6_method_13_code 57 = .ok (.getfield 12, 3) := by decide +kernel
theorem dd_Me_mergeIntoKernel_60 : decode prog_6_method_13_code 60 = .ok (.aload 5, 2) := by decide +kernel
theorem dd_Me_mergeIntoKernel_62 : decode prog_6_method_13_code 62 = .ok (.invokevirtual 61, 3) := by decide +kernel
theorem dd_Me_mergeIntoKernel_65 : decode prog_6_method_13_code 65 = .ok (.pop, 1) := by decide +kernel
theorem dd_Me_mergeIntoKernel_66 : decode prog_6_method_13_code 66 = .ok (.aload 5, 2) := by decide +kernel
theorem dd_Me_mergeIntoKernel_68 : decode prog_6_method_13_code 68 = .ok (.bipush 8, 2) := by decide +kernel
theorem dd_Me_mergeIntoKernel_70 : decode prog_6_method_13_code 70 = .ok (.putfield 31, 3) := by decide +kernel
theorem dd_Me_mergeIntoKernel_73 : decode prog_6_method_13_code 73 = .ok (.iinc 3 1, 3) := by decide +kernel
theorem dd_Me_mergeIntoKernel_76 : decode prog_6_method_13_code 76 = .ok (.iinc 4 1, 3) := by decide +kernel
theorem dd_Me_mergeIntoKernel_79 : decode prog_6_method_13_code 79 = .ok (.goto (-66), 3) := by decide +kernel
theorem dd_Me_mergeIntoKernel_82 : decode prog_6_method_13_code 82 = .ok (.return_, 1) := by decide +kernel
theorem dd_AL_remove_0 : decode prog_17_method_29_code 0 = .ok (.iload_n 1, 1) := by decide +kernel
theorem dd_AL_remove_1 : decode prog_17_method_29_code 1 = .ok (.aload_n 0, 1) := by decide +kernel
theorem dd_AL_remove_2 : decode prog_17_method_29_code 2 = .ok (.getfield 48, 3) := by decide +kernel
theorem dd_AL_remove_5 : decode prog_17_method_29_code 5 = .ok (.invokestatic 118, 3) := by decide +kernel
theorem dd_AL_remove_8 : decode prog_17_method_29_code 8 = .ok (.pop, 1) := by decide +kernel
theorem dd_AL_remove_9 : decode prog_17_method_29_code 9 = .ok (.aload_n 0, 1) := by decide +kernel
theorem dd_AL_remove_10 : decode prog_17_method_29_code 10 = .ok (.getfield 9, 3) := by decide +kernel
theorem dd_AL_remove_13 : decode prog_17_method_29_code 13 = .ok (.astore_n 2, 1) := by decide +kernel
theorem dd_AL_remove_14 : decode prog_17_method_29_code 14 = .ok (.aload_n 2, 1) := by decide +kernel
theorem dd_AL_remove_15 : decode prog_17_method_29_code 15 = .ok (.iload_n 1, 1) := by decide +kernel
theorem dd_AL_remove_16 : decode prog_17_method_29_code 16 = .ok (.aaload, 1) := by decide +kernel
theorem dd_AL_remove_17 : decode prog_17_method_29_code 17 = .ok (.astore_n 3, 1) := by decide +kernel
theorem dd_AL_remove_18 : decode prog_17_method_29_code 18 = .ok (.aload_n 0, 1) := by decide +kernel
theorem dd_AL_remove_19 : decode prog_17_method_29_code 19 = .ok (.aload_n 2, 1) := by decide +kernel
theorem dd_AL_remove_20 : decode prog_17_method_29_code 20 = .ok (.iload_n 1, 1) := by decide +kernel
theorem dd_AL_remove_21 : decode prog_17_method_29_code 21 = .ok (.invokevirtual 144, 3) := by decide +kernel
theorem dd_AL_remove_24 : decode prog_17_method_29_code 24 = .ok (.aload_n 3, 1) := by decide +kernel
theorem dd_AL_remove_25 : decode prog_17_method_29_code 25 = .ok (.areturn, 1) := by decide +kernel
theorem dd_AL_fastRemove_0 : decode prog_17_method_39_code 0 = .ok (.aload_n 0, 1) := by decide +kernel
theorem dd_AL_fastRemove_1 : decode prog_17_method_39_code 1 = .ok (.dup, 1) := by decide +kernel
theorem dd_AL_fastRemove_2 : decode prog_17_method_39_code 2 = .ok (.getfield 63, 3) := by decide +kernel
theorem dd_AL_fastRemove_5 : decode prog_17_method_39_code 5 = .ok (.iconst 1, 1) := by decide +kernel
theorem dd_AL_fastRemove_6 : decode prog_17_method_39_code 6 = .ok (.iadd, 1) := by decide +kernel
theorem dd_AL_fastRemove_7 : decode prog_17_method_39_code 7 = .ok (.putfield 63, 3) := by decide +kernel
theorem dd_AL_fastRemove_10 : decode prog_17_method_39_code 10 = .ok (.aload_n 0, 1) := by decide +kernel
theorem dd_AL_fastRemove_11 : decode prog_17_method_39_code 11 = .ok (.getfield 48, 3) := by decide +kernel
theorem dd_AL_fastRemove_14 : decode prog_17_method_39_code 14 = .ok (.iconst 1, 1) := by decide +kernel
theorem dd_AL_fastRemove_15 : decode prog_17_method_39_code 15 = .ok (.isub, 1) := by decide +kernel
theorem dd_AL_fastRemove_16 : decode prog_17_method_39_code 16 = .ok (.dup, 1) := by decide +kernel
theorem dd_AL_fastRemove_17 : decode prog_17_method_39_code 17 = .ok (.istore_n 3, 1) := by decide +kernel
theorem dd_AL_fastRemove_18 : decode prog_17_method_39_code 18 = .ok (.iload_n 2, 1) := by decide +kernel
theorem dd_AL_fastRemove_19 : decode prog_17_method_39_code 19 = .ok (.if_icmp .le 15, 3) := by decide +kernel
theorem dd_AL_fastRemove_22 : decode prog_17_method_39_code 22 = .ok (.aload_n 1, 1) := by decide +kernel
theorem dd_AL_fastRemove_23 : decode prog_17_method_39_code 23 = .ok (.iload_n 2, 1) := by decide +kernel
theorem dd_AL_fastRemove_24 : decode prog_17_method_39_code 24 = .ok (.iconst 1, 1) := by decide +kernel
theorem dd_AL_fastRemove_25 : decode prog_17_method_39_code 25 = .ok (.iadd, 1) := by decide +kernel
theorem dd_AL_fastRemove_26 : decode prog_17_method_39_code 26 = .ok (.aload_n 1, 1) := by decide +kernel
theorem dd_AL_fastRemove_27 : decode prog_17_method_39_code 27 = .ok (.iload_n 2, 1) := by decide +kernel
theorem dd_AL_fastRemove_28 : decode prog_17_method_39_code 28 = .ok (.iload_n 3, 1) := by decide +kernel
theorem dd_AL_fastRemove_29 : decode prog_17_method_39_code 29 = .ok (.iload_n 2, 1) := by decide +kernel
theorem dd_AL_fastRemove_30 : decode prog_17_method_39_code 30 = .ok (.isub, 1) := by decide +kernel
theorem dd_AL_fastRemove_31 : decode prog_17_method_39_code 31 = .ok (.invokestatic 112, 3) := by decide +kernel
theorem dd_AL_fastRemove_34 : decode prog_17_method_39_code 34 = .ok (.aload_n 1, 1) := by decide +kernel
theorem dd_AL_fastRemove_35 : decode prog_17_method_39_code 35 = .ok (.aload_n 0, 1) := by decide +kernel
theorem dd_AL_fastRemove_36 : decode prog_17_method_39_code 36 = .ok (.iload_n 3, 1) := by decide +kernel
theorem dd_AL_fastRemove_37 : decode prog_17_method_39_code 37 = .ok (.dup_x1, 1) := by decide +kernel
theorem dd_AL_fastRemove_38 : decode prog_17_method_39_code 38 = .ok (.putfield 48, 3) := by decide +kernel
theorem dd_AL_fastRemove_41 : decode prog_17_method_39_code 41 = .ok (.aconst_null, 1) := by decide +kernel
theorem dd_AL_fastRemove_42 : decode prog_17_method_39_code 42 = .ok (.aastore, 1) := by decide +kernel
theorem dd_AL_fastRemove_43 : decode prog_17_method_39_code 43 = .ok (.return_, 1) := by decide +kernel
theorem dd_AL_add_0 : decode prog_17_method_25_code 0 = .ok (.aload_n 0, 1) := by decide +kernel
theorem dd_AL_add_1 : decode prog_17_method_25_code 1 = .ok (.dup, 1) := by decide +kernel
theorem dd_AL_add_2 : decode prog_17_method_25_code 2 = .ok (.getfield 63, 3) := by decide +kernel
theorem dd_AL_add_5 : decode prog_17_method_25_code 5 = .ok (.iconst 1, 1) := by decide +kernel
theorem dd_AL_add_6 : decode prog_17_method_25_code 6 = .ok (.iadd, 1) := by decide +kernel
theorem dd_AL_add_7 : decode prog_17_method_25_code 7 = .ok (.putfield 63, 3) := by decide +kernel
theorem dd_AL_add_10 : decode prog_17_method_25_code 10 = .ok (.aload_n 0, 1) := by decide +kernel
theorem dd_AL_add_11 : decode prog_17_method_25_code 11 = .ok (.aload_n 1, 1) := by decide +kernel
theorem dd_AL_add_12 : decode prog_17_method_25_code 12 = .ok (.aload_n 0, 1) := by decide +kernel
theorem dd_AL_add_13 : decode prog_17_method_25_code 13 = .ok (.getfield 9, 3) := by decide +kernel
theorem dd_AL_add_16 : decode prog_17_method_25_code 16 = .ok (.aload_n 0, 1) := by decide +kernel
theorem dd_AL_add_17 : decode prog_17_method_25_code 17 = .ok (.getfield 48, 3) := by decide +kernel
theorem dd_AL_add_20 : decode prog_17_method_25_code 20 = .ok (.invokevirtual 131, 3) := by decide +kernel
theorem dd_AL_add_23 : decode prog_17_method_25_code 23 = .ok (.iconst 1, 1) := by decide +kernel
theorem dd_AL_add_24 : decode prog_17_method_25_code 24 = .ok (.ireturn, 1) := by decide +kernel
theorem dd_AL_add2_0 : decode prog_17_method_24_code 0 = .ok (.iload_n 3, 1) := by decide +kernel
theorem dd_AL_add2_1 : decode prog_17_method_24_code 1 = .ok (.aload_n 2, 1) := by decide +kernel
theorem dd_AL_add2_2 : decode prog_17_method_24_code 2 = .ok (.arraylength, 1) := by decide +kernel
theorem dd_AL_add2_3 : decode prog_17_method_24_code 3 = .ok (.if_icmp .ne 8, 3) := by decide +kernel
theorem dd_AL_add2_6 : decode prog_17_method_24_code 6 = .ok (.aload_n 0, 1) := by decide +kernel
theorem dd_AL_add2_7 : decode prog_17_method_24_code 7 = .ok (.invokevirtual 129, 3) := by decide +kernel
theorem dd_AL_add2_10 : decode prog_17_method_24_code 10 = .ok (.astore_n 2, 1) := by decide +kernel
theorem dd_AL_add2_11 : decode prog_17_method_24_code 11 = .ok (.aload_n 2, 1) := by decide +kernel
theorem dd_AL_add2_12 : decode prog_17_method_24_code 12 = .ok (.iload_n 3, 1) := by decide +kernel
theorem dd_AL_add2_13 : decode prog_17_method_24_code 13 = .ok (.aload_n 1, 1) := by decide +kernel
theorem dd_AL_add2_14 : decode prog_17_method_24_code 14 = .ok (.aastore, 1) := by decide +kernel
theorem dd_AL_add2_15 : decode prog_17_method_24_code 15 = .ok (.aload_n 0, 1) := by decide +kernel
theorem dd_AL_add2_16 : decode prog_17_method_24_code 16 = .ok (.iload_n 3, 1) := by decide +kernel
theorem dd_AL_add2_17 : decode prog_17_method_24_code 17 = .ok (.iconst 1, 1) := by decide +kernel
theorem dd_AL_add2_18 : decode prog_17_method_24_code 18 = .ok (.iadd, 1) := by decide +kernel
theorem dd_AL_add2_19 : decode prog_17_method_24_code 19 = .ok (.putfield 48, 3) := by decide +kernel
theorem dd_AL_add2_22 : decode prog_17_method_24_code 22 = .ok (.return_, 1) := by decide +kernel
theorem dd_AL_grow_0 : decode prog_17_method_7_code 0 = .ok (.aload_n 0, 1) := by decide +kernel
theorem dd_AL_grow_1 : decode prog_17_method_7_code 1 = .ok (.aload_n 0, 1) := by decide +kernel
theorem dd_AL_grow_2 : decode prog_17_method_7_code 2 = .ok (.getfield 48, 3) := by decide +kernel
theorem dd_AL_grow_5 : decode prog_17_method_7_code 5 = .ok (.iconst 1, 1) := by decide +kernel
theorem dd_AL_grow_6 : decode prog_17_method_7_code 6 = .ok (.iadd, 1) := by decide +kernel
theorem dd_AL_grow_7 : decode prog_17_method_7_code 7 = .ok (.invokevirtual 69, 3) := by decide +kernel
theorem dd_AL_grow_10 : decode prog_17_method_7_code 10 = .ok (.areturn, 1) := by decide +kernel
theorem dd_AL_grow2_0 : decode prog_17_method_6_code 0 = .ok (.aload_n 0, 1) := by decide +kernel
theorem dd_AL_grow2_1 : decode prog_17_method_6_code 1 = .ok (.getfield 9, 3) := by decide +kernel
theorem dd_AL_grow2_4 : decode prog_17_method_6_code 4 = .ok (.arraylength, 1) := by decide +kernel
theorem dd_AL_grow2_5 : decode prog_17_method_6_code 5 = .ok (.istore_n 2, 1) := by decide +kernel
theorem dd_AL_grow2_6 : decode prog_17_method_6_code 6 = .ok (.iload_n 2, 1) := by decide +kernel
theorem dd_AL_grow2_7 : decode prog_17_method_6_code 7 = .ok (.ifCond .gt 13, 3) := by decide +kernel
theorem dd_AL_grow2_10 : decode prog_17_method_6_code 10 = .ok (.aload_n 0, 1) := by decide +kernel
theorem dd_AL_grow2_11 : decode prog_17_method_6_code 11 = .ok (.getfield 9, 3) := by decide +kernel
theorem dd_AL_grow2_14 : decode prog_17_method_6_code 14 = .ok (.getstatic 39, 3) := by decide +kernel
theorem dd_AL_grow2_17 : decode prog_17_method_6_code 17 = .ok (.if_acmp .eq 28, 3) := by decide +kernel
theorem dd_AL_grow2_20 : decode prog_17_method_6_code 20 = .ok (.iload_n 2, 1) := by decide +kernel
theorem dd_AL_grow2_21 : decode prog_17_method_6_code 21 = .ok (.iload_n 1, 1) := by decide +kernel
theorem dd_AL_grow2_22 : decode prog_17_method_6_code 22 = .ok (.iload_n 2, 1) := by decide +kernel
theorem dd_AL_grow2_23 : decode prog_17_method_6_code 23 = .ok (.isub, 1) := by decide +kernel
theorem dd_AL_grow2_24 : decode prog_17_method_6_code 24 = .ok (.iload_n 2, 1) := by decide +kernel
theorem dd_AL_grow2_25 : decode prog_17_method_6_code 25 = .ok (.iconst 1, 1) := by decide +kernel
theorem dd_AL_grow2_26 : decode prog_17_method_6_code 26 = .ok (.ishr, 1) := by decide +kernel
theorem dd_AL_grow2_27 : decode prog_17_method_6_code 27 = .ok (.invokestatic 73, 3) := by decide +kernel
theorem dd_AL_grow2_30 : decode prog_17_method_6_code 30 = .ok (.istore_n 3, 1) := by decide +kernel
theorem dd_AL_grow2_31 : decode prog_17_method_6_code 31 = .ok (.aload_n 0, 1) := by decide +kernel
theorem dd_AL_grow2_32 : decode prog_17_method_6_code 32 = .ok (.aload_n 0, 1) := by decide +kernel
theorem dd_AL_grow2_33 : decode prog_17_method_6_code 33 = .ok (.getfield 9, 3) := by decide +kernel
theorem dd_AL_grow2_36 : decode prog_17_method_6_code 36 = .ok (.iload_n 3, 1) := by decide +kernel
theorem dd_AL_grow2_37 : decode prog_17_method_6_code 37 = .ok (.invokestatic 66, 3) := by decide +kernel
theorem dd_AL_grow2_40 : decode prog_17_method_6_code 40 = .ok (.dup_x1, 1) := by decide +kernel
theorem dd_AL_grow2_41 : decode prog_17_method_6_code 41 = .ok (.putfield 9, 3) := by decide +kernel
theorem dd_AL_grow2_44 : decode prog_17_method_6_code 44 = .ok (.areturn, 1) := by decide +kernel
theorem dd_AL_grow2_45 : decode prog_17_method_6_code 45 = .ok (.aload_n 0, 1) := by decide +kernel
theorem dd_AL_grow2_46 : decode prog_17_method_6_code 46 = .ok (.bipush 10, 2) := by decide +kernel
theorem dd_AL_grow2_48 : decode prog_17_method_6_code 48 = .ok (.iload_n 1, 1) := by decide +kernel
theorem dd_AL_grow2_49 : decode prog_17_method_6_code 49 = .ok (.invokestatic 79, 3) := by decide +kernel
theorem dd_AL_grow2_52 : decode prog_17_method_6_code 52 = .ok (.anewarray 7, 3) := by decide +kernel
theorem dd_AL_grow2_55 : decode prog_17_method_6_code 55 = .ok (.dup_x1, 1) := by decide +kernel
theorem dd_AL_grow2_56 : decode prog_17_method_6_code 56 = .ok (.putfield 9, 3) := by decide +kernel
theorem dd_AL_grow2_59 : decode prog_17_method_6_code 59 = .ok (.areturn, 1) := by decide +kernel
theorem dd_As_newLength_0 : decode prog_24_method_27_code 0 = .ok (.iload_n 0, 1) := by decide +kernel
theorem dd_As_newLength_1 : decode prog_24_method_27_code 1 = .ok (.iload_n 1, 1) := by decide +kernel
theorem dd_As_newLength_2 : decode prog_24_method_27_code 2 = .ok (.iload_n 2, 1) := by decide +kernel
theorem dd_As_newLength_3 : decode prog_24_method_27_code 3 = .ok (.invokestatic 194, 3) := by decide +kernel
theorem dd_As_newLength_6 : decode prog_24_method_27_code 6 = .ok (.iadd, 1) := by decide +kernel
theorem dd_As_newLength_7 : decode prog_24_method_27_code 7 = .ok (.istore_n 3, 1) := by decide +kernel
theorem dd_As_newLength_8 : decode prog_24_method_27_code 8 = .ok (.iconst 0, 1) := by decide +kernel
theorem dd_As_newLength_9 : decode prog_24_method_27_code 9 = .ok (.iload_n 3, 1) := by decide +kernel
theorem dd_As_newLength_10 : decode prog_24_method_27_code 10 = .ok (.if_icmp .ge 11, 3) := by decide +kernel
theorem dd_As_newLength_13 : decode prog_24_method_27_code 13 = .ok (.iload_n 3, 1) := by decide +kernel
theorem dd_As_newLength_14 : decode prog_24_method_27_code 14 = .ok (.ldc 200, 2) := by decide +kernel
theorem dd_As_newLength_16 : decode prog_24_method_27_code 16 = .ok (.if_icmp .gt 5, 3) := by decide +kernel
theorem dd_As_newLength_19 : decode prog_24_method_27_code 19 = .ok (.iload_n 3, 1) := by decide +kernel
theorem dd_As_newLength_20 : decode prog_24_method_27_code 20 = .ok (.ireturn, 1) := by decide +kernel
theorem dd_As_newLength_21 : decode prog_24_method_27_code 21 = .ok (.iload_n 0, 1) := by decide +kernel
theorem dd_As_newLength_22 : decode prog_24_method_27_code 22 = .ok (.iload_n 1, 1) := by decide +kernel
theorem dd_As_newLength_23 : decode prog_24_method_27_code 23 = .ok (.invokestatic 201, 3) := by decide +kernel
theorem dd_As_newLength_26 : decode prog_24_method_27_code 26 = .ok (.ireturn, 1) := by decide +kernel
theorem dd_Ar_copyOf_0 : decode prog_18_method_119_code 0 = .ok (.aload_n 0, 1) := by decide +kernel
theorem dd_Ar_copyOf_1 : decode prog_18_method_119_code 1 = .ok (.iload_n 1, 1) := by decide +kernel
theorem dd_Ar_copyOf_2 : decode prog_18_method_119_code 2 = .ok (.aload_n 0, 1) := by decide +kernel
theorem dd_Ar_copyOf_3 : decode prog_18_method_119_code 3 = .ok (.invokevirtual 86, 3) := by decide +kernel
theorem dd_Ar_copyOf_6 : decode prog_18_method_119_code 6 = .ok (.invokestatic 300, 3) := by decide +kernel
theorem dd_Ar_copyOf_9 : decode prog_18_method_119_code 9 = .ok (.areturn, 1) := by decide +kernel
theorem dd_Ar_copyOf2_0 : decode prog_18_method_120_code 0 = .ok (.aload_n 2, 1) := by decide +kernel
theorem dd_Ar_copyOf2_1 : decode prog_18_method_120_code 1 = .ok (.ldc 110, 2) := by decide +kernel
theorem dd_Ar_copyOf2_3 : decode prog_18_method_120_code 3 = .ok (.if_acmp .ne 10, 3) := by decide +kernel
theorem dd_Ar_copyOf2_6 : decode prog_18_method_120_code 6 = .ok (.iload_n 1, 1) := by decide +kernel
theorem dd_Ar_copyOf2_7 : decode prog_18_method_120_code 7 = .ok (.anewarray 2, 3) := by decide +kernel
theorem dd_Ar_copyOf2_10 : decode prog_18_method_120_code 10 = .ok (.goto 14, 3) := by decide +kernel
theorem dd_Ar_copyOf2_13 : decode prog_18_method_120_code 13 = .ok (.aload_n 2, 1) := by decide +kernel
theorem dd_Ar_copyOf2_14 : decode prog_18_method_120_code 14 = .ok (.invokevirtual 90, 3) := by decide +kernel
theorem dd_Ar_copyOf2_17 : decode prog_18_method_120_code 17 = .ok (.iload_n 1, 1) := by decide +kernel
theorem dd_Ar_copyOf2_18 : decode prog_18_method_120_code 18 = .ok (.invokestatic 95, 3) := by decide +kernel
theorem dd_Ar_copyOf2_21 : decode prog_18_method_120_code 21 = .ok (.checkcast 110, 3) := by decide +kernel
theorem dd_Ar_copyOf2_24 : decode prog_18_method_120_code 24 = .ok (.astore_n 3, 1) := by decide +kernel
theorem dd_Ar_copyOf2_25 : decode prog_18_method_120_code 25 = .ok (.aload_n 0, 1) := by decide +kernel
theorem dd_Ar_copyOf2_26 : decode prog_18_method_120_code 26 = .ok (.iconst 0, 1) := by decide +kernel
theorem dd_Ar_copyOf2_27 : decode prog_18_method_120_code 27 = .ok (.aload_n 3, 1) := by decide +kernel
theorem dd_Ar_copyOf2_28 : decode prog_18_method_120_code 28 = .ok (.iconst 0, 1) := by decide +kernel
theorem dd_Ar_copyOf2_29 : decode prog_18_method_120_code 29 = .ok (.aload_n 0, 1) := by decide +kernel
theorem dd_Ar_copyOf2_30 : decode prog_18_method_120_code 30 = .ok (.arraylength, 1) := by decide +kernel
theorem dd_Ar_copyOf2_31 : decode prog_18_method_120_code 31 = .ok (.iload_n 1, 1) := by decide +kernel
theorem dd_Ar_copyOf2_32 : decode prog_18_method_120_code 32 = .ok (.invokestatic 304, 3) := by decide +kernel
theorem dd_Ar_copyOf2_35 : decode prog_18_method_120_code 35 = .ok (.invokestatic 150, 3) := by decide +kernel
theorem dd_Ar_copyOf2_38 : decode prog_18_method_120_code 38 = .ok (.aload_n 3, 1) := by decide +kernel
theorem dd_Ar_copyOf2_39 : decode prog_18_method_120_code 39 = .ok (.areturn, 1) := by decide +kernel
theorem dd_Me_handItemsToKernel_0 : decode prog_6_method_14_code 0 = .ok (.iconst 0, 1) := by decide +kernel
theorem dd_Me_handItemsToKernel_1 : decode prog_6_method_14_code 1 = .ok (.istore_n 2, 1) := by decide +kernel
theorem dd_Me_handItemsToKernel_2 : decode prog_6_method_14_code 2 = .ok (.iload_n 2, 1) := by decide +kernel
theorem dd_Me_handItemsToKernel_3 : decode prog_6_method_14_code 3 = .ok (.aload_n 0, 1) := by decide +kernel
theorem dd_Me_handItemsToKernel_4 : decode prog_6_method_14_code 4 = .ok (.getfield 18, 3) := by decide +kernel
theorem dd_Me_handItemsToKernel_7 : decode prog_6_method_14_code 7 = .ok (.invokevirtual 21, 3) := by decide +kernel
theorem dd_Me_handItemsToKernel_10 : decode prog_6_method_14_code 10 = .ok (.if_icmp .ge 58, 3) := by decide +kernel
theorem dd_Me_handItemsToKernel_13 : decode prog_6_method_14_code 13 = .ok (.aload_n 0, 1) := by decide +kernel
theorem dd_Me_handItemsToKernel_14 : decode prog_6_method_14_code 14 = .ok (.getfield 18, 3) := by decide +kernel
theorem dd_Me_handItemsToKernel_17 : decode prog_6_method_14_code 17 = .ok (.iload_n 2, 1) := by decide +kernel
theorem dd_Me_handItemsToKernel_18 : decode prog_6_method_14_code 18 = .ok (.invokevirtual 25, 3) := by decide +kernel
theorem dd_Me_handItemsToKernel_21 : decode prog_6_method_14_code 21 = .ok (.checkcast 47, 3) := by decide +kernel
theorem dd_Me_handItemsToKernel_24 : decode prog_6_method_14_code 24 = .ok (.astore_n 3, 1) := by decide +kernel
theorem dd_Me_handItemsToKernel_25 : decode prog_6_method_14_code 25 = .ok (.aload_n 3, 1) := by decide +kernel
theorem dd_Me_handItemsToKernel_26 : decode prog_6_method_14_code 26 = .ok (.invokevirtual 49, 3) := by decide +kernel
theorem dd_Me_handItemsToKernel_29 : decode prog_6_method_14_code 29 = .ok (.bipush 8, 2) := by decide +kernel
theorem dd_Me_handItemsToKernel_31 : decode prog_6_method_14_code 31 = .ok (.if_icmp .ne 12, 3) := by decide +kernel
theorem dd_Me_handItemsToKernel_34 : decode prog_6_method_14_code 34 = .ok (.aload_n 3, 1) := by decide +kernel
theorem dd_Me_handItemsToKernel_35 : decode prog_6_method_14_code 35 = .ok (.bipush 8, 2) := by decide +kernel
theorem dd_Me_handItemsToKernel_37 : decode prog_6_method_14_code 37 = .ok (.invokevirtual 84, 3) := by decide +kernel
theorem dd_Me_handItemsToKernel_40 : decode prog_6_method_14_code 40 = .ok (.goto 17, 3) := by decide +kernel
theorem dd_Me_handItemsToKernel_43 : decode prog_6_method_14_code 43 = .ok (.aload_n 3, 1) := by decide +kernel
theorem dd_Me_handItemsToKernel_44 : decode prog_6_method_14_code 44 = .ok (.iload_n 1, 1) := by decide +kernel
theorem dd_Me_handItemsToKernel_45 : decode prog_6_method_14_code 45 = .ok (.invokevirtual 52, 3) := by decide +kernel
theorem dd_Me_handItemsToKernel_48 : decode prog_6_method_14_code 48 = .ok (.ifCond .eq 9, 3) := by decide +kernel
theorem dd_Me_handItemsToKernel_51 : decode prog_6_method_14_code 51 = .ok (.aload_n 3, 1) := by decide +kernel
theorem dd_Me_handItemsToKernel_52 : decode prog_6_method_14_code 52 = .ok (.bipush 8, 2) := by decide +kernel
theorem dd_Me_handItemsToKernel_54 : decode prog_6_method_14_code 54 = .ok (.invokevirtual 88, 3) := by decide +kernel
theorem dd_Me_handItemsToKernel_57 : decode prog_6_method_14_code 57 = .ok (.aload_n 3, 1) := by decide +kernel
theorem dd_Me_handItemsToKernel_58 : decode prog_6_method_14_code 58 = .ok (.iload_n 1, 1) := by decide +kernel
theorem dd_Me_handItemsToKernel_59 : decode prog_6_method_14_code 59 = .ok (.invokevirtual 84, 3) := by decide +kernel
theorem dd_Me_handItemsToKernel_62 : decode prog_6_method_14_code 62 = .ok (.iinc 2 1, 3) := by decide +kernel
theorem dd_Me_handItemsToKernel_65 : decode prog_6_method_14_code 65 = .ok (.goto (-63), 3) := by decide +kernel
theorem dd_Me_handItemsToKernel_68 : decode prog_6_method_14_code 68 = .ok (.return_, 1) := by decide +kernel
theorem dd_Ob_dropItem_0 : decode prog_3_method_9_code 0 = .ok (.aload_n 0, 1) := by decide +kernel
theorem dd_Ob_dropItem_1 : decode prog_3_method_9_code 1 = .ok (.dup, 1) := by decide +kernel
theorem dd_Ob_dropItem_2 : decode prog_3_method_9_code 2 = .ok (.getfield 19, 3) := by decide +kernel
theorem dd_Ob_dropItem_5 : decode prog_3_method_9_code 5 = .ok (.iconst 1, 1) := by decide +kernel
theorem dd_Ob_dropItem_6 : decode prog_3_method_9_code 6 = .ok (.iload_n 1, 1) := by decide +kernel
theorem dd_Ob_dropItem_7 : decode prog_3_method_9_code 7 = .ok (.ishl, 1) := by decide +kernel
theorem dd_Ob_dropItem_8 : decode prog_3_method_9_code 8 = .ok (.iconst (-1), 1) := by decide +kernel
theorem dd_Ob_dropItem_9 : decode prog_3_method_9_code 9 = .ok (.ixor, 1) := by decide +kernel
theorem dd_Ob_dropItem_10 : decode prog_3_method_9_code 10 = .ok (.iand, 1) := by decide +kernel
theorem dd_Ob_dropItem_11 : decode prog_3_method_9_code 11 = .ok (.putfield 19, 3) := by decide +kernel
theorem dd_Ob_dropItem_14 : decode prog_3_method_9_code 14 = .ok (.return_, 1) := by decide +kernel
theorem dd_Ob_addItem_0 : decode prog_3_method_8_code 0 = .ok (.aload_n 0, 1) := by decide +kernel
theorem dd_Ob_addItem_1 : decode prog_3_method_8_code 1 = .ok (.dup, 1) := by decide +kernel
theorem dd_Ob_addItem_2 : decode prog_3_method_8_code 2 = .ok (.getfield 19, 3) := by decide +kernel
theorem dd_Ob_addItem_5 : decode prog_3_method_8_code 5 = .ok (.iconst 1, 1) := by decide +kernel
theorem dd_Ob_addItem_6 : decode prog_3_method_8_code 6 = .ok (.iload_n 1, 1) := by decide +kernel
theorem dd_Ob_addItem_7 : decode prog_3_method_8_code 7 = .ok (.ishl, 1) := by decide +kernel
theorem dd_Ob_addItem_8 : decode prog_3_method_8_code 8 = .ok (.ior, 1) := by decide +kernel
theorem dd_Ob_addItem_9 : decode prog_3_method_8_code 9 = .ok (.putfield 19, 3) := by decide +kernel
theorem dd_Ob_addItem_12 : decode prog_3_method_8_code 12 = .ok (.return_, 1) := by decide +kernel
theorem dd_PH_dropGoneHeaps_0 : decode prog_1_method_38_code 0 = .ok (.bipush 9, 2) := by decide +kernel
theorem dd_PH_dropGoneHeaps_2 : decode prog_1_method_38_code 2 = .ok (.istore_n 1, 1) := by decide +kernel
theorem dd_PH_dropGoneHeaps_3 : decode prog_1_method_38_code 3 = .ok (.iload_n 1, 1) := by decide +kernel
theorem dd_PH_dropGoneHeaps_4 : decode prog_1_method_38_code 4 = .ok (.bipush 13, 2) := by decide +kernel
theorem dd_PH_dropGoneHeaps_6 : decode prog_1_method_38_code 6 = .ok (.if_icmp .ge 59, 3) := by decide +kernel
