/-! WHAT THE POOLS' ENTRIES ARE (by program) -/
theorem uw_0 : ∀ w ∈ u_ws "ProcessHeaps" TT0 7, w ∈ mm_B := by
  intro w hw
  obtain ⟨k, hk, rfl⟩ := List.mem_map.mp hw
  have hk := List.mem_range.mp hk
  match k, hk with
  | 0, _ => exact tb_159
  | 1, _ => exact tb_161
  | 2, _ => exact tb_163
  | 3, _ => exact tb_165
  | 4, _ => exact tb_167
  | 5, _ => exact tb_169
  | 6, _ => exact tb_171
  | n + 7, h => omega
theorem fp_0 : mm_Fp "ProcessHeaps" TT0 7 := ⟨⟨tt0, by decide +kernel⟩, by decide +kernel⟩
theorem rs_0_0 : mm_rs 1 0 = true := by decide +kernel
theorem rs_0_1 : mm_rs 1 1 = true := by decide +kernel
theorem rs_0_2 : mm_rs 1 2 = true := by decide +kernel
theorem rs_0_3 : mm_rs 1 3 = true := by decide +kernel
theorem rs_0_4 : mm_rs 1 4 = true := by decide +kernel
theorem rs_0_5 : mm_rs 1 5 = false := by decide +kernel
theorem rs_0_6 : mm_rs 1 6 = false := by decide +kernel
theorem uw_1 : ∀ w ∈ u_ws "ProcessHeaps$Memory" TT1 2, w ∈ mm_B := by
  intro w hw
  obtain ⟨k, hk, rfl⟩ := List.mem_map.mp hw
  have hk := List.mem_range.mp hk
  match k, hk with
  | 0, _ => exact tb_62
  | 1, _ => exact tb_64
  | n + 2, h => omega
theorem fp_1 : mm_Fp "ProcessHeaps$Memory" TT1 2 := ⟨⟨tt1, by decide +kernel⟩, by decide +kernel⟩
theorem rs_1_0 : mm_rs 2 0 = true := by decide +kernel
theorem rs_1_1 : mm_rs 2 1 = true := by decide +kernel
theorem uw_2 : ∀ w ∈ u_ws "java/util/ArrayList" TT2 3, w ∈ mm_B := by
  intro w hw
  obtain ⟨k, hk, rfl⟩ := List.mem_map.mp hw
  have hk := List.mem_range.mp hk
  match k, hk with
  | 0, _ => exact tb_51
  | 1, _ => exact tb_53
  | 2, _ => exact tb_55
  | n + 3, h => omega
theorem fp_2 : mm_Fp "java/util/ArrayList" TT2 3 := ⟨⟨tt2, by decide +kernel⟩, by decide +kernel⟩
theorem rs_2_0 : mm_rs 3 0 = true := by decide +kernel
theorem rs_2_1 : mm_rs 3 1 = false := by decide +kernel
theorem rs_2_2 : mm_rs 3 2 = false := by decide +kernel
theorem uw_3 : ∀ w ∈ u_ws "ProcessHeaps$Collector" TT3 2, w ∈ mm_B := by
  intro w hw
  obtain ⟨k, hk, rfl⟩ := List.mem_map.mp hw
  have hk := List.mem_range.mp hk
  match k, hk with
  | 0, _ => exact tb_77
  | 1, _ => exact tb_79
  | n + 2, h => omega
theorem fp_3 : mm_Fp "ProcessHeaps$Collector" TT3 2 := ⟨⟨tt3, by decide +kernel⟩, by decide +kernel⟩
theorem rs_3_0 : mm_rs 4 0 = true := by decide +kernel
theorem rs_3_1 : mm_rs 4 1 = false := by decide +kernel
theorem uw_4 : ∀ w ∈ u_ws "ProcessHeaps$Limits" TT4 3, w ∈ mm_B := by
  intro w hw
  obtain ⟨k, hk, rfl⟩ := List.mem_map.mp hw
  have hk := List.mem_range.mp hk
  match k, hk with
  | 0, _ => exact tb_94
  | 1, _ => exact tb_96
  | 2, _ => exact tb_98
  | n + 3, h => omega
theorem fp_4 : mm_Fp "ProcessHeaps$Limits" TT4 3 := ⟨⟨tt4, by decide +kernel⟩, by decide +kernel⟩
theorem rs_4_0 : mm_rs 5 0 = true := by decide +kernel
theorem rs_4_1 : mm_rs 5 1 = true := by decide +kernel
theorem rs_4_2 : mm_rs 5 2 = true := by decide +kernel
theorem uw_5 : ∀ w ∈ u_ws "ProcessHeaps$HeapProcess" TT5 8, w ∈ mm_B := by
  intro w hw
  obtain ⟨k, hk, rfl⟩ := List.mem_map.mp hw
  have hk := List.mem_range.mp hk
  match k, hk with
  | 0, _ => exact tb_135
  | 1, _ => exact tb_137
  | 2, _ => exact tb_139
  | 3, _ => exact tb_141
  | 4, _ => exact tb_143
  | 5, _ => exact tb_145
  | 6, _ => exact tb_147
  | 7, _ => exact tb_149
  | n + 8, h => omega
theorem fp_5 : mm_Fp "ProcessHeaps$HeapProcess" TT5 8 := ⟨⟨tt5, by decide +kernel⟩, by decide +kernel⟩
theorem rs_5_0 : mm_rs 6 0 = false := by decide +kernel
theorem rs_5_1 : mm_rs 6 1 = false := by decide +kernel
theorem rs_5_2 : mm_rs 6 2 = false := by decide +kernel
theorem rs_5_3 : mm_rs 6 3 = false := by decide +kernel
theorem rs_5_4 : mm_rs 6 4 = true := by decide +kernel
theorem rs_5_5 : mm_rs 6 5 = false := by decide +kernel
theorem rs_5_6 : mm_rs 6 6 = false := by decide +kernel
theorem rs_5_7 : mm_rs 6 7 = false := by decide +kernel
theorem uw_6 : ∀ w ∈ u_ws "ProcessHeaps$Page" TT6 3, w ∈ mm_B := by
  intro w hw
  obtain ⟨k, hk, rfl⟩ := List.mem_map.mp hw
  have hk := List.mem_range.mp hk
  match k, hk with
  | 0, _ => exact tb_423
  | 1, _ => exact tb_425
  | 2, _ => exact tb_427
  | n + 3, h => omega
theorem fp_6 : mm_Fp "ProcessHeaps$Page" TT6 3 := ⟨⟨tt6, by decide +kernel⟩, by decide +kernel⟩
theorem rs_6_0 : mm_rs 7 0 = false := by decide +kernel
theorem rs_6_1 : mm_rs 7 1 = false := by decide +kernel
theorem rs_6_2 : mm_rs 7 2 = false := by decide +kernel
theorem uw_7 : ∀ w ∈ u_ws "ProcessHeaps$HeapObject" TT7 6, w ∈ mm_B := by
  intro w hw
  obtain ⟨k, hk, rfl⟩ := List.mem_map.mp hw
  have hk := List.mem_range.mp hk
  match k, hk with
  | 0, _ => exact tb_504
  | 1, _ => exact tb_506
  | 2, _ => exact tb_508
  | 3, _ => exact tb_510
  | 4, _ => exact tb_512
  | 5, _ => exact tb_514
  | n + 6, h => omega
theorem fp_7 : mm_Fp "ProcessHeaps$HeapObject" TT7 6 := ⟨⟨tt7, by decide +kernel⟩, by decide +kernel⟩
theorem rs_7_0 : mm_rs 8 0 = true := by decide +kernel
theorem rs_7_1 : mm_rs 8 1 = false := by decide +kernel
theorem rs_7_2 : mm_rs 8 2 = false := by decide +kernel
theorem rs_7_3 : mm_rs 8 3 = true := by decide +kernel
theorem rs_7_4 : mm_rs 8 4 = false := by decide +kernel
theorem rs_7_5 : mm_rs 8 5 = false := by decide +kernel
theorem uw_8 : ∀ w ∈ u_ws "ProcessHeapsModel" TT8 25, w ∈ mm_B := by
  intro w hw
  obtain ⟨k, hk, rfl⟩ := List.mem_map.mp hw
  have hk := List.mem_range.mp hk
  match k, hk with
  | 0, _ => exact tb_655
  | 1, _ => exact tb_657
  | 2, _ => exact tb_659
  | 3, _ => exact tb_661
  | 4, _ => exact tb_663
  | 5, _ => exact tb_665
  | 6, _ => exact tb_667
  | 7, _ => exact tb_669
  | 8, _ => exact tb_671
  | 9, _ => exact tb_673
  | 10, _ => exact tb_675
  | 11, _ => exact tb_677
  | 12, _ => exact tb_679
  | 13, _ => exact tb_681
  | 14, _ => exact tb_683
  | 15, _ => exact tb_685
  | 16, _ => exact tb_687
  | 17, _ => exact tb_689
  | 18, _ => exact tb_691
  | 19, _ => exact tb_693
  | 20, _ => exact tb_695
  | 21, _ => exact tb_697
  | 22, _ => exact tb_699
  | 23, _ => exact tb_701
  | 24, _ => exact tb_703
  | n + 25, h => omega
theorem fp_8 : mm_Fp "ProcessHeapsModel" TT8 25 := ⟨⟨tt8, by decide +kernel⟩, by decide +kernel⟩
theorem rs_8_0 : mm_rs 9 0 = true := by decide +kernel
theorem rs_8_1 : mm_rs 9 1 = true := by decide +kernel
theorem rs_8_2 : mm_rs 9 2 = true := by decide +kernel
theorem rs_8_3 : mm_rs 9 3 = true := by decide +kernel
theorem rs_8_4 : mm_rs 9 4 = false := by decide +kernel
theorem rs_8_5 : mm_rs 9 5 = true := by decide +kernel
theorem rs_8_6 : mm_rs 9 6 = true := by decide +kernel
theorem rs_8_7 : mm_rs 9 7 = true := by decide +kernel
theorem rs_8_8 : mm_rs 9 8 = true := by decide +kernel
theorem rs_8_9 : mm_rs 9 9 = true := by decide +kernel
theorem rs_8_10 : mm_rs 9 10 = true := by decide +kernel
theorem rs_8_11 : mm_rs 9 11 = true := by decide +kernel
theorem rs_8_12 : mm_rs 9 12 = true := by decide +kernel
theorem rs_8_13 : mm_rs 9 13 = true := by decide +kernel
theorem rs_8_14 : mm_rs 9 14 = false := by decide +kernel
theorem rs_8_15 : mm_rs 9 15 = true := by decide +kernel
theorem rs_8_16 : mm_rs 9 16 = true := by decide +kernel
theorem rs_8_17 : mm_rs 9 17 = true := by decide +kernel
theorem rs_8_18 : mm_rs 9 18 = false := by decide +kernel
theorem rs_8_19 : mm_rs 9 19 = true := by decide +kernel
theorem rs_8_20 : mm_rs 9 20 = true := by decide +kernel
theorem rs_8_21 : mm_rs 9 21 = true := by decide +kernel
theorem rs_8_22 : mm_rs 9 22 = true := by decide +kernel
theorem rs_8_23 : mm_rs 9 23 = true := by decide +kernel
theorem rs_8_24 : mm_rs 9 24 = true := by decide +kernel
theorem fn_PH_7 : mm_Fn "ProcessHeaps" 7 1 "ProcessHeaps$Memory" TT1 2 := ⟨by decide, rfl, uw_1, tb_26, tb_27, tb_2, tt1, by decide +kernel, fun k hk => by
  match k, hk with
  | 0, _ => rfl
  | 1, _ => rfl
  | n + 2, h => omega⟩
theorem fc_PH_9 : mm_Fc "ProcessHeaps" 9 yy_Me_init Y_Me_init 0 := ⟨tb_30, tb_2, ⟨by decide, by decide, by decide +kernel⟩, Or.inr ⟨"ProcessHeaps", tn_28⟩⟩
theorem ff_PH_10 : mm_Fg "ProcessHeaps" 10 0 0 "ProcessHeaps" TT0 7 := ⟨by decide, rfl, by decide, uw_0, "ProcessHeaps", Or.inl tb_152, Or.inl rfl⟩
theorem fn_PH_16 : mm_Fn "ProcessHeaps" 16 3 "ProcessHeaps$Collector" TT3 2 := ⟨by decide, rfl, uw_3, tb_67, tb_68, tb_6, tt3, by decide +kernel, fun k hk => by
  match k, hk with
  | 0, _ => rfl
  | 1, _ => rfl
  | n + 2, h => omega⟩
theorem fc_PH_18 : mm_Fc "ProcessHeaps" 18 yy_Co_init Y_Co_init 0 := ⟨tb_71, tb_6, ⟨by decide, by decide, by decide +kernel⟩, Or.inr ⟨"ProcessHeaps", tn_69⟩⟩
theorem ff_PH_19 : mm_Fg "ProcessHeaps" 19 0 1 "ProcessHeaps" TT0 7 := ⟨by decide, rfl, by decide, uw_0, "ProcessHeaps", Or.inl tb_153, Or.inl rfl⟩
theorem fn_PH_23 : mm_Fn "ProcessHeaps" 23 4 "ProcessHeaps$Limits" TT4 3 := ⟨by decide, rfl, uw_4, tb_82, tb_83, tb_7, tt4, by decide +kernel, fun k hk => by
  match k, hk with
  | 0, _ => rfl
  | 1, _ => rfl
  | 2, _ => rfl
  | n + 3, h => omega⟩
theorem fc_PH_25 : mm_Fc "ProcessHeaps" 25 yy_Li_init Y_Li_init 0 := ⟨tb_86, tb_7, ⟨by decide, by decide, by decide +kernel⟩, Or.inr ⟨"ProcessHeaps", tn_84⟩⟩
theorem ff_PH_26 : mm_Fg "ProcessHeaps" 26 0 2 "ProcessHeaps" TT0 7 := ⟨by decide, rfl, by decide, uw_0, "ProcessHeaps", Or.inl tb_154, Or.inl rfl⟩
theorem fn_PH_30 : mm_Fn "ProcessHeaps" 30 5 "ProcessHeaps$HeapProcess" TT5 8 := ⟨by decide, rfl, uw_5, tb_103, tb_112, tb_9, tt5, by decide +kernel, fun k hk => by
  match k, hk with
  | 0, _ => rfl
  | 1, _ => rfl
  | 2, _ => rfl
  | 3, _ => rfl
  | 4, _ => rfl
  | 5, _ => rfl
  | 6, _ => rfl
  | 7, _ => rfl
  | n + 8, h => omega⟩
theorem ff_PH_32 : mm_Fg "ProcessHeaps" 32 0 3 "ProcessHeaps" TT0 7 := ⟨by decide, rfl, by decide, uw_0, "ProcessHeaps", Or.inl tb_155, Or.inl rfl⟩
theorem fn_PH_36 : mm_Fn "ProcessHeaps" 36 7 "ProcessHeaps$HeapObject" TT7 6 := ⟨by decide, rfl, uw_7, tb_105, tb_474, tb_17, tt7, by decide +kernel, fun k hk => by
  match k, hk with
  | 0, _ => rfl
  | 1, _ => rfl
  | 2, _ => rfl
  | 3, _ => rfl
  | 4, _ => rfl
  | 5, _ => rfl
  | n + 6, h => omega⟩
theorem ff_PH_38 : mm_Fg "ProcessHeaps" 38 0 4 "ProcessHeaps" TT0 7 := ⟨by decide, rfl, by decide, uw_0, "ProcessHeaps", Or.inl tb_156, Or.inl rfl⟩
theorem ff_PH_42 : mm_Fg "ProcessHeaps" 42 0 5 "ProcessHeaps" TT0 7 := ⟨by decide, rfl, by decide, uw_0, "ProcessHeaps", Or.inl tb_157, Or.inl rfl⟩
theorem ff_PH_46 : mm_Fg "ProcessHeaps" 46 0 6 "ProcessHeaps" TT0 7 := ⟨by decide, rfl, by decide, uw_0, "ProcessHeaps", Or.inl tb_158, Or.inl rfl⟩
theorem fc_PH_58 : mm_Fc "ProcessHeaps" 58 yy_Pr_init Y_Pr_init 4 := ⟨tb_115, tb_9, ⟨by decide, by decide, by decide +kernel⟩, Or.inl tb_113⟩
theorem fc_PH_61 : mm_Fc "ProcessHeaps" 61 yy_PH_livingProcess Y_PH_livingProcess 1 := ⟨tb_181, tb_1, ⟨by decide, by decide, by decide +kernel⟩, Or.inl tb_178⟩
theorem fc_PH_65 : mm_Fc "ProcessHeaps" 65 yy_PH_canPay Y_PH_canPay 2 := ⟨tb_193, tb_1, ⟨by decide, by decide, by decide +kernel⟩, Or.inl tb_190⟩
theorem ff_PH_69 : mm_Fg "ProcessHeaps" 69 5 5 "ProcessHeaps$HeapProcess" TT5 8 := ⟨by decide, rfl, by decide, uw_5, "ProcessHeaps$HeapProcess", Or.inl tb_131, Or.inl rfl⟩
theorem fc_PH_72 : mm_Fc "ProcessHeaps" 72 yy_Pr_isInKernelMode Y_Pr_isInKernelMode 0 := ⟨tb_246, tb_9, ⟨by decide, by decide, by decide +kernel⟩, Or.inl tb_243⟩
theorem fc_PH_76 : mm_Fc "ProcessHeaps" 76 yy_PH_die Y_PH_die 1 := ⟨tb_250, tb_1, ⟨by decide, by decide, by decide +kernel⟩, Or.inl tb_247⟩
theorem fc_PH_80 : mm_Fc "ProcessHeaps" 80 yy_PH_isRegister Y_PH_isRegister 1 := ⟨tb_392, tb_1, ⟨by decide, by decide, by decide +kernel⟩, Or.inl tb_390⟩
theorem ff_PH_84 : mm_Fg "ProcessHeaps" 84 1 1 "ProcessHeaps$Memory" TT1 2 := ⟨by decide, rfl, by decide, uw_1, "ProcessHeaps$Memory", Or.inl tb_61, Or.inl rfl⟩
theorem fc_PH_88 : mm_Fc "ProcessHeaps" 88 yy_AL_size Y_AL_size 0 := ⟨tb_209, tb_5, ⟨by decide, by decide, by decide +kernel⟩, Or.inl tb_393⟩
theorem fc_PH_94 : mm_Fc "ProcessHeaps" 94 yy_PH_pageForMaking Y_PH_pageForMaking 2 := ⟨tb_397, tb_1, ⟨by decide, by decide, by decide +kernel⟩, Or.inl tb_394⟩
theorem fc_PH_98 : mm_Fc "ProcessHeaps" 98 yy_PH_collectHeap Y_PH_collectHeap 1 := ⟨tb_433, tb_1, ⟨by decide, by decide, by decide +kernel⟩, Or.inl tb_430⟩
theorem ff_PH_102 : mm_Fg "ProcessHeaps" 102 5 4 "ProcessHeaps$HeapProcess" TT5 8 := ⟨by decide, rfl, by decide, uw_5, "ProcessHeaps$HeapProcess", Or.inl tb_129, Or.inl rfl⟩
theorem fc_PH_105 : mm_Fc "ProcessHeaps" 105 yy_Me_putObject Y_Me_putObject 3 := ⟨tb_485, tb_2, ⟨by decide, by decide, by decide +kernel⟩, Or.inl tb_482⟩
theorem fc_PH_109 : mm_Fc "ProcessHeaps" 109 yy_PH_isField Y_PH_isField 1 := ⟨tb_523, tb_1, ⟨by decide, by decide, by decide +kernel⟩, Or.inl tb_521⟩
theorem fc_PH_112 : mm_Fc "ProcessHeaps" 112 yy_PH_mayChange Y_PH_mayChange 2 := ⟨tb_527, tb_1, ⟨by decide, by decide, by decide +kernel⟩, Or.inl tb_524⟩
theorem fc_PH_116 : mm_Fc "ProcessHeaps" 116 yy_PH_mayName Y_PH_mayName 3 := ⟨tb_532, tb_1, ⟨by decide, by decide, by decide +kernel⟩, Or.inl tb_529⟩
theorem fc_PH_120 : mm_Fc "ProcessHeaps" 120 yy_Ob_setField Y_Ob_setField 2 := ⟨tb_536, tb_17, ⟨by decide, by decide, by decide +kernel⟩, Or.inl tb_533⟩
theorem ff_PH_124 : mm_Fg "ProcessHeaps" 124 7 3 "ProcessHeaps$HeapObject" TT7 6 := ⟨by decide, rfl, by decide, uw_7, "ProcessHeaps$HeapObject", Or.inl tb_499, Or.inl rfl⟩
theorem fc_PH_127 : mm_Fc "ProcessHeaps" 127 yy_PH_mayHold Y_PH_mayHold 2 := ⟨tb_544, tb_1, ⟨by decide, by decide, by decide +kernel⟩, Or.inl tb_541⟩
theorem ff_PH_130 : mm_Fg "ProcessHeaps" 130 5 6 "ProcessHeaps$HeapProcess" TT5 8 := ⟨by decide, rfl, by decide, uw_5, "ProcessHeaps$HeapProcess", Or.inl tb_133, Or.inl rfl⟩
theorem fc_PH_133 : mm_Fc "ProcessHeaps" 133 yy_Ob_heapNumber Y_Ob_heapNumber 0 := ⟨tb_262, tb_17, ⟨by decide, by decide, by decide +kernel⟩, Or.inl tb_528⟩
theorem fc_PH_136 : mm_Fc "ProcessHeaps" 136 yy_Me_endSinglePayment Y_Me_endSinglePayment 1 := ⟨tb_560, tb_2, ⟨by decide, by decide, by decide +kernel⟩, Or.inl tb_557⟩
theorem fc_PH_140 : mm_Fc "ProcessHeaps" 140 yy_Pr_addCharge Y_Pr_addCharge 1 := ⟨tb_564, tb_9, ⟨by decide, by decide, by decide +kernel⟩, Or.inl tb_561⟩
theorem fc_PH_143 : mm_Fc "ProcessHeaps" 143 yy_PH_isFrozen Y_PH_isFrozen 1 := ⟨tb_361, tb_1, ⟨by decide, by decide, by decide +kernel⟩, Or.inl tb_358⟩
theorem fc_PH_146 : mm_Fc "ProcessHeaps" 146 yy_Pr_isCharged Y_Pr_isCharged 1 := ⟨tb_228, tb_9, ⟨by decide, by decide, by decide +kernel⟩, Or.inl tb_369⟩
theorem fc_PH_149 : mm_Fc "ProcessHeaps" 149 yy_Me_countPages Y_Me_countPages 1 := ⟨tb_572, tb_2, ⟨by decide, by decide, by decide +kernel⟩, Or.inl tb_569⟩
theorem fc_PH_152 : mm_Fc "ProcessHeaps" 152 yy_PH_isMade Y_PH_isMade 1 := ⟨tb_185, tb_1, ⟨by decide, by decide, by decide +kernel⟩, Or.inl tb_182⟩
theorem fc_PH_155 : mm_Fc "ProcessHeaps" 155 yy_Me_countObjects Y_Me_countObjects 1 := ⟨tb_592, tb_2, ⟨by decide, by decide, by decide +kernel⟩, Or.inl tb_589⟩
theorem fc_PH_158 : mm_Fc "ProcessHeaps" 158 yy_PH_isHeap Y_PH_isHeap 1 := ⟨tb_364, tb_1, ⟨by decide, by decide, by decide +kernel⟩, Or.inl tb_362⟩
theorem fc_PH_161 : mm_Fc "ProcessHeaps" 161 yy_Me_countItems Y_Me_countItems 1 := ⟨tb_600, tb_2, ⟨by decide, by decide, by decide +kernel⟩, Or.inl tb_597⟩
theorem fc_PH_164 : mm_Fc "ProcessHeaps" 164 yy_Li_reckon Y_Li_reckon 2 := ⟨tb_197, tb_7, ⟨by decide, by decide, by decide +kernel⟩, Or.inl tb_194⟩
theorem ff_PH_168 : mm_Fg "ProcessHeaps" 168 4 2 "ProcessHeaps$Limits" TT4 3 := ⟨by decide, rfl, by decide, uw_4, "ProcessHeaps$Limits", Or.inl tb_93, Or.inl rfl⟩
theorem ff_PH_172 : mm_Fg "ProcessHeaps" 172 4 0 "ProcessHeaps$Limits" TT4 3 := ⟨by decide, rfl, by decide, uw_4, "ProcessHeaps$Limits", Or.inl tb_89, Or.inl rfl⟩
theorem ff_PH_176 : mm_Fg "ProcessHeaps" 176 4 1 "ProcessHeaps$Limits" TT4 3 := ⟨by decide, rfl, by decide, uw_4, "ProcessHeaps$Limits", Or.inl tb_91, Or.inl rfl⟩
theorem ff_PH_179 : mm_Fg "ProcessHeaps" 179 7 2 "ProcessHeaps$HeapObject" TT7 6 := ⟨by decide, rfl, by decide, uw_7, "ProcessHeaps$HeapObject", Or.inl tb_496, Or.inl rfl⟩
theorem fc_PH_182 : mm_Fc "ProcessHeaps" 182 yy_Pr_isLiving Y_Pr_isLiving 0 := ⟨tb_189, tb_9, ⟨by decide, by decide, by decide +kernel⟩, Or.inl tb_186⟩
theorem fc_PH_185 : mm_Fc "ProcessHeaps" 185 yy_Pr_heapForMaking Y_Pr_heapForMaking 0 := ⟨tb_401, tb_9, ⟨by decide, by decide, by decide +kernel⟩, Or.inl tb_398⟩
theorem fc_PH_188 : mm_Fc "ProcessHeaps" 188 yy_Me_findPage Y_Me_findPage 2 := ⟨tb_406, tb_2, ⟨by decide, by decide, by decide +kernel⟩, Or.inl tb_403⟩
theorem ff_PH_192 : mm_Fg "ProcessHeaps" 192 5 0 "ProcessHeaps$HeapProcess" TT5 8 := ⟨by decide, rfl, by decide, uw_5, "ProcessHeaps$HeapProcess", Or.inl tb_120, Or.inl rfl⟩
theorem fc_PH_195 : mm_Fc "ProcessHeaps" 195 yy_Me_addPage Y_Me_addPage 2 := ⟨tb_410, tb_2, ⟨by decide, by decide, by decide +kernel⟩, Or.inl tb_407⟩
theorem fc_PH_198 : mm_Fc "ProcessHeaps" 198 yy_Co_run Y_Co_run 3 := ⟨tb_437, tb_6, ⟨by decide, by decide, by decide +kernel⟩, Or.inl tb_434⟩
theorem fc_PH_202 : mm_Fc "ProcessHeaps" 202 yy_PH_dropChargesOfDead Y_PH_dropChargesOfDead 0 := ⟨tb_481, tb_1, ⟨by decide, by decide, by decide +kernel⟩, Or.inl tb_478⟩
theorem fc_PH_205 : mm_Fc "ProcessHeaps" 205 yy_PH_dropUnusedCharges Y_PH_dropUnusedCharges 1 := ⟨tb_254, tb_1, ⟨by decide, by decide, by decide +kernel⟩, Or.inl tb_251⟩
theorem fc_PH_208 : mm_Fc "ProcessHeaps" 208 yy_PH_dropGoneHeaps Y_PH_dropGoneHeaps 0 := ⟨tb_357, tb_1, ⟨by decide, by decide, by decide +kernel⟩, Or.inl tb_354⟩
theorem fc_PH_211 : mm_Fc "ProcessHeaps" 211 yy_Me_mergeIntoKernel Y_Me_mergeIntoKernel 1 := ⟨tb_280, tb_2, ⟨by decide, by decide, by decide +kernel⟩, Or.inl tb_277⟩
theorem fc_PH_214 : mm_Fc "ProcessHeaps" 214 yy_Me_handItemsToKernel Y_Me_handItemsToKernel 1 := ⟨tb_345, tb_2, ⟨by decide, by decide, by decide +kernel⟩, Or.inl tb_342⟩
theorem fc_PH_217 : mm_Fc "ProcessHeaps" 217 yy_Pr_holdsObjectOf Y_Pr_holdsObjectOf 1 := ⟨tb_258, tb_9, ⟨by decide, by decide, by decide +kernel⟩, Or.inl tb_255⟩
theorem fc_PH_220 : mm_Fc "ProcessHeaps" 220 yy_Me_hasItemInto Y_Me_hasItemInto 2 := ⟨tb_266, tb_2, ⟨by decide, by decide, by decide +kernel⟩, Or.inl tb_263⟩
theorem fc_PH_223 : mm_Fc "ProcessHeaps" 223 yy_Pr_dropCharge Y_Pr_dropCharge 1 := ⟨tb_276, tb_9, ⟨by decide, by decide, by decide +kernel⟩, Or.inl tb_273⟩
theorem fc_PH_226 : mm_Fc "ProcessHeaps" 226 yy_PH_endPaymentOfDead Y_PH_endPaymentOfDead 1 := ⟨tb_381, tb_1, ⟨by decide, by decide, by decide +kernel⟩, Or.inl tb_378⟩
theorem fc_PH_229 : mm_Fc "ProcessHeaps" 229 yy_PH_isSharedByLiving Y_PH_isSharedByLiving 1 := ⟨tb_368, tb_1, ⟨by decide, by decide, by decide +kernel⟩, Or.inl tb_365⟩
theorem fc_PH_232 : mm_Fc "ProcessHeaps" 232 yy_Me_freeUnreached Y_Me_freeUnreached 1 := ⟨tb_373, tb_2, ⟨by decide, by decide, by decide +kernel⟩, Or.inl tb_370⟩
theorem fn_Co_9 : mm_Fn "ProcessHeaps$Collector" 9 7 "ProcessHeaps$HeapObject" TT7 6 := ⟨by decide, rfl, uw_7, tb_73, tb_474, tb_17, tt7, by decide +kernel, fun k hk => by
  match k, hk with
  | 0, _ => rfl
  | 1, _ => rfl
  | 2, _ => rfl
  | 3, _ => rfl
  | 4, _ => rfl
  | 5, _ => rfl
  | n + 6, h => omega⟩
theorem ff_Co_11 : mm_Fg "ProcessHeaps$Collector" 11 3 0 "ProcessHeaps$Collector" TT3 2 := ⟨by decide, rfl, by decide, uw_3, "ProcessHeaps$Collector", Or.inl tb_75, Or.inl rfl⟩
theorem ff_Co_17 : mm_Fg "ProcessHeaps$Collector" 17 3 1 "ProcessHeaps$Collector" TT3 2 := ⟨by decide, rfl, by decide, uw_3, "ProcessHeaps$Collector", Or.inl tb_76, Or.inl rfl⟩
theorem fc_Co_21 : mm_Fc "ProcessHeaps$Collector" 21 yy_Co_reachHeld Y_Co_reachHeld 2 := ⟨tb_441, tb_6, ⟨by decide, by decide, by decide +kernel⟩, Or.inl tb_438⟩
theorem fc_Co_25 : mm_Fc "ProcessHeaps$Collector" 25 yy_Co_reachNamedFromOutside Y_Co_reachNamedFromOutside 2 := ⟨tb_450, tb_6, ⟨by decide, by decide, by decide +kernel⟩, Or.inl tb_447⟩
theorem fc_Co_29 : mm_Fc "ProcessHeaps$Collector" 29 yy_Co_followFields Y_Co_followFields 1 := ⟨tb_460, tb_6, ⟨by decide, by decide, by decide +kernel⟩, Or.inl tb_457⟩
theorem fc_Co_33 : mm_Fc "ProcessHeaps$Collector" 33 yy_Me_freeUnreached Y_Me_freeUnreached 1 := ⟨tb_373, tb_2, ⟨by decide, by decide, by decide +kernel⟩, Or.inl tb_461⟩
theorem fc_Co_39 : mm_Fc "ProcessHeaps$Collector" 39 yy_Co_loseItems Y_Co_loseItems 2 := ⟨tb_465, tb_6, ⟨by decide, by decide, by decide +kernel⟩, Or.inl tb_462⟩
theorem ff_Co_42 : mm_Fg "ProcessHeaps$Collector" 42 5 4 "ProcessHeaps$HeapProcess" TT5 8 := ⟨by decide, rfl, by decide, uw_5, "ProcessHeaps$HeapProcess", Or.inl tb_128, Or.inl rfl⟩
theorem fc_Co_47 : mm_Fc "ProcessHeaps$Collector" 47 yy_Co_reachObject Y_Co_reachObject 2 := ⟨tb_445, tb_6, ⟨by decide, by decide, by decide +kernel⟩, Or.inl tb_442⟩
theorem ff_Co_51 : mm_Fg "ProcessHeaps$Collector" 51 1 1 "ProcessHeaps$Memory" TT1 2 := ⟨by decide, rfl, by decide, uw_1, "ProcessHeaps$Memory", Or.inl tb_60, Or.inl rfl⟩
theorem fc_Co_55 : mm_Fc "ProcessHeaps$Collector" 55 yy_AL_size Y_AL_size 0 := ⟨tb_209, tb_5, ⟨by decide, by decide, by decide +kernel⟩, Or.inl tb_451⟩
theorem fc_Co_61 : mm_Fc "ProcessHeaps$Collector" 61 yy_AL_get Y_AL_get 1 := ⟨tb_213, tb_5, ⟨by decide, by decide, by decide +kernel⟩, Or.inl tb_452⟩
theorem fc_Co_65 : mm_Fc "ProcessHeaps$Collector" 65 yy_Ob_hasAnyItem Y_Ob_hasAnyItem 0 := ⟨tb_456, tb_17, ⟨by decide, by decide, by decide +kernel⟩, Or.inl tb_453⟩
theorem ff_Co_69 : mm_Fg "ProcessHeaps$Collector" 69 7 3 "ProcessHeaps$HeapObject" TT7 6 := ⟨by decide, rfl, by decide, uw_7, "ProcessHeaps$HeapObject", Or.inl tb_498, Or.inl rfl⟩
theorem fc_Co_72 : mm_Fc "ProcessHeaps$Collector" 72 yy_Ob_heapNumber Y_Ob_heapNumber 0 := ⟨tb_262, tb_17, ⟨by decide, by decide, by decide +kernel⟩, Or.inl tb_446⟩
theorem ff_Co_75 : mm_Fg "ProcessHeaps$Collector" 75 7 4 "ProcessHeaps$HeapObject" TT7 6 := ⟨by decide, rfl, by decide, uw_7, "ProcessHeaps$HeapObject", Or.inl tb_501, Or.inl rfl⟩
theorem fc_Co_78 : mm_Fc "ProcessHeaps$Collector" 78 yy_Ob_dropItem Y_Ob_dropItem 1 := ⟨tb_349, tb_17, ⟨by decide, by decide, by decide +kernel⟩, Or.inl tb_466⟩
theorem fc_Co_81 : mm_Fc "ProcessHeaps$Collector" 81 yy_Ob_addItemsForFields Y_Ob_addItemsForFields 0 := ⟨tb_470, tb_17, ⟨by decide, by decide, by decide +kernel⟩, Or.inl tb_467⟩
theorem fn_Ob_9 : mm_Fn "ProcessHeaps$HeapObject" 9 7 "ProcessHeaps$HeapObject" TT7 6 := ⟨by decide, rfl, uw_7, tb_490, tb_474, tb_17, tt7, by decide +kernel, fun k hk => by
  match k, hk with
  | 0, _ => rfl
  | 1, _ => rfl
  | 2, _ => rfl
  | 3, _ => rfl
  | 4, _ => rfl
  | 5, _ => rfl
  | n + 6, h => omega⟩
theorem ff_Ob_11 : mm_Fg "ProcessHeaps$HeapObject" 11 7 3 "ProcessHeaps$HeapObject" TT7 6 := ⟨by decide, rfl, by decide, uw_7, "ProcessHeaps$HeapObject", Or.inl tb_497, Or.inl rfl⟩
theorem ff_Ob_15 : mm_Fg "ProcessHeaps$HeapObject" 15 7 4 "ProcessHeaps$HeapObject" TT7 6 := ⟨by decide, rfl, by decide, uw_7, "ProcessHeaps$HeapObject", Or.inl tb_500, Or.inl rfl⟩
theorem ff_Ob_19 : mm_Fg "ProcessHeaps$HeapObject" 19 7 5 "ProcessHeaps$HeapObject" TT7 6 := ⟨by decide, rfl, by decide, uw_7, "ProcessHeaps$HeapObject", Or.inl tb_503, Or.inl rfl⟩
theorem ff_Ob_23 : mm_Fg "ProcessHeaps$HeapObject" 23 7 0 "ProcessHeaps$HeapObject" TT7 6 := ⟨by decide, rfl, by decide, uw_7, "ProcessHeaps$HeapObject", Or.inl tb_491, Or.inl rfl⟩
theorem ff_Ob_27 : mm_Fg "ProcessHeaps$HeapObject" 27 7 1 "ProcessHeaps$HeapObject" TT7 6 := ⟨by decide, rfl, by decide, uw_7, "ProcessHeaps$HeapObject", Or.inl tb_493, Or.inl rfl⟩
theorem ff_Ob_30 : mm_Fg "ProcessHeaps$HeapObject" 30 7 2 "ProcessHeaps$HeapObject" TT7 6 := ⟨by decide, rfl, by decide, uw_7, "ProcessHeaps$HeapObject", Or.inl tb_495, Or.inl rfl⟩
theorem ff_Ob_33 : mm_Fg "ProcessHeaps$HeapObject" 33 6 0 "ProcessHeaps$Page" TT6 3 := ⟨by decide, rfl, by decide, uw_6, "ProcessHeaps$Page", Or.inl tb_417, Or.inl rfl⟩
theorem fc_Ob_38 : mm_Fc "ProcessHeaps$HeapObject" 38 yy_Ob_addItemFor Y_Ob_addItemFor 1 := ⟨tb_475, tb_17, ⟨by decide, by decide, by decide +kernel⟩, Or.inl tb_471⟩
theorem fc_Ob_42 : mm_Fc "ProcessHeaps$HeapObject" 42 yy_Ob_heapNumber Y_Ob_heapNumber 0 := ⟨tb_262, tb_17, ⟨by decide, by decide, by decide +kernel⟩, Or.inl tb_476⟩
theorem fc_Ob_46 : mm_Fc "ProcessHeaps$HeapObject" 46 yy_Ob_addItem Y_Ob_addItem 1 := ⟨tb_353, tb_17, ⟨by decide, by decide, by decide +kernel⟩, Or.inl tb_477⟩
theorem fn_Pr_9 : mm_Fn "ProcessHeaps$HeapProcess" 9 7 "ProcessHeaps$HeapObject" TT7 6 := ⟨by decide, rfl, uw_7, tb_117, tb_474, tb_17, tt7, by decide +kernel, fun k hk => by
  match k, hk with
  | 0, _ => rfl
  | 1, _ => rfl
  | 2, _ => rfl
  | 3, _ => rfl
  | 4, _ => rfl
  | 5, _ => rfl
  | n + 6, h => omega⟩
theorem ff_Pr_11 : mm_Fg "ProcessHeaps$HeapProcess" 11 5 4 "ProcessHeaps$HeapProcess" TT5 8 := ⟨by decide, rfl, by decide, uw_5, "ProcessHeaps$HeapProcess", Or.inl tb_127, Or.inl rfl⟩
theorem ff_Pr_17 : mm_Fg "ProcessHeaps$HeapProcess" 17 5 5 "ProcessHeaps$HeapProcess" TT5 8 := ⟨by decide, rfl, by decide, uw_5, "ProcessHeaps$HeapProcess", Or.inl tb_130, Or.inl rfl⟩
theorem ff_Pr_21 : mm_Fg "ProcessHeaps$HeapProcess" 21 5 6 "ProcessHeaps$HeapProcess" TT5 8 := ⟨by decide, rfl, by decide, uw_5, "ProcessHeaps$HeapProcess", Or.inl tb_132, Or.inl rfl⟩
theorem ff_Pr_24 : mm_Fg "ProcessHeaps$HeapProcess" 24 5 7 "ProcessHeaps$HeapProcess" TT5 8 := ⟨by decide, rfl, by decide, uw_5, "ProcessHeaps$HeapProcess", Or.inl tb_134, Or.inl rfl⟩
theorem ff_Pr_27 : mm_Fg "ProcessHeaps$HeapProcess" 27 5 0 "ProcessHeaps$HeapProcess" TT5 8 := ⟨by decide, rfl, by decide, uw_5, "ProcessHeaps$HeapProcess", Or.inl tb_118, Or.inl rfl⟩
theorem ff_Pr_30 : mm_Fg "ProcessHeaps$HeapProcess" 30 5 1 "ProcessHeaps$HeapProcess" TT5 8 := ⟨by decide, rfl, by decide, uw_5, "ProcessHeaps$HeapProcess", Or.inl tb_121, Or.inl rfl⟩
theorem ff_Pr_33 : mm_Fg "ProcessHeaps$HeapProcess" 33 5 2 "ProcessHeaps$HeapProcess" TT5 8 := ⟨by decide, rfl, by decide, uw_5, "ProcessHeaps$HeapProcess", Or.inl tb_123, Or.inl rfl⟩
theorem ff_Pr_36 : mm_Fg "ProcessHeaps$HeapProcess" 36 5 3 "ProcessHeaps$HeapProcess" TT5 8 := ⟨by decide, rfl, by decide, uw_5, "ProcessHeaps$HeapProcess", Or.inl tb_125, Or.inl rfl⟩
theorem fc_Pr_40 : mm_Fc "ProcessHeaps$HeapProcess" 40 yy_Pr_isInKernelMode Y_Pr_isInKernelMode 0 := ⟨tb_246, tb_9, ⟨by decide, by decide, by decide +kernel⟩, Or.inl tb_402⟩
theorem fc_Pr_44 : mm_Fc "ProcessHeaps$HeapProcess" 44 yy_Ob_heapNumber Y_Ob_heapNumber 0 := ⟨tb_262, tb_17, ⟨by decide, by decide, by decide +kernel⟩, Or.inl tb_259⟩
theorem ff_Li_9 : mm_Fg "ProcessHeaps$Limits" 9 4 0 "ProcessHeaps$Limits" TT4 3 := ⟨by decide, rfl, by decide, uw_4, "ProcessHeaps$Limits", Or.inl tb_88, Or.inl rfl⟩
theorem ff_Li_15 : mm_Fg "ProcessHeaps$Limits" 15 4 1 "ProcessHeaps$Limits" TT4 3 := ⟨by decide, rfl, by decide, uw_4, "ProcessHeaps$Limits", Or.inl tb_90, Or.inl rfl⟩
theorem ff_Li_18 : mm_Fg "ProcessHeaps$Limits" 18 4 2 "ProcessHeaps$Limits" TT4 3 := ⟨by decide, rfl, by decide, uw_4, "ProcessHeaps$Limits", Or.inl tb_92, Or.inl rfl⟩
theorem fc_Li_22 : mm_Fc "ProcessHeaps$Limits" 22 yy_Li_reckonPayments Y_Li_reckonPayments 2 := ⟨tb_201, tb_7, ⟨by decide, by decide, by decide +kernel⟩, Or.inl tb_198⟩
theorem fc_Li_26 : mm_Fc "ProcessHeaps$Limits" 26 yy_Li_addChildren Y_Li_addChildren 1 := ⟨tb_233, tb_7, ⟨by decide, by decide, by decide +kernel⟩, Or.inl tb_230⟩
theorem fc_Li_30 : mm_Fc "ProcessHeaps$Limits" 30 yy_Li_reckonSpare Y_Li_reckonSpare 1 := ⟨tb_237, tb_7, ⟨by decide, by decide, by decide +kernel⟩, Or.inl tb_234⟩
theorem fc_Li_33 : mm_Fc "ProcessHeaps$Limits" 33 yy_Me_countPaidPages Y_Me_countPaidPages 1 := ⟨tb_205, tb_2, ⟨by decide, by decide, by decide +kernel⟩, Or.inl tb_202⟩
theorem fc_Li_39 : mm_Fc "ProcessHeaps$Limits" 39 yy_Pr_isLiving Y_Pr_isLiving 0 := ⟨tb_189, tb_9, ⟨by decide, by decide, by decide +kernel⟩, Or.inl tb_229⟩
theorem ff_Li_45 : mm_Fg "ProcessHeaps$Limits" 45 5 1 "ProcessHeaps$HeapProcess" TT5 8 := ⟨by decide, rfl, by decide, uw_5, "ProcessHeaps$HeapProcess", Or.inl tb_122, Or.inl rfl⟩
theorem ff_Li_49 : mm_Fg "ProcessHeaps$Limits" 49 5 3 "ProcessHeaps$HeapProcess" TT5 8 := ⟨by decide, rfl, by decide, uw_5, "ProcessHeaps$HeapProcess", Or.inl tb_126, Or.inl rfl⟩
theorem ff_Li_53 : mm_Fg "ProcessHeaps$Limits" 53 5 2 "ProcessHeaps$HeapProcess" TT5 8 := ⟨by decide, rfl, by decide, uw_5, "ProcessHeaps$HeapProcess", Or.inl tb_124, Or.inl rfl⟩
theorem fn_Me_9 : mm_Fn "ProcessHeaps$Memory" 9 2 "java/util/ArrayList" TT2 3 := ⟨by decide, rfl, uw_2, tb_32, tb_33, tb_5, tt2, by decide +kernel, fun k hk => by
  match k, hk with
  | 0, _ => rfl
  | 1, _ => rfl
  | 2, _ => rfl
  | n + 3, h => omega⟩
theorem fc_Me_11 : mm_Fc "ProcessHeaps$Memory" 11 yy_AL_init Y_AL_init 0 := ⟨tb_36, tb_5, ⟨by decide, by decide, by decide +kernel⟩, Or.inl tb_34⟩
theorem ff_Me_12 : mm_Fg "ProcessHeaps$Memory" 12 1 0 "ProcessHeaps$Memory" TT1 2 := ⟨by decide, rfl, by decide, uw_1, "ProcessHeaps$Memory", Or.inl tb_58, Or.inl rfl⟩
theorem ff_Me_18 : mm_Fg "ProcessHeaps$Memory" 18 1 1 "ProcessHeaps$Memory" TT1 2 := ⟨by decide, rfl, by decide, uw_1, "ProcessHeaps$Memory", Or.inl tb_59, Or.inl rfl⟩
theorem fc_Me_21 : mm_Fc "ProcessHeaps$Memory" 21 yy_AL_size Y_AL_size 0 := ⟨tb_209, tb_5, ⟨by decide, by decide, by decide +kernel⟩, Or.inl tb_206⟩
theorem fc_Me_25 : mm_Fc "ProcessHeaps$Memory" 25 yy_AL_get Y_AL_get 1 := ⟨tb_213, tb_5, ⟨by decide, by decide, by decide +kernel⟩, Or.inl tb_210⟩
theorem fn_Me_29 : mm_Fn "ProcessHeaps$Memory" 29 6 "ProcessHeaps$Page" TT6 3 := ⟨by decide, rfl, uw_6, tb_224, tb_411, tb_16, tt6, by decide +kernel, fun k hk => by
  match k, hk with
  | 0, _ => rfl
  | 1, _ => rfl
  | 2, _ => rfl
  | n + 3, h => omega⟩
theorem ff_Me_31 : mm_Fg "ProcessHeaps$Memory" 31 6 0 "ProcessHeaps$Page" TT6 3 := ⟨by decide, rfl, by decide, uw_6, "ProcessHeaps$Page", Or.inl tb_418, Or.inl rfl⟩
theorem ff_Me_35 : mm_Fg "ProcessHeaps$Memory" 35 6 1 "ProcessHeaps$Page" TT6 3 := ⟨by decide, rfl, by decide, uw_6, "ProcessHeaps$Page", Or.inl tb_420, Or.inl rfl⟩
theorem ff_Me_38 : mm_Fg "ProcessHeaps$Memory" 38 5 0 "ProcessHeaps$HeapProcess" TT5 8 := ⟨by decide, rfl, by decide, uw_5, "ProcessHeaps$HeapProcess", Or.inl tb_119, Or.inl rfl⟩
theorem fc_Me_43 : mm_Fc "ProcessHeaps$Memory" 43 yy_Pr_isCharged Y_Pr_isCharged 1 := ⟨tb_228, tb_9, ⟨by decide, by decide, by decide +kernel⟩, Or.inl tb_225⟩
theorem fn_Me_47 : mm_Fn "ProcessHeaps$Memory" 47 7 "ProcessHeaps$HeapObject" TT7 6 := ⟨by decide, rfl, uw_7, tb_267, tb_474, tb_17, tt7, by decide +kernel, fun k hk => by
  match k, hk with
  | 0, _ => rfl
  | 1, _ => rfl
  | 2, _ => rfl
  | 3, _ => rfl
  | 4, _ => rfl
  | 5, _ => rfl
  | n + 6, h => omega⟩
theorem fc_Me_49 : mm_Fc "ProcessHeaps$Memory" 49 yy_Ob_heapNumber Y_Ob_heapNumber 0 := ⟨tb_262, tb_17, ⟨by decide, by decide, by decide +kernel⟩, Or.inl tb_268⟩
theorem fc_Me_52 : mm_Fc "ProcessHeaps$Memory" 52 yy_Ob_hasItem Y_Ob_hasItem 1 := ⟨tb_272, tb_17, ⟨by decide, by decide, by decide +kernel⟩, Or.inl tb_269⟩
theorem ff_Me_55 : mm_Fg "ProcessHeaps$Memory" 55 6 2 "ProcessHeaps$Page" TT6 3 := ⟨by decide, rfl, by decide, uw_6, "ProcessHeaps$Page", Or.inl tb_422, Or.inl rfl⟩
theorem fc_Me_58 : mm_Fc "ProcessHeaps$Memory" 58 yy_Pa_init Y_Pa_init 2 := ⟨tb_414, tb_16, ⟨by decide, by decide, by decide +kernel⟩, Or.inl tb_412⟩
theorem fc_Me_61 : mm_Fc "ProcessHeaps$Memory" 61 yy_AL_add Y_AL_add 1 := ⟨tb_295, tb_5, ⟨by decide, by decide, by decide +kernel⟩, Or.inl tb_292⟩
theorem fc_Me_65 : mm_Fc "ProcessHeaps$Memory" 65 yy_Ob_init Y_Ob_init 3 := ⟨tb_488, tb_17, ⟨by decide, by decide, by decide +kernel⟩, Or.inl tb_486⟩
theorem ff_Me_68 : mm_Fg "ProcessHeaps$Memory" 68 7 4 "ProcessHeaps$HeapObject" TT7 6 := ⟨by decide, rfl, by decide, uw_7, "ProcessHeaps$HeapObject", Or.inl tb_502, Or.inl rfl⟩
theorem ff_Me_72 : mm_Fg "ProcessHeaps$Memory" 72 7 0 "ProcessHeaps$HeapObject" TT7 6 := ⟨by decide, rfl, by decide, uw_7, "ProcessHeaps$HeapObject", Or.inl tb_492, Or.inl rfl⟩
theorem ff_Me_76 : mm_Fg "ProcessHeaps$Memory" 76 7 1 "ProcessHeaps$HeapObject" TT7 6 := ⟨by decide, rfl, by decide, uw_7, "ProcessHeaps$HeapObject", Or.inl tb_494, Or.inl rfl⟩
theorem fc_Me_78 : mm_Fc "ProcessHeaps$Memory" 78 yy_AL_remove Y_AL_remove 1 := ⟨tb_284, tb_5, ⟨by decide, by decide, by decide +kernel⟩, Or.inl tb_281⟩
theorem fc_Me_81 : mm_Fc "ProcessHeaps$Memory" 81 yy_Me_giveBackEmptyPages Y_Me_giveBackEmptyPages 0 := ⟨tb_377, tb_2, ⟨by decide, by decide, by decide +kernel⟩, Or.inl tb_374⟩
theorem fc_Me_84 : mm_Fc "ProcessHeaps$Memory" 84 yy_Ob_dropItem Y_Ob_dropItem 1 := ⟨tb_349, tb_17, ⟨by decide, by decide, by decide +kernel⟩, Or.inl tb_346⟩
theorem fc_Me_88 : mm_Fc "ProcessHeaps$Memory" 88 yy_Ob_addItem Y_Ob_addItem 1 := ⟨tb_353, tb_17, ⟨by decide, by decide, by decide +kernel⟩, Or.inl tb_350⟩
theorem ff_Pa_9 : mm_Fg "ProcessHeaps$Page" 9 6 2 "ProcessHeaps$Page" TT6 3 := ⟨by decide, rfl, by decide, uw_6, "ProcessHeaps$Page", Or.inl tb_421, Or.inl rfl⟩
theorem ff_Pa_15 : mm_Fg "ProcessHeaps$Page" 15 6 0 "ProcessHeaps$Page" TT6 3 := ⟨by decide, rfl, by decide, uw_6, "ProcessHeaps$Page", Or.inl tb_416, Or.inl rfl⟩
theorem ff_Pa_18 : mm_Fg "ProcessHeaps$Page" 18 6 1 "ProcessHeaps$Page" TT6 3 := ⟨by decide, rfl, by decide, uw_6, "ProcessHeaps$Page", Or.inl tb_419, Or.inl rfl⟩
theorem fn_La_7 : mm_Fn "ProcessHeapsLaw" 7 0 "ProcessHeaps" TT0 7 := ⟨by decide, rfl, uw_0, tb_18, tb_19, tb_1, tt0, by decide +kernel, fun k hk => by
  match k, hk with
  | 0, _ => rfl
  | 1, _ => rfl
  | 2, _ => rfl
  | 3, _ => rfl
  | 4, _ => rfl
  | 5, _ => rfl
  | 6, _ => rfl
  | n + 7, h => omega⟩
theorem fc_La_9 : mm_Fc "ProcessHeapsLaw" 9 yy_La_cell Y_La_cell 2 := ⟨tb_623, tb_0, ⟨by decide, by decide, by decide +kernel⟩, Or.inl tb_621⟩
theorem fc_La_15 : mm_Fc "ProcessHeapsLaw" 15 yy_PH_init Y_PH_init 1 := ⟨tb_22, tb_1, ⟨by decide, by decide, by decide +kernel⟩, Or.inl tb_20⟩
theorem fn_La_18 : mm_Fn "ProcessHeapsLaw" 18 8 "ProcessHeapsModel" TT8 25 := ⟨by decide, rfl, uw_8, tb_624, tb_625, tb_10, tt8, by decide +kernel, fun k hk => by
  match k, hk with
  | 0, _ => rfl
  | 1, _ => rfl
  | 2, _ => rfl
  | 3, _ => rfl
  | 4, _ => rfl
  | 5, _ => rfl
  | 6, _ => rfl
  | 7, _ => rfl
  | 8, _ => rfl
  | 9, _ => rfl
  | 10, _ => rfl
  | 11, _ => rfl
  | 12, _ => rfl
  | 13, _ => rfl
  | 14, _ => rfl
  | 15, _ => rfl
  | 16, _ => rfl
  | 17, _ => rfl
  | 18, _ => rfl
  | 19, _ => rfl
  | 20, _ => rfl
  | 21, _ => rfl
  | 22, _ => rfl
  | 23, _ => rfl
  | 24, _ => rfl
  | n + 25, h => omega⟩
theorem fc_La_20 : mm_Fc "ProcessHeapsLaw" 20 yy_Mo_init Y_Mo_init 1 := ⟨tb_628, tb_10, ⟨by decide, by decide, by decide +kernel⟩, Or.inl tb_626⟩
theorem fc_La_21 : mm_Fc "ProcessHeapsLaw" 21 yy_PH_spawn Y_PH_spawn 3 := ⟨tb_177, tb_1, ⟨by decide, by decide, by decide +kernel⟩, Or.inl tb_174⟩
theorem fc_La_25 : mm_Fc "ProcessHeapsLaw" 25 yy_Mo_spawn Y_Mo_spawn 3 := ⟨tb_709, tb_10, ⟨by decide, by decide, by decide +kernel⟩, Or.inl tb_706⟩
theorem fc_La_26 : mm_Fc "ProcessHeapsLaw" 26 yy_PH_kill Y_PH_kill 1 := ⟨tb_242, tb_1, ⟨by decide, by decide, by decide +kernel⟩, Or.inl tb_239⟩
theorem fc_La_30 : mm_Fc "ProcessHeapsLaw" 30 yy_Mo_kill Y_Mo_kill 1 := ⟨tb_733, tb_10, ⟨by decide, by decide, by decide +kernel⟩, Or.inl tb_730⟩
theorem fc_La_31 : mm_Fc "ProcessHeapsLaw" 31 yy_PH_mode Y_PH_mode 2 := ⟨tb_385, tb_1, ⟨by decide, by decide, by decide +kernel⟩, Or.inl tb_382⟩
theorem fc_La_35 : mm_Fc "ProcessHeapsLaw" 35 yy_Mo_mode Y_Mo_mode 2 := ⟨tb_757, tb_10, ⟨by decide, by decide, by decide +kernel⟩, Or.inl tb_754⟩
theorem fc_La_36 : mm_Fc "ProcessHeapsLaw" 36 yy_PH_make Y_PH_make 4 := ⟨tb_389, tb_1, ⟨by decide, by decide, by decide +kernel⟩, Or.inl tb_386⟩
theorem fc_La_40 : mm_Fc "ProcessHeapsLaw" 40 yy_Mo_make Y_Mo_make 4 := ⟨tb_761, tb_10, ⟨by decide, by decide, by decide +kernel⟩, Or.inl tb_758⟩
theorem fc_La_41 : mm_Fc "ProcessHeapsLaw" 41 yy_PH_store Y_PH_store 4 := ⟨tb_520, tb_1, ⟨by decide, by decide, by decide +kernel⟩, Or.inl tb_517⟩
theorem fc_La_44 : mm_Fc "ProcessHeapsLaw" 44 yy_Mo_store Y_Mo_store 4 := ⟨tb_796, tb_10, ⟨by decide, by decide, by decide +kernel⟩, Or.inl tb_793⟩
theorem fc_La_45 : mm_Fc "ProcessHeapsLaw" 45 yy_PH_load Y_PH_load 4 := ⟨tb_540, tb_1, ⟨by decide, by decide, by decide +kernel⟩, Or.inl tb_537⟩
theorem fc_La_48 : mm_Fc "ProcessHeapsLaw" 48 yy_Mo_load Y_Mo_load 4 := ⟨tb_800, tb_10, ⟨by decide, by decide, by decide +kernel⟩, Or.inl tb_797⟩
theorem fc_La_49 : mm_Fc "ProcessHeapsLaw" 49 yy_PH_move Y_PH_move 3 := ⟨tb_548, tb_1, ⟨by decide, by decide, by decide +kernel⟩, Or.inl tb_545⟩
theorem fc_La_53 : mm_Fc "ProcessHeapsLaw" 53 yy_Mo_move Y_Mo_move 3 := ⟨tb_804, tb_10, ⟨by decide, by decide, by decide +kernel⟩, Or.inl tb_801⟩
theorem fc_La_54 : mm_Fc "ProcessHeapsLaw" 54 yy_PH_begin Y_PH_begin 1 := ⟨tb_552, tb_1, ⟨by decide, by decide, by decide +kernel⟩, Or.inl tb_549⟩
theorem fc_La_58 : mm_Fc "ProcessHeapsLaw" 58 yy_Mo_begin Y_Mo_begin 1 := ⟨tb_808, tb_10, ⟨by decide, by decide, by decide +kernel⟩, Or.inl tb_805⟩
theorem fc_La_59 : mm_Fc "ProcessHeapsLaw" 59 yy_PH_freeze Y_PH_freeze 2 := ⟨tb_556, tb_1, ⟨by decide, by decide, by decide +kernel⟩, Or.inl tb_553⟩
theorem fc_La_63 : mm_Fc "ProcessHeapsLaw" 63 yy_Mo_freeze Y_Mo_freeze 2 := ⟨tb_812, tb_10, ⟨by decide, by decide, by decide +kernel⟩, Or.inl tb_809⟩
theorem fc_La_64 : mm_Fc "ProcessHeapsLaw" 64 yy_PH_lookup Y_PH_lookup 3 := ⟨tb_568, tb_1, ⟨by decide, by decide, by decide +kernel⟩, Or.inl tb_565⟩
theorem fc_La_68 : mm_Fc "ProcessHeapsLaw" 68 yy_Mo_lookup Y_Mo_lookup 3 := ⟨tb_816, tb_10, ⟨by decide, by decide, by decide +kernel⟩, Or.inl tb_813⟩
theorem fc_La_69 : mm_Fc "ProcessHeapsLaw" 69 yy_PH_collect Y_PH_collect 1 := ⟨tb_576, tb_1, ⟨by decide, by decide, by decide +kernel⟩, Or.inl tb_573⟩
theorem fc_La_72 : mm_Fc "ProcessHeapsLaw" 72 yy_Mo_collect Y_Mo_collect 1 := ⟨tb_820, tb_10, ⟨by decide, by decide, by decide +kernel⟩, Or.inl tb_817⟩
theorem fc_La_73 : mm_Fc "ProcessHeapsLaw" 73 yy_PH_state Y_PH_state 1 := ⟨tb_580, tb_1, ⟨by decide, by decide, by decide +kernel⟩, Or.inl tb_577⟩
theorem fc_La_76 : mm_Fc "ProcessHeapsLaw" 76 yy_Mo_state Y_Mo_state 1 := ⟨tb_824, tb_10, ⟨by decide, by decide, by decide +kernel⟩, Or.inl tb_821⟩
theorem fc_La_77 : mm_Fc "ProcessHeapsLaw" 77 yy_PH_pages Y_PH_pages 1 := ⟨tb_584, tb_1, ⟨by decide, by decide, by decide +kernel⟩, Or.inl tb_581⟩
theorem fc_La_80 : mm_Fc "ProcessHeapsLaw" 80 yy_Mo_pages Y_Mo_pages 1 := ⟨tb_729, tb_10, ⟨by decide, by decide, by decide +kernel⟩, Or.inl tb_825⟩
theorem fc_La_81 : mm_Fc "ProcessHeapsLaw" 81 yy_PH_objects Y_PH_objects 1 := ⟨tb_588, tb_1, ⟨by decide, by decide, by decide +kernel⟩, Or.inl tb_585⟩
theorem fc_La_84 : mm_Fc "ProcessHeapsLaw" 84 yy_Mo_objects Y_Mo_objects 1 := ⟨tb_829, tb_10, ⟨by decide, by decide, by decide +kernel⟩, Or.inl tb_826⟩
theorem fc_La_85 : mm_Fc "ProcessHeapsLaw" 85 yy_PH_items Y_PH_items 1 := ⟨tb_596, tb_1, ⟨by decide, by decide, by decide +kernel⟩, Or.inl tb_593⟩
theorem fc_La_88 : mm_Fc "ProcessHeapsLaw" 88 yy_Mo_items Y_Mo_items 1 := ⟨tb_833, tb_10, ⟨by decide, by decide, by decide +kernel⟩, Or.inl tb_830⟩
theorem fc_La_89 : mm_Fc "ProcessHeapsLaw" 89 yy_PH_use Y_PH_use 1 := ⟨tb_604, tb_1, ⟨by decide, by decide, by decide +kernel⟩, Or.inl tb_601⟩
theorem fc_La_92 : mm_Fc "ProcessHeapsLaw" 92 yy_Mo_use Y_Mo_use 1 := ⟨tb_837, tb_10, ⟨by decide, by decide, by decide +kernel⟩, Or.inl tb_834⟩
theorem fc_La_93 : mm_Fc "ProcessHeapsLaw" 93 yy_PH_room Y_PH_room 1 := ⟨tb_608, tb_1, ⟨by decide, by decide, by decide +kernel⟩, Or.inl tb_605⟩
theorem fc_La_96 : mm_Fc "ProcessHeapsLaw" 96 yy_Mo_room Y_Mo_room 1 := ⟨tb_845, tb_10, ⟨by decide, by decide, by decide +kernel⟩, Or.inl tb_842⟩
theorem fc_La_97 : mm_Fc "ProcessHeapsLaw" 97 yy_PH_shares Y_PH_shares 2 := ⟨tb_612, tb_1, ⟨by decide, by decide, by decide +kernel⟩, Or.inl tb_609⟩
theorem fc_La_101 : mm_Fc "ProcessHeapsLaw" 101 yy_Mo_shares Y_Mo_shares 2 := ⟨tb_849, tb_10, ⟨by decide, by decide, by decide +kernel⟩, Or.inl tb_846⟩
theorem fc_La_102 : mm_Fc "ProcessHeapsLaw" 102 yy_PH_where Y_PH_where 2 := ⟨tb_616, tb_1, ⟨by decide, by decide, by decide +kernel⟩, Or.inl tb_613⟩
theorem fc_La_105 : mm_Fc "ProcessHeapsLaw" 105 yy_Mo_where Y_Mo_where 2 := ⟨tb_853, tb_10, ⟨by decide, by decide, by decide +kernel⟩, Or.inl tb_850⟩
theorem fc_La_106 : mm_Fc "ProcessHeapsLaw" 106 yy_PH_tag Y_PH_tag 2 := ⟨tb_620, tb_1, ⟨by decide, by decide, by decide +kernel⟩, Or.inl tb_617⟩
theorem fc_La_109 : mm_Fc "ProcessHeapsLaw" 109 yy_Mo_tag Y_Mo_tag 2 := ⟨tb_857, tb_10, ⟨by decide, by decide, by decide +kernel⟩, Or.inl tb_854⟩
theorem ff_Mo_7 : mm_Fg "ProcessHeapsModel" 7 8 0 "ProcessHeapsModel" TT8 25 := ⟨by decide, rfl, by decide, uw_8, "ProcessHeapsModel", Or.inl tb_630, Or.inl rfl⟩
theorem ff_Mo_13 : mm_Fg "ProcessHeapsModel" 13 8 1 "ProcessHeapsModel" TT8 25 := ⟨by decide, rfl, by decide, uw_8, "ProcessHeapsModel", Or.inl tb_631, Or.inl rfl⟩
theorem ff_Mo_16 : mm_Fg "ProcessHeapsModel" 16 8 2 "ProcessHeapsModel" TT8 25 := ⟨by decide, rfl, by decide, uw_8, "ProcessHeapsModel", Or.inl tb_632, Or.inl rfl⟩
theorem ff_Mo_19 : mm_Fg "ProcessHeapsModel" 19 8 3 "ProcessHeapsModel" TT8 25 := ⟨by decide, rfl, by decide, uw_8, "ProcessHeapsModel", Or.inl tb_633, Or.inl rfl⟩
theorem ff_Mo_23 : mm_Fg "ProcessHeapsModel" 23 8 5 "ProcessHeapsModel" TT8 25 := ⟨by decide, rfl, by decide, uw_8, "ProcessHeapsModel", Or.inl tb_635, Or.inl rfl⟩
theorem ff_Mo_26 : mm_Fg "ProcessHeapsModel" 26 8 6 "ProcessHeapsModel" TT8 25 := ⟨by decide, rfl, by decide, uw_8, "ProcessHeapsModel", Or.inl tb_636, Or.inl rfl⟩
theorem ff_Mo_29 : mm_Fg "ProcessHeapsModel" 29 8 7 "ProcessHeapsModel" TT8 25 := ⟨by decide, rfl, by decide, uw_8, "ProcessHeapsModel", Or.inl tb_637, Or.inl rfl⟩
theorem ff_Mo_32 : mm_Fg "ProcessHeapsModel" 32 8 8 "ProcessHeapsModel" TT8 25 := ⟨by decide, rfl, by decide, uw_8, "ProcessHeapsModel", Or.inl tb_638, Or.inl rfl⟩
theorem ff_Mo_35 : mm_Fg "ProcessHeapsModel" 35 8 9 "ProcessHeapsModel" TT8 25 := ⟨by decide, rfl, by decide, uw_8, "ProcessHeapsModel", Or.inl tb_639, Or.inl rfl⟩
theorem ff_Mo_38 : mm_Fg "ProcessHeapsModel" 38 8 10 "ProcessHeapsModel" TT8 25 := ⟨by decide, rfl, by decide, uw_8, "ProcessHeapsModel", Or.inl tb_640, Or.inl rfl⟩
theorem ff_Mo_41 : mm_Fg "ProcessHeapsModel" 41 8 11 "ProcessHeapsModel" TT8 25 := ⟨by decide, rfl, by decide, uw_8, "ProcessHeapsModel", Or.inl tb_641, Or.inl rfl⟩
theorem ff_Mo_44 : mm_Fg "ProcessHeapsModel" 44 8 12 "ProcessHeapsModel" TT8 25 := ⟨by decide, rfl, by decide, uw_8, "ProcessHeapsModel", Or.inl tb_642, Or.inl rfl⟩
theorem ff_Mo_47 : mm_Fg "ProcessHeapsModel" 47 8 13 "ProcessHeapsModel" TT8 25 := ⟨by decide, rfl, by decide, uw_8, "ProcessHeapsModel", Or.inl tb_643, Or.inl rfl⟩
theorem ff_Mo_50 : mm_Fg "ProcessHeapsModel" 50 8 15 "ProcessHeapsModel" TT8 25 := ⟨by decide, rfl, by decide, uw_8, "ProcessHeapsModel", Or.inl tb_645, Or.inl rfl⟩
theorem ff_Mo_53 : mm_Fg "ProcessHeapsModel" 53 8 16 "ProcessHeapsModel" TT8 25 := ⟨by decide, rfl, by decide, uw_8, "ProcessHeapsModel", Or.inl tb_646, Or.inl rfl⟩
theorem ff_Mo_56 : mm_Fg "ProcessHeapsModel" 56 8 17 "ProcessHeapsModel" TT8 25 := ⟨by decide, rfl, by decide, uw_8, "ProcessHeapsModel", Or.inl tb_647, Or.inl rfl⟩
theorem ff_Mo_59 : mm_Fg "ProcessHeapsModel" 59 8 19 "ProcessHeapsModel" TT8 25 := ⟨by decide, rfl, by decide, uw_8, "ProcessHeapsModel", Or.inl tb_649, Or.inl rfl⟩
theorem ff_Mo_62 : mm_Fg "ProcessHeapsModel" 62 8 20 "ProcessHeapsModel" TT8 25 := ⟨by decide, rfl, by decide, uw_8, "ProcessHeapsModel", Or.inl tb_650, Or.inl rfl⟩
theorem ff_Mo_65 : mm_Fg "ProcessHeapsModel" 65 8 21 "ProcessHeapsModel" TT8 25 := ⟨by decide, rfl, by decide, uw_8, "ProcessHeapsModel", Or.inl tb_651, Or.inl rfl⟩
theorem ff_Mo_68 : mm_Fg "ProcessHeapsModel" 68 8 22 "ProcessHeapsModel" TT8 25 := ⟨by decide, rfl, by decide, uw_8, "ProcessHeapsModel", Or.inl tb_652, Or.inl rfl⟩
theorem ff_Mo_71 : mm_Fg "ProcessHeapsModel" 71 8 23 "ProcessHeapsModel" TT8 25 := ⟨by decide, rfl, by decide, uw_8, "ProcessHeapsModel", Or.inl tb_653, Or.inl rfl⟩
theorem ff_Mo_74 : mm_Fg "ProcessHeapsModel" 74 8 24 "ProcessHeapsModel" TT8 25 := ⟨by decide, rfl, by decide, uw_8, "ProcessHeapsModel", Or.inl tb_654, Or.inl rfl⟩
theorem ff_Mo_77 : mm_Fg "ProcessHeapsModel" 77 8 4 "ProcessHeapsModel" TT8 25 := ⟨by decide, rfl, by decide, uw_8, "ProcessHeapsModel", Or.inl tb_634, Or.inl rfl⟩
theorem fc_Mo_81 : mm_Fc "ProcessHeapsModel" 81 yy_Mo_frozen Y_Mo_frozen 1 := ⟨tb_725, tb_10, ⟨by decide, by decide, by decide +kernel⟩, Or.inl tb_722⟩
theorem fc_Mo_85 : mm_Fc "ProcessHeapsModel" 85 yy_Mo_pages Y_Mo_pages 1 := ⟨tb_729, tb_10, ⟨by decide, by decide, by decide +kernel⟩, Or.inl tb_726⟩
theorem fc_Mo_89 : mm_Fc "ProcessHeapsModel" 89 yy_Mo_lives Y_Mo_lives 1 := ⟨tb_713, tb_10, ⟨by decide, by decide, by decide +kernel⟩, Or.inl tb_710⟩
theorem fc_Mo_92 : mm_Fc "ProcessHeapsModel" 92 yy_Mo_work Y_Mo_work 0 := ⟨tb_721, tb_10, ⟨by decide, by decide, by decide +kernel⟩, Or.inl tb_718⟩
theorem fc_Mo_95 : mm_Fc "ProcessHeapsModel" 95 yy_Mo_root Y_Mo_root 2 := ⟨tb_784, tb_10, ⟨by decide, by decide, by decide +kernel⟩, Or.inl tb_781⟩
theorem fc_Mo_99 : mm_Fc "ProcessHeapsModel" 99 yy_Mo_reach Y_Mo_reach 1 := ⟨tb_780, tb_10, ⟨by decide, by decide, by decide +kernel⟩, Or.inl tb_777⟩
theorem fc_Mo_103 : mm_Fc "ProcessHeapsModel" 103 yy_Mo_free Y_Mo_free 1 := ⟨tb_753, tb_10, ⟨by decide, by decide, by decide +kernel⟩, Or.inl tb_750⟩
theorem fc_Mo_106 : mm_Fc "ProcessHeapsModel" 106 yy_Mo_inField Y_Mo_inField 2 := ⟨tb_788, tb_10, ⟨by decide, by decide, by decide +kernel⟩, Or.inl tb_785⟩
theorem fc_Mo_109 : mm_Fc "ProcessHeapsModel" 109 yy_Mo_names Y_Mo_names 2 := ⟨tb_741, tb_10, ⟨by decide, by decide, by decide +kernel⟩, Or.inl tb_738⟩
theorem fc_Mo_112 : mm_Fc "ProcessHeapsModel" 112 yy_Mo_holds Y_Mo_holds 2 := ⟨tb_792, tb_10, ⟨by decide, by decide, by decide +kernel⟩, Or.inl tb_789⟩
theorem fc_Mo_115 : mm_Fc "ProcessHeapsModel" 115 yy_Mo_vanish Y_Mo_vanish 0 := ⟨tb_749, tb_10, ⟨by decide, by decide, by decide +kernel⟩, Or.inl tb_746⟩
theorem ff_Mo_118 : mm_Fg "ProcessHeapsModel" 118 8 14 "ProcessHeapsModel" TT8 25 := ⟨by decide, rfl, by decide, uw_8, "ProcessHeapsModel", Or.inl tb_644, Or.inl rfl⟩
theorem fc_Mo_121 : mm_Fc "ProcessHeapsModel" 121 yy_Mo_merge Y_Mo_merge 1 := ⟨tb_745, tb_10, ⟨by decide, by decide, by decide +kernel⟩, Or.inl tb_742⟩
theorem fc_Mo_124 : mm_Fc "ProcessHeapsModel" 124 yy_Mo_rest Y_Mo_rest 1 := ⟨tb_717, tb_10, ⟨by decide, by decide, by decide +kernel⟩, Or.inl tb_714⟩
theorem fc_Mo_127 : mm_Fc "ProcessHeapsModel" 127 yy_Mo_die Y_Mo_die 1 := ⟨tb_737, tb_10, ⟨by decide, by decide, by decide +kernel⟩, Or.inl tb_734⟩
theorem fc_Mo_130 : mm_Fc "ProcessHeapsModel" 130 yy_Mo_fitting Y_Mo_fitting 2 := ⟨tb_772, tb_10, ⟨by decide, by decide, by decide +kernel⟩, Or.inl tb_769⟩
theorem fc_Mo_134 : mm_Fc "ProcessHeapsModel" 134 yy_Mo_isRegister Y_Mo_isRegister 1 := ⟨tb_764, tb_10, ⟨by decide, by decide, by decide +kernel⟩, Or.inl tb_762⟩
theorem fc_Mo_137 : mm_Fc "ProcessHeapsModel" 137 yy_Mo_find Y_Mo_find 3 := ⟨tb_768, tb_10, ⟨by decide, by decide, by decide +kernel⟩, Or.inl tb_765⟩
theorem fc_Mo_141 : mm_Fc "ProcessHeapsModel" 141 yy_Mo_sweep Y_Mo_sweep 1 := ⟨tb_776, tb_10, ⟨by decide, by decide, by decide +kernel⟩, Or.inl tb_773⟩
theorem ff_Mo_144 : mm_Fg "ProcessHeapsModel" 144 8 18 "ProcessHeapsModel" TT8 25 := ⟨by decide, rfl, by decide, uw_8, "ProcessHeapsModel", Or.inl tb_648, Or.inl rfl⟩
theorem fc_Mo_147 : mm_Fc "ProcessHeapsModel" 147 yy_Mo_exists Y_Mo_exists 1 := ⟨tb_841, tb_10, ⟨by decide, by decide, by decide +kernel⟩, Or.inl tb_838⟩
theorem fc_Ab_1 : mm_Fc "java/util/AbstractList" 1 yy_Ac_init Y_Ac_init 0 := ⟨tb_42, tb_3, ⟨by decide, by decide, by decide +kernel⟩, Or.inl tb_40⟩
theorem ff_Ab_7 : mm_Fg "java/util/AbstractList" 7 2 2 "java/util/ArrayList" TT2 3 := ⟨by decide, rfl, by decide, uw_2, "java/util/AbstractList", Or.inl tb_48, Or.inl rfl⟩
theorem fc_AL_1 : mm_Fc "java/util/ArrayList" 1 yy_Ab_init Y_Ab_init 0 := ⟨tb_39, tb_4, ⟨by decide, by decide, by decide +kernel⟩, Or.inl tb_37⟩
theorem ff_AL_9 : mm_Fg "java/util/ArrayList" 9 2 0 "java/util/ArrayList" TT2 3 := ⟨by decide, rfl, by decide, uw_2, "java/util/ArrayList", Or.inl tb_46, Or.inl rfl⟩
theorem ff_AL_48 : mm_Fg "java/util/ArrayList" 48 2 1 "java/util/ArrayList" TT2 3 := ⟨by decide, rfl, by decide, uw_2, "java/util/ArrayList", Or.inl tb_47, Or.inl rfl⟩
theorem ff_AL_63 : mm_Fg "java/util/ArrayList" 63 2 2 "java/util/ArrayList" TT2 3 := ⟨by decide, rfl, by decide, uw_2, "java/util/ArrayList", Or.inl tb_49, Or.inr tb_50⟩
theorem fc_AL_66 : mm_Fc "java/util/ArrayList" 66 yy_Ar_copyOf Y_Ar_copyOf 2 := ⟨tb_318, tb_15, ⟨by decide, by decide, by decide +kernel⟩, Or.inl tb_316⟩
theorem fc_AL_69 : mm_Fc "java/util/ArrayList" 69 yy_AL_grow2 Y_AL_grow2 1 := ⟨tb_307, tb_5, ⟨by decide, by decide, by decide +kernel⟩, Or.inl tb_304⟩
theorem fc_AL_73 : mm_Fc "java/util/ArrayList" 73 yy_As_newLength Y_As_newLength 3 := ⟨tb_310, tb_14, ⟨by decide, by decide, by decide +kernel⟩, Or.inl tb_308⟩
theorem fc_AL_118 : mm_Fc "java/util/ArrayList" 118 yy_Os_checkIndex Y_Os_checkIndex 2 := ⟨tb_216, tb_11, ⟨by decide, by decide, by decide +kernel⟩, Or.inl tb_214⟩
theorem fc_AL_123 : mm_Fc "java/util/ArrayList" 123 yy_AL_elementData Y_AL_elementData 1 := ⟨tb_223, tb_5, ⟨by decide, by decide, by decide +kernel⟩, Or.inl tb_220⟩
theorem fc_AL_129 : mm_Fc "java/util/ArrayList" 129 yy_AL_grow Y_AL_grow 0 := ⟨tb_303, tb_5, ⟨by decide, by decide, by decide +kernel⟩, Or.inl tb_300⟩
theorem fc_AL_131 : mm_Fc "java/util/ArrayList" 131 yy_AL_add2 Y_AL_add2 3 := ⟨tb_299, tb_5, ⟨by decide, by decide, by decide +kernel⟩, Or.inl tb_296⟩
theorem fc_AL_144 : mm_Fc "java/util/ArrayList" 144 yy_AL_fastRemove Y_AL_fastRemove 2 := ⟨tb_288, tb_5, ⟨by decide, by decide, by decide +kernel⟩, Or.inl tb_285⟩
theorem fc_Ar_300 : mm_Fc "java/util/Arrays" 300 yy_Ar_copyOf2 Y_Ar_copyOf2 3 := ⟨tb_334, tb_15, ⟨by decide, by decide, by decide +kernel⟩, Or.inl tb_332⟩
theorem fc_Os_105 : mm_Fc "java/util/Objects" 105 yy_Pc_checkIndex Y_Pc_checkIndex 3 := ⟨tb_219, tb_12, ⟨by decide, by decide, by decide +kernel⟩, Or.inl tb_217⟩
theorem iv_PH_init : Cond.instanceMethod yy_PH_init ∈ mm_B := tb_21
theorem iv_Me_init : Cond.instanceMethod yy_Me_init ∈ mm_B := tb_29
theorem iv_AL_init : Cond.instanceMethod yy_AL_init ∈ mm_B := tb_35
theorem iv_Ab_init : Cond.instanceMethod yy_Ab_init ∈ mm_B := tb_38
theorem iv_Ac_init : Cond.instanceMethod yy_Ac_init ∈ mm_B := tb_41
theorem iv_Co_init : Cond.instanceMethod yy_Co_init ∈ mm_B := tb_70
theorem iv_Li_init : Cond.instanceMethod yy_Li_init ∈ mm_B := tb_85
theorem iv_Pr_init : Cond.instanceMethod yy_Pr_init ∈ mm_B := tb_114
theorem iv_PH_spawn : Cond.instanceMethod yy_PH_spawn ∈ mm_B := tb_175
theorem sv_PH_spawn : Cond.selects yy_PH_spawn.cls yy_PH_spawn yy_PH_spawn ∈ mm_B := tb_176
theorem iv_PH_livingProcess : Cond.instanceMethod yy_PH_livingProcess ∈ mm_B := tb_180
theorem sv_PH_livingProcess : Cond.selects yy_PH_livingProcess.cls yy_PH_livingProcess yy_PH_livingProcess ∈ mm_B := tp_0
theorem iv_PH_isMade : Cond.instanceMethod yy_PH_isMade ∈ mm_B := tb_184
theorem sv_PH_isMade : Cond.selects yy_PH_isMade.cls yy_PH_isMade yy_PH_isMade ∈ mm_B := tp_1
theorem iv_Pr_isLiving : Cond.instanceMethod yy_Pr_isLiving ∈ mm_B := tb_187
theorem sv_Pr_isLiving : Cond.selects yy_Pr_isLiving.cls yy_Pr_isLiving yy_Pr_isLiving ∈ mm_B := tb_188
theorem iv_PH_canPay : Cond.instanceMethod yy_PH_canPay ∈ mm_B := tb_192
theorem sv_PH_canPay : Cond.selects yy_PH_canPay.cls yy_PH_canPay yy_PH_canPay ∈ mm_B := tp_2
theorem iv_Li_reckon : Cond.instanceMethod yy_Li_reckon ∈ mm_B := tb_195
theorem sv_Li_reckon : Cond.selects yy_Li_reckon.cls yy_Li_reckon yy_Li_reckon ∈ mm_B := tb_196
theorem iv_Li_reckonPayments : Cond.instanceMethod yy_Li_reckonPayments ∈ mm_B := tb_200
theorem sv_Li_reckonPayments : Cond.selects yy_Li_reckonPayments.cls yy_Li_reckonPayments yy_Li_reckonPayments ∈ mm_B := tp_3
theorem iv_Me_countPaidPages : Cond.instanceMethod yy_Me_countPaidPages ∈ mm_B := tb_203
theorem sv_Me_countPaidPages : Cond.selects yy_Me_countPaidPages.cls yy_Me_countPaidPages yy_Me_countPaidPages ∈ mm_B := tb_204
theorem iv_AL_size : Cond.instanceMethod yy_AL_size ∈ mm_B := tb_207
theorem sv_AL_size : Cond.selects yy_AL_size.cls yy_AL_size yy_AL_size ∈ mm_B := tb_208
theorem iv_AL_get : Cond.instanceMethod yy_AL_get ∈ mm_B := tb_211
theorem sv_AL_get : Cond.selects yy_AL_get.cls yy_AL_get yy_AL_get ∈ mm_B := tb_212
theorem si_Os_checkIndex : Cond.static yy_Os_checkIndex ∈ mm_B := tb_215
theorem si_Pc_checkIndex : Cond.static yy_Pc_checkIndex ∈ mm_B := tb_218
theorem iv_AL_elementData : Cond.instanceMethod yy_AL_elementData ∈ mm_B := tb_221
theorem sv_AL_elementData : Cond.selects yy_AL_elementData.cls yy_AL_elementData yy_AL_elementData ∈ mm_B := tb_222
theorem iv_Pr_isCharged : Cond.instanceMethod yy_Pr_isCharged ∈ mm_B := tb_226
theorem sv_Pr_isCharged : Cond.selects yy_Pr_isCharged.cls yy_Pr_isCharged yy_Pr_isCharged ∈ mm_B := tb_227
theorem iv_Li_addChildren : Cond.instanceMethod yy_Li_addChildren ∈ mm_B := tb_232
theorem sv_Li_addChildren : Cond.selects yy_Li_addChildren.cls yy_Li_addChildren yy_Li_addChildren ∈ mm_B := tp_4
theorem iv_Li_reckonSpare : Cond.instanceMethod yy_Li_reckonSpare ∈ mm_B := tb_236
theorem sv_Li_reckonSpare : Cond.selects yy_Li_reckonSpare.cls yy_Li_reckonSpare yy_Li_reckonSpare ∈ mm_B := tp_5
theorem iv_PH_kill : Cond.instanceMethod yy_PH_kill ∈ mm_B := tb_240
theorem sv_PH_kill : Cond.selects yy_PH_kill.cls yy_PH_kill yy_PH_kill ∈ mm_B := tb_241
theorem iv_Pr_isInKernelMode : Cond.instanceMethod yy_Pr_isInKernelMode ∈ mm_B := tb_244
theorem sv_Pr_isInKernelMode : Cond.selects yy_Pr_isInKernelMode.cls yy_Pr_isInKernelMode yy_Pr_isInKernelMode ∈ mm_B := tb_245
theorem iv_PH_die : Cond.instanceMethod yy_PH_die ∈ mm_B := tb_249
theorem sv_PH_die : Cond.selects yy_PH_die.cls yy_PH_die yy_PH_die ∈ mm_B := tp_6
theorem iv_PH_dropUnusedCharges : Cond.instanceMethod yy_PH_dropUnusedCharges ∈ mm_B := tb_253
theorem sv_PH_dropUnusedCharges : Cond.selects yy_PH_dropUnusedCharges.cls yy_PH_dropUnusedCharges yy_PH_dropUnusedCharges ∈ mm_B := tp_7
theorem iv_Pr_holdsObjectOf : Cond.instanceMethod yy_Pr_holdsObjectOf ∈ mm_B := tb_256
theorem sv_Pr_holdsObjectOf : Cond.selects yy_Pr_holdsObjectOf.cls yy_Pr_holdsObjectOf yy_Pr_holdsObjectOf ∈ mm_B := tb_257
theorem iv_Ob_heapNumber : Cond.instanceMethod yy_Ob_heapNumber ∈ mm_B := tb_260
theorem sv_Ob_heapNumber : Cond.selects yy_Ob_heapNumber.cls yy_Ob_heapNumber yy_Ob_heapNumber ∈ mm_B := tb_261
theorem iv_Me_hasItemInto : Cond.instanceMethod yy_Me_hasItemInto ∈ mm_B := tb_264
theorem sv_Me_hasItemInto : Cond.selects yy_Me_hasItemInto.cls yy_Me_hasItemInto yy_Me_hasItemInto ∈ mm_B := tb_265
theorem iv_Ob_hasItem : Cond.instanceMethod yy_Ob_hasItem ∈ mm_B := tb_270
theorem sv_Ob_hasItem : Cond.selects yy_Ob_hasItem.cls yy_Ob_hasItem yy_Ob_hasItem ∈ mm_B := tb_271
theorem iv_Pr_dropCharge : Cond.instanceMethod yy_Pr_dropCharge ∈ mm_B := tb_274
theorem sv_Pr_dropCharge : Cond.selects yy_Pr_dropCharge.cls yy_Pr_dropCharge yy_Pr_dropCharge ∈ mm_B := tb_275
theorem iv_Me_mergeIntoKernel : Cond.instanceMethod yy_Me_mergeIntoKernel ∈ mm_B := tb_278
theorem sv_Me_mergeIntoKernel : Cond.selects yy_Me_mergeIntoKernel.cls yy_Me_mergeIntoKernel yy_Me_mergeIntoKernel ∈ mm_B := tb_279
theorem iv_AL_remove : Cond.instanceMethod yy_AL_remove ∈ mm_B := tb_282
theorem sv_AL_remove : Cond.selects yy_AL_remove.cls yy_AL_remove yy_AL_remove ∈ mm_B := tb_283
theorem iv_AL_fastRemove : Cond.instanceMethod yy_AL_fastRemove ∈ mm_B := tb_287
theorem sv_AL_fastRemove : Cond.selects yy_AL_fastRemove.cls yy_AL_fastRemove yy_AL_fastRemove ∈ mm_B := tp_8
theorem iv_AL_add : Cond.instanceMethod yy_AL_add ∈ mm_B := tb_293
theorem sv_AL_add : Cond.selects yy_AL_add.cls yy_AL_add yy_AL_add ∈ mm_B := tb_294
theorem iv_AL_add2 : Cond.instanceMethod yy_AL_add2 ∈ mm_B := tb_298
theorem sv_AL_add2 : Cond.selects yy_AL_add2.cls yy_AL_add2 yy_AL_add2 ∈ mm_B := tp_9
theorem iv_AL_grow : Cond.instanceMethod yy_AL_grow ∈ mm_B := tb_302
theorem sv_AL_grow : Cond.selects yy_AL_grow.cls yy_AL_grow yy_AL_grow ∈ mm_B := tp_10
theorem iv_AL_grow2 : Cond.instanceMethod yy_AL_grow2 ∈ mm_B := tb_306
theorem sv_AL_grow2 : Cond.selects yy_AL_grow2.cls yy_AL_grow2 yy_AL_grow2 ∈ mm_B := tp_11
theorem si_As_newLength : Cond.static yy_As_newLength ∈ mm_B := tb_309
theorem si_Ar_copyOf : Cond.static yy_Ar_copyOf ∈ mm_B := tb_317
theorem si_Ar_copyOf2 : Cond.static yy_Ar_copyOf2 ∈ mm_B := tb_333
theorem iv_Me_handItemsToKernel : Cond.instanceMethod yy_Me_handItemsToKernel ∈ mm_B := tb_343
theorem sv_Me_handItemsToKernel : Cond.selects yy_Me_handItemsToKernel.cls yy_Me_handItemsToKernel yy_Me_handItemsToKernel ∈ mm_B := tb_344
theorem iv_Ob_dropItem : Cond.instanceMethod yy_Ob_dropItem ∈ mm_B := tb_347
theorem sv_Ob_dropItem : Cond.selects yy_Ob_dropItem.cls yy_Ob_dropItem yy_Ob_dropItem ∈ mm_B := tb_348
theorem iv_Ob_addItem : Cond.instanceMethod yy_Ob_addItem ∈ mm_B := tb_351
theorem sv_Ob_addItem : Cond.selects yy_Ob_addItem.cls yy_Ob_addItem yy_Ob_addItem ∈ mm_B := tb_352
theorem iv_PH_dropGoneHeaps : Cond.instanceMethod yy_PH_dropGoneHeaps ∈ mm_B := tb_356
theorem sv_PH_dropGoneHeaps : Cond.selects yy_PH_dropGoneHeaps.cls yy_PH_dropGoneHeaps yy_PH_dropGoneHeaps ∈ mm_B := tp_12
theorem iv_PH_isFrozen : Cond.instanceMethod yy_PH_isFrozen ∈ mm_B := tb_360
theorem sv_PH_isFrozen : Cond.selects yy_PH_isFrozen.cls yy_PH_isFrozen yy_PH_isFrozen ∈ mm_B := tp_13
theorem si_PH_isHeap : Cond.static yy_PH_isHeap ∈ mm_B := tb_363
theorem iv_PH_isSharedByLiving : Cond.instanceMethod yy_PH_isSharedByLiving ∈ mm_B := tb_367
theorem sv_PH_isSharedByLiving : Cond.selects yy_PH_isSharedByLiving.cls yy_PH_isSharedByLiving yy_PH_isSharedByLiving ∈ mm_B := tp_14
theorem iv_Me_freeUnreached : Cond.instanceMethod yy_Me_freeUnreached ∈ mm_B := tb_371
theorem sv_Me_freeUnreached : Cond.selects yy_Me_freeUnreached.cls yy_Me_freeUnreached yy_Me_freeUnreached ∈ mm_B := tb_372
theorem iv_Me_giveBackEmptyPages : Cond.instanceMethod yy_Me_giveBackEmptyPages ∈ mm_B := tb_376
theorem sv_Me_giveBackEmptyPages : Cond.selects yy_Me_giveBackEmptyPages.cls yy_Me_giveBackEmptyPages yy_Me_giveBackEmptyPages ∈ mm_B := tp_15
theorem iv_PH_endPaymentOfDead : Cond.instanceMethod yy_PH_endPaymentOfDead ∈ mm_B := tb_380
theorem sv_PH_endPaymentOfDead : Cond.selects yy_PH_endPaymentOfDead.cls yy_PH_endPaymentOfDead yy_PH_endPaymentOfDead ∈ mm_B := tp_16
theorem iv_PH_mode : Cond.instanceMethod yy_PH_mode ∈ mm_B := tb_383
theorem sv_PH_mode : Cond.selects yy_PH_mode.cls yy_PH_mode yy_PH_mode ∈ mm_B := tb_384
theorem iv_PH_make : Cond.instanceMethod yy_PH_make ∈ mm_B := tb_387
theorem sv_PH_make : Cond.selects yy_PH_make.cls yy_PH_make yy_PH_make ∈ mm_B := tb_388
theorem si_PH_isRegister : Cond.static yy_PH_isRegister ∈ mm_B := tb_391
theorem iv_PH_pageForMaking : Cond.instanceMethod yy_PH_pageForMaking ∈ mm_B := tb_396
theorem sv_PH_pageForMaking : Cond.selects yy_PH_pageForMaking.cls yy_PH_pageForMaking yy_PH_pageForMaking ∈ mm_B := tp_17
theorem iv_Pr_heapForMaking : Cond.instanceMethod yy_Pr_heapForMaking ∈ mm_B := tb_399
theorem sv_Pr_heapForMaking : Cond.selects yy_Pr_heapForMaking.cls yy_Pr_heapForMaking yy_Pr_heapForMaking ∈ mm_B := tb_400
theorem iv_Me_findPage : Cond.instanceMethod yy_Me_findPage ∈ mm_B := tb_404
theorem sv_Me_findPage : Cond.selects yy_Me_findPage.cls yy_Me_findPage yy_Me_findPage ∈ mm_B := tb_405
theorem iv_Me_addPage : Cond.instanceMethod yy_Me_addPage ∈ mm_B := tb_408
theorem sv_Me_addPage : Cond.selects yy_Me_addPage.cls yy_Me_addPage yy_Me_addPage ∈ mm_B := tb_409
theorem iv_Pa_init : Cond.instanceMethod yy_Pa_init ∈ mm_B := tb_413
theorem iv_PH_collectHeap : Cond.instanceMethod yy_PH_collectHeap ∈ mm_B := tb_432
theorem sv_PH_collectHeap : Cond.selects yy_PH_collectHeap.cls yy_PH_collectHeap yy_PH_collectHeap ∈ mm_B := tp_18
theorem iv_Co_run : Cond.instanceMethod yy_Co_run ∈ mm_B := tb_435
theorem sv_Co_run : Cond.selects yy_Co_run.cls yy_Co_run yy_Co_run ∈ mm_B := tb_436
theorem iv_Co_reachHeld : Cond.instanceMethod yy_Co_reachHeld ∈ mm_B := tb_440
theorem sv_Co_reachHeld : Cond.selects yy_Co_reachHeld.cls yy_Co_reachHeld yy_Co_reachHeld ∈ mm_B := tp_19
theorem iv_Co_reachObject : Cond.instanceMethod yy_Co_reachObject ∈ mm_B := tb_444
theorem sv_Co_reachObject : Cond.selects yy_Co_reachObject.cls yy_Co_reachObject yy_Co_reachObject ∈ mm_B := tp_20
theorem iv_Co_reachNamedFromOutside : Cond.instanceMethod yy_Co_reachNamedFromOutside ∈ mm_B := tb_449
theorem sv_Co_reachNamedFromOutside : Cond.selects yy_Co_reachNamedFromOutside.cls yy_Co_reachNamedFromOutside yy_Co_reachNamedFromOutside ∈ mm_B := tp_21
theorem iv_Ob_hasAnyItem : Cond.instanceMethod yy_Ob_hasAnyItem ∈ mm_B := tb_454
theorem sv_Ob_hasAnyItem : Cond.selects yy_Ob_hasAnyItem.cls yy_Ob_hasAnyItem yy_Ob_hasAnyItem ∈ mm_B := tb_455
theorem iv_Co_followFields : Cond.instanceMethod yy_Co_followFields ∈ mm_B := tb_459
theorem sv_Co_followFields : Cond.selects yy_Co_followFields.cls yy_Co_followFields yy_Co_followFields ∈ mm_B := tp_22
theorem iv_Co_loseItems : Cond.instanceMethod yy_Co_loseItems ∈ mm_B := tb_464
theorem sv_Co_loseItems : Cond.selects yy_Co_loseItems.cls yy_Co_loseItems yy_Co_loseItems ∈ mm_B := tp_23
theorem iv_Ob_addItemsForFields : Cond.instanceMethod yy_Ob_addItemsForFields ∈ mm_B := tb_468
theorem sv_Ob_addItemsForFields : Cond.selects yy_Ob_addItemsForFields.cls yy_Ob_addItemsForFields yy_Ob_addItemsForFields ∈ mm_B := tb_469
theorem iv_Ob_addItemFor : Cond.instanceMethod yy_Ob_addItemFor ∈ mm_B := tb_473
theorem sv_Ob_addItemFor : Cond.selects yy_Ob_addItemFor.cls yy_Ob_addItemFor yy_Ob_addItemFor ∈ mm_B := tp_24
theorem iv_PH_dropChargesOfDead : Cond.instanceMethod yy_PH_dropChargesOfDead ∈ mm_B := tb_480
theorem sv_PH_dropChargesOfDead : Cond.selects yy_PH_dropChargesOfDead.cls yy_PH_dropChargesOfDead yy_PH_dropChargesOfDead ∈ mm_B := tp_25
theorem iv_Me_putObject : Cond.instanceMethod yy_Me_putObject ∈ mm_B := tb_483
theorem sv_Me_putObject : Cond.selects yy_Me_putObject.cls yy_Me_putObject yy_Me_putObject ∈ mm_B := tb_484
theorem iv_Ob_init : Cond.instanceMethod yy_Ob_init ∈ mm_B := tb_487
theorem iv_PH_store : Cond.instanceMethod yy_PH_store ∈ mm_B := tb_518
theorem sv_PH_store : Cond.selects yy_PH_store.cls yy_PH_store yy_PH_store ∈ mm_B := tb_519
theorem si_PH_isField : Cond.static yy_PH_isField ∈ mm_B := tb_522
theorem iv_PH_mayChange : Cond.instanceMethod yy_PH_mayChange ∈ mm_B := tb_526
theorem sv_PH_mayChange : Cond.selects yy_PH_mayChange.cls yy_PH_mayChange yy_PH_mayChange ∈ mm_B := tp_26
theorem iv_PH_mayName : Cond.instanceMethod yy_PH_mayName ∈ mm_B := tb_531
theorem sv_PH_mayName : Cond.selects yy_PH_mayName.cls yy_PH_mayName yy_PH_mayName ∈ mm_B := tp_27
theorem iv_Ob_setField : Cond.instanceMethod yy_Ob_setField ∈ mm_B := tb_534
theorem sv_Ob_setField : Cond.selects yy_Ob_setField.cls yy_Ob_setField yy_Ob_setField ∈ mm_B := tb_535
theorem iv_PH_load : Cond.instanceMethod yy_PH_load ∈ mm_B := tb_538
theorem sv_PH_load : Cond.selects yy_PH_load.cls yy_PH_load yy_PH_load ∈ mm_B := tb_539
theorem iv_PH_mayHold : Cond.instanceMethod yy_PH_mayHold ∈ mm_B := tb_543
theorem sv_PH_mayHold : Cond.selects yy_PH_mayHold.cls yy_PH_mayHold yy_PH_mayHold ∈ mm_B := tp_28
theorem iv_PH_move : Cond.instanceMethod yy_PH_move ∈ mm_B := tb_546
theorem sv_PH_move : Cond.selects yy_PH_move.cls yy_PH_move yy_PH_move ∈ mm_B := tb_547
theorem iv_PH_begin : Cond.instanceMethod yy_PH_begin ∈ mm_B := tb_550
theorem sv_PH_begin : Cond.selects yy_PH_begin.cls yy_PH_begin yy_PH_begin ∈ mm_B := tb_551
theorem iv_PH_freeze : Cond.instanceMethod yy_PH_freeze ∈ mm_B := tb_554
theorem sv_PH_freeze : Cond.selects yy_PH_freeze.cls yy_PH_freeze yy_PH_freeze ∈ mm_B := tb_555
theorem iv_Me_endSinglePayment : Cond.instanceMethod yy_Me_endSinglePayment ∈ mm_B := tb_558
theorem sv_Me_endSinglePayment : Cond.selects yy_Me_endSinglePayment.cls yy_Me_endSinglePayment yy_Me_endSinglePayment ∈ mm_B := tb_559
theorem iv_Pr_addCharge : Cond.instanceMethod yy_Pr_addCharge ∈ mm_B := tb_562
theorem sv_Pr_addCharge : Cond.selects yy_Pr_addCharge.cls yy_Pr_addCharge yy_Pr_addCharge ∈ mm_B := tb_563
theorem iv_PH_lookup : Cond.instanceMethod yy_PH_lookup ∈ mm_B := tb_566
theorem sv_PH_lookup : Cond.selects yy_PH_lookup.cls yy_PH_lookup yy_PH_lookup ∈ mm_B := tb_567
theorem iv_Me_countPages : Cond.instanceMethod yy_Me_countPages ∈ mm_B := tb_570
theorem sv_Me_countPages : Cond.selects yy_Me_countPages.cls yy_Me_countPages yy_Me_countPages ∈ mm_B := tb_571
theorem iv_PH_collect : Cond.instanceMethod yy_PH_collect ∈ mm_B := tb_574
theorem sv_PH_collect : Cond.selects yy_PH_collect.cls yy_PH_collect yy_PH_collect ∈ mm_B := tb_575
theorem iv_PH_state : Cond.instanceMethod yy_PH_state ∈ mm_B := tb_578
theorem sv_PH_state : Cond.selects yy_PH_state.cls yy_PH_state yy_PH_state ∈ mm_B := tb_579
theorem iv_PH_pages : Cond.instanceMethod yy_PH_pages ∈ mm_B := tb_582
theorem sv_PH_pages : Cond.selects yy_PH_pages.cls yy_PH_pages yy_PH_pages ∈ mm_B := tb_583
theorem iv_PH_objects : Cond.instanceMethod yy_PH_objects ∈ mm_B := tb_586
theorem sv_PH_objects : Cond.selects yy_PH_objects.cls yy_PH_objects yy_PH_objects ∈ mm_B := tb_587
theorem iv_Me_countObjects : Cond.instanceMethod yy_Me_countObjects ∈ mm_B := tb_590
theorem sv_Me_countObjects : Cond.selects yy_Me_countObjects.cls yy_Me_countObjects yy_Me_countObjects ∈ mm_B := tb_591
theorem iv_PH_items : Cond.instanceMethod yy_PH_items ∈ mm_B := tb_594
theorem sv_PH_items : Cond.selects yy_PH_items.cls yy_PH_items yy_PH_items ∈ mm_B := tb_595
theorem iv_Me_countItems : Cond.instanceMethod yy_Me_countItems ∈ mm_B := tb_598
theorem sv_Me_countItems : Cond.selects yy_Me_countItems.cls yy_Me_countItems yy_Me_countItems ∈ mm_B := tb_599
theorem iv_PH_use : Cond.instanceMethod yy_PH_use ∈ mm_B := tb_602
theorem sv_PH_use : Cond.selects yy_PH_use.cls yy_PH_use yy_PH_use ∈ mm_B := tb_603
theorem iv_PH_room : Cond.instanceMethod yy_PH_room ∈ mm_B := tb_606
theorem sv_PH_room : Cond.selects yy_PH_room.cls yy_PH_room yy_PH_room ∈ mm_B := tb_607
theorem iv_PH_shares : Cond.instanceMethod yy_PH_shares ∈ mm_B := tb_610
theorem sv_PH_shares : Cond.selects yy_PH_shares.cls yy_PH_shares yy_PH_shares ∈ mm_B := tb_611
theorem iv_PH_where : Cond.instanceMethod yy_PH_where ∈ mm_B := tb_614
theorem sv_PH_where : Cond.selects yy_PH_where.cls yy_PH_where yy_PH_where ∈ mm_B := tb_615
theorem iv_PH_tag : Cond.instanceMethod yy_PH_tag ∈ mm_B := tb_618
theorem sv_PH_tag : Cond.selects yy_PH_tag.cls yy_PH_tag yy_PH_tag ∈ mm_B := tb_619
theorem si_La_cell : Cond.static yy_La_cell ∈ mm_B := tb_622
theorem iv_Mo_init : Cond.instanceMethod yy_Mo_init ∈ mm_B := tb_627
theorem iv_Mo_spawn : Cond.instanceMethod yy_Mo_spawn ∈ mm_B := tb_707
theorem sv_Mo_spawn : Cond.selects yy_Mo_spawn.cls yy_Mo_spawn yy_Mo_spawn ∈ mm_B := tb_708
theorem iv_Mo_lives : Cond.instanceMethod yy_Mo_lives ∈ mm_B := tb_712
theorem sv_Mo_lives : Cond.selects yy_Mo_lives.cls yy_Mo_lives yy_Mo_lives ∈ mm_B := tp_29
theorem iv_Mo_rest : Cond.instanceMethod yy_Mo_rest ∈ mm_B := tb_716
theorem sv_Mo_rest : Cond.selects yy_Mo_rest.cls yy_Mo_rest yy_Mo_rest ∈ mm_B := tp_30
theorem iv_Mo_work : Cond.instanceMethod yy_Mo_work ∈ mm_B := tb_720
theorem sv_Mo_work : Cond.selects yy_Mo_work.cls yy_Mo_work yy_Mo_work ∈ mm_B := tp_31
theorem iv_Mo_frozen : Cond.instanceMethod yy_Mo_frozen ∈ mm_B := tb_724
theorem sv_Mo_frozen : Cond.selects yy_Mo_frozen.cls yy_Mo_frozen yy_Mo_frozen ∈ mm_B := tp_32
theorem iv_Mo_pages : Cond.instanceMethod yy_Mo_pages ∈ mm_B := tb_727
theorem sv_Mo_pages : Cond.selects yy_Mo_pages.cls yy_Mo_pages yy_Mo_pages ∈ mm_B := tb_728
theorem iv_Mo_kill : Cond.instanceMethod yy_Mo_kill ∈ mm_B := tb_731
theorem sv_Mo_kill : Cond.selects yy_Mo_kill.cls yy_Mo_kill yy_Mo_kill ∈ mm_B := tb_732
theorem iv_Mo_die : Cond.instanceMethod yy_Mo_die ∈ mm_B := tb_736
theorem sv_Mo_die : Cond.selects yy_Mo_die.cls yy_Mo_die yy_Mo_die ∈ mm_B := tp_33
theorem iv_Mo_names : Cond.instanceMethod yy_Mo_names ∈ mm_B := tb_740
theorem sv_Mo_names : Cond.selects yy_Mo_names.cls yy_Mo_names yy_Mo_names ∈ mm_B := tp_34
theorem iv_Mo_merge : Cond.instanceMethod yy_Mo_merge ∈ mm_B := tb_744
theorem sv_Mo_merge : Cond.selects yy_Mo_merge.cls yy_Mo_merge yy_Mo_merge ∈ mm_B := tp_35
theorem iv_Mo_vanish : Cond.instanceMethod yy_Mo_vanish ∈ mm_B := tb_748
theorem sv_Mo_vanish : Cond.selects yy_Mo_vanish.cls yy_Mo_vanish yy_Mo_vanish ∈ mm_B := tp_36
theorem iv_Mo_free : Cond.instanceMethod yy_Mo_free ∈ mm_B := tb_752
theorem sv_Mo_free : Cond.selects yy_Mo_free.cls yy_Mo_free yy_Mo_free ∈ mm_B := tp_37
theorem iv_Mo_mode : Cond.instanceMethod yy_Mo_mode ∈ mm_B := tb_755
theorem sv_Mo_mode : Cond.selects yy_Mo_mode.cls yy_Mo_mode yy_Mo_mode ∈ mm_B := tb_756
theorem iv_Mo_make : Cond.instanceMethod yy_Mo_make ∈ mm_B := tb_759
theorem sv_Mo_make : Cond.selects yy_Mo_make.cls yy_Mo_make yy_Mo_make ∈ mm_B := tb_760
theorem si_Mo_isRegister : Cond.static yy_Mo_isRegister ∈ mm_B := tb_763
theorem iv_Mo_find : Cond.instanceMethod yy_Mo_find ∈ mm_B := tb_767
theorem sv_Mo_find : Cond.selects yy_Mo_find.cls yy_Mo_find yy_Mo_find ∈ mm_B := tp_38
theorem iv_Mo_fitting : Cond.instanceMethod yy_Mo_fitting ∈ mm_B := tb_771
theorem sv_Mo_fitting : Cond.selects yy_Mo_fitting.cls yy_Mo_fitting yy_Mo_fitting ∈ mm_B := tp_39
theorem iv_Mo_sweep : Cond.instanceMethod yy_Mo_sweep ∈ mm_B := tb_775
theorem sv_Mo_sweep : Cond.selects yy_Mo_sweep.cls yy_Mo_sweep yy_Mo_sweep ∈ mm_B := tp_40
theorem iv_Mo_reach : Cond.instanceMethod yy_Mo_reach ∈ mm_B := tb_779
theorem sv_Mo_reach : Cond.selects yy_Mo_reach.cls yy_Mo_reach yy_Mo_reach ∈ mm_B := tp_41
theorem iv_Mo_root : Cond.instanceMethod yy_Mo_root ∈ mm_B := tb_783
theorem sv_Mo_root : Cond.selects yy_Mo_root.cls yy_Mo_root yy_Mo_root ∈ mm_B := tp_42
theorem iv_Mo_inField : Cond.instanceMethod yy_Mo_inField ∈ mm_B := tb_787
theorem sv_Mo_inField : Cond.selects yy_Mo_inField.cls yy_Mo_inField yy_Mo_inField ∈ mm_B := tp_43
theorem iv_Mo_holds : Cond.instanceMethod yy_Mo_holds ∈ mm_B := tb_791
theorem sv_Mo_holds : Cond.selects yy_Mo_holds.cls yy_Mo_holds yy_Mo_holds ∈ mm_B := tp_44
theorem iv_Mo_store : Cond.instanceMethod yy_Mo_store ∈ mm_B := tb_794
theorem sv_Mo_store : Cond.selects yy_Mo_store.cls yy_Mo_store yy_Mo_store ∈ mm_B := tb_795
theorem iv_Mo_load : Cond.instanceMethod yy_Mo_load ∈ mm_B := tb_798
theorem sv_Mo_load : Cond.selects yy_Mo_load.cls yy_Mo_load yy_Mo_load ∈ mm_B := tb_799
theorem iv_Mo_move : Cond.instanceMethod yy_Mo_move ∈ mm_B := tb_802
theorem sv_Mo_move : Cond.selects yy_Mo_move.cls yy_Mo_move yy_Mo_move ∈ mm_B := tb_803
theorem iv_Mo_begin : Cond.instanceMethod yy_Mo_begin ∈ mm_B := tb_806
theorem sv_Mo_begin : Cond.selects yy_Mo_begin.cls yy_Mo_begin yy_Mo_begin ∈ mm_B := tb_807
theorem iv_Mo_freeze : Cond.instanceMethod yy_Mo_freeze ∈ mm_B := tb_810
theorem sv_Mo_freeze : Cond.selects yy_Mo_freeze.cls yy_Mo_freeze yy_Mo_freeze ∈ mm_B := tb_811
theorem iv_Mo_lookup : Cond.instanceMethod yy_Mo_lookup ∈ mm_B := tb_814
theorem sv_Mo_lookup : Cond.selects yy_Mo_lookup.cls yy_Mo_lookup yy_Mo_lookup ∈ mm_B := tb_815
theorem iv_Mo_collect : Cond.instanceMethod yy_Mo_collect ∈ mm_B := tb_818
theorem sv_Mo_collect : Cond.selects yy_Mo_collect.cls yy_Mo_collect yy_Mo_collect ∈ mm_B := tb_819
theorem iv_Mo_state : Cond.instanceMethod yy_Mo_state ∈ mm_B := tb_822
theorem sv_Mo_state : Cond.selects yy_Mo_state.cls yy_Mo_state yy_Mo_state ∈ mm_B := tb_823
theorem iv_Mo_objects : Cond.instanceMethod yy_Mo_objects ∈ mm_B := tb_827
theorem sv_Mo_objects : Cond.selects yy_Mo_objects.cls yy_Mo_objects yy_Mo_objects ∈ mm_B := tb_828
theorem iv_Mo_items : Cond.instanceMethod yy_Mo_items ∈ mm_B := tb_831
theorem sv_Mo_items : Cond.selects yy_Mo_items.cls yy_Mo_items yy_Mo_items ∈ mm_B := tb_832
theorem iv_Mo_use : Cond.instanceMethod yy_Mo_use ∈ mm_B := tb_835
theorem sv_Mo_use : Cond.selects yy_Mo_use.cls yy_Mo_use yy_Mo_use ∈ mm_B := tb_836
theorem iv_Mo_exists : Cond.instanceMethod yy_Mo_exists ∈ mm_B := tb_840
theorem sv_Mo_exists : Cond.selects yy_Mo_exists.cls yy_Mo_exists yy_Mo_exists ∈ mm_B := tp_45
theorem iv_Mo_room : Cond.instanceMethod yy_Mo_room ∈ mm_B := tb_843
theorem sv_Mo_room : Cond.selects yy_Mo_room.cls yy_Mo_room yy_Mo_room ∈ mm_B := tb_844
theorem iv_Mo_shares : Cond.instanceMethod yy_Mo_shares ∈ mm_B := tb_847
theorem sv_Mo_shares : Cond.selects yy_Mo_shares.cls yy_Mo_shares yy_Mo_shares ∈ mm_B := tb_848
theorem iv_Mo_where : Cond.instanceMethod yy_Mo_where ∈ mm_B := tb_851
theorem sv_Mo_where : Cond.selects yy_Mo_where.cls yy_Mo_where yy_Mo_where ∈ mm_B := tb_852
theorem iv_Mo_tag : Cond.instanceMethod yy_Mo_tag ∈ mm_B := tb_855
theorem sv_Mo_tag : Cond.selects yy_Mo_tag.cls yy_Mo_tag yy_Mo_tag ∈ mm_B := tb_856
theorem ca_0 : mm_As "java/lang/Object" 0 := ⟨by decide, _, _, _, rfl, Or.inr tn_863⟩
theorem ca_1 : mm_As "java/lang/Object" 1 := ⟨by decide, _, _, _, rfl, Or.inr tn_864⟩
theorem ca_3 : mm_As "java/lang/Object" 3 := ⟨by decide, _, _, _, rfl, Or.inr tn_865⟩
theorem ca_4 : mm_As "java/lang/Object" 4 := ⟨by decide, _, _, _, rfl, Or.inr tn_866⟩
theorem ca_5 : mm_As "java/lang/Object" 5 := ⟨by decide, _, _, _, rfl, Or.inr tn_867⟩
theorem ca_6 : mm_As "java/lang/Object" 6 := ⟨by decide, _, _, _, rfl, Or.inr tn_869⟩
theorem ca_7 : mm_As "java/lang/Object" 7 := ⟨by decide, _, _, _, rfl, Or.inr tn_870⟩
theorem ca_8 : mm_As "java/lang/Object" 8 := ⟨by decide, _, _, _, rfl, Or.inr tn_868⟩
theorem cs_0 : mm_As "ProcessHeaps" 0 := ⟨by decide, _, _, _, rfl, Or.inl rfl⟩
theorem cs_1 : mm_As "ProcessHeaps$Memory" 1 := ⟨by decide, _, _, _, rfl, Or.inl rfl⟩
theorem cs_2 : mm_As "java/util/ArrayList" 2 := ⟨by decide, _, _, _, rfl, Or.inl rfl⟩
theorem cs_3 : mm_As "ProcessHeaps$Collector" 3 := ⟨by decide, _, _, _, rfl, Or.inl rfl⟩
theorem cs_4 : mm_As "ProcessHeaps$Limits" 4 := ⟨by decide, _, _, _, rfl, Or.inl rfl⟩
theorem cs_5 : mm_As "ProcessHeaps$HeapProcess" 5 := ⟨by decide, _, _, _, rfl, Or.inl rfl⟩
theorem cs_6 : mm_As "ProcessHeaps$Page" 6 := ⟨by decide, _, _, _, rfl, Or.inl rfl⟩
theorem cs_7 : mm_As "ProcessHeaps$HeapObject" 7 := ⟨by decide, _, _, _, rfl, Or.inl rfl⟩
theorem cs_8 : mm_As "ProcessHeapsModel" 8 := ⟨by decide, _, _, _, rfl, Or.inl rfl⟩
