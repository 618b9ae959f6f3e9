/-! LAID STRETCHES (by program, wip/tools/walk.py): leaves of the class, and the lists -/
abbrev Y_AL_addn : ByteArray × String × Nat × Option FieldType × Bool × Room := (prog_17_method_25_code, "java/util/ArrayList", 2, (some .boolean), false, { frames := 6, cells := 0, slots := 0, locals := 148 })
abbrev Y_AL_add2n : ByteArray × String × Nat × Option FieldType × Bool × Room := (prog_17_method_24_code, "java/util/ArrayList", 4, none, false, { frames := 5, cells := 0, slots := 0, locals := 125 })
set_option maxHeartbeats 4000000 in
set_option maxRecDepth 100000 in
theorem sg_Pr_isLiving {l : Launch} {G : mm_G} {K : Option mm_V → mm_M → Prop} {M : mm_M} {a0 : Nat}
    (h : mm_k M a0 = 6 ∧ ((mm_i M a0 5) = 4 → K (some (.inl 0)) M) ∧ (¬ (mm_i M a0 5) = 4 → K (some (.inl 1)) M)) :
    mm_Ok l G yy_Pr_isLiving Y_Pr_isLiving [.inr (some a0)] M K := by
  refine mm_go (by decide) rfl (fun q => by cases q) (Nat.le_of_ble_eq_true rfl) ?_
  show mm_Z l G Y_Pr_isLiving K M 0 0 0 [some (.inr (some a0))] [] M
  refine mr_aload_n dd_Pr_isLiving_0 rfl ?_
  obtain ⟨hk1, h⟩ := h
  refine mr_geti ff_Pr_17 dd_Pr_isLiving_1 rs_5_5 rfl hk1 ?_
  refine mr_iconst 4 dd_Pr_isLiving_4 (by decide) ?_
  refine mr_icmp_eq 12 dd_Pr_isLiving_5 (by decide) (fun hc5 => ?_) (fun hc5 => ?_)
  · have h := h.1 hc5
    refine mr_iconst 0 dd_Pr_isLiving_12 (by decide) ?_
    exact mr_zreturn dd_Pr_isLiving_13 rfl (Or.inl rfl) h
  · have h := h.2 hc5
    refine mr_iconst 1 dd_Pr_isLiving_8 (by decide) ?_
    refine mr_goto 13 dd_Pr_isLiving_9 (by decide) ?_
    exact mr_zreturn dd_Pr_isLiving_13 rfl (Or.inr rfl) h
set_option maxHeartbeats 4000000 in
set_option maxRecDepth 100000 in
theorem sg_Pr_isInKernelMode {l : Launch} {G : mm_G} {K : Option mm_V → mm_M → Prop} {M : mm_M} {a0 : Nat}
    (h : mm_k M a0 = 6 ∧ ((mm_i M a0 5) = 2 → K (some (.inl 1)) M) ∧ (¬ (mm_i M a0 5) = 2 → (¬ (mm_i M a0 5) = 3 → K (some (.inl 0)) M) ∧ ((mm_i M a0 5) = 3 → K (some (.inl 1)) M))) :
    mm_Ok l G yy_Pr_isInKernelMode Y_Pr_isInKernelMode [.inr (some a0)] M K := by
  refine mm_go (by decide) rfl (fun q => by cases q) (Nat.le_of_ble_eq_true rfl) ?_
  show mm_Z l G Y_Pr_isInKernelMode K M 0 0 0 [some (.inr (some a0))] [] M
  refine mr_aload_n dd_Pr_isInKernelMode_0 rfl ?_
  obtain ⟨hk1, h⟩ := h
  refine mr_geti ff_Pr_17 dd_Pr_isInKernelMode_1 rs_5_5 rfl hk1 ?_
  refine mr_iconst 2 dd_Pr_isInKernelMode_4 (by decide) ?_
  refine mr_icmp_eq 16 dd_Pr_isInKernelMode_5 (by decide) (fun hc5 => ?_) (fun hc5 => ?_)
  · have h := h.1 hc5
    refine mr_iconst 1 dd_Pr_isInKernelMode_16 (by decide) ?_
    refine mr_goto 21 dd_Pr_isInKernelMode_17 (by decide) ?_
    exact mr_zreturn dd_Pr_isInKernelMode_21 rfl (Or.inr rfl) h
  · have h := h.2 hc5
    refine mr_aload_n dd_Pr_isInKernelMode_8 rfl ?_
    refine mr_geti ff_Pr_17 dd_Pr_isInKernelMode_9 rs_5_5 rfl hk1 ?_
    refine mr_iconst 3 dd_Pr_isInKernelMode_12 (by decide) ?_
    refine mr_icmp_ne 20 dd_Pr_isInKernelMode_13 (by decide) (fun hc13 => ?_) (fun hc13 => ?_)
    · have h := h.1 hc13
      refine mr_iconst 0 dd_Pr_isInKernelMode_20 (by decide) ?_
      exact mr_zreturn dd_Pr_isInKernelMode_21 rfl (Or.inl rfl) h
    · have h := h.2 hc13
      refine mr_iconst 1 dd_Pr_isInKernelMode_16 (by decide) ?_
      refine mr_goto 21 dd_Pr_isInKernelMode_17 (by decide) ?_
      exact mr_zreturn dd_Pr_isInKernelMode_21 rfl (Or.inr rfl) h
set_option maxHeartbeats 4000000 in
set_option maxRecDepth 100000 in
theorem sg_Pr_isCharged {l : Launch} {G : mm_G} {K : Option mm_V → mm_M → Prop} {M : mm_M} {a0 : Nat} {xa : Int32}
    (h : mm_k M a0 = 6 ∧ (((mm_i M a0 7) &&& (1 <<< (xa &&& 31))) = 0 → K (some (.inl 0)) M) ∧ (¬ ((mm_i M a0 7) &&& (1 <<< (xa &&& 31))) = 0 → K (some (.inl 1)) M)) :
    mm_Ok l G yy_Pr_isCharged Y_Pr_isCharged [.inr (some a0), .inl xa] M K := by
  refine mm_go (by decide) rfl (fun q => by cases q) (Nat.le_of_ble_eq_true rfl) ?_
  show mm_Z l G Y_Pr_isCharged K M 0 0 0 [some (.inr (some a0)), some (.inl xa)] [] M
  refine mr_aload_n dd_Pr_isCharged_0 rfl ?_
  obtain ⟨hk1, h⟩ := h
  refine mr_geti ff_Pr_24 dd_Pr_isCharged_1 rs_5_7 rfl hk1 ?_
  refine mr_iconst 1 dd_Pr_isCharged_4 (by decide) ?_
  refine mr_iload_n dd_Pr_isCharged_5 rfl ?_
  refine mr_ishl dd_Pr_isCharged_6 ?_
  refine mr_iand dd_Pr_isCharged_7 ?_
  refine mr_if_eq 15 dd_Pr_isCharged_8 (by decide) (fun hc8 => ?_) (fun hc8 => ?_)
  · have h := h.1 hc8
    refine mr_iconst 0 dd_Pr_isCharged_15 (by decide) ?_
    exact mr_zreturn dd_Pr_isCharged_16 rfl (Or.inl rfl) h
  · have h := h.2 hc8
    refine mr_iconst 1 dd_Pr_isCharged_11 (by decide) ?_
    refine mr_goto 16 dd_Pr_isCharged_12 (by decide) ?_
    exact mr_zreturn dd_Pr_isCharged_16 rfl (Or.inr rfl) h
set_option maxHeartbeats 4000000 in
set_option maxRecDepth 100000 in
theorem sg_Pr_addCharge {l : Launch} {G : mm_G} {K : Option mm_V → mm_M → Prop} {M : mm_M} {a0 : Nat} {xa : Int32}
    (h : mm_k M a0 = 6 ∧ K none (mm_si M a0 7 ((mm_i M a0 7) ||| (1 <<< (xa &&& 31))))) :
    mm_Ok l G yy_Pr_addCharge Y_Pr_addCharge [.inr (some a0), .inl xa] M K := by
  refine mm_go (by decide) rfl (fun q => by cases q) (Nat.le_of_ble_eq_true rfl) ?_
  show mm_Z l G Y_Pr_addCharge K M 0 0 0 [some (.inr (some a0)), some (.inl xa)] [] M
  refine mr_aload_n dd_Pr_addCharge_0 rfl ?_
  refine mr_dup dd_Pr_addCharge_1 ?_
  obtain ⟨hk1, h⟩ := h
  refine mr_geti ff_Pr_24 dd_Pr_addCharge_2 rs_5_7 rfl hk1 ?_
  refine mr_iconst 1 dd_Pr_addCharge_5 (by decide) ?_
  refine mr_iload_n dd_Pr_addCharge_6 rfl ?_
  refine mr_ishl dd_Pr_addCharge_7 ?_
  refine mr_ior dd_Pr_addCharge_8 ?_
  refine mr_puti ff_Pr_24 fp_5 (Or.inl rfl) dd_Pr_addCharge_9 (Or.inl (by decide +kernel)) rs_5_7 rfl hk1 ?_
  exact mr_return dd_Pr_addCharge_12 rfl h
set_option maxHeartbeats 4000000 in
set_option maxRecDepth 100000 in
theorem sg_Pr_dropCharge {l : Launch} {G : mm_G} {K : Option mm_V → mm_M → Prop} {M : mm_M} {a0 : Nat} {xa : Int32}
    (h : mm_k M a0 = 6 ∧ K none (mm_si M a0 7 ((mm_i M a0 7) &&& ((1 <<< (xa &&& 31)) ^^^ (-1))))) :
    mm_Ok l G yy_Pr_dropCharge Y_Pr_dropCharge [.inr (some a0), .inl xa] M K := by
  refine mm_go (by decide) rfl (fun q => by cases q) (Nat.le_of_ble_eq_true rfl) ?_
  show mm_Z l G Y_Pr_dropCharge K M 0 0 0 [some (.inr (some a0)), some (.inl xa)] [] M
  refine mr_aload_n dd_Pr_dropCharge_0 rfl ?_
  refine mr_dup dd_Pr_dropCharge_1 ?_
  obtain ⟨hk1, h⟩ := h
  refine mr_geti ff_Pr_24 dd_Pr_dropCharge_2 rs_5_7 rfl hk1 ?_
  refine mr_iconst 1 dd_Pr_dropCharge_5 (by decide) ?_
  refine mr_iload_n dd_Pr_dropCharge_6 rfl ?_
  refine mr_ishl dd_Pr_dropCharge_7 ?_
  refine mr_iconst (-1) dd_Pr_dropCharge_8 (by decide) ?_
  refine mr_ixor dd_Pr_dropCharge_9 ?_
  refine mr_iand dd_Pr_dropCharge_10 ?_
  refine mr_puti ff_Pr_24 fp_5 (Or.inl rfl) dd_Pr_dropCharge_11 (Or.inl (by decide +kernel)) rs_5_7 rfl hk1 ?_
  exact mr_return dd_Pr_dropCharge_14 rfl h
set_option maxHeartbeats 4000000 in
set_option maxRecDepth 100000 in
theorem sg_Pr_heapForMaking {l : Launch} {G : mm_G} {K : Option mm_V → mm_M → Prop} {M : mm_M} {a0 : Nat}
    (h : mm_k M a0 = 6 ∧ mm_Ok l G yy_Pr_isInKernelMode Y_Pr_isInKernelMode [.inr (some a0)] M (fun r M1 => mm_X M M1 → ∃ x4 : Int32, r = some (.inl x4) ∧ (x4 = 0 → (¬ (mm_i M1 a0 6) = (-1) → K (some (.inl (mm_i M1 a0 6))) M1) ∧ ((mm_i M1 a0 6) = (-1) → K (some (.inl (mm_i M1 a0 0))) M1)) ∧ (¬ x4 = 0 → K (some (.inl 8)) M1))) :
    mm_Ok l G yy_Pr_heapForMaking Y_Pr_heapForMaking [.inr (some a0)] M K := by
  refine mm_go (by decide) rfl (fun q => by cases q) (Nat.le_of_ble_eq_true rfl) ?_
  show mm_Z l G Y_Pr_heapForMaking K M 0 0 0 [some (.inr (some a0))] [] M
  refine mr_aload_n dd_Pr_heapForMaking_0 rfl ?_
  obtain ⟨hk3, h⟩ := h
  refine mr_callV0 (Yc := Y_Pr_isInKernelMode) (M := M) (st := []) (vs := []) (ci := 5) fc_Pr_40 iv_Pr_isInKernelMode sv_Pr_isInKernelMode dd_Pr_heapForMaking_1 ⟨Nat.le_of_ble_eq_true rfl, Nat.le_of_ble_eq_true rfl⟩ (by decide) rfl rfl (Nat.le_of_ble_eq_true rfl) rfl hk3 rfl rfl h (fun r M1 hX2 h => ?_)
  replace h := h hX2
  obtain ⟨x4, rfl, h⟩ := h
  show mm_Z l G Y_Pr_heapForMaking K M 0 0 4 [some (.inr (some a0))] [.inl x4] M1
  refine mr_if_eq 10 dd_Pr_heapForMaking_4 (by decide) (fun hc4 => ?_) (fun hc4 => ?_)
  · have h := h.1 hc4
    refine mr_aload_n dd_Pr_heapForMaking_10 rfl ?_
    refine mr_geti ff_Pr_21 dd_Pr_heapForMaking_11 rs_5_6 rfl (mm_Xk hX2 hk3 (by decide)) ?_
    refine mr_iconst (-1) dd_Pr_heapForMaking_14 (by decide) ?_
    refine mr_icmp_ne 25 dd_Pr_heapForMaking_15 (by decide) (fun hc15 => ?_) (fun hc15 => ?_)
    · have h := h.1 hc15
      refine mr_aload_n dd_Pr_heapForMaking_25 rfl ?_
      refine mr_geti ff_Pr_21 dd_Pr_heapForMaking_26 rs_5_6 rfl (mm_Xk hX2 hk3 (by decide)) ?_
      exact mr_ireturn dd_Pr_heapForMaking_29 rfl h
    · have h := h.2 hc15
      refine mr_aload_n dd_Pr_heapForMaking_18 rfl ?_
      refine mr_geti ff_Pr_27 dd_Pr_heapForMaking_19 rs_5_0 rfl (mm_Xk hX2 hk3 (by decide)) ?_
      refine mr_goto 29 dd_Pr_heapForMaking_22 (by decide) ?_
      exact mr_ireturn dd_Pr_heapForMaking_29 rfl h
  · have h := h.2 hc4
    refine mr_bipush 8 dd_Pr_heapForMaking_7 (by decide) ?_
    exact mr_ireturn dd_Pr_heapForMaking_9 rfl h
set_option maxHeartbeats 4000000 in
set_option maxRecDepth 100000 in
theorem sg_Ob_heapNumber {l : Launch} {G : mm_G} {K : Option mm_V → mm_M → Prop} {M : mm_M} {a0 : Nat}
    (h : mm_k M a0 = 8 ∧ ∃ a2 : Nat, (mm_p M a0 0) = some a2 ∧ mm_k M a2 = 7 ∧ K (some (.inl (mm_i M a2 0))) M) :
    mm_Ok l G yy_Ob_heapNumber Y_Ob_heapNumber [.inr (some a0)] M K := by
  refine mm_go (by decide) rfl (fun q => by cases q) (Nat.le_of_ble_eq_true rfl) ?_
  show mm_Z l G Y_Ob_heapNumber K M 0 0 0 [some (.inr (some a0))] [] M
  refine mr_aload_n dd_Ob_heapNumber_0 rfl ?_
  obtain ⟨hk1, h⟩ := h
  refine mr_getr ff_Ob_23 dd_Ob_heapNumber_1 rs_7_0 rfl hk1 ?_
  obtain ⟨a2, ho3, h⟩ := h
  obtain ⟨hk4, h⟩ := h
  refine mr_geti ff_Ob_33 dd_Ob_heapNumber_4 rs_6_0 ho3 hk4 ?_
  exact mr_ireturn dd_Ob_heapNumber_7 rfl h
set_option maxHeartbeats 4000000 in
set_option maxRecDepth 100000 in
theorem sg_Ob_hasAnyItem {l : Launch} {G : mm_G} {K : Option mm_V → mm_M → Prop} {M : mm_M} {a0 : Nat}
    (h : mm_k M a0 = 8 ∧ ((mm_i M a0 5) = 0 → K (some (.inl 0)) M) ∧ (¬ (mm_i M a0 5) = 0 → K (some (.inl 1)) M)) :
    mm_Ok l G yy_Ob_hasAnyItem Y_Ob_hasAnyItem [.inr (some a0)] M K := by
  refine mm_go (by decide) rfl (fun q => by cases q) (Nat.le_of_ble_eq_true rfl) ?_
  show mm_Z l G Y_Ob_hasAnyItem K M 0 0 0 [some (.inr (some a0))] [] M
  refine mr_aload_n dd_Ob_hasAnyItem_0 rfl ?_
  obtain ⟨hk1, h⟩ := h
  refine mr_geti ff_Ob_19 dd_Ob_hasAnyItem_1 rs_7_5 rfl hk1 ?_
  refine mr_if_eq 11 dd_Ob_hasAnyItem_4 (by decide) (fun hc4 => ?_) (fun hc4 => ?_)
  · have h := h.1 hc4
    refine mr_iconst 0 dd_Ob_hasAnyItem_11 (by decide) ?_
    exact mr_zreturn dd_Ob_hasAnyItem_12 rfl (Or.inl rfl) h
  · have h := h.2 hc4
    refine mr_iconst 1 dd_Ob_hasAnyItem_7 (by decide) ?_
    refine mr_goto 12 dd_Ob_hasAnyItem_8 (by decide) ?_
    exact mr_zreturn dd_Ob_hasAnyItem_12 rfl (Or.inr rfl) h
set_option maxHeartbeats 4000000 in
set_option maxRecDepth 100000 in
theorem sg_Ob_hasItem {l : Launch} {G : mm_G} {K : Option mm_V → mm_M → Prop} {M : mm_M} {a0 : Nat} {xa : Int32}
    (h : mm_k M a0 = 8 ∧ (((mm_i M a0 5) &&& (1 <<< (xa &&& 31))) = 0 → K (some (.inl 0)) M) ∧ (¬ ((mm_i M a0 5) &&& (1 <<< (xa &&& 31))) = 0 → K (some (.inl 1)) M)) :
    mm_Ok l G yy_Ob_hasItem Y_Ob_hasItem [.inr (some a0), .inl xa] M K := by
  refine mm_go (by decide) rfl (fun q => by cases q) (Nat.le_of_ble_eq_true rfl) ?_
  show mm_Z l G Y_Ob_hasItem K M 0 0 0 [some (.inr (some a0)), some (.inl xa)] [] M
  refine mr_aload_n dd_Ob_hasItem_0 rfl ?_
  obtain ⟨hk1, h⟩ := h
  refine mr_geti ff_Ob_19 dd_Ob_hasItem_1 rs_7_5 rfl hk1 ?_
  refine mr_iconst 1 dd_Ob_hasItem_4 (by decide) ?_
  refine mr_iload_n dd_Ob_hasItem_5 rfl ?_
  refine mr_ishl dd_Ob_hasItem_6 ?_
  refine mr_iand dd_Ob_hasItem_7 ?_
  refine mr_if_eq 15 dd_Ob_hasItem_8 (by decide) (fun hc8 => ?_) (fun hc8 => ?_)
  · have h := h.1 hc8
    refine mr_iconst 0 dd_Ob_hasItem_15 (by decide) ?_
    exact mr_zreturn dd_Ob_hasItem_16 rfl (Or.inl rfl) h
  · have h := h.2 hc8
    refine mr_iconst 1 dd_Ob_hasItem_11 (by decide) ?_
    refine mr_goto 16 dd_Ob_hasItem_12 (by decide) ?_
    exact mr_zreturn dd_Ob_hasItem_16 rfl (Or.inr rfl) h
set_option maxHeartbeats 4000000 in
set_option maxRecDepth 100000 in
theorem sg_Ob_addItem {l : Launch} {G : mm_G} {K : Option mm_V → mm_M → Prop} {M : mm_M} {a0 : Nat} {xa : Int32}
    (h : mm_k M a0 = 8 ∧ K none (mm_si M a0 5 ((mm_i M a0 5) ||| (1 <<< (xa &&& 31))))) :
    mm_Ok l G yy_Ob_addItem Y_Ob_addItem [.inr (some a0), .inl xa] M K := by
  refine mm_go (by decide) rfl (fun q => by cases q) (Nat.le_of_ble_eq_true rfl) ?_
  show mm_Z l G Y_Ob_addItem K M 0 0 0 [some (.inr (some a0)), some (.inl xa)] [] M
  refine mr_aload_n dd_Ob_addItem_0 rfl ?_
  refine mr_dup dd_Ob_addItem_1 ?_
  obtain ⟨hk1, h⟩ := h
  refine mr_geti ff_Ob_19 dd_Ob_addItem_2 rs_7_5 rfl hk1 ?_
  refine mr_iconst 1 dd_Ob_addItem_5 (by decide) ?_
  refine mr_iload_n dd_Ob_addItem_6 rfl ?_
  refine mr_ishl dd_Ob_addItem_7 ?_
  refine mr_ior dd_Ob_addItem_8 ?_
  refine mr_puti ff_Ob_19 fp_7 (Or.inl rfl) dd_Ob_addItem_9 (Or.inl (by decide +kernel)) rs_7_5 rfl hk1 ?_
  exact mr_return dd_Ob_addItem_12 rfl h
set_option maxHeartbeats 4000000 in
set_option maxRecDepth 100000 in
theorem sg_Ob_dropItem {l : Launch} {G : mm_G} {K : Option mm_V → mm_M → Prop} {M : mm_M} {a0 : Nat} {xa : Int32}
    (h : mm_k M a0 = 8 ∧ K none (mm_si M a0 5 ((mm_i M a0 5) &&& ((1 <<< (xa &&& 31)) ^^^ (-1))))) :
    mm_Ok l G yy_Ob_dropItem Y_Ob_dropItem [.inr (some a0), .inl xa] M K := by
  refine mm_go (by decide) rfl (fun q => by cases q) (Nat.le_of_ble_eq_true rfl) ?_
  show mm_Z l G Y_Ob_dropItem K M 0 0 0 [some (.inr (some a0)), some (.inl xa)] [] M
  refine mr_aload_n dd_Ob_dropItem_0 rfl ?_
  refine mr_dup dd_Ob_dropItem_1 ?_
  obtain ⟨hk1, h⟩ := h
  refine mr_geti ff_Ob_19 dd_Ob_dropItem_2 rs_7_5 rfl hk1 ?_
  refine mr_iconst 1 dd_Ob_dropItem_5 (by decide) ?_
  refine mr_iload_n dd_Ob_dropItem_6 rfl ?_
  refine mr_ishl dd_Ob_dropItem_7 ?_
  refine mr_iconst (-1) dd_Ob_dropItem_8 (by decide) ?_
  refine mr_ixor dd_Ob_dropItem_9 ?_
  refine mr_iand dd_Ob_dropItem_10 ?_
  refine mr_puti ff_Ob_19 fp_7 (Or.inl rfl) dd_Ob_dropItem_11 (Or.inl (by decide +kernel)) rs_7_5 rfl hk1 ?_
  exact mr_return dd_Ob_dropItem_14 rfl h
set_option maxHeartbeats 4000000 in
set_option maxRecDepth 100000 in
theorem sg_Ob_addItemFor {l : Launch} {G : mm_G} {K : Option mm_V → mm_M → Prop} {M : mm_M} {a0 : Nat} {oa : Option Nat}
    (h : (oa = none → K none M) ∧ (∀ a1 : Nat, oa = some a1 → mm_k M a1 = 8 ∧ mm_Ok l G yy_Ob_heapNumber Y_Ob_heapNumber [.inr (some a1)] M (fun r M2 => mm_X M M2 → ∃ x5 : Int32, r = some (.inl x5) ∧ mm_k M2 a0 = 8 ∧ mm_Ok l G yy_Ob_heapNumber Y_Ob_heapNumber [.inr (some a0)] M2 (fun r M6 => mm_X M2 M6 → ∃ x9 : Int32, r = some (.inl x9) ∧ (x5 = x9 → K none M6) ∧ (¬ x5 = x9 → mm_Ok l G yy_Ob_heapNumber Y_Ob_heapNumber [.inr (some a0)] M6 (fun r M10 => mm_X M6 M10 → ∃ x12 : Int32, r = some (.inl x12) ∧ mm_Ok l G yy_Ob_addItem Y_Ob_addItem [.inr (some a1), .inl x12] M10 (fun r M13 => mm_X M10 M13 → r = none ∧ K none M13))))))) :
    mm_Ok l G yy_Ob_addItemFor Y_Ob_addItemFor [.inr (some a0), .inr oa] M K := by
  refine mm_go (by decide) rfl (fun q => by cases q) (Nat.le_of_ble_eq_true rfl) ?_
  show mm_Z l G Y_Ob_addItemFor K M 0 0 0 [some (.inr (some a0)), some (.inr oa)] [] M
  refine mr_aload_n dd_Ob_addItemFor_0 rfl ?_
  refine mr_ifnull 23 dd_Ob_addItemFor_1 (by decide) (fun hc1 => ?_) (fun a1 hc1 => ?_)
  · have h := h.1 hc1
    exact mr_return dd_Ob_addItemFor_23 rfl h
  · have h := h.2 a1 hc1
    refine mr_aload_n dd_Ob_addItemFor_4 rfl ?_
    obtain ⟨hk4, h⟩ := h
    refine mr_callV0 (Yc := Y_Ob_heapNumber) (M := M) (st := []) (vs := []) (ci := 7) fc_Ob_42 iv_Ob_heapNumber sv_Ob_heapNumber dd_Ob_addItemFor_5 ⟨Nat.le_of_ble_eq_true rfl, Nat.le_of_ble_eq_true rfl⟩ (by decide) rfl rfl (Nat.le_of_ble_eq_true rfl) hc1 hk4 rfl rfl h (fun r M2 hX3 h => ?_)
    replace h := h hX3
    obtain ⟨x5, rfl, h⟩ := h
    show mm_Z l G Y_Ob_addItemFor K M 0 0 8 [some (.inr (some a0)), some (.inr oa)] [.inl x5] M2
    refine mr_aload_n dd_Ob_addItemFor_8 rfl ?_
    obtain ⟨hk8, h⟩ := h
    refine mr_callV0 (Yc := Y_Ob_heapNumber) (M := M2) (st := [.inl x5]) (vs := []) (ci := 7) fc_Ob_42 iv_Ob_heapNumber sv_Ob_heapNumber dd_Ob_addItemFor_9 ⟨Nat.le_of_ble_eq_true rfl, Nat.le_of_ble_eq_true rfl⟩ (by decide) rfl rfl (Nat.le_of_ble_eq_true rfl) rfl hk8 rfl rfl h (fun r M6 hX7 h => ?_)
    replace h := h hX7
    obtain ⟨x9, rfl, h⟩ := h
    show mm_Z l G Y_Ob_addItemFor K M 0 0 12 [some (.inr (some a0)), some (.inr oa)] [.inl x9, .inl x5] M6
    refine mr_icmp_eq 23 dd_Ob_addItemFor_12 (by decide) (fun hc12 => ?_) (fun hc12 => ?_)
    · have h := h.1 hc12
      exact mr_return dd_Ob_addItemFor_23 rfl h
    · have h := h.2 hc12
      refine mr_aload_n dd_Ob_addItemFor_15 rfl ?_
      refine mr_aload_n dd_Ob_addItemFor_16 rfl ?_
      refine mr_callV0 (Yc := Y_Ob_heapNumber) (M := M6) (st := [.inr oa]) (vs := []) (ci := 7) fc_Ob_42 iv_Ob_heapNumber sv_Ob_heapNumber dd_Ob_addItemFor_17 ⟨Nat.le_of_ble_eq_true rfl, Nat.le_of_ble_eq_true rfl⟩ (by decide) rfl rfl (Nat.le_of_ble_eq_true rfl) rfl (mm_Xk hX7 hk8 (by decide)) rfl rfl h (fun r M10 hX11 h => ?_)
      replace h := h hX11
      obtain ⟨x12, rfl, h⟩ := h
      show mm_Z l G Y_Ob_addItemFor K M 0 0 20 [some (.inr (some a0)), some (.inr oa)] [.inl x12, .inr oa] M10
      refine mr_callV0 (Yc := Y_Ob_addItem) (M := M10) (st := []) (vs := [.inl x12]) (ci := 7) fc_Ob_46 iv_Ob_addItem sv_Ob_addItem dd_Ob_addItemFor_20 ⟨Nat.le_of_ble_eq_true rfl, Nat.le_of_ble_eq_true rfl⟩ (by decide) rfl rfl (Nat.le_of_ble_eq_true rfl) hc1 (mm_Xk hX11 (mm_Xk hX7 (mm_Xk hX3 hk4 (by decide)) (by decide)) (by decide)) rfl rfl h (fun r M13 hX14 h => ?_)
      replace h := h hX14
      obtain ⟨rfl, h⟩ := h
      show mm_Z l G Y_Ob_addItemFor K M 0 0 23 [some (.inr (some a0)), some (.inr oa)] [] M13
      exact mr_return dd_Ob_addItemFor_23 rfl h
set_option maxHeartbeats 4000000 in
set_option maxRecDepth 100000 in
theorem sg_Ob_setField {l : Launch} {G : mm_G} {K : Option mm_V → mm_M → Prop} {M : mm_M} {a0 : Nat} {xa : Int32} {ob : Option Nat}
    (h : mm_k M a0 = 8 ∧ ∃ a2 : Nat, (mm_p M a0 3) = some a2 ∧ mm_k M a2 = 103 ∧ ∃ j5 : Nat, xa = nI j5 ∧ j5 < 2147483648 ∧ j5 < mm_l M a2 ∧ (∀ q, ob = some q → mm_k M q = 8) ∧ mm_Ok l G yy_Ob_addItemFor Y_Ob_addItemFor [.inr (some a0), .inr ob] (mm_sp M a2 j5 ob) (fun r M10 => mm_X (mm_sp M a2 j5 ob) M10 → r = none ∧ K none M10)) :
    mm_Ok l G yy_Ob_setField Y_Ob_setField [.inr (some a0), .inl xa, .inr ob] M K := by
  refine mm_go (by decide) rfl (fun q => by cases q) (Nat.le_of_ble_eq_true rfl) ?_
  show mm_Z l G Y_Ob_setField K M 0 0 0 [some (.inr (some a0)), some (.inl xa), some (.inr ob)] [] M
  refine mr_aload_n dd_Ob_setField_0 rfl ?_
  obtain ⟨hk1, h⟩ := h
  refine mr_getr ff_Ob_11 dd_Ob_setField_1 rs_7_3 rfl hk1 ?_
  refine mr_iload_n dd_Ob_setField_4 rfl ?_
  refine mr_aload_n dd_Ob_setField_5 rfl ?_
  obtain ⟨a2, ho3, h⟩ := h
  obtain ⟨hk4, h⟩ := h
  obtain ⟨j5, hj6, hm7, hl8, h⟩ := h
  obtain ⟨hv9, h⟩ := h
  refine mr_aast (t := 3) (E := "ProcessHeaps$HeapObject") dd_Ob_setField_6 ho3 hk4 (fun _ => rfl) (by decide) (by decide) hj6 hm7 hl8 (fun q e => ⟨7, hv9 q e, cs_7⟩) ?_
  refine mr_aload_n dd_Ob_setField_7 rfl ?_
  refine mr_aload_n dd_Ob_setField_8 rfl ?_
  refine mr_callV0 (Yc := Y_Ob_addItemFor) (M := (mm_sp M a2 j5 ob)) (st := []) (vs := [.inr ob]) (ci := 7) fc_Ob_38 iv_Ob_addItemFor sv_Ob_addItemFor dd_Ob_setField_9 ⟨Nat.le_of_ble_eq_true rfl, Nat.le_of_ble_eq_true rfl⟩ (by decide) rfl rfl (Nat.le_of_ble_eq_true rfl) rfl hk1 rfl rfl h (fun r M10 hX11 h => ?_)
  replace h := h hX11
  obtain ⟨rfl, h⟩ := h
  show mm_Z l G Y_Ob_setField K M 0 0 12 [some (.inr (some a0)), some (.inl xa), some (.inr ob)] [] M10
  exact mr_return dd_Ob_setField_12 rfl h
set_option maxHeartbeats 4000000 in
set_option maxRecDepth 100000 in
theorem sg_Ob_init {l : Launch} {G : mm_G} {K : Option mm_V → mm_M → Prop} {M : mm_M} {a0 : Nat} {oa : Option Nat} {xb : Int32} {xc : Int32}
    (h : ∀ q1, q1 = mm_z M → mm_k (mm_nw M 103 3) a0 = 8 ∧ K none (mm_si (mm_si (mm_sp (mm_si (mm_si (mm_sp (mm_nw M 103 3) a0 3 (some q1)) a0 4 0) a0 5 0) a0 0 oa) a0 1 xb) a0 2 xc)) :
    mm_Ok l G yy_Ob_init Y_Ob_init [.inr (some a0), .inr oa, .inl xb, .inl xc] M K := by
  refine mm_go (by decide) rfl (fun _ => rfl) (Nat.le_of_ble_eq_true rfl) ?_
  show mm_Z l G Y_Ob_init K M 1 3 0 [some (.inr (some a0)), some (.inr oa), some (.inl xb), some (.inl xc)] [] M
  refine mr_aload_n dd_Ob_init_0 rfl ?_
  refine mr_obji dd_Ob_init_1 tb_489 tb_24 tb_25 ⟨Nat.le_of_ble_eq_true rfl, Nat.le_of_ble_eq_true rfl⟩ rfl ?_
  refine mr_aload_n dd_Ob_init_4 rfl ?_
  refine mr_iconst 3 dd_Ob_init_5 (by decide) ?_
  refine mr_newq (t := 3) (n := 3) dd_Ob_init_6 tb_490 tn_74 (by decide) (by decide) (fun _ => rfl) rfl (by decide) ?_
  generalize hq2 : mm_z M = q1
  have h := h q1 hq2.symm
  obtain ⟨hk3, h⟩ := h
  refine mr_putr ff_Ob_11 fp_7 (Or.inr ⟨rfl, rfl, tb_497⟩) dd_Ob_init_9 (ty := tt7 3) (by decide +kernel) (Or.inr ⟨_, rfl⟩) rs_7_3 rfl hk3 ?_
  refine mr_aload_n dd_Ob_init_12 rfl ?_
  refine mr_iconst 0 dd_Ob_init_13 (by decide) ?_
  refine mr_puti ff_Ob_15 fp_7 (Or.inl rfl) dd_Ob_init_14 (Or.inr ⟨by decide +kernel, (Or.inl rfl)⟩) rs_7_4 rfl hk3 ?_
  refine mr_aload_n dd_Ob_init_17 rfl ?_
  refine mr_iconst 0 dd_Ob_init_18 (by decide) ?_
  refine mr_puti ff_Ob_19 fp_7 (Or.inl rfl) dd_Ob_init_19 (Or.inl (by decide +kernel)) rs_7_5 rfl hk3 ?_
  refine mr_aload_n dd_Ob_init_22 rfl ?_
  refine mr_aload_n dd_Ob_init_23 rfl ?_
  refine mr_putr ff_Ob_23 fp_7 (Or.inr ⟨rfl, rfl, tb_491⟩) dd_Ob_init_24 (ty := tt7 0) (by decide +kernel) (Or.inl ⟨_, rfl⟩) rs_7_0 rfl hk3 ?_
  refine mr_aload_n dd_Ob_init_27 rfl ?_
  refine mr_iload_n dd_Ob_init_28 rfl ?_
  refine mr_puti ff_Ob_27 fp_7 (Or.inr ⟨rfl, rfl, tb_493⟩) dd_Ob_init_29 (Or.inl (by decide +kernel)) rs_7_1 rfl hk3 ?_
  refine mr_aload_n dd_Ob_init_32 rfl ?_
  refine mr_iload_n dd_Ob_init_33 rfl ?_
  refine mr_puti ff_Ob_30 fp_7 (Or.inr ⟨rfl, rfl, tb_495⟩) dd_Ob_init_34 (Or.inl (by decide +kernel)) rs_7_2 rfl hk3 ?_
  exact mr_return dd_Ob_init_37 rfl h
set_option maxHeartbeats 4000000 in
set_option maxRecDepth 100000 in
theorem sg_Pa_init {l : Launch} {G : mm_G} {K : Option mm_V → mm_M → Prop} {M : mm_M} {a0 : Nat} {xa : Int32} {xb : Int32}
    (h : mm_k M a0 = 7 ∧ K none (mm_si (mm_si (mm_si M a0 2 16) a0 0 xa) a0 1 xb)) :
    mm_Ok l G yy_Pa_init Y_Pa_init [.inr (some a0), .inl xa, .inl xb] M K := by
  refine mm_go (by decide) rfl (fun _ => rfl) (Nat.le_of_ble_eq_true rfl) ?_
  show mm_Z l G Y_Pa_init K M 0 0 0 [some (.inr (some a0)), some (.inl xa), some (.inl xb)] [] M
  refine mr_aload_n dd_Pa_init_0 rfl ?_
  refine mr_obji dd_Pa_init_1 tb_415 tb_24 tb_25 ⟨Nat.le_of_ble_eq_true rfl, Nat.le_of_ble_eq_true rfl⟩ rfl ?_
  refine mr_aload_n dd_Pa_init_4 rfl ?_
  refine mr_bipush 16 dd_Pa_init_5 (by decide) ?_
  obtain ⟨hk1, h⟩ := h
  refine mr_puti ff_Pa_9 fp_6 (Or.inl rfl) dd_Pa_init_7 (Or.inl (by decide +kernel)) rs_6_2 rfl hk1 ?_
  refine mr_aload_n dd_Pa_init_10 rfl ?_
  refine mr_iload_n dd_Pa_init_11 rfl ?_
  refine mr_puti ff_Pa_15 fp_6 (Or.inl rfl) dd_Pa_init_12 (Or.inl (by decide +kernel)) rs_6_0 rfl hk1 ?_
  refine mr_aload_n dd_Pa_init_15 rfl ?_
  refine mr_iload_n dd_Pa_init_16 rfl ?_
  refine mr_puti ff_Pa_18 fp_6 (Or.inl rfl) dd_Pa_init_17 (Or.inl (by decide +kernel)) rs_6_1 rfl hk1 ?_
  exact mr_return dd_Pa_init_20 rfl h
set_option maxHeartbeats 4000000 in
set_option maxRecDepth 100000 in
theorem sg_Pr_init {l : Launch} {G : mm_G} {K : Option mm_V → mm_M → Prop} {M : mm_M} {a0 : Nat} {xa : Int32} {xb : Int32} {xc : Int32} {xd : Int32}
    (h : ∀ q1, q1 = mm_z M → mm_k (mm_nw M 103 4) a0 = 6 ∧ (xd = 0 ∨ xd = 1) ∧ K none (mm_si (mm_si (mm_si (mm_si (mm_si (mm_si (mm_si (mm_sp (mm_nw M 103 4) a0 4 (some q1)) a0 5 1) a0 6 (-1)) a0 7 0) a0 0 xa) a0 1 xb) a0 2 xc) a0 3 xd)) :
    mm_Ok l G yy_Pr_init Y_Pr_init [.inr (some a0), .inl xa, .inl xb, .inl xc, .inl xd] M K := by
  refine mm_go (by decide) rfl (fun _ => rfl) (Nat.le_of_ble_eq_true rfl) ?_
  show mm_Z l G Y_Pr_init K M 1 4 0 [some (.inr (some a0)), some (.inl xa), some (.inl xb), some (.inl xc), some (.inl xd)] [] M
  refine mr_aload_n dd_Pr_init_0 rfl ?_
  refine mr_obji dd_Pr_init_1 tb_116 tb_24 tb_25 ⟨Nat.le_of_ble_eq_true rfl, Nat.le_of_ble_eq_true rfl⟩ rfl ?_
  refine mr_aload_n dd_Pr_init_4 rfl ?_
  refine mr_iconst 4 dd_Pr_init_5 (by decide) ?_
  refine mr_newq (t := 3) (n := 4) dd_Pr_init_6 tb_117 tn_74 (by decide) (by decide) (fun _ => rfl) rfl (by decide) ?_
  generalize hq2 : mm_z M = q1
  have h := h q1 hq2.symm
  obtain ⟨hk3, h⟩ := h
  refine mr_putr ff_Pr_11 fp_5 (Or.inr ⟨rfl, rfl, tb_127⟩) dd_Pr_init_9 (ty := tt5 4) (by decide +kernel) (Or.inr ⟨_, rfl⟩) rs_5_4 rfl hk3 ?_
  refine mr_aload_n dd_Pr_init_12 rfl ?_
  refine mr_iconst 1 dd_Pr_init_13 (by decide) ?_
  refine mr_puti ff_Pr_17 fp_5 (Or.inl rfl) dd_Pr_init_14 (Or.inl (by decide +kernel)) rs_5_5 rfl hk3 ?_
  refine mr_aload_n dd_Pr_init_17 rfl ?_
  refine mr_iconst (-1) dd_Pr_init_18 (by decide) ?_
  refine mr_puti ff_Pr_21 fp_5 (Or.inl rfl) dd_Pr_init_19 (Or.inl (by decide +kernel)) rs_5_6 rfl hk3 ?_
  refine mr_aload_n dd_Pr_init_22 rfl ?_
  refine mr_iconst 0 dd_Pr_init_23 (by decide) ?_
  refine mr_puti ff_Pr_24 fp_5 (Or.inl rfl) dd_Pr_init_24 (Or.inl (by decide +kernel)) rs_5_7 rfl hk3 ?_
  refine mr_aload_n dd_Pr_init_27 rfl ?_
  refine mr_iload_n dd_Pr_init_28 rfl ?_
  refine mr_puti ff_Pr_27 fp_5 (Or.inr ⟨rfl, rfl, tb_118⟩) dd_Pr_init_29 (Or.inl (by decide +kernel)) rs_5_0 rfl hk3 ?_
  refine mr_aload_n dd_Pr_init_32 rfl ?_
  refine mr_iload_n dd_Pr_init_33 rfl ?_
  refine mr_puti ff_Pr_30 fp_5 (Or.inr ⟨rfl, rfl, tb_121⟩) dd_Pr_init_34 (Or.inl (by decide +kernel)) rs_5_1 rfl hk3 ?_
  refine mr_aload_n dd_Pr_init_37 rfl ?_
  refine mr_iload_n dd_Pr_init_38 rfl ?_
  refine mr_puti ff_Pr_33 fp_5 (Or.inr ⟨rfl, rfl, tb_123⟩) dd_Pr_init_39 (Or.inl (by decide +kernel)) rs_5_2 rfl hk3 ?_
  refine mr_aload_n dd_Pr_init_42 rfl ?_
  refine mr_iload dd_Pr_init_43 rfl ?_
  obtain ⟨hz4, h⟩ := h
  refine mr_puti ff_Pr_36 fp_5 (Or.inr ⟨rfl, rfl, tb_125⟩) dd_Pr_init_45 (Or.inr ⟨by decide +kernel, hz4⟩) rs_5_3 rfl hk3 ?_
  exact mr_return dd_Pr_init_48 rfl h
set_option maxHeartbeats 4000000 in
set_option maxRecDepth 100000 in
theorem sg_AL_size {l : Launch} {G : mm_G} {K : Option mm_V → mm_M → Prop} {M : mm_M} {a0 : Nat}
    (h : mm_k M a0 = 3 ∧ K (some (.inl (mm_i M a0 1))) M) :
    mm_Ok l G yy_AL_size Y_AL_size [.inr (some a0)] M K := by
  refine mm_go (by decide) rfl (fun q => by cases q) (Nat.le_of_ble_eq_true rfl) ?_
  show mm_Z l G Y_AL_size K M 0 0 0 [some (.inr (some a0))] [] M
  refine mr_aload_n dd_AL_size_0 rfl ?_
  obtain ⟨hk1, h⟩ := h
  refine mr_geti ff_AL_48 dd_AL_size_1 rs_2_1 rfl hk1 ?_
  exact mr_ireturn dd_AL_size_4 rfl h
set_option maxHeartbeats 4000000 in
set_option maxRecDepth 100000 in
theorem sg_AL_elementData {l : Launch} {G : mm_G} {K : Option mm_V → mm_M → Prop} {M : mm_M} {a0 : Nat} {xa : Int32}
    (h : mm_k M a0 = 3 ∧ ∃ a2 : Nat, (mm_p M a0 0) = some a2 ∧ mm_k M a2 = 102 ∧ ∃ j5 : Nat, xa = nI j5 ∧ j5 < 2147483648 ∧ j5 < mm_l M a2 ∧ K (some (.inr (mm_p M a2 j5))) M) :
    mm_Ok l G yy_AL_elementData Y_AL_elementData [.inr (some a0), .inl xa] M K := by
  refine mm_go (by decide) rfl (fun q => by cases q) (Nat.le_of_ble_eq_true rfl) ?_
  show mm_Z l G Y_AL_elementData K M 0 0 0 [some (.inr (some a0)), some (.inl xa)] [] M
  refine mr_aload_n dd_AL_elementData_0 rfl ?_
  obtain ⟨hk1, h⟩ := h
  refine mr_getr ff_AL_9 dd_AL_elementData_1 rs_2_0 rfl hk1 ?_
  refine mr_iload_n dd_AL_elementData_4 rfl ?_
  obtain ⟨a2, ho3, h⟩ := h
  obtain ⟨hk4, h⟩ := h
  obtain ⟨j5, hj6, hm7, hl8, h⟩ := h
  refine mr_aald (t := 2) dd_AL_elementData_5 ho3 hk4 (fun _ => rfl) (by decide) hj6 hm7 hl8 ?_
  exact mr_areturn dd_AL_elementData_6 rfl (Or.inl ⟨_, rfl⟩) h
set_option maxHeartbeats 4000000 in
set_option maxRecDepth 100000 in
theorem sg_Pc_checkIndex {l : Launch} {G : mm_G} {K : Option mm_V → mm_M → Prop} {M : mm_M} {xa : Int32} {xb : Int32} {oc : Option Nat}
    (h : (xa < 0 → False) ∧ (¬ xa < 0 → (xa < xb → K (some (.inl xa)) M) ∧ (¬ xa < xb → False))) :
    mm_Ok l G yy_Pc_checkIndex Y_Pc_checkIndex [.inl xa, .inl xb, .inr oc] M K := by
  refine mm_go (by decide) rfl (fun q => by cases q) (Nat.le_of_ble_eq_true rfl) ?_
  show mm_Z l G Y_Pc_checkIndex K M 0 0 0 [some (.inl xa), some (.inl xb), some (.inr oc)] [] M
  refine mr_iload_n dd_Pc_checkIndex_0 rfl ?_
  refine mr_if_lt 9 dd_Pc_checkIndex_1 (by decide) (fun hc1 => ?_) (fun hc1 => ?_)
  · have h := h.1 hc1
    refine mr_aload_n dd_Pc_checkIndex_9 rfl ?_
    refine mr_iload_n dd_Pc_checkIndex_10 rfl ?_
    refine mr_iload_n dd_Pc_checkIndex_11 rfl ?_
    exact h.elim
  · have h := h.2 hc1
    refine mr_iload_n dd_Pc_checkIndex_4 rfl ?_
    refine mr_iload_n dd_Pc_checkIndex_5 rfl ?_
    refine mr_icmp_lt 16 dd_Pc_checkIndex_6 (by decide) (fun hc6 => ?_) (fun hc6 => ?_)
    · have h := h.1 hc6
      refine mr_iload_n dd_Pc_checkIndex_16 rfl ?_
      exact mr_ireturn dd_Pc_checkIndex_17 rfl h
    · have h := h.2 hc6
      refine mr_aload_n dd_Pc_checkIndex_9 rfl ?_
      refine mr_iload_n dd_Pc_checkIndex_10 rfl ?_
      refine mr_iload_n dd_Pc_checkIndex_11 rfl ?_
      exact h.elim
set_option maxHeartbeats 4000000 in
set_option maxRecDepth 100000 in
theorem sg_Os_checkIndex {l : Launch} {G : mm_G} {K : Option mm_V → mm_M → Prop} {M : mm_M} {xa : Int32} {xb : Int32}
    (h : mm_Ok l G yy_Pc_checkIndex Y_Pc_checkIndex [.inl xa, .inl xb, .inr none] M (fun r M1 => mm_X M M1 → ∃ x3 : Int32, r = some (.inl x3) ∧ K (some (.inl x3)) M1)) :
    mm_Ok l G yy_Os_checkIndex Y_Os_checkIndex [.inl xa, .inl xb] M K := by
  refine mm_go (by decide) rfl (fun q => by cases q) (Nat.le_of_ble_eq_true rfl) ?_
  show mm_Z l G Y_Os_checkIndex K M 0 0 0 [some (.inl xa), some (.inl xb)] [] M
  refine mr_iload_n dd_Os_checkIndex_0 rfl ?_
  refine mr_iload_n dd_Os_checkIndex_1 rfl ?_
  refine mr_null dd_Os_checkIndex_2 ?_
  refine mr_callS0 (Yc := Y_Pc_checkIndex) (M := M) (st := []) (vs := [.inl xa, .inl xb, .inr none]) fc_Os_105 si_Pc_checkIndex dd_Os_checkIndex_3 ⟨Nat.le_of_ble_eq_true rfl, Nat.le_of_ble_eq_true rfl⟩ rfl (Nat.le_of_ble_eq_true rfl) rfl rfl h (fun r M1 hX2 h => ?_)
  replace h := h hX2
  obtain ⟨x3, rfl, h⟩ := h
  show mm_Z l G Y_Os_checkIndex K M 0 0 6 [some (.inl xa), some (.inl xb)] [.inl x3] M1
  exact mr_ireturn dd_Os_checkIndex_6 rfl h
set_option maxHeartbeats 4000000 in
set_option maxRecDepth 100000 in
theorem sg_AL_get {l : Launch} {G : mm_G} {K : Option mm_V → mm_M → Prop} {M : mm_M} {a0 : Nat} {xa : Int32}
    (h : mm_k M a0 = 3 ∧ mm_Ok l G yy_Os_checkIndex Y_Os_checkIndex [.inl xa, .inl (mm_i M a0 1)] M (fun r M2 => mm_X M M2 → ∃ x4 : Int32, r = some (.inl x4) ∧ mm_Ok l G yy_AL_elementData Y_AL_elementData [.inr (some a0), .inl xa] M2 (fun r M5 => mm_X M2 M5 → ∃ o7 : Option Nat, r = some (.inr o7) ∧ K (some (.inr o7)) M5))) :
    mm_Ok l G yy_AL_get Y_AL_get [.inr (some a0), .inl xa] M K := by
  refine mm_go (by decide) rfl (fun q => by cases q) (Nat.le_of_ble_eq_true rfl) ?_
  show mm_Z l G Y_AL_get K M 0 0 0 [some (.inr (some a0)), some (.inl xa)] [] M
  refine mr_iload_n dd_AL_get_0 rfl ?_
  refine mr_aload_n dd_AL_get_1 rfl ?_
  obtain ⟨hk1, h⟩ := h
  refine mr_geti ff_AL_48 dd_AL_get_2 rs_2_1 rfl hk1 ?_
  refine mr_callS0 (Yc := Y_Os_checkIndex) (M := M) (st := []) (vs := [.inl xa, .inl (mm_i M a0 1)]) fc_AL_118 si_Os_checkIndex dd_AL_get_5 ⟨Nat.le_of_ble_eq_true rfl, Nat.le_of_ble_eq_true rfl⟩ rfl (Nat.le_of_ble_eq_true rfl) rfl rfl h (fun r M2 hX3 h => ?_)
  replace h := h hX3
  obtain ⟨x4, rfl, h⟩ := h
  show mm_Z l G Y_AL_get K M 0 0 8 [some (.inr (some a0)), some (.inl xa)] [.inl x4] M2
  refine mr_pop dd_AL_get_8 ?_
  refine mr_aload_n dd_AL_get_9 rfl ?_
  refine mr_iload_n dd_AL_get_10 rfl ?_
  refine mr_callV0 (Yc := Y_AL_elementData) (M := M2) (st := []) (vs := [.inl xa]) (ci := 2) fc_AL_123 iv_AL_elementData sv_AL_elementData dd_AL_get_11 ⟨Nat.le_of_ble_eq_true rfl, Nat.le_of_ble_eq_true rfl⟩ (by decide) rfl rfl (Nat.le_of_ble_eq_true rfl) rfl (mm_Xk hX3 hk1 (by decide)) rfl rfl h (fun r M5 hX6 h => ?_)
  replace h := h hX6
  obtain ⟨o7, rfl, h⟩ := h
  show mm_Z l G Y_AL_get K M 0 0 14 [some (.inr (some a0)), some (.inl xa)] [.inr o7] M5
  exact mr_areturn dd_AL_get_14 rfl (Or.inl ⟨_, rfl⟩) h
set_option maxHeartbeats 4000000 in
set_option maxRecDepth 100000 in
theorem sg_Ac_init {l : Launch} {G : mm_G} {K : Option mm_V → mm_M → Prop} {M : mm_M} {a0 : Nat}
    (h : K none M) :
    mm_Ok l G yy_Ac_init Y_Ac_init [.inr (some a0)] M K := by
  refine mm_go (by decide) rfl (fun _ => rfl) (Nat.le_of_ble_eq_true rfl) ?_
  show mm_Z l G Y_Ac_init K M 0 0 0 [some (.inr (some a0))] [] M
  refine mr_aload_n dd_Ac_init_0 rfl ?_
  refine mr_obji dd_Ac_init_1 tb_43 tb_24 tb_25 ⟨Nat.le_of_ble_eq_true rfl, Nat.le_of_ble_eq_true rfl⟩ rfl ?_
  exact mr_return dd_Ac_init_4 rfl h
set_option maxHeartbeats 4000000 in
set_option maxRecDepth 100000 in
theorem sg_Ab_init {l : Launch} {G : mm_G} {K : Option mm_V → mm_M → Prop} {M : mm_M} {a0 : Nat}
    (h : mm_Ok l G yy_Ac_init Y_Ac_init [.inr (some a0)] M (fun r M1 => mm_X M M1 → r = none ∧ mm_k M1 a0 = 3 ∧ K none (mm_si M1 a0 2 0))) :
    mm_Ok l G yy_Ab_init Y_Ab_init [.inr (some a0)] M K := by
  refine mm_go (by decide) rfl (fun _ => rfl) (Nat.le_of_ble_eq_true rfl) ?_
  show mm_Z l G Y_Ab_init K M 0 0 0 [some (.inr (some a0))] [] M
  refine mr_aload_n dd_Ab_init_0 rfl ?_
  refine mr_callI0 (Yc := Y_Ac_init) (M := M) (st := []) (vs := []) fc_Ab_1 iv_Ac_init ⟨rfl, rfl⟩ dd_Ab_init_1 ⟨Nat.le_of_ble_eq_true rfl, Nat.le_of_ble_eq_true rfl⟩ rfl (Nat.le_of_ble_eq_true rfl) rfl rfl rfl h (fun r M1 hX2 h => ?_)
  replace h := h hX2
  obtain ⟨rfl, h⟩ := h
  show mm_Z l G Y_Ab_init K M 0 0 4 [some (.inr (some a0))] [] M1
  refine mr_aload_n dd_Ab_init_4 rfl ?_
  refine mr_iconst 0 dd_Ab_init_5 (by decide) ?_
  obtain ⟨hk3, h⟩ := h
  refine mr_puti ff_Ab_7 fp_2 (Or.inl rfl) dd_Ab_init_6 (Or.inl (by decide +kernel)) rs_2_2 rfl hk3 ?_
  exact mr_return dd_Ab_init_9 rfl h
set_option maxHeartbeats 4000000 in
set_option maxRecDepth 100000 in
theorem sg_AL_init {l : Launch} {G : mm_G} {K : Option mm_V → mm_M → Prop} {M : mm_M} {a0 : Nat}
    (h : mm_Ok l G yy_Ab_init Y_Ab_init [.inr (some a0)] M (fun r M1 => mm_X M M1 → r = none ∧ mm_k M1 a0 = 3 ∧ K none (mm_sp M1 a0 0 (some G.2.2.2.1)))) :
    mm_Ok l G yy_AL_init Y_AL_init [.inr (some a0)] M K := by
  refine mm_go (by decide) rfl (fun _ => rfl) (Nat.le_of_ble_eq_true rfl) ?_
  show mm_Z l G Y_AL_init K M 0 0 0 [some (.inr (some a0))] [] M
  refine mr_aload_n dd_AL_init_0 rfl ?_
  refine mr_callI0 (Yc := Y_Ab_init) (M := M) (st := []) (vs := []) fc_AL_1 iv_Ab_init ⟨rfl, rfl⟩ dd_AL_init_1 ⟨Nat.le_of_ble_eq_true rfl, Nat.le_of_ble_eq_true rfl⟩ rfl (Nat.le_of_ble_eq_true rfl) rfl rfl rfl h (fun r M1 hX2 h => ?_)
  replace h := h hX2
  obtain ⟨rfl, h⟩ := h
  show mm_Z l G Y_AL_init K M 0 0 4 [some (.inr (some a0))] [] M1
  refine mr_aload_n dd_AL_init_4 rfl ?_
  refine mr_empty dd_AL_init_5 tb_44 rfl ?_
  obtain ⟨hk3, h⟩ := h
  refine mr_putr ff_AL_9 fp_2 (Or.inl rfl) dd_AL_init_8 (ty := tt2 0) (by decide +kernel) (Or.inr ⟨_, rfl⟩) rs_2_0 rfl hk3 ?_
  exact mr_return dd_AL_init_11 rfl h
set_option maxHeartbeats 4000000 in
set_option maxRecDepth 100000 in
theorem sg_AL_remove {l : Launch} {G : mm_G} {K : Option mm_V → mm_M → Prop} {M : mm_M} {a0 : Nat} {xa : Int32}
    (h : mm_k M a0 = 3 ∧ mm_Ok l G yy_Os_checkIndex Y_Os_checkIndex [.inl xa, .inl (mm_i M a0 1)] M (fun r M2 => mm_X M M2 → ∃ x4 : Int32, r = some (.inl x4) ∧ ∃ a5 : Nat, (mm_p M2 a0 0) = some a5 ∧ mm_k M2 a5 = 102 ∧ ∃ j8 : Nat, xa = nI j8 ∧ j8 < 2147483648 ∧ j8 < mm_l M2 a5 ∧ mm_Ok l G yy_AL_fastRemove Y_AL_fastRemove [.inr (some a0), .inr (mm_p M2 a0 0), .inl xa] M2 (fun r M12 => mm_X M2 M12 → r = none ∧ K (some (.inr (mm_p M2 a5 j8))) M12))) :
    mm_Ok l G yy_AL_remove Y_AL_remove [.inr (some a0), .inl xa] M K := by
  refine mm_go (by decide) rfl (fun q => by cases q) (Nat.le_of_ble_eq_true rfl) ?_
  show mm_Z l G Y_AL_remove K M 0 0 0 [some (.inr (some a0)), some (.inl xa), none, none] [] M
  refine mr_iload_n dd_AL_remove_0 rfl ?_
  refine mr_aload_n dd_AL_remove_1 rfl ?_
  obtain ⟨hk1, h⟩ := h
  refine mr_geti ff_AL_48 dd_AL_remove_2 rs_2_1 rfl hk1 ?_
  refine mr_callS0 (Yc := Y_Os_checkIndex) (M := M) (st := []) (vs := [.inl xa, .inl (mm_i M a0 1)]) fc_AL_118 si_Os_checkIndex dd_AL_remove_5 ⟨Nat.le_of_ble_eq_true rfl, Nat.le_of_ble_eq_true rfl⟩ rfl (Nat.le_of_ble_eq_true rfl) rfl rfl h (fun r M2 hX3 h => ?_)
  replace h := h hX3
  obtain ⟨x4, rfl, h⟩ := h
  show mm_Z l G Y_AL_remove K M 0 0 8 [some (.inr (some a0)), some (.inl xa), none, none] [.inl x4] M2
  refine mr_pop dd_AL_remove_8 ?_
  refine mr_aload_n dd_AL_remove_9 rfl ?_
  refine mr_getr ff_AL_9 dd_AL_remove_10 rs_2_0 rfl (mm_Xk hX3 hk1 (by decide)) ?_
  refine mr_astore_n dd_AL_remove_13 (by decide) ?_
  show mm_Z l G Y_AL_remove K M 0 0 14 [some (.inr (some a0)), some (.inl xa), some (.inr (mm_p M2 a0 0)), none] [] M2
  refine mr_aload_n dd_AL_remove_14 rfl ?_
  refine mr_iload_n dd_AL_remove_15 rfl ?_
  obtain ⟨a5, ho6, h⟩ := h
  obtain ⟨hk7, h⟩ := h
  obtain ⟨j8, hj9, hm10, hl11, h⟩ := h
  refine mr_aald (t := 2) dd_AL_remove_16 ho6 hk7 (fun _ => rfl) (by decide) hj9 hm10 hl11 ?_
  refine mr_astore_n dd_AL_remove_17 (by decide) ?_
  show mm_Z l G Y_AL_remove K M 0 0 18 [some (.inr (some a0)), some (.inl xa), some (.inr (mm_p M2 a0 0)), some (.inr (mm_p M2 a5 j8))] [] M2
  refine mr_aload_n dd_AL_remove_18 rfl ?_
  refine mr_aload_n dd_AL_remove_19 rfl ?_
  refine mr_iload_n dd_AL_remove_20 rfl ?_
  refine mr_callV0 (Yc := Y_AL_fastRemove) (M := M2) (st := []) (vs := [.inr (mm_p M2 a0 0), .inl xa]) (ci := 2) fc_AL_144 iv_AL_fastRemove sv_AL_fastRemove dd_AL_remove_21 ⟨Nat.le_of_ble_eq_true rfl, Nat.le_of_ble_eq_true rfl⟩ (by decide) rfl rfl (Nat.le_of_ble_eq_true rfl) rfl (mm_Xk hX3 hk1 (by decide)) rfl rfl h (fun r M12 hX13 h => ?_)
  replace h := h hX13
  obtain ⟨rfl, h⟩ := h
  show mm_Z l G Y_AL_remove K M 0 0 24 [some (.inr (some a0)), some (.inl xa), some (.inr (mm_p M2 a0 0)), some (.inr (mm_p M2 a5 j8))] [] M12
  refine mr_aload_n dd_AL_remove_24 rfl ?_
  exact mr_areturn dd_AL_remove_25 rfl (Or.inl ⟨_, rfl⟩) h
set_option maxHeartbeats 4000000 in
set_option maxRecDepth 100000 in
theorem sg_AL_fastRemove {l : Launch} {G : mm_G} {K : Option mm_V → mm_M → Prop} {M : mm_M} {a0 : Nat} {oa : Option Nat} {xb : Int32}
    (h : mm_k M a0 = 3 ∧ (((mm_i (mm_si M a0 2 ((mm_i M a0 2) + 1)) a0 1) - 1) ≤ xb → ∃ a2 : Nat, oa = some a2 ∧ mm_k (mm_si (mm_si M a0 2 ((mm_i M a0 2) + 1)) a0 1 ((mm_i (mm_si M a0 2 ((mm_i M a0 2) + 1)) a0 1) - 1)) a2 = 102 ∧ ∃ j5 : Nat, ((mm_i (mm_si M a0 2 ((mm_i M a0 2) + 1)) a0 1) - 1) = nI j5 ∧ j5 < 2147483648 ∧ j5 < mm_l (mm_si (mm_si M a0 2 ((mm_i M a0 2) + 1)) a0 1 ((mm_i (mm_si M a0 2 ((mm_i M a0 2) + 1)) a0 1) - 1)) a2 ∧ K none (mm_sp (mm_si (mm_si M a0 2 ((mm_i M a0 2) + 1)) a0 1 ((mm_i (mm_si M a0 2 ((mm_i M a0 2) + 1)) a0 1) - 1)) a2 j5 none)) ∧ (¬ ((mm_i (mm_si M a0 2 ((mm_i M a0 2) + 1)) a0 1) - 1) ≤ xb → ∃ a9 : Nat, oa = some a9 ∧ ∃ i11 i12 n13 : Nat, mm_k (mm_si M a0 2 ((mm_i M a0 2) + 1)) a9 = 102 ∧ mm_k (mm_si M a0 2 ((mm_i M a0 2) + 1)) a9 = 102 ∧ (xb + 1) = nI i11 ∧ xb = nI i12 ∧ (((mm_i (mm_si M a0 2 ((mm_i M a0 2) + 1)) a0 1) - 1) - xb) = nI n13 ∧ i11 + n13 ≤ mm_l (mm_si M a0 2 ((mm_i M a0 2) + 1)) a9 ∧ i12 + n13 ≤ mm_l (mm_si M a0 2 ((mm_i M a0 2) + 1)) a9 ∧ i11 + n13 < 2147483648 ∧ i12 + n13 < 2147483648 ∧ (∀ i, i < n13 → ∀ y, mm_p (mm_si M a0 2 ((mm_i M a0 2) + 1)) a9 (i11 + i) = some y → ∃ ci, mm_k (mm_si M a0 2 ((mm_i M a0 2) + 1)) y = ci + 1 ∧ mm_As "java/lang/Object" ci) ∧ mm_k (mm_si (mm_sf (mm_si M a0 2 ((mm_i M a0 2) + 1)) a9 (va_cpy (mm_p (mm_si M a0 2 ((mm_i M a0 2) + 1)) a9) (mm_p (mm_si M a0 2 ((mm_i M a0 2) + 1)) a9) i11 i12 n13)) a0 1 ((mm_i (mm_si M a0 2 ((mm_i M a0 2) + 1)) a0 1) - 1)) a9 = 102 ∧ ∃ j25 : Nat, ((mm_i (mm_si M a0 2 ((mm_i M a0 2) + 1)) a0 1) - 1) = nI j25 ∧ j25 < 2147483648 ∧ j25 < mm_l (mm_si (mm_sf (mm_si M a0 2 ((mm_i M a0 2) + 1)) a9 (va_cpy (mm_p (mm_si M a0 2 ((mm_i M a0 2) + 1)) a9) (mm_p (mm_si M a0 2 ((mm_i M a0 2) + 1)) a9) i11 i12 n13)) a0 1 ((mm_i (mm_si M a0 2 ((mm_i M a0 2) + 1)) a0 1) - 1)) a9 ∧ K none (mm_sp (mm_si (mm_sf (mm_si M a0 2 ((mm_i M a0 2) + 1)) a9 (va_cpy (mm_p (mm_si M a0 2 ((mm_i M a0 2) + 1)) a9) (mm_p (mm_si M a0 2 ((mm_i M a0 2) + 1)) a9) i11 i12 n13)) a0 1 ((mm_i (mm_si M a0 2 ((mm_i M a0 2) + 1)) a0 1) - 1)) a9 j25 none))) :
    mm_Ok l G yy_AL_fastRemove Y_AL_fastRemove [.inr (some a0), .inr oa, .inl xb] M K := by
  refine mm_go (by decide) rfl (fun q => by cases q) (Nat.le_of_ble_eq_true rfl) ?_
  show mm_Z l G Y_AL_fastRemove K M 0 0 0 [some (.inr (some a0)), some (.inr oa), some (.inl xb), none] [] M
  refine mr_aload_n dd_AL_fastRemove_0 rfl ?_
  refine mr_dup dd_AL_fastRemove_1 ?_
  obtain ⟨hk1, h⟩ := h
  refine mr_geti ff_AL_63 dd_AL_fastRemove_2 rs_2_2 rfl hk1 ?_
  refine mr_iconst 1 dd_AL_fastRemove_5 (by decide) ?_
  refine mr_iadd dd_AL_fastRemove_6 ?_
  refine mr_puti ff_AL_63 fp_2 (Or.inl rfl) dd_AL_fastRemove_7 (Or.inl (by decide +kernel)) rs_2_2 rfl hk1 ?_
  refine mr_aload_n dd_AL_fastRemove_10 rfl ?_
  refine mr_geti ff_AL_48 dd_AL_fastRemove_11 rs_2_1 rfl hk1 ?_
  refine mr_iconst 1 dd_AL_fastRemove_14 (by decide) ?_
  refine mr_isub dd_AL_fastRemove_15 ?_
  refine mr_dup dd_AL_fastRemove_16 ?_
  refine mr_istore_n dd_AL_fastRemove_17 (by decide) ?_
  show mm_Z l G Y_AL_fastRemove K M 0 0 18 [some (.inr (some a0)), some (.inr oa), some (.inl xb), some (.inl ((mm_i (mm_si M a0 2 ((mm_i M a0 2) + 1)) a0 1) - 1))] [.inl ((mm_i (mm_si M a0 2 ((mm_i M a0 2) + 1)) a0 1) - 1)] (mm_si M a0 2 ((mm_i M a0 2) + 1))
  refine mr_iload_n dd_AL_fastRemove_18 rfl ?_
  refine mr_icmp_le 34 dd_AL_fastRemove_19 (by decide) (fun hc19 => ?_) (fun hc19 => ?_)
  · have h := h.1 hc19
    refine mr_aload_n dd_AL_fastRemove_34 rfl ?_
    refine mr_aload_n dd_AL_fastRemove_35 rfl ?_
    refine mr_iload_n dd_AL_fastRemove_36 rfl ?_
    refine mr_dup_x1 dd_AL_fastRemove_37 ?_
    refine mr_puti ff_AL_48 fp_2 (Or.inl rfl) dd_AL_fastRemove_38 (Or.inl (by decide +kernel)) rs_2_1 rfl hk1 ?_
    refine mr_null dd_AL_fastRemove_41 ?_
    obtain ⟨a2, ho3, h⟩ := h
    obtain ⟨hk4, h⟩ := h
    obtain ⟨j5, hj6, hm7, hl8, h⟩ := h
    refine mr_aast (t := 2) (E := "java/lang/Object") dd_AL_fastRemove_42 ho3 hk4 (fun _ => rfl) (by decide) (by decide) hj6 hm7 hl8 (fun _ q => by cases q) ?_
    exact mr_return dd_AL_fastRemove_43 rfl h
  · have h := h.2 hc19
    refine mr_aload_n dd_AL_fastRemove_22 rfl ?_
    refine mr_iload_n dd_AL_fastRemove_23 rfl ?_
    refine mr_iconst 1 dd_AL_fastRemove_24 (by decide) ?_
    refine mr_iadd dd_AL_fastRemove_25 ?_
    refine mr_aload_n dd_AL_fastRemove_26 rfl ?_
    refine mr_iload_n dd_AL_fastRemove_27 rfl ?_
    refine mr_iload_n dd_AL_fastRemove_28 rfl ?_
    refine mr_iload_n dd_AL_fastRemove_29 rfl ?_
    refine mr_isub dd_AL_fastRemove_30 ?_
    obtain ⟨a9, ho10, h⟩ := h
    obtain ⟨i11, i12, n13, hp14, hp15, hp16, hp17, hp18, hp19, hp20, hp21, hp22, hp23, h⟩ := h
    refine mr_copy dd_AL_fastRemove_31 tb_289 ho10 ho10 hp14 hp15 hp16 hp17 hp18 hp19 hp20 hp21 hp22 hp23 ⟨Nat.le_of_ble_eq_true rfl, Nat.le_of_ble_eq_true rfl⟩ ?_
    refine mr_aload_n dd_AL_fastRemove_34 rfl ?_
    refine mr_aload_n dd_AL_fastRemove_35 rfl ?_
    refine mr_iload_n dd_AL_fastRemove_36 rfl ?_
    refine mr_dup_x1 dd_AL_fastRemove_37 ?_
    refine mr_puti ff_AL_48 fp_2 (Or.inl rfl) dd_AL_fastRemove_38 (Or.inl (by decide +kernel)) rs_2_1 rfl hk1 ?_
    refine mr_null dd_AL_fastRemove_41 ?_
    obtain ⟨hk24, h⟩ := h
    obtain ⟨j25, hj26, hm27, hl28, h⟩ := h
    refine mr_aast (t := 2) (E := "java/lang/Object") dd_AL_fastRemove_42 ho10 hk24 (fun _ => rfl) (by decide) (by decide) hj26 hm27 hl28 (fun _ q => by cases q) ?_
    exact mr_return dd_AL_fastRemove_43 rfl h
set_option maxHeartbeats 4000000 in
set_option maxRecDepth 100000 in
theorem sg_AL_add {l : Launch} {G : mm_G} {K : Option mm_V → mm_M → Prop} {M : mm_M} {a0 : Nat} {oa : Option Nat}
    (h : mm_k M a0 = 3 ∧ mm_Ok l G yy_AL_add2 Y_AL_add2 [.inr (some a0), .inr oa, .inr (mm_p (mm_si M a0 2 ((mm_i M a0 2) + 1)) a0 0), .inl (mm_i (mm_si M a0 2 ((mm_i M a0 2) + 1)) a0 1)] (mm_si M a0 2 ((mm_i M a0 2) + 1)) (fun r M2 => mm_X (mm_si M a0 2 ((mm_i M a0 2) + 1)) M2 → r = none ∧ K (some (.inl 1)) M2)) :
    mm_Ok l G yy_AL_add Y_AL_add [.inr (some a0), .inr oa] M K := by
  refine mm_go (by decide) rfl (fun q => by cases q) (Nat.le_of_ble_eq_true rfl) ?_
  show mm_Z l G Y_AL_add K M 1 100 0 [some (.inr (some a0)), some (.inr oa)] [] M
  refine mr_aload_n dd_AL_add_0 rfl ?_
  refine mr_dup dd_AL_add_1 ?_
  obtain ⟨hk1, h⟩ := h
  refine mr_geti ff_AL_63 dd_AL_add_2 rs_2_2 rfl hk1 ?_
  refine mr_iconst 1 dd_AL_add_5 (by decide) ?_
  refine mr_iadd dd_AL_add_6 ?_
  refine mr_puti ff_AL_63 fp_2 (Or.inl rfl) dd_AL_add_7 (Or.inl (by decide +kernel)) rs_2_2 rfl hk1 ?_
  refine mr_aload_n dd_AL_add_10 rfl ?_
  refine mr_aload_n dd_AL_add_11 rfl ?_
  refine mr_aload_n dd_AL_add_12 rfl ?_
  refine mr_getr ff_AL_9 dd_AL_add_13 rs_2_0 rfl hk1 ?_
  refine mr_aload_n dd_AL_add_16 rfl ?_
  refine mr_geti ff_AL_48 dd_AL_add_17 rs_2_1 rfl hk1 ?_
  refine mr_callV (Yc := Y_AL_add2) (M := (mm_si M a0 2 ((mm_i M a0 2) + 1))) (bc := 0) (bs := 0) (st := []) (vs := [.inr oa, .inr (mm_p (mm_si M a0 2 ((mm_i M a0 2) + 1)) a0 0), .inl (mm_i (mm_si M a0 2 ((mm_i M a0 2) + 1)) a0 1)]) (ci := 2) fc_AL_131 iv_AL_add2 sv_AL_add2 dd_AL_add_20 ⟨Nat.le_of_ble_eq_true rfl, Nat.le_of_ble_eq_true rfl⟩ (by decide) rfl rfl (Nat.le_of_ble_eq_true rfl) rfl hk1 h (fun r M2 hX3 h => ?_)
  replace h := h hX3
  obtain ⟨rfl, h⟩ := h
  show mm_Z l G Y_AL_add K M 0 0 23 [some (.inr (some a0)), some (.inr oa)] [] M2
  refine mr_iconst 1 dd_AL_add_23 (by decide) ?_
  exact mr_zreturn dd_AL_add_24 rfl (Or.inr rfl) h
set_option maxHeartbeats 4000000 in
set_option maxRecDepth 100000 in
theorem sg_AL_add2 {l : Launch} {G : mm_G} {K : Option mm_V → mm_M → Prop} {M : mm_M} {a0 : Nat} {oa : Option Nat} {ob : Option Nat} {xc : Int32}
    (h : ∃ a1 : Nat, ob = some a1 ∧ (mm_k M a1 = 102 ∨ mm_k M a1 = 105) ∧ (¬ xc = (nI (mm_l M a1)) → mm_k M a1 = 102 ∧ ∃ j6 : Nat, xc = nI j6 ∧ j6 < 2147483648 ∧ j6 < mm_l M a1 ∧ (∀ q, oa = some q → ∃ ci, mm_k M q = ci + 1 ∧ mm_As "java/lang/Object" ci) ∧ mm_k (mm_sp M a1 j6 oa) a0 = 3 ∧ K none (mm_si (mm_sp M a1 j6 oa) a0 1 (xc + 1))) ∧ (xc = (nI (mm_l M a1)) → mm_k M a0 = 3 ∧ mm_Ok l G yy_AL_grow Y_AL_grow [.inr (some a0)] M (fun r M12 => mm_X M M12 → ∃ o15 : Option Nat, r = some (.inr o15) ∧ ∃ a16 : Nat, o15 = some a16 ∧ mm_k M12 a16 = 102 ∧ ∃ j19 : Nat, xc = nI j19 ∧ j19 < 2147483648 ∧ j19 < mm_l M12 a16 ∧ (∀ q, oa = some q → ∃ ci, mm_k M12 q = ci + 1 ∧ mm_As "java/lang/Object" ci) ∧ K none (mm_si (mm_sp M12 a16 j19 oa) a0 1 (xc + 1))))) :
    mm_Ok l G yy_AL_add2 Y_AL_add2 [.inr (some a0), .inr oa, .inr ob, .inl xc] M K := by
  refine mm_go (by decide) rfl (fun q => by cases q) (Nat.le_of_ble_eq_true rfl) ?_
  show mm_Z l G Y_AL_add2 K M 1 100 0 [some (.inr (some a0)), some (.inr oa), some (.inr ob), some (.inl xc)] [] M
  refine mr_iload_n dd_AL_add2_0 rfl ?_
  refine mr_aload_n dd_AL_add2_1 rfl ?_
  obtain ⟨a1, ho2, h⟩ := h
  obtain ⟨hk3, h⟩ := h
  refine mr_alen2 dd_AL_add2_2 ho2 hk3 ?_
  refine mr_icmp_ne 11 dd_AL_add2_3 (by decide) (fun hc3 => ?_) (fun hc3 => ?_)
  · have h := h.1 hc3
    refine mr_aload_n dd_AL_add2_11 rfl ?_
    refine mr_iload_n dd_AL_add2_12 rfl ?_
    refine mr_aload_n dd_AL_add2_13 rfl ?_
    obtain ⟨hk5, h⟩ := h
    obtain ⟨j6, hj7, hm8, hl9, h⟩ := h
    obtain ⟨hv10, h⟩ := h
    refine mr_aast (t := 2) (E := "java/lang/Object") dd_AL_add2_14 ho2 hk5 (fun _ => rfl) (by decide) (by decide) hj7 hm8 hl9 hv10 ?_
    refine mr_aload_n dd_AL_add2_15 rfl ?_
    refine mr_iload_n dd_AL_add2_16 rfl ?_
    refine mr_iconst 1 dd_AL_add2_17 (by decide) ?_
    refine mr_iadd dd_AL_add2_18 ?_
    obtain ⟨hk11, h⟩ := h
    refine mr_puti ff_AL_48 fp_2 (Or.inl rfl) dd_AL_add2_19 (Or.inl (by decide +kernel)) rs_2_1 rfl hk11 ?_
    exact mr_return dd_AL_add2_22 rfl h
  · have h := h.2 hc3
    refine mr_aload_n dd_AL_add2_6 rfl ?_
    obtain ⟨hk14, h⟩ := h
    refine mr_callV (Yc := Y_AL_grow) (M := M) (bc := 0) (bs := 0) (st := []) (vs := []) (ci := 2) fc_AL_129 iv_AL_grow sv_AL_grow dd_AL_add2_7 ⟨Nat.le_of_ble_eq_true rfl, Nat.le_of_ble_eq_true rfl⟩ (by decide) rfl rfl (Nat.le_of_ble_eq_true rfl) rfl hk14 h (fun r M12 hX13 h => ?_)
    replace h := h hX13
    obtain ⟨o15, rfl, h⟩ := h
    show mm_Z l G Y_AL_add2 K M 0 0 10 [some (.inr (some a0)), some (.inr oa), some (.inr ob), some (.inl xc)] [.inr o15] M12
    refine mr_astore_n dd_AL_add2_10 (by decide) ?_
    show mm_Z l G Y_AL_add2 K M 0 0 11 [some (.inr (some a0)), some (.inr oa), some (.inr o15), some (.inl xc)] [] M12
    refine mr_aload_n dd_AL_add2_11 rfl ?_
    refine mr_iload_n dd_AL_add2_12 rfl ?_
    refine mr_aload_n dd_AL_add2_13 rfl ?_
    obtain ⟨a16, ho17, h⟩ := h
    obtain ⟨hk18, h⟩ := h
    obtain ⟨j19, hj20, hm21, hl22, h⟩ := h
    obtain ⟨hv23, h⟩ := h
    refine mr_aast (t := 2) (E := "java/lang/Object") dd_AL_add2_14 ho17 hk18 (fun _ => rfl) (by decide) (by decide) hj20 hm21 hl22 hv23 ?_
    refine mr_aload_n dd_AL_add2_15 rfl ?_
    refine mr_iload_n dd_AL_add2_16 rfl ?_
    refine mr_iconst 1 dd_AL_add2_17 (by decide) ?_
    refine mr_iadd dd_AL_add2_18 ?_
    refine mr_puti ff_AL_48 fp_2 (Or.inl rfl) dd_AL_add2_19 (Or.inl (by decide +kernel)) rs_2_1 rfl (mm_Xk hX13 hk14 (by decide)) ?_
    exact mr_return dd_AL_add2_22 rfl h
set_option maxHeartbeats 4000000 in
set_option maxRecDepth 100000 in
theorem sg_AL_grow {l : Launch} {G : mm_G} {K : Option mm_V → mm_M → Prop} {M : mm_M} {a0 : Nat}
    (h : mm_k M a0 = 3 ∧ mm_Ok l G yy_AL_grow2 Y_AL_grow2 [.inr (some a0), .inl ((mm_i M a0 1) + 1)] M (fun r M2 => mm_X M M2 → ∃ o4 : Option Nat, r = some (.inr o4) ∧ K (some (.inr o4)) M2)) :
    mm_Ok l G yy_AL_grow Y_AL_grow [.inr (some a0)] M K := by
  refine mm_go (by decide) rfl (fun q => by cases q) (Nat.le_of_ble_eq_true rfl) ?_
  show mm_Z l G Y_AL_grow K M 1 100 0 [some (.inr (some a0))] [] M
  refine mr_aload_n dd_AL_grow_0 rfl ?_
  refine mr_aload_n dd_AL_grow_1 rfl ?_
  obtain ⟨hk1, h⟩ := h
  refine mr_geti ff_AL_48 dd_AL_grow_2 rs_2_1 rfl hk1 ?_
  refine mr_iconst 1 dd_AL_grow_5 (by decide) ?_
  refine mr_iadd dd_AL_grow_6 ?_
  refine mr_callV (Yc := Y_AL_grow2) (M := M) (bc := 0) (bs := 0) (st := []) (vs := [.inl ((mm_i M a0 1) + 1)]) (ci := 2) fc_AL_69 iv_AL_grow2 sv_AL_grow2 dd_AL_grow_7 ⟨Nat.le_of_ble_eq_true rfl, Nat.le_of_ble_eq_true rfl⟩ (by decide) rfl rfl (Nat.le_of_ble_eq_true rfl) rfl hk1 h (fun r M2 hX3 h => ?_)
  replace h := h hX3
  obtain ⟨o4, rfl, h⟩ := h
  show mm_Z l G Y_AL_grow K M 0 0 10 [some (.inr (some a0))] [.inr o4] M2
  exact mr_areturn dd_AL_grow_10 rfl (Or.inr ⟨_, rfl⟩) h
set_option maxHeartbeats 4000000 in
set_option maxRecDepth 100000 in
theorem sg_AL_grow2 {l : Launch} {G : mm_G} {K : Option mm_V → mm_M → Prop} {M : mm_M} {a0 : Nat} {xa : Int32}
    (h : mm_k M a0 = 3 ∧ ∃ a2 : Nat, (mm_p M a0 0) = some a2 ∧ (mm_k M a2 = 102 ∨ mm_k M a2 = 105) ∧ (0 < (nI (mm_l M a2)) → mm_Ok l G yy_As_newLength Y_As_newLength [.inl (nI (mm_l M a2)), .inl (xa - (nI (mm_l M a2))), .inl ((nI (mm_l M a2)) >>> (1 &&& 31))] M (fun r M6 => mm_X M M6 → ∃ x8 : Int32, r = some (.inl x8) ∧ mm_Ok l G yy_Ar_copyOf Y_Ar_copyOf [.inr (mm_p M6 a0 0), .inl x8] M6 (fun r M9 => mm_X M6 M9 → ∃ o11 : Option Nat, r = some (.inr o11) ∧ K (some (.inr o11)) (mm_sp M9 a0 0 o11)))) ∧ (¬ 0 < (nI (mm_l M a2)) → ((mm_p M a0 0) = (some G.2.2.2.1) → ∃ n14 : Nat, (if 10 < xa then xa else 10) = nI n14 ∧ n14 ≤ 100 ∧ ∀ q12, q12 = mm_z M → mm_k (mm_nw M 102 n14) a0 = 3 ∧ K (some (.inr (some q12))) (mm_sp (mm_nw M 102 n14) a0 0 (some q12))) ∧ (¬ (mm_p M a0 0) = (some G.2.2.2.1) → mm_Ok l G yy_As_newLength Y_As_newLength [.inl (nI (mm_l M a2)), .inl (xa - (nI (mm_l M a2))), .inl ((nI (mm_l M a2)) >>> (1 &&& 31))] M (fun r M18 => mm_X M M18 → ∃ x20 : Int32, r = some (.inl x20) ∧ mm_Ok l G yy_Ar_copyOf Y_Ar_copyOf [.inr (mm_p M18 a0 0), .inl x20] M18 (fun r M21 => mm_X M18 M21 → ∃ o23 : Option Nat, r = some (.inr o23) ∧ K (some (.inr o23)) (mm_sp M21 a0 0 o23)))))) :
    mm_Ok l G yy_AL_grow2 Y_AL_grow2 [.inr (some a0), .inl xa] M K := by
  refine mm_go (by decide) rfl (fun q => by cases q) (Nat.le_of_ble_eq_true rfl) ?_
  show mm_Z l G Y_AL_grow2 K M 1 100 0 [some (.inr (some a0)), some (.inl xa), none, none] [] M
  refine mr_aload_n dd_AL_grow2_0 rfl ?_
  obtain ⟨hk1, h⟩ := h
  refine mr_getr ff_AL_9 dd_AL_grow2_1 rs_2_0 rfl hk1 ?_
  obtain ⟨a2, ho3, h⟩ := h
  obtain ⟨hk4, h⟩ := h
  refine mr_alen2 dd_AL_grow2_4 ho3 hk4 ?_
  refine mr_istore_n dd_AL_grow2_5 (by decide) ?_
  show mm_Z l G Y_AL_grow2 K M 1 100 6 [some (.inr (some a0)), some (.inl xa), some (.inl (nI (mm_l M a2))), none] [] M
  refine mr_iload_n dd_AL_grow2_6 rfl ?_
  refine mr_if_gt 20 dd_AL_grow2_7 (by decide) (fun hc7 => ?_) (fun hc7 => ?_)
  · have h := h.1 hc7
    refine mr_iload_n dd_AL_grow2_20 rfl ?_
    refine mr_iload_n dd_AL_grow2_21 rfl ?_
    refine mr_iload_n dd_AL_grow2_22 rfl ?_
    refine mr_isub dd_AL_grow2_23 ?_
    refine mr_iload_n dd_AL_grow2_24 rfl ?_
    refine mr_iconst 1 dd_AL_grow2_25 (by decide) ?_
    refine mr_ishr dd_AL_grow2_26 ?_
    refine mr_callS0 (Yc := Y_As_newLength) (M := M) (st := []) (vs := [.inl (nI (mm_l M a2)), .inl (xa - (nI (mm_l M a2))), .inl ((nI (mm_l M a2)) >>> (1 &&& 31))]) fc_AL_73 si_As_newLength dd_AL_grow2_27 ⟨Nat.le_of_ble_eq_true rfl, Nat.le_of_ble_eq_true rfl⟩ rfl (Nat.le_of_ble_eq_true rfl) rfl rfl h (fun r M6 hX7 h => ?_)
    replace h := h hX7
    obtain ⟨x8, rfl, h⟩ := h
    show mm_Z l G Y_AL_grow2 K M 1 100 30 [some (.inr (some a0)), some (.inl xa), some (.inl (nI (mm_l M a2))), none] [.inl x8] M6
    refine mr_istore_n dd_AL_grow2_30 (by decide) ?_
    show mm_Z l G Y_AL_grow2 K M 1 100 31 [some (.inr (some a0)), some (.inl xa), some (.inl (nI (mm_l M a2))), some (.inl x8)] [] M6
    refine mr_aload_n dd_AL_grow2_31 rfl ?_
    refine mr_aload_n dd_AL_grow2_32 rfl ?_
    refine mr_getr ff_AL_9 dd_AL_grow2_33 rs_2_0 rfl (mm_Xk hX7 hk1 (by decide)) ?_
    refine mr_iload_n dd_AL_grow2_36 rfl ?_
    refine mr_callS (Yc := Y_Ar_copyOf) (M := M6) (bc := 0) (bs := 0) (st := [.inr (some a0)]) (vs := [.inr (mm_p M6 a0 0), .inl x8]) fc_AL_66 si_Ar_copyOf dd_AL_grow2_37 ⟨Nat.le_of_ble_eq_true rfl, Nat.le_of_ble_eq_true rfl⟩ rfl (Nat.le_of_ble_eq_true rfl) h (fun r M9 hX10 h => ?_)
    replace h := h hX10
    obtain ⟨o11, rfl, h⟩ := h
    show mm_Z l G Y_AL_grow2 K M 0 0 40 [some (.inr (some a0)), some (.inl xa), some (.inl (nI (mm_l M a2))), some (.inl x8)] [.inr o11, .inr (some a0)] M9
    refine mr_dup_x1 dd_AL_grow2_40 ?_
    refine mr_putr ff_AL_9 fp_2 (Or.inl rfl) dd_AL_grow2_41 (ty := tt2 0) (by decide +kernel) (Or.inr ⟨_, rfl⟩) rs_2_0 rfl (mm_Xk hX10 (mm_Xk hX7 hk1 (by decide)) (by decide)) ?_
    exact mr_areturn dd_AL_grow2_44 rfl (Or.inr ⟨_, rfl⟩) h
  · have h := h.2 hc7
    refine mr_aload_n dd_AL_grow2_10 rfl ?_
    refine mr_getr ff_AL_9 dd_AL_grow2_11 rs_2_0 rfl hk1 ?_
    refine mr_empty dd_AL_grow2_14 tb_44 rfl ?_
    refine mr_acmp_eq 45 dd_AL_grow2_17 (by decide) (fun hc17 => ?_) (fun hc17 => ?_)
    · have h := h.1 hc17
      refine mr_aload_n dd_AL_grow2_45 rfl ?_
      refine mr_bipush 10 dd_AL_grow2_46 (by decide) ?_
      refine mr_iload_n dd_AL_grow2_48 rfl ?_
      refine mr_mmax dd_AL_grow2_49 tb_340 tb_110 tb_8 tb_111 ⟨Nat.le_of_ble_eq_true rfl, Nat.le_of_ble_eq_true rfl⟩ ?_
      obtain ⟨n14, hn15, hb16, h⟩ := h
      refine mm_less (bc' := 0 + 1) (bs' := 0 + n14) (by decide) (by omega) ?_
      refine mr_newq (t := 2) (n := n14) dd_AL_grow2_52 tb_341 tn_336 (by decide) (by decide) (fun _ => rfl) hn15 (by omega) ?_
      generalize hq13 : mm_z M = q12
      have h := h q12 hq13.symm
      refine mr_dup_x1 dd_AL_grow2_55 ?_
      obtain ⟨hk17, h⟩ := h
      refine mr_putr ff_AL_9 fp_2 (Or.inl rfl) dd_AL_grow2_56 (ty := tt2 0) (by decide +kernel) (Or.inr ⟨_, rfl⟩) rs_2_0 rfl hk17 ?_
      exact mr_areturn dd_AL_grow2_59 rfl (Or.inr ⟨_, rfl⟩) h
    · have h := h.2 hc17
      refine mr_iload_n dd_AL_grow2_20 rfl ?_
      refine mr_iload_n dd_AL_grow2_21 rfl ?_
      refine mr_iload_n dd_AL_grow2_22 rfl ?_
      refine mr_isub dd_AL_grow2_23 ?_
      refine mr_iload_n dd_AL_grow2_24 rfl ?_
      refine mr_iconst 1 dd_AL_grow2_25 (by decide) ?_
      refine mr_ishr dd_AL_grow2_26 ?_
      refine mr_callS0 (Yc := Y_As_newLength) (M := M) (st := []) (vs := [.inl (nI (mm_l M a2)), .inl (xa - (nI (mm_l M a2))), .inl ((nI (mm_l M a2)) >>> (1 &&& 31))]) fc_AL_73 si_As_newLength dd_AL_grow2_27 ⟨Nat.le_of_ble_eq_true rfl, Nat.le_of_ble_eq_true rfl⟩ rfl (Nat.le_of_ble_eq_true rfl) rfl rfl h (fun r M18 hX19 h => ?_)
      replace h := h hX19
      obtain ⟨x20, rfl, h⟩ := h
      show mm_Z l G Y_AL_grow2 K M 1 100 30 [some (.inr (some a0)), some (.inl xa), some (.inl (nI (mm_l M a2))), none] [.inl x20] M18
      refine mr_istore_n dd_AL_grow2_30 (by decide) ?_
      show mm_Z l G Y_AL_grow2 K M 1 100 31 [some (.inr (some a0)), some (.inl xa), some (.inl (nI (mm_l M a2))), some (.inl x20)] [] M18
      refine mr_aload_n dd_AL_grow2_31 rfl ?_
      refine mr_aload_n dd_AL_grow2_32 rfl ?_
      refine mr_getr ff_AL_9 dd_AL_grow2_33 rs_2_0 rfl (mm_Xk hX19 hk1 (by decide)) ?_
      refine mr_iload_n dd_AL_grow2_36 rfl ?_
      refine mr_callS (Yc := Y_Ar_copyOf) (M := M18) (bc := 0) (bs := 0) (st := [.inr (some a0)]) (vs := [.inr (mm_p M18 a0 0), .inl x20]) fc_AL_66 si_Ar_copyOf dd_AL_grow2_37 ⟨Nat.le_of_ble_eq_true rfl, Nat.le_of_ble_eq_true rfl⟩ rfl (Nat.le_of_ble_eq_true rfl) h (fun r M21 hX22 h => ?_)
      replace h := h hX22
      obtain ⟨o23, rfl, h⟩ := h
      show mm_Z l G Y_AL_grow2 K M 0 0 40 [some (.inr (some a0)), some (.inl xa), some (.inl (nI (mm_l M a2))), some (.inl x20)] [.inr o23, .inr (some a0)] M21
      refine mr_dup_x1 dd_AL_grow2_40 ?_
      refine mr_putr ff_AL_9 fp_2 (Or.inl rfl) dd_AL_grow2_41 (ty := tt2 0) (by decide +kernel) (Or.inr ⟨_, rfl⟩) rs_2_0 rfl (mm_Xk hX22 (mm_Xk hX19 hk1 (by decide)) (by decide)) ?_
      exact mr_areturn dd_AL_grow2_44 rfl (Or.inr ⟨_, rfl⟩) h
set_option maxHeartbeats 4000000 in
set_option maxRecDepth 100000 in
theorem sg_Ar_copyOf {l : Launch} {G : mm_G} {K : Option mm_V → mm_M → Prop} {M : mm_M} {oa : Option Nat} {xb : Int32}
    (h : ∃ a1 : Nat, oa = some a1 ∧ mm_k M a1 = 102 ∧ mm_Ok l G yy_Ar_copyOf2 Y_Ar_copyOf2 [.inr oa, .inl xb, .inr (some G.2.2.2.2)] M (fun r M4 => mm_X M M4 → ∃ o6 : Option Nat, r = some (.inr o6) ∧ K (some (.inr o6)) M4)) :
    mm_Ok l G yy_Ar_copyOf Y_Ar_copyOf [.inr oa, .inl xb] M K := by
  refine mm_go (by decide) rfl (fun q => by cases q) (Nat.le_of_ble_eq_true rfl) ?_
  show mm_Z l G Y_Ar_copyOf K M 1 100 0 [some (.inr oa), some (.inl xb)] [] M
  refine mr_aload_n dd_Ar_copyOf_0 rfl ?_
  refine mr_iload_n dd_Ar_copyOf_1 rfl ?_
  refine mr_aload_n dd_Ar_copyOf_2 rfl ?_
  obtain ⟨a1, ho2, h⟩ := h
  obtain ⟨hk3, h⟩ := h
  refine mr_getC dd_Ar_copyOf_3 tb_319 ho2 hk3 ⟨Nat.le_of_ble_eq_true rfl, Nat.le_of_ble_eq_true rfl⟩ ?_
  refine mr_callS (Yc := Y_Ar_copyOf2) (M := M) (bc := 0) (bs := 0) (st := []) (vs := [.inr oa, .inl xb, .inr (some G.2.2.2.2)]) fc_Ar_300 si_Ar_copyOf2 dd_Ar_copyOf_6 ⟨Nat.le_of_ble_eq_true rfl, Nat.le_of_ble_eq_true rfl⟩ rfl (Nat.le_of_ble_eq_true rfl) h (fun r M4 hX5 h => ?_)
  replace h := h hX5
  obtain ⟨o6, rfl, h⟩ := h
  show mm_Z l G Y_Ar_copyOf K M 0 0 9 [some (.inr oa), some (.inl xb)] [.inr o6] M4
  exact mr_areturn dd_Ar_copyOf_9 rfl (Or.inr ⟨_, rfl⟩) h
set_option maxHeartbeats 4000000 in
set_option maxRecDepth 100000 in
theorem sg_Ar_copyOf2 {l : Launch} {G : mm_G} {K : Option mm_V → mm_M → Prop} {M : mm_M} {oa : Option Nat} {xb : Int32} {oc : Option Nat}
    (h : (¬ oc = (some G.2.2.2.2) → False) ∧ (oc = (some G.2.2.2.2) → ∃ n3 : Nat, xb = nI n3 ∧ n3 ≤ 100 ∧ ∀ q1, q1 = mm_z M → ∃ a6 : Nat, oa = some a6 ∧ (mm_k (mm_nw M 102 n3) a6 = 102 ∨ mm_k (mm_nw M 102 n3) a6 = 105) ∧ ∃ i10 i11 n12 : Nat, mm_k (mm_nw M 102 n3) a6 = 102 ∧ mm_k (mm_nw M 102 n3) q1 = 102 ∧ 0 = nI i10 ∧ 0 = nI i11 ∧ (if xb < (nI (mm_l (mm_nw M 102 n3) a6)) then xb else (nI (mm_l (mm_nw M 102 n3) a6))) = nI n12 ∧ i10 + n12 ≤ mm_l (mm_nw M 102 n3) a6 ∧ i11 + n12 ≤ mm_l (mm_nw M 102 n3) q1 ∧ i10 + n12 < 2147483648 ∧ i11 + n12 < 2147483648 ∧ (∀ i, i < n12 → ∀ y, mm_p (mm_nw M 102 n3) a6 (i10 + i) = some y → ∃ ci, mm_k (mm_nw M 102 n3) y = ci + 1 ∧ mm_As "java/lang/Object" ci) ∧ K (some (.inr (some q1))) (mm_sf (mm_nw M 102 n3) q1 (va_cpy (mm_p (mm_nw M 102 n3) a6) (mm_p (mm_nw M 102 n3) q1) i10 i11 n12)))) :
    mm_Ok l G yy_Ar_copyOf2 Y_Ar_copyOf2 [.inr oa, .inl xb, .inr oc] M K := by
  refine mm_go (by decide) rfl (fun q => by cases q) (Nat.le_of_ble_eq_true rfl) ?_
  show mm_Z l G Y_Ar_copyOf2 K M 1 100 0 [some (.inr oa), some (.inl xb), some (.inr oc), none] [] M
  refine mr_aload_n dd_Ar_copyOf2_0 rfl ?_
  refine mr_ldcM dd_Ar_copyOf2_1 tb_335 ?_
  refine mr_acmp_ne 13 dd_Ar_copyOf2_3 (by decide) (fun hc3 => ?_) (fun hc3 => ?_)
  · have h := h.1 hc3
    exact h.elim
  · have h := h.2 hc3
    refine mr_iload_n dd_Ar_copyOf2_6 rfl ?_
    obtain ⟨n3, hn4, hb5, h⟩ := h
    refine mm_less (bc' := 0 + 1) (bs' := 0 + n3) (by decide) (by omega) ?_
    refine mr_newq (t := 2) (n := n3) dd_Ar_copyOf2_7 tb_337 tn_336 (by decide) (by decide) (fun _ => rfl) hn4 (by omega) ?_
    generalize hq2 : mm_z M = q1
    have h := h q1 hq2.symm
    refine mr_goto 24 dd_Ar_copyOf2_10 (by decide) ?_
    refine mr_astore_n dd_Ar_copyOf2_24 (by decide) ?_
    show mm_Z l G Y_Ar_copyOf2 K M 0 0 25 [some (.inr oa), some (.inl xb), some (.inr oc), some (.inr (some q1))] [] (mm_nw M 102 n3)
    refine mr_aload_n dd_Ar_copyOf2_25 rfl ?_
    refine mr_iconst 0 dd_Ar_copyOf2_26 (by decide) ?_
    refine mr_aload_n dd_Ar_copyOf2_27 rfl ?_
    refine mr_iconst 0 dd_Ar_copyOf2_28 (by decide) ?_
    refine mr_aload_n dd_Ar_copyOf2_29 rfl ?_
    obtain ⟨a6, ho7, h⟩ := h
    obtain ⟨hk8, h⟩ := h
    refine mr_alen2 dd_Ar_copyOf2_30 ho7 hk8 ?_
    refine mr_iload_n dd_Ar_copyOf2_31 rfl ?_
    refine mr_mmin dd_Ar_copyOf2_32 tb_338 tb_107 tb_8 tb_108 ⟨Nat.le_of_ble_eq_true rfl, Nat.le_of_ble_eq_true rfl⟩ ?_
    obtain ⟨i10, i11, n12, hp13, hp14, hp15, hp16, hp17, hp18, hp19, hp20, hp21, hp22, h⟩ := h
    refine mr_copy dd_Ar_copyOf2_35 tb_339 ho7 rfl hp13 hp14 hp15 hp16 hp17 hp18 hp19 hp20 hp21 hp22 ⟨Nat.le_of_ble_eq_true rfl, Nat.le_of_ble_eq_true rfl⟩ ?_
    refine mr_aload_n dd_Ar_copyOf2_38 rfl ?_
    exact mr_areturn dd_Ar_copyOf2_39 rfl (Or.inr ⟨_, rfl⟩) h
set_option maxHeartbeats 4000000 in
set_option maxRecDepth 100000 in
theorem sg_As_newLength {l : Launch} {G : mm_G} {K : Option mm_V → mm_M → Prop} {M : mm_M} {xa : Int32} {xb : Int32} {xc : Int32}
    (h : ((xa + (if xb < xc then xc else xb)) ≤ 0 → False) ∧ (¬ (xa + (if xb < xc then xc else xb)) ≤ 0 → (2147483639 < (xa + (if xb < xc then xc else xb)) → False) ∧ (¬ 2147483639 < (xa + (if xb < xc then xc else xb)) → K (some (.inl (xa + (if xb < xc then xc else xb)))) M))) :
    mm_Ok l G yy_As_newLength Y_As_newLength [.inl xa, .inl xb, .inl xc] M K := by
  refine mm_go (by decide) rfl (fun q => by cases q) (Nat.le_of_ble_eq_true rfl) ?_
  show mm_Z l G Y_As_newLength K M 0 0 0 [some (.inl xa), some (.inl xb), some (.inl xc), none] [] M
  refine mr_iload_n dd_As_newLength_0 rfl ?_
  refine mr_iload_n dd_As_newLength_1 rfl ?_
  refine mr_iload_n dd_As_newLength_2 rfl ?_
  refine mr_mmax dd_As_newLength_3 tb_311 tb_110 tb_8 tb_111 ⟨Nat.le_of_ble_eq_true rfl, Nat.le_of_ble_eq_true rfl⟩ ?_
  refine mr_iadd dd_As_newLength_6 ?_
  refine mr_istore_n dd_As_newLength_7 (by decide) ?_
  show mm_Z l G Y_As_newLength K M 0 0 8 [some (.inl xa), some (.inl xb), some (.inl xc), some (.inl (xa + (if xb < xc then xc else xb)))] [] M
  refine mr_iconst 0 dd_As_newLength_8 (by decide) ?_
  refine mr_iload_n dd_As_newLength_9 rfl ?_
  refine mr_icmp_ge 21 dd_As_newLength_10 (by decide) (fun hc10 => ?_) (fun hc10 => ?_)
  · have h := h.1 hc10
    exact h.elim
  · have h := h.2 hc10
    refine mr_iload_n dd_As_newLength_13 rfl ?_
    refine mr_ldci (v := 2147483639) dd_As_newLength_14 tb_312 ?_
    refine mr_icmp_gt 21 dd_As_newLength_16 (by decide) (fun hc16 => ?_) (fun hc16 => ?_)
    · have h := h.1 hc16
      exact h.elim
    · have h := h.2 hc16
      refine mr_iload_n dd_As_newLength_19 rfl ?_
      exact mr_ireturn dd_As_newLength_20 rfl h
set_option maxHeartbeats 4000000 in
set_option maxRecDepth 100000 in
theorem sg_AL_add2n {l : Launch} {G : mm_G} {K : Option mm_V → mm_M → Prop} {M : mm_M} {a0 : Nat} {oa : Option Nat} {ob : Option Nat} {xc : Int32}
    (h : ∃ a1 : Nat, ob = some a1 ∧ (mm_k M a1 = 102 ∨ mm_k M a1 = 105) ∧ (¬ xc = (nI (mm_l M a1)) → mm_k M a1 = 102 ∧ ∃ j6 : Nat, xc = nI j6 ∧ j6 < 2147483648 ∧ j6 < mm_l M a1 ∧ (∀ q, oa = some q → ∃ ci, mm_k M q = ci + 1 ∧ mm_As "java/lang/Object" ci) ∧ mm_k (mm_sp M a1 j6 oa) a0 = 3 ∧ K none (mm_si (mm_sp M a1 j6 oa) a0 1 (xc + 1))) ∧ (xc = (nI (mm_l M a1)) → False)) :
    mm_Ok l G yy_AL_add2 Y_AL_add2n [.inr (some a0), .inr oa, .inr ob, .inl xc] M K := by
  refine mm_go (by decide) rfl (fun q => by cases q) (Nat.le_of_ble_eq_true rfl) ?_
  show mm_Z l G Y_AL_add2n K M 0 0 0 [some (.inr (some a0)), some (.inr oa), some (.inr ob), some (.inl xc)] [] M
  refine mr_iload_n dd_AL_add2_0 rfl ?_
  refine mr_aload_n dd_AL_add2_1 rfl ?_
  obtain ⟨a1, ho2, h⟩ := h
  obtain ⟨hk3, h⟩ := h
  refine mr_alen2 dd_AL_add2_2 ho2 hk3 ?_
  refine mr_icmp_ne 11 dd_AL_add2_3 (by decide) (fun hc3 => ?_) (fun hc3 => ?_)
  · have h := h.1 hc3
    refine mr_aload_n dd_AL_add2_11 rfl ?_
    refine mr_iload_n dd_AL_add2_12 rfl ?_
    refine mr_aload_n dd_AL_add2_13 rfl ?_
    obtain ⟨hk5, h⟩ := h
    obtain ⟨j6, hj7, hm8, hl9, h⟩ := h
    obtain ⟨hv10, h⟩ := h
    refine mr_aast (t := 2) (E := "java/lang/Object") dd_AL_add2_14 ho2 hk5 (fun _ => rfl) (by decide) (by decide) hj7 hm8 hl9 hv10 ?_
    refine mr_aload_n dd_AL_add2_15 rfl ?_
    refine mr_iload_n dd_AL_add2_16 rfl ?_
    refine mr_iconst 1 dd_AL_add2_17 (by decide) ?_
    refine mr_iadd dd_AL_add2_18 ?_
    obtain ⟨hk11, h⟩ := h
    refine mr_puti ff_AL_48 fp_2 (Or.inl rfl) dd_AL_add2_19 (Or.inl (by decide +kernel)) rs_2_1 rfl hk11 ?_
    exact mr_return dd_AL_add2_22 rfl h
  · have h := h.2 hc3
    exact h.elim
set_option maxHeartbeats 4000000 in
set_option maxRecDepth 100000 in
theorem sg_AL_addn {l : Launch} {G : mm_G} {K : Option mm_V → mm_M → Prop} {M : mm_M} {a0 : Nat} {oa : Option Nat}
    (h : mm_k M a0 = 3 ∧ mm_Ok l G yy_AL_add2 Y_AL_add2n [.inr (some a0), .inr oa, .inr (mm_p (mm_si M a0 2 ((mm_i M a0 2) + 1)) a0 0), .inl (mm_i (mm_si M a0 2 ((mm_i M a0 2) + 1)) a0 1)] (mm_si M a0 2 ((mm_i M a0 2) + 1)) (fun r M2 => mm_X (mm_si M a0 2 ((mm_i M a0 2) + 1)) M2 → r = none ∧ K (some (.inl 1)) M2)) :
    mm_Ok l G yy_AL_add Y_AL_addn [.inr (some a0), .inr oa] M K := by
  refine mm_go (by decide) rfl (fun q => by cases q) (Nat.le_of_ble_eq_true rfl) ?_
  show mm_Z l G Y_AL_addn K M 0 0 0 [some (.inr (some a0)), some (.inr oa)] [] M
  refine mr_aload_n dd_AL_add_0 rfl ?_
  refine mr_dup dd_AL_add_1 ?_
  obtain ⟨hk1, h⟩ := h
  refine mr_geti ff_AL_63 dd_AL_add_2 rs_2_2 rfl hk1 ?_
  refine mr_iconst 1 dd_AL_add_5 (by decide) ?_
  refine mr_iadd dd_AL_add_6 ?_
  refine mr_puti ff_AL_63 fp_2 (Or.inl rfl) dd_AL_add_7 (Or.inl (by decide +kernel)) rs_2_2 rfl hk1 ?_
  refine mr_aload_n dd_AL_add_10 rfl ?_
  refine mr_aload_n dd_AL_add_11 rfl ?_
  refine mr_aload_n dd_AL_add_12 rfl ?_
  refine mr_getr ff_AL_9 dd_AL_add_13 rs_2_0 rfl hk1 ?_
  refine mr_aload_n dd_AL_add_16 rfl ?_
  refine mr_geti ff_AL_48 dd_AL_add_17 rs_2_1 rfl hk1 ?_
  refine mr_callV0 (Yc := Y_AL_add2n) (M := (mm_si M a0 2 ((mm_i M a0 2) + 1))) (st := []) (vs := [.inr oa, .inr (mm_p (mm_si M a0 2 ((mm_i M a0 2) + 1)) a0 0), .inl (mm_i (mm_si M a0 2 ((mm_i M a0 2) + 1)) a0 1)]) (ci := 2) fc_AL_131 iv_AL_add2 sv_AL_add2 dd_AL_add_20 ⟨Nat.le_of_ble_eq_true rfl, Nat.le_of_ble_eq_true rfl⟩ (by decide) rfl rfl (Nat.le_of_ble_eq_true rfl) rfl hk1 rfl rfl h (fun r M2 hX3 h => ?_)
  replace h := h hX3
  obtain ⟨rfl, h⟩ := h
  show mm_Z l G Y_AL_addn K M 0 0 23 [some (.inr (some a0)), some (.inr oa)] [] M2
  refine mr_iconst 1 dd_AL_add_23 (by decide) ?_
  exact mr_zreturn dd_AL_add_24 rfl (Or.inr rfl) h
