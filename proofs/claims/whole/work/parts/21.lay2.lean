/-! LAID STRETCHES (by program, wip/tools/walk.py): memory, collector, limits -/
set_option maxHeartbeats 4000000 in
set_option maxRecDepth 100000 in
theorem sg_Me_init {l : Launch} {G : mm_G} {K : Option mm_V → mm_M → Prop} {M : mm_M} {a0 : Nat}
    (h : ∀ q1, q1 = mm_z M → mm_Ok l G yy_AL_init Y_AL_init [.inr (some q1)] (mm_nw M 3 3) (fun r M4 => mm_X (mm_nw M 3 3) M4 → r = none ∧ mm_k M4 a0 = 2 ∧ ∀ q7, q7 = mm_z (mm_sp M4 a0 0 (some q1)) → mm_Ok l G yy_AL_init Y_AL_init [.inr (some q7)] (mm_nw (mm_sp M4 a0 0 (some q1)) 3 3) (fun r M10 => mm_X (mm_nw (mm_sp M4 a0 0 (some q1)) 3 3) M10 → r = none ∧ mm_k M10 a0 = 2 ∧ K none (mm_sp M10 a0 1 (some q7))))) :
    mm_Ok l G yy_Me_init Y_Me_init [.inr (some a0)] M K := by
  refine mm_go (by decide) rfl (fun _ => rfl) (Nat.le_of_ble_eq_true rfl) ?_
  show mm_Z l G Y_Me_init K M 2 6 0 [some (.inr (some a0))] [] M
  refine mr_aload_n dd_Me_init_0 rfl ?_
  refine mr_obji dd_Me_init_1 tb_31 tb_24 tb_25 ⟨Nat.le_of_ble_eq_true rfl, Nat.le_of_ble_eq_true rfl⟩ rfl ?_
  refine mr_aload_n dd_Me_init_4 rfl ?_
  refine mr_new (Y := Y_Me_init) (bc := 1) (bs := 3) fn_Me_9 dd_Me_init_5 ?_
  generalize hq2 : mm_z M = q1
  have h := h q1 hq2.symm
  refine mr_dup dd_Me_init_8 ?_
  refine mr_callI0 (Yc := Y_AL_init) (M := (mm_nw M 3 3)) (st := [.inr (some q1), .inr (some a0)]) (vs := []) fc_Me_11 iv_AL_init ⟨rfl, rfl⟩ dd_Me_init_9 ⟨Nat.le_of_ble_eq_true rfl, Nat.le_of_ble_eq_true rfl⟩ rfl (Nat.le_of_ble_eq_true rfl) rfl rfl rfl h (fun r M4 hX5 h => ?_)
  replace h := h hX5
  obtain ⟨rfl, h⟩ := h
  show mm_Z l G Y_Me_init K M 1 3 12 [some (.inr (some a0))] [.inr (some q1), .inr (some a0)] M4
  obtain ⟨hk6, h⟩ := h
  refine mr_putr ff_Me_12 fp_1 (Or.inr ⟨rfl, rfl, tb_58⟩) dd_Me_init_12 (ty := tt1 0) (by decide +kernel) (Or.inl ⟨_, rfl⟩) rs_1_0 rfl hk6 ?_
  refine mr_aload_n dd_Me_init_15 rfl ?_
  refine mr_new (Y := Y_Me_init) (bc := 0) (bs := 0) fn_Me_9 dd_Me_init_16 ?_
  generalize hq8 : mm_z (mm_sp M4 a0 0 (some q1)) = q7
  have h := h q7 hq8.symm
  refine mr_dup dd_Me_init_19 ?_
  refine mr_callI0 (Yc := Y_AL_init) (M := (mm_nw (mm_sp M4 a0 0 (some q1)) 3 3)) (st := [.inr (some q7), .inr (some a0)]) (vs := []) fc_Me_11 iv_AL_init ⟨rfl, rfl⟩ dd_Me_init_20 ⟨Nat.le_of_ble_eq_true rfl, Nat.le_of_ble_eq_true rfl⟩ rfl (Nat.le_of_ble_eq_true rfl) rfl rfl rfl h (fun r M10 hX11 h => ?_)
  replace h := h hX11
  obtain ⟨rfl, h⟩ := h
  show mm_Z l G Y_Me_init K M 0 0 23 [some (.inr (some a0))] [.inr (some q7), .inr (some a0)] M10
  obtain ⟨hk12, h⟩ := h
  refine mr_putr ff_Me_18 fp_1 (Or.inr ⟨rfl, rfl, tb_59⟩) dd_Me_init_23 (ty := tt1 1) (by decide +kernel) (Or.inl ⟨_, rfl⟩) rs_1_1 rfl hk12 ?_
  exact mr_return dd_Me_init_26 rfl h
set_option maxHeartbeats 4000000 in
set_option maxRecDepth 100000 in
theorem sg_Me_countPaidPages {l : Launch} {G : mm_G} {K : Option mm_V → mm_M → Prop} {M : mm_M} {a0 : Nat} {oa : Option Nat}
    (h : mm_Z l G Y_Me_countPaidPages K M 0 0 4 [some (.inr (some a0)), some (.inr oa), some (.inl 0), some (.inl 0), none] [] M) :
    mm_Ok l G yy_Me_countPaidPages Y_Me_countPaidPages [.inr (some a0), .inr oa] M K := by
  refine mm_go (by decide) rfl (fun q => by cases q) (Nat.le_of_ble_eq_true rfl) ?_
  show mm_Z l G Y_Me_countPaidPages K M 0 0 0 [some (.inr (some a0)), some (.inr oa), none, none, none] [] M
  refine mr_iconst 0 dd_Me_countPaidPages_0 (by decide) ?_
  refine mr_istore_n dd_Me_countPaidPages_1 (by decide) ?_
  show mm_Z l G Y_Me_countPaidPages K M 0 0 2 [some (.inr (some a0)), some (.inr oa), some (.inl 0), none, none] [] M
  refine mr_iconst 0 dd_Me_countPaidPages_2 (by decide) ?_
  refine mr_istore_n dd_Me_countPaidPages_3 (by decide) ?_
  show mm_Z l G Y_Me_countPaidPages K M 0 0 4 [some (.inr (some a0)), some (.inr oa), some (.inl 0), some (.inl 0), none] [] M
  exact h
set_option maxHeartbeats 4000000 in
set_option maxRecDepth 100000 in
theorem sg_Me_countPaidPages_4 {l : Launch} {G : mm_G} {K : Option mm_V → mm_M → Prop} {M0 M : mm_M} {bc bs : Nat} {a0 : Nat} {r1 : Option Nat} {y2 : Int32} {y3 : Int32}
    (h : mm_k M a0 = 2 ∧ ∃ a4 : Nat, (mm_p M a0 0) = some a4 ∧ mm_k M a4 = 3 ∧ mm_Ok l G yy_AL_size Y_AL_size [.inr (some a4)] M (fun r M2 => mm_X M M2 → ∃ x7 : Int32, r = some (.inl x7) ∧ (x7 ≤ y3 → K (some (.inl y2)) M2) ∧ (¬ x7 ≤ y3 → ∃ a10 : Nat, (mm_p M2 a0 0) = some a10 ∧ mm_k M2 a10 = 3 ∧ mm_Ok l G yy_AL_get Y_AL_get [.inr (some a10), .inl y3] M2 (fun r M8 => mm_X M2 M8 → ∃ o13 : Option Nat, r = some (.inr o13) ∧ (∀ q, o13 = some q → mm_k M8 q = 7) ∧ ∃ a15 : Nat, o13 = some a15 ∧ mm_k M8 a15 = 7 ∧ ∃ a18 : Nat, r1 = some a18 ∧ mm_k M8 a18 = 6 ∧ ((mm_i M8 a15 1) = (mm_i M8 a18 0) → mm_Z l G Y_Me_countPaidPages K M0 bc bs 4 [some (.inr (some a0)), some (.inr r1), some (.inl (y2 + 1)), some (.inl (y3 + 1)), none] [] M8) ∧ (¬ (mm_i M8 a15 1) = (mm_i M8 a18 0) → mm_Ok l G yy_Pr_isCharged Y_Pr_isCharged [.inr (some a18), .inl (mm_i M8 a15 0)] M8 (fun r M21 => mm_X M8 M21 → ∃ x23 : Int32, r = some (.inl x23) ∧ (x23 = 0 → mm_Z l G Y_Me_countPaidPages K M0 bc bs 4 [some (.inr (some a0)), some (.inr r1), some (.inl y2), some (.inl (y3 + 1)), none] [] M21) ∧ (¬ x23 = 0 → mm_Z l G Y_Me_countPaidPages K M0 bc bs 4 [some (.inr (some a0)), some (.inr r1), some (.inl (y2 + 1)), some (.inl (y3 + 1)), none] [] M21))))))) :
    mm_Z l G Y_Me_countPaidPages K M0 bc bs 4 [some (.inr (some a0)), some (.inr r1), some (.inl y2), some (.inl y3), none] [] M := by
  refine mr_iload_n dd_Me_countPaidPages_4 rfl ?_
  refine mr_aload_n dd_Me_countPaidPages_5 rfl ?_
  obtain ⟨hk1, h⟩ := h
  refine mr_getr ff_Me_12 dd_Me_countPaidPages_6 rs_1_0 rfl hk1 ?_
  obtain ⟨a4, ho5, h⟩ := h
  obtain ⟨hk6, h⟩ := h
  refine mr_callV0 (Yc := Y_AL_size) (M := M) (st := [.inl y3]) (vs := []) (ci := 2) fc_Me_21 iv_AL_size sv_AL_size dd_Me_countPaidPages_9 ⟨Nat.le_of_ble_eq_true rfl, Nat.le_of_ble_eq_true rfl⟩ (by decide) rfl rfl (Nat.le_of_ble_eq_true rfl) ho5 hk6 rfl rfl h (fun r M2 hX3 h => ?_)
  replace h := h hX3
  obtain ⟨x7, rfl, h⟩ := h
  show mm_Z l G Y_Me_countPaidPages K M0 bc bs 12 [some (.inr (some a0)), some (.inr r1), some (.inl y2), some (.inl y3), none] [.inl x7, .inl y3] M2
  refine mr_icmp_ge 61 dd_Me_countPaidPages_12 (by decide) (fun hc12 => ?_) (fun hc12 => ?_)
  · have h := h.1 hc12
    refine mr_iload_n dd_Me_countPaidPages_61 rfl ?_
    exact mr_ireturn dd_Me_countPaidPages_62 rfl h
  · have h := h.2 hc12
    refine mr_aload_n dd_Me_countPaidPages_15 rfl ?_
    refine mr_getr ff_Me_12 dd_Me_countPaidPages_16 rs_1_0 rfl (mm_Xk hX3 hk1 (by decide)) ?_
    refine mr_iload_n dd_Me_countPaidPages_19 rfl ?_
    obtain ⟨a10, ho11, h⟩ := h
    obtain ⟨hk12, h⟩ := h
    refine mr_callV0 (Yc := Y_AL_get) (M := M2) (st := []) (vs := [.inl y3]) (ci := 2) fc_Me_25 iv_AL_get sv_AL_get dd_Me_countPaidPages_20 ⟨Nat.le_of_ble_eq_true rfl, Nat.le_of_ble_eq_true rfl⟩ (by decide) rfl rfl (Nat.le_of_ble_eq_true rfl) ho11 hk12 rfl rfl h (fun r M8 hX9 h => ?_)
    replace h := h hX9
    obtain ⟨o13, rfl, h⟩ := h
    show mm_Z l G Y_Me_countPaidPages K M0 bc bs 23 [some (.inr (some a0)), some (.inr r1), some (.inl y2), some (.inl y3), none] [.inr o13] M8
    obtain ⟨hv14, h⟩ := h
    refine mr_cast (ci := 6) dd_Me_countPaidPages_23 tb_224 hv14 cs_6 ?_
    refine mr_astore dd_Me_countPaidPages_26 (by decide) ?_
    show mm_Z l G Y_Me_countPaidPages K M0 bc bs 28 [some (.inr (some a0)), some (.inr r1), some (.inl y2), some (.inl y3), some (.inr o13)] [] M8
    refine mr_aload dd_Me_countPaidPages_28 rfl ?_
    obtain ⟨a15, ho16, h⟩ := h
    obtain ⟨hk17, h⟩ := h
    refine mr_geti ff_Me_35 dd_Me_countPaidPages_30 rs_6_1 ho16 hk17 ?_
    refine mr_aload_n dd_Me_countPaidPages_33 rfl ?_
    obtain ⟨a18, ho19, h⟩ := h
    obtain ⟨hk20, h⟩ := h
    refine mr_geti ff_Me_38 dd_Me_countPaidPages_34 rs_5_0 ho19 hk20 ?_
    refine mr_icmp_eq 52 dd_Me_countPaidPages_37 (by decide) (fun hc37 => ?_) (fun hc37 => ?_)
    · have h := h.1 hc37
      refine mr_iinc 1 dd_Me_countPaidPages_52 rfl (by decide) (by decide) ?_
      show mm_Z l G Y_Me_countPaidPages K M0 bc bs 55 [some (.inr (some a0)), some (.inr r1), some (.inl (y2 + 1)), some (.inl y3), some (.inr o13)] [] M8
      refine mr_iinc 1 dd_Me_countPaidPages_55 rfl (by decide) (by decide) ?_
      show mm_Z l G Y_Me_countPaidPages K M0 bc bs 58 [some (.inr (some a0)), some (.inr r1), some (.inl (y2 + 1)), some (.inl (y3 + 1)), some (.inr o13)] [] M8
      refine mr_goto 4 dd_Me_countPaidPages_58 (by decide) ?_
      exact mm_fg (mm_leq (mm_le_s (mm_le_s (mm_le_s (mm_le_s (mm_le_n mm_le_e)))))) h
    · have h := h.2 hc37
      refine mr_aload_n dd_Me_countPaidPages_40 rfl ?_
      refine mr_aload dd_Me_countPaidPages_41 rfl ?_
      refine mr_geti ff_Me_31 dd_Me_countPaidPages_43 rs_6_0 ho16 hk17 ?_
      refine mr_callV0 (Yc := Y_Pr_isCharged) (M := M8) (st := []) (vs := [.inl (mm_i M8 a15 0)]) (ci := 5) fc_Me_43 iv_Pr_isCharged sv_Pr_isCharged dd_Me_countPaidPages_46 ⟨Nat.le_of_ble_eq_true rfl, Nat.le_of_ble_eq_true rfl⟩ (by decide) rfl rfl (Nat.le_of_ble_eq_true rfl) ho19 hk20 rfl rfl h (fun r M21 hX22 h => ?_)
      replace h := h hX22
      obtain ⟨x23, rfl, h⟩ := h
      show mm_Z l G Y_Me_countPaidPages K M0 bc bs 49 [some (.inr (some a0)), some (.inr r1), some (.inl y2), some (.inl y3), some (.inr o13)] [.inl x23] M21
      refine mr_if_eq 55 dd_Me_countPaidPages_49 (by decide) (fun hc49 => ?_) (fun hc49 => ?_)
      · have h := h.1 hc49
        refine mr_iinc 1 dd_Me_countPaidPages_55 rfl (by decide) (by decide) ?_
        show mm_Z l G Y_Me_countPaidPages K M0 bc bs 58 [some (.inr (some a0)), some (.inr r1), some (.inl y2), some (.inl (y3 + 1)), some (.inr o13)] [] M21
        refine mr_goto 4 dd_Me_countPaidPages_58 (by decide) ?_
        exact mm_fg (mm_leq (mm_le_s (mm_le_s (mm_le_s (mm_le_s (mm_le_n mm_le_e)))))) h
      · have h := h.2 hc49
        refine mr_iinc 1 dd_Me_countPaidPages_52 rfl (by decide) (by decide) ?_
        show mm_Z l G Y_Me_countPaidPages K M0 bc bs 55 [some (.inr (some a0)), some (.inr r1), some (.inl (y2 + 1)), some (.inl y3), some (.inr o13)] [] M21
        refine mr_iinc 1 dd_Me_countPaidPages_55 rfl (by decide) (by decide) ?_
        show mm_Z l G Y_Me_countPaidPages K M0 bc bs 58 [some (.inr (some a0)), some (.inr r1), some (.inl (y2 + 1)), some (.inl (y3 + 1)), some (.inr o13)] [] M21
        refine mr_goto 4 dd_Me_countPaidPages_58 (by decide) ?_
        exact mm_fg (mm_leq (mm_le_s (mm_le_s (mm_le_s (mm_le_s (mm_le_n mm_le_e)))))) h
set_option maxHeartbeats 4000000 in
set_option maxRecDepth 100000 in
theorem sg_Me_hasItemInto {l : Launch} {G : mm_G} {K : Option mm_V → mm_M → Prop} {M : mm_M} {a0 : Nat} {xa : Int32} {xb : Int32}
    (h : mm_Z l G Y_Me_hasItemInto K M 0 0 2 [some (.inr (some a0)), some (.inl xa), some (.inl xb), some (.inl 0), none] [] M) :
    mm_Ok l G yy_Me_hasItemInto Y_Me_hasItemInto [.inr (some a0), .inl xa, .inl xb] M K := by
  refine mm_go (by decide) rfl (fun q => by cases q) (Nat.le_of_ble_eq_true rfl) ?_
  show mm_Z l G Y_Me_hasItemInto K M 0 0 0 [some (.inr (some a0)), some (.inl xa), some (.inl xb), none, none] [] M
  refine mr_iconst 0 dd_Me_hasItemInto_0 (by decide) ?_
  refine mr_istore_n dd_Me_hasItemInto_1 (by decide) ?_
  show mm_Z l G Y_Me_hasItemInto K M 0 0 2 [some (.inr (some a0)), some (.inl xa), some (.inl xb), some (.inl 0), none] [] M
  exact h
set_option maxHeartbeats 4000000 in
set_option maxRecDepth 100000 in
theorem sg_Me_hasItemInto_2 {l : Launch} {G : mm_G} {K : Option mm_V → mm_M → Prop} {M0 M : mm_M} {bc bs : Nat} {a0 : Nat} {y1 : Int32} {y2 : Int32} {y3 : Int32}
    (h : mm_k M a0 = 2 ∧ ∃ a4 : Nat, (mm_p M a0 1) = some a4 ∧ mm_k M a4 = 3 ∧ mm_Ok l G yy_AL_size Y_AL_size [.inr (some a4)] M (fun r M2 => mm_X M M2 → ∃ x7 : Int32, r = some (.inl x7) ∧ (x7 ≤ y3 → K (some (.inl 0)) M2) ∧ (¬ x7 ≤ y3 → ∃ a10 : Nat, (mm_p M2 a0 1) = some a10 ∧ mm_k M2 a10 = 3 ∧ mm_Ok l G yy_AL_get Y_AL_get [.inr (some a10), .inl y3] M2 (fun r M8 => mm_X M2 M8 → ∃ o13 : Option Nat, r = some (.inr o13) ∧ (∀ q, o13 = some q → mm_k M8 q = 8) ∧ ∃ a17 : Nat, o13 = some a17 ∧ mm_k M8 a17 = 8 ∧ mm_Ok l G yy_Ob_heapNumber Y_Ob_heapNumber [.inr (some a17)] M8 (fun r M15 => mm_X M8 M15 → ∃ x20 : Int32, r = some (.inl x20) ∧ (¬ x20 = y2 → mm_Z l G Y_Me_hasItemInto K M0 bc bs 2 [some (.inr (some a0)), some (.inl y1), some (.inl y2), some (.inl (y3 + 1)), none] [] M15) ∧ (x20 = y2 → mm_Ok l G yy_Ob_hasItem Y_Ob_hasItem [.inr (some a17), .inl y1] M15 (fun r M21 => mm_X M15 M21 → ∃ x23 : Int32, r = some (.inl x23) ∧ (x23 = 0 → mm_Z l G Y_Me_hasItemInto K M0 bc bs 2 [some (.inr (some a0)), some (.inl y1), some (.inl y2), some (.inl (y3 + 1)), none] [] M21) ∧ (¬ x23 = 0 → K (some (.inl 1)) M21)))))))) :
    mm_Z l G Y_Me_hasItemInto K M0 bc bs 2 [some (.inr (some a0)), some (.inl y1), some (.inl y2), some (.inl y3), none] [] M := by
  refine mr_iload_n dd_Me_hasItemInto_2 rfl ?_
  refine mr_aload_n dd_Me_hasItemInto_3 rfl ?_
  obtain ⟨hk1, h⟩ := h
  refine mr_getr ff_Me_18 dd_Me_hasItemInto_4 rs_1_1 rfl hk1 ?_
  obtain ⟨a4, ho5, h⟩ := h
  obtain ⟨hk6, h⟩ := h
  refine mr_callV0 (Yc := Y_AL_size) (M := M) (st := [.inl y3]) (vs := []) (ci := 2) fc_Me_21 iv_AL_size sv_AL_size dd_Me_hasItemInto_7 ⟨Nat.le_of_ble_eq_true rfl, Nat.le_of_ble_eq_true rfl⟩ (by decide) rfl rfl (Nat.le_of_ble_eq_true rfl) ho5 hk6 rfl rfl h (fun r M2 hX3 h => ?_)
  replace h := h hX3
  obtain ⟨x7, rfl, h⟩ := h
  show mm_Z l G Y_Me_hasItemInto K M0 bc bs 10 [some (.inr (some a0)), some (.inl y1), some (.inl y2), some (.inl y3), none] [.inl x7, .inl y3] M2
  refine mr_icmp_ge 52 dd_Me_hasItemInto_10 (by decide) (fun hc10 => ?_) (fun hc10 => ?_)
  · have h := h.1 hc10
    refine mr_iconst 0 dd_Me_hasItemInto_52 (by decide) ?_
    exact mr_zreturn dd_Me_hasItemInto_53 rfl (Or.inl rfl) h
  · have h := h.2 hc10
    refine mr_aload_n dd_Me_hasItemInto_13 rfl ?_
    refine mr_getr ff_Me_18 dd_Me_hasItemInto_14 rs_1_1 rfl (mm_Xk hX3 hk1 (by decide)) ?_
    refine mr_iload_n dd_Me_hasItemInto_17 rfl ?_
    obtain ⟨a10, ho11, h⟩ := h
    obtain ⟨hk12, h⟩ := h
    refine mr_callV0 (Yc := Y_AL_get) (M := M2) (st := []) (vs := [.inl y3]) (ci := 2) fc_Me_25 iv_AL_get sv_AL_get dd_Me_hasItemInto_18 ⟨Nat.le_of_ble_eq_true rfl, Nat.le_of_ble_eq_true rfl⟩ (by decide) rfl rfl (Nat.le_of_ble_eq_true rfl) ho11 hk12 rfl rfl h (fun r M8 hX9 h => ?_)
    replace h := h hX9
    obtain ⟨o13, rfl, h⟩ := h
    show mm_Z l G Y_Me_hasItemInto K M0 bc bs 21 [some (.inr (some a0)), some (.inl y1), some (.inl y2), some (.inl y3), none] [.inr o13] M8
    obtain ⟨hv14, h⟩ := h
    refine mr_cast (ci := 7) dd_Me_hasItemInto_21 tb_267 hv14 cs_7 ?_
    refine mr_astore dd_Me_hasItemInto_24 (by decide) ?_
    show mm_Z l G Y_Me_hasItemInto K M0 bc bs 26 [some (.inr (some a0)), some (.inl y1), some (.inl y2), some (.inl y3), some (.inr o13)] [] M8
    refine mr_aload dd_Me_hasItemInto_26 rfl ?_
    obtain ⟨a17, ho18, h⟩ := h
    obtain ⟨hk19, h⟩ := h
    refine mr_callV0 (Yc := Y_Ob_heapNumber) (M := M8) (st := []) (vs := []) (ci := 7) fc_Me_49 iv_Ob_heapNumber sv_Ob_heapNumber dd_Me_hasItemInto_28 ⟨Nat.le_of_ble_eq_true rfl, Nat.le_of_ble_eq_true rfl⟩ (by decide) rfl rfl (Nat.le_of_ble_eq_true rfl) ho18 hk19 rfl rfl h (fun r M15 hX16 h => ?_)
    replace h := h hX16
    obtain ⟨x20, rfl, h⟩ := h
    show mm_Z l G Y_Me_hasItemInto K M0 bc bs 31 [some (.inr (some a0)), some (.inl y1), some (.inl y2), some (.inl y3), some (.inr o13)] [.inl x20] M15
    refine mr_iload_n dd_Me_hasItemInto_31 rfl ?_
    refine mr_icmp_ne 46 dd_Me_hasItemInto_32 (by decide) (fun hc32 => ?_) (fun hc32 => ?_)
    · have h := h.1 hc32
      refine mr_iinc 1 dd_Me_hasItemInto_46 rfl (by decide) (by decide) ?_
      show mm_Z l G Y_Me_hasItemInto K M0 bc bs 49 [some (.inr (some a0)), some (.inl y1), some (.inl y2), some (.inl (y3 + 1)), some (.inr o13)] [] M15
      refine mr_goto 2 dd_Me_hasItemInto_49 (by decide) ?_
      exact mm_fg (mm_leq (mm_le_s (mm_le_s (mm_le_s (mm_le_s (mm_le_n mm_le_e)))))) h
    · have h := h.2 hc32
      refine mr_aload dd_Me_hasItemInto_35 rfl ?_
      refine mr_iload_n dd_Me_hasItemInto_37 rfl ?_
      refine mr_callV0 (Yc := Y_Ob_hasItem) (M := M15) (st := []) (vs := [.inl y1]) (ci := 7) fc_Me_52 iv_Ob_hasItem sv_Ob_hasItem dd_Me_hasItemInto_38 ⟨Nat.le_of_ble_eq_true rfl, Nat.le_of_ble_eq_true rfl⟩ (by decide) rfl rfl (Nat.le_of_ble_eq_true rfl) ho18 (mm_Xk hX16 hk19 (by decide)) rfl rfl h (fun r M21 hX22 h => ?_)
      replace h := h hX22
      obtain ⟨x23, rfl, h⟩ := h
      show mm_Z l G Y_Me_hasItemInto K M0 bc bs 41 [some (.inr (some a0)), some (.inl y1), some (.inl y2), some (.inl y3), some (.inr o13)] [.inl x23] M21
      refine mr_if_eq 46 dd_Me_hasItemInto_41 (by decide) (fun hc41 => ?_) (fun hc41 => ?_)
      · have h := h.1 hc41
        refine mr_iinc 1 dd_Me_hasItemInto_46 rfl (by decide) (by decide) ?_
        show mm_Z l G Y_Me_hasItemInto K M0 bc bs 49 [some (.inr (some a0)), some (.inl y1), some (.inl y2), some (.inl (y3 + 1)), some (.inr o13)] [] M21
        refine mr_goto 2 dd_Me_hasItemInto_49 (by decide) ?_
        exact mm_fg (mm_leq (mm_le_s (mm_le_s (mm_le_s (mm_le_s (mm_le_n mm_le_e)))))) h
      · have h := h.2 hc41
        refine mr_iconst 1 dd_Me_hasItemInto_44 (by decide) ?_
        exact mr_zreturn dd_Me_hasItemInto_45 rfl (Or.inr rfl) h
set_option maxHeartbeats 4000000 in
set_option maxRecDepth 100000 in
theorem sg_Me_mergeIntoKernel {l : Launch} {G : mm_G} {K : Option mm_V → mm_M → Prop} {M : mm_M} {a0 : Nat} {xa : Int32}
    (h : mm_k M a0 = 2 ∧ ∃ a4 : Nat, (mm_p M a0 0) = some a4 ∧ mm_k M a4 = 3 ∧ mm_Ok l G yy_AL_size Y_AL_size [.inr (some a4)] M (fun r M2 => mm_X M M2 → ∃ x7 : Int32, r = some (.inl x7) ∧ mm_Z l G Y_Me_mergeIntoKernel K M 0 0 13 [some (.inr (some a0)), some (.inl xa), some (.inl x7), some (.inl 0), some (.inl 0), none] [] M2)) :
    mm_Ok l G yy_Me_mergeIntoKernel Y_Me_mergeIntoKernel [.inr (some a0), .inl xa] M K := by
  refine mm_go (by decide) rfl (fun q => by cases q) (Nat.le_of_ble_eq_true rfl) ?_
  show mm_Z l G Y_Me_mergeIntoKernel K M 0 0 0 [some (.inr (some a0)), some (.inl xa), none, none, none, none] [] M
  refine mr_aload_n dd_Me_mergeIntoKernel_0 rfl ?_
  obtain ⟨hk1, h⟩ := h
  refine mr_getr ff_Me_12 dd_Me_mergeIntoKernel_1 rs_1_0 rfl hk1 ?_
  obtain ⟨a4, ho5, h⟩ := h
  obtain ⟨hk6, h⟩ := h
  refine mr_callV0 (Yc := Y_AL_size) (M := M) (st := []) (vs := []) (ci := 2) fc_Me_21 iv_AL_size sv_AL_size dd_Me_mergeIntoKernel_4 ⟨Nat.le_of_ble_eq_true rfl, Nat.le_of_ble_eq_true rfl⟩ (by decide) rfl rfl (Nat.le_of_ble_eq_true rfl) ho5 hk6 rfl rfl h (fun r M2 hX3 h => ?_)
  replace h := h hX3
  obtain ⟨x7, rfl, h⟩ := h
  show mm_Z l G Y_Me_mergeIntoKernel K M 0 0 7 [some (.inr (some a0)), some (.inl xa), none, none, none, none] [.inl x7] M2
  refine mr_istore_n dd_Me_mergeIntoKernel_7 (by decide) ?_
  show mm_Z l G Y_Me_mergeIntoKernel K M 0 0 8 [some (.inr (some a0)), some (.inl xa), some (.inl x7), none, none, none] [] M2
  refine mr_iconst 0 dd_Me_mergeIntoKernel_8 (by decide) ?_
  refine mr_istore_n dd_Me_mergeIntoKernel_9 (by decide) ?_
  show mm_Z l G Y_Me_mergeIntoKernel K M 0 0 10 [some (.inr (some a0)), some (.inl xa), some (.inl x7), some (.inl 0), none, none] [] M2
  refine mr_iconst 0 dd_Me_mergeIntoKernel_10 (by decide) ?_
  refine mr_istore dd_Me_mergeIntoKernel_11 (by decide) ?_
  show mm_Z l G Y_Me_mergeIntoKernel K M 0 0 13 [some (.inr (some a0)), some (.inl xa), some (.inl x7), some (.inl 0), some (.inl 0), none] [] M2
  exact h
set_option maxHeartbeats 4000000 in
set_option maxRecDepth 100000 in
theorem sg_Me_mergeIntoKernel_13 {l : Launch} {G : mm_G} {K : Option mm_V → mm_M → Prop} {M0 M : mm_M} {bc bs : Nat} {a0 : Nat} {y1 : Int32} {y2 : Int32} {y3 : Int32} {y4 : Int32}
    (h : (y2 ≤ y4 → K none M) ∧ (¬ y2 ≤ y4 → mm_k M a0 = 2 ∧ ∃ a4 : Nat, (mm_p M a0 0) = some a4 ∧ mm_k M a4 = 3 ∧ mm_Ok l G yy_AL_get Y_AL_get [.inr (some a4), .inl (y4 - y3)] M (fun r M2 => mm_X M M2 → ∃ o7 : Option Nat, r = some (.inr o7) ∧ (∀ q, o7 = some q → mm_k M2 q = 7) ∧ ∃ a9 : Nat, o7 = some a9 ∧ mm_k M2 a9 = 7 ∧ (¬ (mm_i M2 a9 0) = y1 → mm_Z l G Y_Me_mergeIntoKernel K M0 bc bs 13 [some (.inr (some a0)), some (.inl y1), some (.inl y2), some (.inl y3), some (.inl (y4 + 1)), none] [] M2) ∧ ((mm_i M2 a9 0) = y1 → ∃ a14 : Nat, (mm_p M2 a0 0) = some a14 ∧ mm_k M2 a14 = 3 ∧ mm_Ok l G yy_AL_remove Y_AL_remove [.inr (some a14), .inl (y4 - y3)] M2 (fun r M12 => mm_X M2 M12 → ∃ o17 : Option Nat, r = some (.inr o17) ∧ ∃ a20 : Nat, (mm_p M12 a0 0) = some a20 ∧ mm_k M12 a20 = 3 ∧ mm_Ok l G yy_AL_add Y_AL_addn [.inr (some a20), .inr o7] M12 (fun r M18 => mm_X M12 M18 → ∃ x23 : Int32, r = some (.inl x23) ∧ mm_Z l G Y_Me_mergeIntoKernel K M0 bc bs 13 [some (.inr (some a0)), some (.inl y1), some (.inl y2), some (.inl (y3 + 1)), some (.inl (y4 + 1)), none] [] (mm_si M18 a9 0 8))))))) :
    mm_Z l G Y_Me_mergeIntoKernel K M0 bc bs 13 [some (.inr (some a0)), some (.inl y1), some (.inl y2), some (.inl y3), some (.inl y4), none] [] M := by
  refine mr_iload dd_Me_mergeIntoKernel_13 rfl ?_
  refine mr_iload_n dd_Me_mergeIntoKernel_15 rfl ?_
  refine mr_icmp_ge 82 dd_Me_mergeIntoKernel_16 (by decide) (fun hc16 => ?_) (fun hc16 => ?_)
  · have h := h.1 hc16
    exact mr_return dd_Me_mergeIntoKernel_82 rfl h
  · have h := h.2 hc16
    refine mr_aload_n dd_Me_mergeIntoKernel_19 rfl ?_
    obtain ⟨hk1, h⟩ := h
    refine mr_getr ff_Me_12 dd_Me_mergeIntoKernel_20 rs_1_0 rfl hk1 ?_
    refine mr_iload dd_Me_mergeIntoKernel_23 rfl ?_
    refine mr_iload_n dd_Me_mergeIntoKernel_25 rfl ?_
    refine mr_isub dd_Me_mergeIntoKernel_26 ?_
    obtain ⟨a4, ho5, h⟩ := h
    obtain ⟨hk6, h⟩ := h
    refine mr_callV0 (Yc := Y_AL_get) (M := M) (st := []) (vs := [.inl (y4 - y3)]) (ci := 2) fc_Me_25 iv_AL_get sv_AL_get dd_Me_mergeIntoKernel_27 ⟨Nat.le_of_ble_eq_true rfl, Nat.le_of_ble_eq_true rfl⟩ (by decide) rfl rfl (Nat.le_of_ble_eq_true rfl) ho5 hk6 rfl rfl h (fun r M2 hX3 h => ?_)
    replace h := h hX3
    obtain ⟨o7, rfl, h⟩ := h
    show mm_Z l G Y_Me_mergeIntoKernel K M0 bc bs 30 [some (.inr (some a0)), some (.inl y1), some (.inl y2), some (.inl y3), some (.inl y4), none] [.inr o7] M2
    obtain ⟨hv8, h⟩ := h
    refine mr_cast (ci := 6) dd_Me_mergeIntoKernel_30 tb_224 hv8 cs_6 ?_
    refine mr_astore dd_Me_mergeIntoKernel_33 (by decide) ?_
    show mm_Z l G Y_Me_mergeIntoKernel K M0 bc bs 35 [some (.inr (some a0)), some (.inl y1), some (.inl y2), some (.inl y3), some (.inl y4), some (.inr o7)] [] M2
    refine mr_aload dd_Me_mergeIntoKernel_35 rfl ?_
    obtain ⟨a9, ho10, h⟩ := h
    obtain ⟨hk11, h⟩ := h
    refine mr_geti ff_Me_31 dd_Me_mergeIntoKernel_37 rs_6_0 ho10 hk11 ?_
    refine mr_iload_n dd_Me_mergeIntoKernel_40 rfl ?_
    refine mr_icmp_ne 76 dd_Me_mergeIntoKernel_41 (by decide) (fun hc41 => ?_) (fun hc41 => ?_)
    · have h := h.1 hc41
      refine mr_iinc 1 dd_Me_mergeIntoKernel_76 rfl (by decide) (by decide) ?_
      show mm_Z l G Y_Me_mergeIntoKernel K M0 bc bs 79 [some (.inr (some a0)), some (.inl y1), some (.inl y2), some (.inl y3), some (.inl (y4 + 1)), some (.inr o7)] [] M2
      refine mr_goto 13 dd_Me_mergeIntoKernel_79 (by decide) ?_
      exact mm_fg (mm_leq (mm_le_s (mm_le_s (mm_le_s (mm_le_s (mm_le_s (mm_le_n mm_le_e))))))) h
    · have h := h.2 hc41
      refine mr_aload_n dd_Me_mergeIntoKernel_44 rfl ?_
      refine mr_getr ff_Me_12 dd_Me_mergeIntoKernel_45 rs_1_0 rfl (mm_Xk hX3 hk1 (by decide)) ?_
      refine mr_iload dd_Me_mergeIntoKernel_48 rfl ?_
      refine mr_iload_n dd_Me_mergeIntoKernel_50 rfl ?_
      refine mr_isub dd_Me_mergeIntoKernel_51 ?_
      obtain ⟨a14, ho15, h⟩ := h
      obtain ⟨hk16, h⟩ := h
      refine mr_callV0 (Yc := Y_AL_remove) (M := M2) (st := []) (vs := [.inl (y4 - y3)]) (ci := 2) fc_Me_78 iv_AL_remove sv_AL_remove dd_Me_mergeIntoKernel_52 ⟨Nat.le_of_ble_eq_true rfl, Nat.le_of_ble_eq_true rfl⟩ (by decide) rfl rfl (Nat.le_of_ble_eq_true rfl) ho15 hk16 rfl rfl h (fun r M12 hX13 h => ?_)
      replace h := h hX13
      obtain ⟨o17, rfl, h⟩ := h
      show mm_Z l G Y_Me_mergeIntoKernel K M0 bc bs 55 [some (.inr (some a0)), some (.inl y1), some (.inl y2), some (.inl y3), some (.inl y4), some (.inr o7)] [.inr o17] M12
      refine mr_pop dd_Me_mergeIntoKernel_55 ?_
      refine mr_aload_n dd_Me_mergeIntoKernel_56 rfl ?_
      refine mr_getr ff_Me_12 dd_Me_mergeIntoKernel_57 rs_1_0 rfl (mm_Xk hX13 (mm_Xk hX3 hk1 (by decide)) (by decide)) ?_
      refine mr_aload dd_Me_mergeIntoKernel_60 rfl ?_
      obtain ⟨a20, ho21, h⟩ := h
      obtain ⟨hk22, h⟩ := h
      refine mr_callV0 (Yc := Y_AL_addn) (M := M12) (st := []) (vs := [.inr o7]) (ci := 2) fc_Me_61 iv_AL_add sv_AL_add dd_Me_mergeIntoKernel_62 ⟨Nat.le_of_ble_eq_true rfl, Nat.le_of_ble_eq_true rfl⟩ (by decide) rfl rfl (Nat.le_of_ble_eq_true rfl) ho21 hk22 rfl rfl h (fun r M18 hX19 h => ?_)
      replace h := h hX19
      obtain ⟨x23, rfl, h⟩ := h
      show mm_Z l G Y_Me_mergeIntoKernel K M0 bc bs 65 [some (.inr (some a0)), some (.inl y1), some (.inl y2), some (.inl y3), some (.inl y4), some (.inr o7)] [.inl x23] M18
      refine mr_pop dd_Me_mergeIntoKernel_65 ?_
      refine mr_aload dd_Me_mergeIntoKernel_66 rfl ?_
      refine mr_bipush 8 dd_Me_mergeIntoKernel_68 (by decide) ?_
      refine mr_puti ff_Me_31 fp_6 (Or.inl rfl) dd_Me_mergeIntoKernel_70 (Or.inl (by decide +kernel)) rs_6_0 ho10 (mm_Xk hX19 (mm_Xk hX13 hk11 (by decide)) (by decide)) ?_
      refine mr_iinc 1 dd_Me_mergeIntoKernel_73 rfl (by decide) (by decide) ?_
      show mm_Z l G Y_Me_mergeIntoKernel K M0 bc bs 76 [some (.inr (some a0)), some (.inl y1), some (.inl y2), some (.inl (y3 + 1)), some (.inl y4), some (.inr o7)] [] (mm_si M18 a9 0 8)
      refine mr_iinc 1 dd_Me_mergeIntoKernel_76 rfl (by decide) (by decide) ?_
      show mm_Z l G Y_Me_mergeIntoKernel K M0 bc bs 79 [some (.inr (some a0)), some (.inl y1), some (.inl y2), some (.inl (y3 + 1)), some (.inl (y4 + 1)), some (.inr o7)] [] (mm_si M18 a9 0 8)
      refine mr_goto 13 dd_Me_mergeIntoKernel_79 (by decide) ?_
      exact mm_fg (mm_leq (mm_le_s (mm_le_s (mm_le_s (mm_le_s (mm_le_s (mm_le_n mm_le_e))))))) h
set_option maxHeartbeats 4000000 in
set_option maxRecDepth 100000 in
theorem sg_Me_handItemsToKernel {l : Launch} {G : mm_G} {K : Option mm_V → mm_M → Prop} {M : mm_M} {a0 : Nat} {xa : Int32}
    (h : mm_Z l G Y_Me_handItemsToKernel K M 0 0 2 [some (.inr (some a0)), some (.inl xa), some (.inl 0), none] [] M) :
    mm_Ok l G yy_Me_handItemsToKernel Y_Me_handItemsToKernel [.inr (some a0), .inl xa] M K := by
  refine mm_go (by decide) rfl (fun q => by cases q) (Nat.le_of_ble_eq_true rfl) ?_
  show mm_Z l G Y_Me_handItemsToKernel K M 0 0 0 [some (.inr (some a0)), some (.inl xa), none, none] [] M
  refine mr_iconst 0 dd_Me_handItemsToKernel_0 (by decide) ?_
  refine mr_istore_n dd_Me_handItemsToKernel_1 (by decide) ?_
  show mm_Z l G Y_Me_handItemsToKernel K M 0 0 2 [some (.inr (some a0)), some (.inl xa), some (.inl 0), none] [] M
  exact h
set_option maxHeartbeats 4000000 in
set_option maxRecDepth 100000 in
theorem sg_Me_handItemsToKernel_2 {l : Launch} {G : mm_G} {K : Option mm_V → mm_M → Prop} {M0 M : mm_M} {bc bs : Nat} {a0 : Nat} {y1 : Int32} {y2 : Int32}
    (h : mm_k M a0 = 2 ∧ ∃ a4 : Nat, (mm_p M a0 1) = some a4 ∧ mm_k M a4 = 3 ∧ mm_Ok l G yy_AL_size Y_AL_size [.inr (some a4)] M (fun r M2 => mm_X M M2 → ∃ x7 : Int32, r = some (.inl x7) ∧ (x7 ≤ y2 → K none M2) ∧ (¬ x7 ≤ y2 → ∃ a10 : Nat, (mm_p M2 a0 1) = some a10 ∧ mm_k M2 a10 = 3 ∧ mm_Ok l G yy_AL_get Y_AL_get [.inr (some a10), .inl y2] M2 (fun r M8 => mm_X M2 M8 → ∃ o13 : Option Nat, r = some (.inr o13) ∧ (∀ q, o13 = some q → mm_k M8 q = 8) ∧ ∃ a17 : Nat, o13 = some a17 ∧ mm_k M8 a17 = 8 ∧ mm_Ok l G yy_Ob_heapNumber Y_Ob_heapNumber [.inr (some a17)] M8 (fun r M15 => mm_X M8 M15 → ∃ x20 : Int32, r = some (.inl x20) ∧ (¬ x20 = 8 → mm_Ok l G yy_Ob_hasItem Y_Ob_hasItem [.inr (some a17), .inl y1] M15 (fun r M21 => mm_X M15 M21 → ∃ x23 : Int32, r = some (.inl x23) ∧ (x23 = 0 → mm_Ok l G yy_Ob_dropItem Y_Ob_dropItem [.inr (some a17), .inl y1] M21 (fun r M24 => mm_X M21 M24 → r = none ∧ mm_Z l G Y_Me_handItemsToKernel K M0 bc bs 2 [some (.inr (some a0)), some (.inl y1), some (.inl (y2 + 1)), none] [] M24)) ∧ (¬ x23 = 0 → mm_Ok l G yy_Ob_addItem Y_Ob_addItem [.inr (some a17), .inl 8] M21 (fun r M26 => mm_X M21 M26 → r = none ∧ mm_Ok l G yy_Ob_dropItem Y_Ob_dropItem [.inr (some a17), .inl y1] M26 (fun r M28 => mm_X M26 M28 → r = none ∧ mm_Z l G Y_Me_handItemsToKernel K M0 bc bs 2 [some (.inr (some a0)), some (.inl y1), some (.inl (y2 + 1)), none] [] M28))))) ∧ (x20 = 8 → mm_Ok l G yy_Ob_dropItem Y_Ob_dropItem [.inr (some a17), .inl 8] M15 (fun r M30 => mm_X M15 M30 → r = none ∧ mm_Ok l G yy_Ob_dropItem Y_Ob_dropItem [.inr (some a17), .inl y1] M30 (fun r M32 => mm_X M30 M32 → r = none ∧ mm_Z l G Y_Me_handItemsToKernel K M0 bc bs 2 [some (.inr (some a0)), some (.inl y1), some (.inl (y2 + 1)), none] [] M32)))))))) :
    mm_Z l G Y_Me_handItemsToKernel K M0 bc bs 2 [some (.inr (some a0)), some (.inl y1), some (.inl y2), none] [] M := by
  refine mr_iload_n dd_Me_handItemsToKernel_2 rfl ?_
  refine mr_aload_n dd_Me_handItemsToKernel_3 rfl ?_
  obtain ⟨hk1, h⟩ := h
  refine mr_getr ff_Me_18 dd_Me_handItemsToKernel_4 rs_1_1 rfl hk1 ?_
  obtain ⟨a4, ho5, h⟩ := h
  obtain ⟨hk6, h⟩ := h
  refine mr_callV0 (Yc := Y_AL_size) (M := M) (st := [.inl y2]) (vs := []) (ci := 2) fc_Me_21 iv_AL_size sv_AL_size dd_Me_handItemsToKernel_7 ⟨Nat.le_of_ble_eq_true rfl, Nat.le_of_ble_eq_true rfl⟩ (by decide) rfl rfl (Nat.le_of_ble_eq_true rfl) ho5 hk6 rfl rfl h (fun r M2 hX3 h => ?_)
  replace h := h hX3
  obtain ⟨x7, rfl, h⟩ := h
  show mm_Z l G Y_Me_handItemsToKernel K M0 bc bs 10 [some (.inr (some a0)), some (.inl y1), some (.inl y2), none] [.inl x7, .inl y2] M2
  refine mr_icmp_ge 68 dd_Me_handItemsToKernel_10 (by decide) (fun hc10 => ?_) (fun hc10 => ?_)
  · have h := h.1 hc10
    exact mr_return dd_Me_handItemsToKernel_68 rfl h
  · have h := h.2 hc10
    refine mr_aload_n dd_Me_handItemsToKernel_13 rfl ?_
    refine mr_getr ff_Me_18 dd_Me_handItemsToKernel_14 rs_1_1 rfl (mm_Xk hX3 hk1 (by decide)) ?_
    refine mr_iload_n dd_Me_handItemsToKernel_17 rfl ?_
    obtain ⟨a10, ho11, h⟩ := h
    obtain ⟨hk12, h⟩ := h
    refine mr_callV0 (Yc := Y_AL_get) (M := M2) (st := []) (vs := [.inl y2]) (ci := 2) fc_Me_25 iv_AL_get sv_AL_get dd_Me_handItemsToKernel_18 ⟨Nat.le_of_ble_eq_true rfl, Nat.le_of_ble_eq_true rfl⟩ (by decide) rfl rfl (Nat.le_of_ble_eq_true rfl) ho11 hk12 rfl rfl h (fun r M8 hX9 h => ?_)
    replace h := h hX9
    obtain ⟨o13, rfl, h⟩ := h
    show mm_Z l G Y_Me_handItemsToKernel K M0 bc bs 21 [some (.inr (some a0)), some (.inl y1), some (.inl y2), none] [.inr o13] M8
    obtain ⟨hv14, h⟩ := h
    refine mr_cast (ci := 7) dd_Me_handItemsToKernel_21 tb_267 hv14 cs_7 ?_
    refine mr_astore_n dd_Me_handItemsToKernel_24 (by decide) ?_
    show mm_Z l G Y_Me_handItemsToKernel K M0 bc bs 25 [some (.inr (some a0)), some (.inl y1), some (.inl y2), some (.inr o13)] [] M8
    refine mr_aload_n dd_Me_handItemsToKernel_25 rfl ?_
    obtain ⟨a17, ho18, h⟩ := h
    obtain ⟨hk19, h⟩ := h
    refine mr_callV0 (Yc := Y_Ob_heapNumber) (M := M8) (st := []) (vs := []) (ci := 7) fc_Me_49 iv_Ob_heapNumber sv_Ob_heapNumber dd_Me_handItemsToKernel_26 ⟨Nat.le_of_ble_eq_true rfl, Nat.le_of_ble_eq_true rfl⟩ (by decide) rfl rfl (Nat.le_of_ble_eq_true rfl) ho18 hk19 rfl rfl h (fun r M15 hX16 h => ?_)
    replace h := h hX16
    obtain ⟨x20, rfl, h⟩ := h
    show mm_Z l G Y_Me_handItemsToKernel K M0 bc bs 29 [some (.inr (some a0)), some (.inl y1), some (.inl y2), some (.inr o13)] [.inl x20] M15
    refine mr_bipush 8 dd_Me_handItemsToKernel_29 (by decide) ?_
    refine mr_icmp_ne 43 dd_Me_handItemsToKernel_31 (by decide) (fun hc31 => ?_) (fun hc31 => ?_)
    · have h := h.1 hc31
      refine mr_aload_n dd_Me_handItemsToKernel_43 rfl ?_
      refine mr_iload_n dd_Me_handItemsToKernel_44 rfl ?_
      refine mr_callV0 (Yc := Y_Ob_hasItem) (M := M15) (st := []) (vs := [.inl y1]) (ci := 7) fc_Me_52 iv_Ob_hasItem sv_Ob_hasItem dd_Me_handItemsToKernel_45 ⟨Nat.le_of_ble_eq_true rfl, Nat.le_of_ble_eq_true rfl⟩ (by decide) rfl rfl (Nat.le_of_ble_eq_true rfl) ho18 (mm_Xk hX16 hk19 (by decide)) rfl rfl h (fun r M21 hX22 h => ?_)
      replace h := h hX22
      obtain ⟨x23, rfl, h⟩ := h
      show mm_Z l G Y_Me_handItemsToKernel K M0 bc bs 48 [some (.inr (some a0)), some (.inl y1), some (.inl y2), some (.inr o13)] [.inl x23] M21
      refine mr_if_eq 57 dd_Me_handItemsToKernel_48 (by decide) (fun hc48 => ?_) (fun hc48 => ?_)
      · have h := h.1 hc48
        refine mr_aload_n dd_Me_handItemsToKernel_57 rfl ?_
        refine mr_iload_n dd_Me_handItemsToKernel_58 rfl ?_
        refine mr_callV0 (Yc := Y_Ob_dropItem) (M := M21) (st := []) (vs := [.inl y1]) (ci := 7) fc_Me_84 iv_Ob_dropItem sv_Ob_dropItem dd_Me_handItemsToKernel_59 ⟨Nat.le_of_ble_eq_true rfl, Nat.le_of_ble_eq_true rfl⟩ (by decide) rfl rfl (Nat.le_of_ble_eq_true rfl) ho18 (mm_Xk hX22 (mm_Xk hX16 hk19 (by decide)) (by decide)) rfl rfl h (fun r M24 hX25 h => ?_)
        replace h := h hX25
        obtain ⟨rfl, h⟩ := h
        show mm_Z l G Y_Me_handItemsToKernel K M0 bc bs 62 [some (.inr (some a0)), some (.inl y1), some (.inl y2), some (.inr o13)] [] M24
        refine mr_iinc 1 dd_Me_handItemsToKernel_62 rfl (by decide) (by decide) ?_
        show mm_Z l G Y_Me_handItemsToKernel K M0 bc bs 65 [some (.inr (some a0)), some (.inl y1), some (.inl (y2 + 1)), some (.inr o13)] [] M24
        refine mr_goto 2 dd_Me_handItemsToKernel_65 (by decide) ?_
        exact mm_fg (mm_leq (mm_le_s (mm_le_s (mm_le_s (mm_le_n mm_le_e))))) h
      · have h := h.2 hc48
        refine mr_aload_n dd_Me_handItemsToKernel_51 rfl ?_
        refine mr_bipush 8 dd_Me_handItemsToKernel_52 (by decide) ?_
        refine mr_callV0 (Yc := Y_Ob_addItem) (M := M21) (st := []) (vs := [.inl 8]) (ci := 7) fc_Me_88 iv_Ob_addItem sv_Ob_addItem dd_Me_handItemsToKernel_54 ⟨Nat.le_of_ble_eq_true rfl, Nat.le_of_ble_eq_true rfl⟩ (by decide) rfl rfl (Nat.le_of_ble_eq_true rfl) ho18 (mm_Xk hX22 (mm_Xk hX16 hk19 (by decide)) (by decide)) rfl rfl h (fun r M26 hX27 h => ?_)
        replace h := h hX27
        obtain ⟨rfl, h⟩ := h
        show mm_Z l G Y_Me_handItemsToKernel K M0 bc bs 57 [some (.inr (some a0)), some (.inl y1), some (.inl y2), some (.inr o13)] [] M26
        refine mr_aload_n dd_Me_handItemsToKernel_57 rfl ?_
        refine mr_iload_n dd_Me_handItemsToKernel_58 rfl ?_
        refine mr_callV0 (Yc := Y_Ob_dropItem) (M := M26) (st := []) (vs := [.inl y1]) (ci := 7) fc_Me_84 iv_Ob_dropItem sv_Ob_dropItem dd_Me_handItemsToKernel_59 ⟨Nat.le_of_ble_eq_true rfl, Nat.le_of_ble_eq_true rfl⟩ (by decide) rfl rfl (Nat.le_of_ble_eq_true rfl) ho18 (mm_Xk hX27 (mm_Xk hX22 (mm_Xk hX16 hk19 (by decide)) (by decide)) (by decide)) rfl rfl h (fun r M28 hX29 h => ?_)
        replace h := h hX29
        obtain ⟨rfl, h⟩ := h
        show mm_Z l G Y_Me_handItemsToKernel K M0 bc bs 62 [some (.inr (some a0)), some (.inl y1), some (.inl y2), some (.inr o13)] [] M28
        refine mr_iinc 1 dd_Me_handItemsToKernel_62 rfl (by decide) (by decide) ?_
        show mm_Z l G Y_Me_handItemsToKernel K M0 bc bs 65 [some (.inr (some a0)), some (.inl y1), some (.inl (y2 + 1)), some (.inr o13)] [] M28
        refine mr_goto 2 dd_Me_handItemsToKernel_65 (by decide) ?_
        exact mm_fg (mm_leq (mm_le_s (mm_le_s (mm_le_s (mm_le_n mm_le_e))))) h
    · have h := h.2 hc31
      refine mr_aload_n dd_Me_handItemsToKernel_34 rfl ?_
      refine mr_bipush 8 dd_Me_handItemsToKernel_35 (by decide) ?_
      refine mr_callV0 (Yc := Y_Ob_dropItem) (M := M15) (st := []) (vs := [.inl 8]) (ci := 7) fc_Me_84 iv_Ob_dropItem sv_Ob_dropItem dd_Me_handItemsToKernel_37 ⟨Nat.le_of_ble_eq_true rfl, Nat.le_of_ble_eq_true rfl⟩ (by decide) rfl rfl (Nat.le_of_ble_eq_true rfl) ho18 (mm_Xk hX16 hk19 (by decide)) rfl rfl h (fun r M30 hX31 h => ?_)
      replace h := h hX31
      obtain ⟨rfl, h⟩ := h
      show mm_Z l G Y_Me_handItemsToKernel K M0 bc bs 40 [some (.inr (some a0)), some (.inl y1), some (.inl y2), some (.inr o13)] [] M30
      refine mr_goto 57 dd_Me_handItemsToKernel_40 (by decide) ?_
      refine mr_aload_n dd_Me_handItemsToKernel_57 rfl ?_
      refine mr_iload_n dd_Me_handItemsToKernel_58 rfl ?_
      refine mr_callV0 (Yc := Y_Ob_dropItem) (M := M30) (st := []) (vs := [.inl y1]) (ci := 7) fc_Me_84 iv_Ob_dropItem sv_Ob_dropItem dd_Me_handItemsToKernel_59 ⟨Nat.le_of_ble_eq_true rfl, Nat.le_of_ble_eq_true rfl⟩ (by decide) rfl rfl (Nat.le_of_ble_eq_true rfl) ho18 (mm_Xk hX31 (mm_Xk hX16 hk19 (by decide)) (by decide)) rfl rfl h (fun r M32 hX33 h => ?_)
      replace h := h hX33
      obtain ⟨rfl, h⟩ := h
      show mm_Z l G Y_Me_handItemsToKernel K M0 bc bs 62 [some (.inr (some a0)), some (.inl y1), some (.inl y2), some (.inr o13)] [] M32
      refine mr_iinc 1 dd_Me_handItemsToKernel_62 rfl (by decide) (by decide) ?_
      show mm_Z l G Y_Me_handItemsToKernel K M0 bc bs 65 [some (.inr (some a0)), some (.inl y1), some (.inl (y2 + 1)), some (.inr o13)] [] M32
      refine mr_goto 2 dd_Me_handItemsToKernel_65 (by decide) ?_
      exact mm_fg (mm_leq (mm_le_s (mm_le_s (mm_le_s (mm_le_n mm_le_e))))) h
set_option maxHeartbeats 4000000 in
set_option maxRecDepth 100000 in
theorem sg_Me_freeUnreached {l : Launch} {G : mm_G} {K : Option mm_V → mm_M → Prop} {M : mm_M} {a0 : Nat} {xa : Int32}
    (h : mm_k M a0 = 2 ∧ ∃ a4 : Nat, (mm_p M a0 1) = some a4 ∧ mm_k M a4 = 3 ∧ mm_Ok l G yy_AL_size Y_AL_size [.inr (some a4)] M (fun r M2 => mm_X M M2 → ∃ x7 : Int32, r = some (.inl x7) ∧ mm_Z l G Y_Me_freeUnreached K M 0 0 12 [some (.inr (some a0)), some (.inl xa), some (.inl 0), some (.inl (x7 - 1)), none] [] M2)) :
    mm_Ok l G yy_Me_freeUnreached Y_Me_freeUnreached [.inr (some a0), .inl xa] M K := by
  refine mm_go (by decide) rfl (fun q => by cases q) (Nat.le_of_ble_eq_true rfl) ?_
  show mm_Z l G Y_Me_freeUnreached K M 0 0 0 [some (.inr (some a0)), some (.inl xa), none, none, none] [] M
  refine mr_iconst 0 dd_Me_freeUnreached_0 (by decide) ?_
  refine mr_istore_n dd_Me_freeUnreached_1 (by decide) ?_
  show mm_Z l G Y_Me_freeUnreached K M 0 0 2 [some (.inr (some a0)), some (.inl xa), some (.inl 0), none, none] [] M
  refine mr_aload_n dd_Me_freeUnreached_2 rfl ?_
  obtain ⟨hk1, h⟩ := h
  refine mr_getr ff_Me_18 dd_Me_freeUnreached_3 rs_1_1 rfl hk1 ?_
  obtain ⟨a4, ho5, h⟩ := h
  obtain ⟨hk6, h⟩ := h
  refine mr_callV0 (Yc := Y_AL_size) (M := M) (st := []) (vs := []) (ci := 2) fc_Me_21 iv_AL_size sv_AL_size dd_Me_freeUnreached_6 ⟨Nat.le_of_ble_eq_true rfl, Nat.le_of_ble_eq_true rfl⟩ (by decide) rfl rfl (Nat.le_of_ble_eq_true rfl) ho5 hk6 rfl rfl h (fun r M2 hX3 h => ?_)
  replace h := h hX3
  obtain ⟨x7, rfl, h⟩ := h
  show mm_Z l G Y_Me_freeUnreached K M 0 0 9 [some (.inr (some a0)), some (.inl xa), some (.inl 0), none, none] [.inl x7] M2
  refine mr_iconst 1 dd_Me_freeUnreached_9 (by decide) ?_
  refine mr_isub dd_Me_freeUnreached_10 ?_
  refine mr_istore_n dd_Me_freeUnreached_11 (by decide) ?_
  show mm_Z l G Y_Me_freeUnreached K M 0 0 12 [some (.inr (some a0)), some (.inl xa), some (.inl 0), some (.inl (x7 - 1)), none] [] M2
  exact h
set_option maxHeartbeats 4000000 in
set_option maxRecDepth 100000 in
theorem sg_Me_freeUnreached_12 {l : Launch} {G : mm_G} {K : Option mm_V → mm_M → Prop} {M0 M : mm_M} {bc bs : Nat} {a0 : Nat} {y1 : Int32} {y2 : Int32} {y3 : Int32}
    (h : (y3 < 0 → mm_k M a0 = 2 ∧ mm_Ok l G yy_Me_giveBackEmptyPages Y_Me_giveBackEmptyPages [.inr (some a0)] M (fun r M1 => mm_X M M1 → r = none ∧ K (some (.inl y2)) M1)) ∧ (¬ y3 < 0 → mm_k M a0 = 2 ∧ ∃ a7 : Nat, (mm_p M a0 1) = some a7 ∧ mm_k M a7 = 3 ∧ mm_Ok l G yy_AL_get Y_AL_get [.inr (some a7), .inl y3] M (fun r M5 => mm_X M M5 → ∃ o10 : Option Nat, r = some (.inr o10) ∧ (∀ q, o10 = some q → mm_k M5 q = 8) ∧ ∃ a14 : Nat, o10 = some a14 ∧ mm_k M5 a14 = 8 ∧ mm_Ok l G yy_Ob_heapNumber Y_Ob_heapNumber [.inr (some a14)] M5 (fun r M12 => mm_X M5 M12 → ∃ x17 : Int32, r = some (.inl x17) ∧ (¬ x17 = y1 → mm_Z l G Y_Me_freeUnreached K M0 bc bs 12 [some (.inr (some a0)), some (.inl y1), some (.inl y2), some (.inl (y3 + (-1))), none] [] (mm_si M12 a14 4 0)) ∧ (x17 = y1 → (¬ (mm_i M12 a14 4) = 0 → mm_Z l G Y_Me_freeUnreached K M0 bc bs 12 [some (.inr (some a0)), some (.inl y1), some (.inl y2), some (.inl (y3 + (-1))), none] [] (mm_si M12 a14 4 0)) ∧ ((mm_i M12 a14 4) = 0 → ∃ a18 : Nat, (mm_p M12 a14 0) = some a18 ∧ mm_k M12 a18 = 7 ∧ ∃ a23 : Nat, (mm_p (mm_si M12 a18 2 ((mm_i M12 a18 2) + (mm_i M12 a14 1))) a0 1) = some a23 ∧ mm_k (mm_si M12 a18 2 ((mm_i M12 a18 2) + (mm_i M12 a14 1))) a23 = 3 ∧ mm_Ok l G yy_AL_remove Y_AL_remove [.inr (some a23), .inl y3] (mm_si M12 a18 2 ((mm_i M12 a18 2) + (mm_i M12 a14 1))) (fun r M21 => mm_X (mm_si M12 a18 2 ((mm_i M12 a18 2) + (mm_i M12 a14 1))) M21 → ∃ o26 : Option Nat, r = some (.inr o26) ∧ mm_Z l G Y_Me_freeUnreached K M0 bc bs 12 [some (.inr (some a0)), some (.inl y1), some (.inl (y2 + 1)), some (.inl (y3 + (-1))), none] [] (mm_si M21 a14 4 0)))))))) :
    mm_Z l G Y_Me_freeUnreached K M0 bc bs 12 [some (.inr (some a0)), some (.inl y1), some (.inl y2), some (.inl y3), none] [] M := by
  refine mr_iload_n dd_Me_freeUnreached_12 rfl ?_
  refine mr_if_lt 88 dd_Me_freeUnreached_13 (by decide) (fun hc13 => ?_) (fun hc13 => ?_)
  · have h := h.1 hc13
    refine mr_aload_n dd_Me_freeUnreached_88 rfl ?_
    obtain ⟨hk3, h⟩ := h
    refine mr_callV0 (Yc := Y_Me_giveBackEmptyPages) (M := M) (st := []) (vs := []) (ci := 1) fc_Me_81 iv_Me_giveBackEmptyPages sv_Me_giveBackEmptyPages dd_Me_freeUnreached_89 ⟨Nat.le_of_ble_eq_true rfl, Nat.le_of_ble_eq_true rfl⟩ (by decide) rfl rfl (Nat.le_of_ble_eq_true rfl) rfl hk3 rfl rfl h (fun r M1 hX2 h => ?_)
    replace h := h hX2
    obtain ⟨rfl, h⟩ := h
    show mm_Z l G Y_Me_freeUnreached K M0 bc bs 92 [some (.inr (some a0)), some (.inl y1), some (.inl y2), some (.inl y3), none] [] M1
    refine mr_iload_n dd_Me_freeUnreached_92 rfl ?_
    exact mr_ireturn dd_Me_freeUnreached_93 rfl h
  · have h := h.2 hc13
    refine mr_aload_n dd_Me_freeUnreached_16 rfl ?_
    obtain ⟨hk4, h⟩ := h
    refine mr_getr ff_Me_18 dd_Me_freeUnreached_17 rs_1_1 rfl hk4 ?_
    refine mr_iload_n dd_Me_freeUnreached_20 rfl ?_
    obtain ⟨a7, ho8, h⟩ := h
    obtain ⟨hk9, h⟩ := h
    refine mr_callV0 (Yc := Y_AL_get) (M := M) (st := []) (vs := [.inl y3]) (ci := 2) fc_Me_25 iv_AL_get sv_AL_get dd_Me_freeUnreached_21 ⟨Nat.le_of_ble_eq_true rfl, Nat.le_of_ble_eq_true rfl⟩ (by decide) rfl rfl (Nat.le_of_ble_eq_true rfl) ho8 hk9 rfl rfl h (fun r M5 hX6 h => ?_)
    replace h := h hX6
    obtain ⟨o10, rfl, h⟩ := h
    show mm_Z l G Y_Me_freeUnreached K M0 bc bs 24 [some (.inr (some a0)), some (.inl y1), some (.inl y2), some (.inl y3), none] [.inr o10] M5
    obtain ⟨hv11, h⟩ := h
    refine mr_cast (ci := 7) dd_Me_freeUnreached_24 tb_267 hv11 cs_7 ?_
    refine mr_astore dd_Me_freeUnreached_27 (by decide) ?_
    show mm_Z l G Y_Me_freeUnreached K M0 bc bs 29 [some (.inr (some a0)), some (.inl y1), some (.inl y2), some (.inl y3), some (.inr o10)] [] M5
    refine mr_aload dd_Me_freeUnreached_29 rfl ?_
    obtain ⟨a14, ho15, h⟩ := h
    obtain ⟨hk16, h⟩ := h
    refine mr_callV0 (Yc := Y_Ob_heapNumber) (M := M5) (st := []) (vs := []) (ci := 7) fc_Me_49 iv_Ob_heapNumber sv_Ob_heapNumber dd_Me_freeUnreached_31 ⟨Nat.le_of_ble_eq_true rfl, Nat.le_of_ble_eq_true rfl⟩ (by decide) rfl rfl (Nat.le_of_ble_eq_true rfl) ho15 hk16 rfl rfl h (fun r M12 hX13 h => ?_)
    replace h := h hX13
    obtain ⟨x17, rfl, h⟩ := h
    show mm_Z l G Y_Me_freeUnreached K M0 bc bs 34 [some (.inr (some a0)), some (.inl y1), some (.inl y2), some (.inl y3), some (.inr o10)] [.inl x17] M12
    refine mr_iload_n dd_Me_freeUnreached_34 rfl ?_
    refine mr_icmp_ne 76 dd_Me_freeUnreached_35 (by decide) (fun hc35 => ?_) (fun hc35 => ?_)
    · have h := h.1 hc35
      refine mr_aload dd_Me_freeUnreached_76 rfl ?_
      refine mr_iconst 0 dd_Me_freeUnreached_78 (by decide) ?_
      refine mr_puti ff_Me_68 fp_7 (Or.inl rfl) dd_Me_freeUnreached_79 (Or.inr ⟨by decide +kernel, (Or.inl rfl)⟩) rs_7_4 ho15 (mm_Xk hX13 hk16 (by decide)) ?_
      refine mr_iinc (-1) dd_Me_freeUnreached_82 rfl (by decide) (by decide) ?_
      show mm_Z l G Y_Me_freeUnreached K M0 bc bs 85 [some (.inr (some a0)), some (.inl y1), some (.inl y2), some (.inl (y3 + (-1))), some (.inr o10)] [] (mm_si M12 a14 4 0)
      refine mr_goto 12 dd_Me_freeUnreached_85 (by decide) ?_
      exact mm_fg (mm_leq (mm_le_s (mm_le_s (mm_le_s (mm_le_s (mm_le_n mm_le_e)))))) h
    · have h := h.2 hc35
      refine mr_aload dd_Me_freeUnreached_38 rfl ?_
      refine mr_geti ff_Me_68 dd_Me_freeUnreached_40 rs_7_4 ho15 (mm_Xk hX13 hk16 (by decide)) ?_
      refine mr_if_ne 76 dd_Me_freeUnreached_43 (by decide) (fun hc43 => ?_) (fun hc43 => ?_)
      · have h := h.1 hc43
        refine mr_aload dd_Me_freeUnreached_76 rfl ?_
        refine mr_iconst 0 dd_Me_freeUnreached_78 (by decide) ?_
        refine mr_puti ff_Me_68 fp_7 (Or.inl rfl) dd_Me_freeUnreached_79 (Or.inr ⟨by decide +kernel, (Or.inl rfl)⟩) rs_7_4 ho15 (mm_Xk hX13 hk16 (by decide)) ?_
        refine mr_iinc (-1) dd_Me_freeUnreached_82 rfl (by decide) (by decide) ?_
        show mm_Z l G Y_Me_freeUnreached K M0 bc bs 85 [some (.inr (some a0)), some (.inl y1), some (.inl y2), some (.inl (y3 + (-1))), some (.inr o10)] [] (mm_si M12 a14 4 0)
        refine mr_goto 12 dd_Me_freeUnreached_85 (by decide) ?_
        exact mm_fg (mm_leq (mm_le_s (mm_le_s (mm_le_s (mm_le_s (mm_le_n mm_le_e)))))) h
      · have h := h.2 hc43
        refine mr_aload dd_Me_freeUnreached_46 rfl ?_
        refine mr_getr ff_Me_72 dd_Me_freeUnreached_48 rs_7_0 ho15 (mm_Xk hX13 hk16 (by decide)) ?_
        refine mr_dup dd_Me_freeUnreached_51 ?_
        obtain ⟨a18, ho19, h⟩ := h
        obtain ⟨hk20, h⟩ := h
        refine mr_geti ff_Me_55 dd_Me_freeUnreached_52 rs_6_2 ho19 hk20 ?_
        refine mr_aload dd_Me_freeUnreached_55 rfl ?_
        refine mr_geti ff_Me_76 dd_Me_freeUnreached_57 rs_7_1 ho15 (mm_Xk hX13 hk16 (by decide)) ?_
        refine mr_iadd dd_Me_freeUnreached_60 ?_
        refine mr_puti ff_Me_55 fp_6 (Or.inl rfl) dd_Me_freeUnreached_61 (Or.inl (by decide +kernel)) rs_6_2 ho19 hk20 ?_
        refine mr_aload_n dd_Me_freeUnreached_64 rfl ?_
        refine mr_getr ff_Me_18 dd_Me_freeUnreached_65 rs_1_1 rfl (mm_Xk hX13 (mm_Xk hX6 hk4 (by decide)) (by decide)) ?_
        refine mr_iload_n dd_Me_freeUnreached_68 rfl ?_
        obtain ⟨a23, ho24, h⟩ := h
        obtain ⟨hk25, h⟩ := h
        refine mr_callV0 (Yc := Y_AL_remove) (M := (mm_si M12 a18 2 ((mm_i M12 a18 2) + (mm_i M12 a14 1)))) (st := []) (vs := [.inl y3]) (ci := 2) fc_Me_78 iv_AL_remove sv_AL_remove dd_Me_freeUnreached_69 ⟨Nat.le_of_ble_eq_true rfl, Nat.le_of_ble_eq_true rfl⟩ (by decide) rfl rfl (Nat.le_of_ble_eq_true rfl) ho24 hk25 rfl rfl h (fun r M21 hX22 h => ?_)
        replace h := h hX22
        obtain ⟨o26, rfl, h⟩ := h
        show mm_Z l G Y_Me_freeUnreached K M0 bc bs 72 [some (.inr (some a0)), some (.inl y1), some (.inl y2), some (.inl y3), some (.inr o10)] [.inr o26] M21
        refine mr_pop dd_Me_freeUnreached_72 ?_
        refine mr_iinc 1 dd_Me_freeUnreached_73 rfl (by decide) (by decide) ?_
        show mm_Z l G Y_Me_freeUnreached K M0 bc bs 76 [some (.inr (some a0)), some (.inl y1), some (.inl (y2 + 1)), some (.inl y3), some (.inr o10)] [] M21
        refine mr_aload dd_Me_freeUnreached_76 rfl ?_
        refine mr_iconst 0 dd_Me_freeUnreached_78 (by decide) ?_
        refine mr_puti ff_Me_68 fp_7 (Or.inl rfl) dd_Me_freeUnreached_79 (Or.inr ⟨by decide +kernel, (Or.inl rfl)⟩) rs_7_4 ho15 (mm_Xk hX22 (mm_Xk hX13 hk16 (by decide)) (by decide)) ?_
        refine mr_iinc (-1) dd_Me_freeUnreached_82 rfl (by decide) (by decide) ?_
        show mm_Z l G Y_Me_freeUnreached K M0 bc bs 85 [some (.inr (some a0)), some (.inl y1), some (.inl (y2 + 1)), some (.inl (y3 + (-1))), some (.inr o10)] [] (mm_si M21 a14 4 0)
        refine mr_goto 12 dd_Me_freeUnreached_85 (by decide) ?_
        exact mm_fg (mm_leq (mm_le_s (mm_le_s (mm_le_s (mm_le_s (mm_le_n mm_le_e)))))) h
set_option maxHeartbeats 4000000 in
set_option maxRecDepth 100000 in
theorem sg_Me_giveBackEmptyPages {l : Launch} {G : mm_G} {K : Option mm_V → mm_M → Prop} {M : mm_M} {a0 : Nat}
    (h : mm_k M a0 = 2 ∧ ∃ a4 : Nat, (mm_p M a0 0) = some a4 ∧ mm_k M a4 = 3 ∧ mm_Ok l G yy_AL_size Y_AL_size [.inr (some a4)] M (fun r M2 => mm_X M M2 → ∃ x7 : Int32, r = some (.inl x7) ∧ mm_Z l G Y_Me_giveBackEmptyPages K M 0 0 10 [some (.inr (some a0)), some (.inl (x7 - 1))] [] M2)) :
    mm_Ok l G yy_Me_giveBackEmptyPages Y_Me_giveBackEmptyPages [.inr (some a0)] M K := by
  refine mm_go (by decide) rfl (fun q => by cases q) (Nat.le_of_ble_eq_true rfl) ?_
  show mm_Z l G Y_Me_giveBackEmptyPages K M 0 0 0 [some (.inr (some a0)), none] [] M
  refine mr_aload_n dd_Me_giveBackEmptyPages_0 rfl ?_
  obtain ⟨hk1, h⟩ := h
  refine mr_getr ff_Me_12 dd_Me_giveBackEmptyPages_1 rs_1_0 rfl hk1 ?_
  obtain ⟨a4, ho5, h⟩ := h
  obtain ⟨hk6, h⟩ := h
  refine mr_callV0 (Yc := Y_AL_size) (M := M) (st := []) (vs := []) (ci := 2) fc_Me_21 iv_AL_size sv_AL_size dd_Me_giveBackEmptyPages_4 ⟨Nat.le_of_ble_eq_true rfl, Nat.le_of_ble_eq_true rfl⟩ (by decide) rfl rfl (Nat.le_of_ble_eq_true rfl) ho5 hk6 rfl rfl h (fun r M2 hX3 h => ?_)
  replace h := h hX3
  obtain ⟨x7, rfl, h⟩ := h
  show mm_Z l G Y_Me_giveBackEmptyPages K M 0 0 7 [some (.inr (some a0)), none] [.inl x7] M2
  refine mr_iconst 1 dd_Me_giveBackEmptyPages_7 (by decide) ?_
  refine mr_isub dd_Me_giveBackEmptyPages_8 ?_
  refine mr_istore_n dd_Me_giveBackEmptyPages_9 (by decide) ?_
  show mm_Z l G Y_Me_giveBackEmptyPages K M 0 0 10 [some (.inr (some a0)), some (.inl (x7 - 1))] [] M2
  exact h
set_option maxHeartbeats 4000000 in
set_option maxRecDepth 100000 in
theorem sg_Me_giveBackEmptyPages_10 {l : Launch} {G : mm_G} {K : Option mm_V → mm_M → Prop} {M0 M : mm_M} {bc bs : Nat} {a0 : Nat} {y1 : Int32}
    (h : (y1 < 0 → K none M) ∧ (¬ y1 < 0 → mm_k M a0 = 2 ∧ ∃ a4 : Nat, (mm_p M a0 0) = some a4 ∧ mm_k M a4 = 3 ∧ mm_Ok l G yy_AL_get Y_AL_get [.inr (some a4), .inl y1] M (fun r M2 => mm_X M M2 → ∃ o7 : Option Nat, r = some (.inr o7) ∧ (∀ q, o7 = some q → mm_k M2 q = 7) ∧ ∃ a9 : Nat, o7 = some a9 ∧ mm_k M2 a9 = 7 ∧ (¬ (mm_i M2 a9 2) = 16 → mm_Z l G Y_Me_giveBackEmptyPages K M0 bc bs 10 [some (.inr (some a0)), some (.inl (y1 + (-1)))] [] M2) ∧ ((mm_i M2 a9 2) = 16 → ∃ a14 : Nat, (mm_p M2 a0 0) = some a14 ∧ mm_k M2 a14 = 3 ∧ mm_Ok l G yy_AL_remove Y_AL_remove [.inr (some a14), .inl y1] M2 (fun r M12 => mm_X M2 M12 → ∃ o17 : Option Nat, r = some (.inr o17) ∧ mm_Z l G Y_Me_giveBackEmptyPages K M0 bc bs 10 [some (.inr (some a0)), some (.inl (y1 + (-1)))] [] M12))))) :
    mm_Z l G Y_Me_giveBackEmptyPages K M0 bc bs 10 [some (.inr (some a0)), some (.inl y1)] [] M := by
  refine mr_iload_n dd_Me_giveBackEmptyPages_10 rfl ?_
  refine mr_if_lt 48 dd_Me_giveBackEmptyPages_11 (by decide) (fun hc11 => ?_) (fun hc11 => ?_)
  · have h := h.1 hc11
    exact mr_return dd_Me_giveBackEmptyPages_48 rfl h
  · have h := h.2 hc11
    refine mr_aload_n dd_Me_giveBackEmptyPages_14 rfl ?_
    obtain ⟨hk1, h⟩ := h
    refine mr_getr ff_Me_12 dd_Me_giveBackEmptyPages_15 rs_1_0 rfl hk1 ?_
    refine mr_iload_n dd_Me_giveBackEmptyPages_18 rfl ?_
    obtain ⟨a4, ho5, h⟩ := h
    obtain ⟨hk6, h⟩ := h
    refine mr_callV0 (Yc := Y_AL_get) (M := M) (st := []) (vs := [.inl y1]) (ci := 2) fc_Me_25 iv_AL_get sv_AL_get dd_Me_giveBackEmptyPages_19 ⟨Nat.le_of_ble_eq_true rfl, Nat.le_of_ble_eq_true rfl⟩ (by decide) rfl rfl (Nat.le_of_ble_eq_true rfl) ho5 hk6 rfl rfl h (fun r M2 hX3 h => ?_)
    replace h := h hX3
    obtain ⟨o7, rfl, h⟩ := h
    show mm_Z l G Y_Me_giveBackEmptyPages K M0 bc bs 22 [some (.inr (some a0)), some (.inl y1)] [.inr o7] M2
    obtain ⟨hv8, h⟩ := h
    refine mr_cast (ci := 6) dd_Me_giveBackEmptyPages_22 tb_224 hv8 cs_6 ?_
    obtain ⟨a9, ho10, h⟩ := h
    obtain ⟨hk11, h⟩ := h
    refine mr_geti ff_Me_55 dd_Me_giveBackEmptyPages_25 rs_6_2 ho10 hk11 ?_
    refine mr_bipush 16 dd_Me_giveBackEmptyPages_28 (by decide) ?_
    refine mr_icmp_ne 42 dd_Me_giveBackEmptyPages_30 (by decide) (fun hc30 => ?_) (fun hc30 => ?_)
    · have h := h.1 hc30
      refine mr_iinc (-1) dd_Me_giveBackEmptyPages_42 rfl (by decide) (by decide) ?_
      show mm_Z l G Y_Me_giveBackEmptyPages K M0 bc bs 45 [some (.inr (some a0)), some (.inl (y1 + (-1)))] [] M2
      refine mr_goto 10 dd_Me_giveBackEmptyPages_45 (by decide) ?_
      exact h
    · have h := h.2 hc30
      refine mr_aload_n dd_Me_giveBackEmptyPages_33 rfl ?_
      refine mr_getr ff_Me_12 dd_Me_giveBackEmptyPages_34 rs_1_0 rfl (mm_Xk hX3 hk1 (by decide)) ?_
      refine mr_iload_n dd_Me_giveBackEmptyPages_37 rfl ?_
      obtain ⟨a14, ho15, h⟩ := h
      obtain ⟨hk16, h⟩ := h
      refine mr_callV0 (Yc := Y_AL_remove) (M := M2) (st := []) (vs := [.inl y1]) (ci := 2) fc_Me_78 iv_AL_remove sv_AL_remove dd_Me_giveBackEmptyPages_38 ⟨Nat.le_of_ble_eq_true rfl, Nat.le_of_ble_eq_true rfl⟩ (by decide) rfl rfl (Nat.le_of_ble_eq_true rfl) ho15 hk16 rfl rfl h (fun r M12 hX13 h => ?_)
      replace h := h hX13
      obtain ⟨o17, rfl, h⟩ := h
      show mm_Z l G Y_Me_giveBackEmptyPages K M0 bc bs 41 [some (.inr (some a0)), some (.inl y1)] [.inr o17] M12
      refine mr_pop dd_Me_giveBackEmptyPages_41 ?_
      refine mr_iinc (-1) dd_Me_giveBackEmptyPages_42 rfl (by decide) (by decide) ?_
      show mm_Z l G Y_Me_giveBackEmptyPages K M0 bc bs 45 [some (.inr (some a0)), some (.inl (y1 + (-1)))] [] M12
      refine mr_goto 10 dd_Me_giveBackEmptyPages_45 (by decide) ?_
      exact h
set_option maxHeartbeats 4000000 in
set_option maxRecDepth 100000 in
theorem sg_Me_findPage {l : Launch} {G : mm_G} {K : Option mm_V → mm_M → Prop} {M : mm_M} {a0 : Nat} {xa : Int32} {xb : Int32}
    (h : mm_Z l G Y_Me_findPage K M 0 0 2 [some (.inr (some a0)), some (.inl xa), some (.inl xb), some (.inl 0), none] [] M) :
    mm_Ok l G yy_Me_findPage Y_Me_findPage [.inr (some a0), .inl xa, .inl xb] M K := by
  refine mm_go (by decide) rfl (fun q => by cases q) (Nat.le_of_ble_eq_true rfl) ?_
  show mm_Z l G Y_Me_findPage K M 0 0 0 [some (.inr (some a0)), some (.inl xa), some (.inl xb), none, none] [] M
  refine mr_iconst 0 dd_Me_findPage_0 (by decide) ?_
  refine mr_istore_n dd_Me_findPage_1 (by decide) ?_
  show mm_Z l G Y_Me_findPage K M 0 0 2 [some (.inr (some a0)), some (.inl xa), some (.inl xb), some (.inl 0), none] [] M
  exact h
set_option maxHeartbeats 4000000 in
set_option maxRecDepth 100000 in
theorem sg_Me_findPage_2 {l : Launch} {G : mm_G} {K : Option mm_V → mm_M → Prop} {M0 M : mm_M} {bc bs : Nat} {a0 : Nat} {y1 : Int32} {y2 : Int32} {y3 : Int32}
    (h : mm_k M a0 = 2 ∧ ∃ a4 : Nat, (mm_p M a0 0) = some a4 ∧ mm_k M a4 = 3 ∧ mm_Ok l G yy_AL_size Y_AL_size [.inr (some a4)] M (fun r M2 => mm_X M M2 → ∃ x7 : Int32, r = some (.inl x7) ∧ (x7 ≤ y3 → K (some (.inr none)) M2) ∧ (¬ x7 ≤ y3 → ∃ a10 : Nat, (mm_p M2 a0 0) = some a10 ∧ mm_k M2 a10 = 3 ∧ mm_Ok l G yy_AL_get Y_AL_get [.inr (some a10), .inl y3] M2 (fun r M8 => mm_X M2 M8 → ∃ o13 : Option Nat, r = some (.inr o13) ∧ (∀ q, o13 = some q → mm_k M8 q = 7) ∧ ∃ a15 : Nat, o13 = some a15 ∧ mm_k M8 a15 = 7 ∧ (¬ (mm_i M8 a15 0) = y1 → mm_Z l G Y_Me_findPage K M0 bc bs 2 [some (.inr (some a0)), some (.inl y1), some (.inl y2), some (.inl (y3 + 1)), none] [] M8) ∧ ((mm_i M8 a15 0) = y1 → ((mm_i M8 a15 2) < y2 → mm_Z l G Y_Me_findPage K M0 bc bs 2 [some (.inr (some a0)), some (.inl y1), some (.inl y2), some (.inl (y3 + 1)), none] [] M8) ∧ (¬ (mm_i M8 a15 2) < y2 → K (some (.inr o13)) M8)))))) :
    mm_Z l G Y_Me_findPage K M0 bc bs 2 [some (.inr (some a0)), some (.inl y1), some (.inl y2), some (.inl y3), none] [] M := by
  refine mr_iload_n dd_Me_findPage_2 rfl ?_
  refine mr_aload_n dd_Me_findPage_3 rfl ?_
  obtain ⟨hk1, h⟩ := h
  refine mr_getr ff_Me_12 dd_Me_findPage_4 rs_1_0 rfl hk1 ?_
  obtain ⟨a4, ho5, h⟩ := h
  obtain ⟨hk6, h⟩ := h
  refine mr_callV0 (Yc := Y_AL_size) (M := M) (st := [.inl y3]) (vs := []) (ci := 2) fc_Me_21 iv_AL_size sv_AL_size dd_Me_findPage_7 ⟨Nat.le_of_ble_eq_true rfl, Nat.le_of_ble_eq_true rfl⟩ (by decide) rfl rfl (Nat.le_of_ble_eq_true rfl) ho5 hk6 rfl rfl h (fun r M2 hX3 h => ?_)
  replace h := h hX3
  obtain ⟨x7, rfl, h⟩ := h
  show mm_Z l G Y_Me_findPage K M0 bc bs 10 [some (.inr (some a0)), some (.inl y1), some (.inl y2), some (.inl y3), none] [.inl x7, .inl y3] M2
  refine mr_icmp_ge 53 dd_Me_findPage_10 (by decide) (fun hc10 => ?_) (fun hc10 => ?_)
  · have h := h.1 hc10
    refine mr_null dd_Me_findPage_53 ?_
    exact mr_areturn dd_Me_findPage_54 rfl (Or.inl ⟨_, rfl⟩) h
  · have h := h.2 hc10
    refine mr_aload_n dd_Me_findPage_13 rfl ?_
    refine mr_getr ff_Me_12 dd_Me_findPage_14 rs_1_0 rfl (mm_Xk hX3 hk1 (by decide)) ?_
    refine mr_iload_n dd_Me_findPage_17 rfl ?_
    obtain ⟨a10, ho11, h⟩ := h
    obtain ⟨hk12, h⟩ := h
    refine mr_callV0 (Yc := Y_AL_get) (M := M2) (st := []) (vs := [.inl y3]) (ci := 2) fc_Me_25 iv_AL_get sv_AL_get dd_Me_findPage_18 ⟨Nat.le_of_ble_eq_true rfl, Nat.le_of_ble_eq_true rfl⟩ (by decide) rfl rfl (Nat.le_of_ble_eq_true rfl) ho11 hk12 rfl rfl h (fun r M8 hX9 h => ?_)
    replace h := h hX9
    obtain ⟨o13, rfl, h⟩ := h
    show mm_Z l G Y_Me_findPage K M0 bc bs 21 [some (.inr (some a0)), some (.inl y1), some (.inl y2), some (.inl y3), none] [.inr o13] M8
    obtain ⟨hv14, h⟩ := h
    refine mr_cast (ci := 6) dd_Me_findPage_21 tb_224 hv14 cs_6 ?_
    refine mr_astore dd_Me_findPage_24 (by decide) ?_
    show mm_Z l G Y_Me_findPage K M0 bc bs 26 [some (.inr (some a0)), some (.inl y1), some (.inl y2), some (.inl y3), some (.inr o13)] [] M8
    refine mr_aload dd_Me_findPage_26 rfl ?_
    obtain ⟨a15, ho16, h⟩ := h
    obtain ⟨hk17, h⟩ := h
    refine mr_geti ff_Me_31 dd_Me_findPage_28 rs_6_0 ho16 hk17 ?_
    refine mr_iload_n dd_Me_findPage_31 rfl ?_
    refine mr_icmp_ne 47 dd_Me_findPage_32 (by decide) (fun hc32 => ?_) (fun hc32 => ?_)
    · have h := h.1 hc32
      refine mr_iinc 1 dd_Me_findPage_47 rfl (by decide) (by decide) ?_
      show mm_Z l G Y_Me_findPage K M0 bc bs 50 [some (.inr (some a0)), some (.inl y1), some (.inl y2), some (.inl (y3 + 1)), some (.inr o13)] [] M8
      refine mr_goto 2 dd_Me_findPage_50 (by decide) ?_
      exact mm_fg (mm_leq (mm_le_s (mm_le_s (mm_le_s (mm_le_s (mm_le_n mm_le_e)))))) h
    · have h := h.2 hc32
      refine mr_aload dd_Me_findPage_35 rfl ?_
      refine mr_geti ff_Me_55 dd_Me_findPage_37 rs_6_2 ho16 hk17 ?_
      refine mr_iload_n dd_Me_findPage_40 rfl ?_
      refine mr_icmp_lt 47 dd_Me_findPage_41 (by decide) (fun hc41 => ?_) (fun hc41 => ?_)
      · have h := h.1 hc41
        refine mr_iinc 1 dd_Me_findPage_47 rfl (by decide) (by decide) ?_
        show mm_Z l G Y_Me_findPage K M0 bc bs 50 [some (.inr (some a0)), some (.inl y1), some (.inl y2), some (.inl (y3 + 1)), some (.inr o13)] [] M8
        refine mr_goto 2 dd_Me_findPage_50 (by decide) ?_
        exact mm_fg (mm_leq (mm_le_s (mm_le_s (mm_le_s (mm_le_s (mm_le_n mm_le_e)))))) h
      · have h := h.2 hc41
        refine mr_aload dd_Me_findPage_44 rfl ?_
        exact mr_areturn dd_Me_findPage_46 rfl (Or.inl ⟨_, rfl⟩) h
set_option maxHeartbeats 4000000 in
set_option maxRecDepth 100000 in
theorem sg_Me_addPage {l : Launch} {G : mm_G} {K : Option mm_V → mm_M → Prop} {M : mm_M} {a0 : Nat} {xa : Int32} {xb : Int32}
    (h : ∀ q1, q1 = mm_z M → mm_Ok l G yy_Pa_init Y_Pa_init [.inr (some q1), .inl xa, .inl xb] (mm_nw M 7 3) (fun r M4 => mm_X (mm_nw M 7 3) M4 → r = none ∧ mm_k M4 a0 = 2 ∧ ∃ a9 : Nat, (mm_p M4 a0 0) = some a9 ∧ mm_k M4 a9 = 3 ∧ mm_Ok l G yy_AL_add Y_AL_add [.inr (some a9), .inr (some q1)] M4 (fun r M7 => mm_X M4 M7 → ∃ x12 : Int32, r = some (.inl x12) ∧ K (some (.inr (some q1))) M7))) :
    mm_Ok l G yy_Me_addPage Y_Me_addPage [.inr (some a0), .inl xa, .inl xb] M K := by
  refine mm_go (by decide) rfl (fun q => by cases q) (Nat.le_of_ble_eq_true rfl) ?_
  show mm_Z l G Y_Me_addPage K M 2 103 0 [some (.inr (some a0)), some (.inl xa), some (.inl xb), none] [] M
  refine mr_new (Y := Y_Me_addPage) (bc := 1) (bs := 100) fn_Me_29 dd_Me_addPage_0 ?_
  generalize hq2 : mm_z M = q1
  have h := h q1 hq2.symm
  refine mr_dup dd_Me_addPage_3 ?_
  refine mr_iload_n dd_Me_addPage_4 rfl ?_
  refine mr_iload_n dd_Me_addPage_5 rfl ?_
  refine mr_callI0 (Yc := Y_Pa_init) (M := (mm_nw M 7 3)) (st := [.inr (some q1)]) (vs := [.inl xa, .inl xb]) fc_Me_58 iv_Pa_init ⟨rfl, rfl⟩ dd_Me_addPage_6 ⟨Nat.le_of_ble_eq_true rfl, Nat.le_of_ble_eq_true rfl⟩ rfl (Nat.le_of_ble_eq_true rfl) rfl rfl rfl h (fun r M4 hX5 h => ?_)
  replace h := h hX5
  obtain ⟨rfl, h⟩ := h
  show mm_Z l G Y_Me_addPage K M 1 100 9 [some (.inr (some a0)), some (.inl xa), some (.inl xb), none] [.inr (some q1)] M4
  refine mr_astore_n dd_Me_addPage_9 (by decide) ?_
  show mm_Z l G Y_Me_addPage K M 1 100 10 [some (.inr (some a0)), some (.inl xa), some (.inl xb), some (.inr (some q1))] [] M4
  refine mr_aload_n dd_Me_addPage_10 rfl ?_
  obtain ⟨hk6, h⟩ := h
  refine mr_getr ff_Me_12 dd_Me_addPage_11 rs_1_0 rfl hk6 ?_
  refine mr_aload_n dd_Me_addPage_14 rfl ?_
  obtain ⟨a9, ho10, h⟩ := h
  obtain ⟨hk11, h⟩ := h
  refine mr_callV (Yc := Y_AL_add) (M := M4) (bc := 0) (bs := 0) (st := []) (vs := [.inr (some q1)]) (ci := 2) fc_Me_61 iv_AL_add sv_AL_add dd_Me_addPage_15 ⟨Nat.le_of_ble_eq_true rfl, Nat.le_of_ble_eq_true rfl⟩ (by decide) rfl rfl (Nat.le_of_ble_eq_true rfl) ho10 hk11 h (fun r M7 hX8 h => ?_)
  replace h := h hX8
  obtain ⟨x12, rfl, h⟩ := h
  show mm_Z l G Y_Me_addPage K M 0 0 18 [some (.inr (some a0)), some (.inl xa), some (.inl xb), some (.inr (some q1))] [.inl x12] M7
  refine mr_pop dd_Me_addPage_18 ?_
  refine mr_aload_n dd_Me_addPage_19 rfl ?_
  exact mr_areturn dd_Me_addPage_20 rfl (Or.inl ⟨_, rfl⟩) h
set_option maxHeartbeats 4000000 in
set_option maxRecDepth 100000 in
theorem sg_Me_putObject {l : Launch} {G : mm_G} {K : Option mm_V → mm_M → Prop} {M : mm_M} {a0 : Nat} {oa : Option Nat} {xb : Int32} {xc : Int32}
    (h : ∀ q1, q1 = mm_z M → mm_Ok l G yy_Ob_init Y_Ob_init [.inr (some q1), .inr oa, .inl xb, .inl xc] (mm_nw M 8 6) (fun r M4 => mm_X (mm_nw M 8 6) M4 → r = none ∧ ∃ a6 : Nat, oa = some a6 ∧ mm_k M4 a6 = 7 ∧ mm_k (mm_si M4 a6 2 ((mm_i M4 a6 2) - xb)) a0 = 2 ∧ ∃ a12 : Nat, (mm_p (mm_si M4 a6 2 ((mm_i M4 a6 2) - xb)) a0 1) = some a12 ∧ mm_k (mm_si M4 a6 2 ((mm_i M4 a6 2) - xb)) a12 = 3 ∧ mm_Ok l G yy_AL_add Y_AL_add [.inr (some a12), .inr (some q1)] (mm_si M4 a6 2 ((mm_i M4 a6 2) - xb)) (fun r M10 => mm_X (mm_si M4 a6 2 ((mm_i M4 a6 2) - xb)) M10 → ∃ x15 : Int32, r = some (.inl x15) ∧ K (some (.inr (some q1))) M10))) :
    mm_Ok l G yy_Me_putObject Y_Me_putObject [.inr (some a0), .inr oa, .inl xb, .inl xc] M K := by
  refine mm_go (by decide) rfl (fun q => by cases q) (Nat.le_of_ble_eq_true rfl) ?_
  show mm_Z l G Y_Me_putObject K M 3 109 0 [some (.inr (some a0)), some (.inr oa), some (.inl xb), some (.inl xc), none] [] M
  refine mr_new (Y := Y_Me_putObject) (bc := 2) (bs := 103) fn_Me_47 dd_Me_putObject_0 ?_
  generalize hq2 : mm_z M = q1
  have h := h q1 hq2.symm
  refine mr_dup dd_Me_putObject_3 ?_
  refine mr_aload_n dd_Me_putObject_4 rfl ?_
  refine mr_iload_n dd_Me_putObject_5 rfl ?_
  refine mr_iload_n dd_Me_putObject_6 rfl ?_
  refine mr_callI (Yc := Y_Ob_init) (M := (mm_nw M 8 6)) (bc := 1) (bs := 100) (st := [.inr (some q1)]) (vs := [.inr oa, .inl xb, .inl xc]) fc_Me_65 iv_Ob_init ⟨rfl, rfl⟩ dd_Me_putObject_7 ⟨Nat.le_of_ble_eq_true rfl, Nat.le_of_ble_eq_true rfl⟩ rfl (Nat.le_of_ble_eq_true rfl) rfl h (fun r M4 hX5 h => ?_)
  replace h := h hX5
  obtain ⟨rfl, h⟩ := h
  show mm_Z l G Y_Me_putObject K M 1 100 10 [some (.inr (some a0)), some (.inr oa), some (.inl xb), some (.inl xc), none] [.inr (some q1)] M4
  refine mr_astore dd_Me_putObject_10 (by decide) ?_
  show mm_Z l G Y_Me_putObject K M 1 100 12 [some (.inr (some a0)), some (.inr oa), some (.inl xb), some (.inl xc), some (.inr (some q1))] [] M4
  refine mr_aload_n dd_Me_putObject_12 rfl ?_
  refine mr_dup dd_Me_putObject_13 ?_
  obtain ⟨a6, ho7, h⟩ := h
  obtain ⟨hk8, h⟩ := h
  refine mr_geti ff_Me_55 dd_Me_putObject_14 rs_6_2 ho7 hk8 ?_
  refine mr_iload_n dd_Me_putObject_17 rfl ?_
  refine mr_isub dd_Me_putObject_18 ?_
  refine mr_puti ff_Me_55 fp_6 (Or.inl rfl) dd_Me_putObject_19 (Or.inl (by decide +kernel)) rs_6_2 ho7 hk8 ?_
  refine mr_aload_n dd_Me_putObject_22 rfl ?_
  obtain ⟨hk9, h⟩ := h
  refine mr_getr ff_Me_18 dd_Me_putObject_23 rs_1_1 rfl hk9 ?_
  refine mr_aload dd_Me_putObject_26 rfl ?_
  obtain ⟨a12, ho13, h⟩ := h
  obtain ⟨hk14, h⟩ := h
  refine mr_callV (Yc := Y_AL_add) (M := (mm_si M4 a6 2 ((mm_i M4 a6 2) - xb))) (bc := 0) (bs := 0) (st := []) (vs := [.inr (some q1)]) (ci := 2) fc_Me_61 iv_AL_add sv_AL_add dd_Me_putObject_28 ⟨Nat.le_of_ble_eq_true rfl, Nat.le_of_ble_eq_true rfl⟩ (by decide) rfl rfl (Nat.le_of_ble_eq_true rfl) ho13 hk14 h (fun r M10 hX11 h => ?_)
  replace h := h hX11
  obtain ⟨x15, rfl, h⟩ := h
  show mm_Z l G Y_Me_putObject K M 0 0 31 [some (.inr (some a0)), some (.inr oa), some (.inl xb), some (.inl xc), some (.inr (some q1))] [.inl x15] M10
  refine mr_pop dd_Me_putObject_31 ?_
  refine mr_aload dd_Me_putObject_32 rfl ?_
  exact mr_areturn dd_Me_putObject_34 rfl (Or.inl ⟨_, rfl⟩) h
set_option maxHeartbeats 4000000 in
set_option maxRecDepth 100000 in
theorem sg_Me_endSinglePayment {l : Launch} {G : mm_G} {K : Option mm_V → mm_M → Prop} {M : mm_M} {a0 : Nat} {xa : Int32}
    (h : mm_Z l G Y_Me_endSinglePayment K M 0 0 2 [some (.inr (some a0)), some (.inl xa), some (.inl 0), none] [] M) :
    mm_Ok l G yy_Me_endSinglePayment Y_Me_endSinglePayment [.inr (some a0), .inl xa] M K := by
  refine mm_go (by decide) rfl (fun q => by cases q) (Nat.le_of_ble_eq_true rfl) ?_
  show mm_Z l G Y_Me_endSinglePayment K M 0 0 0 [some (.inr (some a0)), some (.inl xa), none, none] [] M
  refine mr_iconst 0 dd_Me_endSinglePayment_0 (by decide) ?_
  refine mr_istore_n dd_Me_endSinglePayment_1 (by decide) ?_
  show mm_Z l G Y_Me_endSinglePayment K M 0 0 2 [some (.inr (some a0)), some (.inl xa), some (.inl 0), none] [] M
  exact h
set_option maxHeartbeats 4000000 in
set_option maxRecDepth 100000 in
theorem sg_Me_endSinglePayment_2 {l : Launch} {G : mm_G} {K : Option mm_V → mm_M → Prop} {M0 M : mm_M} {bc bs : Nat} {a0 : Nat} {y1 : Int32} {y2 : Int32}
    (h : mm_k M a0 = 2 ∧ ∃ a4 : Nat, (mm_p M a0 0) = some a4 ∧ mm_k M a4 = 3 ∧ mm_Ok l G yy_AL_size Y_AL_size [.inr (some a4)] M (fun r M2 => mm_X M M2 → ∃ x7 : Int32, r = some (.inl x7) ∧ (x7 ≤ y2 → K none M2) ∧ (¬ x7 ≤ y2 → ∃ a10 : Nat, (mm_p M2 a0 0) = some a10 ∧ mm_k M2 a10 = 3 ∧ mm_Ok l G yy_AL_get Y_AL_get [.inr (some a10), .inl y2] M2 (fun r M8 => mm_X M2 M8 → ∃ o13 : Option Nat, r = some (.inr o13) ∧ (∀ q, o13 = some q → mm_k M8 q = 7) ∧ ∃ a15 : Nat, o13 = some a15 ∧ mm_k M8 a15 = 7 ∧ (¬ (mm_i M8 a15 0) = y1 → mm_Z l G Y_Me_endSinglePayment K M0 bc bs 2 [some (.inr (some a0)), some (.inl y1), some (.inl (y2 + 1)), none] [] M8) ∧ ((mm_i M8 a15 0) = y1 → mm_Z l G Y_Me_endSinglePayment K M0 bc bs 2 [some (.inr (some a0)), some (.inl y1), some (.inl (y2 + 1)), none] [] (mm_si M8 a15 1 (-1))))))) :
    mm_Z l G Y_Me_endSinglePayment K M0 bc bs 2 [some (.inr (some a0)), some (.inl y1), some (.inl y2), none] [] M := by
  refine mr_iload_n dd_Me_endSinglePayment_2 rfl ?_
  refine mr_aload_n dd_Me_endSinglePayment_3 rfl ?_
  obtain ⟨hk1, h⟩ := h
  refine mr_getr ff_Me_12 dd_Me_endSinglePayment_4 rs_1_0 rfl hk1 ?_
  obtain ⟨a4, ho5, h⟩ := h
  obtain ⟨hk6, h⟩ := h
  refine mr_callV0 (Yc := Y_AL_size) (M := M) (st := [.inl y2]) (vs := []) (ci := 2) fc_Me_21 iv_AL_size sv_AL_size dd_Me_endSinglePayment_7 ⟨Nat.le_of_ble_eq_true rfl, Nat.le_of_ble_eq_true rfl⟩ (by decide) rfl rfl (Nat.le_of_ble_eq_true rfl) ho5 hk6 rfl rfl h (fun r M2 hX3 h => ?_)
  replace h := h hX3
  obtain ⟨x7, rfl, h⟩ := h
  show mm_Z l G Y_Me_endSinglePayment K M0 bc bs 10 [some (.inr (some a0)), some (.inl y1), some (.inl y2), none] [.inl x7, .inl y2] M2
  refine mr_icmp_ge 44 dd_Me_endSinglePayment_10 (by decide) (fun hc10 => ?_) (fun hc10 => ?_)
  · have h := h.1 hc10
    exact mr_return dd_Me_endSinglePayment_44 rfl h
  · have h := h.2 hc10
    refine mr_aload_n dd_Me_endSinglePayment_13 rfl ?_
    refine mr_getr ff_Me_12 dd_Me_endSinglePayment_14 rs_1_0 rfl (mm_Xk hX3 hk1 (by decide)) ?_
    refine mr_iload_n dd_Me_endSinglePayment_17 rfl ?_
    obtain ⟨a10, ho11, h⟩ := h
    obtain ⟨hk12, h⟩ := h
    refine mr_callV0 (Yc := Y_AL_get) (M := M2) (st := []) (vs := [.inl y2]) (ci := 2) fc_Me_25 iv_AL_get sv_AL_get dd_Me_endSinglePayment_18 ⟨Nat.le_of_ble_eq_true rfl, Nat.le_of_ble_eq_true rfl⟩ (by decide) rfl rfl (Nat.le_of_ble_eq_true rfl) ho11 hk12 rfl rfl h (fun r M8 hX9 h => ?_)
    replace h := h hX9
    obtain ⟨o13, rfl, h⟩ := h
    show mm_Z l G Y_Me_endSinglePayment K M0 bc bs 21 [some (.inr (some a0)), some (.inl y1), some (.inl y2), none] [.inr o13] M8
    obtain ⟨hv14, h⟩ := h
    refine mr_cast (ci := 6) dd_Me_endSinglePayment_21 tb_224 hv14 cs_6 ?_
    refine mr_astore_n dd_Me_endSinglePayment_24 (by decide) ?_
    show mm_Z l G Y_Me_endSinglePayment K M0 bc bs 25 [some (.inr (some a0)), some (.inl y1), some (.inl y2), some (.inr o13)] [] M8
    refine mr_aload_n dd_Me_endSinglePayment_25 rfl ?_
    obtain ⟨a15, ho16, h⟩ := h
    obtain ⟨hk17, h⟩ := h
    refine mr_geti ff_Me_31 dd_Me_endSinglePayment_26 rs_6_0 ho16 hk17 ?_
    refine mr_iload_n dd_Me_endSinglePayment_29 rfl ?_
    refine mr_icmp_ne 38 dd_Me_endSinglePayment_30 (by decide) (fun hc30 => ?_) (fun hc30 => ?_)
    · have h := h.1 hc30
      refine mr_iinc 1 dd_Me_endSinglePayment_38 rfl (by decide) (by decide) ?_
      show mm_Z l G Y_Me_endSinglePayment K M0 bc bs 41 [some (.inr (some a0)), some (.inl y1), some (.inl (y2 + 1)), some (.inr o13)] [] M8
      refine mr_goto 2 dd_Me_endSinglePayment_41 (by decide) ?_
      exact mm_fg (mm_leq (mm_le_s (mm_le_s (mm_le_s (mm_le_n mm_le_e))))) h
    · have h := h.2 hc30
      refine mr_aload_n dd_Me_endSinglePayment_33 rfl ?_
      refine mr_iconst (-1) dd_Me_endSinglePayment_34 (by decide) ?_
      refine mr_puti ff_Me_35 fp_6 (Or.inl rfl) dd_Me_endSinglePayment_35 (Or.inl (by decide +kernel)) rs_6_1 ho16 hk17 ?_
      refine mr_iinc 1 dd_Me_endSinglePayment_38 rfl (by decide) (by decide) ?_
      show mm_Z l G Y_Me_endSinglePayment K M0 bc bs 41 [some (.inr (some a0)), some (.inl y1), some (.inl (y2 + 1)), some (.inr o13)] [] (mm_si M8 a15 1 (-1))
      refine mr_goto 2 dd_Me_endSinglePayment_41 (by decide) ?_
      exact mm_fg (mm_leq (mm_le_s (mm_le_s (mm_le_s (mm_le_n mm_le_e))))) h
set_option maxHeartbeats 4000000 in
set_option maxRecDepth 100000 in
theorem sg_Me_countPages {l : Launch} {G : mm_G} {K : Option mm_V → mm_M → Prop} {M : mm_M} {a0 : Nat} {xa : Int32}
    (h : mm_Z l G Y_Me_countPages K M 0 0 4 [some (.inr (some a0)), some (.inl xa), some (.inl 0), some (.inl 0)] [] M) :
    mm_Ok l G yy_Me_countPages Y_Me_countPages [.inr (some a0), .inl xa] M K := by
  refine mm_go (by decide) rfl (fun q => by cases q) (Nat.le_of_ble_eq_true rfl) ?_
  show mm_Z l G Y_Me_countPages K M 0 0 0 [some (.inr (some a0)), some (.inl xa), none, none] [] M
  refine mr_iconst 0 dd_Me_countPages_0 (by decide) ?_
  refine mr_istore_n dd_Me_countPages_1 (by decide) ?_
  show mm_Z l G Y_Me_countPages K M 0 0 2 [some (.inr (some a0)), some (.inl xa), some (.inl 0), none] [] M
  refine mr_iconst 0 dd_Me_countPages_2 (by decide) ?_
  refine mr_istore_n dd_Me_countPages_3 (by decide) ?_
  show mm_Z l G Y_Me_countPages K M 0 0 4 [some (.inr (some a0)), some (.inl xa), some (.inl 0), some (.inl 0)] [] M
  exact h
set_option maxHeartbeats 4000000 in
set_option maxRecDepth 100000 in
theorem sg_Me_countPages_4 {l : Launch} {G : mm_G} {K : Option mm_V → mm_M → Prop} {M0 M : mm_M} {bc bs : Nat} {a0 : Nat} {y1 : Int32} {y2 : Int32} {y3 : Int32}
    (h : mm_k M a0 = 2 ∧ ∃ a4 : Nat, (mm_p M a0 0) = some a4 ∧ mm_k M a4 = 3 ∧ mm_Ok l G yy_AL_size Y_AL_size [.inr (some a4)] M (fun r M2 => mm_X M M2 → ∃ x7 : Int32, r = some (.inl x7) ∧ (x7 ≤ y3 → K (some (.inl y2)) M2) ∧ (¬ x7 ≤ y3 → ∃ a10 : Nat, (mm_p M2 a0 0) = some a10 ∧ mm_k M2 a10 = 3 ∧ mm_Ok l G yy_AL_get Y_AL_get [.inr (some a10), .inl y3] M2 (fun r M8 => mm_X M2 M8 → ∃ o13 : Option Nat, r = some (.inr o13) ∧ (∀ q, o13 = some q → mm_k M8 q = 7) ∧ ∃ a15 : Nat, o13 = some a15 ∧ mm_k M8 a15 = 7 ∧ (¬ (mm_i M8 a15 0) = y1 → mm_Z l G Y_Me_countPages K M0 bc bs 4 [some (.inr (some a0)), some (.inl y1), some (.inl y2), some (.inl (y3 + 1))] [] M8) ∧ ((mm_i M8 a15 0) = y1 → mm_Z l G Y_Me_countPages K M0 bc bs 4 [some (.inr (some a0)), some (.inl y1), some (.inl (y2 + 1)), some (.inl (y3 + 1))] [] M8))))) :
    mm_Z l G Y_Me_countPages K M0 bc bs 4 [some (.inr (some a0)), some (.inl y1), some (.inl y2), some (.inl y3)] [] M := by
  refine mr_iload_n dd_Me_countPages_4 rfl ?_
  refine mr_aload_n dd_Me_countPages_5 rfl ?_
  obtain ⟨hk1, h⟩ := h
  refine mr_getr ff_Me_12 dd_Me_countPages_6 rs_1_0 rfl hk1 ?_
  obtain ⟨a4, ho5, h⟩ := h
  obtain ⟨hk6, h⟩ := h
  refine mr_callV0 (Yc := Y_AL_size) (M := M) (st := [.inl y3]) (vs := []) (ci := 2) fc_Me_21 iv_AL_size sv_AL_size dd_Me_countPages_9 ⟨Nat.le_of_ble_eq_true rfl, Nat.le_of_ble_eq_true rfl⟩ (by decide) rfl rfl (Nat.le_of_ble_eq_true rfl) ho5 hk6 rfl rfl h (fun r M2 hX3 h => ?_)
  replace h := h hX3
  obtain ⟨x7, rfl, h⟩ := h
  show mm_Z l G Y_Me_countPages K M0 bc bs 12 [some (.inr (some a0)), some (.inl y1), some (.inl y2), some (.inl y3)] [.inl x7, .inl y3] M2
  refine mr_icmp_ge 42 dd_Me_countPages_12 (by decide) (fun hc12 => ?_) (fun hc12 => ?_)
  · have h := h.1 hc12
    refine mr_iload_n dd_Me_countPages_42 rfl ?_
    exact mr_ireturn dd_Me_countPages_43 rfl h
  · have h := h.2 hc12
    refine mr_aload_n dd_Me_countPages_15 rfl ?_
    refine mr_getr ff_Me_12 dd_Me_countPages_16 rs_1_0 rfl (mm_Xk hX3 hk1 (by decide)) ?_
    refine mr_iload_n dd_Me_countPages_19 rfl ?_
    obtain ⟨a10, ho11, h⟩ := h
    obtain ⟨hk12, h⟩ := h
    refine mr_callV0 (Yc := Y_AL_get) (M := M2) (st := []) (vs := [.inl y3]) (ci := 2) fc_Me_25 iv_AL_get sv_AL_get dd_Me_countPages_20 ⟨Nat.le_of_ble_eq_true rfl, Nat.le_of_ble_eq_true rfl⟩ (by decide) rfl rfl (Nat.le_of_ble_eq_true rfl) ho11 hk12 rfl rfl h (fun r M8 hX9 h => ?_)
    replace h := h hX9
    obtain ⟨o13, rfl, h⟩ := h
    show mm_Z l G Y_Me_countPages K M0 bc bs 23 [some (.inr (some a0)), some (.inl y1), some (.inl y2), some (.inl y3)] [.inr o13] M8
    obtain ⟨hv14, h⟩ := h
    refine mr_cast (ci := 6) dd_Me_countPages_23 tb_224 hv14 cs_6 ?_
    obtain ⟨a15, ho16, h⟩ := h
    obtain ⟨hk17, h⟩ := h
    refine mr_geti ff_Me_31 dd_Me_countPages_26 rs_6_0 ho16 hk17 ?_
    refine mr_iload_n dd_Me_countPages_29 rfl ?_
    refine mr_icmp_ne 36 dd_Me_countPages_30 (by decide) (fun hc30 => ?_) (fun hc30 => ?_)
    · have h := h.1 hc30
      refine mr_iinc 1 dd_Me_countPages_36 rfl (by decide) (by decide) ?_
      show mm_Z l G Y_Me_countPages K M0 bc bs 39 [some (.inr (some a0)), some (.inl y1), some (.inl y2), some (.inl (y3 + 1))] [] M8
      refine mr_goto 4 dd_Me_countPages_39 (by decide) ?_
      exact h
    · have h := h.2 hc30
      refine mr_iinc 1 dd_Me_countPages_33 rfl (by decide) (by decide) ?_
      show mm_Z l G Y_Me_countPages K M0 bc bs 36 [some (.inr (some a0)), some (.inl y1), some (.inl (y2 + 1)), some (.inl y3)] [] M8
      refine mr_iinc 1 dd_Me_countPages_36 rfl (by decide) (by decide) ?_
      show mm_Z l G Y_Me_countPages K M0 bc bs 39 [some (.inr (some a0)), some (.inl y1), some (.inl (y2 + 1)), some (.inl (y3 + 1))] [] M8
      refine mr_goto 4 dd_Me_countPages_39 (by decide) ?_
      exact h
set_option maxHeartbeats 4000000 in
set_option maxRecDepth 100000 in
theorem sg_Me_countObjects {l : Launch} {G : mm_G} {K : Option mm_V → mm_M → Prop} {M : mm_M} {a0 : Nat} {xa : Int32}
    (h : mm_Z l G Y_Me_countObjects K M 0 0 4 [some (.inr (some a0)), some (.inl xa), some (.inl 0), some (.inl 0)] [] M) :
    mm_Ok l G yy_Me_countObjects Y_Me_countObjects [.inr (some a0), .inl xa] M K := by
  refine mm_go (by decide) rfl (fun q => by cases q) (Nat.le_of_ble_eq_true rfl) ?_
  show mm_Z l G Y_Me_countObjects K M 0 0 0 [some (.inr (some a0)), some (.inl xa), none, none] [] M
  refine mr_iconst 0 dd_Me_countObjects_0 (by decide) ?_
  refine mr_istore_n dd_Me_countObjects_1 (by decide) ?_
  show mm_Z l G Y_Me_countObjects K M 0 0 2 [some (.inr (some a0)), some (.inl xa), some (.inl 0), none] [] M
  refine mr_iconst 0 dd_Me_countObjects_2 (by decide) ?_
  refine mr_istore_n dd_Me_countObjects_3 (by decide) ?_
  show mm_Z l G Y_Me_countObjects K M 0 0 4 [some (.inr (some a0)), some (.inl xa), some (.inl 0), some (.inl 0)] [] M
  exact h
set_option maxHeartbeats 4000000 in
set_option maxRecDepth 100000 in
theorem sg_Me_countObjects_4 {l : Launch} {G : mm_G} {K : Option mm_V → mm_M → Prop} {M0 M : mm_M} {bc bs : Nat} {a0 : Nat} {y1 : Int32} {y2 : Int32} {y3 : Int32}
    (h : mm_k M a0 = 2 ∧ ∃ a4 : Nat, (mm_p M a0 1) = some a4 ∧ mm_k M a4 = 3 ∧ mm_Ok l G yy_AL_size Y_AL_size [.inr (some a4)] M (fun r M2 => mm_X M M2 → ∃ x7 : Int32, r = some (.inl x7) ∧ (x7 ≤ y3 → K (some (.inl y2)) M2) ∧ (¬ x7 ≤ y3 → ∃ a10 : Nat, (mm_p M2 a0 1) = some a10 ∧ mm_k M2 a10 = 3 ∧ mm_Ok l G yy_AL_get Y_AL_get [.inr (some a10), .inl y3] M2 (fun r M8 => mm_X M2 M8 → ∃ o13 : Option Nat, r = some (.inr o13) ∧ (∀ q, o13 = some q → mm_k M8 q = 8) ∧ ∃ a17 : Nat, o13 = some a17 ∧ mm_k M8 a17 = 8 ∧ mm_Ok l G yy_Ob_heapNumber Y_Ob_heapNumber [.inr (some a17)] M8 (fun r M15 => mm_X M8 M15 → ∃ x20 : Int32, r = some (.inl x20) ∧ (¬ x20 = y1 → mm_Z l G Y_Me_countObjects K M0 bc bs 4 [some (.inr (some a0)), some (.inl y1), some (.inl y2), some (.inl (y3 + 1))] [] M15) ∧ (x20 = y1 → mm_Z l G Y_Me_countObjects K M0 bc bs 4 [some (.inr (some a0)), some (.inl y1), some (.inl (y2 + 1)), some (.inl (y3 + 1))] [] M15)))))) :
    mm_Z l G Y_Me_countObjects K M0 bc bs 4 [some (.inr (some a0)), some (.inl y1), some (.inl y2), some (.inl y3)] [] M := by
  refine mr_iload_n dd_Me_countObjects_4 rfl ?_
  refine mr_aload_n dd_Me_countObjects_5 rfl ?_
  obtain ⟨hk1, h⟩ := h
  refine mr_getr ff_Me_18 dd_Me_countObjects_6 rs_1_1 rfl hk1 ?_
  obtain ⟨a4, ho5, h⟩ := h
  obtain ⟨hk6, h⟩ := h
  refine mr_callV0 (Yc := Y_AL_size) (M := M) (st := [.inl y3]) (vs := []) (ci := 2) fc_Me_21 iv_AL_size sv_AL_size dd_Me_countObjects_9 ⟨Nat.le_of_ble_eq_true rfl, Nat.le_of_ble_eq_true rfl⟩ (by decide) rfl rfl (Nat.le_of_ble_eq_true rfl) ho5 hk6 rfl rfl h (fun r M2 hX3 h => ?_)
  replace h := h hX3
  obtain ⟨x7, rfl, h⟩ := h
  show mm_Z l G Y_Me_countObjects K M0 bc bs 12 [some (.inr (some a0)), some (.inl y1), some (.inl y2), some (.inl y3)] [.inl x7, .inl y3] M2
  refine mr_icmp_ge 42 dd_Me_countObjects_12 (by decide) (fun hc12 => ?_) (fun hc12 => ?_)
  · have h := h.1 hc12
    refine mr_iload_n dd_Me_countObjects_42 rfl ?_
    exact mr_ireturn dd_Me_countObjects_43 rfl h
  · have h := h.2 hc12
    refine mr_aload_n dd_Me_countObjects_15 rfl ?_
    refine mr_getr ff_Me_18 dd_Me_countObjects_16 rs_1_1 rfl (mm_Xk hX3 hk1 (by decide)) ?_
    refine mr_iload_n dd_Me_countObjects_19 rfl ?_
    obtain ⟨a10, ho11, h⟩ := h
    obtain ⟨hk12, h⟩ := h
    refine mr_callV0 (Yc := Y_AL_get) (M := M2) (st := []) (vs := [.inl y3]) (ci := 2) fc_Me_25 iv_AL_get sv_AL_get dd_Me_countObjects_20 ⟨Nat.le_of_ble_eq_true rfl, Nat.le_of_ble_eq_true rfl⟩ (by decide) rfl rfl (Nat.le_of_ble_eq_true rfl) ho11 hk12 rfl rfl h (fun r M8 hX9 h => ?_)
    replace h := h hX9
    obtain ⟨o13, rfl, h⟩ := h
    show mm_Z l G Y_Me_countObjects K M0 bc bs 23 [some (.inr (some a0)), some (.inl y1), some (.inl y2), some (.inl y3)] [.inr o13] M8
    obtain ⟨hv14, h⟩ := h
    refine mr_cast (ci := 7) dd_Me_countObjects_23 tb_267 hv14 cs_7 ?_
    obtain ⟨a17, ho18, h⟩ := h
    obtain ⟨hk19, h⟩ := h
    refine mr_callV0 (Yc := Y_Ob_heapNumber) (M := M8) (st := []) (vs := []) (ci := 7) fc_Me_49 iv_Ob_heapNumber sv_Ob_heapNumber dd_Me_countObjects_26 ⟨Nat.le_of_ble_eq_true rfl, Nat.le_of_ble_eq_true rfl⟩ (by decide) rfl rfl (Nat.le_of_ble_eq_true rfl) ho18 hk19 rfl rfl h (fun r M15 hX16 h => ?_)
    replace h := h hX16
    obtain ⟨x20, rfl, h⟩ := h
    show mm_Z l G Y_Me_countObjects K M0 bc bs 29 [some (.inr (some a0)), some (.inl y1), some (.inl y2), some (.inl y3)] [.inl x20] M15
    refine mr_iload_n dd_Me_countObjects_29 rfl ?_
    refine mr_icmp_ne 36 dd_Me_countObjects_30 (by decide) (fun hc30 => ?_) (fun hc30 => ?_)
    · have h := h.1 hc30
      refine mr_iinc 1 dd_Me_countObjects_36 rfl (by decide) (by decide) ?_
      show mm_Z l G Y_Me_countObjects K M0 bc bs 39 [some (.inr (some a0)), some (.inl y1), some (.inl y2), some (.inl (y3 + 1))] [] M15
      refine mr_goto 4 dd_Me_countObjects_39 (by decide) ?_
      exact h
    · have h := h.2 hc30
      refine mr_iinc 1 dd_Me_countObjects_33 rfl (by decide) (by decide) ?_
      show mm_Z l G Y_Me_countObjects K M0 bc bs 36 [some (.inr (some a0)), some (.inl y1), some (.inl (y2 + 1)), some (.inl y3)] [] M15
      refine mr_iinc 1 dd_Me_countObjects_36 rfl (by decide) (by decide) ?_
      show mm_Z l G Y_Me_countObjects K M0 bc bs 39 [some (.inr (some a0)), some (.inl y1), some (.inl (y2 + 1)), some (.inl (y3 + 1))] [] M15
      refine mr_goto 4 dd_Me_countObjects_39 (by decide) ?_
      exact h
set_option maxHeartbeats 4000000 in
set_option maxRecDepth 100000 in
theorem sg_Me_countItems {l : Launch} {G : mm_G} {K : Option mm_V → mm_M → Prop} {M : mm_M} {a0 : Nat} {xa : Int32}
    (h : mm_Z l G Y_Me_countItems K M 0 0 4 [some (.inr (some a0)), some (.inl xa), some (.inl 0), some (.inl 0)] [] M) :
    mm_Ok l G yy_Me_countItems Y_Me_countItems [.inr (some a0), .inl xa] M K := by
  refine mm_go (by decide) rfl (fun q => by cases q) (Nat.le_of_ble_eq_true rfl) ?_
  show mm_Z l G Y_Me_countItems K M 0 0 0 [some (.inr (some a0)), some (.inl xa), none, none] [] M
  refine mr_iconst 0 dd_Me_countItems_0 (by decide) ?_
  refine mr_istore_n dd_Me_countItems_1 (by decide) ?_
  show mm_Z l G Y_Me_countItems K M 0 0 2 [some (.inr (some a0)), some (.inl xa), some (.inl 0), none] [] M
  refine mr_iconst 0 dd_Me_countItems_2 (by decide) ?_
  refine mr_istore_n dd_Me_countItems_3 (by decide) ?_
  show mm_Z l G Y_Me_countItems K M 0 0 4 [some (.inr (some a0)), some (.inl xa), some (.inl 0), some (.inl 0)] [] M
  exact h
set_option maxHeartbeats 4000000 in
set_option maxRecDepth 100000 in
theorem sg_Me_countItems_4 {l : Launch} {G : mm_G} {K : Option mm_V → mm_M → Prop} {M0 M : mm_M} {bc bs : Nat} {a0 : Nat} {y1 : Int32} {y2 : Int32} {y3 : Int32}
    (h : mm_k M a0 = 2 ∧ ∃ a4 : Nat, (mm_p M a0 1) = some a4 ∧ mm_k M a4 = 3 ∧ mm_Ok l G yy_AL_size Y_AL_size [.inr (some a4)] M (fun r M2 => mm_X M M2 → ∃ x7 : Int32, r = some (.inl x7) ∧ (x7 ≤ y3 → K (some (.inl y2)) M2) ∧ (¬ x7 ≤ y3 → ∃ a10 : Nat, (mm_p M2 a0 1) = some a10 ∧ mm_k M2 a10 = 3 ∧ mm_Ok l G yy_AL_get Y_AL_get [.inr (some a10), .inl y3] M2 (fun r M8 => mm_X M2 M8 → ∃ o13 : Option Nat, r = some (.inr o13) ∧ (∀ q, o13 = some q → mm_k M8 q = 8) ∧ ∃ a17 : Nat, o13 = some a17 ∧ mm_k M8 a17 = 8 ∧ mm_Ok l G yy_Ob_hasItem Y_Ob_hasItem [.inr (some a17), .inl y1] M8 (fun r M15 => mm_X M8 M15 → ∃ x20 : Int32, r = some (.inl x20) ∧ (x20 = 0 → mm_Z l G Y_Me_countItems K M0 bc bs 4 [some (.inr (some a0)), some (.inl y1), some (.inl y2), some (.inl (y3 + 1))] [] M15) ∧ (¬ x20 = 0 → mm_Z l G Y_Me_countItems K M0 bc bs 4 [some (.inr (some a0)), some (.inl y1), some (.inl (y2 + 1)), some (.inl (y3 + 1))] [] M15)))))) :
    mm_Z l G Y_Me_countItems K M0 bc bs 4 [some (.inr (some a0)), some (.inl y1), some (.inl y2), some (.inl y3)] [] M := by
  refine mr_iload_n dd_Me_countItems_4 rfl ?_
  refine mr_aload_n dd_Me_countItems_5 rfl ?_
  obtain ⟨hk1, h⟩ := h
  refine mr_getr ff_Me_18 dd_Me_countItems_6 rs_1_1 rfl hk1 ?_
  obtain ⟨a4, ho5, h⟩ := h
  obtain ⟨hk6, h⟩ := h
  refine mr_callV0 (Yc := Y_AL_size) (M := M) (st := [.inl y3]) (vs := []) (ci := 2) fc_Me_21 iv_AL_size sv_AL_size dd_Me_countItems_9 ⟨Nat.le_of_ble_eq_true rfl, Nat.le_of_ble_eq_true rfl⟩ (by decide) rfl rfl (Nat.le_of_ble_eq_true rfl) ho5 hk6 rfl rfl h (fun r M2 hX3 h => ?_)
  replace h := h hX3
  obtain ⟨x7, rfl, h⟩ := h
  show mm_Z l G Y_Me_countItems K M0 bc bs 12 [some (.inr (some a0)), some (.inl y1), some (.inl y2), some (.inl y3)] [.inl x7, .inl y3] M2
  refine mr_icmp_ge 42 dd_Me_countItems_12 (by decide) (fun hc12 => ?_) (fun hc12 => ?_)
  · have h := h.1 hc12
    refine mr_iload_n dd_Me_countItems_42 rfl ?_
    exact mr_ireturn dd_Me_countItems_43 rfl h
  · have h := h.2 hc12
    refine mr_aload_n dd_Me_countItems_15 rfl ?_
    refine mr_getr ff_Me_18 dd_Me_countItems_16 rs_1_1 rfl (mm_Xk hX3 hk1 (by decide)) ?_
    refine mr_iload_n dd_Me_countItems_19 rfl ?_
    obtain ⟨a10, ho11, h⟩ := h
    obtain ⟨hk12, h⟩ := h
    refine mr_callV0 (Yc := Y_AL_get) (M := M2) (st := []) (vs := [.inl y3]) (ci := 2) fc_Me_25 iv_AL_get sv_AL_get dd_Me_countItems_20 ⟨Nat.le_of_ble_eq_true rfl, Nat.le_of_ble_eq_true rfl⟩ (by decide) rfl rfl (Nat.le_of_ble_eq_true rfl) ho11 hk12 rfl rfl h (fun r M8 hX9 h => ?_)
    replace h := h hX9
    obtain ⟨o13, rfl, h⟩ := h
    show mm_Z l G Y_Me_countItems K M0 bc bs 23 [some (.inr (some a0)), some (.inl y1), some (.inl y2), some (.inl y3)] [.inr o13] M8
    obtain ⟨hv14, h⟩ := h
    refine mr_cast (ci := 7) dd_Me_countItems_23 tb_267 hv14 cs_7 ?_
    refine mr_iload_n dd_Me_countItems_26 rfl ?_
    obtain ⟨a17, ho18, h⟩ := h
    obtain ⟨hk19, h⟩ := h
    refine mr_callV0 (Yc := Y_Ob_hasItem) (M := M8) (st := []) (vs := [.inl y1]) (ci := 7) fc_Me_52 iv_Ob_hasItem sv_Ob_hasItem dd_Me_countItems_27 ⟨Nat.le_of_ble_eq_true rfl, Nat.le_of_ble_eq_true rfl⟩ (by decide) rfl rfl (Nat.le_of_ble_eq_true rfl) ho18 hk19 rfl rfl h (fun r M15 hX16 h => ?_)
    replace h := h hX16
    obtain ⟨x20, rfl, h⟩ := h
    show mm_Z l G Y_Me_countItems K M0 bc bs 30 [some (.inr (some a0)), some (.inl y1), some (.inl y2), some (.inl y3)] [.inl x20] M15
    refine mr_if_eq 36 dd_Me_countItems_30 (by decide) (fun hc30 => ?_) (fun hc30 => ?_)
    · have h := h.1 hc30
      refine mr_iinc 1 dd_Me_countItems_36 rfl (by decide) (by decide) ?_
      show mm_Z l G Y_Me_countItems K M0 bc bs 39 [some (.inr (some a0)), some (.inl y1), some (.inl y2), some (.inl (y3 + 1))] [] M15
      refine mr_goto 4 dd_Me_countItems_39 (by decide) ?_
      exact h
    · have h := h.2 hc30
      refine mr_iinc 1 dd_Me_countItems_33 rfl (by decide) (by decide) ?_
      show mm_Z l G Y_Me_countItems K M0 bc bs 36 [some (.inr (some a0)), some (.inl y1), some (.inl (y2 + 1)), some (.inl y3)] [] M15
      refine mr_iinc 1 dd_Me_countItems_36 rfl (by decide) (by decide) ?_
      show mm_Z l G Y_Me_countItems K M0 bc bs 39 [some (.inr (some a0)), some (.inl y1), some (.inl (y2 + 1)), some (.inl (y3 + 1))] [] M15
      refine mr_goto 4 dd_Me_countItems_39 (by decide) ?_
      exact h
set_option maxHeartbeats 4000000 in
set_option maxRecDepth 100000 in
theorem sg_Co_init {l : Launch} {G : mm_G} {K : Option mm_V → mm_M → Prop} {M : mm_M} {a0 : Nat}
    (h : ∀ q1, q1 = mm_z M → mm_k (mm_nw M 103 60) a0 = 4 ∧ K none (mm_si (mm_sp (mm_nw M 103 60) a0 0 (some q1)) a0 1 0)) :
    mm_Ok l G yy_Co_init Y_Co_init [.inr (some a0)] M K := by
  refine mm_go (by decide) rfl (fun _ => rfl) (Nat.le_of_ble_eq_true rfl) ?_
  show mm_Z l G Y_Co_init K M 1 60 0 [some (.inr (some a0))] [] M
  refine mr_aload_n dd_Co_init_0 rfl ?_
  refine mr_obji dd_Co_init_1 tb_72 tb_24 tb_25 ⟨Nat.le_of_ble_eq_true rfl, Nat.le_of_ble_eq_true rfl⟩ rfl ?_
  refine mr_aload_n dd_Co_init_4 rfl ?_
  refine mr_bipush 60 dd_Co_init_5 (by decide) ?_
  refine mr_newq (t := 3) (n := 60) dd_Co_init_7 tb_73 tn_74 (by decide) (by decide) (fun _ => rfl) rfl (by decide) ?_
  generalize hq2 : mm_z M = q1
  have h := h q1 hq2.symm
  obtain ⟨hk3, h⟩ := h
  refine mr_putr ff_Co_11 fp_3 (Or.inr ⟨rfl, rfl, tb_75⟩) dd_Co_init_10 (ty := tt3 0) (by decide +kernel) (Or.inr ⟨_, rfl⟩) rs_3_0 rfl hk3 ?_
  refine mr_aload_n dd_Co_init_13 rfl ?_
  refine mr_iconst 0 dd_Co_init_14 (by decide) ?_
  refine mr_puti ff_Co_17 fp_3 (Or.inl rfl) dd_Co_init_15 (Or.inl (by decide +kernel)) rs_3_1 rfl hk3 ?_
  exact mr_return dd_Co_init_18 rfl h
set_option maxHeartbeats 4000000 in
set_option maxRecDepth 100000 in
theorem sg_Co_run {l : Launch} {G : mm_G} {K : Option mm_V → mm_M → Prop} {M : mm_M} {a0 : Nat} {xa : Int32} {ob : Option Nat} {oc : Option Nat}
    (h : mm_k M a0 = 4 ∧ mm_Ok l G yy_Co_reachHeld Y_Co_reachHeld [.inr (some a0), .inl xa, .inr oc] (mm_si M a0 1 0) (fun r M2 => mm_X (mm_si M a0 1 0) M2 → r = none ∧ mm_Ok l G yy_Co_reachNamedFromOutside Y_Co_reachNamedFromOutside [.inr (some a0), .inl xa, .inr ob] M2 (fun r M4 => mm_X M2 M4 → r = none ∧ mm_Ok l G yy_Co_followFields Y_Co_followFields [.inr (some a0), .inl xa] M4 (fun r M6 => mm_X M4 M6 → r = none ∧ ∃ a10 : Nat, ob = some a10 ∧ mm_k M6 a10 = 2 ∧ mm_Ok l G yy_Me_freeUnreached Y_Me_freeUnreached [.inr (some a10), .inl xa] M6 (fun r M8 => mm_X M6 M8 → ∃ x13 : Int32, r = some (.inl x13) ∧ mm_Ok l G yy_Co_loseItems Y_Co_loseItems [.inr (some a0), .inl xa, .inr ob] M8 (fun r M14 => mm_X M8 M14 → r = none ∧ K (some (.inl x13)) M14)))))) :
    mm_Ok l G yy_Co_run Y_Co_run [.inr (some a0), .inl xa, .inr ob, .inr oc] M K := by
  refine mm_go (by decide) rfl (fun q => by cases q) (Nat.le_of_ble_eq_true rfl) ?_
  show mm_Z l G Y_Co_run K M 0 0 0 [some (.inr (some a0)), some (.inl xa), some (.inr ob), some (.inr oc), none] [] M
  refine mr_aload_n dd_Co_run_0 rfl ?_
  refine mr_iconst 0 dd_Co_run_1 (by decide) ?_
  obtain ⟨hk1, h⟩ := h
  refine mr_puti ff_Co_17 fp_3 (Or.inl rfl) dd_Co_run_2 (Or.inl (by decide +kernel)) rs_3_1 rfl hk1 ?_
  refine mr_aload_n dd_Co_run_5 rfl ?_
  refine mr_iload_n dd_Co_run_6 rfl ?_
  refine mr_aload_n dd_Co_run_7 rfl ?_
  refine mr_callV0 (Yc := Y_Co_reachHeld) (M := (mm_si M a0 1 0)) (st := []) (vs := [.inl xa, .inr oc]) (ci := 3) fc_Co_21 iv_Co_reachHeld sv_Co_reachHeld dd_Co_run_8 ⟨Nat.le_of_ble_eq_true rfl, Nat.le_of_ble_eq_true rfl⟩ (by decide) rfl rfl (Nat.le_of_ble_eq_true rfl) rfl hk1 rfl rfl h (fun r M2 hX3 h => ?_)
  replace h := h hX3
  obtain ⟨rfl, h⟩ := h
  show mm_Z l G Y_Co_run K M 0 0 11 [some (.inr (some a0)), some (.inl xa), some (.inr ob), some (.inr oc), none] [] M2
  refine mr_aload_n dd_Co_run_11 rfl ?_
  refine mr_iload_n dd_Co_run_12 rfl ?_
  refine mr_aload_n dd_Co_run_13 rfl ?_
  refine mr_callV0 (Yc := Y_Co_reachNamedFromOutside) (M := M2) (st := []) (vs := [.inl xa, .inr ob]) (ci := 3) fc_Co_25 iv_Co_reachNamedFromOutside sv_Co_reachNamedFromOutside dd_Co_run_14 ⟨Nat.le_of_ble_eq_true rfl, Nat.le_of_ble_eq_true rfl⟩ (by decide) rfl rfl (Nat.le_of_ble_eq_true rfl) rfl (mm_Xk hX3 hk1 (by decide)) rfl rfl h (fun r M4 hX5 h => ?_)
  replace h := h hX5
  obtain ⟨rfl, h⟩ := h
  show mm_Z l G Y_Co_run K M 0 0 17 [some (.inr (some a0)), some (.inl xa), some (.inr ob), some (.inr oc), none] [] M4
  refine mr_aload_n dd_Co_run_17 rfl ?_
  refine mr_iload_n dd_Co_run_18 rfl ?_
  refine mr_callV0 (Yc := Y_Co_followFields) (M := M4) (st := []) (vs := [.inl xa]) (ci := 3) fc_Co_29 iv_Co_followFields sv_Co_followFields dd_Co_run_19 ⟨Nat.le_of_ble_eq_true rfl, Nat.le_of_ble_eq_true rfl⟩ (by decide) rfl rfl (Nat.le_of_ble_eq_true rfl) rfl (mm_Xk hX5 (mm_Xk hX3 hk1 (by decide)) (by decide)) rfl rfl h (fun r M6 hX7 h => ?_)
  replace h := h hX7
  obtain ⟨rfl, h⟩ := h
  show mm_Z l G Y_Co_run K M 0 0 22 [some (.inr (some a0)), some (.inl xa), some (.inr ob), some (.inr oc), none] [] M6
  refine mr_aload_n dd_Co_run_22 rfl ?_
  refine mr_iload_n dd_Co_run_23 rfl ?_
  obtain ⟨a10, ho11, h⟩ := h
  obtain ⟨hk12, h⟩ := h
  refine mr_callV0 (Yc := Y_Me_freeUnreached) (M := M6) (st := []) (vs := [.inl xa]) (ci := 1) fc_Co_33 iv_Me_freeUnreached sv_Me_freeUnreached dd_Co_run_24 ⟨Nat.le_of_ble_eq_true rfl, Nat.le_of_ble_eq_true rfl⟩ (by decide) rfl rfl (Nat.le_of_ble_eq_true rfl) ho11 hk12 rfl rfl h (fun r M8 hX9 h => ?_)
  replace h := h hX9
  obtain ⟨x13, rfl, h⟩ := h
  show mm_Z l G Y_Co_run K M 0 0 27 [some (.inr (some a0)), some (.inl xa), some (.inr ob), some (.inr oc), none] [.inl x13] M8
  refine mr_istore dd_Co_run_27 (by decide) ?_
  show mm_Z l G Y_Co_run K M 0 0 29 [some (.inr (some a0)), some (.inl xa), some (.inr ob), some (.inr oc), some (.inl x13)] [] M8
  refine mr_aload_n dd_Co_run_29 rfl ?_
  refine mr_iload_n dd_Co_run_30 rfl ?_
  refine mr_aload_n dd_Co_run_31 rfl ?_
  refine mr_callV0 (Yc := Y_Co_loseItems) (M := M8) (st := []) (vs := [.inl xa, .inr ob]) (ci := 3) fc_Co_39 iv_Co_loseItems sv_Co_loseItems dd_Co_run_32 ⟨Nat.le_of_ble_eq_true rfl, Nat.le_of_ble_eq_true rfl⟩ (by decide) rfl rfl (Nat.le_of_ble_eq_true rfl) rfl (mm_Xk hX9 (mm_Xk hX7 (mm_Xk hX5 (mm_Xk hX3 hk1 (by decide)) (by decide)) (by decide)) (by decide)) rfl rfl h (fun r M14 hX15 h => ?_)
  replace h := h hX15
  obtain ⟨rfl, h⟩ := h
  show mm_Z l G Y_Co_run K M 0 0 35 [some (.inr (some a0)), some (.inl xa), some (.inr ob), some (.inr oc), some (.inl x13)] [] M14
  refine mr_iload dd_Co_run_35 rfl ?_
  exact mr_ireturn dd_Co_run_37 rfl h
set_option maxHeartbeats 4000000 in
set_option maxRecDepth 100000 in
theorem sg_Co_reachHeld {l : Launch} {G : mm_G} {K : Option mm_V → mm_M → Prop} {M : mm_M} {a0 : Nat} {xa : Int32} {ob : Option Nat}
    (h : mm_Z l G Y_Co_reachHeld K M 0 0 2 [some (.inr (some a0)), some (.inl xa), some (.inr ob), some (.inl 0), none] [] M) :
    mm_Ok l G yy_Co_reachHeld Y_Co_reachHeld [.inr (some a0), .inl xa, .inr ob] M K := by
  refine mm_go (by decide) rfl (fun q => by cases q) (Nat.le_of_ble_eq_true rfl) ?_
  show mm_Z l G Y_Co_reachHeld K M 0 0 0 [some (.inr (some a0)), some (.inl xa), some (.inr ob), none, none] [] M
  refine mr_iconst 0 dd_Co_reachHeld_0 (by decide) ?_
  refine mr_istore_n dd_Co_reachHeld_1 (by decide) ?_
  show mm_Z l G Y_Co_reachHeld K M 0 0 2 [some (.inr (some a0)), some (.inl xa), some (.inr ob), some (.inl 0), none] [] M
  exact h
set_option maxHeartbeats 4000000 in
set_option maxRecDepth 100000 in
theorem sg_Co_reachHeld_2 {l : Launch} {G : mm_G} {K : Option mm_V → mm_M → Prop} {M0 M : mm_M} {bc bs : Nat} {a0 : Nat} {y1 : Int32} {r2 : Option Nat} {y3 : Int32}
    (h : (8 ≤ y3 → K none M) ∧ (¬ 8 ≤ y3 → mm_Z l G Y_Co_reachHeld K M0 bc bs 11 [some (.inr (some a0)), some (.inl y1), some (.inr r2), some (.inl y3), some (.inl 0)] [] M)) :
    mm_Z l G Y_Co_reachHeld K M0 bc bs 2 [some (.inr (some a0)), some (.inl y1), some (.inr r2), some (.inl y3), none] [] M := by
  refine mr_iload_n dd_Co_reachHeld_2 rfl ?_
  refine mr_bipush 8 dd_Co_reachHeld_3 (by decide) ?_
  refine mr_icmp_ge 49 dd_Co_reachHeld_5 (by decide) (fun hc5 => ?_) (fun hc5 => ?_)
  · have h := h.1 hc5
    exact mr_return dd_Co_reachHeld_49 rfl h
  · have h := h.2 hc5
    refine mr_iconst 0 dd_Co_reachHeld_8 (by decide) ?_
    refine mr_istore dd_Co_reachHeld_9 (by decide) ?_
    show mm_Z l G Y_Co_reachHeld K M0 bc bs 11 [some (.inr (some a0)), some (.inl y1), some (.inr r2), some (.inl y3), some (.inl 0)] [] M
    exact h
set_option maxHeartbeats 4000000 in
set_option maxRecDepth 100000 in
theorem sg_Co_reachHeld_11 {l : Launch} {G : mm_G} {K : Option mm_V → mm_M → Prop} {M0 M : mm_M} {bc bs : Nat} {a0 : Nat} {y1 : Int32} {r2 : Option Nat} {y3 : Int32} {y4 : Int32}
    (h : ∃ a1 : Nat, r2 = some a1 ∧ mm_k M a1 = 104 ∧ ∃ j4 : Nat, y3 = nI j4 ∧ j4 < 2147483648 ∧ j4 < mm_l M a1 ∧ ((mm_p M a1 j4) = none → mm_Z l G Y_Co_reachHeld K M0 bc bs 2 [some (.inr (some a0)), some (.inl y1), some (.inr r2), some (.inl (y3 + 1)), none] [] M) ∧ (∀ a8 : Nat, (mm_p M a1 j4) = some a8 → (4 ≤ y4 → mm_Z l G Y_Co_reachHeld K M0 bc bs 2 [some (.inr (some a0)), some (.inl y1), some (.inr r2), some (.inl (y3 + 1)), none] [] M) ∧ (¬ 4 ≤ y4 → ∃ j9 : Nat, y3 = nI j9 ∧ j9 < 2147483648 ∧ j9 < mm_l M a1 ∧ ∃ a13 : Nat, (mm_p M a1 j9) = some a13 ∧ mm_k M a13 = 6 ∧ ∃ a16 : Nat, (mm_p M a13 4) = some a16 ∧ mm_k M a16 = 103 ∧ ∃ j19 : Nat, y4 = nI j19 ∧ j19 < 2147483648 ∧ j19 < mm_l M a16 ∧ mm_k M a0 = 4 ∧ mm_Ok l G yy_Co_reachObject Y_Co_reachObject [.inr (some a0), .inl y1, .inr (mm_p M a16 j19)] M (fun r M23 => mm_X M M23 → r = none ∧ mm_Z l G Y_Co_reachHeld K M0 bc bs 11 [some (.inr (some a0)), some (.inl y1), some (.inr r2), some (.inl y3), some (.inl (y4 + 1))] [] M23)))) :
    mm_Z l G Y_Co_reachHeld K M0 bc bs 11 [some (.inr (some a0)), some (.inl y1), some (.inr r2), some (.inl y3), some (.inl y4)] [] M := by
  refine mr_aload_n dd_Co_reachHeld_11 rfl ?_
  refine mr_iload_n dd_Co_reachHeld_12 rfl ?_
  obtain ⟨a1, ho2, h⟩ := h
  obtain ⟨hk3, h⟩ := h
  obtain ⟨j4, hj5, hm6, hl7, h⟩ := h
  refine mr_aald (t := 4) dd_Co_reachHeld_13 ho2 hk3 (fun _ => rfl) (by decide) hj5 hm6 hl7 ?_
  refine mr_ifnull 43 dd_Co_reachHeld_14 (by decide) (fun hc14 => ?_) (fun a8 hc14 => ?_)
  · have h := h.1 hc14
    refine mr_iinc 1 dd_Co_reachHeld_43 rfl (by decide) (by decide) ?_
    show mm_Z l G Y_Co_reachHeld K M0 bc bs 46 [some (.inr (some a0)), some (.inl y1), some (.inr r2), some (.inl (y3 + 1)), some (.inl y4)] [] M
    refine mr_goto 2 dd_Co_reachHeld_46 (by decide) ?_
    exact mm_fg (mm_leq (mm_le_s (mm_le_s (mm_le_s (mm_le_s (mm_le_n mm_le_e)))))) h
  · have h := h.2 a8 hc14
    refine mr_iload dd_Co_reachHeld_17 rfl ?_
    refine mr_iconst 4 dd_Co_reachHeld_19 (by decide) ?_
    refine mr_icmp_ge 43 dd_Co_reachHeld_20 (by decide) (fun hc20 => ?_) (fun hc20 => ?_)
    · have h := h.1 hc20
      refine mr_iinc 1 dd_Co_reachHeld_43 rfl (by decide) (by decide) ?_
      show mm_Z l G Y_Co_reachHeld K M0 bc bs 46 [some (.inr (some a0)), some (.inl y1), some (.inr r2), some (.inl (y3 + 1)), some (.inl y4)] [] M
      refine mr_goto 2 dd_Co_reachHeld_46 (by decide) ?_
      exact mm_fg (mm_leq (mm_le_s (mm_le_s (mm_le_s (mm_le_s (mm_le_n mm_le_e)))))) h
    · have h := h.2 hc20
      refine mr_aload_n dd_Co_reachHeld_23 rfl ?_
      refine mr_iload_n dd_Co_reachHeld_24 rfl ?_
      refine mr_aload_n dd_Co_reachHeld_25 rfl ?_
      refine mr_iload_n dd_Co_reachHeld_26 rfl ?_
      obtain ⟨j9, hj10, hm11, hl12, h⟩ := h
      refine mr_aald (t := 4) dd_Co_reachHeld_27 ho2 hk3 (fun _ => rfl) (by decide) hj10 hm11 hl12 ?_
      obtain ⟨a13, ho14, h⟩ := h
      obtain ⟨hk15, h⟩ := h
      refine mr_getr ff_Co_42 dd_Co_reachHeld_28 rs_5_4 ho14 hk15 ?_
      refine mr_iload dd_Co_reachHeld_31 rfl ?_
      obtain ⟨a16, ho17, h⟩ := h
      obtain ⟨hk18, h⟩ := h
      obtain ⟨j19, hj20, hm21, hl22, h⟩ := h
      refine mr_aald (t := 3) dd_Co_reachHeld_33 ho17 hk18 (fun _ => rfl) (by decide) hj20 hm21 hl22 ?_
      obtain ⟨hk25, h⟩ := h
      refine mr_callV0 (Yc := Y_Co_reachObject) (M := M) (st := []) (vs := [.inl y1, .inr (mm_p M a16 j19)]) (ci := 3) fc_Co_47 iv_Co_reachObject sv_Co_reachObject dd_Co_reachHeld_34 ⟨Nat.le_of_ble_eq_true rfl, Nat.le_of_ble_eq_true rfl⟩ (by decide) rfl rfl (Nat.le_of_ble_eq_true rfl) rfl hk25 rfl rfl h (fun r M23 hX24 h => ?_)
      replace h := h hX24
      obtain ⟨rfl, h⟩ := h
      show mm_Z l G Y_Co_reachHeld K M0 bc bs 37 [some (.inr (some a0)), some (.inl y1), some (.inr r2), some (.inl y3), some (.inl y4)] [] M23
      refine mr_iinc 1 dd_Co_reachHeld_37 rfl (by decide) (by decide) ?_
      show mm_Z l G Y_Co_reachHeld K M0 bc bs 40 [some (.inr (some a0)), some (.inl y1), some (.inr r2), some (.inl y3), some (.inl (y4 + 1))] [] M23
      refine mr_goto 11 dd_Co_reachHeld_40 (by decide) ?_
      exact h
set_option maxHeartbeats 4000000 in
set_option maxRecDepth 100000 in
theorem sg_Co_reachObject {l : Launch} {G : mm_G} {K : Option mm_V → mm_M → Prop} {M : mm_M} {a0 : Nat} {xa : Int32} {ob : Option Nat}
    (h : (ob = none → K none M) ∧ (∀ a1 : Nat, ob = some a1 → mm_k M a1 = 8 ∧ mm_Ok l G yy_Ob_heapNumber Y_Ob_heapNumber [.inr (some a1)] M (fun r M2 => mm_X M M2 → ∃ x5 : Int32, r = some (.inl x5) ∧ (¬ x5 = xa → K none M2) ∧ (x5 = xa → (¬ (mm_i M2 a1 4) = 0 → K none M2) ∧ ((mm_i M2 a1 4) = 0 → mm_k M2 a0 = 4 ∧ ((mm_i M2 a0 1) < 60 → ∃ a7 : Nat, (mm_p (mm_si M2 a1 4 1) a0 0) = some a7 ∧ mm_k (mm_si M2 a1 4 1) a7 = 103 ∧ ∃ j10 : Nat, (mm_i (mm_si M2 a1 4 1) a0 1) = nI j10 ∧ j10 < 2147483648 ∧ j10 < mm_l (mm_si M2 a1 4 1) a7 ∧ (∀ q, ob = some q → mm_k (mm_si M2 a1 4 1) q = 8) ∧ K none (mm_si (mm_sp (mm_si M2 a1 4 1) a7 j10 ob) a0 1 ((mm_i (mm_sp (mm_si M2 a1 4 1) a7 j10 ob) a0 1) + 1))) ∧ (¬ (mm_i M2 a0 1) < 60 → K none M2)))))) :
    mm_Ok l G yy_Co_reachObject Y_Co_reachObject [.inr (some a0), .inl xa, .inr ob] M K := by
  refine mm_go (by decide) rfl (fun q => by cases q) (Nat.le_of_ble_eq_true rfl) ?_
  show mm_Z l G Y_Co_reachObject K M 0 0 0 [some (.inr (some a0)), some (.inl xa), some (.inr ob)] [] M
  refine mr_aload_n dd_Co_reachObject_0 rfl ?_
  refine mr_ifnull 28 dd_Co_reachObject_1 (by decide) (fun hc1 => ?_) (fun a1 hc1 => ?_)
  · have h := h.1 hc1
    exact mr_return dd_Co_reachObject_28 rfl h
  · have h := h.2 a1 hc1
    refine mr_aload_n dd_Co_reachObject_4 rfl ?_
    obtain ⟨hk4, h⟩ := h
    refine mr_callV0 (Yc := Y_Ob_heapNumber) (M := M) (st := []) (vs := []) (ci := 7) fc_Co_72 iv_Ob_heapNumber sv_Ob_heapNumber dd_Co_reachObject_5 ⟨Nat.le_of_ble_eq_true rfl, Nat.le_of_ble_eq_true rfl⟩ (by decide) rfl rfl (Nat.le_of_ble_eq_true rfl) hc1 hk4 rfl rfl h (fun r M2 hX3 h => ?_)
    replace h := h hX3
    obtain ⟨x5, rfl, h⟩ := h
    show mm_Z l G Y_Co_reachObject K M 0 0 8 [some (.inr (some a0)), some (.inl xa), some (.inr ob)] [.inl x5] M2
    refine mr_iload_n dd_Co_reachObject_8 rfl ?_
    refine mr_icmp_ne 28 dd_Co_reachObject_9 (by decide) (fun hc9 => ?_) (fun hc9 => ?_)
    · have h := h.1 hc9
      exact mr_return dd_Co_reachObject_28 rfl h
    · have h := h.2 hc9
      refine mr_aload_n dd_Co_reachObject_12 rfl ?_
      refine mr_geti ff_Co_75 dd_Co_reachObject_13 rs_7_4 hc1 (mm_Xk hX3 hk4 (by decide)) ?_
      refine mr_if_ne 28 dd_Co_reachObject_16 (by decide) (fun hc16 => ?_) (fun hc16 => ?_)
      · have h := h.1 hc16
        exact mr_return dd_Co_reachObject_28 rfl h
      · have h := h.2 hc16
        refine mr_aload_n dd_Co_reachObject_19 rfl ?_
        obtain ⟨hk6, h⟩ := h
        refine mr_geti ff_Co_17 dd_Co_reachObject_20 rs_3_1 rfl hk6 ?_
        refine mr_bipush 60 dd_Co_reachObject_23 (by decide) ?_
        refine mr_icmp_lt 29 dd_Co_reachObject_25 (by decide) (fun hc25 => ?_) (fun hc25 => ?_)
        · have h := h.1 hc25
          refine mr_aload_n dd_Co_reachObject_29 rfl ?_
          refine mr_iconst 1 dd_Co_reachObject_30 (by decide) ?_
          refine mr_puti ff_Co_75 fp_7 (Or.inl rfl) dd_Co_reachObject_31 (Or.inr ⟨by decide +kernel, (Or.inr rfl)⟩) rs_7_4 hc1 (mm_Xk hX3 hk4 (by decide)) ?_
          refine mr_aload_n dd_Co_reachObject_34 rfl ?_
          refine mr_getr ff_Co_11 dd_Co_reachObject_35 rs_3_0 rfl hk6 ?_
          refine mr_aload_n dd_Co_reachObject_38 rfl ?_
          refine mr_geti ff_Co_17 dd_Co_reachObject_39 rs_3_1 rfl hk6 ?_
          refine mr_aload_n dd_Co_reachObject_42 rfl ?_
          obtain ⟨a7, ho8, h⟩ := h
          obtain ⟨hk9, h⟩ := h
          obtain ⟨j10, hj11, hm12, hl13, h⟩ := h
          obtain ⟨hv14, h⟩ := h
          refine mr_aast (t := 3) (E := "ProcessHeaps$HeapObject") dd_Co_reachObject_43 ho8 hk9 (fun _ => rfl) (by decide) (by decide) hj11 hm12 hl13 (fun q e => ⟨7, hv14 q e, cs_7⟩) ?_
          refine mr_aload_n dd_Co_reachObject_44 rfl ?_
          refine mr_dup dd_Co_reachObject_45 ?_
          refine mr_geti ff_Co_17 dd_Co_reachObject_46 rs_3_1 rfl hk6 ?_
          refine mr_iconst 1 dd_Co_reachObject_49 (by decide) ?_
          refine mr_iadd dd_Co_reachObject_50 ?_
          refine mr_puti ff_Co_17 fp_3 (Or.inl rfl) dd_Co_reachObject_51 (Or.inl (by decide +kernel)) rs_3_1 rfl hk6 ?_
          exact mr_return dd_Co_reachObject_54 rfl h
        · have h := h.2 hc25
          exact mr_return dd_Co_reachObject_28 rfl h
set_option maxHeartbeats 4000000 in
set_option maxRecDepth 100000 in
theorem sg_Co_reachNamedFromOutside {l : Launch} {G : mm_G} {K : Option mm_V → mm_M → Prop} {M : mm_M} {a0 : Nat} {xa : Int32} {ob : Option Nat}
    (h : mm_Z l G Y_Co_reachNamedFromOutside K M 0 0 2 [some (.inr (some a0)), some (.inl xa), some (.inr ob), some (.inl 0)] [] M) :
    mm_Ok l G yy_Co_reachNamedFromOutside Y_Co_reachNamedFromOutside [.inr (some a0), .inl xa, .inr ob] M K := by
  refine mm_go (by decide) rfl (fun q => by cases q) (Nat.le_of_ble_eq_true rfl) ?_
  show mm_Z l G Y_Co_reachNamedFromOutside K M 0 0 0 [some (.inr (some a0)), some (.inl xa), some (.inr ob), none] [] M
  refine mr_iconst 0 dd_Co_reachNamedFromOutside_0 (by decide) ?_
  refine mr_istore_n dd_Co_reachNamedFromOutside_1 (by decide) ?_
  show mm_Z l G Y_Co_reachNamedFromOutside K M 0 0 2 [some (.inr (some a0)), some (.inl xa), some (.inr ob), some (.inl 0)] [] M
  exact h
set_option maxHeartbeats 4000000 in
set_option maxRecDepth 100000 in
theorem sg_Co_reachNamedFromOutside_2 {l : Launch} {G : mm_G} {K : Option mm_V → mm_M → Prop} {M0 M : mm_M} {bc bs : Nat} {a0 : Nat} {y1 : Int32} {r2 : Option Nat} {y3 : Int32}
    (h : ∃ a1 : Nat, r2 = some a1 ∧ mm_k M a1 = 2 ∧ ∃ a6 : Nat, (mm_p M a1 1) = some a6 ∧ mm_k M a6 = 3 ∧ mm_Ok l G yy_AL_size Y_AL_size [.inr (some a6)] M (fun r M4 => mm_X M M4 → ∃ x9 : Int32, r = some (.inl x9) ∧ (x9 ≤ y3 → K none M4) ∧ (¬ x9 ≤ y3 → ∃ a12 : Nat, (mm_p M4 a1 1) = some a12 ∧ mm_k M4 a12 = 3 ∧ mm_Ok l G yy_AL_get Y_AL_get [.inr (some a12), .inl y3] M4 (fun r M10 => mm_X M4 M10 → ∃ o15 : Option Nat, r = some (.inr o15) ∧ (∀ q, o15 = some q → mm_k M10 q = 8) ∧ ∃ a19 : Nat, o15 = some a19 ∧ mm_k M10 a19 = 8 ∧ mm_Ok l G yy_Ob_hasAnyItem Y_Ob_hasAnyItem [.inr (some a19)] M10 (fun r M17 => mm_X M10 M17 → ∃ x22 : Int32, r = some (.inl x22) ∧ (x22 = 0 → mm_Z l G Y_Co_reachNamedFromOutside K M0 bc bs 2 [some (.inr (some a0)), some (.inl y1), some (.inr r2), some (.inl (y3 + 1))] [] M17) ∧ (¬ x22 = 0 → ∃ a25 : Nat, (mm_p M17 a1 1) = some a25 ∧ mm_k M17 a25 = 3 ∧ mm_Ok l G yy_AL_get Y_AL_get [.inr (some a25), .inl y3] M17 (fun r M23 => mm_X M17 M23 → ∃ o28 : Option Nat, r = some (.inr o28) ∧ (∀ q, o28 = some q → mm_k M23 q = 8) ∧ mm_k M23 a0 = 4 ∧ mm_Ok l G yy_Co_reachObject Y_Co_reachObject [.inr (some a0), .inl y1, .inr o28] M23 (fun r M30 => mm_X M23 M30 → r = none ∧ mm_Z l G Y_Co_reachNamedFromOutside K M0 bc bs 2 [some (.inr (some a0)), some (.inl y1), some (.inr r2), some (.inl (y3 + 1))] [] M30)))))))) :
    mm_Z l G Y_Co_reachNamedFromOutside K M0 bc bs 2 [some (.inr (some a0)), some (.inl y1), some (.inr r2), some (.inl y3)] [] M := by
  refine mr_iload_n dd_Co_reachNamedFromOutside_2 rfl ?_
  refine mr_aload_n dd_Co_reachNamedFromOutside_3 rfl ?_
  obtain ⟨a1, ho2, h⟩ := h
  obtain ⟨hk3, h⟩ := h
  refine mr_getr ff_Co_51 dd_Co_reachNamedFromOutside_4 rs_1_1 ho2 hk3 ?_
  obtain ⟨a6, ho7, h⟩ := h
  obtain ⟨hk8, h⟩ := h
  refine mr_callV0 (Yc := Y_AL_size) (M := M) (st := [.inl y3]) (vs := []) (ci := 2) fc_Co_55 iv_AL_size sv_AL_size dd_Co_reachNamedFromOutside_7 ⟨Nat.le_of_ble_eq_true rfl, Nat.le_of_ble_eq_true rfl⟩ (by decide) rfl rfl (Nat.le_of_ble_eq_true rfl) ho7 hk8 rfl rfl h (fun r M4 hX5 h => ?_)
  replace h := h hX5
  obtain ⟨x9, rfl, h⟩ := h
  show mm_Z l G Y_Co_reachNamedFromOutside K M0 bc bs 10 [some (.inr (some a0)), some (.inl y1), some (.inr r2), some (.inl y3)] [.inl x9, .inl y3] M4
  refine mr_icmp_ge 52 dd_Co_reachNamedFromOutside_10 (by decide) (fun hc10 => ?_) (fun hc10 => ?_)
  · have h := h.1 hc10
    exact mr_return dd_Co_reachNamedFromOutside_52 rfl h
  · have h := h.2 hc10
    refine mr_aload_n dd_Co_reachNamedFromOutside_13 rfl ?_
    refine mr_getr ff_Co_51 dd_Co_reachNamedFromOutside_14 rs_1_1 ho2 (mm_Xk hX5 hk3 (by decide)) ?_
    refine mr_iload_n dd_Co_reachNamedFromOutside_17 rfl ?_
    obtain ⟨a12, ho13, h⟩ := h
    obtain ⟨hk14, h⟩ := h
    refine mr_callV0 (Yc := Y_AL_get) (M := M4) (st := []) (vs := [.inl y3]) (ci := 2) fc_Co_61 iv_AL_get sv_AL_get dd_Co_reachNamedFromOutside_18 ⟨Nat.le_of_ble_eq_true rfl, Nat.le_of_ble_eq_true rfl⟩ (by decide) rfl rfl (Nat.le_of_ble_eq_true rfl) ho13 hk14 rfl rfl h (fun r M10 hX11 h => ?_)
    replace h := h hX11
    obtain ⟨o15, rfl, h⟩ := h
    show mm_Z l G Y_Co_reachNamedFromOutside K M0 bc bs 21 [some (.inr (some a0)), some (.inl y1), some (.inr r2), some (.inl y3)] [.inr o15] M10
    obtain ⟨hv16, h⟩ := h
    refine mr_cast (ci := 7) dd_Co_reachNamedFromOutside_21 tb_73 hv16 cs_7 ?_
    obtain ⟨a19, ho20, h⟩ := h
    obtain ⟨hk21, h⟩ := h
    refine mr_callV0 (Yc := Y_Ob_hasAnyItem) (M := M10) (st := []) (vs := []) (ci := 7) fc_Co_65 iv_Ob_hasAnyItem sv_Ob_hasAnyItem dd_Co_reachNamedFromOutside_24 ⟨Nat.le_of_ble_eq_true rfl, Nat.le_of_ble_eq_true rfl⟩ (by decide) rfl rfl (Nat.le_of_ble_eq_true rfl) ho20 hk21 rfl rfl h (fun r M17 hX18 h => ?_)
    replace h := h hX18
    obtain ⟨x22, rfl, h⟩ := h
    show mm_Z l G Y_Co_reachNamedFromOutside K M0 bc bs 27 [some (.inr (some a0)), some (.inl y1), some (.inr r2), some (.inl y3)] [.inl x22] M17
    refine mr_if_eq 46 dd_Co_reachNamedFromOutside_27 (by decide) (fun hc27 => ?_) (fun hc27 => ?_)
    · have h := h.1 hc27
      refine mr_iinc 1 dd_Co_reachNamedFromOutside_46 rfl (by decide) (by decide) ?_
      show mm_Z l G Y_Co_reachNamedFromOutside K M0 bc bs 49 [some (.inr (some a0)), some (.inl y1), some (.inr r2), some (.inl (y3 + 1))] [] M17
      refine mr_goto 2 dd_Co_reachNamedFromOutside_49 (by decide) ?_
      exact h
    · have h := h.2 hc27
      refine mr_aload_n dd_Co_reachNamedFromOutside_30 rfl ?_
      refine mr_iload_n dd_Co_reachNamedFromOutside_31 rfl ?_
      refine mr_aload_n dd_Co_reachNamedFromOutside_32 rfl ?_
      refine mr_getr ff_Co_51 dd_Co_reachNamedFromOutside_33 rs_1_1 ho2 (mm_Xk hX18 (mm_Xk hX11 (mm_Xk hX5 hk3 (by decide)) (by decide)) (by decide)) ?_
      refine mr_iload_n dd_Co_reachNamedFromOutside_36 rfl ?_
      obtain ⟨a25, ho26, h⟩ := h
      obtain ⟨hk27, h⟩ := h
      refine mr_callV0 (Yc := Y_AL_get) (M := M17) (st := [.inl y1, .inr (some a0)]) (vs := [.inl y3]) (ci := 2) fc_Co_61 iv_AL_get sv_AL_get dd_Co_reachNamedFromOutside_37 ⟨Nat.le_of_ble_eq_true rfl, Nat.le_of_ble_eq_true rfl⟩ (by decide) rfl rfl (Nat.le_of_ble_eq_true rfl) ho26 hk27 rfl rfl h (fun r M23 hX24 h => ?_)
      replace h := h hX24
      obtain ⟨o28, rfl, h⟩ := h
      show mm_Z l G Y_Co_reachNamedFromOutside K M0 bc bs 40 [some (.inr (some a0)), some (.inl y1), some (.inr r2), some (.inl y3)] [.inr o28, .inl y1, .inr (some a0)] M23
      obtain ⟨hv29, h⟩ := h
      refine mr_cast (ci := 7) dd_Co_reachNamedFromOutside_40 tb_73 hv29 cs_7 ?_
      obtain ⟨hk32, h⟩ := h
      refine mr_callV0 (Yc := Y_Co_reachObject) (M := M23) (st := []) (vs := [.inl y1, .inr o28]) (ci := 3) fc_Co_47 iv_Co_reachObject sv_Co_reachObject dd_Co_reachNamedFromOutside_43 ⟨Nat.le_of_ble_eq_true rfl, Nat.le_of_ble_eq_true rfl⟩ (by decide) rfl rfl (Nat.le_of_ble_eq_true rfl) rfl hk32 rfl rfl h (fun r M30 hX31 h => ?_)
      replace h := h hX31
      obtain ⟨rfl, h⟩ := h
      show mm_Z l G Y_Co_reachNamedFromOutside K M0 bc bs 46 [some (.inr (some a0)), some (.inl y1), some (.inr r2), some (.inl y3)] [] M30
      refine mr_iinc 1 dd_Co_reachNamedFromOutside_46 rfl (by decide) (by decide) ?_
      show mm_Z l G Y_Co_reachNamedFromOutside K M0 bc bs 49 [some (.inr (some a0)), some (.inl y1), some (.inr r2), some (.inl (y3 + 1))] [] M30
      refine mr_goto 2 dd_Co_reachNamedFromOutside_49 (by decide) ?_
      exact h
set_option maxHeartbeats 4000000 in
set_option maxRecDepth 100000 in
theorem sg_Co_followFields {l : Launch} {G : mm_G} {K : Option mm_V → mm_M → Prop} {M : mm_M} {a0 : Nat} {xa : Int32}
    (h : mm_Z l G Y_Co_followFields K M 0 0 2 [some (.inr (some a0)), some (.inl xa), some (.inl 0), none] [] M) :
    mm_Ok l G yy_Co_followFields Y_Co_followFields [.inr (some a0), .inl xa] M K := by
  refine mm_go (by decide) rfl (fun q => by cases q) (Nat.le_of_ble_eq_true rfl) ?_
  show mm_Z l G Y_Co_followFields K M 0 0 0 [some (.inr (some a0)), some (.inl xa), none, none] [] M
  refine mr_iconst 0 dd_Co_followFields_0 (by decide) ?_
  refine mr_istore_n dd_Co_followFields_1 (by decide) ?_
  show mm_Z l G Y_Co_followFields K M 0 0 2 [some (.inr (some a0)), some (.inl xa), some (.inl 0), none] [] M
  exact h
set_option maxHeartbeats 4000000 in
set_option maxRecDepth 100000 in
theorem sg_Co_followFields_2 {l : Launch} {G : mm_G} {K : Option mm_V → mm_M → Prop} {M0 M : mm_M} {bc bs : Nat} {a0 : Nat} {y1 : Int32} {y2 : Int32}
    (h : mm_k M a0 = 4 ∧ ((mm_i M a0 1) ≤ y2 → K none M) ∧ (¬ (mm_i M a0 1) ≤ y2 → (60 ≤ y2 → K none M) ∧ (¬ 60 ≤ y2 → mm_Z l G Y_Co_followFields K M0 bc bs 18 [some (.inr (some a0)), some (.inl y1), some (.inl y2), some (.inl 0)] [] M))) :
    mm_Z l G Y_Co_followFields K M0 bc bs 2 [some (.inr (some a0)), some (.inl y1), some (.inl y2), none] [] M := by
  refine mr_iload_n dd_Co_followFields_2 rfl ?_
  refine mr_aload_n dd_Co_followFields_3 rfl ?_
  obtain ⟨hk1, h⟩ := h
  refine mr_geti ff_Co_17 dd_Co_followFields_4 rs_3_1 rfl hk1 ?_
  refine mr_icmp_ge 51 dd_Co_followFields_7 (by decide) (fun hc7 => ?_) (fun hc7 => ?_)
  · have h := h.1 hc7
    exact mr_return dd_Co_followFields_51 rfl h
  · have h := h.2 hc7
    refine mr_iload_n dd_Co_followFields_10 rfl ?_
    refine mr_bipush 60 dd_Co_followFields_11 (by decide) ?_
    refine mr_icmp_ge 51 dd_Co_followFields_13 (by decide) (fun hc13 => ?_) (fun hc13 => ?_)
    · have h := h.1 hc13
      exact mr_return dd_Co_followFields_51 rfl h
    · have h := h.2 hc13
      refine mr_iconst 0 dd_Co_followFields_16 (by decide) ?_
      refine mr_istore_n dd_Co_followFields_17 (by decide) ?_
      show mm_Z l G Y_Co_followFields K M0 bc bs 18 [some (.inr (some a0)), some (.inl y1), some (.inl y2), some (.inl 0)] [] M
      exact h
set_option maxHeartbeats 4000000 in
set_option maxRecDepth 100000 in
theorem sg_Co_followFields_18 {l : Launch} {G : mm_G} {K : Option mm_V → mm_M → Prop} {M0 M : mm_M} {bc bs : Nat} {a0 : Nat} {y1 : Int32} {y2 : Int32} {y3 : Int32}
    (h : (3 ≤ y3 → mm_Z l G Y_Co_followFields K M0 bc bs 2 [some (.inr (some a0)), some (.inl y1), some (.inl (y2 + 1)), none] [] M) ∧ (¬ 3 ≤ y3 → mm_k M a0 = 4 ∧ ∃ a2 : Nat, (mm_p M a0 0) = some a2 ∧ mm_k M a2 = 103 ∧ ∃ j5 : Nat, y2 = nI j5 ∧ j5 < 2147483648 ∧ j5 < mm_l M a2 ∧ ∃ a9 : Nat, (mm_p M a2 j5) = some a9 ∧ mm_k M a9 = 8 ∧ ∃ a12 : Nat, (mm_p M a9 3) = some a12 ∧ mm_k M a12 = 103 ∧ ∃ j15 : Nat, y3 = nI j15 ∧ j15 < 2147483648 ∧ j15 < mm_l M a12 ∧ mm_Ok l G yy_Co_reachObject Y_Co_reachObject [.inr (some a0), .inl y1, .inr (mm_p M a12 j15)] M (fun r M19 => mm_X M M19 → r = none ∧ mm_Z l G Y_Co_followFields K M0 bc bs 18 [some (.inr (some a0)), some (.inl y1), some (.inl y2), some (.inl (y3 + 1))] [] M19))) :
    mm_Z l G Y_Co_followFields K M0 bc bs 18 [some (.inr (some a0)), some (.inl y1), some (.inl y2), some (.inl y3)] [] M := by
  refine mr_iload_n dd_Co_followFields_18 rfl ?_
  refine mr_iconst 3 dd_Co_followFields_19 (by decide) ?_
  refine mr_icmp_ge 45 dd_Co_followFields_20 (by decide) (fun hc20 => ?_) (fun hc20 => ?_)
  · have h := h.1 hc20
    refine mr_iinc 1 dd_Co_followFields_45 rfl (by decide) (by decide) ?_
    show mm_Z l G Y_Co_followFields K M0 bc bs 48 [some (.inr (some a0)), some (.inl y1), some (.inl (y2 + 1)), some (.inl y3)] [] M
    refine mr_goto 2 dd_Co_followFields_48 (by decide) ?_
    exact mm_fg (mm_leq (mm_le_s (mm_le_s (mm_le_s (mm_le_n mm_le_e))))) h
  · have h := h.2 hc20
    refine mr_aload_n dd_Co_followFields_23 rfl ?_
    refine mr_iload_n dd_Co_followFields_24 rfl ?_
    refine mr_aload_n dd_Co_followFields_25 rfl ?_
    obtain ⟨hk1, h⟩ := h
    refine mr_getr ff_Co_11 dd_Co_followFields_26 rs_3_0 rfl hk1 ?_
    refine mr_iload_n dd_Co_followFields_29 rfl ?_
    obtain ⟨a2, ho3, h⟩ := h
    obtain ⟨hk4, h⟩ := h
    obtain ⟨j5, hj6, hm7, hl8, h⟩ := h
    refine mr_aald (t := 3) dd_Co_followFields_30 ho3 hk4 (fun _ => rfl) (by decide) hj6 hm7 hl8 ?_
    obtain ⟨a9, ho10, h⟩ := h
    obtain ⟨hk11, h⟩ := h
    refine mr_getr ff_Co_69 dd_Co_followFields_31 rs_7_3 ho10 hk11 ?_
    refine mr_iload_n dd_Co_followFields_34 rfl ?_
    obtain ⟨a12, ho13, h⟩ := h
    obtain ⟨hk14, h⟩ := h
    obtain ⟨j15, hj16, hm17, hl18, h⟩ := h
    refine mr_aald (t := 3) dd_Co_followFields_35 ho13 hk14 (fun _ => rfl) (by decide) hj16 hm17 hl18 ?_
    refine mr_callV0 (Yc := Y_Co_reachObject) (M := M) (st := []) (vs := [.inl y1, .inr (mm_p M a12 j15)]) (ci := 3) fc_Co_47 iv_Co_reachObject sv_Co_reachObject dd_Co_followFields_36 ⟨Nat.le_of_ble_eq_true rfl, Nat.le_of_ble_eq_true rfl⟩ (by decide) rfl rfl (Nat.le_of_ble_eq_true rfl) rfl hk1 rfl rfl h (fun r M19 hX20 h => ?_)
    replace h := h hX20
    obtain ⟨rfl, h⟩ := h
    show mm_Z l G Y_Co_followFields K M0 bc bs 39 [some (.inr (some a0)), some (.inl y1), some (.inl y2), some (.inl y3)] [] M19
    refine mr_iinc 1 dd_Co_followFields_39 rfl (by decide) (by decide) ?_
    show mm_Z l G Y_Co_followFields K M0 bc bs 42 [some (.inr (some a0)), some (.inl y1), some (.inl y2), some (.inl (y3 + 1))] [] M19
    refine mr_goto 18 dd_Co_followFields_42 (by decide) ?_
    exact h
set_option maxHeartbeats 4000000 in
set_option maxRecDepth 100000 in
theorem sg_Co_loseItems {l : Launch} {G : mm_G} {K : Option mm_V → mm_M → Prop} {M : mm_M} {a0 : Nat} {xa : Int32} {ob : Option Nat}
    (h : mm_Z l G Y_Co_loseItems K M 0 0 2 [some (.inr (some a0)), some (.inl xa), some (.inr ob), some (.inl 0)] [] M) :
    mm_Ok l G yy_Co_loseItems Y_Co_loseItems [.inr (some a0), .inl xa, .inr ob] M K := by
  refine mm_go (by decide) rfl (fun q => by cases q) (Nat.le_of_ble_eq_true rfl) ?_
  show mm_Z l G Y_Co_loseItems K M 0 0 0 [some (.inr (some a0)), some (.inl xa), some (.inr ob), none] [] M
  refine mr_iconst 0 dd_Co_loseItems_0 (by decide) ?_
  refine mr_istore_n dd_Co_loseItems_1 (by decide) ?_
  show mm_Z l G Y_Co_loseItems K M 0 0 2 [some (.inr (some a0)), some (.inl xa), some (.inr ob), some (.inl 0)] [] M
  exact h
set_option maxHeartbeats 4000000 in
set_option maxRecDepth 100000 in
theorem sg_Co_loseItems_2 {l : Launch} {G : mm_G} {K : Option mm_V → mm_M → Prop} {M0 M : mm_M} {bc bs : Nat} {a0 : Nat} {y1 : Int32} {r2 : Option Nat} {y3 : Int32}
    (h : ∃ a1 : Nat, r2 = some a1 ∧ mm_k M a1 = 2 ∧ ∃ a6 : Nat, (mm_p M a1 1) = some a6 ∧ mm_k M a6 = 3 ∧ mm_Ok l G yy_AL_size Y_AL_size [.inr (some a6)] M (fun r M4 => mm_X M M4 → ∃ x9 : Int32, r = some (.inl x9) ∧ (x9 ≤ y3 → mm_Z l G Y_Co_loseItems K M0 bc bs 36 [some (.inr (some a0)), some (.inl y1), some (.inr r2), some (.inl 0)] [] M4) ∧ (¬ x9 ≤ y3 → ∃ a12 : Nat, (mm_p M4 a1 1) = some a12 ∧ mm_k M4 a12 = 3 ∧ mm_Ok l G yy_AL_get Y_AL_get [.inr (some a12), .inl y3] M4 (fun r M10 => mm_X M4 M10 → ∃ o15 : Option Nat, r = some (.inr o15) ∧ (∀ q, o15 = some q → mm_k M10 q = 8) ∧ ∃ a19 : Nat, o15 = some a19 ∧ mm_k M10 a19 = 8 ∧ mm_Ok l G yy_Ob_dropItem Y_Ob_dropItem [.inr (some a19), .inl y1] M10 (fun r M17 => mm_X M10 M17 → r = none ∧ mm_Z l G Y_Co_loseItems K M0 bc bs 2 [some (.inr (some a0)), some (.inl y1), some (.inr r2), some (.inl (y3 + 1))] [] M17))))) :
    mm_Z l G Y_Co_loseItems K M0 bc bs 2 [some (.inr (some a0)), some (.inl y1), some (.inr r2), some (.inl y3)] [] M := by
  refine mr_iload_n dd_Co_loseItems_2 rfl ?_
  refine mr_aload_n dd_Co_loseItems_3 rfl ?_
  obtain ⟨a1, ho2, h⟩ := h
  obtain ⟨hk3, h⟩ := h
  refine mr_getr ff_Co_51 dd_Co_loseItems_4 rs_1_1 ho2 hk3 ?_
  obtain ⟨a6, ho7, h⟩ := h
  obtain ⟨hk8, h⟩ := h
  refine mr_callV0 (Yc := Y_AL_size) (M := M) (st := [.inl y3]) (vs := []) (ci := 2) fc_Co_55 iv_AL_size sv_AL_size dd_Co_loseItems_7 ⟨Nat.le_of_ble_eq_true rfl, Nat.le_of_ble_eq_true rfl⟩ (by decide) rfl rfl (Nat.le_of_ble_eq_true rfl) ho7 hk8 rfl rfl h (fun r M4 hX5 h => ?_)
  replace h := h hX5
  obtain ⟨x9, rfl, h⟩ := h
  show mm_Z l G Y_Co_loseItems K M0 bc bs 10 [some (.inr (some a0)), some (.inl y1), some (.inr r2), some (.inl y3)] [.inl x9, .inl y3] M4
  refine mr_icmp_ge 34 dd_Co_loseItems_10 (by decide) (fun hc10 => ?_) (fun hc10 => ?_)
  · have h := h.1 hc10
    refine mr_iconst 0 dd_Co_loseItems_34 (by decide) ?_
    refine mr_istore_n dd_Co_loseItems_35 (by decide) ?_
    show mm_Z l G Y_Co_loseItems K M0 bc bs 36 [some (.inr (some a0)), some (.inl y1), some (.inr r2), some (.inl 0)] [] M4
    exact h
  · have h := h.2 hc10
    refine mr_aload_n dd_Co_loseItems_13 rfl ?_
    refine mr_getr ff_Co_51 dd_Co_loseItems_14 rs_1_1 ho2 (mm_Xk hX5 hk3 (by decide)) ?_
    refine mr_iload_n dd_Co_loseItems_17 rfl ?_
    obtain ⟨a12, ho13, h⟩ := h
    obtain ⟨hk14, h⟩ := h
    refine mr_callV0 (Yc := Y_AL_get) (M := M4) (st := []) (vs := [.inl y3]) (ci := 2) fc_Co_61 iv_AL_get sv_AL_get dd_Co_loseItems_18 ⟨Nat.le_of_ble_eq_true rfl, Nat.le_of_ble_eq_true rfl⟩ (by decide) rfl rfl (Nat.le_of_ble_eq_true rfl) ho13 hk14 rfl rfl h (fun r M10 hX11 h => ?_)
    replace h := h hX11
    obtain ⟨o15, rfl, h⟩ := h
    show mm_Z l G Y_Co_loseItems K M0 bc bs 21 [some (.inr (some a0)), some (.inl y1), some (.inr r2), some (.inl y3)] [.inr o15] M10
    obtain ⟨hv16, h⟩ := h
    refine mr_cast (ci := 7) dd_Co_loseItems_21 tb_73 hv16 cs_7 ?_
    refine mr_iload_n dd_Co_loseItems_24 rfl ?_
    obtain ⟨a19, ho20, h⟩ := h
    obtain ⟨hk21, h⟩ := h
    refine mr_callV0 (Yc := Y_Ob_dropItem) (M := M10) (st := []) (vs := [.inl y1]) (ci := 7) fc_Co_78 iv_Ob_dropItem sv_Ob_dropItem dd_Co_loseItems_25 ⟨Nat.le_of_ble_eq_true rfl, Nat.le_of_ble_eq_true rfl⟩ (by decide) rfl rfl (Nat.le_of_ble_eq_true rfl) ho20 hk21 rfl rfl h (fun r M17 hX18 h => ?_)
    replace h := h hX18
    obtain ⟨rfl, h⟩ := h
    show mm_Z l G Y_Co_loseItems K M0 bc bs 28 [some (.inr (some a0)), some (.inl y1), some (.inr r2), some (.inl y3)] [] M17
    refine mr_iinc 1 dd_Co_loseItems_28 rfl (by decide) (by decide) ?_
    show mm_Z l G Y_Co_loseItems K M0 bc bs 31 [some (.inr (some a0)), some (.inl y1), some (.inr r2), some (.inl (y3 + 1))] [] M17
    refine mr_goto 2 dd_Co_loseItems_31 (by decide) ?_
    exact h
set_option maxHeartbeats 4000000 in
set_option maxRecDepth 100000 in
theorem sg_Co_loseItems_36 {l : Launch} {G : mm_G} {K : Option mm_V → mm_M → Prop} {M0 M : mm_M} {bc bs : Nat} {a0 : Nat} {y1 : Int32} {r2 : Option Nat} {y3 : Int32}
    (h : mm_k M a0 = 4 ∧ ((mm_i M a0 1) ≤ y3 → K none M) ∧ (¬ (mm_i M a0 1) ≤ y3 → ∃ a2 : Nat, (mm_p M a0 0) = some a2 ∧ mm_k M a2 = 103 ∧ ∃ j5 : Nat, y3 = nI j5 ∧ j5 < 2147483648 ∧ j5 < mm_l M a2 ∧ ∃ a11 : Nat, (mm_p M a2 j5) = some a11 ∧ mm_k M a11 = 8 ∧ mm_Ok l G yy_Ob_addItemsForFields Y_Ob_addItemsForFields [.inr (some a11)] M (fun r M9 => mm_X M M9 → r = none ∧ mm_Z l G Y_Co_loseItems K M0 bc bs 36 [some (.inr (some a0)), some (.inl y1), some (.inr r2), some (.inl (y3 + 1))] [] M9))) :
    mm_Z l G Y_Co_loseItems K M0 bc bs 36 [some (.inr (some a0)), some (.inl y1), some (.inr r2), some (.inl y3)] [] M := by
  refine mr_iload_n dd_Co_loseItems_36 rfl ?_
  refine mr_aload_n dd_Co_loseItems_37 rfl ?_
  obtain ⟨hk1, h⟩ := h
  refine mr_geti ff_Co_17 dd_Co_loseItems_38 rs_3_1 rfl hk1 ?_
  refine mr_icmp_ge 59 dd_Co_loseItems_41 (by decide) (fun hc41 => ?_) (fun hc41 => ?_)
  · have h := h.1 hc41
    exact mr_return dd_Co_loseItems_59 rfl h
  · have h := h.2 hc41
    refine mr_aload_n dd_Co_loseItems_44 rfl ?_
    refine mr_getr ff_Co_11 dd_Co_loseItems_45 rs_3_0 rfl hk1 ?_
    refine mr_iload_n dd_Co_loseItems_48 rfl ?_
    obtain ⟨a2, ho3, h⟩ := h
    obtain ⟨hk4, h⟩ := h
    obtain ⟨j5, hj6, hm7, hl8, h⟩ := h
    refine mr_aald (t := 3) dd_Co_loseItems_49 ho3 hk4 (fun _ => rfl) (by decide) hj6 hm7 hl8 ?_
    obtain ⟨a11, ho12, h⟩ := h
    obtain ⟨hk13, h⟩ := h
    refine mr_callV0 (Yc := Y_Ob_addItemsForFields) (M := M) (st := []) (vs := []) (ci := 7) fc_Co_81 iv_Ob_addItemsForFields sv_Ob_addItemsForFields dd_Co_loseItems_50 ⟨Nat.le_of_ble_eq_true rfl, Nat.le_of_ble_eq_true rfl⟩ (by decide) rfl rfl (Nat.le_of_ble_eq_true rfl) ho12 hk13 rfl rfl h (fun r M9 hX10 h => ?_)
    replace h := h hX10
    obtain ⟨rfl, h⟩ := h
    show mm_Z l G Y_Co_loseItems K M0 bc bs 53 [some (.inr (some a0)), some (.inl y1), some (.inr r2), some (.inl y3)] [] M9
    refine mr_iinc 1 dd_Co_loseItems_53 rfl (by decide) (by decide) ?_
    show mm_Z l G Y_Co_loseItems K M0 bc bs 56 [some (.inr (some a0)), some (.inl y1), some (.inr r2), some (.inl (y3 + 1))] [] M9
    refine mr_goto 36 dd_Co_loseItems_56 (by decide) ?_
    exact h
set_option maxHeartbeats 4000000 in
set_option maxRecDepth 100000 in
theorem sg_Ob_addItemsForFields {l : Launch} {G : mm_G} {K : Option mm_V → mm_M → Prop} {M : mm_M} {a0 : Nat}
    (h : mm_Z l G Y_Ob_addItemsForFields K M 0 0 2 [some (.inr (some a0)), some (.inl 0)] [] M) :
    mm_Ok l G yy_Ob_addItemsForFields Y_Ob_addItemsForFields [.inr (some a0)] M K := by
  refine mm_go (by decide) rfl (fun q => by cases q) (Nat.le_of_ble_eq_true rfl) ?_
  show mm_Z l G Y_Ob_addItemsForFields K M 0 0 0 [some (.inr (some a0)), none] [] M
  refine mr_iconst 0 dd_Ob_addItemsForFields_0 (by decide) ?_
  refine mr_istore_n dd_Ob_addItemsForFields_1 (by decide) ?_
  show mm_Z l G Y_Ob_addItemsForFields K M 0 0 2 [some (.inr (some a0)), some (.inl 0)] [] M
  exact h
set_option maxHeartbeats 4000000 in
set_option maxRecDepth 100000 in
theorem sg_Ob_addItemsForFields_2 {l : Launch} {G : mm_G} {K : Option mm_V → mm_M → Prop} {M0 M : mm_M} {bc bs : Nat} {a0 : Nat} {y1 : Int32}
    (h : (3 ≤ y1 → K none M) ∧ (¬ 3 ≤ y1 → mm_k M a0 = 8 ∧ ∃ a2 : Nat, (mm_p M a0 3) = some a2 ∧ mm_k M a2 = 103 ∧ ∃ j5 : Nat, y1 = nI j5 ∧ j5 < 2147483648 ∧ j5 < mm_l M a2 ∧ mm_Ok l G yy_Ob_addItemFor Y_Ob_addItemFor [.inr (some a0), .inr (mm_p M a2 j5)] M (fun r M9 => mm_X M M9 → r = none ∧ mm_Z l G Y_Ob_addItemsForFields K M0 bc bs 2 [some (.inr (some a0)), some (.inl (y1 + 1))] [] M9))) :
    mm_Z l G Y_Ob_addItemsForFields K M0 bc bs 2 [some (.inr (some a0)), some (.inl y1)] [] M := by
  refine mr_iload_n dd_Ob_addItemsForFields_2 rfl ?_
  refine mr_iconst 3 dd_Ob_addItemsForFields_3 (by decide) ?_
  refine mr_icmp_ge 23 dd_Ob_addItemsForFields_4 (by decide) (fun hc4 => ?_) (fun hc4 => ?_)
  · have h := h.1 hc4
    exact mr_return dd_Ob_addItemsForFields_23 rfl h
  · have h := h.2 hc4
    refine mr_aload_n dd_Ob_addItemsForFields_7 rfl ?_
    refine mr_aload_n dd_Ob_addItemsForFields_8 rfl ?_
    obtain ⟨hk1, h⟩ := h
    refine mr_getr ff_Ob_11 dd_Ob_addItemsForFields_9 rs_7_3 rfl hk1 ?_
    refine mr_iload_n dd_Ob_addItemsForFields_12 rfl ?_
    obtain ⟨a2, ho3, h⟩ := h
    obtain ⟨hk4, h⟩ := h
    obtain ⟨j5, hj6, hm7, hl8, h⟩ := h
    refine mr_aald (t := 3) dd_Ob_addItemsForFields_13 ho3 hk4 (fun _ => rfl) (by decide) hj6 hm7 hl8 ?_
    refine mr_callV0 (Yc := Y_Ob_addItemFor) (M := M) (st := []) (vs := [.inr (mm_p M a2 j5)]) (ci := 7) fc_Ob_38 iv_Ob_addItemFor sv_Ob_addItemFor dd_Ob_addItemsForFields_14 ⟨Nat.le_of_ble_eq_true rfl, Nat.le_of_ble_eq_true rfl⟩ (by decide) rfl rfl (Nat.le_of_ble_eq_true rfl) rfl hk1 rfl rfl h (fun r M9 hX10 h => ?_)
    replace h := h hX10
    obtain ⟨rfl, h⟩ := h
    show mm_Z l G Y_Ob_addItemsForFields K M0 bc bs 17 [some (.inr (some a0)), some (.inl y1)] [] M9
    refine mr_iinc 1 dd_Ob_addItemsForFields_17 rfl (by decide) (by decide) ?_
    show mm_Z l G Y_Ob_addItemsForFields K M0 bc bs 20 [some (.inr (some a0)), some (.inl (y1 + 1))] [] M9
    refine mr_goto 2 dd_Ob_addItemsForFields_20 (by decide) ?_
    exact h
set_option maxHeartbeats 4000000 in
set_option maxRecDepth 100000 in
theorem sg_Pr_holdsObjectOf {l : Launch} {G : mm_G} {K : Option mm_V → mm_M → Prop} {M : mm_M} {a0 : Nat} {xa : Int32}
    (h : mm_Z l G Y_Pr_holdsObjectOf K M 0 0 2 [some (.inr (some a0)), some (.inl xa), some (.inl 0), none] [] M) :
    mm_Ok l G yy_Pr_holdsObjectOf Y_Pr_holdsObjectOf [.inr (some a0), .inl xa] M K := by
  refine mm_go (by decide) rfl (fun q => by cases q) (Nat.le_of_ble_eq_true rfl) ?_
  show mm_Z l G Y_Pr_holdsObjectOf K M 0 0 0 [some (.inr (some a0)), some (.inl xa), none, none] [] M
  refine mr_iconst 0 dd_Pr_holdsObjectOf_0 (by decide) ?_
  refine mr_istore_n dd_Pr_holdsObjectOf_1 (by decide) ?_
  show mm_Z l G Y_Pr_holdsObjectOf K M 0 0 2 [some (.inr (some a0)), some (.inl xa), some (.inl 0), none] [] M
  exact h
set_option maxHeartbeats 4000000 in
set_option maxRecDepth 100000 in
theorem sg_Pr_holdsObjectOf_2 {l : Launch} {G : mm_G} {K : Option mm_V → mm_M → Prop} {M0 M : mm_M} {bc bs : Nat} {a0 : Nat} {y1 : Int32} {y2 : Int32}
    (h : (4 ≤ y2 → K (some (.inl 0)) M) ∧ (¬ 4 ≤ y2 → mm_k M a0 = 6 ∧ ∃ a2 : Nat, (mm_p M a0 4) = some a2 ∧ mm_k M a2 = 103 ∧ ∃ j5 : Nat, y2 = nI j5 ∧ j5 < 2147483648 ∧ j5 < mm_l M a2 ∧ ((mm_p M a2 j5) = none → mm_Z l G Y_Pr_holdsObjectOf K M0 bc bs 2 [some (.inr (some a0)), some (.inl y1), some (.inl (y2 + 1)), none] [] M) ∧ (∀ a9 : Nat, (mm_p M a2 j5) = some a9 → mm_k M a9 = 8 ∧ mm_Ok l G yy_Ob_heapNumber Y_Ob_heapNumber [.inr (some a9)] M (fun r M10 => mm_X M M10 → ∃ x13 : Int32, r = some (.inl x13) ∧ (¬ x13 = y1 → mm_Z l G Y_Pr_holdsObjectOf K M0 bc bs 2 [some (.inr (some a0)), some (.inl y1), some (.inl (y2 + 1)), none] [] M10) ∧ (x13 = y1 → K (some (.inl 1)) M10))))) :
    mm_Z l G Y_Pr_holdsObjectOf K M0 bc bs 2 [some (.inr (some a0)), some (.inl y1), some (.inl y2), none] [] M := by
  refine mr_iload_n dd_Pr_holdsObjectOf_2 rfl ?_
  refine mr_iconst 4 dd_Pr_holdsObjectOf_3 (by decide) ?_
  refine mr_icmp_ge 34 dd_Pr_holdsObjectOf_4 (by decide) (fun hc4 => ?_) (fun hc4 => ?_)
  · have h := h.1 hc4
    refine mr_iconst 0 dd_Pr_holdsObjectOf_34 (by decide) ?_
    exact mr_zreturn dd_Pr_holdsObjectOf_35 rfl (Or.inl rfl) h
  · have h := h.2 hc4
    refine mr_aload_n dd_Pr_holdsObjectOf_7 rfl ?_
    obtain ⟨hk1, h⟩ := h
    refine mr_getr ff_Pr_11 dd_Pr_holdsObjectOf_8 rs_5_4 rfl hk1 ?_
    refine mr_iload_n dd_Pr_holdsObjectOf_11 rfl ?_
    obtain ⟨a2, ho3, h⟩ := h
    obtain ⟨hk4, h⟩ := h
    obtain ⟨j5, hj6, hm7, hl8, h⟩ := h
    refine mr_aald (t := 3) dd_Pr_holdsObjectOf_12 ho3 hk4 (fun _ => rfl) (by decide) hj6 hm7 hl8 ?_
    refine mr_astore_n dd_Pr_holdsObjectOf_13 (by decide) ?_
    show mm_Z l G Y_Pr_holdsObjectOf K M0 bc bs 14 [some (.inr (some a0)), some (.inl y1), some (.inl y2), some (.inr (mm_p M a2 j5))] [] M
    refine mr_aload_n dd_Pr_holdsObjectOf_14 rfl ?_
    refine mr_ifnull 28 dd_Pr_holdsObjectOf_15 (by decide) (fun hc15 => ?_) (fun a9 hc15 => ?_)
    · have h := h.1 hc15
      refine mr_iinc 1 dd_Pr_holdsObjectOf_28 rfl (by decide) (by decide) ?_
      show mm_Z l G Y_Pr_holdsObjectOf K M0 bc bs 31 [some (.inr (some a0)), some (.inl y1), some (.inl (y2 + 1)), some (.inr (mm_p M a2 j5))] [] M
      refine mr_goto 2 dd_Pr_holdsObjectOf_31 (by decide) ?_
      exact mm_fg (mm_leq (mm_le_s (mm_le_s (mm_le_s (mm_le_n mm_le_e))))) h
    · have h := h.2 a9 hc15
      refine mr_aload_n dd_Pr_holdsObjectOf_18 rfl ?_
      obtain ⟨hk12, h⟩ := h
      refine mr_callV0 (Yc := Y_Ob_heapNumber) (M := M) (st := []) (vs := []) (ci := 7) fc_Pr_44 iv_Ob_heapNumber sv_Ob_heapNumber dd_Pr_holdsObjectOf_19 ⟨Nat.le_of_ble_eq_true rfl, Nat.le_of_ble_eq_true rfl⟩ (by decide) rfl rfl (Nat.le_of_ble_eq_true rfl) hc15 hk12 rfl rfl h (fun r M10 hX11 h => ?_)
      replace h := h hX11
      obtain ⟨x13, rfl, h⟩ := h
      show mm_Z l G Y_Pr_holdsObjectOf K M0 bc bs 22 [some (.inr (some a0)), some (.inl y1), some (.inl y2), some (.inr (mm_p M a2 j5))] [.inl x13] M10
      refine mr_iload_n dd_Pr_holdsObjectOf_22 rfl ?_
      refine mr_icmp_ne 28 dd_Pr_holdsObjectOf_23 (by decide) (fun hc23 => ?_) (fun hc23 => ?_)
      · have h := h.1 hc23
        refine mr_iinc 1 dd_Pr_holdsObjectOf_28 rfl (by decide) (by decide) ?_
        show mm_Z l G Y_Pr_holdsObjectOf K M0 bc bs 31 [some (.inr (some a0)), some (.inl y1), some (.inl (y2 + 1)), some (.inr (mm_p M a2 j5))] [] M10
        refine mr_goto 2 dd_Pr_holdsObjectOf_31 (by decide) ?_
        exact mm_fg (mm_leq (mm_le_s (mm_le_s (mm_le_s (mm_le_n mm_le_e))))) h
      · have h := h.2 hc23
        refine mr_iconst 1 dd_Pr_holdsObjectOf_26 (by decide) ?_
        exact mr_zreturn dd_Pr_holdsObjectOf_27 rfl (Or.inr rfl) h
set_option maxHeartbeats 4000000 in
set_option maxRecDepth 100000 in
theorem sg_Li_init {l : Launch} {G : mm_G} {K : Option mm_V → mm_M → Prop} {M : mm_M} {a0 : Nat}
    (h : ∀ q1, q1 = mm_z M → mm_k (mm_nw M 100 8) a0 = 5 ∧ ∀ q4, q4 = mm_z (mm_sp (mm_nw M 100 8) a0 0 (some q1)) → mm_k (mm_nw (mm_sp (mm_nw M 100 8) a0 0 (some q1)) 100 8) a0 = 5 ∧ ∀ q7, q7 = mm_z (mm_sp (mm_nw (mm_sp (mm_nw M 100 8) a0 0 (some q1)) 100 8) a0 1 (some q4)) → mm_k (mm_nw (mm_sp (mm_nw (mm_sp (mm_nw M 100 8) a0 0 (some q1)) 100 8) a0 1 (some q4)) 101 8) a0 = 5 ∧ K none (mm_sp (mm_nw (mm_sp (mm_nw (mm_sp (mm_nw M 100 8) a0 0 (some q1)) 100 8) a0 1 (some q4)) 101 8) a0 2 (some q7))) :
    mm_Ok l G yy_Li_init Y_Li_init [.inr (some a0)] M K := by
  refine mm_go (by decide) rfl (fun _ => rfl) (Nat.le_of_ble_eq_true rfl) ?_
  show mm_Z l G Y_Li_init K M 3 24 0 [some (.inr (some a0))] [] M
  refine mr_aload_n dd_Li_init_0 rfl ?_
  refine mr_obji dd_Li_init_1 tb_87 tb_24 tb_25 ⟨Nat.le_of_ble_eq_true rfl, Nat.le_of_ble_eq_true rfl⟩ rfl ?_
  refine mr_aload_n dd_Li_init_4 rfl ?_
  refine mr_bipush 8 dd_Li_init_5 (by decide) ?_
  refine mr_newa (t := 0) (n := 8) dd_Li_init_7 rfl tb_101 (Or.inl ⟨rfl, rfl⟩) rfl (by decide) ?_
  generalize hq2 : mm_z M = q1
  have h := h q1 hq2.symm
  obtain ⟨hk3, h⟩ := h
  refine mr_putr ff_Li_9 fp_4 (Or.inr ⟨rfl, rfl, tb_88⟩) dd_Li_init_9 (ty := tt4 0) (by decide +kernel) (Or.inr ⟨_, rfl⟩) rs_4_0 rfl hk3 ?_
  refine mr_aload_n dd_Li_init_12 rfl ?_
  refine mr_bipush 8 dd_Li_init_13 (by decide) ?_
  refine mr_newa (t := 0) (n := 8) dd_Li_init_15 rfl tb_101 (Or.inl ⟨rfl, rfl⟩) rfl (by decide) ?_
  generalize hq5 : mm_z (mm_sp (mm_nw M 100 8) a0 0 (some q1)) = q4
  have h := h q4 hq5.symm
  obtain ⟨hk6, h⟩ := h
  refine mr_putr ff_Li_15 fp_4 (Or.inr ⟨rfl, rfl, tb_90⟩) dd_Li_init_17 (ty := tt4 1) (by decide +kernel) (Or.inr ⟨_, rfl⟩) rs_4_1 rfl hk6 ?_
  refine mr_aload_n dd_Li_init_20 rfl ?_
  refine mr_bipush 8 dd_Li_init_21 (by decide) ?_
  refine mr_newa (t := 1) (n := 8) dd_Li_init_23 rfl tb_102 (Or.inr ⟨rfl, rfl⟩) rfl (by decide) ?_
  generalize hq8 : mm_z (mm_sp (mm_nw (mm_sp (mm_nw M 100 8) a0 0 (some q1)) 100 8) a0 1 (some q4)) = q7
  have h := h q7 hq8.symm
  obtain ⟨hk9, h⟩ := h
  refine mr_putr ff_Li_18 fp_4 (Or.inr ⟨rfl, rfl, tb_92⟩) dd_Li_init_25 (ty := tt4 2) (by decide +kernel) (Or.inr ⟨_, rfl⟩) rs_4_2 rfl hk9 ?_
  exact mr_return dd_Li_init_28 rfl h
set_option maxHeartbeats 4000000 in
set_option maxRecDepth 100000 in
theorem sg_Li_reckon {l : Launch} {G : mm_G} {K : Option mm_V → mm_M → Prop} {M : mm_M} {a0 : Nat} {oa : Option Nat} {ob : Option Nat}
    (h : mm_k M a0 = 5 ∧ mm_Ok l G yy_Li_reckonPayments Y_Li_reckonPayments [.inr (some a0), .inr oa, .inr ob] M (fun r M1 => mm_X M M1 → r = none ∧ mm_Ok l G yy_Li_addChildren Y_Li_addChildren [.inr (some a0), .inr oa] M1 (fun r M4 => mm_X M1 M4 → r = none ∧ mm_Ok l G yy_Li_reckonSpare Y_Li_reckonSpare [.inr (some a0), .inr oa] M4 (fun r M6 => mm_X M4 M6 → r = none ∧ K none M6)))) :
    mm_Ok l G yy_Li_reckon Y_Li_reckon [.inr (some a0), .inr oa, .inr ob] M K := by
  refine mm_go (by decide) rfl (fun q => by cases q) (Nat.le_of_ble_eq_true rfl) ?_
  show mm_Z l G Y_Li_reckon K M 0 0 0 [some (.inr (some a0)), some (.inr oa), some (.inr ob)] [] M
  refine mr_aload_n dd_Li_reckon_0 rfl ?_
  refine mr_aload_n dd_Li_reckon_1 rfl ?_
  refine mr_aload_n dd_Li_reckon_2 rfl ?_
  obtain ⟨hk3, h⟩ := h
  refine mr_callV0 (Yc := Y_Li_reckonPayments) (M := M) (st := []) (vs := [.inr oa, .inr ob]) (ci := 4) fc_Li_22 iv_Li_reckonPayments sv_Li_reckonPayments dd_Li_reckon_3 ⟨Nat.le_of_ble_eq_true rfl, Nat.le_of_ble_eq_true rfl⟩ (by decide) rfl rfl (Nat.le_of_ble_eq_true rfl) rfl hk3 rfl rfl h (fun r M1 hX2 h => ?_)
  replace h := h hX2
  obtain ⟨rfl, h⟩ := h
  show mm_Z l G Y_Li_reckon K M 0 0 6 [some (.inr (some a0)), some (.inr oa), some (.inr ob)] [] M1
  refine mr_aload_n dd_Li_reckon_6 rfl ?_
  refine mr_aload_n dd_Li_reckon_7 rfl ?_
  refine mr_callV0 (Yc := Y_Li_addChildren) (M := M1) (st := []) (vs := [.inr oa]) (ci := 4) fc_Li_26 iv_Li_addChildren sv_Li_addChildren dd_Li_reckon_8 ⟨Nat.le_of_ble_eq_true rfl, Nat.le_of_ble_eq_true rfl⟩ (by decide) rfl rfl (Nat.le_of_ble_eq_true rfl) rfl (mm_Xk hX2 hk3 (by decide)) rfl rfl h (fun r M4 hX5 h => ?_)
  replace h := h hX5
  obtain ⟨rfl, h⟩ := h
  show mm_Z l G Y_Li_reckon K M 0 0 11 [some (.inr (some a0)), some (.inr oa), some (.inr ob)] [] M4
  refine mr_aload_n dd_Li_reckon_11 rfl ?_
  refine mr_aload_n dd_Li_reckon_12 rfl ?_
  refine mr_callV0 (Yc := Y_Li_reckonSpare) (M := M4) (st := []) (vs := [.inr oa]) (ci := 4) fc_Li_30 iv_Li_reckonSpare sv_Li_reckonSpare dd_Li_reckon_13 ⟨Nat.le_of_ble_eq_true rfl, Nat.le_of_ble_eq_true rfl⟩ (by decide) rfl rfl (Nat.le_of_ble_eq_true rfl) rfl (mm_Xk hX5 (mm_Xk hX2 hk3 (by decide)) (by decide)) rfl rfl h (fun r M6 hX7 h => ?_)
  replace h := h hX7
  obtain ⟨rfl, h⟩ := h
  show mm_Z l G Y_Li_reckon K M 0 0 16 [some (.inr (some a0)), some (.inr oa), some (.inr ob)] [] M6
  exact mr_return dd_Li_reckon_16 rfl h
set_option maxHeartbeats 4000000 in
set_option maxRecDepth 100000 in
theorem sg_Li_reckonPayments {l : Launch} {G : mm_G} {K : Option mm_V → mm_M → Prop} {M : mm_M} {a0 : Nat} {oa : Option Nat} {ob : Option Nat}
    (h : mm_Z l G Y_Li_reckonPayments K M 0 0 2 [some (.inr (some a0)), some (.inr oa), some (.inr ob), some (.inl 0), none] [] M) :
    mm_Ok l G yy_Li_reckonPayments Y_Li_reckonPayments [.inr (some a0), .inr oa, .inr ob] M K := by
  refine mm_go (by decide) rfl (fun q => by cases q) (Nat.le_of_ble_eq_true rfl) ?_
  show mm_Z l G Y_Li_reckonPayments K M 0 0 0 [some (.inr (some a0)), some (.inr oa), some (.inr ob), none, none] [] M
  refine mr_iconst 0 dd_Li_reckonPayments_0 (by decide) ?_
  refine mr_istore_n dd_Li_reckonPayments_1 (by decide) ?_
  show mm_Z l G Y_Li_reckonPayments K M 0 0 2 [some (.inr (some a0)), some (.inr oa), some (.inr ob), some (.inl 0), none] [] M
  exact h
set_option maxHeartbeats 4000000 in
set_option maxRecDepth 100000 in
theorem sg_Li_reckonPayments_2 {l : Launch} {G : mm_G} {K : Option mm_V → mm_M → Prop} {M0 M : mm_M} {bc bs : Nat} {a0 : Nat} {r1 : Option Nat} {r2 : Option Nat} {y3 : Int32}
    (h : (8 ≤ y3 → K none M) ∧ (¬ 8 ≤ y3 → ∃ a1 : Nat, r1 = some a1 ∧ mm_k M a1 = 104 ∧ ∃ j4 : Nat, y3 = nI j4 ∧ j4 < 2147483648 ∧ j4 < mm_l M a1 ∧ mm_k M a0 = 5 ∧ ((mm_p M a1 j4) = none → ∃ a10 : Nat, (mm_p M a0 0) = some a10 ∧ mm_k M a10 = 100 ∧ ∃ j13 : Nat, y3 = nI j13 ∧ j13 < 2147483648 ∧ j13 < mm_l M a10 ∧ ((mm_p M a1 j4) = none → ∃ a18 : Nat, (mm_p (mm_si M a10 j13 0) a0 2) = some a18 ∧ mm_k (mm_si M a10 j13 0) a18 = 101 ∧ ∃ j21 : Nat, y3 = nI j21 ∧ j21 < 2147483648 ∧ j21 < mm_l (mm_si M a10 j13 0) a18 ∧ mm_Z l G Y_Li_reckonPayments K M0 bc bs 2 [some (.inr (some a0)), some (.inr r1), some (.inr r2), some (.inl (y3 + 1)), none] [] (mm_si (mm_si M a10 j13 0) a18 j21 0)) ∧ (∀ a17 : Nat, (mm_p M a1 j4) = some a17 → (y3 = 0 → ∃ a25 : Nat, (mm_p (mm_si M a10 j13 0) a0 2) = some a25 ∧ mm_k (mm_si M a10 j13 0) a25 = 101 ∧ ∃ j28 : Nat, y3 = nI j28 ∧ j28 < 2147483648 ∧ j28 < mm_l (mm_si M a10 j13 0) a25 ∧ mm_Z l G Y_Li_reckonPayments K M0 bc bs 2 [some (.inr (some a0)), some (.inr r1), some (.inr r2), some (.inl (y3 + 1)), none] [] (mm_si (mm_si M a10 j13 0) a25 j28 1)) ∧ (¬ y3 = 0 → mm_k (mm_si M a10 j13 0) a17 = 6 ∧ mm_Ok l G yy_Pr_isLiving Y_Pr_isLiving [.inr (some a17)] (mm_si M a10 j13 0) (fun r M32 => mm_X (mm_si M a10 j13 0) M32 → ∃ x35 : Int32, r = some (.inl x35) ∧ (¬ x35 = 0 → ∃ a36 : Nat, (mm_p (mm_si M a10 j13 0) a0 2) = some a36 ∧ mm_k M32 a36 = 101 ∧ ∃ j39 : Nat, y3 = nI j39 ∧ j39 < 2147483648 ∧ j39 < mm_l M32 a36 ∧ mm_Z l G Y_Li_reckonPayments K M0 bc bs 2 [some (.inr (some a0)), some (.inr r1), some (.inr r2), some (.inl (y3 + 1)), none] [] (mm_si M32 a36 j39 1)) ∧ (x35 = 0 → ∃ a43 : Nat, (mm_p M32 a0 0) = some a43 ∧ mm_k M32 a43 = 100 ∧ ∃ j46 : Nat, y3 = nI j46 ∧ j46 < 2147483648 ∧ j46 < mm_l M32 a43 ∧ ((mm_i M32 a43 j46) ≤ 0 → ∃ a50 : Nat, (mm_p (mm_si M a10 j13 0) a0 2) = some a50 ∧ mm_k M32 a50 = 101 ∧ ∃ j53 : Nat, y3 = nI j53 ∧ j53 < 2147483648 ∧ j53 < mm_l M32 a50 ∧ mm_Z l G Y_Li_reckonPayments K M0 bc bs 2 [some (.inr (some a0)), some (.inr r1), some (.inr r2), some (.inl (y3 + 1)), none] [] (mm_si M32 a50 j53 0)) ∧ (¬ (mm_i M32 a43 j46) ≤ 0 → ∃ a57 : Nat, (mm_p (mm_si M a10 j13 0) a0 2) = some a57 ∧ mm_k M32 a57 = 101 ∧ ∃ j60 : Nat, y3 = nI j60 ∧ j60 < 2147483648 ∧ j60 < mm_l M32 a57 ∧ mm_Z l G Y_Li_reckonPayments K M0 bc bs 2 [some (.inr (some a0)), some (.inr r1), some (.inr r2), some (.inl (y3 + 1)), none] [] (mm_si M32 a57 j60 1))))))) ∧ (∀ a9 : Nat, (mm_p M a1 j4) = some a9 → ∃ a66 : Nat, r2 = some a66 ∧ mm_k M a66 = 2 ∧ mm_Ok l G yy_Me_countPaidPages Y_Me_countPaidPages [.inr (some a66), .inr (mm_p M a1 j4)] M (fun r M64 => mm_X M M64 → ∃ x69 : Int32, r = some (.inl x69) ∧ ∃ a70 : Nat, (mm_p M a0 0) = some a70 ∧ mm_k M64 a70 = 100 ∧ ∃ j73 : Nat, y3 = nI j73 ∧ j73 < 2147483648 ∧ j73 < mm_l M64 a70 ∧ ((mm_p M a1 j4) = none → ∃ a78 : Nat, (mm_p (mm_si M64 a70 j73 x69) a0 2) = some a78 ∧ mm_k (mm_si M64 a70 j73 x69) a78 = 101 ∧ ∃ j81 : Nat, y3 = nI j81 ∧ j81 < 2147483648 ∧ j81 < mm_l (mm_si M64 a70 j73 x69) a78 ∧ mm_Z l G Y_Li_reckonPayments K M0 bc bs 2 [some (.inr (some a0)), some (.inr r1), some (.inr r2), some (.inl (y3 + 1)), none] [] (mm_si (mm_si M64 a70 j73 x69) a78 j81 0)) ∧ (∀ a77 : Nat, (mm_p M a1 j4) = some a77 → (y3 = 0 → ∃ a85 : Nat, (mm_p (mm_si M64 a70 j73 x69) a0 2) = some a85 ∧ mm_k (mm_si M64 a70 j73 x69) a85 = 101 ∧ ∃ j88 : Nat, y3 = nI j88 ∧ j88 < 2147483648 ∧ j88 < mm_l (mm_si M64 a70 j73 x69) a85 ∧ mm_Z l G Y_Li_reckonPayments K M0 bc bs 2 [some (.inr (some a0)), some (.inr r1), some (.inr r2), some (.inl (y3 + 1)), none] [] (mm_si (mm_si M64 a70 j73 x69) a85 j88 1)) ∧ (¬ y3 = 0 → mm_k (mm_si M64 a70 j73 x69) a77 = 6 ∧ mm_Ok l G yy_Pr_isLiving Y_Pr_isLiving [.inr (some a77)] (mm_si M64 a70 j73 x69) (fun r M92 => mm_X (mm_si M64 a70 j73 x69) M92 → ∃ x95 : Int32, r = some (.inl x95) ∧ (¬ x95 = 0 → ∃ a96 : Nat, (mm_p (mm_si M64 a70 j73 x69) a0 2) = some a96 ∧ mm_k M92 a96 = 101 ∧ ∃ j99 : Nat, y3 = nI j99 ∧ j99 < 2147483648 ∧ j99 < mm_l M92 a96 ∧ mm_Z l G Y_Li_reckonPayments K M0 bc bs 2 [some (.inr (some a0)), some (.inr r1), some (.inr r2), some (.inl (y3 + 1)), none] [] (mm_si M92 a96 j99 1)) ∧ (x95 = 0 → ∃ a103 : Nat, (mm_p M92 a0 0) = some a103 ∧ mm_k M92 a103 = 100 ∧ ∃ j106 : Nat, y3 = nI j106 ∧ j106 < 2147483648 ∧ j106 < mm_l M92 a103 ∧ ((mm_i M92 a103 j106) ≤ 0 → ∃ a110 : Nat, (mm_p (mm_si M64 a70 j73 x69) a0 2) = some a110 ∧ mm_k M92 a110 = 101 ∧ ∃ j113 : Nat, y3 = nI j113 ∧ j113 < 2147483648 ∧ j113 < mm_l M92 a110 ∧ mm_Z l G Y_Li_reckonPayments K M0 bc bs 2 [some (.inr (some a0)), some (.inr r1), some (.inr r2), some (.inl (y3 + 1)), none] [] (mm_si M92 a110 j113 0)) ∧ (¬ (mm_i M92 a103 j106) ≤ 0 → ∃ a117 : Nat, (mm_p (mm_si M64 a70 j73 x69) a0 2) = some a117 ∧ mm_k M92 a117 = 101 ∧ ∃ j120 : Nat, y3 = nI j120 ∧ j120 < 2147483648 ∧ j120 < mm_l M92 a117 ∧ mm_Z l G Y_Li_reckonPayments K M0 bc bs 2 [some (.inr (some a0)), some (.inr r1), some (.inr r2), some (.inl (y3 + 1)), none] [] (mm_si M92 a117 j120 1)))))))))) :
    mm_Z l G Y_Li_reckonPayments K M0 bc bs 2 [some (.inr (some a0)), some (.inr r1), some (.inr r2), some (.inl y3), none] [] M := by
  refine mr_iload_n dd_Li_reckonPayments_2 rfl ?_
  refine mr_bipush 8 dd_Li_reckonPayments_3 (by decide) ?_
  refine mr_icmp_ge 77 dd_Li_reckonPayments_5 (by decide) (fun hc5 => ?_) (fun hc5 => ?_)
  · have h := h.1 hc5
    exact mr_return dd_Li_reckonPayments_77 rfl h
  · have h := h.2 hc5
    refine mr_aload_n dd_Li_reckonPayments_8 rfl ?_
    refine mr_iload_n dd_Li_reckonPayments_9 rfl ?_
    obtain ⟨a1, ho2, h⟩ := h
    obtain ⟨hk3, h⟩ := h
    obtain ⟨j4, hj5, hm6, hl7, h⟩ := h
    refine mr_aald (t := 4) dd_Li_reckonPayments_10 ho2 hk3 (fun _ => rfl) (by decide) hj5 hm6 hl7 ?_
    refine mr_astore dd_Li_reckonPayments_11 (by decide) ?_
    show mm_Z l G Y_Li_reckonPayments K M0 bc bs 13 [some (.inr (some a0)), some (.inr r1), some (.inr r2), some (.inl y3), some (.inr (mm_p M a1 j4))] [] M
    refine mr_aload_n dd_Li_reckonPayments_13 rfl ?_
    obtain ⟨hk8, h⟩ := h
    refine mr_getr ff_Li_9 dd_Li_reckonPayments_14 rs_4_0 rfl hk8 ?_
    refine mr_iload_n dd_Li_reckonPayments_17 rfl ?_
    refine mr_aload dd_Li_reckonPayments_18 rfl ?_
    refine mr_ifnonnull 27 dd_Li_reckonPayments_20 (by decide) (fun a9 hc20 => ?_) (fun hc20 => ?_)
    · have h := h.2 a9 hc20
      refine mr_aload_n dd_Li_reckonPayments_27 rfl ?_
      refine mr_aload dd_Li_reckonPayments_28 rfl ?_
      obtain ⟨a66, ho67, h⟩ := h
      obtain ⟨hk68, h⟩ := h
      refine mr_callV0 (Yc := Y_Me_countPaidPages) (M := M) (st := [.inl y3, .inr (mm_p M a0 0)]) (vs := [.inr (mm_p M a1 j4)]) (ci := 1) fc_Li_33 iv_Me_countPaidPages sv_Me_countPaidPages dd_Li_reckonPayments_30 ⟨Nat.le_of_ble_eq_true rfl, Nat.le_of_ble_eq_true rfl⟩ (by decide) rfl rfl (Nat.le_of_ble_eq_true rfl) ho67 hk68 rfl rfl h (fun r M64 hX65 h => ?_)
      replace h := h hX65
      obtain ⟨x69, rfl, h⟩ := h
      show mm_Z l G Y_Li_reckonPayments K M0 bc bs 33 [some (.inr (some a0)), some (.inr r1), some (.inr r2), some (.inl y3), some (.inr (mm_p M a1 j4))] [.inl x69, .inl y3, .inr (mm_p M a0 0)] M64
      obtain ⟨a70, ho71, h⟩ := h
      obtain ⟨hk72, h⟩ := h
      obtain ⟨j73, hj74, hm75, hl76, h⟩ := h
      refine mr_iast dd_Li_reckonPayments_33 ho71 hk72 hj74 hm75 hl76 ?_
      refine mr_aload_n dd_Li_reckonPayments_34 rfl ?_
      refine mr_getr ff_Li_18 dd_Li_reckonPayments_35 rs_4_2 rfl (mm_Xk hX65 hk8 (by decide)) ?_
      refine mr_iload_n dd_Li_reckonPayments_38 rfl ?_
      refine mr_aload dd_Li_reckonPayments_39 rfl ?_
      refine mr_ifnull 69 dd_Li_reckonPayments_41 (by decide) (fun hc41 => ?_) (fun a77 hc41 => ?_)
      · have h := h.1 hc41
        refine mr_iconst 0 dd_Li_reckonPayments_69 (by decide) ?_
        obtain ⟨a78, ho79, h⟩ := h
        obtain ⟨hk80, h⟩ := h
        obtain ⟨j81, hj82, hm83, hl84, h⟩ := h
        refine mr_zast dd_Li_reckonPayments_70 ho79 hk80 hj82 hm83 hl84 (Or.inl rfl) ?_
        refine mr_iinc 1 dd_Li_reckonPayments_71 rfl (by decide) (by decide) ?_
        show mm_Z l G Y_Li_reckonPayments K M0 bc bs 74 [some (.inr (some a0)), some (.inr r1), some (.inr r2), some (.inl (y3 + 1)), some (.inr (mm_p M a1 j4))] [] (mm_si (mm_si M64 a70 j73 x69) a78 j81 0)
        refine mr_goto 2 dd_Li_reckonPayments_74 (by decide) ?_
        exact mm_fg (mm_leq (mm_le_s (mm_le_s (mm_le_s (mm_le_s (mm_le_n mm_le_e)))))) h
      · have h := h.2 a77 hc41
        refine mr_iload_n dd_Li_reckonPayments_44 rfl ?_
        refine mr_if_eq 65 dd_Li_reckonPayments_45 (by decide) (fun hc45 => ?_) (fun hc45 => ?_)
        · have h := h.1 hc45
          refine mr_iconst 1 dd_Li_reckonPayments_65 (by decide) ?_
          refine mr_goto 70 dd_Li_reckonPayments_66 (by decide) ?_
          obtain ⟨a85, ho86, h⟩ := h
          obtain ⟨hk87, h⟩ := h
          obtain ⟨j88, hj89, hm90, hl91, h⟩ := h
          refine mr_zast dd_Li_reckonPayments_70 ho86 hk87 hj89 hm90 hl91 (Or.inr rfl) ?_
          refine mr_iinc 1 dd_Li_reckonPayments_71 rfl (by decide) (by decide) ?_
          show mm_Z l G Y_Li_reckonPayments K M0 bc bs 74 [some (.inr (some a0)), some (.inr r1), some (.inr r2), some (.inl (y3 + 1)), some (.inr (mm_p M a1 j4))] [] (mm_si (mm_si M64 a70 j73 x69) a85 j88 1)
          refine mr_goto 2 dd_Li_reckonPayments_74 (by decide) ?_
          exact mm_fg (mm_leq (mm_le_s (mm_le_s (mm_le_s (mm_le_s (mm_le_n mm_le_e)))))) h
        · have h := h.2 hc45
          refine mr_aload dd_Li_reckonPayments_48 rfl ?_
          obtain ⟨hk94, h⟩ := h
          refine mr_callV0 (Yc := Y_Pr_isLiving) (M := (mm_si M64 a70 j73 x69)) (st := [.inl y3, .inr (mm_p (mm_si M64 a70 j73 x69) a0 2)]) (vs := []) (ci := 5) fc_Li_39 iv_Pr_isLiving sv_Pr_isLiving dd_Li_reckonPayments_50 ⟨Nat.le_of_ble_eq_true rfl, Nat.le_of_ble_eq_true rfl⟩ (by decide) rfl rfl (Nat.le_of_ble_eq_true rfl) hc41 hk94 rfl rfl h (fun r M92 hX93 h => ?_)
          replace h := h hX93
          obtain ⟨x95, rfl, h⟩ := h
          show mm_Z l G Y_Li_reckonPayments K M0 bc bs 53 [some (.inr (some a0)), some (.inr r1), some (.inr r2), some (.inl y3), some (.inr (mm_p M a1 j4))] [.inl x95, .inl y3, .inr (mm_p (mm_si M64 a70 j73 x69) a0 2)] M92
          refine mr_if_ne 65 dd_Li_reckonPayments_53 (by decide) (fun hc53 => ?_) (fun hc53 => ?_)
          · have h := h.1 hc53
            refine mr_iconst 1 dd_Li_reckonPayments_65 (by decide) ?_
            refine mr_goto 70 dd_Li_reckonPayments_66 (by decide) ?_
            obtain ⟨a96, ho97, h⟩ := h
            obtain ⟨hk98, h⟩ := h
            obtain ⟨j99, hj100, hm101, hl102, h⟩ := h
            refine mr_zast dd_Li_reckonPayments_70 ho97 hk98 hj100 hm101 hl102 (Or.inr rfl) ?_
            refine mr_iinc 1 dd_Li_reckonPayments_71 rfl (by decide) (by decide) ?_
            show mm_Z l G Y_Li_reckonPayments K M0 bc bs 74 [some (.inr (some a0)), some (.inr r1), some (.inr r2), some (.inl (y3 + 1)), some (.inr (mm_p M a1 j4))] [] (mm_si M92 a96 j99 1)
            refine mr_goto 2 dd_Li_reckonPayments_74 (by decide) ?_
            exact mm_fg (mm_leq (mm_le_s (mm_le_s (mm_le_s (mm_le_s (mm_le_n mm_le_e)))))) h
          · have h := h.2 hc53
            refine mr_aload_n dd_Li_reckonPayments_56 rfl ?_
            refine mr_getr ff_Li_9 dd_Li_reckonPayments_57 rs_4_0 rfl (mm_Xk hX93 (mm_Xk hX65 hk8 (by decide)) (by decide)) ?_
            refine mr_iload_n dd_Li_reckonPayments_60 rfl ?_
            obtain ⟨a103, ho104, h⟩ := h
            obtain ⟨hk105, h⟩ := h
            obtain ⟨j106, hj107, hm108, hl109, h⟩ := h
            refine mr_iald dd_Li_reckonPayments_61 ho104 hk105 hj107 hm108 hl109 ?_
            refine mr_if_le 69 dd_Li_reckonPayments_62 (by decide) (fun hc62 => ?_) (fun hc62 => ?_)
            · have h := h.1 hc62
              refine mr_iconst 0 dd_Li_reckonPayments_69 (by decide) ?_
              obtain ⟨a110, ho111, h⟩ := h
              obtain ⟨hk112, h⟩ := h
              obtain ⟨j113, hj114, hm115, hl116, h⟩ := h
              refine mr_zast dd_Li_reckonPayments_70 ho111 hk112 hj114 hm115 hl116 (Or.inl rfl) ?_
              refine mr_iinc 1 dd_Li_reckonPayments_71 rfl (by decide) (by decide) ?_
              show mm_Z l G Y_Li_reckonPayments K M0 bc bs 74 [some (.inr (some a0)), some (.inr r1), some (.inr r2), some (.inl (y3 + 1)), some (.inr (mm_p M a1 j4))] [] (mm_si M92 a110 j113 0)
              refine mr_goto 2 dd_Li_reckonPayments_74 (by decide) ?_
              exact mm_fg (mm_leq (mm_le_s (mm_le_s (mm_le_s (mm_le_s (mm_le_n mm_le_e)))))) h
            · have h := h.2 hc62
              refine mr_iconst 1 dd_Li_reckonPayments_65 (by decide) ?_
              refine mr_goto 70 dd_Li_reckonPayments_66 (by decide) ?_
              obtain ⟨a117, ho118, h⟩ := h
              obtain ⟨hk119, h⟩ := h
              obtain ⟨j120, hj121, hm122, hl123, h⟩ := h
              refine mr_zast dd_Li_reckonPayments_70 ho118 hk119 hj121 hm122 hl123 (Or.inr rfl) ?_
              refine mr_iinc 1 dd_Li_reckonPayments_71 rfl (by decide) (by decide) ?_
              show mm_Z l G Y_Li_reckonPayments K M0 bc bs 74 [some (.inr (some a0)), some (.inr r1), some (.inr r2), some (.inl (y3 + 1)), some (.inr (mm_p M a1 j4))] [] (mm_si M92 a117 j120 1)
              refine mr_goto 2 dd_Li_reckonPayments_74 (by decide) ?_
              exact mm_fg (mm_leq (mm_le_s (mm_le_s (mm_le_s (mm_le_s (mm_le_n mm_le_e)))))) h
    · have h := h.1 hc20
      refine mr_iconst 0 dd_Li_reckonPayments_23 (by decide) ?_
      refine mr_goto 33 dd_Li_reckonPayments_24 (by decide) ?_
      obtain ⟨a10, ho11, h⟩ := h
      obtain ⟨hk12, h⟩ := h
      obtain ⟨j13, hj14, hm15, hl16, h⟩ := h
      refine mr_iast dd_Li_reckonPayments_33 ho11 hk12 hj14 hm15 hl16 ?_
      refine mr_aload_n dd_Li_reckonPayments_34 rfl ?_
      refine mr_getr ff_Li_18 dd_Li_reckonPayments_35 rs_4_2 rfl hk8 ?_
      refine mr_iload_n dd_Li_reckonPayments_38 rfl ?_
      refine mr_aload dd_Li_reckonPayments_39 rfl ?_
      refine mr_ifnull 69 dd_Li_reckonPayments_41 (by decide) (fun hc41 => ?_) (fun a17 hc41 => ?_)
      · have h := h.1 hc41
        refine mr_iconst 0 dd_Li_reckonPayments_69 (by decide) ?_
        obtain ⟨a18, ho19, h⟩ := h
        obtain ⟨hk20, h⟩ := h
        obtain ⟨j21, hj22, hm23, hl24, h⟩ := h
        refine mr_zast dd_Li_reckonPayments_70 ho19 hk20 hj22 hm23 hl24 (Or.inl rfl) ?_
        refine mr_iinc 1 dd_Li_reckonPayments_71 rfl (by decide) (by decide) ?_
        show mm_Z l G Y_Li_reckonPayments K M0 bc bs 74 [some (.inr (some a0)), some (.inr r1), some (.inr r2), some (.inl (y3 + 1)), some (.inr (mm_p M a1 j4))] [] (mm_si (mm_si M a10 j13 0) a18 j21 0)
        refine mr_goto 2 dd_Li_reckonPayments_74 (by decide) ?_
        exact mm_fg (mm_leq (mm_le_s (mm_le_s (mm_le_s (mm_le_s (mm_le_n mm_le_e)))))) h
      · have h := h.2 a17 hc41
        refine mr_iload_n dd_Li_reckonPayments_44 rfl ?_
        refine mr_if_eq 65 dd_Li_reckonPayments_45 (by decide) (fun hc45 => ?_) (fun hc45 => ?_)
        · have h := h.1 hc45
          refine mr_iconst 1 dd_Li_reckonPayments_65 (by decide) ?_
          refine mr_goto 70 dd_Li_reckonPayments_66 (by decide) ?_
          obtain ⟨a25, ho26, h⟩ := h
          obtain ⟨hk27, h⟩ := h
          obtain ⟨j28, hj29, hm30, hl31, h⟩ := h
          refine mr_zast dd_Li_reckonPayments_70 ho26 hk27 hj29 hm30 hl31 (Or.inr rfl) ?_
          refine mr_iinc 1 dd_Li_reckonPayments_71 rfl (by decide) (by decide) ?_
          show mm_Z l G Y_Li_reckonPayments K M0 bc bs 74 [some (.inr (some a0)), some (.inr r1), some (.inr r2), some (.inl (y3 + 1)), some (.inr (mm_p M a1 j4))] [] (mm_si (mm_si M a10 j13 0) a25 j28 1)
          refine mr_goto 2 dd_Li_reckonPayments_74 (by decide) ?_
          exact mm_fg (mm_leq (mm_le_s (mm_le_s (mm_le_s (mm_le_s (mm_le_n mm_le_e)))))) h
        · have h := h.2 hc45
          refine mr_aload dd_Li_reckonPayments_48 rfl ?_
          obtain ⟨hk34, h⟩ := h
          refine mr_callV0 (Yc := Y_Pr_isLiving) (M := (mm_si M a10 j13 0)) (st := [.inl y3, .inr (mm_p (mm_si M a10 j13 0) a0 2)]) (vs := []) (ci := 5) fc_Li_39 iv_Pr_isLiving sv_Pr_isLiving dd_Li_reckonPayments_50 ⟨Nat.le_of_ble_eq_true rfl, Nat.le_of_ble_eq_true rfl⟩ (by decide) rfl rfl (Nat.le_of_ble_eq_true rfl) hc41 hk34 rfl rfl h (fun r M32 hX33 h => ?_)
          replace h := h hX33
          obtain ⟨x35, rfl, h⟩ := h
          show mm_Z l G Y_Li_reckonPayments K M0 bc bs 53 [some (.inr (some a0)), some (.inr r1), some (.inr r2), some (.inl y3), some (.inr (mm_p M a1 j4))] [.inl x35, .inl y3, .inr (mm_p (mm_si M a10 j13 0) a0 2)] M32
          refine mr_if_ne 65 dd_Li_reckonPayments_53 (by decide) (fun hc53 => ?_) (fun hc53 => ?_)
          · have h := h.1 hc53
            refine mr_iconst 1 dd_Li_reckonPayments_65 (by decide) ?_
            refine mr_goto 70 dd_Li_reckonPayments_66 (by decide) ?_
            obtain ⟨a36, ho37, h⟩ := h
            obtain ⟨hk38, h⟩ := h
            obtain ⟨j39, hj40, hm41, hl42, h⟩ := h
            refine mr_zast dd_Li_reckonPayments_70 ho37 hk38 hj40 hm41 hl42 (Or.inr rfl) ?_
            refine mr_iinc 1 dd_Li_reckonPayments_71 rfl (by decide) (by decide) ?_
            show mm_Z l G Y_Li_reckonPayments K M0 bc bs 74 [some (.inr (some a0)), some (.inr r1), some (.inr r2), some (.inl (y3 + 1)), some (.inr (mm_p M a1 j4))] [] (mm_si M32 a36 j39 1)
            refine mr_goto 2 dd_Li_reckonPayments_74 (by decide) ?_
            exact mm_fg (mm_leq (mm_le_s (mm_le_s (mm_le_s (mm_le_s (mm_le_n mm_le_e)))))) h
          · have h := h.2 hc53
            refine mr_aload_n dd_Li_reckonPayments_56 rfl ?_
            refine mr_getr ff_Li_9 dd_Li_reckonPayments_57 rs_4_0 rfl (mm_Xk hX33 hk8 (by decide)) ?_
            refine mr_iload_n dd_Li_reckonPayments_60 rfl ?_
            obtain ⟨a43, ho44, h⟩ := h
            obtain ⟨hk45, h⟩ := h
            obtain ⟨j46, hj47, hm48, hl49, h⟩ := h
            refine mr_iald dd_Li_reckonPayments_61 ho44 hk45 hj47 hm48 hl49 ?_
            refine mr_if_le 69 dd_Li_reckonPayments_62 (by decide) (fun hc62 => ?_) (fun hc62 => ?_)
            · have h := h.1 hc62
              refine mr_iconst 0 dd_Li_reckonPayments_69 (by decide) ?_
              obtain ⟨a50, ho51, h⟩ := h
              obtain ⟨hk52, h⟩ := h
              obtain ⟨j53, hj54, hm55, hl56, h⟩ := h
              refine mr_zast dd_Li_reckonPayments_70 ho51 hk52 hj54 hm55 hl56 (Or.inl rfl) ?_
              refine mr_iinc 1 dd_Li_reckonPayments_71 rfl (by decide) (by decide) ?_
              show mm_Z l G Y_Li_reckonPayments K M0 bc bs 74 [some (.inr (some a0)), some (.inr r1), some (.inr r2), some (.inl (y3 + 1)), some (.inr (mm_p M a1 j4))] [] (mm_si M32 a50 j53 0)
              refine mr_goto 2 dd_Li_reckonPayments_74 (by decide) ?_
              exact mm_fg (mm_leq (mm_le_s (mm_le_s (mm_le_s (mm_le_s (mm_le_n mm_le_e)))))) h
            · have h := h.2 hc62
              refine mr_iconst 1 dd_Li_reckonPayments_65 (by decide) ?_
              refine mr_goto 70 dd_Li_reckonPayments_66 (by decide) ?_
              obtain ⟨a57, ho58, h⟩ := h
              obtain ⟨hk59, h⟩ := h
              obtain ⟨j60, hj61, hm62, hl63, h⟩ := h
              refine mr_zast dd_Li_reckonPayments_70 ho58 hk59 hj61 hm62 hl63 (Or.inr rfl) ?_
              refine mr_iinc 1 dd_Li_reckonPayments_71 rfl (by decide) (by decide) ?_
              show mm_Z l G Y_Li_reckonPayments K M0 bc bs 74 [some (.inr (some a0)), some (.inr r1), some (.inr r2), some (.inl (y3 + 1)), some (.inr (mm_p M a1 j4))] [] (mm_si M32 a57 j60 1)
              refine mr_goto 2 dd_Li_reckonPayments_74 (by decide) ?_
              exact mm_fg (mm_leq (mm_le_s (mm_le_s (mm_le_s (mm_le_s (mm_le_n mm_le_e)))))) h
set_option maxHeartbeats 4000000 in
set_option maxRecDepth 100000 in
theorem sg_Li_addChildren {l : Launch} {G : mm_G} {K : Option mm_V → mm_M → Prop} {M : mm_M} {a0 : Nat} {oa : Option Nat}
    (h : mm_Z l G Y_Li_addChildren K M 0 0 3 [some (.inr (some a0)), some (.inr oa), some (.inl 7), none] [] M) :
    mm_Ok l G yy_Li_addChildren Y_Li_addChildren [.inr (some a0), .inr oa] M K := by
  refine mm_go (by decide) rfl (fun q => by cases q) (Nat.le_of_ble_eq_true rfl) ?_
  show mm_Z l G Y_Li_addChildren K M 0 0 0 [some (.inr (some a0)), some (.inr oa), none, none] [] M
  refine mr_bipush 7 dd_Li_addChildren_0 (by decide) ?_
  refine mr_istore_n dd_Li_addChildren_2 (by decide) ?_
  show mm_Z l G Y_Li_addChildren K M 0 0 3 [some (.inr (some a0)), some (.inr oa), some (.inl 7), none] [] M
  exact h
set_option maxHeartbeats 4000000 in
set_option maxRecDepth 100000 in
theorem sg_Li_addChildren_3 {l : Launch} {G : mm_G} {K : Option mm_V → mm_M → Prop} {M0 M : mm_M} {bc bs : Nat} {a0 : Nat} {r1 : Option Nat} {y2 : Int32}
    (h : (y2 ≤ 0 → K none M) ∧ (¬ y2 ≤ 0 → mm_k M a0 = 5 ∧ ∃ a2 : Nat, (mm_p M a0 2) = some a2 ∧ mm_k M a2 = 101 ∧ ∃ j5 : Nat, y2 = nI j5 ∧ j5 < 2147483648 ∧ j5 < mm_l M a2 ∧ ((mm_i M a2 j5) = 0 → mm_Z l G Y_Li_addChildren K M0 bc bs 3 [some (.inr (some a0)), some (.inr r1), some (.inl (y2 + (-1))), none] [] M) ∧ (¬ (mm_i M a2 j5) = 0 → ∃ a9 : Nat, r1 = some a9 ∧ mm_k M a9 = 104 ∧ ∃ j12 : Nat, y2 = nI j12 ∧ j12 < 2147483648 ∧ j12 < mm_l M a9 ∧ ∃ a16 : Nat, (mm_p M a9 j12) = some a16 ∧ mm_k M a16 = 6 ∧ ∃ a19 : Nat, (mm_p M a0 0) = some a19 ∧ mm_k M a19 = 100 ∧ ∃ j22 : Nat, (mm_i M a16 1) = nI j22 ∧ j22 < 2147483648 ∧ j22 < mm_l M a19 ∧ ((mm_i M a16 3) = 0 → ∃ j26 : Nat, y2 = nI j26 ∧ j26 < 2147483648 ∧ j26 < mm_l M a19 ∧ ∃ j30 : Nat, (mm_i M a16 1) = nI j30 ∧ j30 < 2147483648 ∧ j30 < mm_l M a19 ∧ ∃ a34 : Nat, (mm_p (mm_si M a19 j30 ((mm_i M a19 j22) + (mm_i M a19 j26))) a0 2) = some a34 ∧ mm_k (mm_si M a19 j30 ((mm_i M a19 j22) + (mm_i M a19 j26))) a34 = 101 ∧ ∃ j37 : Nat, (mm_i (mm_si M a19 j30 ((mm_i M a19 j22) + (mm_i M a19 j26))) a16 1) = nI j37 ∧ j37 < 2147483648 ∧ j37 < mm_l (mm_si M a19 j30 ((mm_i M a19 j22) + (mm_i M a19 j26))) a34 ∧ mm_Z l G Y_Li_addChildren K M0 bc bs 3 [some (.inr (some a0)), some (.inr r1), some (.inl (y2 + (-1))), none] [] (mm_si (mm_si M a19 j30 ((mm_i M a19 j22) + (mm_i M a19 j26))) a34 j37 1)) ∧ (¬ (mm_i M a16 3) = 0 → ∃ j41 : Nat, (mm_i M a16 1) = nI j41 ∧ j41 < 2147483648 ∧ j41 < mm_l M a19 ∧ ∃ a45 : Nat, (mm_p (mm_si M a19 j41 ((mm_i M a19 j22) + (mm_i M a16 2))) a0 2) = some a45 ∧ mm_k (mm_si M a19 j41 ((mm_i M a19 j22) + (mm_i M a16 2))) a45 = 101 ∧ ∃ j48 : Nat, (mm_i (mm_si M a19 j41 ((mm_i M a19 j22) + (mm_i M a16 2))) a16 1) = nI j48 ∧ j48 < 2147483648 ∧ j48 < mm_l (mm_si M a19 j41 ((mm_i M a19 j22) + (mm_i M a16 2))) a45 ∧ mm_Z l G Y_Li_addChildren K M0 bc bs 3 [some (.inr (some a0)), some (.inr r1), some (.inl (y2 + (-1))), none] [] (mm_si (mm_si M a19 j41 ((mm_i M a19 j22) + (mm_i M a16 2))) a45 j48 1))))) :
    mm_Z l G Y_Li_addChildren K M0 bc bs 3 [some (.inr (some a0)), some (.inr r1), some (.inl y2), none] [] M := by
  refine mr_iload_n dd_Li_addChildren_3 rfl ?_
  refine mr_if_le 68 dd_Li_addChildren_4 (by decide) (fun hc4 => ?_) (fun hc4 => ?_)
  · have h := h.1 hc4
    exact mr_return dd_Li_addChildren_68 rfl h
  · have h := h.2 hc4
    refine mr_aload_n dd_Li_addChildren_7 rfl ?_
    obtain ⟨hk1, h⟩ := h
    refine mr_getr ff_Li_18 dd_Li_addChildren_8 rs_4_2 rfl hk1 ?_
    refine mr_iload_n dd_Li_addChildren_11 rfl ?_
    obtain ⟨a2, ho3, h⟩ := h
    obtain ⟨hk4, h⟩ := h
    obtain ⟨j5, hj6, hm7, hl8, h⟩ := h
    refine mr_zald dd_Li_addChildren_12 ho3 hk4 hj6 hm7 hl8 ?_
    refine mr_if_eq 62 dd_Li_addChildren_13 (by decide) (fun hc13 => ?_) (fun hc13 => ?_)
    · have h := h.1 hc13
      refine mr_iinc (-1) dd_Li_addChildren_62 rfl (by decide) (by decide) ?_
      show mm_Z l G Y_Li_addChildren K M0 bc bs 65 [some (.inr (some a0)), some (.inr r1), some (.inl (y2 + (-1))), none] [] M
      refine mr_goto 3 dd_Li_addChildren_65 (by decide) ?_
      exact h
    · have h := h.2 hc13
      refine mr_aload_n dd_Li_addChildren_16 rfl ?_
      refine mr_iload_n dd_Li_addChildren_17 rfl ?_
      obtain ⟨a9, ho10, h⟩ := h
      obtain ⟨hk11, h⟩ := h
      obtain ⟨j12, hj13, hm14, hl15, h⟩ := h
      refine mr_aald (t := 4) dd_Li_addChildren_18 ho10 hk11 (fun _ => rfl) (by decide) hj13 hm14 hl15 ?_
      refine mr_astore_n dd_Li_addChildren_19 (by decide) ?_
      show mm_Z l G Y_Li_addChildren K M0 bc bs 20 [some (.inr (some a0)), some (.inr r1), some (.inl y2), some (.inr (mm_p M a9 j12))] [] M
      refine mr_aload_n dd_Li_addChildren_20 rfl ?_
      refine mr_getr ff_Li_9 dd_Li_addChildren_21 rs_4_0 rfl hk1 ?_
      refine mr_aload_n dd_Li_addChildren_24 rfl ?_
      obtain ⟨a16, ho17, h⟩ := h
      obtain ⟨hk18, h⟩ := h
      refine mr_geti ff_Li_45 dd_Li_addChildren_25 rs_5_1 ho17 hk18 ?_
      refine mr_dup2 dd_Li_addChildren_28 ?_
      obtain ⟨a19, ho20, h⟩ := h
      obtain ⟨hk21, h⟩ := h
      obtain ⟨j22, hj23, hm24, hl25, h⟩ := h
      refine mr_iald dd_Li_addChildren_29 ho20 hk21 hj23 hm24 hl25 ?_
      refine mr_aload_n dd_Li_addChildren_30 rfl ?_
      refine mr_geti ff_Li_49 dd_Li_addChildren_31 rs_5_3 ho17 hk18 ?_
      refine mr_if_eq 44 dd_Li_addChildren_34 (by decide) (fun hc34 => ?_) (fun hc34 => ?_)
      · have h := h.1 hc34
        refine mr_aload_n dd_Li_addChildren_44 rfl ?_
        refine mr_getr ff_Li_9 dd_Li_addChildren_45 rs_4_0 rfl hk1 ?_
        refine mr_iload_n dd_Li_addChildren_48 rfl ?_
        obtain ⟨j26, hj27, hm28, hl29, h⟩ := h
        refine mr_iald dd_Li_addChildren_49 ho20 hk21 hj27 hm28 hl29 ?_
        refine mr_iadd dd_Li_addChildren_50 ?_
        obtain ⟨j30, hj31, hm32, hl33, h⟩ := h
        refine mr_iast dd_Li_addChildren_51 ho20 hk21 hj31 hm32 hl33 ?_
        refine mr_aload_n dd_Li_addChildren_52 rfl ?_
        refine mr_getr ff_Li_18 dd_Li_addChildren_53 rs_4_2 rfl hk1 ?_
        refine mr_aload_n dd_Li_addChildren_56 rfl ?_
        refine mr_geti ff_Li_45 dd_Li_addChildren_57 rs_5_1 ho17 hk18 ?_
        refine mr_iconst 1 dd_Li_addChildren_60 (by decide) ?_
        obtain ⟨a34, ho35, h⟩ := h
        obtain ⟨hk36, h⟩ := h
        obtain ⟨j37, hj38, hm39, hl40, h⟩ := h
        refine mr_zast dd_Li_addChildren_61 ho35 hk36 hj38 hm39 hl40 (Or.inr rfl) ?_
        refine mr_iinc (-1) dd_Li_addChildren_62 rfl (by decide) (by decide) ?_
        show mm_Z l G Y_Li_addChildren K M0 bc bs 65 [some (.inr (some a0)), some (.inr r1), some (.inl (y2 + (-1))), some (.inr (mm_p M a9 j12))] [] (mm_si (mm_si M a19 j30 ((mm_i M a19 j22) + (mm_i M a19 j26))) a34 j37 1)
        refine mr_goto 3 dd_Li_addChildren_65 (by decide) ?_
        exact mm_fg (mm_leq (mm_le_s (mm_le_s (mm_le_s (mm_le_n mm_le_e))))) h
      · have h := h.2 hc34
        refine mr_aload_n dd_Li_addChildren_37 rfl ?_
        refine mr_geti ff_Li_53 dd_Li_addChildren_38 rs_5_2 ho17 hk18 ?_
        refine mr_goto 50 dd_Li_addChildren_41 (by decide) ?_
        refine mr_iadd dd_Li_addChildren_50 ?_
        obtain ⟨j41, hj42, hm43, hl44, h⟩ := h
        refine mr_iast dd_Li_addChildren_51 ho20 hk21 hj42 hm43 hl44 ?_
        refine mr_aload_n dd_Li_addChildren_52 rfl ?_
        refine mr_getr ff_Li_18 dd_Li_addChildren_53 rs_4_2 rfl hk1 ?_
        refine mr_aload_n dd_Li_addChildren_56 rfl ?_
        refine mr_geti ff_Li_45 dd_Li_addChildren_57 rs_5_1 ho17 hk18 ?_
        refine mr_iconst 1 dd_Li_addChildren_60 (by decide) ?_
        obtain ⟨a45, ho46, h⟩ := h
        obtain ⟨hk47, h⟩ := h
        obtain ⟨j48, hj49, hm50, hl51, h⟩ := h
        refine mr_zast dd_Li_addChildren_61 ho46 hk47 hj49 hm50 hl51 (Or.inr rfl) ?_
        refine mr_iinc (-1) dd_Li_addChildren_62 rfl (by decide) (by decide) ?_
        show mm_Z l G Y_Li_addChildren K M0 bc bs 65 [some (.inr (some a0)), some (.inr r1), some (.inl (y2 + (-1))), some (.inr (mm_p M a9 j12))] [] (mm_si (mm_si M a19 j41 ((mm_i M a19 j22) + (mm_i M a16 2))) a45 j48 1)
        refine mr_goto 3 dd_Li_addChildren_65 (by decide) ?_
        exact mm_fg (mm_leq (mm_le_s (mm_le_s (mm_le_s (mm_le_n mm_le_e))))) h
set_option maxHeartbeats 4000000 in
set_option maxRecDepth 100000 in
theorem sg_Li_reckonSpare {l : Launch} {G : mm_G} {K : Option mm_V → mm_M → Prop} {M : mm_M} {a0 : Nat} {oa : Option Nat}
    (h : mm_Z l G Y_Li_reckonSpare K M 0 0 2 [some (.inr (some a0)), some (.inr oa), some (.inl 0), none] [] M) :
    mm_Ok l G yy_Li_reckonSpare Y_Li_reckonSpare [.inr (some a0), .inr oa] M K := by
  refine mm_go (by decide) rfl (fun q => by cases q) (Nat.le_of_ble_eq_true rfl) ?_
  show mm_Z l G Y_Li_reckonSpare K M 0 0 0 [some (.inr (some a0)), some (.inr oa), none, none] [] M
  refine mr_iconst 0 dd_Li_reckonSpare_0 (by decide) ?_
  refine mr_istore_n dd_Li_reckonSpare_1 (by decide) ?_
  show mm_Z l G Y_Li_reckonSpare K M 0 0 2 [some (.inr (some a0)), some (.inr oa), some (.inl 0), none] [] M
  exact h
set_option maxHeartbeats 4000000 in
set_option maxRecDepth 100000 in
theorem sg_Li_reckonSpare_2 {l : Launch} {G : mm_G} {K : Option mm_V → mm_M → Prop} {M0 M : mm_M} {bc bs : Nat} {a0 : Nat} {r1 : Option Nat} {y2 : Int32}
    (h : (8 ≤ y2 → K none M) ∧ (¬ 8 ≤ y2 → ∃ a1 : Nat, r1 = some a1 ∧ mm_k M a1 = 104 ∧ ∃ j4 : Nat, y2 = nI j4 ∧ j4 < 2147483648 ∧ j4 < mm_l M a1 ∧ mm_k M a0 = 5 ∧ ((mm_p M a1 j4) = none → ∃ a10 : Nat, (mm_p M a0 1) = some a10 ∧ mm_k M a10 = 100 ∧ ∃ j13 : Nat, y2 = nI j13 ∧ j13 < 2147483648 ∧ j13 < mm_l M a10 ∧ ((mm_p M a1 j4) = none → mm_Z l G Y_Li_reckonSpare K M0 bc bs 2 [some (.inr (some a0)), some (.inr r1), some (.inl (y2 + 1)), none] [] (mm_si M a10 j13 0)) ∧ (∀ a17 : Nat, (mm_p M a1 j4) = some a17 → mm_k (mm_si M a10 j13 0) a17 = 6 ∧ (¬ (mm_i (mm_si M a10 j13 0) a17 3) = 0 → mm_Z l G Y_Li_reckonSpare K M0 bc bs 2 [some (.inr (some a0)), some (.inr r1), some (.inl (y2 + 1)), none] [] (mm_si M a10 j13 0)) ∧ ((mm_i (mm_si M a10 j13 0) a17 3) = 0 → ∃ a19 : Nat, (mm_p (mm_si M a10 j13 0) a0 1) = some a19 ∧ mm_k (mm_si M a10 j13 0) a19 = 100 ∧ ∃ j22 : Nat, y2 = nI j22 ∧ j22 < 2147483648 ∧ j22 < mm_l (mm_si M a10 j13 0) a19 ∧ ∃ j26 : Nat, (mm_i (mm_si M a10 j13 0) a17 1) = nI j26 ∧ j26 < 2147483648 ∧ j26 < mm_l (mm_si M a10 j13 0) a19 ∧ ∃ j30 : Nat, y2 = nI j30 ∧ j30 < 2147483648 ∧ j30 < mm_l (mm_si M a10 j13 0) a19 ∧ mm_Z l G Y_Li_reckonSpare K M0 bc bs 2 [some (.inr (some a0)), some (.inr r1), some (.inl (y2 + 1)), none] [] (mm_si (mm_si M a10 j13 0) a19 j30 (if (mm_i (mm_si M a10 j13 0) a19 j26) < (mm_i (mm_si M a10 j13 0) a19 j22) then (mm_i (mm_si M a10 j13 0) a19 j26) else (mm_i (mm_si M a10 j13 0) a19 j22)))))) ∧ (∀ a9 : Nat, (mm_p M a1 j4) = some a9 → mm_k M a9 = 6 ∧ ∃ a35 : Nat, (mm_p M a0 0) = some a35 ∧ mm_k M a35 = 100 ∧ ∃ j38 : Nat, y2 = nI j38 ∧ j38 < 2147483648 ∧ j38 < mm_l M a35 ∧ ∃ a42 : Nat, (mm_p M a0 1) = some a42 ∧ mm_k M a42 = 100 ∧ ∃ j45 : Nat, y2 = nI j45 ∧ j45 < 2147483648 ∧ j45 < mm_l M a42 ∧ ((mm_p M a1 j4) = none → mm_Z l G Y_Li_reckonSpare K M0 bc bs 2 [some (.inr (some a0)), some (.inr r1), some (.inl (y2 + 1)), none] [] (mm_si M a42 j45 ((mm_i M a9 2) - (mm_i M a35 j38)))) ∧ (∀ a49 : Nat, (mm_p M a1 j4) = some a49 → mm_k (mm_si M a42 j45 ((mm_i M a9 2) - (mm_i M a35 j38))) a49 = 6 ∧ (¬ (mm_i (mm_si M a42 j45 ((mm_i M a9 2) - (mm_i M a35 j38))) a49 3) = 0 → mm_Z l G Y_Li_reckonSpare K M0 bc bs 2 [some (.inr (some a0)), some (.inr r1), some (.inl (y2 + 1)), none] [] (mm_si M a42 j45 ((mm_i M a9 2) - (mm_i M a35 j38)))) ∧ ((mm_i (mm_si M a42 j45 ((mm_i M a9 2) - (mm_i M a35 j38))) a49 3) = 0 → ∃ a51 : Nat, (mm_p (mm_si M a42 j45 ((mm_i M a9 2) - (mm_i M a35 j38))) a0 1) = some a51 ∧ mm_k (mm_si M a42 j45 ((mm_i M a9 2) - (mm_i M a35 j38))) a51 = 100 ∧ ∃ j54 : Nat, y2 = nI j54 ∧ j54 < 2147483648 ∧ j54 < mm_l (mm_si M a42 j45 ((mm_i M a9 2) - (mm_i M a35 j38))) a51 ∧ ∃ j58 : Nat, (mm_i (mm_si M a42 j45 ((mm_i M a9 2) - (mm_i M a35 j38))) a49 1) = nI j58 ∧ j58 < 2147483648 ∧ j58 < mm_l (mm_si M a42 j45 ((mm_i M a9 2) - (mm_i M a35 j38))) a51 ∧ ∃ j62 : Nat, y2 = nI j62 ∧ j62 < 2147483648 ∧ j62 < mm_l (mm_si M a42 j45 ((mm_i M a9 2) - (mm_i M a35 j38))) a51 ∧ mm_Z l G Y_Li_reckonSpare K M0 bc bs 2 [some (.inr (some a0)), some (.inr r1), some (.inl (y2 + 1)), none] [] (mm_si (mm_si M a42 j45 ((mm_i M a9 2) - (mm_i M a35 j38))) a51 j62 (if (mm_i (mm_si M a42 j45 ((mm_i M a9 2) - (mm_i M a35 j38))) a51 j58) < (mm_i (mm_si M a42 j45 ((mm_i M a9 2) - (mm_i M a35 j38))) a51 j54) then (mm_i (mm_si M a42 j45 ((mm_i M a9 2) - (mm_i M a35 j38))) a51 j58) else (mm_i (mm_si M a42 j45 ((mm_i M a9 2) - (mm_i M a35 j38))) a51 j54)))))))) :
    mm_Z l G Y_Li_reckonSpare K M0 bc bs 2 [some (.inr (some a0)), some (.inr r1), some (.inl y2), none] [] M := by
  refine mr_iload_n dd_Li_reckonSpare_2 rfl ?_
  refine mr_bipush 8 dd_Li_reckonSpare_3 (by decide) ?_
  refine mr_icmp_ge 78 dd_Li_reckonSpare_5 (by decide) (fun hc5 => ?_) (fun hc5 => ?_)
  · have h := h.1 hc5
    exact mr_return dd_Li_reckonSpare_78 rfl h
  · have h := h.2 hc5
    refine mr_aload_n dd_Li_reckonSpare_8 rfl ?_
    refine mr_iload_n dd_Li_reckonSpare_9 rfl ?_
    obtain ⟨a1, ho2, h⟩ := h
    obtain ⟨hk3, h⟩ := h
    obtain ⟨j4, hj5, hm6, hl7, h⟩ := h
    refine mr_aald (t := 4) dd_Li_reckonSpare_10 ho2 hk3 (fun _ => rfl) (by decide) hj5 hm6 hl7 ?_
    refine mr_astore_n dd_Li_reckonSpare_11 (by decide) ?_
    show mm_Z l G Y_Li_reckonSpare K M0 bc bs 12 [some (.inr (some a0)), some (.inr r1), some (.inl y2), some (.inr (mm_p M a1 j4))] [] M
    refine mr_aload_n dd_Li_reckonSpare_12 rfl ?_
    obtain ⟨hk8, h⟩ := h
    refine mr_getr ff_Li_15 dd_Li_reckonSpare_13 rs_4_1 rfl hk8 ?_
    refine mr_iload_n dd_Li_reckonSpare_16 rfl ?_
    refine mr_aload_n dd_Li_reckonSpare_17 rfl ?_
    refine mr_ifnonnull 25 dd_Li_reckonSpare_18 (by decide) (fun a9 hc18 => ?_) (fun hc18 => ?_)
    · have h := h.2 a9 hc18
      refine mr_aload_n dd_Li_reckonSpare_25 rfl ?_
      obtain ⟨hk34, h⟩ := h
      refine mr_geti ff_Li_53 dd_Li_reckonSpare_26 rs_5_2 hc18 hk34 ?_
      refine mr_aload_n dd_Li_reckonSpare_29 rfl ?_
      refine mr_getr ff_Li_9 dd_Li_reckonSpare_30 rs_4_0 rfl hk8 ?_
      refine mr_iload_n dd_Li_reckonSpare_33 rfl ?_
      obtain ⟨a35, ho36, h⟩ := h
      obtain ⟨hk37, h⟩ := h
      obtain ⟨j38, hj39, hm40, hl41, h⟩ := h
      refine mr_iald dd_Li_reckonSpare_34 ho36 hk37 hj39 hm40 hl41 ?_
      refine mr_isub dd_Li_reckonSpare_35 ?_
      obtain ⟨a42, ho43, h⟩ := h
      obtain ⟨hk44, h⟩ := h
      obtain ⟨j45, hj46, hm47, hl48, h⟩ := h
      refine mr_iast dd_Li_reckonSpare_36 ho43 hk44 hj46 hm47 hl48 ?_
      refine mr_aload_n dd_Li_reckonSpare_37 rfl ?_
      refine mr_ifnull 72 dd_Li_reckonSpare_38 (by decide) (fun hc38 => ?_) (fun a49 hc38 => ?_)
      · have h := h.1 hc38
        refine mr_iinc 1 dd_Li_reckonSpare_72 rfl (by decide) (by decide) ?_
        show mm_Z l G Y_Li_reckonSpare K M0 bc bs 75 [some (.inr (some a0)), some (.inr r1), some (.inl (y2 + 1)), some (.inr (mm_p M a1 j4))] [] (mm_si M a42 j45 ((mm_i M a9 2) - (mm_i M a35 j38)))
        refine mr_goto 2 dd_Li_reckonSpare_75 (by decide) ?_
        exact mm_fg (mm_leq (mm_le_s (mm_le_s (mm_le_s (mm_le_n mm_le_e))))) h
      · have h := h.2 a49 hc38
        refine mr_aload_n dd_Li_reckonSpare_41 rfl ?_
        obtain ⟨hk50, h⟩ := h
        refine mr_geti ff_Li_49 dd_Li_reckonSpare_42 rs_5_3 hc38 hk50 ?_
        refine mr_if_ne 72 dd_Li_reckonSpare_45 (by decide) (fun hc45 => ?_) (fun hc45 => ?_)
        · have h := h.1 hc45
          refine mr_iinc 1 dd_Li_reckonSpare_72 rfl (by decide) (by decide) ?_
          show mm_Z l G Y_Li_reckonSpare K M0 bc bs 75 [some (.inr (some a0)), some (.inr r1), some (.inl (y2 + 1)), some (.inr (mm_p M a1 j4))] [] (mm_si M a42 j45 ((mm_i M a9 2) - (mm_i M a35 j38)))
          refine mr_goto 2 dd_Li_reckonSpare_75 (by decide) ?_
          exact mm_fg (mm_leq (mm_le_s (mm_le_s (mm_le_s (mm_le_n mm_le_e))))) h
        · have h := h.2 hc45
          refine mr_aload_n dd_Li_reckonSpare_48 rfl ?_
          refine mr_getr ff_Li_15 dd_Li_reckonSpare_49 rs_4_1 rfl hk8 ?_
          refine mr_iload_n dd_Li_reckonSpare_52 rfl ?_
          refine mr_aload_n dd_Li_reckonSpare_53 rfl ?_
          refine mr_getr ff_Li_15 dd_Li_reckonSpare_54 rs_4_1 rfl hk8 ?_
          refine mr_iload_n dd_Li_reckonSpare_57 rfl ?_
          obtain ⟨a51, ho52, h⟩ := h
          obtain ⟨hk53, h⟩ := h
          obtain ⟨j54, hj55, hm56, hl57, h⟩ := h
          refine mr_iald dd_Li_reckonSpare_58 ho52 hk53 hj55 hm56 hl57 ?_
          refine mr_aload_n dd_Li_reckonSpare_59 rfl ?_
          refine mr_getr ff_Li_15 dd_Li_reckonSpare_60 rs_4_1 rfl hk8 ?_
          refine mr_aload_n dd_Li_reckonSpare_63 rfl ?_
          refine mr_geti ff_Li_45 dd_Li_reckonSpare_64 rs_5_1 hc38 hk50 ?_
          obtain ⟨j58, hj59, hm60, hl61, h⟩ := h
          refine mr_iald dd_Li_reckonSpare_67 ho52 hk53 hj59 hm60 hl61 ?_
          refine mr_mmin dd_Li_reckonSpare_68 tb_238 tb_107 tb_8 tb_108 ⟨Nat.le_of_ble_eq_true rfl, Nat.le_of_ble_eq_true rfl⟩ ?_
          obtain ⟨j62, hj63, hm64, hl65, h⟩ := h
          refine mr_iast dd_Li_reckonSpare_71 ho52 hk53 hj63 hm64 hl65 ?_
          refine mr_iinc 1 dd_Li_reckonSpare_72 rfl (by decide) (by decide) ?_
          show mm_Z l G Y_Li_reckonSpare K M0 bc bs 75 [some (.inr (some a0)), some (.inr r1), some (.inl (y2 + 1)), some (.inr (mm_p M a1 j4))] [] (mm_si (mm_si M a42 j45 ((mm_i M a9 2) - (mm_i M a35 j38))) a51 j62 (if (mm_i (mm_si M a42 j45 ((mm_i M a9 2) - (mm_i M a35 j38))) a51 j58) < (mm_i (mm_si M a42 j45 ((mm_i M a9 2) - (mm_i M a35 j38))) a51 j54) then (mm_i (mm_si M a42 j45 ((mm_i M a9 2) - (mm_i M a35 j38))) a51 j58) else (mm_i (mm_si M a42 j45 ((mm_i M a9 2) - (mm_i M a35 j38))) a51 j54)))
          refine mr_goto 2 dd_Li_reckonSpare_75 (by decide) ?_
          exact mm_fg (mm_leq (mm_le_s (mm_le_s (mm_le_s (mm_le_n mm_le_e))))) h
    · have h := h.1 hc18
      refine mr_iconst 0 dd_Li_reckonSpare_21 (by decide) ?_
      refine mr_goto 36 dd_Li_reckonSpare_22 (by decide) ?_
      obtain ⟨a10, ho11, h⟩ := h
      obtain ⟨hk12, h⟩ := h
      obtain ⟨j13, hj14, hm15, hl16, h⟩ := h
      refine mr_iast dd_Li_reckonSpare_36 ho11 hk12 hj14 hm15 hl16 ?_
      refine mr_aload_n dd_Li_reckonSpare_37 rfl ?_
      refine mr_ifnull 72 dd_Li_reckonSpare_38 (by decide) (fun hc38 => ?_) (fun a17 hc38 => ?_)
      · have h := h.1 hc38
        refine mr_iinc 1 dd_Li_reckonSpare_72 rfl (by decide) (by decide) ?_
        show mm_Z l G Y_Li_reckonSpare K M0 bc bs 75 [some (.inr (some a0)), some (.inr r1), some (.inl (y2 + 1)), some (.inr (mm_p M a1 j4))] [] (mm_si M a10 j13 0)
        refine mr_goto 2 dd_Li_reckonSpare_75 (by decide) ?_
        exact mm_fg (mm_leq (mm_le_s (mm_le_s (mm_le_s (mm_le_n mm_le_e))))) h
      · have h := h.2 a17 hc38
        refine mr_aload_n dd_Li_reckonSpare_41 rfl ?_
        obtain ⟨hk18, h⟩ := h
        refine mr_geti ff_Li_49 dd_Li_reckonSpare_42 rs_5_3 hc38 hk18 ?_
        refine mr_if_ne 72 dd_Li_reckonSpare_45 (by decide) (fun hc45 => ?_) (fun hc45 => ?_)
        · have h := h.1 hc45
          refine mr_iinc 1 dd_Li_reckonSpare_72 rfl (by decide) (by decide) ?_
          show mm_Z l G Y_Li_reckonSpare K M0 bc bs 75 [some (.inr (some a0)), some (.inr r1), some (.inl (y2 + 1)), some (.inr (mm_p M a1 j4))] [] (mm_si M a10 j13 0)
          refine mr_goto 2 dd_Li_reckonSpare_75 (by decide) ?_
          exact mm_fg (mm_leq (mm_le_s (mm_le_s (mm_le_s (mm_le_n mm_le_e))))) h
        · have h := h.2 hc45
          refine mr_aload_n dd_Li_reckonSpare_48 rfl ?_
          refine mr_getr ff_Li_15 dd_Li_reckonSpare_49 rs_4_1 rfl hk8 ?_
          refine mr_iload_n dd_Li_reckonSpare_52 rfl ?_
          refine mr_aload_n dd_Li_reckonSpare_53 rfl ?_
          refine mr_getr ff_Li_15 dd_Li_reckonSpare_54 rs_4_1 rfl hk8 ?_
          refine mr_iload_n dd_Li_reckonSpare_57 rfl ?_
          obtain ⟨a19, ho20, h⟩ := h
          obtain ⟨hk21, h⟩ := h
          obtain ⟨j22, hj23, hm24, hl25, h⟩ := h
          refine mr_iald dd_Li_reckonSpare_58 ho20 hk21 hj23 hm24 hl25 ?_
          refine mr_aload_n dd_Li_reckonSpare_59 rfl ?_
          refine mr_getr ff_Li_15 dd_Li_reckonSpare_60 rs_4_1 rfl hk8 ?_
          refine mr_aload_n dd_Li_reckonSpare_63 rfl ?_
          refine mr_geti ff_Li_45 dd_Li_reckonSpare_64 rs_5_1 hc38 hk18 ?_
          obtain ⟨j26, hj27, hm28, hl29, h⟩ := h
          refine mr_iald dd_Li_reckonSpare_67 ho20 hk21 hj27 hm28 hl29 ?_
          refine mr_mmin dd_Li_reckonSpare_68 tb_238 tb_107 tb_8 tb_108 ⟨Nat.le_of_ble_eq_true rfl, Nat.le_of_ble_eq_true rfl⟩ ?_
          obtain ⟨j30, hj31, hm32, hl33, h⟩ := h
          refine mr_iast dd_Li_reckonSpare_71 ho20 hk21 hj31 hm32 hl33 ?_
          refine mr_iinc 1 dd_Li_reckonSpare_72 rfl (by decide) (by decide) ?_
          show mm_Z l G Y_Li_reckonSpare K M0 bc bs 75 [some (.inr (some a0)), some (.inr r1), some (.inl (y2 + 1)), some (.inr (mm_p M a1 j4))] [] (mm_si (mm_si M a10 j13 0) a19 j30 (if (mm_i (mm_si M a10 j13 0) a19 j26) < (mm_i (mm_si M a10 j13 0) a19 j22) then (mm_i (mm_si M a10 j13 0) a19 j26) else (mm_i (mm_si M a10 j13 0) a19 j22)))
          refine mr_goto 2 dd_Li_reckonSpare_75 (by decide) ?_
          exact mm_fg (mm_leq (mm_le_s (mm_le_s (mm_le_s (mm_le_n mm_le_e))))) h
