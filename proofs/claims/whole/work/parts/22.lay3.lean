/-! LAID STRETCHES (by program, wip/tools/walk.py): the class -/
set_option maxHeartbeats 4000000 in
set_option maxRecDepth 100000 in
theorem sg_PH_init {l : Launch} {G : mm_G} {K : Option mm_V → mm_M → Prop} {M : mm_M} {a0 : Nat} {xa : Int32}
    (h : ∀ q1, q1 = mm_z M → mm_Ok l G yy_Me_init Y_Me_init [.inr (some q1)] (mm_nw M 2 2) (fun r M4 => mm_X (mm_nw M 2 2) M4 → r = none ∧ mm_k M4 a0 = 1 ∧ ∀ q7, q7 = mm_z (mm_sp M4 a0 0 (some q1)) → mm_Ok l G yy_Co_init Y_Co_init [.inr (some q7)] (mm_nw (mm_sp M4 a0 0 (some q1)) 4 2) (fun r M10 => mm_X (mm_nw (mm_sp M4 a0 0 (some q1)) 4 2) M10 → r = none ∧ mm_k M10 a0 = 1 ∧ ∀ q13, q13 = mm_z (mm_sp M10 a0 1 (some q7)) → mm_Ok l G yy_Li_init Y_Li_init [.inr (some q13)] (mm_nw (mm_sp M10 a0 1 (some q7)) 5 3) (fun r M16 => mm_X (mm_nw (mm_sp M10 a0 1 (some q7)) 5 3) M16 → r = none ∧ mm_k M16 a0 = 1 ∧ ∀ q19, q19 = mm_z (mm_sp M16 a0 2 (some q13)) → mm_k (mm_nw (mm_sp M16 a0 2 (some q13)) 104 8) a0 = 1 ∧ ∀ q22, q22 = mm_z (mm_sp (mm_nw (mm_sp M16 a0 2 (some q13)) 104 8) a0 3 (some q19)) → mm_k (mm_nw (mm_sp (mm_nw (mm_sp M16 a0 2 (some q13)) 104 8) a0 3 (some q19)) 103 13) a0 = 1 ∧ ∀ q25, q25 = mm_z (mm_si (mm_si (mm_sp (mm_nw (mm_sp (mm_nw (mm_sp M16 a0 2 (some q13)) 104 8) a0 3 (some q19)) 103 13) a0 4 (some q22)) a0 5 1) a0 6 9) → mm_Ok l G yy_Pr_init Y_Pr_init [.inr (some q25), .inl 0, .inl (-1), .inl (if 4 < (if xa < 24 then xa else 24) then (if xa < 24 then xa else 24) else 4), .inl 1] (mm_nw (mm_si (mm_si (mm_sp (mm_nw (mm_sp (mm_nw (mm_sp M16 a0 2 (some q13)) 104 8) a0 3 (some q19)) 103 13) a0 4 (some q22)) a0 5 1) a0 6 9) 6 8) (fun r M28 => mm_X (mm_nw (mm_si (mm_si (mm_sp (mm_nw (mm_sp (mm_nw (mm_sp M16 a0 2 (some q13)) 104 8) a0 3 (some q19)) 103 13) a0 4 (some q22)) a0 5 1) a0 6 9) 6 8) M28 → r = none ∧ ∃ a30 : Nat, (mm_p (mm_si (mm_si (mm_sp (mm_nw (mm_sp (mm_nw (mm_sp M16 a0 2 (some q13)) 104 8) a0 3 (some q19)) 103 13) a0 4 (some q22)) a0 5 1) a0 6 9) a0 3) = some a30 ∧ mm_k M28 a30 = 104 ∧ ∃ j33 : Nat, 0 = nI j33 ∧ j33 < 2147483648 ∧ j33 < mm_l M28 a30 ∧ (∀ q, (some q25) = some q → mm_k M28 q = 6) ∧ K none (mm_sp M28 a30 j33 (some q25))))))) :
    mm_Ok l G yy_PH_init Y_PH_init [.inr (some a0), .inl xa] M K := by
  refine mm_go (by decide) rfl (fun _ => rfl) (Nat.le_of_ble_eq_true rfl) ?_
  show mm_Z l G Y_PH_init K M 14 132 0 [some (.inr (some a0)), some (.inl xa), none] [] M
  refine mr_aload_n dd_PH_init_0 rfl ?_
  refine mr_obji dd_PH_init_1 tb_23 tb_24 tb_25 ⟨Nat.le_of_ble_eq_true rfl, Nat.le_of_ble_eq_true rfl⟩ rfl ?_
  refine mr_aload_n dd_PH_init_4 rfl ?_
  refine mr_new (Y := Y_PH_init) (bc := 13) (bs := 130) fn_PH_7 dd_PH_init_5 ?_
  generalize hq2 : mm_z M = q1
  have h := h q1 hq2.symm
  refine mr_dup dd_PH_init_8 ?_
  refine mr_callI (Yc := Y_Me_init) (M := (mm_nw M 2 2)) (bc := 11) (bs := 124) (st := [.inr (some q1), .inr (some a0)]) (vs := []) fc_PH_9 iv_Me_init ⟨rfl, rfl⟩ dd_PH_init_9 ⟨Nat.le_of_ble_eq_true rfl, Nat.le_of_ble_eq_true rfl⟩ rfl (Nat.le_of_ble_eq_true rfl) rfl h (fun r M4 hX5 h => ?_)
  replace h := h hX5
  obtain ⟨rfl, h⟩ := h
  show mm_Z l G Y_PH_init K M 11 124 12 [some (.inr (some a0)), some (.inl xa), none] [.inr (some q1), .inr (some a0)] M4
  obtain ⟨hk6, h⟩ := h
  refine mr_putr ff_PH_10 fp_0 (Or.inr ⟨rfl, rfl, tb_152⟩) dd_PH_init_12 (ty := tt0 0) (by decide +kernel) (Or.inl ⟨_, rfl⟩) rs_0_0 rfl hk6 ?_
  refine mr_aload_n dd_PH_init_15 rfl ?_
  refine mr_new (Y := Y_PH_init) (bc := 10) (bs := 122) fn_PH_16 dd_PH_init_16 ?_
  generalize hq8 : mm_z (mm_sp M4 a0 0 (some q1)) = q7
  have h := h q7 hq8.symm
  refine mr_dup dd_PH_init_19 ?_
  refine mr_callI (Yc := Y_Co_init) (M := (mm_nw (mm_sp M4 a0 0 (some q1)) 4 2)) (bc := 9) (bs := 62) (st := [.inr (some q7), .inr (some a0)]) (vs := []) fc_PH_18 iv_Co_init ⟨rfl, rfl⟩ dd_PH_init_20 ⟨Nat.le_of_ble_eq_true rfl, Nat.le_of_ble_eq_true rfl⟩ rfl (Nat.le_of_ble_eq_true rfl) rfl h (fun r M10 hX11 h => ?_)
  replace h := h hX11
  obtain ⟨rfl, h⟩ := h
  show mm_Z l G Y_PH_init K M 9 62 23 [some (.inr (some a0)), some (.inl xa), none] [.inr (some q7), .inr (some a0)] M10
  obtain ⟨hk12, h⟩ := h
  refine mr_putr ff_PH_19 fp_0 (Or.inr ⟨rfl, rfl, tb_153⟩) dd_PH_init_23 (ty := tt0 1) (by decide +kernel) (Or.inl ⟨_, rfl⟩) rs_0_1 rfl hk12 ?_
  refine mr_aload_n dd_PH_init_26 rfl ?_
  refine mr_new (Y := Y_PH_init) (bc := 8) (bs := 59) fn_PH_23 dd_PH_init_27 ?_
  generalize hq14 : mm_z (mm_sp M10 a0 1 (some q7)) = q13
  have h := h q13 hq14.symm
  refine mr_dup dd_PH_init_30 ?_
  refine mr_callI (Yc := Y_Li_init) (M := (mm_nw (mm_sp M10 a0 1 (some q7)) 5 3)) (bc := 5) (bs := 35) (st := [.inr (some q13), .inr (some a0)]) (vs := []) fc_PH_25 iv_Li_init ⟨rfl, rfl⟩ dd_PH_init_31 ⟨Nat.le_of_ble_eq_true rfl, Nat.le_of_ble_eq_true rfl⟩ rfl (Nat.le_of_ble_eq_true rfl) rfl h (fun r M16 hX17 h => ?_)
  replace h := h hX17
  obtain ⟨rfl, h⟩ := h
  show mm_Z l G Y_PH_init K M 5 35 34 [some (.inr (some a0)), some (.inl xa), none] [.inr (some q13), .inr (some a0)] M16
  obtain ⟨hk18, h⟩ := h
  refine mr_putr ff_PH_26 fp_0 (Or.inr ⟨rfl, rfl, tb_154⟩) dd_PH_init_34 (ty := tt0 2) (by decide +kernel) (Or.inl ⟨_, rfl⟩) rs_0_2 rfl hk18 ?_
  refine mr_aload_n dd_PH_init_37 rfl ?_
  refine mr_bipush 8 dd_PH_init_38 (by decide) ?_
  refine mr_newq (t := 4) (n := 8) dd_PH_init_40 tb_103 tn_104 (by decide) (by decide) (fun _ => rfl) rfl (by decide) ?_
  generalize hq20 : mm_z (mm_sp M16 a0 2 (some q13)) = q19
  have h := h q19 hq20.symm
  obtain ⟨hk21, h⟩ := h
  refine mr_putr ff_PH_32 fp_0 (Or.inr ⟨rfl, rfl, tb_155⟩) dd_PH_init_43 (ty := tt0 3) (by decide +kernel) (Or.inr ⟨_, rfl⟩) rs_0_3 rfl hk21 ?_
  refine mr_aload_n dd_PH_init_46 rfl ?_
  refine mr_bipush 13 dd_PH_init_47 (by decide) ?_
  refine mr_newq (t := 3) (n := 13) dd_PH_init_49 tb_105 tn_74 (by decide) (by decide) (fun _ => rfl) rfl (by decide) ?_
  generalize hq23 : mm_z (mm_sp (mm_nw (mm_sp M16 a0 2 (some q13)) 104 8) a0 3 (some q19)) = q22
  have h := h q22 hq23.symm
  obtain ⟨hk24, h⟩ := h
  refine mr_putr ff_PH_38 fp_0 (Or.inr ⟨rfl, rfl, tb_156⟩) dd_PH_init_52 (ty := tt0 4) (by decide +kernel) (Or.inr ⟨_, rfl⟩) rs_0_4 rfl hk24 ?_
  refine mr_aload_n dd_PH_init_55 rfl ?_
  refine mr_iconst 1 dd_PH_init_56 (by decide) ?_
  refine mr_puti ff_PH_42 fp_0 (Or.inl rfl) dd_PH_init_57 (Or.inl (by decide +kernel)) rs_0_5 rfl hk24 ?_
  refine mr_aload_n dd_PH_init_60 rfl ?_
  refine mr_bipush 9 dd_PH_init_61 (by decide) ?_
  refine mr_puti ff_PH_46 fp_0 (Or.inl rfl) dd_PH_init_63 (Or.inl (by decide +kernel)) rs_0_6 rfl hk24 ?_
  refine mr_iconst 4 dd_PH_init_66 (by decide) ?_
  refine mr_bipush 24 dd_PH_init_67 (by decide) ?_
  refine mr_iload_n dd_PH_init_69 rfl ?_
  refine mr_mmin dd_PH_init_70 tb_106 tb_107 tb_8 tb_108 ⟨Nat.le_of_ble_eq_true rfl, Nat.le_of_ble_eq_true rfl⟩ ?_
  refine mr_mmax dd_PH_init_73 tb_109 tb_110 tb_8 tb_111 ⟨Nat.le_of_ble_eq_true rfl, Nat.le_of_ble_eq_true rfl⟩ ?_
  refine mr_istore_n dd_PH_init_76 (by decide) ?_
  show mm_Z l G Y_PH_init K M 3 14 77 [some (.inr (some a0)), some (.inl xa), some (.inl (if 4 < (if xa < 24 then xa else 24) then (if xa < 24 then xa else 24) else 4))] [] (mm_si (mm_si (mm_sp (mm_nw (mm_sp (mm_nw (mm_sp M16 a0 2 (some q13)) 104 8) a0 3 (some q19)) 103 13) a0 4 (some q22)) a0 5 1) a0 6 9)
  refine mr_aload_n dd_PH_init_77 rfl ?_
  refine mr_getr ff_PH_32 dd_PH_init_78 rs_0_3 rfl hk24 ?_
  refine mr_iconst 0 dd_PH_init_81 (by decide) ?_
  refine mr_new (Y := Y_PH_init) (bc := 2) (bs := 6) fn_PH_30 dd_PH_init_82 ?_
  generalize hq26 : mm_z (mm_si (mm_si (mm_sp (mm_nw (mm_sp (mm_nw (mm_sp M16 a0 2 (some q13)) 104 8) a0 3 (some q19)) 103 13) a0 4 (some q22)) a0 5 1) a0 6 9) = q25
  have h := h q25 hq26.symm
  refine mr_dup dd_PH_init_85 ?_
  refine mr_iconst 0 dd_PH_init_86 (by decide) ?_
  refine mr_iconst (-1) dd_PH_init_87 (by decide) ?_
  refine mr_iload_n dd_PH_init_88 rfl ?_
  refine mr_iconst 1 dd_PH_init_89 (by decide) ?_
  refine mr_callI (Yc := Y_Pr_init) (M := (mm_nw (mm_si (mm_si (mm_sp (mm_nw (mm_sp (mm_nw (mm_sp M16 a0 2 (some q13)) 104 8) a0 3 (some q19)) 103 13) a0 4 (some q22)) a0 5 1) a0 6 9) 6 8)) (bc := 1) (bs := 2) (st := [.inr (some q25), .inl 0, .inr (mm_p (mm_si (mm_si (mm_sp (mm_nw (mm_sp (mm_nw (mm_sp M16 a0 2 (some q13)) 104 8) a0 3 (some q19)) 103 13) a0 4 (some q22)) a0 5 1) a0 6 9) a0 3)]) (vs := [.inl 0, .inl (-1), .inl (if 4 < (if xa < 24 then xa else 24) then (if xa < 24 then xa else 24) else 4), .inl 1]) fc_PH_58 iv_Pr_init ⟨rfl, rfl⟩ dd_PH_init_90 ⟨Nat.le_of_ble_eq_true rfl, Nat.le_of_ble_eq_true rfl⟩ rfl (Nat.le_of_ble_eq_true rfl) rfl h (fun r M28 hX29 h => ?_)
  replace h := h hX29
  obtain ⟨rfl, h⟩ := h
  show mm_Z l G Y_PH_init K M 1 2 93 [some (.inr (some a0)), some (.inl xa), some (.inl (if 4 < (if xa < 24 then xa else 24) then (if xa < 24 then xa else 24) else 4))] [.inr (some q25), .inl 0, .inr (mm_p (mm_si (mm_si (mm_sp (mm_nw (mm_sp (mm_nw (mm_sp M16 a0 2 (some q13)) 104 8) a0 3 (some q19)) 103 13) a0 4 (some q22)) a0 5 1) a0 6 9) a0 3)] M28
  obtain ⟨a30, ho31, h⟩ := h
  obtain ⟨hk32, h⟩ := h
  obtain ⟨j33, hj34, hm35, hl36, h⟩ := h
  obtain ⟨hv37, h⟩ := h
  refine mr_aast (t := 4) (E := "ProcessHeaps$HeapProcess") dd_PH_init_93 ho31 hk32 (fun _ => rfl) (by decide) (by decide) hj34 hm35 hl36 (fun q e => ⟨5, hv37 q e, cs_5⟩) ?_
  exact mr_return dd_PH_init_94 rfl h
set_option maxHeartbeats 4000000 in
set_option maxRecDepth 100000 in
theorem sg_PH_spawn {l : Launch} {G : mm_G} {K : Option mm_V → mm_M → Prop} {M : mm_M} {a0 : Nat} {xa : Int32} {xb : Int32} {xc : Int32}
    (h : mm_k M a0 = 1 ∧ mm_Ok l G yy_PH_livingProcess Y_PH_livingProcess [.inr (some a0), .inl xa] M (fun r M1 => mm_X M M1 → ∃ o4 : Option Nat, r = some (.inr o4) ∧ (o4 = none → K (some (.inl (-1))) M1) ∧ (∀ a5 : Nat, o4 = some a5 → (xb < 1 → K (some (.inl (-1))) M1) ∧ (¬ xb < 1 → (xb ≤ 24 → ((mm_i M1 a0 5) < 8 → (xc = 0 → ∀ q6, q6 = mm_z M1 → mm_Ok l G yy_Pr_init Y_Pr_init [.inr (some q6), .inl (mm_i M1 a0 5), .inl xa, .inl xb, .inl xc] (mm_nw M1 6 8) (fun r M9 => mm_X (mm_nw M1 6 8) M9 → r = none ∧ ∃ a11 : Nat, (mm_p M1 a0 3) = some a11 ∧ mm_k M9 a11 = 104 ∧ ∃ j14 : Nat, (mm_i M1 a0 5) = nI j14 ∧ j14 < 2147483648 ∧ j14 < mm_l M9 a11 ∧ (∀ q, (some q6) = some q → mm_k M9 q = 6) ∧ mm_k (mm_sp M9 a11 j14 (some q6)) a0 = 1 ∧ K (some (.inl (mm_i M1 a0 5))) (mm_si (mm_sp M9 a11 j14 (some q6)) a0 5 ((mm_i (mm_sp M9 a11 j14 (some q6)) a0 5) + 1)))) ∧ (¬ xc = 0 → mm_Ok l G yy_PH_canPay Y_PH_canPay [.inr (some a0), .inl xa, .inl xb] M1 (fun r M20 => mm_X M1 M20 → ∃ x22 : Int32, r = some (.inl x22) ∧ (¬ x22 = 0 → ∀ q23, q23 = mm_z M20 → mm_Ok l G yy_Pr_init Y_Pr_init [.inr (some q23), .inl (mm_i M20 a0 5), .inl xa, .inl xb, .inl xc] (mm_nw M20 6 8) (fun r M26 => mm_X (mm_nw M20 6 8) M26 → r = none ∧ ∃ a28 : Nat, (mm_p M20 a0 3) = some a28 ∧ mm_k M26 a28 = 104 ∧ ∃ j31 : Nat, (mm_i M20 a0 5) = nI j31 ∧ j31 < 2147483648 ∧ j31 < mm_l M26 a28 ∧ (∀ q, (some q23) = some q → mm_k M26 q = 6) ∧ mm_k (mm_sp M26 a28 j31 (some q23)) a0 = 1 ∧ K (some (.inl (mm_i M20 a0 5))) (mm_si (mm_sp M26 a28 j31 (some q23)) a0 5 ((mm_i (mm_sp M26 a28 j31 (some q23)) a0 5) + 1)))) ∧ (x22 = 0 → K (some (.inl (-5))) M20)))) ∧ (¬ (mm_i M1 a0 5) < 8 → K (some (.inl (-4))) M1)) ∧ (¬ xb ≤ 24 → K (some (.inl (-1))) M1))))) :
    mm_Ok l G yy_PH_spawn Y_PH_spawn [.inr (some a0), .inl xa, .inl xb, .inl xc] M K := by
  refine mm_go (by decide) rfl (fun q => by cases q) (Nat.le_of_ble_eq_true rfl) ?_
  show mm_Z l G Y_PH_spawn K M 2 12 0 [some (.inr (some a0)), some (.inl xa), some (.inl xb), some (.inl xc), none] [] M
  refine mr_aload_n dd_PH_spawn_0 rfl ?_
  refine mr_iload_n dd_PH_spawn_1 rfl ?_
  obtain ⟨hk3, h⟩ := h
  refine mr_callV0 (Yc := Y_PH_livingProcess) (M := M) (st := []) (vs := [.inl xa]) (ci := 0) fc_PH_61 iv_PH_livingProcess sv_PH_livingProcess dd_PH_spawn_2 ⟨Nat.le_of_ble_eq_true rfl, Nat.le_of_ble_eq_true rfl⟩ (by decide) rfl rfl (Nat.le_of_ble_eq_true rfl) rfl hk3 rfl rfl h (fun r M1 hX2 h => ?_)
  replace h := h hX2
  obtain ⟨o4, rfl, h⟩ := h
  show mm_Z l G Y_PH_spawn K M 2 12 5 [some (.inr (some a0)), some (.inl xa), some (.inl xb), some (.inl xc), none] [.inr o4] M1
  refine mr_ifnull 19 dd_PH_spawn_5 (by decide) (fun hc5 => ?_) (fun a5 hc5 => ?_)
  · have h := h.1 hc5
    refine mr_iconst (-1) dd_PH_spawn_19 (by decide) ?_
    exact mr_ireturn dd_PH_spawn_20 rfl h
  · have h := h.2 a5 hc5
    refine mr_iload_n dd_PH_spawn_8 rfl ?_
    refine mr_iconst 1 dd_PH_spawn_9 (by decide) ?_
    refine mr_icmp_lt 19 dd_PH_spawn_10 (by decide) (fun hc10 => ?_) (fun hc10 => ?_)
    · have h := h.1 hc10
      refine mr_iconst (-1) dd_PH_spawn_19 (by decide) ?_
      exact mr_ireturn dd_PH_spawn_20 rfl h
    · have h := h.2 hc10
      refine mr_iload_n dd_PH_spawn_13 rfl ?_
      refine mr_bipush 24 dd_PH_spawn_14 (by decide) ?_
      refine mr_icmp_le 21 dd_PH_spawn_16 (by decide) (fun hc16 => ?_) (fun hc16 => ?_)
      · have h := h.1 hc16
        refine mr_aload_n dd_PH_spawn_21 rfl ?_
        refine mr_geti ff_PH_42 dd_PH_spawn_22 rs_0_5 rfl (mm_Xk hX2 hk3 (by decide)) ?_
        refine mr_bipush 8 dd_PH_spawn_25 (by decide) ?_
        refine mr_icmp_lt 33 dd_PH_spawn_27 (by decide) (fun hc27 => ?_) (fun hc27 => ?_)
        · have h := h.1 hc27
          refine mr_iload_n dd_PH_spawn_33 rfl ?_
          refine mr_if_eq 49 dd_PH_spawn_34 (by decide) (fun hc34 => ?_) (fun hc34 => ?_)
          · have h := h.1 hc34
            refine mr_aload_n dd_PH_spawn_49 rfl ?_
            refine mr_geti ff_PH_42 dd_PH_spawn_50 rs_0_5 rfl (mm_Xk hX2 hk3 (by decide)) ?_
            refine mr_istore dd_PH_spawn_53 (by decide) ?_
            show mm_Z l G Y_PH_spawn K M 2 12 55 [some (.inr (some a0)), some (.inl xa), some (.inl xb), some (.inl xc), some (.inl (mm_i M1 a0 5))] [] M1
            refine mr_aload_n dd_PH_spawn_55 rfl ?_
            refine mr_getr ff_PH_32 dd_PH_spawn_56 rs_0_3 rfl (mm_Xk hX2 hk3 (by decide)) ?_
            refine mr_iload dd_PH_spawn_59 rfl ?_
            refine mr_new (Y := Y_PH_spawn) (bc := 1) (bs := 4) fn_PH_30 dd_PH_spawn_61 ?_
            generalize hq7 : mm_z M1 = q6
            have h := h q6 hq7.symm
            refine mr_dup dd_PH_spawn_64 ?_
            refine mr_iload dd_PH_spawn_65 rfl ?_
            refine mr_iload_n dd_PH_spawn_67 rfl ?_
            refine mr_iload_n dd_PH_spawn_68 rfl ?_
            refine mr_iload_n dd_PH_spawn_69 rfl ?_
            refine mr_callI (Yc := Y_Pr_init) (M := (mm_nw M1 6 8)) (bc := 0) (bs := 0) (st := [.inr (some q6), .inl (mm_i M1 a0 5), .inr (mm_p M1 a0 3)]) (vs := [.inl (mm_i M1 a0 5), .inl xa, .inl xb, .inl xc]) fc_PH_58 iv_Pr_init ⟨rfl, rfl⟩ dd_PH_spawn_70 ⟨Nat.le_of_ble_eq_true rfl, Nat.le_of_ble_eq_true rfl⟩ rfl (Nat.le_of_ble_eq_true rfl) rfl h (fun r M9 hX10 h => ?_)
            replace h := h hX10
            obtain ⟨rfl, h⟩ := h
            show mm_Z l G Y_PH_spawn K M 0 0 73 [some (.inr (some a0)), some (.inl xa), some (.inl xb), some (.inl xc), some (.inl (mm_i M1 a0 5))] [.inr (some q6), .inl (mm_i M1 a0 5), .inr (mm_p M1 a0 3)] M9
            obtain ⟨a11, ho12, h⟩ := h
            obtain ⟨hk13, h⟩ := h
            obtain ⟨j14, hj15, hm16, hl17, h⟩ := h
            obtain ⟨hv18, h⟩ := h
            refine mr_aast (t := 4) (E := "ProcessHeaps$HeapProcess") dd_PH_spawn_73 ho12 hk13 (fun _ => rfl) (by decide) (by decide) hj15 hm16 hl17 (fun q e => ⟨5, hv18 q e, cs_5⟩) ?_
            refine mr_aload_n dd_PH_spawn_74 rfl ?_
            refine mr_dup dd_PH_spawn_75 ?_
            obtain ⟨hk19, h⟩ := h
            refine mr_geti ff_PH_42 dd_PH_spawn_76 rs_0_5 rfl hk19 ?_
            refine mr_iconst 1 dd_PH_spawn_79 (by decide) ?_
            refine mr_iadd dd_PH_spawn_80 ?_
            refine mr_puti ff_PH_42 fp_0 (Or.inl rfl) dd_PH_spawn_81 (Or.inl (by decide +kernel)) rs_0_5 rfl hk19 ?_
            refine mr_iload dd_PH_spawn_84 rfl ?_
            exact mr_ireturn dd_PH_spawn_86 rfl h
          · have h := h.2 hc34
            refine mr_aload_n dd_PH_spawn_37 rfl ?_
            refine mr_iload_n dd_PH_spawn_38 rfl ?_
            refine mr_iload_n dd_PH_spawn_39 rfl ?_
            refine mr_callV0 (Yc := Y_PH_canPay) (M := M1) (st := []) (vs := [.inl xa, .inl xb]) (ci := 0) fc_PH_65 iv_PH_canPay sv_PH_canPay dd_PH_spawn_40 ⟨Nat.le_of_ble_eq_true rfl, Nat.le_of_ble_eq_true rfl⟩ (by decide) rfl rfl (Nat.le_of_ble_eq_true rfl) rfl (mm_Xk hX2 hk3 (by decide)) rfl rfl h (fun r M20 hX21 h => ?_)
            replace h := h hX21
            obtain ⟨x22, rfl, h⟩ := h
            show mm_Z l G Y_PH_spawn K M 2 12 43 [some (.inr (some a0)), some (.inl xa), some (.inl xb), some (.inl xc), none] [.inl x22] M20
            refine mr_if_ne 49 dd_PH_spawn_43 (by decide) (fun hc43 => ?_) (fun hc43 => ?_)
            · have h := h.1 hc43
              refine mr_aload_n dd_PH_spawn_49 rfl ?_
              refine mr_geti ff_PH_42 dd_PH_spawn_50 rs_0_5 rfl (mm_Xk hX21 (mm_Xk hX2 hk3 (by decide)) (by decide)) ?_
              refine mr_istore dd_PH_spawn_53 (by decide) ?_
              show mm_Z l G Y_PH_spawn K M 2 12 55 [some (.inr (some a0)), some (.inl xa), some (.inl xb), some (.inl xc), some (.inl (mm_i M20 a0 5))] [] M20
              refine mr_aload_n dd_PH_spawn_55 rfl ?_
              refine mr_getr ff_PH_32 dd_PH_spawn_56 rs_0_3 rfl (mm_Xk hX21 (mm_Xk hX2 hk3 (by decide)) (by decide)) ?_
              refine mr_iload dd_PH_spawn_59 rfl ?_
              refine mr_new (Y := Y_PH_spawn) (bc := 1) (bs := 4) fn_PH_30 dd_PH_spawn_61 ?_
              generalize hq24 : mm_z M20 = q23
              have h := h q23 hq24.symm
              refine mr_dup dd_PH_spawn_64 ?_
              refine mr_iload dd_PH_spawn_65 rfl ?_
              refine mr_iload_n dd_PH_spawn_67 rfl ?_
              refine mr_iload_n dd_PH_spawn_68 rfl ?_
              refine mr_iload_n dd_PH_spawn_69 rfl ?_
              refine mr_callI (Yc := Y_Pr_init) (M := (mm_nw M20 6 8)) (bc := 0) (bs := 0) (st := [.inr (some q23), .inl (mm_i M20 a0 5), .inr (mm_p M20 a0 3)]) (vs := [.inl (mm_i M20 a0 5), .inl xa, .inl xb, .inl xc]) fc_PH_58 iv_Pr_init ⟨rfl, rfl⟩ dd_PH_spawn_70 ⟨Nat.le_of_ble_eq_true rfl, Nat.le_of_ble_eq_true rfl⟩ rfl (Nat.le_of_ble_eq_true rfl) rfl h (fun r M26 hX27 h => ?_)
              replace h := h hX27
              obtain ⟨rfl, h⟩ := h
              show mm_Z l G Y_PH_spawn K M 0 0 73 [some (.inr (some a0)), some (.inl xa), some (.inl xb), some (.inl xc), some (.inl (mm_i M20 a0 5))] [.inr (some q23), .inl (mm_i M20 a0 5), .inr (mm_p M20 a0 3)] M26
              obtain ⟨a28, ho29, h⟩ := h
              obtain ⟨hk30, h⟩ := h
              obtain ⟨j31, hj32, hm33, hl34, h⟩ := h
              obtain ⟨hv35, h⟩ := h
              refine mr_aast (t := 4) (E := "ProcessHeaps$HeapProcess") dd_PH_spawn_73 ho29 hk30 (fun _ => rfl) (by decide) (by decide) hj32 hm33 hl34 (fun q e => ⟨5, hv35 q e, cs_5⟩) ?_
              refine mr_aload_n dd_PH_spawn_74 rfl ?_
              refine mr_dup dd_PH_spawn_75 ?_
              obtain ⟨hk36, h⟩ := h
              refine mr_geti ff_PH_42 dd_PH_spawn_76 rs_0_5 rfl hk36 ?_
              refine mr_iconst 1 dd_PH_spawn_79 (by decide) ?_
              refine mr_iadd dd_PH_spawn_80 ?_
              refine mr_puti ff_PH_42 fp_0 (Or.inl rfl) dd_PH_spawn_81 (Or.inl (by decide +kernel)) rs_0_5 rfl hk36 ?_
              refine mr_iload dd_PH_spawn_84 rfl ?_
              exact mr_ireturn dd_PH_spawn_86 rfl h
            · have h := h.2 hc43
              refine mr_bipush (-5) dd_PH_spawn_46 (by decide) ?_
              exact mr_ireturn dd_PH_spawn_48 rfl h
        · have h := h.2 hc27
          refine mr_bipush (-4) dd_PH_spawn_30 (by decide) ?_
          exact mr_ireturn dd_PH_spawn_32 rfl h
      · have h := h.2 hc16
        refine mr_iconst (-1) dd_PH_spawn_19 (by decide) ?_
        exact mr_ireturn dd_PH_spawn_20 rfl h
set_option maxHeartbeats 4000000 in
set_option maxRecDepth 100000 in
theorem sg_PH_livingProcess {l : Launch} {G : mm_G} {K : Option mm_V → mm_M → Prop} {M : mm_M} {a0 : Nat} {xa : Int32}
    (h : mm_k M a0 = 1 ∧ mm_Ok l G yy_PH_isMade Y_PH_isMade [.inr (some a0), .inl xa] M (fun r M1 => mm_X M M1 → ∃ x4 : Int32, r = some (.inl x4) ∧ (x4 = 0 → K (some (.inr none)) M1) ∧ (¬ x4 = 0 → ∃ a5 : Nat, (mm_p M1 a0 3) = some a5 ∧ mm_k M1 a5 = 104 ∧ ∃ j8 : Nat, xa = nI j8 ∧ j8 < 2147483648 ∧ j8 < mm_l M1 a5 ∧ ∃ a14 : Nat, (mm_p M1 a5 j8) = some a14 ∧ mm_k M1 a14 = 6 ∧ mm_Ok l G yy_Pr_isLiving Y_Pr_isLiving [.inr (some a14)] M1 (fun r M12 => mm_X M1 M12 → ∃ x17 : Int32, r = some (.inl x17) ∧ (x17 = 0 → K (some (.inr none)) M12) ∧ (¬ x17 = 0 → ∃ a18 : Nat, (mm_p M12 a0 3) = some a18 ∧ mm_k M12 a18 = 104 ∧ ∃ j21 : Nat, xa = nI j21 ∧ j21 < 2147483648 ∧ j21 < mm_l M12 a18 ∧ K (some (.inr (mm_p M12 a18 j21))) M12))))) :
    mm_Ok l G yy_PH_livingProcess Y_PH_livingProcess [.inr (some a0), .inl xa] M K := by
  refine mm_go (by decide) rfl (fun q => by cases q) (Nat.le_of_ble_eq_true rfl) ?_
  show mm_Z l G Y_PH_livingProcess K M 0 0 0 [some (.inr (some a0)), some (.inl xa)] [] M
  refine mr_aload_n dd_PH_livingProcess_0 rfl ?_
  refine mr_iload_n dd_PH_livingProcess_1 rfl ?_
  obtain ⟨hk3, h⟩ := h
  refine mr_callV0 (Yc := Y_PH_isMade) (M := M) (st := []) (vs := [.inl xa]) (ci := 0) fc_PH_152 iv_PH_isMade sv_PH_isMade dd_PH_livingProcess_2 ⟨Nat.le_of_ble_eq_true rfl, Nat.le_of_ble_eq_true rfl⟩ (by decide) rfl rfl (Nat.le_of_ble_eq_true rfl) rfl hk3 rfl rfl h (fun r M1 hX2 h => ?_)
  replace h := h hX2
  obtain ⟨x4, rfl, h⟩ := h
  show mm_Z l G Y_PH_livingProcess K M 0 0 5 [some (.inr (some a0)), some (.inl xa)] [.inl x4] M1
  refine mr_if_eq 29 dd_PH_livingProcess_5 (by decide) (fun hc5 => ?_) (fun hc5 => ?_)
  · have h := h.1 hc5
    refine mr_null dd_PH_livingProcess_29 ?_
    exact mr_areturn dd_PH_livingProcess_30 rfl (Or.inl ⟨_, rfl⟩) h
  · have h := h.2 hc5
    refine mr_aload_n dd_PH_livingProcess_8 rfl ?_
    refine mr_getr ff_PH_32 dd_PH_livingProcess_9 rs_0_3 rfl (mm_Xk hX2 hk3 (by decide)) ?_
    refine mr_iload_n dd_PH_livingProcess_12 rfl ?_
    obtain ⟨a5, ho6, h⟩ := h
    obtain ⟨hk7, h⟩ := h
    obtain ⟨j8, hj9, hm10, hl11, h⟩ := h
    refine mr_aald (t := 4) dd_PH_livingProcess_13 ho6 hk7 (fun _ => rfl) (by decide) hj9 hm10 hl11 ?_
    obtain ⟨a14, ho15, h⟩ := h
    obtain ⟨hk16, h⟩ := h
    refine mr_callV0 (Yc := Y_Pr_isLiving) (M := M1) (st := []) (vs := []) (ci := 5) fc_PH_182 iv_Pr_isLiving sv_Pr_isLiving dd_PH_livingProcess_14 ⟨Nat.le_of_ble_eq_true rfl, Nat.le_of_ble_eq_true rfl⟩ (by decide) rfl rfl (Nat.le_of_ble_eq_true rfl) ho15 hk16 rfl rfl h (fun r M12 hX13 h => ?_)
    replace h := h hX13
    obtain ⟨x17, rfl, h⟩ := h
    show mm_Z l G Y_PH_livingProcess K M 0 0 17 [some (.inr (some a0)), some (.inl xa)] [.inl x17] M12
    refine mr_if_eq 29 dd_PH_livingProcess_17 (by decide) (fun hc17 => ?_) (fun hc17 => ?_)
    · have h := h.1 hc17
      refine mr_null dd_PH_livingProcess_29 ?_
      exact mr_areturn dd_PH_livingProcess_30 rfl (Or.inl ⟨_, rfl⟩) h
    · have h := h.2 hc17
      refine mr_aload_n dd_PH_livingProcess_20 rfl ?_
      refine mr_getr ff_PH_32 dd_PH_livingProcess_21 rs_0_3 rfl (mm_Xk hX13 (mm_Xk hX2 hk3 (by decide)) (by decide)) ?_
      refine mr_iload_n dd_PH_livingProcess_24 rfl ?_
      obtain ⟨a18, ho19, h⟩ := h
      obtain ⟨hk20, h⟩ := h
      obtain ⟨j21, hj22, hm23, hl24, h⟩ := h
      refine mr_aald (t := 4) dd_PH_livingProcess_25 ho19 hk20 (fun _ => rfl) (by decide) hj22 hm23 hl24 ?_
      refine mr_goto 30 dd_PH_livingProcess_26 (by decide) ?_
      exact mr_areturn dd_PH_livingProcess_30 rfl (Or.inl ⟨_, rfl⟩) h
set_option maxHeartbeats 4000000 in
set_option maxRecDepth 100000 in
theorem sg_PH_isMade {l : Launch} {G : mm_G} {K : Option mm_V → mm_M → Prop} {M : mm_M} {a0 : Nat} {xa : Int32}
    (h : (xa < 0 → K (some (.inl 0)) M) ∧ (¬ xa < 0 → (8 ≤ xa → K (some (.inl 0)) M) ∧ (¬ 8 ≤ xa → mm_k M a0 = 1 ∧ ∃ a2 : Nat, (mm_p M a0 3) = some a2 ∧ mm_k M a2 = 104 ∧ ∃ j5 : Nat, xa = nI j5 ∧ j5 < 2147483648 ∧ j5 < mm_l M a2 ∧ ((mm_p M a2 j5) = none → K (some (.inl 0)) M) ∧ (∀ a9 : Nat, (mm_p M a2 j5) = some a9 → K (some (.inl 1)) M)))) :
    mm_Ok l G yy_PH_isMade Y_PH_isMade [.inr (some a0), .inl xa] M K := by
  refine mm_go (by decide) rfl (fun q => by cases q) (Nat.le_of_ble_eq_true rfl) ?_
  show mm_Z l G Y_PH_isMade K M 0 0 0 [some (.inr (some a0)), some (.inl xa)] [] M
  refine mr_iload_n dd_PH_isMade_0 rfl ?_
  refine mr_if_lt 23 dd_PH_isMade_1 (by decide) (fun hc1 => ?_) (fun hc1 => ?_)
  · have h := h.1 hc1
    refine mr_iconst 0 dd_PH_isMade_23 (by decide) ?_
    exact mr_zreturn dd_PH_isMade_24 rfl (Or.inl rfl) h
  · have h := h.2 hc1
    refine mr_iload_n dd_PH_isMade_4 rfl ?_
    refine mr_bipush 8 dd_PH_isMade_5 (by decide) ?_
    refine mr_icmp_ge 23 dd_PH_isMade_7 (by decide) (fun hc7 => ?_) (fun hc7 => ?_)
    · have h := h.1 hc7
      refine mr_iconst 0 dd_PH_isMade_23 (by decide) ?_
      exact mr_zreturn dd_PH_isMade_24 rfl (Or.inl rfl) h
    · have h := h.2 hc7
      refine mr_aload_n dd_PH_isMade_10 rfl ?_
      obtain ⟨hk1, h⟩ := h
      refine mr_getr ff_PH_32 dd_PH_isMade_11 rs_0_3 rfl hk1 ?_
      refine mr_iload_n dd_PH_isMade_14 rfl ?_
      obtain ⟨a2, ho3, h⟩ := h
      obtain ⟨hk4, h⟩ := h
      obtain ⟨j5, hj6, hm7, hl8, h⟩ := h
      refine mr_aald (t := 4) dd_PH_isMade_15 ho3 hk4 (fun _ => rfl) (by decide) hj6 hm7 hl8 ?_
      refine mr_ifnull 23 dd_PH_isMade_16 (by decide) (fun hc16 => ?_) (fun a9 hc16 => ?_)
      · have h := h.1 hc16
        refine mr_iconst 0 dd_PH_isMade_23 (by decide) ?_
        exact mr_zreturn dd_PH_isMade_24 rfl (Or.inl rfl) h
      · have h := h.2 a9 hc16
        refine mr_iconst 1 dd_PH_isMade_19 (by decide) ?_
        refine mr_goto 24 dd_PH_isMade_20 (by decide) ?_
        exact mr_zreturn dd_PH_isMade_24 rfl (Or.inr rfl) h
set_option maxHeartbeats 4000000 in
set_option maxRecDepth 100000 in
theorem sg_PH_canPay {l : Launch} {G : mm_G} {K : Option mm_V → mm_M → Prop} {M : mm_M} {a0 : Nat} {xa : Int32} {xb : Int32}
    (h : mm_k M a0 = 1 ∧ ∃ a4 : Nat, (mm_p M a0 2) = some a4 ∧ mm_k M a4 = 5 ∧ mm_Ok l G yy_Li_reckon Y_Li_reckon [.inr (some a4), .inr (mm_p M a0 3), .inr (mm_p M a0 0)] M (fun r M2 => mm_X M M2 → r = none ∧ ∃ a7 : Nat, (mm_p M2 a0 2) = some a7 ∧ mm_k M2 a7 = 5 ∧ ∃ a10 : Nat, (mm_p M2 a7 1) = some a10 ∧ mm_k M2 a10 = 100 ∧ ∃ j13 : Nat, xa = nI j13 ∧ j13 < 2147483648 ∧ j13 < mm_l M2 a10 ∧ ((mm_i M2 a10 j13) < xb → K (some (.inl 0)) M2) ∧ (¬ (mm_i M2 a10 j13) < xb → K (some (.inl 1)) M2))) :
    mm_Ok l G yy_PH_canPay Y_PH_canPay [.inr (some a0), .inl xa, .inl xb] M K := by
  refine mm_go (by decide) rfl (fun q => by cases q) (Nat.le_of_ble_eq_true rfl) ?_
  show mm_Z l G Y_PH_canPay K M 0 0 0 [some (.inr (some a0)), some (.inl xa), some (.inl xb)] [] M
  refine mr_aload_n dd_PH_canPay_0 rfl ?_
  obtain ⟨hk1, h⟩ := h
  refine mr_getr ff_PH_26 dd_PH_canPay_1 rs_0_2 rfl hk1 ?_
  refine mr_aload_n dd_PH_canPay_4 rfl ?_
  refine mr_getr ff_PH_32 dd_PH_canPay_5 rs_0_3 rfl hk1 ?_
  refine mr_aload_n dd_PH_canPay_8 rfl ?_
  refine mr_getr ff_PH_10 dd_PH_canPay_9 rs_0_0 rfl hk1 ?_
  obtain ⟨a4, ho5, h⟩ := h
  obtain ⟨hk6, h⟩ := h
  refine mr_callV0 (Yc := Y_Li_reckon) (M := M) (st := []) (vs := [.inr (mm_p M a0 3), .inr (mm_p M a0 0)]) (ci := 4) fc_PH_164 iv_Li_reckon sv_Li_reckon dd_PH_canPay_12 ⟨Nat.le_of_ble_eq_true rfl, Nat.le_of_ble_eq_true rfl⟩ (by decide) rfl rfl (Nat.le_of_ble_eq_true rfl) ho5 hk6 rfl rfl h (fun r M2 hX3 h => ?_)
  replace h := h hX3
  obtain ⟨rfl, h⟩ := h
  show mm_Z l G Y_PH_canPay K M 0 0 15 [some (.inr (some a0)), some (.inl xa), some (.inl xb)] [] M2
  refine mr_aload_n dd_PH_canPay_15 rfl ?_
  refine mr_getr ff_PH_26 dd_PH_canPay_16 rs_0_2 rfl (mm_Xk hX3 hk1 (by decide)) ?_
  obtain ⟨a7, ho8, h⟩ := h
  obtain ⟨hk9, h⟩ := h
  refine mr_getr ff_PH_176 dd_PH_canPay_19 rs_4_1 ho8 hk9 ?_
  refine mr_iload_n dd_PH_canPay_22 rfl ?_
  obtain ⟨a10, ho11, h⟩ := h
  obtain ⟨hk12, h⟩ := h
  obtain ⟨j13, hj14, hm15, hl16, h⟩ := h
  refine mr_iald dd_PH_canPay_23 ho11 hk12 hj14 hm15 hl16 ?_
  refine mr_iload_n dd_PH_canPay_24 rfl ?_
  refine mr_icmp_lt 32 dd_PH_canPay_25 (by decide) (fun hc25 => ?_) (fun hc25 => ?_)
  · have h := h.1 hc25
    refine mr_iconst 0 dd_PH_canPay_32 (by decide) ?_
    exact mr_zreturn dd_PH_canPay_33 rfl (Or.inl rfl) h
  · have h := h.2 hc25
    refine mr_iconst 1 dd_PH_canPay_28 (by decide) ?_
    refine mr_goto 33 dd_PH_canPay_29 (by decide) ?_
    exact mr_zreturn dd_PH_canPay_33 rfl (Or.inr rfl) h
set_option maxHeartbeats 4000000 in
set_option maxRecDepth 100000 in
theorem sg_PH_kill {l : Launch} {G : mm_G} {K : Option mm_V → mm_M → Prop} {M : mm_M} {a0 : Nat} {xa : Int32}
    (h : mm_k M a0 = 1 ∧ mm_Ok l G yy_PH_livingProcess Y_PH_livingProcess [.inr (some a0), .inl xa] M (fun r M1 => mm_X M M1 → ∃ o4 : Option Nat, r = some (.inr o4) ∧ (o4 = none → K (some (.inl 0)) M1) ∧ (∀ a5 : Nat, o4 = some a5 → (xa = 0 → K (some (.inl 0)) M1) ∧ (¬ xa = 0 → mm_k M1 a5 = 6 ∧ (¬ (mm_i M1 a5 5) = 3 → mm_Ok l G yy_Pr_isInKernelMode Y_Pr_isInKernelMode [.inr (some a5)] M1 (fun r M7 => mm_X M1 M7 → ∃ x9 : Int32, r = some (.inl x9) ∧ (x9 = 0 → mm_Ok l G yy_PH_die Y_PH_die [.inr (some a0), .inr o4] M7 (fun r M10 => mm_X M7 M10 → r = none ∧ K (some (.inl 1)) M10)) ∧ (¬ x9 = 0 → K (some (.inl 1)) (mm_si M7 a5 5 3)))) ∧ ((mm_i M1 a5 5) = 3 → K (some (.inl 0)) M1))))) :
    mm_Ok l G yy_PH_kill Y_PH_kill [.inr (some a0), .inl xa] M K := by
  refine mm_go (by decide) rfl (fun q => by cases q) (Nat.le_of_ble_eq_true rfl) ?_
  show mm_Z l G Y_PH_kill K M 0 0 0 [some (.inr (some a0)), some (.inl xa), none] [] M
  refine mr_aload_n dd_PH_kill_0 rfl ?_
  refine mr_iload_n dd_PH_kill_1 rfl ?_
  obtain ⟨hk3, h⟩ := h
  refine mr_callV0 (Yc := Y_PH_livingProcess) (M := M) (st := []) (vs := [.inl xa]) (ci := 0) fc_PH_61 iv_PH_livingProcess sv_PH_livingProcess dd_PH_kill_2 ⟨Nat.le_of_ble_eq_true rfl, Nat.le_of_ble_eq_true rfl⟩ (by decide) rfl rfl (Nat.le_of_ble_eq_true rfl) rfl hk3 rfl rfl h (fun r M1 hX2 h => ?_)
  replace h := h hX2
  obtain ⟨o4, rfl, h⟩ := h
  show mm_Z l G Y_PH_kill K M 0 0 5 [some (.inr (some a0)), some (.inl xa), none] [.inr o4] M1
  refine mr_astore_n dd_PH_kill_5 (by decide) ?_
  show mm_Z l G Y_PH_kill K M 0 0 6 [some (.inr (some a0)), some (.inl xa), some (.inr o4)] [] M1
  refine mr_aload_n dd_PH_kill_6 rfl ?_
  refine mr_ifnull 22 dd_PH_kill_7 (by decide) (fun hc7 => ?_) (fun a5 hc7 => ?_)
  · have h := h.1 hc7
    refine mr_iconst 0 dd_PH_kill_22 (by decide) ?_
    exact mr_zreturn dd_PH_kill_23 rfl (Or.inl rfl) h
  · have h := h.2 a5 hc7
    refine mr_iload_n dd_PH_kill_10 rfl ?_
    refine mr_if_eq 22 dd_PH_kill_11 (by decide) (fun hc11 => ?_) (fun hc11 => ?_)
    · have h := h.1 hc11
      refine mr_iconst 0 dd_PH_kill_22 (by decide) ?_
      exact mr_zreturn dd_PH_kill_23 rfl (Or.inl rfl) h
    · have h := h.2 hc11
      refine mr_aload_n dd_PH_kill_14 rfl ?_
      obtain ⟨hk6, h⟩ := h
      refine mr_geti ff_PH_69 dd_PH_kill_15 rs_5_5 hc7 hk6 ?_
      refine mr_iconst 3 dd_PH_kill_18 (by decide) ?_
      refine mr_icmp_ne 24 dd_PH_kill_19 (by decide) (fun hc19 => ?_) (fun hc19 => ?_)
      · have h := h.1 hc19
        refine mr_aload_n dd_PH_kill_24 rfl ?_
        refine mr_callV0 (Yc := Y_Pr_isInKernelMode) (M := M1) (st := []) (vs := []) (ci := 5) fc_PH_72 iv_Pr_isInKernelMode sv_Pr_isInKernelMode dd_PH_kill_25 ⟨Nat.le_of_ble_eq_true rfl, Nat.le_of_ble_eq_true rfl⟩ (by decide) rfl rfl (Nat.le_of_ble_eq_true rfl) hc7 hk6 rfl rfl h (fun r M7 hX8 h => ?_)
        replace h := h hX8
        obtain ⟨x9, rfl, h⟩ := h
        show mm_Z l G Y_PH_kill K M 0 0 28 [some (.inr (some a0)), some (.inl xa), some (.inr o4)] [.inl x9] M7
        refine mr_if_eq 39 dd_PH_kill_28 (by decide) (fun hc28 => ?_) (fun hc28 => ?_)
        · have h := h.1 hc28
          refine mr_aload_n dd_PH_kill_39 rfl ?_
          refine mr_aload_n dd_PH_kill_40 rfl ?_
          refine mr_callV0 (Yc := Y_PH_die) (M := M7) (st := []) (vs := [.inr o4]) (ci := 0) fc_PH_76 iv_PH_die sv_PH_die dd_PH_kill_41 ⟨Nat.le_of_ble_eq_true rfl, Nat.le_of_ble_eq_true rfl⟩ (by decide) rfl rfl (Nat.le_of_ble_eq_true rfl) rfl (mm_Xk hX8 (mm_Xk hX2 hk3 (by decide)) (by decide)) rfl rfl h (fun r M10 hX11 h => ?_)
          replace h := h hX11
          obtain ⟨rfl, h⟩ := h
          show mm_Z l G Y_PH_kill K M 0 0 44 [some (.inr (some a0)), some (.inl xa), some (.inr o4)] [] M10
          refine mr_iconst 1 dd_PH_kill_44 (by decide) ?_
          exact mr_zreturn dd_PH_kill_45 rfl (Or.inr rfl) h
        · have h := h.2 hc28
          refine mr_aload_n dd_PH_kill_31 rfl ?_
          refine mr_iconst 3 dd_PH_kill_32 (by decide) ?_
          refine mr_puti ff_PH_69 fp_5 (Or.inl rfl) dd_PH_kill_33 (Or.inl (by decide +kernel)) rs_5_5 hc7 (mm_Xk hX8 hk6 (by decide)) ?_
          refine mr_goto 44 dd_PH_kill_36 (by decide) ?_
          refine mr_iconst 1 dd_PH_kill_44 (by decide) ?_
          exact mr_zreturn dd_PH_kill_45 rfl (Or.inr rfl) h
      · have h := h.2 hc19
        refine mr_iconst 0 dd_PH_kill_22 (by decide) ?_
        exact mr_zreturn dd_PH_kill_23 rfl (Or.inl rfl) h
set_option maxHeartbeats 4000000 in
set_option maxRecDepth 100000 in
theorem sg_PH_die {l : Launch} {G : mm_G} {K : Option mm_V → mm_M → Prop} {M : mm_M} {a0 : Nat} {oa : Option Nat}
    (h : ∃ a1 : Nat, oa = some a1 ∧ mm_k M a1 = 6 ∧ mm_Z l G Y_PH_die K M 0 0 7 [some (.inr (some a0)), some (.inr oa), some (.inl 0)] [] (mm_si M a1 5 4)) :
    mm_Ok l G yy_PH_die Y_PH_die [.inr (some a0), .inr oa] M K := by
  refine mm_go (by decide) rfl (fun q => by cases q) (Nat.le_of_ble_eq_true rfl) ?_
  show mm_Z l G Y_PH_die K M 0 0 0 [some (.inr (some a0)), some (.inr oa), none] [] M
  refine mr_aload_n dd_PH_die_0 rfl ?_
  refine mr_iconst 4 dd_PH_die_1 (by decide) ?_
  obtain ⟨a1, ho2, h⟩ := h
  obtain ⟨hk3, h⟩ := h
  refine mr_puti ff_PH_69 fp_5 (Or.inl rfl) dd_PH_die_2 (Or.inl (by decide +kernel)) rs_5_5 ho2 hk3 ?_
  refine mr_iconst 0 dd_PH_die_5 (by decide) ?_
  refine mr_istore_n dd_PH_die_6 (by decide) ?_
  show mm_Z l G Y_PH_die K M 0 0 7 [some (.inr (some a0)), some (.inr oa), some (.inl 0)] [] (mm_si M a1 5 4)
  exact h
set_option maxHeartbeats 4000000 in
set_option maxRecDepth 100000 in
theorem sg_PH_die_7 {l : Launch} {G : mm_G} {K : Option mm_V → mm_M → Prop} {M0 M : mm_M} {bc bs : Nat} {a0 : Nat} {r1 : Option Nat} {y2 : Int32}
    (h : (4 ≤ y2 → mm_k M a0 = 1 ∧ mm_Ok l G yy_PH_dropUnusedCharges Y_PH_dropUnusedCharges [.inr (some a0), .inr r1] M (fun r M1 => mm_X M M1 → r = none ∧ ∃ a4 : Nat, r1 = some a4 ∧ mm_k M1 a4 = 6 ∧ ∃ a9 : Nat, (mm_p M1 a0 0) = some a9 ∧ mm_k M1 a9 = 2 ∧ mm_Ok l G yy_Me_mergeIntoKernel Y_Me_mergeIntoKernel [.inr (some a9), .inl (mm_i M1 a4 0)] M1 (fun r M7 => mm_X M1 M7 → r = none ∧ ((mm_i M7 a4 6) = (-1) → ∃ a14 : Nat, (mm_p M7 a0 0) = some a14 ∧ mm_k M7 a14 = 2 ∧ mm_Ok l G yy_Me_handItemsToKernel Y_Me_handItemsToKernel [.inr (some a14), .inl (mm_i M7 a4 0)] M7 (fun r M12 => mm_X M7 M12 → r = none ∧ mm_Ok l G yy_PH_dropGoneHeaps Y_PH_dropGoneHeaps [.inr (some a0)] M12 (fun r M17 => mm_X M12 M17 → r = none ∧ K none M17))) ∧ (¬ (mm_i M7 a4 6) = (-1) → ∃ a21 : Nat, (mm_p M7 a0 0) = some a21 ∧ mm_k M7 a21 = 2 ∧ mm_Ok l G yy_Me_mergeIntoKernel Y_Me_mergeIntoKernel [.inr (some a21), .inl (mm_i M7 a4 6)] M7 (fun r M19 => mm_X M7 M19 → r = none ∧ ∃ a26 : Nat, (mm_p (mm_si M19 a4 6 (-1)) a0 0) = some a26 ∧ mm_k (mm_si M19 a4 6 (-1)) a26 = 2 ∧ mm_Ok l G yy_Me_handItemsToKernel Y_Me_handItemsToKernel [.inr (some a26), .inl (mm_i (mm_si M19 a4 6 (-1)) a4 0)] (mm_si M19 a4 6 (-1)) (fun r M24 => mm_X (mm_si M19 a4 6 (-1)) M24 → r = none ∧ mm_Ok l G yy_PH_dropGoneHeaps Y_PH_dropGoneHeaps [.inr (some a0)] M24 (fun r M29 => mm_X M24 M29 → r = none ∧ K none M29))))))) ∧ (¬ 4 ≤ y2 → ∃ a31 : Nat, r1 = some a31 ∧ mm_k M a31 = 6 ∧ ∃ a34 : Nat, (mm_p M a31 4) = some a34 ∧ mm_k M a34 = 103 ∧ ∃ j37 : Nat, y2 = nI j37 ∧ j37 < 2147483648 ∧ j37 < mm_l M a34 ∧ mm_Z l G Y_PH_die K M0 bc bs 7 [some (.inr (some a0)), some (.inr r1), some (.inl (y2 + 1))] [] (mm_sp M a34 j37 none))) :
    mm_Z l G Y_PH_die K M0 bc bs 7 [some (.inr (some a0)), some (.inr r1), some (.inl y2)] [] M := by
  refine mr_iload_n dd_PH_die_7 rfl ?_
  refine mr_iconst 4 dd_PH_die_8 (by decide) ?_
  refine mr_icmp_ge 25 dd_PH_die_9 (by decide) (fun hc9 => ?_) (fun hc9 => ?_)
  · have h := h.1 hc9
    refine mr_aload_n dd_PH_die_25 rfl ?_
    refine mr_aload_n dd_PH_die_26 rfl ?_
    obtain ⟨hk3, h⟩ := h
    refine mr_callV0 (Yc := Y_PH_dropUnusedCharges) (M := M) (st := []) (vs := [.inr r1]) (ci := 0) fc_PH_205 iv_PH_dropUnusedCharges sv_PH_dropUnusedCharges dd_PH_die_27 ⟨Nat.le_of_ble_eq_true rfl, Nat.le_of_ble_eq_true rfl⟩ (by decide) rfl rfl (Nat.le_of_ble_eq_true rfl) rfl hk3 rfl rfl h (fun r M1 hX2 h => ?_)
    replace h := h hX2
    obtain ⟨rfl, h⟩ := h
    show mm_Z l G Y_PH_die K M0 bc bs 30 [some (.inr (some a0)), some (.inr r1), some (.inl y2)] [] M1
    refine mr_aload_n dd_PH_die_30 rfl ?_
    refine mr_getr ff_PH_10 dd_PH_die_31 rs_0_0 rfl (mm_Xk hX2 hk3 (by decide)) ?_
    refine mr_aload_n dd_PH_die_34 rfl ?_
    obtain ⟨a4, ho5, h⟩ := h
    obtain ⟨hk6, h⟩ := h
    refine mr_geti ff_PH_192 dd_PH_die_35 rs_5_0 ho5 hk6 ?_
    obtain ⟨a9, ho10, h⟩ := h
    obtain ⟨hk11, h⟩ := h
    refine mr_callV0 (Yc := Y_Me_mergeIntoKernel) (M := M1) (st := []) (vs := [.inl (mm_i M1 a4 0)]) (ci := 1) fc_PH_211 iv_Me_mergeIntoKernel sv_Me_mergeIntoKernel dd_PH_die_38 ⟨Nat.le_of_ble_eq_true rfl, Nat.le_of_ble_eq_true rfl⟩ (by decide) rfl rfl (Nat.le_of_ble_eq_true rfl) ho10 hk11 rfl rfl h (fun r M7 hX8 h => ?_)
    replace h := h hX8
    obtain ⟨rfl, h⟩ := h
    show mm_Z l G Y_PH_die K M0 bc bs 41 [some (.inr (some a0)), some (.inr r1), some (.inl y2)] [] M7
    refine mr_aload_n dd_PH_die_41 rfl ?_
    refine mr_geti ff_PH_130 dd_PH_die_42 rs_5_6 ho5 (mm_Xk hX8 hk6 (by decide)) ?_
    refine mr_iconst (-1) dd_PH_die_45 (by decide) ?_
    refine mr_icmp_eq 65 dd_PH_die_46 (by decide) (fun hc46 => ?_) (fun hc46 => ?_)
    · have h := h.1 hc46
      refine mr_aload_n dd_PH_die_65 rfl ?_
      refine mr_getr ff_PH_10 dd_PH_die_66 rs_0_0 rfl (mm_Xk hX8 (mm_Xk hX2 hk3 (by decide)) (by decide)) ?_
      refine mr_aload_n dd_PH_die_69 rfl ?_
      refine mr_geti ff_PH_192 dd_PH_die_70 rs_5_0 ho5 (mm_Xk hX8 hk6 (by decide)) ?_
      obtain ⟨a14, ho15, h⟩ := h
      obtain ⟨hk16, h⟩ := h
      refine mr_callV0 (Yc := Y_Me_handItemsToKernel) (M := M7) (st := []) (vs := [.inl (mm_i M7 a4 0)]) (ci := 1) fc_PH_214 iv_Me_handItemsToKernel sv_Me_handItemsToKernel dd_PH_die_73 ⟨Nat.le_of_ble_eq_true rfl, Nat.le_of_ble_eq_true rfl⟩ (by decide) rfl rfl (Nat.le_of_ble_eq_true rfl) ho15 hk16 rfl rfl h (fun r M12 hX13 h => ?_)
      replace h := h hX13
      obtain ⟨rfl, h⟩ := h
      show mm_Z l G Y_PH_die K M0 bc bs 76 [some (.inr (some a0)), some (.inr r1), some (.inl y2)] [] M12
      refine mr_aload_n dd_PH_die_76 rfl ?_
      refine mr_callV0 (Yc := Y_PH_dropGoneHeaps) (M := M12) (st := []) (vs := []) (ci := 0) fc_PH_208 iv_PH_dropGoneHeaps sv_PH_dropGoneHeaps dd_PH_die_77 ⟨Nat.le_of_ble_eq_true rfl, Nat.le_of_ble_eq_true rfl⟩ (by decide) rfl rfl (Nat.le_of_ble_eq_true rfl) rfl (mm_Xk hX13 (mm_Xk hX8 (mm_Xk hX2 hk3 (by decide)) (by decide)) (by decide)) rfl rfl h (fun r M17 hX18 h => ?_)
      replace h := h hX18
      obtain ⟨rfl, h⟩ := h
      show mm_Z l G Y_PH_die K M0 bc bs 80 [some (.inr (some a0)), some (.inr r1), some (.inl y2)] [] M17
      exact mr_return dd_PH_die_80 rfl h
    · have h := h.2 hc46
      refine mr_aload_n dd_PH_die_49 rfl ?_
      refine mr_getr ff_PH_10 dd_PH_die_50 rs_0_0 rfl (mm_Xk hX8 (mm_Xk hX2 hk3 (by decide)) (by decide)) ?_
      refine mr_aload_n dd_PH_die_53 rfl ?_
      refine mr_geti ff_PH_130 dd_PH_die_54 rs_5_6 ho5 (mm_Xk hX8 hk6 (by decide)) ?_
      obtain ⟨a21, ho22, h⟩ := h
      obtain ⟨hk23, h⟩ := h
      refine mr_callV0 (Yc := Y_Me_mergeIntoKernel) (M := M7) (st := []) (vs := [.inl (mm_i M7 a4 6)]) (ci := 1) fc_PH_211 iv_Me_mergeIntoKernel sv_Me_mergeIntoKernel dd_PH_die_57 ⟨Nat.le_of_ble_eq_true rfl, Nat.le_of_ble_eq_true rfl⟩ (by decide) rfl rfl (Nat.le_of_ble_eq_true rfl) ho22 hk23 rfl rfl h (fun r M19 hX20 h => ?_)
      replace h := h hX20
      obtain ⟨rfl, h⟩ := h
      show mm_Z l G Y_PH_die K M0 bc bs 60 [some (.inr (some a0)), some (.inr r1), some (.inl y2)] [] M19
      refine mr_aload_n dd_PH_die_60 rfl ?_
      refine mr_iconst (-1) dd_PH_die_61 (by decide) ?_
      refine mr_puti ff_PH_130 fp_5 (Or.inl rfl) dd_PH_die_62 (Or.inl (by decide +kernel)) rs_5_6 ho5 (mm_Xk hX20 (mm_Xk hX8 hk6 (by decide)) (by decide)) ?_
      refine mr_aload_n dd_PH_die_65 rfl ?_
      refine mr_getr ff_PH_10 dd_PH_die_66 rs_0_0 rfl (mm_Xk hX20 (mm_Xk hX8 (mm_Xk hX2 hk3 (by decide)) (by decide)) (by decide)) ?_
      refine mr_aload_n dd_PH_die_69 rfl ?_
      refine mr_geti ff_PH_192 dd_PH_die_70 rs_5_0 ho5 (mm_Xk hX20 (mm_Xk hX8 hk6 (by decide)) (by decide)) ?_
      obtain ⟨a26, ho27, h⟩ := h
      obtain ⟨hk28, h⟩ := h
      refine mr_callV0 (Yc := Y_Me_handItemsToKernel) (M := (mm_si M19 a4 6 (-1))) (st := []) (vs := [.inl (mm_i (mm_si M19 a4 6 (-1)) a4 0)]) (ci := 1) fc_PH_214 iv_Me_handItemsToKernel sv_Me_handItemsToKernel dd_PH_die_73 ⟨Nat.le_of_ble_eq_true rfl, Nat.le_of_ble_eq_true rfl⟩ (by decide) rfl rfl (Nat.le_of_ble_eq_true rfl) ho27 hk28 rfl rfl h (fun r M24 hX25 h => ?_)
      replace h := h hX25
      obtain ⟨rfl, h⟩ := h
      show mm_Z l G Y_PH_die K M0 bc bs 76 [some (.inr (some a0)), some (.inr r1), some (.inl y2)] [] M24
      refine mr_aload_n dd_PH_die_76 rfl ?_
      refine mr_callV0 (Yc := Y_PH_dropGoneHeaps) (M := M24) (st := []) (vs := []) (ci := 0) fc_PH_208 iv_PH_dropGoneHeaps sv_PH_dropGoneHeaps dd_PH_die_77 ⟨Nat.le_of_ble_eq_true rfl, Nat.le_of_ble_eq_true rfl⟩ (by decide) rfl rfl (Nat.le_of_ble_eq_true rfl) rfl (mm_Xk hX25 (mm_Xk hX20 (mm_Xk hX8 (mm_Xk hX2 hk3 (by decide)) (by decide)) (by decide)) (by decide)) rfl rfl h (fun r M29 hX30 h => ?_)
      replace h := h hX30
      obtain ⟨rfl, h⟩ := h
      show mm_Z l G Y_PH_die K M0 bc bs 80 [some (.inr (some a0)), some (.inr r1), some (.inl y2)] [] M29
      exact mr_return dd_PH_die_80 rfl h
  · have h := h.2 hc9
    refine mr_aload_n dd_PH_die_12 rfl ?_
    obtain ⟨a31, ho32, h⟩ := h
    obtain ⟨hk33, h⟩ := h
    refine mr_getr ff_PH_102 dd_PH_die_13 rs_5_4 ho32 hk33 ?_
    refine mr_iload_n dd_PH_die_16 rfl ?_
    refine mr_null dd_PH_die_17 ?_
    obtain ⟨a34, ho35, h⟩ := h
    obtain ⟨hk36, h⟩ := h
    obtain ⟨j37, hj38, hm39, hl40, h⟩ := h
    refine mr_aast (t := 3) (E := "ProcessHeaps$HeapObject") dd_PH_die_18 ho35 hk36 (fun _ => rfl) (by decide) (by decide) hj38 hm39 hl40 (fun _ q => by cases q) ?_
    refine mr_iinc 1 dd_PH_die_19 rfl (by decide) (by decide) ?_
    show mm_Z l G Y_PH_die K M0 bc bs 22 [some (.inr (some a0)), some (.inr r1), some (.inl (y2 + 1))] [] (mm_sp M a34 j37 none)
    refine mr_goto 7 dd_PH_die_22 (by decide) ?_
    exact h
set_option maxHeartbeats 4000000 in
set_option maxRecDepth 100000 in
theorem sg_PH_dropUnusedCharges {l : Launch} {G : mm_G} {K : Option mm_V → mm_M → Prop} {M : mm_M} {a0 : Nat} {oa : Option Nat}
    (h : mm_Z l G Y_PH_dropUnusedCharges K M 0 0 3 [some (.inr (some a0)), some (.inr oa), some (.inl 9)] [] M) :
    mm_Ok l G yy_PH_dropUnusedCharges Y_PH_dropUnusedCharges [.inr (some a0), .inr oa] M K := by
  refine mm_go (by decide) rfl (fun q => by cases q) (Nat.le_of_ble_eq_true rfl) ?_
  show mm_Z l G Y_PH_dropUnusedCharges K M 0 0 0 [some (.inr (some a0)), some (.inr oa), none] [] M
  refine mr_bipush 9 dd_PH_dropUnusedCharges_0 (by decide) ?_
  refine mr_istore_n dd_PH_dropUnusedCharges_2 (by decide) ?_
  show mm_Z l G Y_PH_dropUnusedCharges K M 0 0 3 [some (.inr (some a0)), some (.inr oa), some (.inl 9)] [] M
  exact h
set_option maxHeartbeats 4000000 in
set_option maxRecDepth 100000 in
theorem sg_PH_dropUnusedCharges_3 {l : Launch} {G : mm_G} {K : Option mm_V → mm_M → Prop} {M0 M : mm_M} {bc bs : Nat} {a0 : Nat} {r1 : Option Nat} {y2 : Int32}
    (h : (13 ≤ y2 → K none M) ∧ (¬ 13 ≤ y2 → ∃ a3 : Nat, r1 = some a3 ∧ mm_k M a3 = 6 ∧ mm_Ok l G yy_Pr_holdsObjectOf Y_Pr_holdsObjectOf [.inr (some a3), .inl y2] M (fun r M1 => mm_X M M1 → ∃ x6 : Int32, r = some (.inl x6) ∧ (¬ x6 = 0 → mm_Z l G Y_PH_dropUnusedCharges K M0 bc bs 3 [some (.inr (some a0)), some (.inr r1), some (.inl (y2 + 1))] [] M1) ∧ (x6 = 0 → mm_k M1 a0 = 1 ∧ ∃ a10 : Nat, (mm_p M1 a0 0) = some a10 ∧ mm_k M1 a10 = 2 ∧ mm_Ok l G yy_Me_hasItemInto Y_Me_hasItemInto [.inr (some a10), .inl (mm_i M1 a3 0), .inl y2] M1 (fun r M8 => mm_X M1 M8 → ∃ x13 : Int32, r = some (.inl x13) ∧ (¬ x13 = 0 → mm_Z l G Y_PH_dropUnusedCharges K M0 bc bs 3 [some (.inr (some a0)), some (.inr r1), some (.inl (y2 + 1))] [] M8) ∧ (x13 = 0 → mm_Ok l G yy_Pr_dropCharge Y_Pr_dropCharge [.inr (some a3), .inl y2] M8 (fun r M14 => mm_X M8 M14 → r = none ∧ mm_Z l G Y_PH_dropUnusedCharges K M0 bc bs 3 [some (.inr (some a0)), some (.inr r1), some (.inl (y2 + 1))] [] M14))))))) :
    mm_Z l G Y_PH_dropUnusedCharges K M0 bc bs 3 [some (.inr (some a0)), some (.inr r1), some (.inl y2)] [] M := by
  refine mr_iload_n dd_PH_dropUnusedCharges_3 rfl ?_
  refine mr_bipush 13 dd_PH_dropUnusedCharges_4 (by decide) ?_
  refine mr_icmp_ge 43 dd_PH_dropUnusedCharges_6 (by decide) (fun hc6 => ?_) (fun hc6 => ?_)
  · have h := h.1 hc6
    exact mr_return dd_PH_dropUnusedCharges_43 rfl h
  · have h := h.2 hc6
    refine mr_aload_n dd_PH_dropUnusedCharges_9 rfl ?_
    refine mr_iload_n dd_PH_dropUnusedCharges_10 rfl ?_
    obtain ⟨a3, ho4, h⟩ := h
    obtain ⟨hk5, h⟩ := h
    refine mr_callV0 (Yc := Y_Pr_holdsObjectOf) (M := M) (st := []) (vs := [.inl y2]) (ci := 5) fc_PH_217 iv_Pr_holdsObjectOf sv_Pr_holdsObjectOf dd_PH_dropUnusedCharges_11 ⟨Nat.le_of_ble_eq_true rfl, Nat.le_of_ble_eq_true rfl⟩ (by decide) rfl rfl (Nat.le_of_ble_eq_true rfl) ho4 hk5 rfl rfl h (fun r M1 hX2 h => ?_)
    replace h := h hX2
    obtain ⟨x6, rfl, h⟩ := h
    show mm_Z l G Y_PH_dropUnusedCharges K M0 bc bs 14 [some (.inr (some a0)), some (.inr r1), some (.inl y2)] [.inl x6] M1
    refine mr_if_ne 37 dd_PH_dropUnusedCharges_14 (by decide) (fun hc14 => ?_) (fun hc14 => ?_)
    · have h := h.1 hc14
      refine mr_iinc 1 dd_PH_dropUnusedCharges_37 rfl (by decide) (by decide) ?_
      show mm_Z l G Y_PH_dropUnusedCharges K M0 bc bs 40 [some (.inr (some a0)), some (.inr r1), some (.inl (y2 + 1))] [] M1
      refine mr_goto 3 dd_PH_dropUnusedCharges_40 (by decide) ?_
      exact h
    · have h := h.2 hc14
      refine mr_aload_n dd_PH_dropUnusedCharges_17 rfl ?_
      obtain ⟨hk7, h⟩ := h
      refine mr_getr ff_PH_10 dd_PH_dropUnusedCharges_18 rs_0_0 rfl hk7 ?_
      refine mr_aload_n dd_PH_dropUnusedCharges_21 rfl ?_
      refine mr_geti ff_PH_192 dd_PH_dropUnusedCharges_22 rs_5_0 ho4 (mm_Xk hX2 hk5 (by decide)) ?_
      refine mr_iload_n dd_PH_dropUnusedCharges_25 rfl ?_
      obtain ⟨a10, ho11, h⟩ := h
      obtain ⟨hk12, h⟩ := h
      refine mr_callV0 (Yc := Y_Me_hasItemInto) (M := M1) (st := []) (vs := [.inl (mm_i M1 a3 0), .inl y2]) (ci := 1) fc_PH_220 iv_Me_hasItemInto sv_Me_hasItemInto dd_PH_dropUnusedCharges_26 ⟨Nat.le_of_ble_eq_true rfl, Nat.le_of_ble_eq_true rfl⟩ (by decide) rfl rfl (Nat.le_of_ble_eq_true rfl) ho11 hk12 rfl rfl h (fun r M8 hX9 h => ?_)
      replace h := h hX9
      obtain ⟨x13, rfl, h⟩ := h
      show mm_Z l G Y_PH_dropUnusedCharges K M0 bc bs 29 [some (.inr (some a0)), some (.inr r1), some (.inl y2)] [.inl x13] M8
      refine mr_if_ne 37 dd_PH_dropUnusedCharges_29 (by decide) (fun hc29 => ?_) (fun hc29 => ?_)
      · have h := h.1 hc29
        refine mr_iinc 1 dd_PH_dropUnusedCharges_37 rfl (by decide) (by decide) ?_
        show mm_Z l G Y_PH_dropUnusedCharges K M0 bc bs 40 [some (.inr (some a0)), some (.inr r1), some (.inl (y2 + 1))] [] M8
        refine mr_goto 3 dd_PH_dropUnusedCharges_40 (by decide) ?_
        exact h
      · have h := h.2 hc29
        refine mr_aload_n dd_PH_dropUnusedCharges_32 rfl ?_
        refine mr_iload_n dd_PH_dropUnusedCharges_33 rfl ?_
        refine mr_callV0 (Yc := Y_Pr_dropCharge) (M := M8) (st := []) (vs := [.inl y2]) (ci := 5) fc_PH_223 iv_Pr_dropCharge sv_Pr_dropCharge dd_PH_dropUnusedCharges_34 ⟨Nat.le_of_ble_eq_true rfl, Nat.le_of_ble_eq_true rfl⟩ (by decide) rfl rfl (Nat.le_of_ble_eq_true rfl) ho4 (mm_Xk hX9 (mm_Xk hX2 hk5 (by decide)) (by decide)) rfl rfl h (fun r M14 hX15 h => ?_)
        replace h := h hX15
        obtain ⟨rfl, h⟩ := h
        show mm_Z l G Y_PH_dropUnusedCharges K M0 bc bs 37 [some (.inr (some a0)), some (.inr r1), some (.inl y2)] [] M14
        refine mr_iinc 1 dd_PH_dropUnusedCharges_37 rfl (by decide) (by decide) ?_
        show mm_Z l G Y_PH_dropUnusedCharges K M0 bc bs 40 [some (.inr (some a0)), some (.inr r1), some (.inl (y2 + 1))] [] M14
        refine mr_goto 3 dd_PH_dropUnusedCharges_40 (by decide) ?_
        exact h
set_option maxHeartbeats 4000000 in
set_option maxRecDepth 100000 in
theorem sg_PH_dropGoneHeaps {l : Launch} {G : mm_G} {K : Option mm_V → mm_M → Prop} {M : mm_M} {a0 : Nat}
    (h : mm_Z l G Y_PH_dropGoneHeaps K M 0 0 3 [some (.inr (some a0)), some (.inl 9)] [] M) :
    mm_Ok l G yy_PH_dropGoneHeaps Y_PH_dropGoneHeaps [.inr (some a0)] M K := by
  refine mm_go (by decide) rfl (fun q => by cases q) (Nat.le_of_ble_eq_true rfl) ?_
  show mm_Z l G Y_PH_dropGoneHeaps K M 0 0 0 [some (.inr (some a0)), none] [] M
  refine mr_bipush 9 dd_PH_dropGoneHeaps_0 (by decide) ?_
  refine mr_istore_n dd_PH_dropGoneHeaps_2 (by decide) ?_
  show mm_Z l G Y_PH_dropGoneHeaps K M 0 0 3 [some (.inr (some a0)), some (.inl 9)] [] M
  exact h
set_option maxHeartbeats 4000000 in
set_option maxRecDepth 100000 in
theorem sg_PH_dropGoneHeaps_3 {l : Launch} {G : mm_G} {K : Option mm_V → mm_M → Prop} {M0 M : mm_M} {bc bs : Nat} {a0 : Nat} {y1 : Int32}
    (h : (13 ≤ y1 → K none M) ∧ (¬ 13 ≤ y1 → mm_k M a0 = 1 ∧ mm_Ok l G yy_PH_isFrozen Y_PH_isFrozen [.inr (some a0), .inl y1] M (fun r M1 => mm_X M M1 → ∃ x4 : Int32, r = some (.inl x4) ∧ (x4 = 0 → mm_Z l G Y_PH_dropGoneHeaps K M0 bc bs 3 [some (.inr (some a0)), some (.inl (y1 + 1))] [] M1) ∧ (¬ x4 = 0 → mm_Ok l G yy_PH_isSharedByLiving Y_PH_isSharedByLiving [.inr (some a0), .inl y1] M1 (fun r M5 => mm_X M1 M5 → ∃ x7 : Int32, r = some (.inl x7) ∧ (¬ x7 = 0 → mm_Z l G Y_PH_dropGoneHeaps K M0 bc bs 3 [some (.inr (some a0)), some (.inl (y1 + 1))] [] M5) ∧ (x7 = 0 → ∃ a10 : Nat, (mm_p M5 a0 0) = some a10 ∧ mm_k M5 a10 = 2 ∧ mm_Ok l G yy_Me_hasItemInto Y_Me_hasItemInto [.inr (some a10), .inl 8, .inl y1] M5 (fun r M8 => mm_X M5 M8 → ∃ x13 : Int32, r = some (.inl x13) ∧ (¬ x13 = 0 → mm_Z l G Y_PH_dropGoneHeaps K M0 bc bs 3 [some (.inr (some a0)), some (.inl (y1 + 1))] [] M8) ∧ (x13 = 0 → ∃ a14 : Nat, (mm_p M8 a0 4) = some a14 ∧ mm_k M8 a14 = 103 ∧ ∃ j17 : Nat, y1 = nI j17 ∧ j17 < 2147483648 ∧ j17 < mm_l M8 a14 ∧ ∃ a23 : Nat, (mm_p (mm_sp M8 a14 j17 none) a0 0) = some a23 ∧ mm_k (mm_sp M8 a14 j17 none) a23 = 2 ∧ mm_Ok l G yy_Me_freeUnreached Y_Me_freeUnreached [.inr (some a23), .inl y1] (mm_sp M8 a14 j17 none) (fun r M21 => mm_X (mm_sp M8 a14 j17 none) M21 → ∃ x26 : Int32, r = some (.inl x26) ∧ mm_Ok l G yy_PH_endPaymentOfDead Y_PH_endPaymentOfDead [.inr (some a0), .inl y1] M21 (fun r M27 => mm_X M21 M27 → r = none ∧ mm_Z l G Y_PH_dropGoneHeaps K M0 bc bs 3 [some (.inr (some a0)), some (.inl (y1 + 1))] [] M27)))))))))) :
    mm_Z l G Y_PH_dropGoneHeaps K M0 bc bs 3 [some (.inr (some a0)), some (.inl y1)] [] M := by
  refine mr_iload_n dd_PH_dropGoneHeaps_3 rfl ?_
  refine mr_bipush 13 dd_PH_dropGoneHeaps_4 (by decide) ?_
  refine mr_icmp_ge 65 dd_PH_dropGoneHeaps_6 (by decide) (fun hc6 => ?_) (fun hc6 => ?_)
  · have h := h.1 hc6
    exact mr_return dd_PH_dropGoneHeaps_65 rfl h
  · have h := h.2 hc6
    refine mr_aload_n dd_PH_dropGoneHeaps_9 rfl ?_
    refine mr_iload_n dd_PH_dropGoneHeaps_10 rfl ?_
    obtain ⟨hk3, h⟩ := h
    refine mr_callV0 (Yc := Y_PH_isFrozen) (M := M) (st := []) (vs := [.inl y1]) (ci := 0) fc_PH_143 iv_PH_isFrozen sv_PH_isFrozen dd_PH_dropGoneHeaps_11 ⟨Nat.le_of_ble_eq_true rfl, Nat.le_of_ble_eq_true rfl⟩ (by decide) rfl rfl (Nat.le_of_ble_eq_true rfl) rfl hk3 rfl rfl h (fun r M1 hX2 h => ?_)
    replace h := h hX2
    obtain ⟨x4, rfl, h⟩ := h
    show mm_Z l G Y_PH_dropGoneHeaps K M0 bc bs 14 [some (.inr (some a0)), some (.inl y1)] [.inl x4] M1
    refine mr_if_eq 59 dd_PH_dropGoneHeaps_14 (by decide) (fun hc14 => ?_) (fun hc14 => ?_)
    · have h := h.1 hc14
      refine mr_iinc 1 dd_PH_dropGoneHeaps_59 rfl (by decide) (by decide) ?_
      show mm_Z l G Y_PH_dropGoneHeaps K M0 bc bs 62 [some (.inr (some a0)), some (.inl (y1 + 1))] [] M1
      refine mr_goto 3 dd_PH_dropGoneHeaps_62 (by decide) ?_
      exact h
    · have h := h.2 hc14
      refine mr_aload_n dd_PH_dropGoneHeaps_17 rfl ?_
      refine mr_iload_n dd_PH_dropGoneHeaps_18 rfl ?_
      refine mr_callV0 (Yc := Y_PH_isSharedByLiving) (M := M1) (st := []) (vs := [.inl y1]) (ci := 0) fc_PH_229 iv_PH_isSharedByLiving sv_PH_isSharedByLiving dd_PH_dropGoneHeaps_19 ⟨Nat.le_of_ble_eq_true rfl, Nat.le_of_ble_eq_true rfl⟩ (by decide) rfl rfl (Nat.le_of_ble_eq_true rfl) rfl (mm_Xk hX2 hk3 (by decide)) rfl rfl h (fun r M5 hX6 h => ?_)
      replace h := h hX6
      obtain ⟨x7, rfl, h⟩ := h
      show mm_Z l G Y_PH_dropGoneHeaps K M0 bc bs 22 [some (.inr (some a0)), some (.inl y1)] [.inl x7] M5
      refine mr_if_ne 59 dd_PH_dropGoneHeaps_22 (by decide) (fun hc22 => ?_) (fun hc22 => ?_)
      · have h := h.1 hc22
        refine mr_iinc 1 dd_PH_dropGoneHeaps_59 rfl (by decide) (by decide) ?_
        show mm_Z l G Y_PH_dropGoneHeaps K M0 bc bs 62 [some (.inr (some a0)), some (.inl (y1 + 1))] [] M5
        refine mr_goto 3 dd_PH_dropGoneHeaps_62 (by decide) ?_
        exact h
      · have h := h.2 hc22
        refine mr_aload_n dd_PH_dropGoneHeaps_25 rfl ?_
        refine mr_getr ff_PH_10 dd_PH_dropGoneHeaps_26 rs_0_0 rfl (mm_Xk hX6 (mm_Xk hX2 hk3 (by decide)) (by decide)) ?_
        refine mr_bipush 8 dd_PH_dropGoneHeaps_29 (by decide) ?_
        refine mr_iload_n dd_PH_dropGoneHeaps_31 rfl ?_
        obtain ⟨a10, ho11, h⟩ := h
        obtain ⟨hk12, h⟩ := h
        refine mr_callV0 (Yc := Y_Me_hasItemInto) (M := M5) (st := []) (vs := [.inl 8, .inl y1]) (ci := 1) fc_PH_220 iv_Me_hasItemInto sv_Me_hasItemInto dd_PH_dropGoneHeaps_32 ⟨Nat.le_of_ble_eq_true rfl, Nat.le_of_ble_eq_true rfl⟩ (by decide) rfl rfl (Nat.le_of_ble_eq_true rfl) ho11 hk12 rfl rfl h (fun r M8 hX9 h => ?_)
        replace h := h hX9
        obtain ⟨x13, rfl, h⟩ := h
        show mm_Z l G Y_PH_dropGoneHeaps K M0 bc bs 35 [some (.inr (some a0)), some (.inl y1)] [.inl x13] M8
        refine mr_if_ne 59 dd_PH_dropGoneHeaps_35 (by decide) (fun hc35 => ?_) (fun hc35 => ?_)
        · have h := h.1 hc35
          refine mr_iinc 1 dd_PH_dropGoneHeaps_59 rfl (by decide) (by decide) ?_
          show mm_Z l G Y_PH_dropGoneHeaps K M0 bc bs 62 [some (.inr (some a0)), some (.inl (y1 + 1))] [] M8
          refine mr_goto 3 dd_PH_dropGoneHeaps_62 (by decide) ?_
          exact h
        · have h := h.2 hc35
          refine mr_aload_n dd_PH_dropGoneHeaps_38 rfl ?_
          refine mr_getr ff_PH_38 dd_PH_dropGoneHeaps_39 rs_0_4 rfl (mm_Xk hX9 (mm_Xk hX6 (mm_Xk hX2 hk3 (by decide)) (by decide)) (by decide)) ?_
          refine mr_iload_n dd_PH_dropGoneHeaps_42 rfl ?_
          refine mr_null dd_PH_dropGoneHeaps_43 ?_
          obtain ⟨a14, ho15, h⟩ := h
          obtain ⟨hk16, h⟩ := h
          obtain ⟨j17, hj18, hm19, hl20, h⟩ := h
          refine mr_aast (t := 3) (E := "ProcessHeaps$HeapObject") dd_PH_dropGoneHeaps_44 ho15 hk16 (fun _ => rfl) (by decide) (by decide) hj18 hm19 hl20 (fun _ q => by cases q) ?_
          refine mr_aload_n dd_PH_dropGoneHeaps_45 rfl ?_
          refine mr_getr ff_PH_10 dd_PH_dropGoneHeaps_46 rs_0_0 rfl (mm_Xk hX9 (mm_Xk hX6 (mm_Xk hX2 hk3 (by decide)) (by decide)) (by decide)) ?_
          refine mr_iload_n dd_PH_dropGoneHeaps_49 rfl ?_
          obtain ⟨a23, ho24, h⟩ := h
          obtain ⟨hk25, h⟩ := h
          refine mr_callV0 (Yc := Y_Me_freeUnreached) (M := (mm_sp M8 a14 j17 none)) (st := []) (vs := [.inl y1]) (ci := 1) fc_PH_232 iv_Me_freeUnreached sv_Me_freeUnreached dd_PH_dropGoneHeaps_50 ⟨Nat.le_of_ble_eq_true rfl, Nat.le_of_ble_eq_true rfl⟩ (by decide) rfl rfl (Nat.le_of_ble_eq_true rfl) ho24 hk25 rfl rfl h (fun r M21 hX22 h => ?_)
          replace h := h hX22
          obtain ⟨x26, rfl, h⟩ := h
          show mm_Z l G Y_PH_dropGoneHeaps K M0 bc bs 53 [some (.inr (some a0)), some (.inl y1)] [.inl x26] M21
          refine mr_pop dd_PH_dropGoneHeaps_53 ?_
          refine mr_aload_n dd_PH_dropGoneHeaps_54 rfl ?_
          refine mr_iload_n dd_PH_dropGoneHeaps_55 rfl ?_
          refine mr_callV0 (Yc := Y_PH_endPaymentOfDead) (M := M21) (st := []) (vs := [.inl y1]) (ci := 0) fc_PH_226 iv_PH_endPaymentOfDead sv_PH_endPaymentOfDead dd_PH_dropGoneHeaps_56 ⟨Nat.le_of_ble_eq_true rfl, Nat.le_of_ble_eq_true rfl⟩ (by decide) rfl rfl (Nat.le_of_ble_eq_true rfl) rfl (mm_Xk hX22 (mm_Xk hX9 (mm_Xk hX6 (mm_Xk hX2 hk3 (by decide)) (by decide)) (by decide)) (by decide)) rfl rfl h (fun r M27 hX28 h => ?_)
          replace h := h hX28
          obtain ⟨rfl, h⟩ := h
          show mm_Z l G Y_PH_dropGoneHeaps K M0 bc bs 59 [some (.inr (some a0)), some (.inl y1)] [] M27
          refine mr_iinc 1 dd_PH_dropGoneHeaps_59 rfl (by decide) (by decide) ?_
          show mm_Z l G Y_PH_dropGoneHeaps K M0 bc bs 62 [some (.inr (some a0)), some (.inl (y1 + 1))] [] M27
          refine mr_goto 3 dd_PH_dropGoneHeaps_62 (by decide) ?_
          exact h
set_option maxHeartbeats 4000000 in
set_option maxRecDepth 100000 in
theorem sg_PH_isFrozen {l : Launch} {G : mm_G} {K : Option mm_V → mm_M → Prop} {M : mm_M} {a0 : Nat} {xa : Int32}
    (h : mm_Ok l G yy_PH_isHeap Y_PH_isHeap [.inl xa] M (fun r M1 => mm_X M M1 → ∃ x3 : Int32, r = some (.inl x3) ∧ (x3 = 0 → K (some (.inl 0)) M1) ∧ (¬ x3 = 0 → mm_k M1 a0 = 1 ∧ ∃ a5 : Nat, (mm_p M1 a0 4) = some a5 ∧ mm_k M1 a5 = 103 ∧ ∃ j8 : Nat, xa = nI j8 ∧ j8 < 2147483648 ∧ j8 < mm_l M1 a5 ∧ ((mm_p M1 a5 j8) = none → K (some (.inl 0)) M1) ∧ (∀ a12 : Nat, (mm_p M1 a5 j8) = some a12 → K (some (.inl 1)) M1)))) :
    mm_Ok l G yy_PH_isFrozen Y_PH_isFrozen [.inr (some a0), .inl xa] M K := by
  refine mm_go (by decide) rfl (fun q => by cases q) (Nat.le_of_ble_eq_true rfl) ?_
  show mm_Z l G Y_PH_isFrozen K M 0 0 0 [some (.inr (some a0)), some (.inl xa)] [] M
  refine mr_iload_n dd_PH_isFrozen_0 rfl ?_
  refine mr_callS0 (Yc := Y_PH_isHeap) (M := M) (st := []) (vs := [.inl xa]) fc_PH_158 si_PH_isHeap dd_PH_isFrozen_1 ⟨Nat.le_of_ble_eq_true rfl, Nat.le_of_ble_eq_true rfl⟩ rfl (Nat.le_of_ble_eq_true rfl) rfl rfl h (fun r M1 hX2 h => ?_)
  replace h := h hX2
  obtain ⟨x3, rfl, h⟩ := h
  show mm_Z l G Y_PH_isFrozen K M 0 0 4 [some (.inr (some a0)), some (.inl xa)] [.inl x3] M1
  refine mr_if_eq 20 dd_PH_isFrozen_4 (by decide) (fun hc4 => ?_) (fun hc4 => ?_)
  · have h := h.1 hc4
    refine mr_iconst 0 dd_PH_isFrozen_20 (by decide) ?_
    exact mr_zreturn dd_PH_isFrozen_21 rfl (Or.inl rfl) h
  · have h := h.2 hc4
    refine mr_aload_n dd_PH_isFrozen_7 rfl ?_
    obtain ⟨hk4, h⟩ := h
    refine mr_getr ff_PH_38 dd_PH_isFrozen_8 rs_0_4 rfl hk4 ?_
    refine mr_iload_n dd_PH_isFrozen_11 rfl ?_
    obtain ⟨a5, ho6, h⟩ := h
    obtain ⟨hk7, h⟩ := h
    obtain ⟨j8, hj9, hm10, hl11, h⟩ := h
    refine mr_aald (t := 3) dd_PH_isFrozen_12 ho6 hk7 (fun _ => rfl) (by decide) hj9 hm10 hl11 ?_
    refine mr_ifnull 20 dd_PH_isFrozen_13 (by decide) (fun hc13 => ?_) (fun a12 hc13 => ?_)
    · have h := h.1 hc13
      refine mr_iconst 0 dd_PH_isFrozen_20 (by decide) ?_
      exact mr_zreturn dd_PH_isFrozen_21 rfl (Or.inl rfl) h
    · have h := h.2 a12 hc13
      refine mr_iconst 1 dd_PH_isFrozen_16 (by decide) ?_
      refine mr_goto 21 dd_PH_isFrozen_17 (by decide) ?_
      exact mr_zreturn dd_PH_isFrozen_21 rfl (Or.inr rfl) h
set_option maxHeartbeats 4000000 in
set_option maxRecDepth 100000 in
theorem sg_PH_isHeap {l : Launch} {G : mm_G} {K : Option mm_V → mm_M → Prop} {M : mm_M} {xa : Int32}
    (h : (xa < 0 → K (some (.inl 0)) M) ∧ (¬ xa < 0 → (13 ≤ xa → K (some (.inl 0)) M) ∧ (¬ 13 ≤ xa → K (some (.inl 1)) M))) :
    mm_Ok l G yy_PH_isHeap Y_PH_isHeap [.inl xa] M K := by
  refine mm_go (by decide) rfl (fun q => by cases q) (Nat.le_of_ble_eq_true rfl) ?_
  show mm_Z l G Y_PH_isHeap K M 0 0 0 [some (.inl xa)] [] M
  refine mr_iload_n dd_PH_isHeap_0 rfl ?_
  refine mr_if_lt 14 dd_PH_isHeap_1 (by decide) (fun hc1 => ?_) (fun hc1 => ?_)
  · have h := h.1 hc1
    refine mr_iconst 0 dd_PH_isHeap_14 (by decide) ?_
    exact mr_zreturn dd_PH_isHeap_15 rfl (Or.inl rfl) h
  · have h := h.2 hc1
    refine mr_iload_n dd_PH_isHeap_4 rfl ?_
    refine mr_bipush 13 dd_PH_isHeap_5 (by decide) ?_
    refine mr_icmp_ge 14 dd_PH_isHeap_7 (by decide) (fun hc7 => ?_) (fun hc7 => ?_)
    · have h := h.1 hc7
      refine mr_iconst 0 dd_PH_isHeap_14 (by decide) ?_
      exact mr_zreturn dd_PH_isHeap_15 rfl (Or.inl rfl) h
    · have h := h.2 hc7
      refine mr_iconst 1 dd_PH_isHeap_10 (by decide) ?_
      refine mr_goto 15 dd_PH_isHeap_11 (by decide) ?_
      exact mr_zreturn dd_PH_isHeap_15 rfl (Or.inr rfl) h
set_option maxHeartbeats 4000000 in
set_option maxRecDepth 100000 in
theorem sg_PH_isSharedByLiving {l : Launch} {G : mm_G} {K : Option mm_V → mm_M → Prop} {M : mm_M} {a0 : Nat} {xa : Int32}
    (h : mm_Z l G Y_PH_isSharedByLiving K M 0 0 2 [some (.inr (some a0)), some (.inl xa), some (.inl 0)] [] M) :
    mm_Ok l G yy_PH_isSharedByLiving Y_PH_isSharedByLiving [.inr (some a0), .inl xa] M K := by
  refine mm_go (by decide) rfl (fun q => by cases q) (Nat.le_of_ble_eq_true rfl) ?_
  show mm_Z l G Y_PH_isSharedByLiving K M 0 0 0 [some (.inr (some a0)), some (.inl xa), none] [] M
  refine mr_iconst 0 dd_PH_isSharedByLiving_0 (by decide) ?_
  refine mr_istore_n dd_PH_isSharedByLiving_1 (by decide) ?_
  show mm_Z l G Y_PH_isSharedByLiving K M 0 0 2 [some (.inr (some a0)), some (.inl xa), some (.inl 0)] [] M
  exact h
set_option maxHeartbeats 4000000 in
set_option maxRecDepth 100000 in
theorem sg_PH_isSharedByLiving_2 {l : Launch} {G : mm_G} {K : Option mm_V → mm_M → Prop} {M0 M : mm_M} {bc bs : Nat} {a0 : Nat} {y1 : Int32} {y2 : Int32}
    (h : mm_k M a0 = 1 ∧ ((mm_i M a0 5) ≤ y2 → K (some (.inl 0)) M) ∧ (¬ (mm_i M a0 5) ≤ y2 → ∃ a2 : Nat, (mm_p M a0 3) = some a2 ∧ mm_k M a2 = 104 ∧ ∃ j5 : Nat, y2 = nI j5 ∧ j5 < 2147483648 ∧ j5 < mm_l M a2 ∧ ∃ a11 : Nat, (mm_p M a2 j5) = some a11 ∧ mm_k M a11 = 6 ∧ mm_Ok l G yy_Pr_isLiving Y_Pr_isLiving [.inr (some a11)] M (fun r M9 => mm_X M M9 → ∃ x14 : Int32, r = some (.inl x14) ∧ (x14 = 0 → mm_Z l G Y_PH_isSharedByLiving K M0 bc bs 2 [some (.inr (some a0)), some (.inl y1), some (.inl (y2 + 1))] [] M9) ∧ (¬ x14 = 0 → ∃ a15 : Nat, (mm_p M9 a0 3) = some a15 ∧ mm_k M9 a15 = 104 ∧ ∃ j18 : Nat, y2 = nI j18 ∧ j18 < 2147483648 ∧ j18 < mm_l M9 a15 ∧ ∃ a24 : Nat, (mm_p M9 a15 j18) = some a24 ∧ mm_k M9 a24 = 6 ∧ mm_Ok l G yy_Pr_isCharged Y_Pr_isCharged [.inr (some a24), .inl y1] M9 (fun r M22 => mm_X M9 M22 → ∃ x27 : Int32, r = some (.inl x27) ∧ (x27 = 0 → mm_Z l G Y_PH_isSharedByLiving K M0 bc bs 2 [some (.inr (some a0)), some (.inl y1), some (.inl (y2 + 1))] [] M22) ∧ (¬ x27 = 0 → K (some (.inl 1)) M22)))))) :
    mm_Z l G Y_PH_isSharedByLiving K M0 bc bs 2 [some (.inr (some a0)), some (.inl y1), some (.inl y2)] [] M := by
  refine mr_iload_n dd_PH_isSharedByLiving_2 rfl ?_
  refine mr_aload_n dd_PH_isSharedByLiving_3 rfl ?_
  obtain ⟨hk1, h⟩ := h
  refine mr_geti ff_PH_42 dd_PH_isSharedByLiving_4 rs_0_5 rfl hk1 ?_
  refine mr_icmp_ge 43 dd_PH_isSharedByLiving_7 (by decide) (fun hc7 => ?_) (fun hc7 => ?_)
  · have h := h.1 hc7
    refine mr_iconst 0 dd_PH_isSharedByLiving_43 (by decide) ?_
    exact mr_zreturn dd_PH_isSharedByLiving_44 rfl (Or.inl rfl) h
  · have h := h.2 hc7
    refine mr_aload_n dd_PH_isSharedByLiving_10 rfl ?_
    refine mr_getr ff_PH_32 dd_PH_isSharedByLiving_11 rs_0_3 rfl hk1 ?_
    refine mr_iload_n dd_PH_isSharedByLiving_14 rfl ?_
    obtain ⟨a2, ho3, h⟩ := h
    obtain ⟨hk4, h⟩ := h
    obtain ⟨j5, hj6, hm7, hl8, h⟩ := h
    refine mr_aald (t := 4) dd_PH_isSharedByLiving_15 ho3 hk4 (fun _ => rfl) (by decide) hj6 hm7 hl8 ?_
    obtain ⟨a11, ho12, h⟩ := h
    obtain ⟨hk13, h⟩ := h
    refine mr_callV0 (Yc := Y_Pr_isLiving) (M := M) (st := []) (vs := []) (ci := 5) fc_PH_182 iv_Pr_isLiving sv_Pr_isLiving dd_PH_isSharedByLiving_16 ⟨Nat.le_of_ble_eq_true rfl, Nat.le_of_ble_eq_true rfl⟩ (by decide) rfl rfl (Nat.le_of_ble_eq_true rfl) ho12 hk13 rfl rfl h (fun r M9 hX10 h => ?_)
    replace h := h hX10
    obtain ⟨x14, rfl, h⟩ := h
    show mm_Z l G Y_PH_isSharedByLiving K M0 bc bs 19 [some (.inr (some a0)), some (.inl y1), some (.inl y2)] [.inl x14] M9
    refine mr_if_eq 37 dd_PH_isSharedByLiving_19 (by decide) (fun hc19 => ?_) (fun hc19 => ?_)
    · have h := h.1 hc19
      refine mr_iinc 1 dd_PH_isSharedByLiving_37 rfl (by decide) (by decide) ?_
      show mm_Z l G Y_PH_isSharedByLiving K M0 bc bs 40 [some (.inr (some a0)), some (.inl y1), some (.inl (y2 + 1))] [] M9
      refine mr_goto 2 dd_PH_isSharedByLiving_40 (by decide) ?_
      exact h
    · have h := h.2 hc19
      refine mr_aload_n dd_PH_isSharedByLiving_22 rfl ?_
      refine mr_getr ff_PH_32 dd_PH_isSharedByLiving_23 rs_0_3 rfl (mm_Xk hX10 hk1 (by decide)) ?_
      refine mr_iload_n dd_PH_isSharedByLiving_26 rfl ?_
      obtain ⟨a15, ho16, h⟩ := h
      obtain ⟨hk17, h⟩ := h
      obtain ⟨j18, hj19, hm20, hl21, h⟩ := h
      refine mr_aald (t := 4) dd_PH_isSharedByLiving_27 ho16 hk17 (fun _ => rfl) (by decide) hj19 hm20 hl21 ?_
      refine mr_iload_n dd_PH_isSharedByLiving_28 rfl ?_
      obtain ⟨a24, ho25, h⟩ := h
      obtain ⟨hk26, h⟩ := h
      refine mr_callV0 (Yc := Y_Pr_isCharged) (M := M9) (st := []) (vs := [.inl y1]) (ci := 5) fc_PH_146 iv_Pr_isCharged sv_Pr_isCharged dd_PH_isSharedByLiving_29 ⟨Nat.le_of_ble_eq_true rfl, Nat.le_of_ble_eq_true rfl⟩ (by decide) rfl rfl (Nat.le_of_ble_eq_true rfl) ho25 hk26 rfl rfl h (fun r M22 hX23 h => ?_)
      replace h := h hX23
      obtain ⟨x27, rfl, h⟩ := h
      show mm_Z l G Y_PH_isSharedByLiving K M0 bc bs 32 [some (.inr (some a0)), some (.inl y1), some (.inl y2)] [.inl x27] M22
      refine mr_if_eq 37 dd_PH_isSharedByLiving_32 (by decide) (fun hc32 => ?_) (fun hc32 => ?_)
      · have h := h.1 hc32
        refine mr_iinc 1 dd_PH_isSharedByLiving_37 rfl (by decide) (by decide) ?_
        show mm_Z l G Y_PH_isSharedByLiving K M0 bc bs 40 [some (.inr (some a0)), some (.inl y1), some (.inl (y2 + 1))] [] M22
        refine mr_goto 2 dd_PH_isSharedByLiving_40 (by decide) ?_
        exact h
      · have h := h.2 hc32
        refine mr_iconst 1 dd_PH_isSharedByLiving_35 (by decide) ?_
        exact mr_zreturn dd_PH_isSharedByLiving_36 rfl (Or.inr rfl) h
set_option maxHeartbeats 4000000 in
set_option maxRecDepth 100000 in
theorem sg_PH_endPaymentOfDead {l : Launch} {G : mm_G} {K : Option mm_V → mm_M → Prop} {M : mm_M} {a0 : Nat} {xa : Int32}
    (h : mm_Z l G Y_PH_endPaymentOfDead K M 0 0 2 [some (.inr (some a0)), some (.inl xa), some (.inl 0)] [] M) :
    mm_Ok l G yy_PH_endPaymentOfDead Y_PH_endPaymentOfDead [.inr (some a0), .inl xa] M K := by
  refine mm_go (by decide) rfl (fun q => by cases q) (Nat.le_of_ble_eq_true rfl) ?_
  show mm_Z l G Y_PH_endPaymentOfDead K M 0 0 0 [some (.inr (some a0)), some (.inl xa), none] [] M
  refine mr_iconst 0 dd_PH_endPaymentOfDead_0 (by decide) ?_
  refine mr_istore_n dd_PH_endPaymentOfDead_1 (by decide) ?_
  show mm_Z l G Y_PH_endPaymentOfDead K M 0 0 2 [some (.inr (some a0)), some (.inl xa), some (.inl 0)] [] M
  exact h
set_option maxHeartbeats 4000000 in
set_option maxRecDepth 100000 in
theorem sg_PH_endPaymentOfDead_2 {l : Launch} {G : mm_G} {K : Option mm_V → mm_M → Prop} {M0 M : mm_M} {bc bs : Nat} {a0 : Nat} {y1 : Int32} {y2 : Int32}
    (h : mm_k M a0 = 1 ∧ ((mm_i M a0 5) ≤ y2 → K none M) ∧ (¬ (mm_i M a0 5) ≤ y2 → ∃ a2 : Nat, (mm_p M a0 3) = some a2 ∧ mm_k M a2 = 104 ∧ ∃ j5 : Nat, y2 = nI j5 ∧ j5 < 2147483648 ∧ j5 < mm_l M a2 ∧ ∃ a11 : Nat, (mm_p M a2 j5) = some a11 ∧ mm_k M a11 = 6 ∧ mm_Ok l G yy_Pr_isLiving Y_Pr_isLiving [.inr (some a11)] M (fun r M9 => mm_X M M9 → ∃ x14 : Int32, r = some (.inl x14) ∧ (¬ x14 = 0 → mm_Z l G Y_PH_endPaymentOfDead K M0 bc bs 2 [some (.inr (some a0)), some (.inl y1), some (.inl (y2 + 1))] [] M9) ∧ (x14 = 0 → ∃ a15 : Nat, (mm_p M9 a0 3) = some a15 ∧ mm_k M9 a15 = 104 ∧ ∃ j18 : Nat, y2 = nI j18 ∧ j18 < 2147483648 ∧ j18 < mm_l M9 a15 ∧ ∃ a24 : Nat, (mm_p M9 a15 j18) = some a24 ∧ mm_k M9 a24 = 6 ∧ mm_Ok l G yy_Pr_dropCharge Y_Pr_dropCharge [.inr (some a24), .inl y1] M9 (fun r M22 => mm_X M9 M22 → r = none ∧ mm_Z l G Y_PH_endPaymentOfDead K M0 bc bs 2 [some (.inr (some a0)), some (.inl y1), some (.inl (y2 + 1))] [] M22))))) :
    mm_Z l G Y_PH_endPaymentOfDead K M0 bc bs 2 [some (.inr (some a0)), some (.inl y1), some (.inl y2)] [] M := by
  refine mr_iload_n dd_PH_endPaymentOfDead_2 rfl ?_
  refine mr_aload_n dd_PH_endPaymentOfDead_3 rfl ?_
  obtain ⟨hk1, h⟩ := h
  refine mr_geti ff_PH_42 dd_PH_endPaymentOfDead_4 rs_0_5 rfl hk1 ?_
  refine mr_icmp_ge 38 dd_PH_endPaymentOfDead_7 (by decide) (fun hc7 => ?_) (fun hc7 => ?_)
  · have h := h.1 hc7
    exact mr_return dd_PH_endPaymentOfDead_38 rfl h
  · have h := h.2 hc7
    refine mr_aload_n dd_PH_endPaymentOfDead_10 rfl ?_
    refine mr_getr ff_PH_32 dd_PH_endPaymentOfDead_11 rs_0_3 rfl hk1 ?_
    refine mr_iload_n dd_PH_endPaymentOfDead_14 rfl ?_
    obtain ⟨a2, ho3, h⟩ := h
    obtain ⟨hk4, h⟩ := h
    obtain ⟨j5, hj6, hm7, hl8, h⟩ := h
    refine mr_aald (t := 4) dd_PH_endPaymentOfDead_15 ho3 hk4 (fun _ => rfl) (by decide) hj6 hm7 hl8 ?_
    obtain ⟨a11, ho12, h⟩ := h
    obtain ⟨hk13, h⟩ := h
    refine mr_callV0 (Yc := Y_Pr_isLiving) (M := M) (st := []) (vs := []) (ci := 5) fc_PH_182 iv_Pr_isLiving sv_Pr_isLiving dd_PH_endPaymentOfDead_16 ⟨Nat.le_of_ble_eq_true rfl, Nat.le_of_ble_eq_true rfl⟩ (by decide) rfl rfl (Nat.le_of_ble_eq_true rfl) ho12 hk13 rfl rfl h (fun r M9 hX10 h => ?_)
    replace h := h hX10
    obtain ⟨x14, rfl, h⟩ := h
    show mm_Z l G Y_PH_endPaymentOfDead K M0 bc bs 19 [some (.inr (some a0)), some (.inl y1), some (.inl y2)] [.inl x14] M9
    refine mr_if_ne 32 dd_PH_endPaymentOfDead_19 (by decide) (fun hc19 => ?_) (fun hc19 => ?_)
    · have h := h.1 hc19
      refine mr_iinc 1 dd_PH_endPaymentOfDead_32 rfl (by decide) (by decide) ?_
      show mm_Z l G Y_PH_endPaymentOfDead K M0 bc bs 35 [some (.inr (some a0)), some (.inl y1), some (.inl (y2 + 1))] [] M9
      refine mr_goto 2 dd_PH_endPaymentOfDead_35 (by decide) ?_
      exact h
    · have h := h.2 hc19
      refine mr_aload_n dd_PH_endPaymentOfDead_22 rfl ?_
      refine mr_getr ff_PH_32 dd_PH_endPaymentOfDead_23 rs_0_3 rfl (mm_Xk hX10 hk1 (by decide)) ?_
      refine mr_iload_n dd_PH_endPaymentOfDead_26 rfl ?_
      obtain ⟨a15, ho16, h⟩ := h
      obtain ⟨hk17, h⟩ := h
      obtain ⟨j18, hj19, hm20, hl21, h⟩ := h
      refine mr_aald (t := 4) dd_PH_endPaymentOfDead_27 ho16 hk17 (fun _ => rfl) (by decide) hj19 hm20 hl21 ?_
      refine mr_iload_n dd_PH_endPaymentOfDead_28 rfl ?_
      obtain ⟨a24, ho25, h⟩ := h
      obtain ⟨hk26, h⟩ := h
      refine mr_callV0 (Yc := Y_Pr_dropCharge) (M := M9) (st := []) (vs := [.inl y1]) (ci := 5) fc_PH_223 iv_Pr_dropCharge sv_Pr_dropCharge dd_PH_endPaymentOfDead_29 ⟨Nat.le_of_ble_eq_true rfl, Nat.le_of_ble_eq_true rfl⟩ (by decide) rfl rfl (Nat.le_of_ble_eq_true rfl) ho25 hk26 rfl rfl h (fun r M22 hX23 h => ?_)
      replace h := h hX23
      obtain ⟨rfl, h⟩ := h
      show mm_Z l G Y_PH_endPaymentOfDead K M0 bc bs 32 [some (.inr (some a0)), some (.inl y1), some (.inl y2)] [] M22
      refine mr_iinc 1 dd_PH_endPaymentOfDead_32 rfl (by decide) (by decide) ?_
      show mm_Z l G Y_PH_endPaymentOfDead K M0 bc bs 35 [some (.inr (some a0)), some (.inl y1), some (.inl (y2 + 1))] [] M22
      refine mr_goto 2 dd_PH_endPaymentOfDead_35 (by decide) ?_
      exact h
set_option maxHeartbeats 4000000 in
set_option maxRecDepth 100000 in
theorem sg_PH_mode {l : Launch} {G : mm_G} {K : Option mm_V → mm_M → Prop} {M : mm_M} {a0 : Nat} {xa : Int32} {xb : Int32}
    (h : mm_k M a0 = 1 ∧ mm_Ok l G yy_PH_livingProcess Y_PH_livingProcess [.inr (some a0), .inl xa] M (fun r M1 => mm_X M M1 → ∃ o4 : Option Nat, r = some (.inr o4) ∧ (o4 = none → K (some (.inl 0)) M1) ∧ (∀ a5 : Nat, o4 = some a5 → mm_k M1 a5 = 6 ∧ mm_Ok l G yy_Pr_isInKernelMode Y_Pr_isInKernelMode [.inr (some a5)] M1 (fun r M6 => mm_X M1 M6 → ∃ x9 : Int32, r = some (.inl x9) ∧ (¬ x9 = xb → (¬ (mm_i M6 a5 5) = 3 → (xb = 0 → K (some (.inl 1)) (mm_si M6 a5 5 1)) ∧ (¬ xb = 0 → K (some (.inl 1)) (mm_si M6 a5 5 2))) ∧ ((mm_i M6 a5 5) = 3 → mm_Ok l G yy_PH_die Y_PH_die [.inr (some a0), .inr o4] M6 (fun r M10 => mm_X M6 M10 → r = none ∧ K (some (.inl 1)) M10))) ∧ (x9 = xb → K (some (.inl 0)) M6))))) :
    mm_Ok l G yy_PH_mode Y_PH_mode [.inr (some a0), .inl xa, .inl xb] M K := by
  refine mm_go (by decide) rfl (fun q => by cases q) (Nat.le_of_ble_eq_true rfl) ?_
  show mm_Z l G Y_PH_mode K M 0 0 0 [some (.inr (some a0)), some (.inl xa), some (.inl xb), none] [] M
  refine mr_aload_n dd_PH_mode_0 rfl ?_
  refine mr_iload_n dd_PH_mode_1 rfl ?_
  obtain ⟨hk3, h⟩ := h
  refine mr_callV0 (Yc := Y_PH_livingProcess) (M := M) (st := []) (vs := [.inl xa]) (ci := 0) fc_PH_61 iv_PH_livingProcess sv_PH_livingProcess dd_PH_mode_2 ⟨Nat.le_of_ble_eq_true rfl, Nat.le_of_ble_eq_true rfl⟩ (by decide) rfl rfl (Nat.le_of_ble_eq_true rfl) rfl hk3 rfl rfl h (fun r M1 hX2 h => ?_)
  replace h := h hX2
  obtain ⟨o4, rfl, h⟩ := h
  show mm_Z l G Y_PH_mode K M 0 0 5 [some (.inr (some a0)), some (.inl xa), some (.inl xb), none] [.inr o4] M1
  refine mr_astore_n dd_PH_mode_5 (by decide) ?_
  show mm_Z l G Y_PH_mode K M 0 0 6 [some (.inr (some a0)), some (.inl xa), some (.inl xb), some (.inr o4)] [] M1
  refine mr_aload_n dd_PH_mode_6 rfl ?_
  refine mr_ifnull 18 dd_PH_mode_7 (by decide) (fun hc7 => ?_) (fun a5 hc7 => ?_)
  · have h := h.1 hc7
    refine mr_iconst 0 dd_PH_mode_18 (by decide) ?_
    exact mr_zreturn dd_PH_mode_19 rfl (Or.inl rfl) h
  · have h := h.2 a5 hc7
    refine mr_aload_n dd_PH_mode_10 rfl ?_
    obtain ⟨hk8, h⟩ := h
    refine mr_callV0 (Yc := Y_Pr_isInKernelMode) (M := M1) (st := []) (vs := []) (ci := 5) fc_PH_72 iv_Pr_isInKernelMode sv_Pr_isInKernelMode dd_PH_mode_11 ⟨Nat.le_of_ble_eq_true rfl, Nat.le_of_ble_eq_true rfl⟩ (by decide) rfl rfl (Nat.le_of_ble_eq_true rfl) hc7 hk8 rfl rfl h (fun r M6 hX7 h => ?_)
    replace h := h hX7
    obtain ⟨x9, rfl, h⟩ := h
    show mm_Z l G Y_PH_mode K M 0 0 14 [some (.inr (some a0)), some (.inl xa), some (.inl xb), some (.inr o4)] [.inl x9] M6
    refine mr_iload_n dd_PH_mode_14 rfl ?_
    refine mr_icmp_ne 20 dd_PH_mode_15 (by decide) (fun hc15 => ?_) (fun hc15 => ?_)
    · have h := h.1 hc15
      refine mr_aload_n dd_PH_mode_20 rfl ?_
      refine mr_geti ff_PH_69 dd_PH_mode_21 rs_5_5 hc7 (mm_Xk hX7 hk8 (by decide)) ?_
      refine mr_iconst 3 dd_PH_mode_24 (by decide) ?_
      refine mr_icmp_ne 36 dd_PH_mode_25 (by decide) (fun hc25 => ?_) (fun hc25 => ?_)
      · have h := h.1 hc25
        refine mr_aload_n dd_PH_mode_36 rfl ?_
        refine mr_iload_n dd_PH_mode_37 rfl ?_
        refine mr_if_eq 45 dd_PH_mode_38 (by decide) (fun hc38 => ?_) (fun hc38 => ?_)
        · have h := h.1 hc38
          refine mr_iconst 1 dd_PH_mode_45 (by decide) ?_
          refine mr_puti ff_PH_69 fp_5 (Or.inl rfl) dd_PH_mode_46 (Or.inl (by decide +kernel)) rs_5_5 hc7 (mm_Xk hX7 hk8 (by decide)) ?_
          refine mr_iconst 1 dd_PH_mode_49 (by decide) ?_
          exact mr_zreturn dd_PH_mode_50 rfl (Or.inr rfl) h
        · have h := h.2 hc38
          refine mr_iconst 2 dd_PH_mode_41 (by decide) ?_
          refine mr_goto 46 dd_PH_mode_42 (by decide) ?_
          refine mr_puti ff_PH_69 fp_5 (Or.inl rfl) dd_PH_mode_46 (Or.inl (by decide +kernel)) rs_5_5 hc7 (mm_Xk hX7 hk8 (by decide)) ?_
          refine mr_iconst 1 dd_PH_mode_49 (by decide) ?_
          exact mr_zreturn dd_PH_mode_50 rfl (Or.inr rfl) h
      · have h := h.2 hc25
        refine mr_aload_n dd_PH_mode_28 rfl ?_
        refine mr_aload_n dd_PH_mode_29 rfl ?_
        refine mr_callV0 (Yc := Y_PH_die) (M := M6) (st := []) (vs := [.inr o4]) (ci := 0) fc_PH_76 iv_PH_die sv_PH_die dd_PH_mode_30 ⟨Nat.le_of_ble_eq_true rfl, Nat.le_of_ble_eq_true rfl⟩ (by decide) rfl rfl (Nat.le_of_ble_eq_true rfl) rfl (mm_Xk hX7 (mm_Xk hX2 hk3 (by decide)) (by decide)) rfl rfl h (fun r M10 hX11 h => ?_)
        replace h := h hX11
        obtain ⟨rfl, h⟩ := h
        show mm_Z l G Y_PH_mode K M 0 0 33 [some (.inr (some a0)), some (.inl xa), some (.inl xb), some (.inr o4)] [] M10
        refine mr_goto 49 dd_PH_mode_33 (by decide) ?_
        refine mr_iconst 1 dd_PH_mode_49 (by decide) ?_
        exact mr_zreturn dd_PH_mode_50 rfl (Or.inr rfl) h
    · have h := h.2 hc15
      refine mr_iconst 0 dd_PH_mode_18 (by decide) ?_
      exact mr_zreturn dd_PH_mode_19 rfl (Or.inl rfl) h
set_option maxHeartbeats 4000000 in
set_option maxRecDepth 100000 in
theorem sg_PH_make {l : Launch} {G : mm_G} {K : Option mm_V → mm_M → Prop} {M : mm_M} {a0 : Nat} {xa : Int32} {xb : Int32} {xc : Int32} {xd : Int32}
    (h : mm_k M a0 = 1 ∧ mm_Ok l G yy_PH_livingProcess Y_PH_livingProcess [.inr (some a0), .inl xa] M (fun r M1 => mm_X M M1 → ∃ o4 : Option Nat, r = some (.inr o4) ∧ (o4 = none → K (some (.inl (-1))) M1) ∧ (∀ a5 : Nat, o4 = some a5 → mm_Ok l G yy_PH_isRegister Y_PH_isRegister [.inl xb] M1 (fun r M6 => mm_X M1 M6 → ∃ x8 : Int32, r = some (.inl x8) ∧ (x8 = 0 → K (some (.inl (-1))) M6) ∧ (¬ x8 = 0 → (xc < 1 → K (some (.inl (-1))) M6) ∧ (¬ xc < 1 → (xc ≤ 16 → ∃ a9 : Nat, (mm_p M6 a0 0) = some a9 ∧ mm_k M6 a9 = 2 ∧ ∃ a14 : Nat, (mm_p M6 a9 1) = some a14 ∧ mm_k M6 a14 = 3 ∧ mm_Ok l G yy_AL_size Y_AL_size [.inr (some a14)] M6 (fun r M12 => mm_X M6 M12 → ∃ x17 : Int32, r = some (.inl x17) ∧ (x17 < 60 → mm_Ok l G yy_PH_pageForMaking Y_PH_pageForMaking [.inr (some a0), .inr o4, .inl xc] M12 (fun r M18 => mm_X M12 M18 → ∃ o20 : Option Nat, r = some (.inr o20) ∧ (o20 = none → mm_k M18 a5 = 6 ∧ mm_Ok l G yy_Pr_isInKernelMode Y_Pr_isInKernelMode [.inr (some a5)] M18 (fun r M22 => mm_X M18 M22 → ∃ x25 : Int32, r = some (.inl x25) ∧ (x25 = 0 → mm_Ok l G yy_PH_collectHeap Y_PH_collectHeap [.inr (some a0), .inl xa] M22 (fun r M26 => mm_X M22 M26 → ∃ x28 : Int32, r = some (.inl x28) ∧ mm_Ok l G yy_PH_pageForMaking Y_PH_pageForMaking [.inr (some a0), .inr o4, .inl xc] M26 (fun r M29 => mm_X M26 M29 → ∃ o31 : Option Nat, r = some (.inr o31) ∧ (o31 = none → K (some (.inl (-5))) M29) ∧ (∀ a32 : Nat, o31 = some a32 → ∃ a35 : Nat, (mm_p M29 a0 0) = some a35 ∧ mm_k M29 a35 = 2 ∧ mm_Ok l G yy_Me_putObject Y_Me_putObject [.inr (some a35), .inr o31, .inl xc, .inl xd] M29 (fun r M33 => mm_X M29 M33 → ∃ o38 : Option Nat, r = some (.inr o38) ∧ ∃ a39 : Nat, (mm_p M29 a5 4) = some a39 ∧ mm_k M33 a39 = 103 ∧ ∃ j42 : Nat, xb = nI j42 ∧ j42 < 2147483648 ∧ j42 < mm_l M33 a39 ∧ (∀ q, o38 = some q → mm_k M33 q = 8) ∧ K (some (.inl 0)) (mm_sp M33 a39 j42 o38)))))) ∧ (¬ x25 = 0 → mm_Ok l G yy_PH_collectHeap Y_PH_collectHeap [.inr (some a0), .inl 8] M22 (fun r M47 => mm_X M22 M47 → ∃ x49 : Int32, r = some (.inl x49) ∧ mm_Ok l G yy_PH_pageForMaking Y_PH_pageForMaking [.inr (some a0), .inr o4, .inl xc] M47 (fun r M50 => mm_X M47 M50 → ∃ o52 : Option Nat, r = some (.inr o52) ∧ (o52 = none → K (some (.inl (-5))) M50) ∧ (∀ a53 : Nat, o52 = some a53 → ∃ a56 : Nat, (mm_p M50 a0 0) = some a56 ∧ mm_k M50 a56 = 2 ∧ mm_Ok l G yy_Me_putObject Y_Me_putObject [.inr (some a56), .inr o52, .inl xc, .inl xd] M50 (fun r M54 => mm_X M50 M54 → ∃ o59 : Option Nat, r = some (.inr o59) ∧ ∃ a60 : Nat, (mm_p M50 a5 4) = some a60 ∧ mm_k M54 a60 = 103 ∧ ∃ j63 : Nat, xb = nI j63 ∧ j63 < 2147483648 ∧ j63 < mm_l M54 a60 ∧ (∀ q, o59 = some q → mm_k M54 q = 8) ∧ K (some (.inl 0)) (mm_sp M54 a60 j63 o59)))))))) ∧ (∀ a21 : Nat, o20 = some a21 → (o20 = none → K (some (.inl (-5))) M18) ∧ (∀ a68 : Nat, o20 = some a68 → mm_k M18 a5 = 6 ∧ ∃ a72 : Nat, (mm_p M18 a0 0) = some a72 ∧ mm_k M18 a72 = 2 ∧ mm_Ok l G yy_Me_putObject Y_Me_putObject [.inr (some a72), .inr o20, .inl xc, .inl xd] M18 (fun r M70 => mm_X M18 M70 → ∃ o75 : Option Nat, r = some (.inr o75) ∧ ∃ a76 : Nat, (mm_p M18 a5 4) = some a76 ∧ mm_k M70 a76 = 103 ∧ ∃ j79 : Nat, xb = nI j79 ∧ j79 < 2147483648 ∧ j79 < mm_l M70 a76 ∧ (∀ q, o75 = some q → mm_k M70 q = 8) ∧ K (some (.inl 0)) (mm_sp M70 a76 j79 o75)))))) ∧ (¬ x17 < 60 → K (some (.inl (-4))) M12))) ∧ (¬ xc ≤ 16 → K (some (.inl (-1))) M6))))))) :
    mm_Ok l G yy_PH_make Y_PH_make [.inr (some a0), .inl xa, .inl xb, .inl xc, .inl xd] M K := by
  refine mm_go (by decide) rfl (fun q => by cases q) (Nat.le_of_ble_eq_true rfl) ?_
  show mm_Z l G Y_PH_make K M 7 315 0 [some (.inr (some a0)), some (.inl xa), some (.inl xb), some (.inl xc), some (.inl xd), none, none] [] M
  refine mr_aload_n dd_PH_make_0 rfl ?_
  refine mr_iload_n dd_PH_make_1 rfl ?_
  obtain ⟨hk3, h⟩ := h
  refine mr_callV0 (Yc := Y_PH_livingProcess) (M := M) (st := []) (vs := [.inl xa]) (ci := 0) fc_PH_61 iv_PH_livingProcess sv_PH_livingProcess dd_PH_make_2 ⟨Nat.le_of_ble_eq_true rfl, Nat.le_of_ble_eq_true rfl⟩ (by decide) rfl rfl (Nat.le_of_ble_eq_true rfl) rfl hk3 rfl rfl h (fun r M1 hX2 h => ?_)
  replace h := h hX2
  obtain ⟨o4, rfl, h⟩ := h
  show mm_Z l G Y_PH_make K M 7 315 5 [some (.inr (some a0)), some (.inl xa), some (.inl xb), some (.inl xc), some (.inl xd), none, none] [.inr o4] M1
  refine mr_astore dd_PH_make_5 (by decide) ?_
  show mm_Z l G Y_PH_make K M 7 315 7 [some (.inr (some a0)), some (.inl xa), some (.inl xb), some (.inl xc), some (.inl xd), some (.inr o4), none] [] M1
  refine mr_aload dd_PH_make_7 rfl ?_
  refine mr_ifnull 30 dd_PH_make_9 (by decide) (fun hc9 => ?_) (fun a5 hc9 => ?_)
  · have h := h.1 hc9
    refine mr_iconst (-1) dd_PH_make_30 (by decide) ?_
    exact mr_ireturn dd_PH_make_31 rfl h
  · have h := h.2 a5 hc9
    refine mr_iload_n dd_PH_make_12 rfl ?_
    refine mr_callS0 (Yc := Y_PH_isRegister) (M := M1) (st := []) (vs := [.inl xb]) fc_PH_80 si_PH_isRegister dd_PH_make_13 ⟨Nat.le_of_ble_eq_true rfl, Nat.le_of_ble_eq_true rfl⟩ rfl (Nat.le_of_ble_eq_true rfl) rfl rfl h (fun r M6 hX7 h => ?_)
    replace h := h hX7
    obtain ⟨x8, rfl, h⟩ := h
    show mm_Z l G Y_PH_make K M 7 315 16 [some (.inr (some a0)), some (.inl xa), some (.inl xb), some (.inl xc), some (.inl xd), some (.inr o4), none] [.inl x8] M6
    refine mr_if_eq 30 dd_PH_make_16 (by decide) (fun hc16 => ?_) (fun hc16 => ?_)
    · have h := h.1 hc16
      refine mr_iconst (-1) dd_PH_make_30 (by decide) ?_
      exact mr_ireturn dd_PH_make_31 rfl h
    · have h := h.2 hc16
      refine mr_iload_n dd_PH_make_19 rfl ?_
      refine mr_iconst 1 dd_PH_make_20 (by decide) ?_
      refine mr_icmp_lt 30 dd_PH_make_21 (by decide) (fun hc21 => ?_) (fun hc21 => ?_)
      · have h := h.1 hc21
        refine mr_iconst (-1) dd_PH_make_30 (by decide) ?_
        exact mr_ireturn dd_PH_make_31 rfl h
      · have h := h.2 hc21
        refine mr_iload_n dd_PH_make_24 rfl ?_
        refine mr_bipush 16 dd_PH_make_25 (by decide) ?_
        refine mr_icmp_le 32 dd_PH_make_27 (by decide) (fun hc27 => ?_) (fun hc27 => ?_)
        · have h := h.1 hc27
          refine mr_aload_n dd_PH_make_32 rfl ?_
          refine mr_getr ff_PH_10 dd_PH_make_33 rs_0_0 rfl (mm_Xk hX7 (mm_Xk hX2 hk3 (by decide)) (by decide)) ?_
          obtain ⟨a9, ho10, h⟩ := h
          obtain ⟨hk11, h⟩ := h
          refine mr_getr ff_PH_84 dd_PH_make_36 rs_1_1 ho10 hk11 ?_
          obtain ⟨a14, ho15, h⟩ := h
          obtain ⟨hk16, h⟩ := h
          refine mr_callV0 (Yc := Y_AL_size) (M := M6) (st := []) (vs := []) (ci := 2) fc_PH_88 iv_AL_size sv_AL_size dd_PH_make_39 ⟨Nat.le_of_ble_eq_true rfl, Nat.le_of_ble_eq_true rfl⟩ (by decide) rfl rfl (Nat.le_of_ble_eq_true rfl) ho15 hk16 rfl rfl h (fun r M12 hX13 h => ?_)
          replace h := h hX13
          obtain ⟨x17, rfl, h⟩ := h
          show mm_Z l G Y_PH_make K M 7 315 42 [some (.inr (some a0)), some (.inl xa), some (.inl xb), some (.inl xc), some (.inl xd), some (.inr o4), none] [.inl x17] M12
          refine mr_bipush 60 dd_PH_make_42 (by decide) ?_
          refine mr_icmp_lt 50 dd_PH_make_44 (by decide) (fun hc44 => ?_) (fun hc44 => ?_)
          · have h := h.1 hc44
            refine mr_aload_n dd_PH_make_50 rfl ?_
            refine mr_aload dd_PH_make_51 rfl ?_
            refine mr_iload_n dd_PH_make_53 rfl ?_
            refine mr_callV (Yc := Y_PH_pageForMaking) (M := M12) (bc := 5) (bs := 212) (st := []) (vs := [.inr o4, .inl xc]) (ci := 0) fc_PH_94 iv_PH_pageForMaking sv_PH_pageForMaking dd_PH_make_54 ⟨Nat.le_of_ble_eq_true rfl, Nat.le_of_ble_eq_true rfl⟩ (by decide) rfl rfl (Nat.le_of_ble_eq_true rfl) rfl (mm_Xk hX13 (mm_Xk hX7 (mm_Xk hX2 hk3 (by decide)) (by decide)) (by decide)) h (fun r M18 hX19 h => ?_)
            replace h := h hX19
            obtain ⟨o20, rfl, h⟩ := h
            show mm_Z l G Y_PH_make K M 5 212 57 [some (.inr (some a0)), some (.inl xa), some (.inl xb), some (.inl xc), some (.inl xd), some (.inr o4), none] [.inr o20] M18
            refine mr_astore dd_PH_make_57 (by decide) ?_
            show mm_Z l G Y_PH_make K M 5 212 59 [some (.inr (some a0)), some (.inl xa), some (.inl xb), some (.inl xc), some (.inl xd), some (.inr o4), some (.inr o20)] [] M18
            refine mr_aload dd_PH_make_59 rfl ?_
            refine mr_ifnonnull 92 dd_PH_make_61 (by decide) (fun a21 hc61 => ?_) (fun hc61 => ?_)
            · have h := h.2 a21 hc61
              refine mr_aload dd_PH_make_92 rfl ?_
              refine mr_ifnonnull 100 dd_PH_make_94 (by decide) (fun a68 hc94 => ?_) (fun hc94 => ?_)
              · have h := h.2 a68 hc94
                refine mr_aload dd_PH_make_100 rfl ?_
                obtain ⟨hk69, h⟩ := h
                refine mr_getr ff_PH_102 dd_PH_make_102 rs_5_4 hc9 hk69 ?_
                refine mr_iload_n dd_PH_make_105 rfl ?_
                refine mr_aload_n dd_PH_make_106 rfl ?_
                refine mr_getr ff_PH_10 dd_PH_make_107 rs_0_0 rfl (mm_Xk hX19 (mm_Xk hX13 (mm_Xk hX7 (mm_Xk hX2 hk3 (by decide)) (by decide)) (by decide)) (by decide)) ?_
                refine mr_aload dd_PH_make_110 rfl ?_
                refine mr_iload_n dd_PH_make_112 rfl ?_
                refine mr_iload dd_PH_make_113 rfl ?_
                obtain ⟨a72, ho73, h⟩ := h
                obtain ⟨hk74, h⟩ := h
                refine mr_callV (Yc := Y_Me_putObject) (M := M18) (bc := 2) (bs := 103) (st := [.inl xb, .inr (mm_p M18 a5 4)]) (vs := [.inr o20, .inl xc, .inl xd]) (ci := 1) fc_PH_105 iv_Me_putObject sv_Me_putObject dd_PH_make_115 ⟨Nat.le_of_ble_eq_true rfl, Nat.le_of_ble_eq_true rfl⟩ (by decide) rfl rfl (Nat.le_of_ble_eq_true rfl) ho73 hk74 h (fun r M70 hX71 h => ?_)
                replace h := h hX71
                obtain ⟨o75, rfl, h⟩ := h
                show mm_Z l G Y_PH_make K M 2 103 118 [some (.inr (some a0)), some (.inl xa), some (.inl xb), some (.inl xc), some (.inl xd), some (.inr o4), some (.inr o20)] [.inr o75, .inl xb, .inr (mm_p M18 a5 4)] M70
                obtain ⟨a76, ho77, h⟩ := h
                obtain ⟨hk78, h⟩ := h
                obtain ⟨j79, hj80, hm81, hl82, h⟩ := h
                obtain ⟨hv83, h⟩ := h
                refine mr_aast (t := 3) (E := "ProcessHeaps$HeapObject") dd_PH_make_118 ho77 hk78 (fun _ => rfl) (by decide) (by decide) hj80 hm81 hl82 (fun q e => ⟨7, hv83 q e, cs_7⟩) ?_
                refine mr_iconst 0 dd_PH_make_119 (by decide) ?_
                exact mr_ireturn dd_PH_make_120 rfl h
              · have h := h.1 hc94
                refine mr_bipush (-5) dd_PH_make_97 (by decide) ?_
                exact mr_ireturn dd_PH_make_99 rfl h
            · have h := h.1 hc61
              refine mr_aload_n dd_PH_make_64 rfl ?_
              refine mr_aload dd_PH_make_65 rfl ?_
              obtain ⟨hk24, h⟩ := h
              refine mr_callV0 (Yc := Y_Pr_isInKernelMode) (M := M18) (st := [.inr (some a0)]) (vs := []) (ci := 5) fc_PH_72 iv_Pr_isInKernelMode sv_Pr_isInKernelMode dd_PH_make_67 ⟨Nat.le_of_ble_eq_true rfl, Nat.le_of_ble_eq_true rfl⟩ (by decide) rfl rfl (Nat.le_of_ble_eq_true rfl) hc9 hk24 rfl rfl h (fun r M22 hX23 h => ?_)
              replace h := h hX23
              obtain ⟨x25, rfl, h⟩ := h
              show mm_Z l G Y_PH_make K M 5 212 70 [some (.inr (some a0)), some (.inl xa), some (.inl xb), some (.inl xc), some (.inl xd), some (.inr o4), some (.inr o20)] [.inl x25, .inr (some a0)] M22
              refine mr_if_eq 78 dd_PH_make_70 (by decide) (fun hc70 => ?_) (fun hc70 => ?_)
              · have h := h.1 hc70
                refine mr_iload_n dd_PH_make_78 rfl ?_
                refine mr_callV0 (Yc := Y_PH_collectHeap) (M := M22) (st := []) (vs := [.inl xa]) (ci := 0) fc_PH_98 iv_PH_collectHeap sv_PH_collectHeap dd_PH_make_79 ⟨Nat.le_of_ble_eq_true rfl, Nat.le_of_ble_eq_true rfl⟩ (by decide) rfl rfl (Nat.le_of_ble_eq_true rfl) rfl (mm_Xk hX23 (mm_Xk hX19 (mm_Xk hX13 (mm_Xk hX7 (mm_Xk hX2 hk3 (by decide)) (by decide)) (by decide)) (by decide)) (by decide)) rfl rfl h (fun r M26 hX27 h => ?_)
                replace h := h hX27
                obtain ⟨x28, rfl, h⟩ := h
                show mm_Z l G Y_PH_make K M 5 212 82 [some (.inr (some a0)), some (.inl xa), some (.inl xb), some (.inl xc), some (.inl xd), some (.inr o4), some (.inr o20)] [.inl x28] M26
                refine mr_pop dd_PH_make_82 ?_
                refine mr_aload_n dd_PH_make_83 rfl ?_
                refine mr_aload dd_PH_make_84 rfl ?_
                refine mr_iload_n dd_PH_make_86 rfl ?_
                refine mr_callV (Yc := Y_PH_pageForMaking) (M := M26) (bc := 3) (bs := 109) (st := []) (vs := [.inr o4, .inl xc]) (ci := 0) fc_PH_94 iv_PH_pageForMaking sv_PH_pageForMaking dd_PH_make_87 ⟨Nat.le_of_ble_eq_true rfl, Nat.le_of_ble_eq_true rfl⟩ (by decide) rfl rfl (Nat.le_of_ble_eq_true rfl) rfl (mm_Xk hX27 (mm_Xk hX23 (mm_Xk hX19 (mm_Xk hX13 (mm_Xk hX7 (mm_Xk hX2 hk3 (by decide)) (by decide)) (by decide)) (by decide)) (by decide)) (by decide)) h (fun r M29 hX30 h => ?_)
                replace h := h hX30
                obtain ⟨o31, rfl, h⟩ := h
                show mm_Z l G Y_PH_make K M 3 109 90 [some (.inr (some a0)), some (.inl xa), some (.inl xb), some (.inl xc), some (.inl xd), some (.inr o4), some (.inr o20)] [.inr o31] M29
                refine mr_astore dd_PH_make_90 (by decide) ?_
                show mm_Z l G Y_PH_make K M 3 109 92 [some (.inr (some a0)), some (.inl xa), some (.inl xb), some (.inl xc), some (.inl xd), some (.inr o4), some (.inr o31)] [] M29
                refine mr_aload dd_PH_make_92 rfl ?_
                refine mr_ifnonnull 100 dd_PH_make_94 (by decide) (fun a32 hc94 => ?_) (fun hc94 => ?_)
                · have h := h.2 a32 hc94
                  refine mr_aload dd_PH_make_100 rfl ?_
                  refine mr_getr ff_PH_102 dd_PH_make_102 rs_5_4 hc9 (mm_Xk hX30 (mm_Xk hX27 (mm_Xk hX23 hk24 (by decide)) (by decide)) (by decide)) ?_
                  refine mr_iload_n dd_PH_make_105 rfl ?_
                  refine mr_aload_n dd_PH_make_106 rfl ?_
                  refine mr_getr ff_PH_10 dd_PH_make_107 rs_0_0 rfl (mm_Xk hX30 (mm_Xk hX27 (mm_Xk hX23 (mm_Xk hX19 (mm_Xk hX13 (mm_Xk hX7 (mm_Xk hX2 hk3 (by decide)) (by decide)) (by decide)) (by decide)) (by decide)) (by decide)) (by decide)) ?_
                  refine mr_aload dd_PH_make_110 rfl ?_
                  refine mr_iload_n dd_PH_make_112 rfl ?_
                  refine mr_iload dd_PH_make_113 rfl ?_
                  obtain ⟨a35, ho36, h⟩ := h
                  obtain ⟨hk37, h⟩ := h
                  refine mr_callV (Yc := Y_Me_putObject) (M := M29) (bc := 0) (bs := 0) (st := [.inl xb, .inr (mm_p M29 a5 4)]) (vs := [.inr o31, .inl xc, .inl xd]) (ci := 1) fc_PH_105 iv_Me_putObject sv_Me_putObject dd_PH_make_115 ⟨Nat.le_of_ble_eq_true rfl, Nat.le_of_ble_eq_true rfl⟩ (by decide) rfl rfl (Nat.le_of_ble_eq_true rfl) ho36 hk37 h (fun r M33 hX34 h => ?_)
                  replace h := h hX34
                  obtain ⟨o38, rfl, h⟩ := h
                  show mm_Z l G Y_PH_make K M 0 0 118 [some (.inr (some a0)), some (.inl xa), some (.inl xb), some (.inl xc), some (.inl xd), some (.inr o4), some (.inr o31)] [.inr o38, .inl xb, .inr (mm_p M29 a5 4)] M33
                  obtain ⟨a39, ho40, h⟩ := h
                  obtain ⟨hk41, h⟩ := h
                  obtain ⟨j42, hj43, hm44, hl45, h⟩ := h
                  obtain ⟨hv46, h⟩ := h
                  refine mr_aast (t := 3) (E := "ProcessHeaps$HeapObject") dd_PH_make_118 ho40 hk41 (fun _ => rfl) (by decide) (by decide) hj43 hm44 hl45 (fun q e => ⟨7, hv46 q e, cs_7⟩) ?_
                  refine mr_iconst 0 dd_PH_make_119 (by decide) ?_
                  exact mr_ireturn dd_PH_make_120 rfl h
                · have h := h.1 hc94
                  refine mr_bipush (-5) dd_PH_make_97 (by decide) ?_
                  exact mr_ireturn dd_PH_make_99 rfl h
              · have h := h.2 hc70
                refine mr_bipush 8 dd_PH_make_73 (by decide) ?_
                refine mr_goto 79 dd_PH_make_75 (by decide) ?_
                refine mr_callV0 (Yc := Y_PH_collectHeap) (M := M22) (st := []) (vs := [.inl 8]) (ci := 0) fc_PH_98 iv_PH_collectHeap sv_PH_collectHeap dd_PH_make_79 ⟨Nat.le_of_ble_eq_true rfl, Nat.le_of_ble_eq_true rfl⟩ (by decide) rfl rfl (Nat.le_of_ble_eq_true rfl) rfl (mm_Xk hX23 (mm_Xk hX19 (mm_Xk hX13 (mm_Xk hX7 (mm_Xk hX2 hk3 (by decide)) (by decide)) (by decide)) (by decide)) (by decide)) rfl rfl h (fun r M47 hX48 h => ?_)
                replace h := h hX48
                obtain ⟨x49, rfl, h⟩ := h
                show mm_Z l G Y_PH_make K M 5 212 82 [some (.inr (some a0)), some (.inl xa), some (.inl xb), some (.inl xc), some (.inl xd), some (.inr o4), some (.inr o20)] [.inl x49] M47
                refine mr_pop dd_PH_make_82 ?_
                refine mr_aload_n dd_PH_make_83 rfl ?_
                refine mr_aload dd_PH_make_84 rfl ?_
                refine mr_iload_n dd_PH_make_86 rfl ?_
                refine mr_callV (Yc := Y_PH_pageForMaking) (M := M47) (bc := 3) (bs := 109) (st := []) (vs := [.inr o4, .inl xc]) (ci := 0) fc_PH_94 iv_PH_pageForMaking sv_PH_pageForMaking dd_PH_make_87 ⟨Nat.le_of_ble_eq_true rfl, Nat.le_of_ble_eq_true rfl⟩ (by decide) rfl rfl (Nat.le_of_ble_eq_true rfl) rfl (mm_Xk hX48 (mm_Xk hX23 (mm_Xk hX19 (mm_Xk hX13 (mm_Xk hX7 (mm_Xk hX2 hk3 (by decide)) (by decide)) (by decide)) (by decide)) (by decide)) (by decide)) h (fun r M50 hX51 h => ?_)
                replace h := h hX51
                obtain ⟨o52, rfl, h⟩ := h
                show mm_Z l G Y_PH_make K M 3 109 90 [some (.inr (some a0)), some (.inl xa), some (.inl xb), some (.inl xc), some (.inl xd), some (.inr o4), some (.inr o20)] [.inr o52] M50
                refine mr_astore dd_PH_make_90 (by decide) ?_
                show mm_Z l G Y_PH_make K M 3 109 92 [some (.inr (some a0)), some (.inl xa), some (.inl xb), some (.inl xc), some (.inl xd), some (.inr o4), some (.inr o52)] [] M50
                refine mr_aload dd_PH_make_92 rfl ?_
                refine mr_ifnonnull 100 dd_PH_make_94 (by decide) (fun a53 hc94 => ?_) (fun hc94 => ?_)
                · have h := h.2 a53 hc94
                  refine mr_aload dd_PH_make_100 rfl ?_
                  refine mr_getr ff_PH_102 dd_PH_make_102 rs_5_4 hc9 (mm_Xk hX51 (mm_Xk hX48 (mm_Xk hX23 hk24 (by decide)) (by decide)) (by decide)) ?_
                  refine mr_iload_n dd_PH_make_105 rfl ?_
                  refine mr_aload_n dd_PH_make_106 rfl ?_
                  refine mr_getr ff_PH_10 dd_PH_make_107 rs_0_0 rfl (mm_Xk hX51 (mm_Xk hX48 (mm_Xk hX23 (mm_Xk hX19 (mm_Xk hX13 (mm_Xk hX7 (mm_Xk hX2 hk3 (by decide)) (by decide)) (by decide)) (by decide)) (by decide)) (by decide)) (by decide)) ?_
                  refine mr_aload dd_PH_make_110 rfl ?_
                  refine mr_iload_n dd_PH_make_112 rfl ?_
                  refine mr_iload dd_PH_make_113 rfl ?_
                  obtain ⟨a56, ho57, h⟩ := h
                  obtain ⟨hk58, h⟩ := h
                  refine mr_callV (Yc := Y_Me_putObject) (M := M50) (bc := 0) (bs := 0) (st := [.inl xb, .inr (mm_p M50 a5 4)]) (vs := [.inr o52, .inl xc, .inl xd]) (ci := 1) fc_PH_105 iv_Me_putObject sv_Me_putObject dd_PH_make_115 ⟨Nat.le_of_ble_eq_true rfl, Nat.le_of_ble_eq_true rfl⟩ (by decide) rfl rfl (Nat.le_of_ble_eq_true rfl) ho57 hk58 h (fun r M54 hX55 h => ?_)
                  replace h := h hX55
                  obtain ⟨o59, rfl, h⟩ := h
                  show mm_Z l G Y_PH_make K M 0 0 118 [some (.inr (some a0)), some (.inl xa), some (.inl xb), some (.inl xc), some (.inl xd), some (.inr o4), some (.inr o52)] [.inr o59, .inl xb, .inr (mm_p M50 a5 4)] M54
                  obtain ⟨a60, ho61, h⟩ := h
                  obtain ⟨hk62, h⟩ := h
                  obtain ⟨j63, hj64, hm65, hl66, h⟩ := h
                  obtain ⟨hv67, h⟩ := h
                  refine mr_aast (t := 3) (E := "ProcessHeaps$HeapObject") dd_PH_make_118 ho61 hk62 (fun _ => rfl) (by decide) (by decide) hj64 hm65 hl66 (fun q e => ⟨7, hv67 q e, cs_7⟩) ?_
                  refine mr_iconst 0 dd_PH_make_119 (by decide) ?_
                  exact mr_ireturn dd_PH_make_120 rfl h
                · have h := h.1 hc94
                  refine mr_bipush (-5) dd_PH_make_97 (by decide) ?_
                  exact mr_ireturn dd_PH_make_99 rfl h
          · have h := h.2 hc44
            refine mr_bipush (-4) dd_PH_make_47 (by decide) ?_
            exact mr_ireturn dd_PH_make_49 rfl h
        · have h := h.2 hc27
          refine mr_iconst (-1) dd_PH_make_30 (by decide) ?_
          exact mr_ireturn dd_PH_make_31 rfl h
set_option maxHeartbeats 4000000 in
set_option maxRecDepth 100000 in
theorem sg_PH_isRegister {l : Launch} {G : mm_G} {K : Option mm_V → mm_M → Prop} {M : mm_M} {xa : Int32}
    (h : (xa < 0 → K (some (.inl 0)) M) ∧ (¬ xa < 0 → (4 ≤ xa → K (some (.inl 0)) M) ∧ (¬ 4 ≤ xa → K (some (.inl 1)) M))) :
    mm_Ok l G yy_PH_isRegister Y_PH_isRegister [.inl xa] M K := by
  refine mm_go (by decide) rfl (fun q => by cases q) (Nat.le_of_ble_eq_true rfl) ?_
  show mm_Z l G Y_PH_isRegister K M 0 0 0 [some (.inl xa)] [] M
  refine mr_iload_n dd_PH_isRegister_0 rfl ?_
  refine mr_if_lt 13 dd_PH_isRegister_1 (by decide) (fun hc1 => ?_) (fun hc1 => ?_)
  · have h := h.1 hc1
    refine mr_iconst 0 dd_PH_isRegister_13 (by decide) ?_
    exact mr_zreturn dd_PH_isRegister_14 rfl (Or.inl rfl) h
  · have h := h.2 hc1
    refine mr_iload_n dd_PH_isRegister_4 rfl ?_
    refine mr_iconst 4 dd_PH_isRegister_5 (by decide) ?_
    refine mr_icmp_ge 13 dd_PH_isRegister_6 (by decide) (fun hc6 => ?_) (fun hc6 => ?_)
    · have h := h.1 hc6
      refine mr_iconst 0 dd_PH_isRegister_13 (by decide) ?_
      exact mr_zreturn dd_PH_isRegister_14 rfl (Or.inl rfl) h
    · have h := h.2 hc6
      refine mr_iconst 1 dd_PH_isRegister_9 (by decide) ?_
      refine mr_goto 14 dd_PH_isRegister_10 (by decide) ?_
      exact mr_zreturn dd_PH_isRegister_14 rfl (Or.inr rfl) h
set_option maxHeartbeats 4000000 in
set_option maxRecDepth 100000 in
theorem sg_PH_pageForMaking {l : Launch} {G : mm_G} {K : Option mm_V → mm_M → Prop} {M : mm_M} {a0 : Nat} {oa : Option Nat} {xb : Int32}
    (h : ∃ a3 : Nat, oa = some a3 ∧ mm_k M a3 = 6 ∧ mm_Ok l G yy_Pr_heapForMaking Y_Pr_heapForMaking [.inr (some a3)] M (fun r M1 => mm_X M M1 → ∃ x6 : Int32, r = some (.inl x6) ∧ mm_k M1 a0 = 1 ∧ ∃ a10 : Nat, (mm_p M1 a0 0) = some a10 ∧ mm_k M1 a10 = 2 ∧ mm_Ok l G yy_Me_findPage Y_Me_findPage [.inr (some a10), .inl x6, .inl xb] M1 (fun r M8 => mm_X M1 M8 → ∃ o13 : Option Nat, r = some (.inr o13) ∧ (o13 = none → (¬ x6 = 8 → mm_Ok l G yy_PH_canPay Y_PH_canPay [.inr (some a0), .inl (mm_i M8 a3 0), .inl 1] M8 (fun r M15 => mm_X M8 M15 → ∃ x17 : Int32, r = some (.inl x17) ∧ (x17 = 0 → K (some (.inr none)) M15) ∧ (¬ x17 = 0 → ∃ a20 : Nat, (mm_p M15 a0 0) = some a20 ∧ mm_k M15 a20 = 2 ∧ mm_Ok l G yy_Me_addPage Y_Me_addPage [.inr (some a20), .inl x6, .inl (mm_i M8 a3 0)] M15 (fun r M18 => mm_X M15 M18 → ∃ o23 : Option Nat, r = some (.inr o23) ∧ K (some (.inr o23)) M18)))) ∧ (x6 = 8 → mm_Ok l G yy_PH_canPay Y_PH_canPay [.inr (some a0), .inl 0, .inl 1] M8 (fun r M24 => mm_X M8 M24 → ∃ x26 : Int32, r = some (.inl x26) ∧ (x26 = 0 → K (some (.inr none)) M24) ∧ (¬ x26 = 0 → ∃ a29 : Nat, (mm_p M24 a0 0) = some a29 ∧ mm_k M24 a29 = 2 ∧ mm_Ok l G yy_Me_addPage Y_Me_addPage [.inr (some a29), .inl x6, .inl 0] M24 (fun r M27 => mm_X M24 M27 → ∃ o32 : Option Nat, r = some (.inr o32) ∧ K (some (.inr o32)) M27))))) ∧ (∀ a14 : Nat, o13 = some a14 → K (some (.inr o13)) M8)))) :
    mm_Ok l G yy_PH_pageForMaking Y_PH_pageForMaking [.inr (some a0), .inr oa, .inl xb] M K := by
  refine mm_go (by decide) rfl (fun q => by cases q) (Nat.le_of_ble_eq_true rfl) ?_
  show mm_Z l G Y_PH_pageForMaking K M 2 103 0 [some (.inr (some a0)), some (.inr oa), some (.inl xb), none, none, none] [] M
  refine mr_aload_n dd_PH_pageForMaking_0 rfl ?_
  obtain ⟨a3, ho4, h⟩ := h
  obtain ⟨hk5, h⟩ := h
  refine mr_callV0 (Yc := Y_Pr_heapForMaking) (M := M) (st := []) (vs := []) (ci := 5) fc_PH_185 iv_Pr_heapForMaking sv_Pr_heapForMaking dd_PH_pageForMaking_1 ⟨Nat.le_of_ble_eq_true rfl, Nat.le_of_ble_eq_true rfl⟩ (by decide) rfl rfl (Nat.le_of_ble_eq_true rfl) ho4 hk5 rfl rfl h (fun r M1 hX2 h => ?_)
  replace h := h hX2
  obtain ⟨x6, rfl, h⟩ := h
  show mm_Z l G Y_PH_pageForMaking K M 2 103 4 [some (.inr (some a0)), some (.inr oa), some (.inl xb), none, none, none] [.inl x6] M1
  refine mr_istore_n dd_PH_pageForMaking_4 (by decide) ?_
  show mm_Z l G Y_PH_pageForMaking K M 2 103 5 [some (.inr (some a0)), some (.inr oa), some (.inl xb), some (.inl x6), none, none] [] M1
  refine mr_aload_n dd_PH_pageForMaking_5 rfl ?_
  obtain ⟨hk7, h⟩ := h
  refine mr_getr ff_PH_10 dd_PH_pageForMaking_6 rs_0_0 rfl hk7 ?_
  refine mr_iload_n dd_PH_pageForMaking_9 rfl ?_
  refine mr_iload_n dd_PH_pageForMaking_10 rfl ?_
  obtain ⟨a10, ho11, h⟩ := h
  obtain ⟨hk12, h⟩ := h
  refine mr_callV0 (Yc := Y_Me_findPage) (M := M1) (st := []) (vs := [.inl x6, .inl xb]) (ci := 1) fc_PH_188 iv_Me_findPage sv_Me_findPage dd_PH_pageForMaking_11 ⟨Nat.le_of_ble_eq_true rfl, Nat.le_of_ble_eq_true rfl⟩ (by decide) rfl rfl (Nat.le_of_ble_eq_true rfl) ho11 hk12 rfl rfl h (fun r M8 hX9 h => ?_)
  replace h := h hX9
  obtain ⟨o13, rfl, h⟩ := h
  show mm_Z l G Y_PH_pageForMaking K M 2 103 14 [some (.inr (some a0)), some (.inr oa), some (.inl xb), some (.inl x6), none, none] [.inr o13] M8
  refine mr_astore dd_PH_pageForMaking_14 (by decide) ?_
  show mm_Z l G Y_PH_pageForMaking K M 2 103 16 [some (.inr (some a0)), some (.inr oa), some (.inl xb), some (.inl x6), some (.inr o13), none] [] M8
  refine mr_aload dd_PH_pageForMaking_16 rfl ?_
  refine mr_ifnull 24 dd_PH_pageForMaking_18 (by decide) (fun hc18 => ?_) (fun a14 hc18 => ?_)
  · have h := h.1 hc18
    refine mr_iload_n dd_PH_pageForMaking_24 rfl ?_
    refine mr_bipush 8 dd_PH_pageForMaking_25 (by decide) ?_
    refine mr_icmp_ne 34 dd_PH_pageForMaking_27 (by decide) (fun hc27 => ?_) (fun hc27 => ?_)
    · have h := h.1 hc27
      refine mr_aload_n dd_PH_pageForMaking_34 rfl ?_
      refine mr_geti ff_PH_192 dd_PH_pageForMaking_35 rs_5_0 ho4 (mm_Xk hX9 (mm_Xk hX2 hk5 (by decide)) (by decide)) ?_
      refine mr_istore dd_PH_pageForMaking_38 (by decide) ?_
      show mm_Z l G Y_PH_pageForMaking K M 2 103 40 [some (.inr (some a0)), some (.inr oa), some (.inl xb), some (.inl x6), some (.inr o13), some (.inl (mm_i M8 a3 0))] [] M8
      refine mr_aload_n dd_PH_pageForMaking_40 rfl ?_
      refine mr_iload dd_PH_pageForMaking_41 rfl ?_
      refine mr_iconst 1 dd_PH_pageForMaking_43 (by decide) ?_
      refine mr_callV0 (Yc := Y_PH_canPay) (M := M8) (st := []) (vs := [.inl (mm_i M8 a3 0), .inl 1]) (ci := 0) fc_PH_65 iv_PH_canPay sv_PH_canPay dd_PH_pageForMaking_44 ⟨Nat.le_of_ble_eq_true rfl, Nat.le_of_ble_eq_true rfl⟩ (by decide) rfl rfl (Nat.le_of_ble_eq_true rfl) rfl (mm_Xk hX9 hk7 (by decide)) rfl rfl h (fun r M15 hX16 h => ?_)
      replace h := h hX16
      obtain ⟨x17, rfl, h⟩ := h
      show mm_Z l G Y_PH_pageForMaking K M 2 103 47 [some (.inr (some a0)), some (.inr oa), some (.inl xb), some (.inl x6), some (.inr o13), some (.inl (mm_i M8 a3 0))] [.inl x17] M15
      refine mr_if_eq 63 dd_PH_pageForMaking_47 (by decide) (fun hc47 => ?_) (fun hc47 => ?_)
      · have h := h.1 hc47
        refine mr_null dd_PH_pageForMaking_63 ?_
        exact mr_areturn dd_PH_pageForMaking_64 rfl (Or.inl ⟨_, rfl⟩) h
      · have h := h.2 hc47
        refine mr_aload_n dd_PH_pageForMaking_50 rfl ?_
        refine mr_getr ff_PH_10 dd_PH_pageForMaking_51 rs_0_0 rfl (mm_Xk hX16 (mm_Xk hX9 hk7 (by decide)) (by decide)) ?_
        refine mr_iload_n dd_PH_pageForMaking_54 rfl ?_
        refine mr_iload dd_PH_pageForMaking_55 rfl ?_
        obtain ⟨a20, ho21, h⟩ := h
        obtain ⟨hk22, h⟩ := h
        refine mr_callV (Yc := Y_Me_addPage) (M := M15) (bc := 0) (bs := 0) (st := []) (vs := [.inl x6, .inl (mm_i M8 a3 0)]) (ci := 1) fc_PH_195 iv_Me_addPage sv_Me_addPage dd_PH_pageForMaking_57 ⟨Nat.le_of_ble_eq_true rfl, Nat.le_of_ble_eq_true rfl⟩ (by decide) rfl rfl (Nat.le_of_ble_eq_true rfl) ho21 hk22 h (fun r M18 hX19 h => ?_)
        replace h := h hX19
        obtain ⟨o23, rfl, h⟩ := h
        show mm_Z l G Y_PH_pageForMaking K M 0 0 60 [some (.inr (some a0)), some (.inr oa), some (.inl xb), some (.inl x6), some (.inr o13), some (.inl (mm_i M8 a3 0))] [.inr o23] M18
        refine mr_goto 64 dd_PH_pageForMaking_60 (by decide) ?_
        exact mr_areturn dd_PH_pageForMaking_64 rfl (Or.inl ⟨_, rfl⟩) h
    · have h := h.2 hc27
      refine mr_iconst 0 dd_PH_pageForMaking_30 (by decide) ?_
      refine mr_goto 38 dd_PH_pageForMaking_31 (by decide) ?_
      refine mr_istore dd_PH_pageForMaking_38 (by decide) ?_
      show mm_Z l G Y_PH_pageForMaking K M 2 103 40 [some (.inr (some a0)), some (.inr oa), some (.inl xb), some (.inl x6), some (.inr o13), some (.inl 0)] [] M8
      refine mr_aload_n dd_PH_pageForMaking_40 rfl ?_
      refine mr_iload dd_PH_pageForMaking_41 rfl ?_
      refine mr_iconst 1 dd_PH_pageForMaking_43 (by decide) ?_
      refine mr_callV0 (Yc := Y_PH_canPay) (M := M8) (st := []) (vs := [.inl 0, .inl 1]) (ci := 0) fc_PH_65 iv_PH_canPay sv_PH_canPay dd_PH_pageForMaking_44 ⟨Nat.le_of_ble_eq_true rfl, Nat.le_of_ble_eq_true rfl⟩ (by decide) rfl rfl (Nat.le_of_ble_eq_true rfl) rfl (mm_Xk hX9 hk7 (by decide)) rfl rfl h (fun r M24 hX25 h => ?_)
      replace h := h hX25
      obtain ⟨x26, rfl, h⟩ := h
      show mm_Z l G Y_PH_pageForMaking K M 2 103 47 [some (.inr (some a0)), some (.inr oa), some (.inl xb), some (.inl x6), some (.inr o13), some (.inl 0)] [.inl x26] M24
      refine mr_if_eq 63 dd_PH_pageForMaking_47 (by decide) (fun hc47 => ?_) (fun hc47 => ?_)
      · have h := h.1 hc47
        refine mr_null dd_PH_pageForMaking_63 ?_
        exact mr_areturn dd_PH_pageForMaking_64 rfl (Or.inl ⟨_, rfl⟩) h
      · have h := h.2 hc47
        refine mr_aload_n dd_PH_pageForMaking_50 rfl ?_
        refine mr_getr ff_PH_10 dd_PH_pageForMaking_51 rs_0_0 rfl (mm_Xk hX25 (mm_Xk hX9 hk7 (by decide)) (by decide)) ?_
        refine mr_iload_n dd_PH_pageForMaking_54 rfl ?_
        refine mr_iload dd_PH_pageForMaking_55 rfl ?_
        obtain ⟨a29, ho30, h⟩ := h
        obtain ⟨hk31, h⟩ := h
        refine mr_callV (Yc := Y_Me_addPage) (M := M24) (bc := 0) (bs := 0) (st := []) (vs := [.inl x6, .inl 0]) (ci := 1) fc_PH_195 iv_Me_addPage sv_Me_addPage dd_PH_pageForMaking_57 ⟨Nat.le_of_ble_eq_true rfl, Nat.le_of_ble_eq_true rfl⟩ (by decide) rfl rfl (Nat.le_of_ble_eq_true rfl) ho30 hk31 h (fun r M27 hX28 h => ?_)
        replace h := h hX28
        obtain ⟨o32, rfl, h⟩ := h
        show mm_Z l G Y_PH_pageForMaking K M 0 0 60 [some (.inr (some a0)), some (.inr oa), some (.inl xb), some (.inl x6), some (.inr o13), some (.inl 0)] [.inr o32] M27
        refine mr_goto 64 dd_PH_pageForMaking_60 (by decide) ?_
        exact mr_areturn dd_PH_pageForMaking_64 rfl (Or.inl ⟨_, rfl⟩) h
  · have h := h.2 a14 hc18
    refine mr_aload dd_PH_pageForMaking_21 rfl ?_
    exact mr_areturn dd_PH_pageForMaking_23 rfl (Or.inl ⟨_, rfl⟩) h
set_option maxHeartbeats 4000000 in
set_option maxRecDepth 100000 in
theorem sg_PH_collectHeap {l : Launch} {G : mm_G} {K : Option mm_V → mm_M → Prop} {M : mm_M} {a0 : Nat} {xa : Int32}
    (h : mm_k M a0 = 1 ∧ ∃ a4 : Nat, (mm_p M a0 1) = some a4 ∧ mm_k M a4 = 4 ∧ mm_Ok l G yy_Co_run Y_Co_run [.inr (some a4), .inl xa, .inr (mm_p M a0 0), .inr (mm_p M a0 3)] M (fun r M2 => mm_X M M2 → ∃ x7 : Int32, r = some (.inl x7) ∧ (¬ xa = 8 → ∃ a8 : Nat, (mm_p M2 a0 3) = some a8 ∧ mm_k M2 a8 = 104 ∧ ∃ j11 : Nat, xa = nI j11 ∧ j11 < 2147483648 ∧ j11 < mm_l M2 a8 ∧ mm_Ok l G yy_PH_dropUnusedCharges Y_PH_dropUnusedCharges [.inr (some a0), .inr (mm_p M2 a8 j11)] M2 (fun r M15 => mm_X M2 M15 → r = none ∧ mm_Ok l G yy_PH_dropGoneHeaps Y_PH_dropGoneHeaps [.inr (some a0)] M15 (fun r M17 => mm_X M15 M17 → r = none ∧ K (some (.inl x7)) M17))) ∧ (xa = 8 → mm_Ok l G yy_PH_dropChargesOfDead Y_PH_dropChargesOfDead [.inr (some a0)] M2 (fun r M19 => mm_X M2 M19 → r = none ∧ mm_Ok l G yy_PH_dropGoneHeaps Y_PH_dropGoneHeaps [.inr (some a0)] M19 (fun r M21 => mm_X M19 M21 → r = none ∧ K (some (.inl x7)) M21))))) :
    mm_Ok l G yy_PH_collectHeap Y_PH_collectHeap [.inr (some a0), .inl xa] M K := by
  refine mm_go (by decide) rfl (fun q => by cases q) (Nat.le_of_ble_eq_true rfl) ?_
  show mm_Z l G Y_PH_collectHeap K M 0 0 0 [some (.inr (some a0)), some (.inl xa), none] [] M
  refine mr_aload_n dd_PH_collectHeap_0 rfl ?_
  obtain ⟨hk1, h⟩ := h
  refine mr_getr ff_PH_19 dd_PH_collectHeap_1 rs_0_1 rfl hk1 ?_
  refine mr_iload_n dd_PH_collectHeap_4 rfl ?_
  refine mr_aload_n dd_PH_collectHeap_5 rfl ?_
  refine mr_getr ff_PH_10 dd_PH_collectHeap_6 rs_0_0 rfl hk1 ?_
  refine mr_aload_n dd_PH_collectHeap_9 rfl ?_
  refine mr_getr ff_PH_32 dd_PH_collectHeap_10 rs_0_3 rfl hk1 ?_
  obtain ⟨a4, ho5, h⟩ := h
  obtain ⟨hk6, h⟩ := h
  refine mr_callV0 (Yc := Y_Co_run) (M := M) (st := []) (vs := [.inl xa, .inr (mm_p M a0 0), .inr (mm_p M a0 3)]) (ci := 3) fc_PH_198 iv_Co_run sv_Co_run dd_PH_collectHeap_13 ⟨Nat.le_of_ble_eq_true rfl, Nat.le_of_ble_eq_true rfl⟩ (by decide) rfl rfl (Nat.le_of_ble_eq_true rfl) ho5 hk6 rfl rfl h (fun r M2 hX3 h => ?_)
  replace h := h hX3
  obtain ⟨x7, rfl, h⟩ := h
  show mm_Z l G Y_PH_collectHeap K M 0 0 16 [some (.inr (some a0)), some (.inl xa), none] [.inl x7] M2
  refine mr_istore_n dd_PH_collectHeap_16 (by decide) ?_
  show mm_Z l G Y_PH_collectHeap K M 0 0 17 [some (.inr (some a0)), some (.inl xa), some (.inl x7)] [] M2
  refine mr_iload_n dd_PH_collectHeap_17 rfl ?_
  refine mr_bipush 8 dd_PH_collectHeap_18 (by decide) ?_
  refine mr_icmp_ne 30 dd_PH_collectHeap_20 (by decide) (fun hc20 => ?_) (fun hc20 => ?_)
  · have h := h.1 hc20
    refine mr_aload_n dd_PH_collectHeap_30 rfl ?_
    refine mr_aload_n dd_PH_collectHeap_31 rfl ?_
    refine mr_getr ff_PH_32 dd_PH_collectHeap_32 rs_0_3 rfl (mm_Xk hX3 hk1 (by decide)) ?_
    refine mr_iload_n dd_PH_collectHeap_35 rfl ?_
    obtain ⟨a8, ho9, h⟩ := h
    obtain ⟨hk10, h⟩ := h
    obtain ⟨j11, hj12, hm13, hl14, h⟩ := h
    refine mr_aald (t := 4) dd_PH_collectHeap_36 ho9 hk10 (fun _ => rfl) (by decide) hj12 hm13 hl14 ?_
    refine mr_callV0 (Yc := Y_PH_dropUnusedCharges) (M := M2) (st := []) (vs := [.inr (mm_p M2 a8 j11)]) (ci := 0) fc_PH_205 iv_PH_dropUnusedCharges sv_PH_dropUnusedCharges dd_PH_collectHeap_37 ⟨Nat.le_of_ble_eq_true rfl, Nat.le_of_ble_eq_true rfl⟩ (by decide) rfl rfl (Nat.le_of_ble_eq_true rfl) rfl (mm_Xk hX3 hk1 (by decide)) rfl rfl h (fun r M15 hX16 h => ?_)
    replace h := h hX16
    obtain ⟨rfl, h⟩ := h
    show mm_Z l G Y_PH_collectHeap K M 0 0 40 [some (.inr (some a0)), some (.inl xa), some (.inl x7)] [] M15
    refine mr_aload_n dd_PH_collectHeap_40 rfl ?_
    refine mr_callV0 (Yc := Y_PH_dropGoneHeaps) (M := M15) (st := []) (vs := []) (ci := 0) fc_PH_208 iv_PH_dropGoneHeaps sv_PH_dropGoneHeaps dd_PH_collectHeap_41 ⟨Nat.le_of_ble_eq_true rfl, Nat.le_of_ble_eq_true rfl⟩ (by decide) rfl rfl (Nat.le_of_ble_eq_true rfl) rfl (mm_Xk hX16 (mm_Xk hX3 hk1 (by decide)) (by decide)) rfl rfl h (fun r M17 hX18 h => ?_)
    replace h := h hX18
    obtain ⟨rfl, h⟩ := h
    show mm_Z l G Y_PH_collectHeap K M 0 0 44 [some (.inr (some a0)), some (.inl xa), some (.inl x7)] [] M17
    refine mr_iload_n dd_PH_collectHeap_44 rfl ?_
    exact mr_ireturn dd_PH_collectHeap_45 rfl h
  · have h := h.2 hc20
    refine mr_aload_n dd_PH_collectHeap_23 rfl ?_
    refine mr_callV0 (Yc := Y_PH_dropChargesOfDead) (M := M2) (st := []) (vs := []) (ci := 0) fc_PH_202 iv_PH_dropChargesOfDead sv_PH_dropChargesOfDead dd_PH_collectHeap_24 ⟨Nat.le_of_ble_eq_true rfl, Nat.le_of_ble_eq_true rfl⟩ (by decide) rfl rfl (Nat.le_of_ble_eq_true rfl) rfl (mm_Xk hX3 hk1 (by decide)) rfl rfl h (fun r M19 hX20 h => ?_)
    replace h := h hX20
    obtain ⟨rfl, h⟩ := h
    show mm_Z l G Y_PH_collectHeap K M 0 0 27 [some (.inr (some a0)), some (.inl xa), some (.inl x7)] [] M19
    refine mr_goto 40 dd_PH_collectHeap_27 (by decide) ?_
    refine mr_aload_n dd_PH_collectHeap_40 rfl ?_
    refine mr_callV0 (Yc := Y_PH_dropGoneHeaps) (M := M19) (st := []) (vs := []) (ci := 0) fc_PH_208 iv_PH_dropGoneHeaps sv_PH_dropGoneHeaps dd_PH_collectHeap_41 ⟨Nat.le_of_ble_eq_true rfl, Nat.le_of_ble_eq_true rfl⟩ (by decide) rfl rfl (Nat.le_of_ble_eq_true rfl) rfl (mm_Xk hX20 (mm_Xk hX3 hk1 (by decide)) (by decide)) rfl rfl h (fun r M21 hX22 h => ?_)
    replace h := h hX22
    obtain ⟨rfl, h⟩ := h
    show mm_Z l G Y_PH_collectHeap K M 0 0 44 [some (.inr (some a0)), some (.inl xa), some (.inl x7)] [] M21
    refine mr_iload_n dd_PH_collectHeap_44 rfl ?_
    exact mr_ireturn dd_PH_collectHeap_45 rfl h
set_option maxHeartbeats 4000000 in
set_option maxRecDepth 100000 in
theorem sg_PH_dropChargesOfDead {l : Launch} {G : mm_G} {K : Option mm_V → mm_M → Prop} {M : mm_M} {a0 : Nat}
    (h : mm_Z l G Y_PH_dropChargesOfDead K M 0 0 3 [some (.inr (some a0)), some (.inl 9)] [] M) :
    mm_Ok l G yy_PH_dropChargesOfDead Y_PH_dropChargesOfDead [.inr (some a0)] M K := by
  refine mm_go (by decide) rfl (fun q => by cases q) (Nat.le_of_ble_eq_true rfl) ?_
  show mm_Z l G Y_PH_dropChargesOfDead K M 0 0 0 [some (.inr (some a0)), none] [] M
  refine mr_bipush 9 dd_PH_dropChargesOfDead_0 (by decide) ?_
  refine mr_istore_n dd_PH_dropChargesOfDead_2 (by decide) ?_
  show mm_Z l G Y_PH_dropChargesOfDead K M 0 0 3 [some (.inr (some a0)), some (.inl 9)] [] M
  exact h
set_option maxHeartbeats 4000000 in
set_option maxRecDepth 100000 in
theorem sg_PH_dropChargesOfDead_3 {l : Launch} {G : mm_G} {K : Option mm_V → mm_M → Prop} {M0 M : mm_M} {bc bs : Nat} {a0 : Nat} {y1 : Int32}
    (h : (13 ≤ y1 → K none M) ∧ (¬ 13 ≤ y1 → mm_k M a0 = 1 ∧ ∃ a4 : Nat, (mm_p M a0 0) = some a4 ∧ mm_k M a4 = 2 ∧ mm_Ok l G yy_Me_hasItemInto Y_Me_hasItemInto [.inr (some a4), .inl 8, .inl y1] M (fun r M2 => mm_X M M2 → ∃ x7 : Int32, r = some (.inl x7) ∧ (¬ x7 = 0 → mm_Z l G Y_PH_dropChargesOfDead K M0 bc bs 3 [some (.inr (some a0)), some (.inl (y1 + 1))] [] M2) ∧ (x7 = 0 → mm_Ok l G yy_PH_endPaymentOfDead Y_PH_endPaymentOfDead [.inr (some a0), .inl y1] M2 (fun r M8 => mm_X M2 M8 → r = none ∧ mm_Z l G Y_PH_dropChargesOfDead K M0 bc bs 3 [some (.inr (some a0)), some (.inl (y1 + 1))] [] M8))))) :
    mm_Z l G Y_PH_dropChargesOfDead K M0 bc bs 3 [some (.inr (some a0)), some (.inl y1)] [] M := by
  refine mr_iload_n dd_PH_dropChargesOfDead_3 rfl ?_
  refine mr_bipush 13 dd_PH_dropChargesOfDead_4 (by decide) ?_
  refine mr_icmp_ge 33 dd_PH_dropChargesOfDead_6 (by decide) (fun hc6 => ?_) (fun hc6 => ?_)
  · have h := h.1 hc6
    exact mr_return dd_PH_dropChargesOfDead_33 rfl h
  · have h := h.2 hc6
    refine mr_aload_n dd_PH_dropChargesOfDead_9 rfl ?_
    obtain ⟨hk1, h⟩ := h
    refine mr_getr ff_PH_10 dd_PH_dropChargesOfDead_10 rs_0_0 rfl hk1 ?_
    refine mr_bipush 8 dd_PH_dropChargesOfDead_13 (by decide) ?_
    refine mr_iload_n dd_PH_dropChargesOfDead_15 rfl ?_
    obtain ⟨a4, ho5, h⟩ := h
    obtain ⟨hk6, h⟩ := h
    refine mr_callV0 (Yc := Y_Me_hasItemInto) (M := M) (st := []) (vs := [.inl 8, .inl y1]) (ci := 1) fc_PH_220 iv_Me_hasItemInto sv_Me_hasItemInto dd_PH_dropChargesOfDead_16 ⟨Nat.le_of_ble_eq_true rfl, Nat.le_of_ble_eq_true rfl⟩ (by decide) rfl rfl (Nat.le_of_ble_eq_true rfl) ho5 hk6 rfl rfl h (fun r M2 hX3 h => ?_)
    replace h := h hX3
    obtain ⟨x7, rfl, h⟩ := h
    show mm_Z l G Y_PH_dropChargesOfDead K M0 bc bs 19 [some (.inr (some a0)), some (.inl y1)] [.inl x7] M2
    refine mr_if_ne 27 dd_PH_dropChargesOfDead_19 (by decide) (fun hc19 => ?_) (fun hc19 => ?_)
    · have h := h.1 hc19
      refine mr_iinc 1 dd_PH_dropChargesOfDead_27 rfl (by decide) (by decide) ?_
      show mm_Z l G Y_PH_dropChargesOfDead K M0 bc bs 30 [some (.inr (some a0)), some (.inl (y1 + 1))] [] M2
      refine mr_goto 3 dd_PH_dropChargesOfDead_30 (by decide) ?_
      exact h
    · have h := h.2 hc19
      refine mr_aload_n dd_PH_dropChargesOfDead_22 rfl ?_
      refine mr_iload_n dd_PH_dropChargesOfDead_23 rfl ?_
      refine mr_callV0 (Yc := Y_PH_endPaymentOfDead) (M := M2) (st := []) (vs := [.inl y1]) (ci := 0) fc_PH_226 iv_PH_endPaymentOfDead sv_PH_endPaymentOfDead dd_PH_dropChargesOfDead_24 ⟨Nat.le_of_ble_eq_true rfl, Nat.le_of_ble_eq_true rfl⟩ (by decide) rfl rfl (Nat.le_of_ble_eq_true rfl) rfl (mm_Xk hX3 hk1 (by decide)) rfl rfl h (fun r M8 hX9 h => ?_)
      replace h := h hX9
      obtain ⟨rfl, h⟩ := h
      show mm_Z l G Y_PH_dropChargesOfDead K M0 bc bs 27 [some (.inr (some a0)), some (.inl y1)] [] M8
      refine mr_iinc 1 dd_PH_dropChargesOfDead_27 rfl (by decide) (by decide) ?_
      show mm_Z l G Y_PH_dropChargesOfDead K M0 bc bs 30 [some (.inr (some a0)), some (.inl (y1 + 1))] [] M8
      refine mr_goto 3 dd_PH_dropChargesOfDead_30 (by decide) ?_
      exact h
set_option maxHeartbeats 4000000 in
set_option maxRecDepth 100000 in
theorem sg_PH_store {l : Launch} {G : mm_G} {K : Option mm_V → mm_M → Prop} {M : mm_M} {a0 : Nat} {xa : Int32} {xb : Int32} {xc : Int32} {xd : Int32}
    (h : mm_k M a0 = 1 ∧ mm_Ok l G yy_PH_livingProcess Y_PH_livingProcess [.inr (some a0), .inl xa] M (fun r M1 => mm_X M M1 → ∃ o4 : Option Nat, r = some (.inr o4) ∧ (o4 = none → K (some (.inl (-1))) M1) ∧ (∀ a5 : Nat, o4 = some a5 → mm_Ok l G yy_PH_isRegister Y_PH_isRegister [.inl xb] M1 (fun r M6 => mm_X M1 M6 → ∃ x8 : Int32, r = some (.inl x8) ∧ (x8 = 0 → K (some (.inl (-1))) M6) ∧ (¬ x8 = 0 → mm_Ok l G yy_PH_isRegister Y_PH_isRegister [.inl xd] M6 (fun r M9 => mm_X M6 M9 → ∃ x11 : Int32, r = some (.inl x11) ∧ (x11 = 0 → K (some (.inl (-1))) M9) ∧ (¬ x11 = 0 → mm_Ok l G yy_PH_isField Y_PH_isField [.inl xc] M9 (fun r M12 => mm_X M9 M12 → ∃ x14 : Int32, r = some (.inl x14) ∧ (¬ x14 = 0 → mm_k M12 a5 = 6 ∧ ∃ a16 : Nat, (mm_p M12 a5 4) = some a16 ∧ mm_k M12 a16 = 103 ∧ ∃ j19 : Nat, xb = nI j19 ∧ j19 < 2147483648 ∧ j19 < mm_l M12 a16 ∧ ((mm_p M12 a16 j19) = none → K (some (.inl (-2))) M12) ∧ (∀ a23 : Nat, (mm_p M12 a16 j19) = some a23 → ∃ j24 : Nat, xd = nI j24 ∧ j24 < 2147483648 ∧ j24 < mm_l M12 a16 ∧ mm_Ok l G yy_PH_mayChange Y_PH_mayChange [.inr (some a0), .inr o4, .inr (mm_p M12 a16 j19)] M12 (fun r M28 => mm_X M12 M28 → ∃ x30 : Int32, r = some (.inl x30) ∧ (x30 = 0 → K (some (.inl (-3))) M28) ∧ (¬ x30 = 0 → mm_Ok l G yy_PH_mayName Y_PH_mayName [.inr (some a0), .inr o4, .inr (mm_p M12 a16 j19), .inr (mm_p M12 a16 j24)] M28 (fun r M31 => mm_X M28 M31 → ∃ x33 : Int32, r = some (.inl x33) ∧ (¬ x33 = 0 → mm_k M31 a23 = 8 ∧ mm_Ok l G yy_Ob_setField Y_Ob_setField [.inr (some a23), .inl xc, .inr (mm_p M12 a16 j24)] M31 (fun r M34 => mm_X M31 M34 → r = none ∧ K (some (.inl 0)) M34)) ∧ (x33 = 0 → K (some (.inl (-3))) M31)))))) ∧ (x14 = 0 → K (some (.inl (-1))) M12))))))))) :
    mm_Ok l G yy_PH_store Y_PH_store [.inr (some a0), .inl xa, .inl xb, .inl xc, .inl xd] M K := by
  refine mm_go (by decide) rfl (fun q => by cases q) (Nat.le_of_ble_eq_true rfl) ?_
  show mm_Z l G Y_PH_store K M 0 0 0 [some (.inr (some a0)), some (.inl xa), some (.inl xb), some (.inl xc), some (.inl xd), none, none, none] [] M
  refine mr_aload_n dd_PH_store_0 rfl ?_
  refine mr_iload_n dd_PH_store_1 rfl ?_
  obtain ⟨hk3, h⟩ := h
  refine mr_callV0 (Yc := Y_PH_livingProcess) (M := M) (st := []) (vs := [.inl xa]) (ci := 0) fc_PH_61 iv_PH_livingProcess sv_PH_livingProcess dd_PH_store_2 ⟨Nat.le_of_ble_eq_true rfl, Nat.le_of_ble_eq_true rfl⟩ (by decide) rfl rfl (Nat.le_of_ble_eq_true rfl) rfl hk3 rfl rfl h (fun r M1 hX2 h => ?_)
  replace h := h hX2
  obtain ⟨o4, rfl, h⟩ := h
  show mm_Z l G Y_PH_store K M 0 0 5 [some (.inr (some a0)), some (.inl xa), some (.inl xb), some (.inl xc), some (.inl xd), none, none, none] [.inr o4] M1
  refine mr_astore dd_PH_store_5 (by decide) ?_
  show mm_Z l G Y_PH_store K M 0 0 7 [some (.inr (some a0)), some (.inl xa), some (.inl xb), some (.inl xc), some (.inl xd), some (.inr o4), none, none] [] M1
  refine mr_aload dd_PH_store_7 rfl ?_
  refine mr_ifnull 34 dd_PH_store_9 (by decide) (fun hc9 => ?_) (fun a5 hc9 => ?_)
  · have h := h.1 hc9
    refine mr_iconst (-1) dd_PH_store_34 (by decide) ?_
    exact mr_ireturn dd_PH_store_35 rfl h
  · have h := h.2 a5 hc9
    refine mr_iload_n dd_PH_store_12 rfl ?_
    refine mr_callS0 (Yc := Y_PH_isRegister) (M := M1) (st := []) (vs := [.inl xb]) fc_PH_80 si_PH_isRegister dd_PH_store_13 ⟨Nat.le_of_ble_eq_true rfl, Nat.le_of_ble_eq_true rfl⟩ rfl (Nat.le_of_ble_eq_true rfl) rfl rfl h (fun r M6 hX7 h => ?_)
    replace h := h hX7
    obtain ⟨x8, rfl, h⟩ := h
    show mm_Z l G Y_PH_store K M 0 0 16 [some (.inr (some a0)), some (.inl xa), some (.inl xb), some (.inl xc), some (.inl xd), some (.inr o4), none, none] [.inl x8] M6
    refine mr_if_eq 34 dd_PH_store_16 (by decide) (fun hc16 => ?_) (fun hc16 => ?_)
    · have h := h.1 hc16
      refine mr_iconst (-1) dd_PH_store_34 (by decide) ?_
      exact mr_ireturn dd_PH_store_35 rfl h
    · have h := h.2 hc16
      refine mr_iload dd_PH_store_19 rfl ?_
      refine mr_callS0 (Yc := Y_PH_isRegister) (M := M6) (st := []) (vs := [.inl xd]) fc_PH_80 si_PH_isRegister dd_PH_store_21 ⟨Nat.le_of_ble_eq_true rfl, Nat.le_of_ble_eq_true rfl⟩ rfl (Nat.le_of_ble_eq_true rfl) rfl rfl h (fun r M9 hX10 h => ?_)
      replace h := h hX10
      obtain ⟨x11, rfl, h⟩ := h
      show mm_Z l G Y_PH_store K M 0 0 24 [some (.inr (some a0)), some (.inl xa), some (.inl xb), some (.inl xc), some (.inl xd), some (.inr o4), none, none] [.inl x11] M9
      refine mr_if_eq 34 dd_PH_store_24 (by decide) (fun hc24 => ?_) (fun hc24 => ?_)
      · have h := h.1 hc24
        refine mr_iconst (-1) dd_PH_store_34 (by decide) ?_
        exact mr_ireturn dd_PH_store_35 rfl h
      · have h := h.2 hc24
        refine mr_iload_n dd_PH_store_27 rfl ?_
        refine mr_callS0 (Yc := Y_PH_isField) (M := M9) (st := []) (vs := [.inl xc]) fc_PH_109 si_PH_isField dd_PH_store_28 ⟨Nat.le_of_ble_eq_true rfl, Nat.le_of_ble_eq_true rfl⟩ rfl (Nat.le_of_ble_eq_true rfl) rfl rfl h (fun r M12 hX13 h => ?_)
        replace h := h hX13
        obtain ⟨x14, rfl, h⟩ := h
        show mm_Z l G Y_PH_store K M 0 0 31 [some (.inr (some a0)), some (.inl xa), some (.inl xb), some (.inl xc), some (.inl xd), some (.inr o4), none, none] [.inl x14] M12
        refine mr_if_ne 36 dd_PH_store_31 (by decide) (fun hc31 => ?_) (fun hc31 => ?_)
        · have h := h.1 hc31
          refine mr_aload dd_PH_store_36 rfl ?_
          obtain ⟨hk15, h⟩ := h
          refine mr_getr ff_PH_102 dd_PH_store_38 rs_5_4 hc9 hk15 ?_
          refine mr_iload_n dd_PH_store_41 rfl ?_
          obtain ⟨a16, ho17, h⟩ := h
          obtain ⟨hk18, h⟩ := h
          obtain ⟨j19, hj20, hm21, hl22, h⟩ := h
          refine mr_aald (t := 3) dd_PH_store_42 ho17 hk18 (fun _ => rfl) (by decide) hj20 hm21 hl22 ?_
          refine mr_astore dd_PH_store_43 (by decide) ?_
          show mm_Z l G Y_PH_store K M 0 0 45 [some (.inr (some a0)), some (.inl xa), some (.inl xb), some (.inl xc), some (.inl xd), some (.inr o4), some (.inr (mm_p M12 a16 j19)), none] [] M12
          refine mr_aload dd_PH_store_45 rfl ?_
          refine mr_ifnonnull 53 dd_PH_store_47 (by decide) (fun a23 hc47 => ?_) (fun hc47 => ?_)
          · have h := h.2 a23 hc47
            refine mr_aload dd_PH_store_53 rfl ?_
            refine mr_getr ff_PH_102 dd_PH_store_55 rs_5_4 hc9 hk15 ?_
            refine mr_iload dd_PH_store_58 rfl ?_
            obtain ⟨j24, hj25, hm26, hl27, h⟩ := h
            refine mr_aald (t := 3) dd_PH_store_60 ho17 hk18 (fun _ => rfl) (by decide) hj25 hm26 hl27 ?_
            refine mr_astore dd_PH_store_61 (by decide) ?_
            show mm_Z l G Y_PH_store K M 0 0 63 [some (.inr (some a0)), some (.inl xa), some (.inl xb), some (.inl xc), some (.inl xd), some (.inr o4), some (.inr (mm_p M12 a16 j19)), some (.inr (mm_p M12 a16 j24))] [] M12
            refine mr_aload_n dd_PH_store_63 rfl ?_
            refine mr_aload dd_PH_store_64 rfl ?_
            refine mr_aload dd_PH_store_66 rfl ?_
            refine mr_callV0 (Yc := Y_PH_mayChange) (M := M12) (st := []) (vs := [.inr o4, .inr (mm_p M12 a16 j19)]) (ci := 0) fc_PH_112 iv_PH_mayChange sv_PH_mayChange dd_PH_store_68 ⟨Nat.le_of_ble_eq_true rfl, Nat.le_of_ble_eq_true rfl⟩ (by decide) rfl rfl (Nat.le_of_ble_eq_true rfl) rfl (mm_Xk hX13 (mm_Xk hX10 (mm_Xk hX7 (mm_Xk hX2 hk3 (by decide)) (by decide)) (by decide)) (by decide)) rfl rfl h (fun r M28 hX29 h => ?_)
            replace h := h hX29
            obtain ⟨x30, rfl, h⟩ := h
            show mm_Z l G Y_PH_store K M 0 0 71 [some (.inr (some a0)), some (.inl xa), some (.inl xb), some (.inl xc), some (.inl xd), some (.inr o4), some (.inr (mm_p M12 a16 j19)), some (.inr (mm_p M12 a16 j24))] [.inl x30] M28
            refine mr_if_eq 87 dd_PH_store_71 (by decide) (fun hc71 => ?_) (fun hc71 => ?_)
            · have h := h.1 hc71
              refine mr_bipush (-3) dd_PH_store_87 (by decide) ?_
              exact mr_ireturn dd_PH_store_89 rfl h
            · have h := h.2 hc71
              refine mr_aload_n dd_PH_store_74 rfl ?_
              refine mr_aload dd_PH_store_75 rfl ?_
              refine mr_aload dd_PH_store_77 rfl ?_
              refine mr_aload dd_PH_store_79 rfl ?_
              refine mr_callV0 (Yc := Y_PH_mayName) (M := M28) (st := []) (vs := [.inr o4, .inr (mm_p M12 a16 j19), .inr (mm_p M12 a16 j24)]) (ci := 0) fc_PH_116 iv_PH_mayName sv_PH_mayName dd_PH_store_81 ⟨Nat.le_of_ble_eq_true rfl, Nat.le_of_ble_eq_true rfl⟩ (by decide) rfl rfl (Nat.le_of_ble_eq_true rfl) rfl (mm_Xk hX29 (mm_Xk hX13 (mm_Xk hX10 (mm_Xk hX7 (mm_Xk hX2 hk3 (by decide)) (by decide)) (by decide)) (by decide)) (by decide)) rfl rfl h (fun r M31 hX32 h => ?_)
              replace h := h hX32
              obtain ⟨x33, rfl, h⟩ := h
              show mm_Z l G Y_PH_store K M 0 0 84 [some (.inr (some a0)), some (.inl xa), some (.inl xb), some (.inl xc), some (.inl xd), some (.inr o4), some (.inr (mm_p M12 a16 j19)), some (.inr (mm_p M12 a16 j24))] [.inl x33] M31
              refine mr_if_ne 90 dd_PH_store_84 (by decide) (fun hc84 => ?_) (fun hc84 => ?_)
              · have h := h.1 hc84
                refine mr_aload dd_PH_store_90 rfl ?_
                refine mr_iload_n dd_PH_store_92 rfl ?_
                refine mr_aload dd_PH_store_93 rfl ?_
                obtain ⟨hk36, h⟩ := h
                refine mr_callV0 (Yc := Y_Ob_setField) (M := M31) (st := []) (vs := [.inl xc, .inr (mm_p M12 a16 j24)]) (ci := 7) fc_PH_120 iv_Ob_setField sv_Ob_setField dd_PH_store_95 ⟨Nat.le_of_ble_eq_true rfl, Nat.le_of_ble_eq_true rfl⟩ (by decide) rfl rfl (Nat.le_of_ble_eq_true rfl) hc47 hk36 rfl rfl h (fun r M34 hX35 h => ?_)
                replace h := h hX35
                obtain ⟨rfl, h⟩ := h
                show mm_Z l G Y_PH_store K M 0 0 98 [some (.inr (some a0)), some (.inl xa), some (.inl xb), some (.inl xc), some (.inl xd), some (.inr o4), some (.inr (mm_p M12 a16 j19)), some (.inr (mm_p M12 a16 j24))] [] M34
                refine mr_iconst 0 dd_PH_store_98 (by decide) ?_
                exact mr_ireturn dd_PH_store_99 rfl h
              · have h := h.2 hc84
                refine mr_bipush (-3) dd_PH_store_87 (by decide) ?_
                exact mr_ireturn dd_PH_store_89 rfl h
          · have h := h.1 hc47
            refine mr_bipush (-2) dd_PH_store_50 (by decide) ?_
            exact mr_ireturn dd_PH_store_52 rfl h
        · have h := h.2 hc31
          refine mr_iconst (-1) dd_PH_store_34 (by decide) ?_
          exact mr_ireturn dd_PH_store_35 rfl h
set_option maxHeartbeats 4000000 in
set_option maxRecDepth 100000 in
theorem sg_PH_isField {l : Launch} {G : mm_G} {K : Option mm_V → mm_M → Prop} {M : mm_M} {xa : Int32}
    (h : (xa < 0 → K (some (.inl 0)) M) ∧ (¬ xa < 0 → (3 ≤ xa → K (some (.inl 0)) M) ∧ (¬ 3 ≤ xa → K (some (.inl 1)) M))) :
    mm_Ok l G yy_PH_isField Y_PH_isField [.inl xa] M K := by
  refine mm_go (by decide) rfl (fun q => by cases q) (Nat.le_of_ble_eq_true rfl) ?_
  show mm_Z l G Y_PH_isField K M 0 0 0 [some (.inl xa)] [] M
  refine mr_iload_n dd_PH_isField_0 rfl ?_
  refine mr_if_lt 13 dd_PH_isField_1 (by decide) (fun hc1 => ?_) (fun hc1 => ?_)
  · have h := h.1 hc1
    refine mr_iconst 0 dd_PH_isField_13 (by decide) ?_
    exact mr_zreturn dd_PH_isField_14 rfl (Or.inl rfl) h
  · have h := h.2 hc1
    refine mr_iload_n dd_PH_isField_4 rfl ?_
    refine mr_iconst 3 dd_PH_isField_5 (by decide) ?_
    refine mr_icmp_ge 13 dd_PH_isField_6 (by decide) (fun hc6 => ?_) (fun hc6 => ?_)
    · have h := h.1 hc6
      refine mr_iconst 0 dd_PH_isField_13 (by decide) ?_
      exact mr_zreturn dd_PH_isField_14 rfl (Or.inl rfl) h
    · have h := h.2 hc6
      refine mr_iconst 1 dd_PH_isField_9 (by decide) ?_
      refine mr_goto 14 dd_PH_isField_10 (by decide) ?_
      exact mr_zreturn dd_PH_isField_14 rfl (Or.inr rfl) h
set_option maxHeartbeats 4000000 in
set_option maxRecDepth 100000 in
theorem sg_PH_mayChange {l : Launch} {G : mm_G} {K : Option mm_V → mm_M → Prop} {M : mm_M} {a0 : Nat} {oa : Option Nat} {ob : Option Nat}
    (h : ∃ a3 : Nat, ob = some a3 ∧ mm_k M a3 = 8 ∧ mm_Ok l G yy_Ob_heapNumber Y_Ob_heapNumber [.inr (some a3)] M (fun r M1 => mm_X M M1 → ∃ x6 : Int32, r = some (.inl x6) ∧ (¬ x6 = 8 → mm_k M1 a0 = 1 ∧ mm_Ok l G yy_PH_isFrozen Y_PH_isFrozen [.inr (some a0), .inl x6] M1 (fun r M7 => mm_X M1 M7 → ∃ x10 : Int32, r = some (.inl x10) ∧ (¬ x10 = 0 → K (some (.inl 0)) M7) ∧ (x10 = 0 → K (some (.inl 1)) M7))) ∧ (x6 = 8 → ∃ a13 : Nat, oa = some a13 ∧ mm_k M1 a13 = 6 ∧ mm_Ok l G yy_Pr_isInKernelMode Y_Pr_isInKernelMode [.inr (some a13)] M1 (fun r M11 => mm_X M1 M11 → ∃ x16 : Int32, r = some (.inl x16) ∧ (x16 = 0 ∨ x16 = 1) ∧ K (some (.inl x16)) M11)))) :
    mm_Ok l G yy_PH_mayChange Y_PH_mayChange [.inr (some a0), .inr oa, .inr ob] M K := by
  refine mm_go (by decide) rfl (fun q => by cases q) (Nat.le_of_ble_eq_true rfl) ?_
  show mm_Z l G Y_PH_mayChange K M 0 0 0 [some (.inr (some a0)), some (.inr oa), some (.inr ob), none] [] M
  refine mr_aload_n dd_PH_mayChange_0 rfl ?_
  obtain ⟨a3, ho4, h⟩ := h
  obtain ⟨hk5, h⟩ := h
  refine mr_callV0 (Yc := Y_Ob_heapNumber) (M := M) (st := []) (vs := []) (ci := 7) fc_PH_133 iv_Ob_heapNumber sv_Ob_heapNumber dd_PH_mayChange_1 ⟨Nat.le_of_ble_eq_true rfl, Nat.le_of_ble_eq_true rfl⟩ (by decide) rfl rfl (Nat.le_of_ble_eq_true rfl) ho4 hk5 rfl rfl h (fun r M1 hX2 h => ?_)
  replace h := h hX2
  obtain ⟨x6, rfl, h⟩ := h
  show mm_Z l G Y_PH_mayChange K M 0 0 4 [some (.inr (some a0)), some (.inr oa), some (.inr ob), none] [.inl x6] M1
  refine mr_istore_n dd_PH_mayChange_4 (by decide) ?_
  show mm_Z l G Y_PH_mayChange K M 0 0 5 [some (.inr (some a0)), some (.inr oa), some (.inr ob), some (.inl x6)] [] M1
  refine mr_iload_n dd_PH_mayChange_5 rfl ?_
  refine mr_bipush 8 dd_PH_mayChange_6 (by decide) ?_
  refine mr_icmp_ne 18 dd_PH_mayChange_8 (by decide) (fun hc8 => ?_) (fun hc8 => ?_)
  · have h := h.1 hc8
    refine mr_aload_n dd_PH_mayChange_18 rfl ?_
    refine mr_iload_n dd_PH_mayChange_19 rfl ?_
    obtain ⟨hk9, h⟩ := h
    refine mr_callV0 (Yc := Y_PH_isFrozen) (M := M1) (st := []) (vs := [.inl x6]) (ci := 0) fc_PH_143 iv_PH_isFrozen sv_PH_isFrozen dd_PH_mayChange_20 ⟨Nat.le_of_ble_eq_true rfl, Nat.le_of_ble_eq_true rfl⟩ (by decide) rfl rfl (Nat.le_of_ble_eq_true rfl) rfl hk9 rfl rfl h (fun r M7 hX8 h => ?_)
    replace h := h hX8
    obtain ⟨x10, rfl, h⟩ := h
    show mm_Z l G Y_PH_mayChange K M 0 0 23 [some (.inr (some a0)), some (.inr oa), some (.inr ob), some (.inl x6)] [.inl x10] M7
    refine mr_if_ne 30 dd_PH_mayChange_23 (by decide) (fun hc23 => ?_) (fun hc23 => ?_)
    · have h := h.1 hc23
      refine mr_iconst 0 dd_PH_mayChange_30 (by decide) ?_
      exact mr_zreturn dd_PH_mayChange_31 rfl (Or.inl rfl) h
    · have h := h.2 hc23
      refine mr_iconst 1 dd_PH_mayChange_26 (by decide) ?_
      refine mr_goto 31 dd_PH_mayChange_27 (by decide) ?_
      exact mr_zreturn dd_PH_mayChange_31 rfl (Or.inr rfl) h
  · have h := h.2 hc8
    refine mr_aload_n dd_PH_mayChange_11 rfl ?_
    obtain ⟨a13, ho14, h⟩ := h
    obtain ⟨hk15, h⟩ := h
    refine mr_callV0 (Yc := Y_Pr_isInKernelMode) (M := M1) (st := []) (vs := []) (ci := 5) fc_PH_72 iv_Pr_isInKernelMode sv_Pr_isInKernelMode dd_PH_mayChange_12 ⟨Nat.le_of_ble_eq_true rfl, Nat.le_of_ble_eq_true rfl⟩ (by decide) rfl rfl (Nat.le_of_ble_eq_true rfl) ho14 hk15 rfl rfl h (fun r M11 hX12 h => ?_)
    replace h := h hX12
    obtain ⟨x16, rfl, h⟩ := h
    show mm_Z l G Y_PH_mayChange K M 0 0 15 [some (.inr (some a0)), some (.inr oa), some (.inr ob), some (.inl x6)] [.inl x16] M11
    refine mr_goto 31 dd_PH_mayChange_15 (by decide) ?_
    exact mr_zreturn dd_PH_mayChange_31 rfl h.1 h.2
set_option maxHeartbeats 4000000 in
set_option maxRecDepth 100000 in
theorem sg_PH_mayName {l : Launch} {G : mm_G} {K : Option mm_V → mm_M → Prop} {M : mm_M} {a0 : Nat} {oa : Option Nat} {ob : Option Nat} {oc : Option Nat}
    (h : (oc = none → K (some (.inl 1)) M) ∧ (∀ a1 : Nat, oc = some a1 → ∃ a4 : Nat, ob = some a4 ∧ mm_k M a4 = 8 ∧ mm_Ok l G yy_Ob_heapNumber Y_Ob_heapNumber [.inr (some a4)] M (fun r M2 => mm_X M M2 → ∃ x7 : Int32, r = some (.inl x7) ∧ mm_k M2 a1 = 8 ∧ mm_Ok l G yy_Ob_heapNumber Y_Ob_heapNumber [.inr (some a1)] M2 (fun r M8 => mm_X M2 M8 → ∃ x11 : Int32, r = some (.inl x11) ∧ (¬ x7 = x11 → (¬ x7 = 8 → ∃ a12 : Nat, oa = some a12 ∧ mm_k M8 a12 = 6 ∧ (¬ x7 = (mm_i M8 a12 0) → K (some (.inl 0)) M8) ∧ (x7 = (mm_i M8 a12 0) → (x11 = 8 → K (some (.inl 1)) M8) ∧ (¬ x11 = 8 → mm_k M8 a0 = 1 ∧ mm_Ok l G yy_PH_isFrozen Y_PH_isFrozen [.inr (some a0), .inl x11] M8 (fun r M15 => mm_X M8 M15 → ∃ x18 : Int32, r = some (.inl x18) ∧ (x18 = 0 → K (some (.inl 0)) M15) ∧ (¬ x18 = 0 → K (some (.inl 1)) M15))))) ∧ (x7 = 8 → ∃ a19 : Nat, oa = some a19 ∧ mm_k M8 a19 = 6 ∧ (¬ x11 = (mm_i M8 a19 0) → K (some (.inl 0)) M8) ∧ (x11 = (mm_i M8 a19 0) → K (some (.inl 1)) M8))) ∧ (x7 = x11 → K (some (.inl 1)) M8))))) :
    mm_Ok l G yy_PH_mayName Y_PH_mayName [.inr (some a0), .inr oa, .inr ob, .inr oc] M K := by
  refine mm_go (by decide) rfl (fun q => by cases q) (Nat.le_of_ble_eq_true rfl) ?_
  show mm_Z l G Y_PH_mayName K M 0 0 0 [some (.inr (some a0)), some (.inr oa), some (.inr ob), some (.inr oc), none, none] [] M
  refine mr_aload_n dd_PH_mayName_0 rfl ?_
  refine mr_ifnonnull 6 dd_PH_mayName_1 (by decide) (fun a1 hc1 => ?_) (fun hc1 => ?_)
  · have h := h.2 a1 hc1
    refine mr_aload_n dd_PH_mayName_6 rfl ?_
    obtain ⟨a4, ho5, h⟩ := h
    obtain ⟨hk6, h⟩ := h
    refine mr_callV0 (Yc := Y_Ob_heapNumber) (M := M) (st := []) (vs := []) (ci := 7) fc_PH_133 iv_Ob_heapNumber sv_Ob_heapNumber dd_PH_mayName_7 ⟨Nat.le_of_ble_eq_true rfl, Nat.le_of_ble_eq_true rfl⟩ (by decide) rfl rfl (Nat.le_of_ble_eq_true rfl) ho5 hk6 rfl rfl h (fun r M2 hX3 h => ?_)
    replace h := h hX3
    obtain ⟨x7, rfl, h⟩ := h
    show mm_Z l G Y_PH_mayName K M 0 0 10 [some (.inr (some a0)), some (.inr oa), some (.inr ob), some (.inr oc), none, none] [.inl x7] M2
    refine mr_istore dd_PH_mayName_10 (by decide) ?_
    show mm_Z l G Y_PH_mayName K M 0 0 12 [some (.inr (some a0)), some (.inr oa), some (.inr ob), some (.inr oc), some (.inl x7), none] [] M2
    refine mr_aload_n dd_PH_mayName_12 rfl ?_
    obtain ⟨hk10, h⟩ := h
    refine mr_callV0 (Yc := Y_Ob_heapNumber) (M := M2) (st := []) (vs := []) (ci := 7) fc_PH_133 iv_Ob_heapNumber sv_Ob_heapNumber dd_PH_mayName_13 ⟨Nat.le_of_ble_eq_true rfl, Nat.le_of_ble_eq_true rfl⟩ (by decide) rfl rfl (Nat.le_of_ble_eq_true rfl) hc1 hk10 rfl rfl h (fun r M8 hX9 h => ?_)
    replace h := h hX9
    obtain ⟨x11, rfl, h⟩ := h
    show mm_Z l G Y_PH_mayName K M 0 0 16 [some (.inr (some a0)), some (.inr oa), some (.inr ob), some (.inr oc), some (.inl x7), none] [.inl x11] M8
    refine mr_istore dd_PH_mayName_16 (by decide) ?_
    show mm_Z l G Y_PH_mayName K M 0 0 18 [some (.inr (some a0)), some (.inr oa), some (.inr ob), some (.inr oc), some (.inl x7), some (.inl x11)] [] M8
    refine mr_iload dd_PH_mayName_18 rfl ?_
    refine mr_iload dd_PH_mayName_20 rfl ?_
    refine mr_icmp_ne 27 dd_PH_mayName_22 (by decide) (fun hc22 => ?_) (fun hc22 => ?_)
    · have h := h.1 hc22
      refine mr_iload dd_PH_mayName_27 rfl ?_
      refine mr_bipush 8 dd_PH_mayName_29 (by decide) ?_
      refine mr_icmp_ne 49 dd_PH_mayName_31 (by decide) (fun hc31 => ?_) (fun hc31 => ?_)
      · have h := h.1 hc31
        refine mr_iload dd_PH_mayName_49 rfl ?_
        refine mr_aload_n dd_PH_mayName_51 rfl ?_
        obtain ⟨a12, ho13, h⟩ := h
        obtain ⟨hk14, h⟩ := h
        refine mr_geti ff_PH_192 dd_PH_mayName_52 rs_5_0 ho13 hk14 ?_
        refine mr_icmp_ne 78 dd_PH_mayName_55 (by decide) (fun hc55 => ?_) (fun hc55 => ?_)
        · have h := h.1 hc55
          refine mr_iconst 0 dd_PH_mayName_78 (by decide) ?_
          exact mr_zreturn dd_PH_mayName_79 rfl (Or.inl rfl) h
        · have h := h.2 hc55
          refine mr_iload dd_PH_mayName_58 rfl ?_
          refine mr_bipush 8 dd_PH_mayName_60 (by decide) ?_
          refine mr_icmp_eq 74 dd_PH_mayName_62 (by decide) (fun hc62 => ?_) (fun hc62 => ?_)
          · have h := h.1 hc62
            refine mr_iconst 1 dd_PH_mayName_74 (by decide) ?_
            refine mr_goto 79 dd_PH_mayName_75 (by decide) ?_
            exact mr_zreturn dd_PH_mayName_79 rfl (Or.inr rfl) h
          · have h := h.2 hc62
            refine mr_aload_n dd_PH_mayName_65 rfl ?_
            refine mr_iload dd_PH_mayName_66 rfl ?_
            obtain ⟨hk17, h⟩ := h
            refine mr_callV0 (Yc := Y_PH_isFrozen) (M := M8) (st := []) (vs := [.inl x11]) (ci := 0) fc_PH_143 iv_PH_isFrozen sv_PH_isFrozen dd_PH_mayName_68 ⟨Nat.le_of_ble_eq_true rfl, Nat.le_of_ble_eq_true rfl⟩ (by decide) rfl rfl (Nat.le_of_ble_eq_true rfl) rfl hk17 rfl rfl h (fun r M15 hX16 h => ?_)
            replace h := h hX16
            obtain ⟨x18, rfl, h⟩ := h
            show mm_Z l G Y_PH_mayName K M 0 0 71 [some (.inr (some a0)), some (.inr oa), some (.inr ob), some (.inr oc), some (.inl x7), some (.inl x11)] [.inl x18] M15
            refine mr_if_eq 78 dd_PH_mayName_71 (by decide) (fun hc71 => ?_) (fun hc71 => ?_)
            · have h := h.1 hc71
              refine mr_iconst 0 dd_PH_mayName_78 (by decide) ?_
              exact mr_zreturn dd_PH_mayName_79 rfl (Or.inl rfl) h
            · have h := h.2 hc71
              refine mr_iconst 1 dd_PH_mayName_74 (by decide) ?_
              refine mr_goto 79 dd_PH_mayName_75 (by decide) ?_
              exact mr_zreturn dd_PH_mayName_79 rfl (Or.inr rfl) h
      · have h := h.2 hc31
        refine mr_iload dd_PH_mayName_34 rfl ?_
        refine mr_aload_n dd_PH_mayName_36 rfl ?_
        obtain ⟨a19, ho20, h⟩ := h
        obtain ⟨hk21, h⟩ := h
        refine mr_geti ff_PH_192 dd_PH_mayName_37 rs_5_0 ho20 hk21 ?_
        refine mr_icmp_ne 47 dd_PH_mayName_40 (by decide) (fun hc40 => ?_) (fun hc40 => ?_)
        · have h := h.1 hc40
          refine mr_iconst 0 dd_PH_mayName_47 (by decide) ?_
          exact mr_zreturn dd_PH_mayName_48 rfl (Or.inl rfl) h
        · have h := h.2 hc40
          refine mr_iconst 1 dd_PH_mayName_43 (by decide) ?_
          refine mr_goto 48 dd_PH_mayName_44 (by decide) ?_
          exact mr_zreturn dd_PH_mayName_48 rfl (Or.inr rfl) h
    · have h := h.2 hc22
      refine mr_iconst 1 dd_PH_mayName_25 (by decide) ?_
      exact mr_zreturn dd_PH_mayName_26 rfl (Or.inr rfl) h
  · have h := h.1 hc1
    refine mr_iconst 1 dd_PH_mayName_4 (by decide) ?_
    exact mr_zreturn dd_PH_mayName_5 rfl (Or.inr rfl) h
set_option maxHeartbeats 4000000 in
set_option maxRecDepth 100000 in
theorem sg_PH_load {l : Launch} {G : mm_G} {K : Option mm_V → mm_M → Prop} {M : mm_M} {a0 : Nat} {xa : Int32} {xb : Int32} {xc : Int32} {xd : Int32}
    (h : mm_k M a0 = 1 ∧ mm_Ok l G yy_PH_livingProcess Y_PH_livingProcess [.inr (some a0), .inl xa] M (fun r M1 => mm_X M M1 → ∃ o4 : Option Nat, r = some (.inr o4) ∧ (o4 = none → K (some (.inl (-1))) M1) ∧ (∀ a5 : Nat, o4 = some a5 → mm_Ok l G yy_PH_isRegister Y_PH_isRegister [.inl xb] M1 (fun r M6 => mm_X M1 M6 → ∃ x8 : Int32, r = some (.inl x8) ∧ (x8 = 0 → K (some (.inl (-1))) M6) ∧ (¬ x8 = 0 → mm_Ok l G yy_PH_isRegister Y_PH_isRegister [.inl xc] M6 (fun r M9 => mm_X M6 M9 → ∃ x11 : Int32, r = some (.inl x11) ∧ (x11 = 0 → K (some (.inl (-1))) M9) ∧ (¬ x11 = 0 → mm_Ok l G yy_PH_isField Y_PH_isField [.inl xd] M9 (fun r M12 => mm_X M9 M12 → ∃ x14 : Int32, r = some (.inl x14) ∧ (¬ x14 = 0 → mm_k M12 a5 = 6 ∧ ∃ a16 : Nat, (mm_p M12 a5 4) = some a16 ∧ mm_k M12 a16 = 103 ∧ ∃ j19 : Nat, xc = nI j19 ∧ j19 < 2147483648 ∧ j19 < mm_l M12 a16 ∧ ((mm_p M12 a16 j19) = none → K (some (.inl (-2))) M12) ∧ (∀ a23 : Nat, (mm_p M12 a16 j19) = some a23 → mm_k M12 a23 = 8 ∧ ∃ a25 : Nat, (mm_p M12 a23 3) = some a25 ∧ mm_k M12 a25 = 103 ∧ ∃ j28 : Nat, xd = nI j28 ∧ j28 < 2147483648 ∧ j28 < mm_l M12 a25 ∧ mm_Ok l G yy_PH_mayHold Y_PH_mayHold [.inr (some a0), .inr o4, .inr (mm_p M12 a25 j28)] M12 (fun r M32 => mm_X M12 M32 → ∃ x34 : Int32, r = some (.inl x34) ∧ (¬ x34 = 0 → ∃ a35 : Nat, (mm_p M32 a5 4) = some a35 ∧ mm_k M32 a35 = 103 ∧ ∃ j38 : Nat, xb = nI j38 ∧ j38 < 2147483648 ∧ j38 < mm_l M32 a35 ∧ (∀ q, (mm_p M12 a25 j28) = some q → mm_k M32 q = 8) ∧ K (some (.inl 0)) (mm_sp M32 a35 j38 (mm_p M12 a25 j28))) ∧ (x34 = 0 → K (some (.inl (-3))) M32)))) ∧ (x14 = 0 → K (some (.inl (-1))) M12))))))))) :
    mm_Ok l G yy_PH_load Y_PH_load [.inr (some a0), .inl xa, .inl xb, .inl xc, .inl xd] M K := by
  refine mm_go (by decide) rfl (fun q => by cases q) (Nat.le_of_ble_eq_true rfl) ?_
  show mm_Z l G Y_PH_load K M 0 0 0 [some (.inr (some a0)), some (.inl xa), some (.inl xb), some (.inl xc), some (.inl xd), none, none, none] [] M
  refine mr_aload_n dd_PH_load_0 rfl ?_
  refine mr_iload_n dd_PH_load_1 rfl ?_
  obtain ⟨hk3, h⟩ := h
  refine mr_callV0 (Yc := Y_PH_livingProcess) (M := M) (st := []) (vs := [.inl xa]) (ci := 0) fc_PH_61 iv_PH_livingProcess sv_PH_livingProcess dd_PH_load_2 ⟨Nat.le_of_ble_eq_true rfl, Nat.le_of_ble_eq_true rfl⟩ (by decide) rfl rfl (Nat.le_of_ble_eq_true rfl) rfl hk3 rfl rfl h (fun r M1 hX2 h => ?_)
  replace h := h hX2
  obtain ⟨o4, rfl, h⟩ := h
  show mm_Z l G Y_PH_load K M 0 0 5 [some (.inr (some a0)), some (.inl xa), some (.inl xb), some (.inl xc), some (.inl xd), none, none, none] [.inr o4] M1
  refine mr_astore dd_PH_load_5 (by decide) ?_
  show mm_Z l G Y_PH_load K M 0 0 7 [some (.inr (some a0)), some (.inl xa), some (.inl xb), some (.inl xc), some (.inl xd), some (.inr o4), none, none] [] M1
  refine mr_aload dd_PH_load_7 rfl ?_
  refine mr_ifnull 34 dd_PH_load_9 (by decide) (fun hc9 => ?_) (fun a5 hc9 => ?_)
  · have h := h.1 hc9
    refine mr_iconst (-1) dd_PH_load_34 (by decide) ?_
    exact mr_ireturn dd_PH_load_35 rfl h
  · have h := h.2 a5 hc9
    refine mr_iload_n dd_PH_load_12 rfl ?_
    refine mr_callS0 (Yc := Y_PH_isRegister) (M := M1) (st := []) (vs := [.inl xb]) fc_PH_80 si_PH_isRegister dd_PH_load_13 ⟨Nat.le_of_ble_eq_true rfl, Nat.le_of_ble_eq_true rfl⟩ rfl (Nat.le_of_ble_eq_true rfl) rfl rfl h (fun r M6 hX7 h => ?_)
    replace h := h hX7
    obtain ⟨x8, rfl, h⟩ := h
    show mm_Z l G Y_PH_load K M 0 0 16 [some (.inr (some a0)), some (.inl xa), some (.inl xb), some (.inl xc), some (.inl xd), some (.inr o4), none, none] [.inl x8] M6
    refine mr_if_eq 34 dd_PH_load_16 (by decide) (fun hc16 => ?_) (fun hc16 => ?_)
    · have h := h.1 hc16
      refine mr_iconst (-1) dd_PH_load_34 (by decide) ?_
      exact mr_ireturn dd_PH_load_35 rfl h
    · have h := h.2 hc16
      refine mr_iload_n dd_PH_load_19 rfl ?_
      refine mr_callS0 (Yc := Y_PH_isRegister) (M := M6) (st := []) (vs := [.inl xc]) fc_PH_80 si_PH_isRegister dd_PH_load_20 ⟨Nat.le_of_ble_eq_true rfl, Nat.le_of_ble_eq_true rfl⟩ rfl (Nat.le_of_ble_eq_true rfl) rfl rfl h (fun r M9 hX10 h => ?_)
      replace h := h hX10
      obtain ⟨x11, rfl, h⟩ := h
      show mm_Z l G Y_PH_load K M 0 0 23 [some (.inr (some a0)), some (.inl xa), some (.inl xb), some (.inl xc), some (.inl xd), some (.inr o4), none, none] [.inl x11] M9
      refine mr_if_eq 34 dd_PH_load_23 (by decide) (fun hc23 => ?_) (fun hc23 => ?_)
      · have h := h.1 hc23
        refine mr_iconst (-1) dd_PH_load_34 (by decide) ?_
        exact mr_ireturn dd_PH_load_35 rfl h
      · have h := h.2 hc23
        refine mr_iload dd_PH_load_26 rfl ?_
        refine mr_callS0 (Yc := Y_PH_isField) (M := M9) (st := []) (vs := [.inl xd]) fc_PH_109 si_PH_isField dd_PH_load_28 ⟨Nat.le_of_ble_eq_true rfl, Nat.le_of_ble_eq_true rfl⟩ rfl (Nat.le_of_ble_eq_true rfl) rfl rfl h (fun r M12 hX13 h => ?_)
        replace h := h hX13
        obtain ⟨x14, rfl, h⟩ := h
        show mm_Z l G Y_PH_load K M 0 0 31 [some (.inr (some a0)), some (.inl xa), some (.inl xb), some (.inl xc), some (.inl xd), some (.inr o4), none, none] [.inl x14] M12
        refine mr_if_ne 36 dd_PH_load_31 (by decide) (fun hc31 => ?_) (fun hc31 => ?_)
        · have h := h.1 hc31
          refine mr_aload dd_PH_load_36 rfl ?_
          obtain ⟨hk15, h⟩ := h
          refine mr_getr ff_PH_102 dd_PH_load_38 rs_5_4 hc9 hk15 ?_
          refine mr_iload_n dd_PH_load_41 rfl ?_
          obtain ⟨a16, ho17, h⟩ := h
          obtain ⟨hk18, h⟩ := h
          obtain ⟨j19, hj20, hm21, hl22, h⟩ := h
          refine mr_aald (t := 3) dd_PH_load_42 ho17 hk18 (fun _ => rfl) (by decide) hj20 hm21 hl22 ?_
          refine mr_astore dd_PH_load_43 (by decide) ?_
          show mm_Z l G Y_PH_load K M 0 0 45 [some (.inr (some a0)), some (.inl xa), some (.inl xb), some (.inl xc), some (.inl xd), some (.inr o4), some (.inr (mm_p M12 a16 j19)), none] [] M12
          refine mr_aload dd_PH_load_45 rfl ?_
          refine mr_ifnonnull 53 dd_PH_load_47 (by decide) (fun a23 hc47 => ?_) (fun hc47 => ?_)
          · have h := h.2 a23 hc47
            refine mr_aload dd_PH_load_53 rfl ?_
            obtain ⟨hk24, h⟩ := h
            refine mr_getr ff_PH_124 dd_PH_load_55 rs_7_3 hc47 hk24 ?_
            refine mr_iload dd_PH_load_58 rfl ?_
            obtain ⟨a25, ho26, h⟩ := h
            obtain ⟨hk27, h⟩ := h
            obtain ⟨j28, hj29, hm30, hl31, h⟩ := h
            refine mr_aald (t := 3) dd_PH_load_60 ho26 hk27 (fun _ => rfl) (by decide) hj29 hm30 hl31 ?_
            refine mr_astore dd_PH_load_61 (by decide) ?_
            show mm_Z l G Y_PH_load K M 0 0 63 [some (.inr (some a0)), some (.inl xa), some (.inl xb), some (.inl xc), some (.inl xd), some (.inr o4), some (.inr (mm_p M12 a16 j19)), some (.inr (mm_p M12 a25 j28))] [] M12
            refine mr_aload_n dd_PH_load_63 rfl ?_
            refine mr_aload dd_PH_load_64 rfl ?_
            refine mr_aload dd_PH_load_66 rfl ?_
            refine mr_callV0 (Yc := Y_PH_mayHold) (M := M12) (st := []) (vs := [.inr o4, .inr (mm_p M12 a25 j28)]) (ci := 0) fc_PH_127 iv_PH_mayHold sv_PH_mayHold dd_PH_load_68 ⟨Nat.le_of_ble_eq_true rfl, Nat.le_of_ble_eq_true rfl⟩ (by decide) rfl rfl (Nat.le_of_ble_eq_true rfl) rfl (mm_Xk hX13 (mm_Xk hX10 (mm_Xk hX7 (mm_Xk hX2 hk3 (by decide)) (by decide)) (by decide)) (by decide)) rfl rfl h (fun r M32 hX33 h => ?_)
            replace h := h hX33
            obtain ⟨x34, rfl, h⟩ := h
            show mm_Z l G Y_PH_load K M 0 0 71 [some (.inr (some a0)), some (.inl xa), some (.inl xb), some (.inl xc), some (.inl xd), some (.inr o4), some (.inr (mm_p M12 a16 j19)), some (.inr (mm_p M12 a25 j28))] [.inl x34] M32
            refine mr_if_ne 77 dd_PH_load_71 (by decide) (fun hc71 => ?_) (fun hc71 => ?_)
            · have h := h.1 hc71
              refine mr_aload dd_PH_load_77 rfl ?_
              refine mr_getr ff_PH_102 dd_PH_load_79 rs_5_4 hc9 (mm_Xk hX33 hk15 (by decide)) ?_
              refine mr_iload_n dd_PH_load_82 rfl ?_
              refine mr_aload dd_PH_load_83 rfl ?_
              obtain ⟨a35, ho36, h⟩ := h
              obtain ⟨hk37, h⟩ := h
              obtain ⟨j38, hj39, hm40, hl41, h⟩ := h
              obtain ⟨hv42, h⟩ := h
              refine mr_aast (t := 3) (E := "ProcessHeaps$HeapObject") dd_PH_load_85 ho36 hk37 (fun _ => rfl) (by decide) (by decide) hj39 hm40 hl41 (fun q e => ⟨7, hv42 q e, cs_7⟩) ?_
              refine mr_iconst 0 dd_PH_load_86 (by decide) ?_
              exact mr_ireturn dd_PH_load_87 rfl h
            · have h := h.2 hc71
              refine mr_bipush (-3) dd_PH_load_74 (by decide) ?_
              exact mr_ireturn dd_PH_load_76 rfl h
          · have h := h.1 hc47
            refine mr_bipush (-2) dd_PH_load_50 (by decide) ?_
            exact mr_ireturn dd_PH_load_52 rfl h
        · have h := h.2 hc31
          refine mr_iconst (-1) dd_PH_load_34 (by decide) ?_
          exact mr_ireturn dd_PH_load_35 rfl h
set_option maxHeartbeats 4000000 in
set_option maxRecDepth 100000 in
theorem sg_PH_mayHold {l : Launch} {G : mm_G} {K : Option mm_V → mm_M → Prop} {M : mm_M} {a0 : Nat} {oa : Option Nat} {ob : Option Nat}
    (h : (ob = none → K (some (.inl 1)) M) ∧ (∀ a1 : Nat, ob = some a1 → mm_k M a1 = 8 ∧ mm_Ok l G yy_Ob_heapNumber Y_Ob_heapNumber [.inr (some a1)] M (fun r M2 => mm_X M M2 → ∃ x5 : Int32, r = some (.inl x5) ∧ (8 ≤ x5 → mm_k M2 a0 = 1 ∧ mm_Ok l G yy_PH_isFrozen Y_PH_isFrozen [.inr (some a0), .inl x5] M2 (fun r M6 => mm_X M2 M6 → ∃ x9 : Int32, r = some (.inl x9) ∧ (x9 = 0 → K (some (.inl 1)) M6) ∧ (¬ x9 = 0 → ∃ a12 : Nat, oa = some a12 ∧ mm_k M6 a12 = 6 ∧ mm_Ok l G yy_Pr_isCharged Y_Pr_isCharged [.inr (some a12), .inl x5] M6 (fun r M10 => mm_X M6 M10 → ∃ x15 : Int32, r = some (.inl x15) ∧ (x15 = 0 → K (some (.inl 0)) M10) ∧ (¬ x15 = 0 → K (some (.inl 1)) M10))))) ∧ (¬ 8 ≤ x5 → ∃ a16 : Nat, oa = some a16 ∧ mm_k M2 a16 = 6 ∧ (¬ x5 = (mm_i M2 a16 0) → K (some (.inl 0)) M2) ∧ (x5 = (mm_i M2 a16 0) → K (some (.inl 1)) M2))))) :
    mm_Ok l G yy_PH_mayHold Y_PH_mayHold [.inr (some a0), .inr oa, .inr ob] M K := by
  refine mm_go (by decide) rfl (fun q => by cases q) (Nat.le_of_ble_eq_true rfl) ?_
  show mm_Z l G Y_PH_mayHold K M 0 0 0 [some (.inr (some a0)), some (.inr oa), some (.inr ob), none] [] M
  refine mr_aload_n dd_PH_mayHold_0 rfl ?_
  refine mr_ifnonnull 6 dd_PH_mayHold_1 (by decide) (fun a1 hc1 => ?_) (fun hc1 => ?_)
  · have h := h.2 a1 hc1
    refine mr_aload_n dd_PH_mayHold_6 rfl ?_
    obtain ⟨hk4, h⟩ := h
    refine mr_callV0 (Yc := Y_Ob_heapNumber) (M := M) (st := []) (vs := []) (ci := 7) fc_PH_133 iv_Ob_heapNumber sv_Ob_heapNumber dd_PH_mayHold_7 ⟨Nat.le_of_ble_eq_true rfl, Nat.le_of_ble_eq_true rfl⟩ (by decide) rfl rfl (Nat.le_of_ble_eq_true rfl) hc1 hk4 rfl rfl h (fun r M2 hX3 h => ?_)
    replace h := h hX3
    obtain ⟨x5, rfl, h⟩ := h
    show mm_Z l G Y_PH_mayHold K M 0 0 10 [some (.inr (some a0)), some (.inr oa), some (.inr ob), none] [.inl x5] M2
    refine mr_istore_n dd_PH_mayHold_10 (by decide) ?_
    show mm_Z l G Y_PH_mayHold K M 0 0 11 [some (.inr (some a0)), some (.inr oa), some (.inr ob), some (.inl x5)] [] M2
    refine mr_iload_n dd_PH_mayHold_11 rfl ?_
    refine mr_bipush 8 dd_PH_mayHold_12 (by decide) ?_
    refine mr_icmp_ge 31 dd_PH_mayHold_14 (by decide) (fun hc14 => ?_) (fun hc14 => ?_)
    · have h := h.1 hc14
      refine mr_aload_n dd_PH_mayHold_31 rfl ?_
      refine mr_iload_n dd_PH_mayHold_32 rfl ?_
      obtain ⟨hk8, h⟩ := h
      refine mr_callV0 (Yc := Y_PH_isFrozen) (M := M2) (st := []) (vs := [.inl x5]) (ci := 0) fc_PH_143 iv_PH_isFrozen sv_PH_isFrozen dd_PH_mayHold_33 ⟨Nat.le_of_ble_eq_true rfl, Nat.le_of_ble_eq_true rfl⟩ (by decide) rfl rfl (Nat.le_of_ble_eq_true rfl) rfl hk8 rfl rfl h (fun r M6 hX7 h => ?_)
      replace h := h hX7
      obtain ⟨x9, rfl, h⟩ := h
      show mm_Z l G Y_PH_mayHold K M 0 0 36 [some (.inr (some a0)), some (.inr oa), some (.inr ob), some (.inl x5)] [.inl x9] M6
      refine mr_if_eq 47 dd_PH_mayHold_36 (by decide) (fun hc36 => ?_) (fun hc36 => ?_)
      · have h := h.1 hc36
        refine mr_iconst 1 dd_PH_mayHold_47 (by decide) ?_
        refine mr_goto 52 dd_PH_mayHold_48 (by decide) ?_
        exact mr_zreturn dd_PH_mayHold_52 rfl (Or.inr rfl) h
      · have h := h.2 hc36
        refine mr_aload_n dd_PH_mayHold_39 rfl ?_
        refine mr_iload_n dd_PH_mayHold_40 rfl ?_
        obtain ⟨a12, ho13, h⟩ := h
        obtain ⟨hk14, h⟩ := h
        refine mr_callV0 (Yc := Y_Pr_isCharged) (M := M6) (st := []) (vs := [.inl x5]) (ci := 5) fc_PH_146 iv_Pr_isCharged sv_Pr_isCharged dd_PH_mayHold_41 ⟨Nat.le_of_ble_eq_true rfl, Nat.le_of_ble_eq_true rfl⟩ (by decide) rfl rfl (Nat.le_of_ble_eq_true rfl) ho13 hk14 rfl rfl h (fun r M10 hX11 h => ?_)
        replace h := h hX11
        obtain ⟨x15, rfl, h⟩ := h
        show mm_Z l G Y_PH_mayHold K M 0 0 44 [some (.inr (some a0)), some (.inr oa), some (.inr ob), some (.inl x5)] [.inl x15] M10
        refine mr_if_eq 51 dd_PH_mayHold_44 (by decide) (fun hc44 => ?_) (fun hc44 => ?_)
        · have h := h.1 hc44
          refine mr_iconst 0 dd_PH_mayHold_51 (by decide) ?_
          exact mr_zreturn dd_PH_mayHold_52 rfl (Or.inl rfl) h
        · have h := h.2 hc44
          refine mr_iconst 1 dd_PH_mayHold_47 (by decide) ?_
          refine mr_goto 52 dd_PH_mayHold_48 (by decide) ?_
          exact mr_zreturn dd_PH_mayHold_52 rfl (Or.inr rfl) h
    · have h := h.2 hc14
      refine mr_iload_n dd_PH_mayHold_17 rfl ?_
      refine mr_aload_n dd_PH_mayHold_18 rfl ?_
      obtain ⟨a16, ho17, h⟩ := h
      obtain ⟨hk18, h⟩ := h
      refine mr_geti ff_PH_192 dd_PH_mayHold_19 rs_5_0 ho17 hk18 ?_
      refine mr_icmp_ne 29 dd_PH_mayHold_22 (by decide) (fun hc22 => ?_) (fun hc22 => ?_)
      · have h := h.1 hc22
        refine mr_iconst 0 dd_PH_mayHold_29 (by decide) ?_
        exact mr_zreturn dd_PH_mayHold_30 rfl (Or.inl rfl) h
      · have h := h.2 hc22
        refine mr_iconst 1 dd_PH_mayHold_25 (by decide) ?_
        refine mr_goto 30 dd_PH_mayHold_26 (by decide) ?_
        exact mr_zreturn dd_PH_mayHold_30 rfl (Or.inr rfl) h
  · have h := h.1 hc1
    refine mr_iconst 1 dd_PH_mayHold_4 (by decide) ?_
    exact mr_zreturn dd_PH_mayHold_5 rfl (Or.inr rfl) h
set_option maxHeartbeats 4000000 in
set_option maxRecDepth 100000 in
theorem sg_PH_move {l : Launch} {G : mm_G} {K : Option mm_V → mm_M → Prop} {M : mm_M} {a0 : Nat} {xa : Int32} {xb : Int32} {xc : Int32}
    (h : mm_k M a0 = 1 ∧ mm_Ok l G yy_PH_livingProcess Y_PH_livingProcess [.inr (some a0), .inl xa] M (fun r M1 => mm_X M M1 → ∃ o4 : Option Nat, r = some (.inr o4) ∧ (o4 = none → K (some (.inl 0)) M1) ∧ (∀ a5 : Nat, o4 = some a5 → mm_Ok l G yy_PH_isRegister Y_PH_isRegister [.inl xb] M1 (fun r M6 => mm_X M1 M6 → ∃ x8 : Int32, r = some (.inl x8) ∧ (x8 = 0 → K (some (.inl 0)) M6) ∧ (¬ x8 = 0 → (xc = (-1) → mm_k M6 a5 = 6 ∧ (¬ xc = (-1) → ∃ a10 : Nat, (mm_p M6 a5 4) = some a10 ∧ mm_k M6 a10 = 103 ∧ ∃ j13 : Nat, xc = nI j13 ∧ j13 < 2147483648 ∧ j13 < mm_l M6 a10 ∧ ∃ j17 : Nat, xb = nI j17 ∧ j17 < 2147483648 ∧ j17 < mm_l M6 a10 ∧ (∀ q, (mm_p M6 a10 j13) = some q → mm_k M6 q = 8) ∧ K (some (.inl 1)) (mm_sp M6 a10 j17 (mm_p M6 a10 j13))) ∧ (xc = (-1) → ∃ a22 : Nat, (mm_p M6 a5 4) = some a22 ∧ mm_k M6 a22 = 103 ∧ ∃ j25 : Nat, xb = nI j25 ∧ j25 < 2147483648 ∧ j25 < mm_l M6 a22 ∧ K (some (.inl 1)) (mm_sp M6 a22 j25 none))) ∧ (¬ xc = (-1) → mm_Ok l G yy_PH_isRegister Y_PH_isRegister [.inl xc] M6 (fun r M29 => mm_X M6 M29 → ∃ x31 : Int32, r = some (.inl x31) ∧ (¬ x31 = 0 → mm_k M29 a5 = 6 ∧ (¬ xc = (-1) → ∃ a33 : Nat, (mm_p M29 a5 4) = some a33 ∧ mm_k M29 a33 = 103 ∧ ∃ j36 : Nat, xc = nI j36 ∧ j36 < 2147483648 ∧ j36 < mm_l M29 a33 ∧ ∃ j40 : Nat, xb = nI j40 ∧ j40 < 2147483648 ∧ j40 < mm_l M29 a33 ∧ (∀ q, (mm_p M29 a33 j36) = some q → mm_k M29 q = 8) ∧ K (some (.inl 1)) (mm_sp M29 a33 j40 (mm_p M29 a33 j36))) ∧ (xc = (-1) → ∃ a45 : Nat, (mm_p M29 a5 4) = some a45 ∧ mm_k M29 a45 = 103 ∧ ∃ j48 : Nat, xb = nI j48 ∧ j48 < 2147483648 ∧ j48 < mm_l M29 a45 ∧ K (some (.inl 1)) (mm_sp M29 a45 j48 none))) ∧ (x31 = 0 → K (some (.inl 0)) M29)))))))) :
    mm_Ok l G yy_PH_move Y_PH_move [.inr (some a0), .inl xa, .inl xb, .inl xc] M K := by
  refine mm_go (by decide) rfl (fun q => by cases q) (Nat.le_of_ble_eq_true rfl) ?_
  show mm_Z l G Y_PH_move K M 0 0 0 [some (.inr (some a0)), some (.inl xa), some (.inl xb), some (.inl xc), none] [] M
  refine mr_aload_n dd_PH_move_0 rfl ?_
  refine mr_iload_n dd_PH_move_1 rfl ?_
  obtain ⟨hk3, h⟩ := h
  refine mr_callV0 (Yc := Y_PH_livingProcess) (M := M) (st := []) (vs := [.inl xa]) (ci := 0) fc_PH_61 iv_PH_livingProcess sv_PH_livingProcess dd_PH_move_2 ⟨Nat.le_of_ble_eq_true rfl, Nat.le_of_ble_eq_true rfl⟩ (by decide) rfl rfl (Nat.le_of_ble_eq_true rfl) rfl hk3 rfl rfl h (fun r M1 hX2 h => ?_)
  replace h := h hX2
  obtain ⟨o4, rfl, h⟩ := h
  show mm_Z l G Y_PH_move K M 0 0 5 [some (.inr (some a0)), some (.inl xa), some (.inl xb), some (.inl xc), none] [.inr o4] M1
  refine mr_astore dd_PH_move_5 (by decide) ?_
  show mm_Z l G Y_PH_move K M 0 0 7 [some (.inr (some a0)), some (.inl xa), some (.inl xb), some (.inl xc), some (.inr o4)] [] M1
  refine mr_aload dd_PH_move_7 rfl ?_
  refine mr_ifnull 31 dd_PH_move_9 (by decide) (fun hc9 => ?_) (fun a5 hc9 => ?_)
  · have h := h.1 hc9
    refine mr_iconst 0 dd_PH_move_31 (by decide) ?_
    exact mr_zreturn dd_PH_move_32 rfl (Or.inl rfl) h
  · have h := h.2 a5 hc9
    refine mr_iload_n dd_PH_move_12 rfl ?_
    refine mr_callS0 (Yc := Y_PH_isRegister) (M := M1) (st := []) (vs := [.inl xb]) fc_PH_80 si_PH_isRegister dd_PH_move_13 ⟨Nat.le_of_ble_eq_true rfl, Nat.le_of_ble_eq_true rfl⟩ rfl (Nat.le_of_ble_eq_true rfl) rfl rfl h (fun r M6 hX7 h => ?_)
    replace h := h hX7
    obtain ⟨x8, rfl, h⟩ := h
    show mm_Z l G Y_PH_move K M 0 0 16 [some (.inr (some a0)), some (.inl xa), some (.inl xb), some (.inl xc), some (.inr o4)] [.inl x8] M6
    refine mr_if_eq 31 dd_PH_move_16 (by decide) (fun hc16 => ?_) (fun hc16 => ?_)
    · have h := h.1 hc16
      refine mr_iconst 0 dd_PH_move_31 (by decide) ?_
      exact mr_zreturn dd_PH_move_32 rfl (Or.inl rfl) h
    · have h := h.2 hc16
      refine mr_iload_n dd_PH_move_19 rfl ?_
      refine mr_iconst (-1) dd_PH_move_20 (by decide) ?_
      refine mr_icmp_eq 33 dd_PH_move_21 (by decide) (fun hc21 => ?_) (fun hc21 => ?_)
      · have h := h.1 hc21
        refine mr_aload dd_PH_move_33 rfl ?_
        obtain ⟨hk9, h⟩ := h
        refine mr_getr ff_PH_102 dd_PH_move_35 rs_5_4 hc9 hk9 ?_
        refine mr_iload_n dd_PH_move_38 rfl ?_
        refine mr_iload_n dd_PH_move_39 rfl ?_
        refine mr_iconst (-1) dd_PH_move_40 (by decide) ?_
        refine mr_icmp_ne 48 dd_PH_move_41 (by decide) (fun hc41 => ?_) (fun hc41 => ?_)
        · have h := h.1 hc41
          refine mr_aload dd_PH_move_48 rfl ?_
          refine mr_getr ff_PH_102 dd_PH_move_50 rs_5_4 hc9 hk9 ?_
          refine mr_iload_n dd_PH_move_53 rfl ?_
          obtain ⟨a10, ho11, h⟩ := h
          obtain ⟨hk12, h⟩ := h
          obtain ⟨j13, hj14, hm15, hl16, h⟩ := h
          refine mr_aald (t := 3) dd_PH_move_54 ho11 hk12 (fun _ => rfl) (by decide) hj14 hm15 hl16 ?_
          obtain ⟨j17, hj18, hm19, hl20, h⟩ := h
          obtain ⟨hv21, h⟩ := h
          refine mr_aast (t := 3) (E := "ProcessHeaps$HeapObject") dd_PH_move_55 ho11 hk12 (fun _ => rfl) (by decide) (by decide) hj18 hm19 hl20 (fun q e => ⟨7, hv21 q e, cs_7⟩) ?_
          refine mr_iconst 1 dd_PH_move_56 (by decide) ?_
          exact mr_zreturn dd_PH_move_57 rfl (Or.inr rfl) h
        · have h := h.2 hc41
          refine mr_null dd_PH_move_44 ?_
          refine mr_goto 55 dd_PH_move_45 (by decide) ?_
          obtain ⟨a22, ho23, h⟩ := h
          obtain ⟨hk24, h⟩ := h
          obtain ⟨j25, hj26, hm27, hl28, h⟩ := h
          refine mr_aast (t := 3) (E := "ProcessHeaps$HeapObject") dd_PH_move_55 ho23 hk24 (fun _ => rfl) (by decide) (by decide) hj26 hm27 hl28 (fun _ q => by cases q) ?_
          refine mr_iconst 1 dd_PH_move_56 (by decide) ?_
          exact mr_zreturn dd_PH_move_57 rfl (Or.inr rfl) h
      · have h := h.2 hc21
        refine mr_iload_n dd_PH_move_24 rfl ?_
        refine mr_callS0 (Yc := Y_PH_isRegister) (M := M6) (st := []) (vs := [.inl xc]) fc_PH_80 si_PH_isRegister dd_PH_move_25 ⟨Nat.le_of_ble_eq_true rfl, Nat.le_of_ble_eq_true rfl⟩ rfl (Nat.le_of_ble_eq_true rfl) rfl rfl h (fun r M29 hX30 h => ?_)
        replace h := h hX30
        obtain ⟨x31, rfl, h⟩ := h
        show mm_Z l G Y_PH_move K M 0 0 28 [some (.inr (some a0)), some (.inl xa), some (.inl xb), some (.inl xc), some (.inr o4)] [.inl x31] M29
        refine mr_if_ne 33 dd_PH_move_28 (by decide) (fun hc28 => ?_) (fun hc28 => ?_)
        · have h := h.1 hc28
          refine mr_aload dd_PH_move_33 rfl ?_
          obtain ⟨hk32, h⟩ := h
          refine mr_getr ff_PH_102 dd_PH_move_35 rs_5_4 hc9 hk32 ?_
          refine mr_iload_n dd_PH_move_38 rfl ?_
          refine mr_iload_n dd_PH_move_39 rfl ?_
          refine mr_iconst (-1) dd_PH_move_40 (by decide) ?_
          refine mr_icmp_ne 48 dd_PH_move_41 (by decide) (fun hc41 => ?_) (fun hc41 => ?_)
          · have h := h.1 hc41
            refine mr_aload dd_PH_move_48 rfl ?_
            refine mr_getr ff_PH_102 dd_PH_move_50 rs_5_4 hc9 hk32 ?_
            refine mr_iload_n dd_PH_move_53 rfl ?_
            obtain ⟨a33, ho34, h⟩ := h
            obtain ⟨hk35, h⟩ := h
            obtain ⟨j36, hj37, hm38, hl39, h⟩ := h
            refine mr_aald (t := 3) dd_PH_move_54 ho34 hk35 (fun _ => rfl) (by decide) hj37 hm38 hl39 ?_
            obtain ⟨j40, hj41, hm42, hl43, h⟩ := h
            obtain ⟨hv44, h⟩ := h
            refine mr_aast (t := 3) (E := "ProcessHeaps$HeapObject") dd_PH_move_55 ho34 hk35 (fun _ => rfl) (by decide) (by decide) hj41 hm42 hl43 (fun q e => ⟨7, hv44 q e, cs_7⟩) ?_
            refine mr_iconst 1 dd_PH_move_56 (by decide) ?_
            exact mr_zreturn dd_PH_move_57 rfl (Or.inr rfl) h
          · have h := h.2 hc41
            refine mr_null dd_PH_move_44 ?_
            refine mr_goto 55 dd_PH_move_45 (by decide) ?_
            obtain ⟨a45, ho46, h⟩ := h
            obtain ⟨hk47, h⟩ := h
            obtain ⟨j48, hj49, hm50, hl51, h⟩ := h
            refine mr_aast (t := 3) (E := "ProcessHeaps$HeapObject") dd_PH_move_55 ho46 hk47 (fun _ => rfl) (by decide) (by decide) hj49 hm50 hl51 (fun _ q => by cases q) ?_
            refine mr_iconst 1 dd_PH_move_56 (by decide) ?_
            exact mr_zreturn dd_PH_move_57 rfl (Or.inr rfl) h
        · have h := h.2 hc28
          refine mr_iconst 0 dd_PH_move_31 (by decide) ?_
          exact mr_zreturn dd_PH_move_32 rfl (Or.inl rfl) h
set_option maxHeartbeats 4000000 in
set_option maxRecDepth 100000 in
theorem sg_PH_begin {l : Launch} {G : mm_G} {K : Option mm_V → mm_M → Prop} {M : mm_M} {a0 : Nat} {xa : Int32}
    (h : mm_k M a0 = 1 ∧ mm_Ok l G yy_PH_livingProcess Y_PH_livingProcess [.inr (some a0), .inl xa] M (fun r M1 => mm_X M M1 → ∃ o4 : Option Nat, r = some (.inr o4) ∧ (o4 = none → K (some (.inl (-1))) M1) ∧ (∀ a5 : Nat, o4 = some a5 → mm_k M1 a5 = 6 ∧ ((mm_i M1 a5 6) = (-1) → ((mm_i M1 a0 6) < 13 → K (some (.inl (mm_i (mm_si (mm_si M1 a5 6 (mm_i M1 a0 6)) a0 6 ((mm_i (mm_si M1 a5 6 (mm_i M1 a0 6)) a0 6) + 1)) a5 6))) (mm_si (mm_si M1 a5 6 (mm_i M1 a0 6)) a0 6 ((mm_i (mm_si M1 a5 6 (mm_i M1 a0 6)) a0 6) + 1))) ∧ (¬ (mm_i M1 a0 6) < 13 → K (some (.inl (-4))) M1)) ∧ (¬ (mm_i M1 a5 6) = (-1) → K (some (.inl (-1))) M1)))) :
    mm_Ok l G yy_PH_begin Y_PH_begin [.inr (some a0), .inl xa] M K := by
  refine mm_go (by decide) rfl (fun q => by cases q) (Nat.le_of_ble_eq_true rfl) ?_
  show mm_Z l G Y_PH_begin K M 0 0 0 [some (.inr (some a0)), some (.inl xa), none] [] M
  refine mr_aload_n dd_PH_begin_0 rfl ?_
  refine mr_iload_n dd_PH_begin_1 rfl ?_
  obtain ⟨hk3, h⟩ := h
  refine mr_callV0 (Yc := Y_PH_livingProcess) (M := M) (st := []) (vs := [.inl xa]) (ci := 0) fc_PH_61 iv_PH_livingProcess sv_PH_livingProcess dd_PH_begin_2 ⟨Nat.le_of_ble_eq_true rfl, Nat.le_of_ble_eq_true rfl⟩ (by decide) rfl rfl (Nat.le_of_ble_eq_true rfl) rfl hk3 rfl rfl h (fun r M1 hX2 h => ?_)
  replace h := h hX2
  obtain ⟨o4, rfl, h⟩ := h
  show mm_Z l G Y_PH_begin K M 0 0 5 [some (.inr (some a0)), some (.inl xa), none] [.inr o4] M1
  refine mr_astore_n dd_PH_begin_5 (by decide) ?_
  show mm_Z l G Y_PH_begin K M 0 0 6 [some (.inr (some a0)), some (.inl xa), some (.inr o4)] [] M1
  refine mr_aload_n dd_PH_begin_6 rfl ?_
  refine mr_ifnull 18 dd_PH_begin_7 (by decide) (fun hc7 => ?_) (fun a5 hc7 => ?_)
  · have h := h.1 hc7
    refine mr_iconst (-1) dd_PH_begin_18 (by decide) ?_
    exact mr_ireturn dd_PH_begin_19 rfl h
  · have h := h.2 a5 hc7
    refine mr_aload_n dd_PH_begin_10 rfl ?_
    obtain ⟨hk6, h⟩ := h
    refine mr_geti ff_PH_130 dd_PH_begin_11 rs_5_6 hc7 hk6 ?_
    refine mr_iconst (-1) dd_PH_begin_14 (by decide) ?_
    refine mr_icmp_eq 20 dd_PH_begin_15 (by decide) (fun hc15 => ?_) (fun hc15 => ?_)
    · have h := h.1 hc15
      refine mr_aload_n dd_PH_begin_20 rfl ?_
      refine mr_geti ff_PH_46 dd_PH_begin_21 rs_0_6 rfl (mm_Xk hX2 hk3 (by decide)) ?_
      refine mr_bipush 13 dd_PH_begin_24 (by decide) ?_
      refine mr_icmp_lt 32 dd_PH_begin_26 (by decide) (fun hc26 => ?_) (fun hc26 => ?_)
      · have h := h.1 hc26
        refine mr_aload_n dd_PH_begin_32 rfl ?_
        refine mr_aload_n dd_PH_begin_33 rfl ?_
        refine mr_geti ff_PH_46 dd_PH_begin_34 rs_0_6 rfl (mm_Xk hX2 hk3 (by decide)) ?_
        refine mr_puti ff_PH_130 fp_5 (Or.inl rfl) dd_PH_begin_37 (Or.inl (by decide +kernel)) rs_5_6 hc7 hk6 ?_
        refine mr_aload_n dd_PH_begin_40 rfl ?_
        refine mr_dup dd_PH_begin_41 ?_
        refine mr_geti ff_PH_46 dd_PH_begin_42 rs_0_6 rfl (mm_Xk hX2 hk3 (by decide)) ?_
        refine mr_iconst 1 dd_PH_begin_45 (by decide) ?_
        refine mr_iadd dd_PH_begin_46 ?_
        refine mr_puti ff_PH_46 fp_0 (Or.inl rfl) dd_PH_begin_47 (Or.inl (by decide +kernel)) rs_0_6 rfl (mm_Xk hX2 hk3 (by decide)) ?_
        refine mr_aload_n dd_PH_begin_50 rfl ?_
        refine mr_geti ff_PH_130 dd_PH_begin_51 rs_5_6 hc7 hk6 ?_
        exact mr_ireturn dd_PH_begin_54 rfl h
      · have h := h.2 hc26
        refine mr_bipush (-4) dd_PH_begin_29 (by decide) ?_
        exact mr_ireturn dd_PH_begin_31 rfl h
    · have h := h.2 hc15
      refine mr_iconst (-1) dd_PH_begin_18 (by decide) ?_
      exact mr_ireturn dd_PH_begin_19 rfl h
set_option maxHeartbeats 4000000 in
set_option maxRecDepth 100000 in
theorem sg_PH_freeze {l : Launch} {G : mm_G} {K : Option mm_V → mm_M → Prop} {M : mm_M} {a0 : Nat} {xa : Int32} {xb : Int32}
    (h : mm_k M a0 = 1 ∧ mm_Ok l G yy_PH_livingProcess Y_PH_livingProcess [.inr (some a0), .inl xa] M (fun r M1 => mm_X M M1 → ∃ o4 : Option Nat, r = some (.inr o4) ∧ (o4 = none → K (some (.inl (-1))) M1) ∧ (∀ a5 : Nat, o4 = some a5 → mm_Ok l G yy_PH_isRegister Y_PH_isRegister [.inl xb] M1 (fun r M6 => mm_X M1 M6 → ∃ x8 : Int32, r = some (.inl x8) ∧ (x8 = 0 → K (some (.inl (-1))) M6) ∧ (¬ x8 = 0 → mm_k M6 a5 = 6 ∧ (¬ (mm_i M6 a5 6) = (-1) → ∃ a10 : Nat, (mm_p M6 a5 4) = some a10 ∧ mm_k M6 a10 = 103 ∧ ∃ j13 : Nat, xb = nI j13 ∧ j13 < 2147483648 ∧ j13 < mm_l M6 a10 ∧ ((mm_p M6 a10 j13) = none → K (some (.inl (-1))) M6) ∧ (∀ a17 : Nat, (mm_p M6 a10 j13) = some a17 → mm_k M6 a17 = 8 ∧ mm_Ok l G yy_Ob_heapNumber Y_Ob_heapNumber [.inr (some a17)] M6 (fun r M18 => mm_X M6 M18 → ∃ x21 : Int32, r = some (.inl x21) ∧ (x21 = (mm_i M6 a5 6) → ∃ a22 : Nat, (mm_p M18 a0 4) = some a22 ∧ mm_k M18 a22 = 103 ∧ ∃ j25 : Nat, (mm_i M6 a5 6) = nI j25 ∧ j25 < 2147483648 ∧ j25 < mm_l M18 a22 ∧ (∀ q, (mm_p M6 a10 j13) = some q → mm_k M18 q = 8) ∧ ∃ a32 : Nat, (mm_p (mm_si (mm_sp M18 a22 j25 (mm_p M6 a10 j13)) a5 6 (-1)) a0 0) = some a32 ∧ mm_k (mm_si (mm_sp M18 a22 j25 (mm_p M6 a10 j13)) a5 6 (-1)) a32 = 2 ∧ mm_Ok l G yy_Me_endSinglePayment Y_Me_endSinglePayment [.inr (some a32), .inl (mm_i M6 a5 6)] (mm_si (mm_sp M18 a22 j25 (mm_p M6 a10 j13)) a5 6 (-1)) (fun r M30 => mm_X (mm_si (mm_sp M18 a22 j25 (mm_p M6 a10 j13)) a5 6 (-1)) M30 → r = none ∧ mm_Ok l G yy_Pr_addCharge Y_Pr_addCharge [.inr (some a5), .inl (mm_i M6 a5 6)] M30 (fun r M35 => mm_X M30 M35 → r = none ∧ K (some (.inl (mm_i M6 a5 6))) M35))) ∧ (¬ x21 = (mm_i M6 a5 6) → K (some (.inl (-1))) M18)))) ∧ ((mm_i M6 a5 6) = (-1) → K (some (.inl (-1))) M6)))))) :
    mm_Ok l G yy_PH_freeze Y_PH_freeze [.inr (some a0), .inl xa, .inl xb] M K := by
  refine mm_go (by decide) rfl (fun q => by cases q) (Nat.le_of_ble_eq_true rfl) ?_
  show mm_Z l G Y_PH_freeze K M 0 0 0 [some (.inr (some a0)), some (.inl xa), some (.inl xb), none, none, none] [] M
  refine mr_aload_n dd_PH_freeze_0 rfl ?_
  refine mr_iload_n dd_PH_freeze_1 rfl ?_
  obtain ⟨hk3, h⟩ := h
  refine mr_callV0 (Yc := Y_PH_livingProcess) (M := M) (st := []) (vs := [.inl xa]) (ci := 0) fc_PH_61 iv_PH_livingProcess sv_PH_livingProcess dd_PH_freeze_2 ⟨Nat.le_of_ble_eq_true rfl, Nat.le_of_ble_eq_true rfl⟩ (by decide) rfl rfl (Nat.le_of_ble_eq_true rfl) rfl hk3 rfl rfl h (fun r M1 hX2 h => ?_)
  replace h := h hX2
  obtain ⟨o4, rfl, h⟩ := h
  show mm_Z l G Y_PH_freeze K M 0 0 5 [some (.inr (some a0)), some (.inl xa), some (.inl xb), none, none, none] [.inr o4] M1
  refine mr_astore_n dd_PH_freeze_5 (by decide) ?_
  show mm_Z l G Y_PH_freeze K M 0 0 6 [some (.inr (some a0)), some (.inl xa), some (.inl xb), some (.inr o4), none, none] [] M1
  refine mr_aload_n dd_PH_freeze_6 rfl ?_
  refine mr_ifnull 25 dd_PH_freeze_7 (by decide) (fun hc7 => ?_) (fun a5 hc7 => ?_)
  · have h := h.1 hc7
    refine mr_iconst (-1) dd_PH_freeze_25 (by decide) ?_
    exact mr_ireturn dd_PH_freeze_26 rfl h
  · have h := h.2 a5 hc7
    refine mr_iload_n dd_PH_freeze_10 rfl ?_
    refine mr_callS0 (Yc := Y_PH_isRegister) (M := M1) (st := []) (vs := [.inl xb]) fc_PH_80 si_PH_isRegister dd_PH_freeze_11 ⟨Nat.le_of_ble_eq_true rfl, Nat.le_of_ble_eq_true rfl⟩ rfl (Nat.le_of_ble_eq_true rfl) rfl rfl h (fun r M6 hX7 h => ?_)
    replace h := h hX7
    obtain ⟨x8, rfl, h⟩ := h
    show mm_Z l G Y_PH_freeze K M 0 0 14 [some (.inr (some a0)), some (.inl xa), some (.inl xb), some (.inr o4), none, none] [.inl x8] M6
    refine mr_if_eq 25 dd_PH_freeze_14 (by decide) (fun hc14 => ?_) (fun hc14 => ?_)
    · have h := h.1 hc14
      refine mr_iconst (-1) dd_PH_freeze_25 (by decide) ?_
      exact mr_ireturn dd_PH_freeze_26 rfl h
    · have h := h.2 hc14
      refine mr_aload_n dd_PH_freeze_17 rfl ?_
      obtain ⟨hk9, h⟩ := h
      refine mr_geti ff_PH_130 dd_PH_freeze_18 rs_5_6 hc7 hk9 ?_
      refine mr_iconst (-1) dd_PH_freeze_21 (by decide) ?_
      refine mr_icmp_ne 27 dd_PH_freeze_22 (by decide) (fun hc22 => ?_) (fun hc22 => ?_)
      · have h := h.1 hc22
        refine mr_aload_n dd_PH_freeze_27 rfl ?_
        refine mr_geti ff_PH_130 dd_PH_freeze_28 rs_5_6 hc7 hk9 ?_
        refine mr_istore dd_PH_freeze_31 (by decide) ?_
        show mm_Z l G Y_PH_freeze K M 0 0 33 [some (.inr (some a0)), some (.inl xa), some (.inl xb), some (.inr o4), some (.inl (mm_i M6 a5 6)), none] [] M6
        refine mr_aload_n dd_PH_freeze_33 rfl ?_
        refine mr_getr ff_PH_102 dd_PH_freeze_34 rs_5_4 hc7 hk9 ?_
        refine mr_iload_n dd_PH_freeze_37 rfl ?_
        obtain ⟨a10, ho11, h⟩ := h
        obtain ⟨hk12, h⟩ := h
        obtain ⟨j13, hj14, hm15, hl16, h⟩ := h
        refine mr_aald (t := 3) dd_PH_freeze_38 ho11 hk12 (fun _ => rfl) (by decide) hj14 hm15 hl16 ?_
        refine mr_astore dd_PH_freeze_39 (by decide) ?_
        show mm_Z l G Y_PH_freeze K M 0 0 41 [some (.inr (some a0)), some (.inl xa), some (.inl xb), some (.inr o4), some (.inl (mm_i M6 a5 6)), some (.inr (mm_p M6 a10 j13))] [] M6
        refine mr_aload dd_PH_freeze_41 rfl ?_
        refine mr_ifnull 56 dd_PH_freeze_43 (by decide) (fun hc43 => ?_) (fun a17 hc43 => ?_)
        · have h := h.1 hc43
          refine mr_iconst (-1) dd_PH_freeze_56 (by decide) ?_
          exact mr_ireturn dd_PH_freeze_57 rfl h
        · have h := h.2 a17 hc43
          refine mr_aload dd_PH_freeze_46 rfl ?_
          obtain ⟨hk20, h⟩ := h
          refine mr_callV0 (Yc := Y_Ob_heapNumber) (M := M6) (st := []) (vs := []) (ci := 7) fc_PH_133 iv_Ob_heapNumber sv_Ob_heapNumber dd_PH_freeze_48 ⟨Nat.le_of_ble_eq_true rfl, Nat.le_of_ble_eq_true rfl⟩ (by decide) rfl rfl (Nat.le_of_ble_eq_true rfl) hc43 hk20 rfl rfl h (fun r M18 hX19 h => ?_)
          replace h := h hX19
          obtain ⟨x21, rfl, h⟩ := h
          show mm_Z l G Y_PH_freeze K M 0 0 51 [some (.inr (some a0)), some (.inl xa), some (.inl xb), some (.inr o4), some (.inl (mm_i M6 a5 6)), some (.inr (mm_p M6 a10 j13))] [.inl x21] M18
          refine mr_iload dd_PH_freeze_51 rfl ?_
          refine mr_icmp_eq 58 dd_PH_freeze_53 (by decide) (fun hc53 => ?_) (fun hc53 => ?_)
          · have h := h.1 hc53
            refine mr_aload_n dd_PH_freeze_58 rfl ?_
            refine mr_getr ff_PH_38 dd_PH_freeze_59 rs_0_4 rfl (mm_Xk hX19 (mm_Xk hX7 (mm_Xk hX2 hk3 (by decide)) (by decide)) (by decide)) ?_
            refine mr_iload dd_PH_freeze_62 rfl ?_
            refine mr_aload dd_PH_freeze_64 rfl ?_
            obtain ⟨a22, ho23, h⟩ := h
            obtain ⟨hk24, h⟩ := h
            obtain ⟨j25, hj26, hm27, hl28, h⟩ := h
            obtain ⟨hv29, h⟩ := h
            refine mr_aast (t := 3) (E := "ProcessHeaps$HeapObject") dd_PH_freeze_66 ho23 hk24 (fun _ => rfl) (by decide) (by decide) hj26 hm27 hl28 (fun q e => ⟨7, hv29 q e, cs_7⟩) ?_
            refine mr_aload_n dd_PH_freeze_67 rfl ?_
            refine mr_iconst (-1) dd_PH_freeze_68 (by decide) ?_
            refine mr_puti ff_PH_130 fp_5 (Or.inl rfl) dd_PH_freeze_69 (Or.inl (by decide +kernel)) rs_5_6 hc7 (mm_Xk hX19 hk9 (by decide)) ?_
            refine mr_aload_n dd_PH_freeze_72 rfl ?_
            refine mr_getr ff_PH_10 dd_PH_freeze_73 rs_0_0 rfl (mm_Xk hX19 (mm_Xk hX7 (mm_Xk hX2 hk3 (by decide)) (by decide)) (by decide)) ?_
            refine mr_iload dd_PH_freeze_76 rfl ?_
            obtain ⟨a32, ho33, h⟩ := h
            obtain ⟨hk34, h⟩ := h
            refine mr_callV0 (Yc := Y_Me_endSinglePayment) (M := (mm_si (mm_sp M18 a22 j25 (mm_p M6 a10 j13)) a5 6 (-1))) (st := []) (vs := [.inl (mm_i M6 a5 6)]) (ci := 1) fc_PH_136 iv_Me_endSinglePayment sv_Me_endSinglePayment dd_PH_freeze_78 ⟨Nat.le_of_ble_eq_true rfl, Nat.le_of_ble_eq_true rfl⟩ (by decide) rfl rfl (Nat.le_of_ble_eq_true rfl) ho33 hk34 rfl rfl h (fun r M30 hX31 h => ?_)
            replace h := h hX31
            obtain ⟨rfl, h⟩ := h
            show mm_Z l G Y_PH_freeze K M 0 0 81 [some (.inr (some a0)), some (.inl xa), some (.inl xb), some (.inr o4), some (.inl (mm_i M6 a5 6)), some (.inr (mm_p M6 a10 j13))] [] M30
            refine mr_aload_n dd_PH_freeze_81 rfl ?_
            refine mr_iload dd_PH_freeze_82 rfl ?_
            refine mr_callV0 (Yc := Y_Pr_addCharge) (M := M30) (st := []) (vs := [.inl (mm_i M6 a5 6)]) (ci := 5) fc_PH_140 iv_Pr_addCharge sv_Pr_addCharge dd_PH_freeze_84 ⟨Nat.le_of_ble_eq_true rfl, Nat.le_of_ble_eq_true rfl⟩ (by decide) rfl rfl (Nat.le_of_ble_eq_true rfl) hc7 (mm_Xk hX31 (mm_Xk hX19 hk9 (by decide)) (by decide)) rfl rfl h (fun r M35 hX36 h => ?_)
            replace h := h hX36
            obtain ⟨rfl, h⟩ := h
            show mm_Z l G Y_PH_freeze K M 0 0 87 [some (.inr (some a0)), some (.inl xa), some (.inl xb), some (.inr o4), some (.inl (mm_i M6 a5 6)), some (.inr (mm_p M6 a10 j13))] [] M35
            refine mr_iload dd_PH_freeze_87 rfl ?_
            exact mr_ireturn dd_PH_freeze_89 rfl h
          · have h := h.2 hc53
            refine mr_iconst (-1) dd_PH_freeze_56 (by decide) ?_
            exact mr_ireturn dd_PH_freeze_57 rfl h
      · have h := h.2 hc22
        refine mr_iconst (-1) dd_PH_freeze_25 (by decide) ?_
        exact mr_ireturn dd_PH_freeze_26 rfl h
set_option maxHeartbeats 4000000 in
set_option maxRecDepth 100000 in
theorem sg_PH_lookup {l : Launch} {G : mm_G} {K : Option mm_V → mm_M → Prop} {M : mm_M} {a0 : Nat} {xa : Int32} {xb : Int32} {xc : Int32}
    (h : mm_k M a0 = 1 ∧ mm_Ok l G yy_PH_livingProcess Y_PH_livingProcess [.inr (some a0), .inl xa] M (fun r M1 => mm_X M M1 → ∃ o4 : Option Nat, r = some (.inr o4) ∧ (o4 = none → K (some (.inl (-1))) M1) ∧ (∀ a5 : Nat, o4 = some a5 → mm_Ok l G yy_PH_isRegister Y_PH_isRegister [.inl xc] M1 (fun r M6 => mm_X M1 M6 → ∃ x8 : Int32, r = some (.inl x8) ∧ (x8 = 0 → K (some (.inl (-1))) M6) ∧ (¬ x8 = 0 → mm_Ok l G yy_PH_isFrozen Y_PH_isFrozen [.inr (some a0), .inl xb] M6 (fun r M9 => mm_X M6 M9 → ∃ x11 : Int32, r = some (.inl x11) ∧ (¬ x11 = 0 → mm_k M9 a5 = 6 ∧ mm_Ok l G yy_Pr_isCharged Y_Pr_isCharged [.inr (some a5), .inl xb] M9 (fun r M12 => mm_X M9 M12 → ∃ x15 : Int32, r = some (.inl x15) ∧ (¬ x15 = 0 → ∃ a16 : Nat, (mm_p M12 a0 4) = some a16 ∧ mm_k M12 a16 = 103 ∧ ∃ j19 : Nat, xb = nI j19 ∧ j19 < 2147483648 ∧ j19 < mm_l M12 a16 ∧ ∃ a23 : Nat, (mm_p M12 a5 4) = some a23 ∧ mm_k M12 a23 = 103 ∧ ∃ j26 : Nat, xc = nI j26 ∧ j26 < 2147483648 ∧ j26 < mm_l M12 a23 ∧ (∀ q, (mm_p M12 a16 j19) = some q → mm_k M12 q = 8) ∧ K (some (.inl 0)) (mm_sp M12 a23 j26 (mm_p M12 a16 j19))) ∧ (x15 = 0 → ∃ a33 : Nat, (mm_p M12 a0 0) = some a33 ∧ mm_k M12 a33 = 2 ∧ mm_Ok l G yy_Me_countPages Y_Me_countPages [.inr (some a33), .inl xb] M12 (fun r M31 => mm_X M12 M31 → ∃ x36 : Int32, r = some (.inl x36) ∧ mm_Ok l G yy_PH_canPay Y_PH_canPay [.inr (some a0), .inl xa, .inl x36] M31 (fun r M37 => mm_X M31 M37 → ∃ x39 : Int32, r = some (.inl x39) ∧ (¬ x39 = 0 → mm_Ok l G yy_PH_canPay Y_PH_canPay [.inr (some a0), .inl xa, .inl x36] M37 (fun r M40 => mm_X M37 M40 → ∃ x42 : Int32, r = some (.inl x42) ∧ (¬ x42 = 0 → mm_Ok l G yy_Pr_addCharge Y_Pr_addCharge [.inr (some a5), .inl xb] M40 (fun r M43 => mm_X M40 M43 → r = none ∧ ∃ a45 : Nat, (mm_p M43 a0 4) = some a45 ∧ mm_k M43 a45 = 103 ∧ ∃ j48 : Nat, xb = nI j48 ∧ j48 < 2147483648 ∧ j48 < mm_l M43 a45 ∧ ∃ a52 : Nat, (mm_p M43 a5 4) = some a52 ∧ mm_k M43 a52 = 103 ∧ ∃ j55 : Nat, xc = nI j55 ∧ j55 < 2147483648 ∧ j55 < mm_l M43 a52 ∧ (∀ q, (mm_p M43 a45 j48) = some q → mm_k M43 q = 8) ∧ K (some (.inl 0)) (mm_sp M43 a52 j55 (mm_p M43 a45 j48)))) ∧ (x42 = 0 → K (some (.inl (-5))) M40))) ∧ (x39 = 0 → mm_Ok l G yy_PH_collectHeap Y_PH_collectHeap [.inr (some a0), .inl xa] M37 (fun r M60 => mm_X M37 M60 → ∃ x62 : Int32, r = some (.inl x62) ∧ mm_Ok l G yy_PH_canPay Y_PH_canPay [.inr (some a0), .inl xa, .inl x36] M60 (fun r M63 => mm_X M60 M63 → ∃ x65 : Int32, r = some (.inl x65) ∧ (¬ x65 = 0 → mm_Ok l G yy_Pr_addCharge Y_Pr_addCharge [.inr (some a5), .inl xb] M63 (fun r M66 => mm_X M63 M66 → r = none ∧ ∃ a68 : Nat, (mm_p M66 a0 4) = some a68 ∧ mm_k M66 a68 = 103 ∧ ∃ j71 : Nat, xb = nI j71 ∧ j71 < 2147483648 ∧ j71 < mm_l M66 a68 ∧ ∃ a75 : Nat, (mm_p M66 a5 4) = some a75 ∧ mm_k M66 a75 = 103 ∧ ∃ j78 : Nat, xc = nI j78 ∧ j78 < 2147483648 ∧ j78 < mm_l M66 a75 ∧ (∀ q, (mm_p M66 a68 j71) = some q → mm_k M66 q = 8) ∧ K (some (.inl 0)) (mm_sp M66 a75 j78 (mm_p M66 a68 j71)))) ∧ (x65 = 0 → K (some (.inl (-5))) M63))))))))) ∧ (x11 = 0 → K (some (.inl (-1))) M9))))))) :
    mm_Ok l G yy_PH_lookup Y_PH_lookup [.inr (some a0), .inl xa, .inl xb, .inl xc] M K := by
  refine mm_go (by decide) rfl (fun q => by cases q) (Nat.le_of_ble_eq_true rfl) ?_
  show mm_Z l G Y_PH_lookup K M 0 0 0 [some (.inr (some a0)), some (.inl xa), some (.inl xb), some (.inl xc), none, none] [] M
  refine mr_aload_n dd_PH_lookup_0 rfl ?_
  refine mr_iload_n dd_PH_lookup_1 rfl ?_
  obtain ⟨hk3, h⟩ := h
  refine mr_callV0 (Yc := Y_PH_livingProcess) (M := M) (st := []) (vs := [.inl xa]) (ci := 0) fc_PH_61 iv_PH_livingProcess sv_PH_livingProcess dd_PH_lookup_2 ⟨Nat.le_of_ble_eq_true rfl, Nat.le_of_ble_eq_true rfl⟩ (by decide) rfl rfl (Nat.le_of_ble_eq_true rfl) rfl hk3 rfl rfl h (fun r M1 hX2 h => ?_)
  replace h := h hX2
  obtain ⟨o4, rfl, h⟩ := h
  show mm_Z l G Y_PH_lookup K M 0 0 5 [some (.inr (some a0)), some (.inl xa), some (.inl xb), some (.inl xc), none, none] [.inr o4] M1
  refine mr_astore dd_PH_lookup_5 (by decide) ?_
  show mm_Z l G Y_PH_lookup K M 0 0 7 [some (.inr (some a0)), some (.inl xa), some (.inl xb), some (.inl xc), some (.inr o4), none] [] M1
  refine mr_aload dd_PH_lookup_7 rfl ?_
  refine mr_ifnull 27 dd_PH_lookup_9 (by decide) (fun hc9 => ?_) (fun a5 hc9 => ?_)
  · have h := h.1 hc9
    refine mr_iconst (-1) dd_PH_lookup_27 (by decide) ?_
    exact mr_ireturn dd_PH_lookup_28 rfl h
  · have h := h.2 a5 hc9
    refine mr_iload_n dd_PH_lookup_12 rfl ?_
    refine mr_callS0 (Yc := Y_PH_isRegister) (M := M1) (st := []) (vs := [.inl xc]) fc_PH_80 si_PH_isRegister dd_PH_lookup_13 ⟨Nat.le_of_ble_eq_true rfl, Nat.le_of_ble_eq_true rfl⟩ rfl (Nat.le_of_ble_eq_true rfl) rfl rfl h (fun r M6 hX7 h => ?_)
    replace h := h hX7
    obtain ⟨x8, rfl, h⟩ := h
    show mm_Z l G Y_PH_lookup K M 0 0 16 [some (.inr (some a0)), some (.inl xa), some (.inl xb), some (.inl xc), some (.inr o4), none] [.inl x8] M6
    refine mr_if_eq 27 dd_PH_lookup_16 (by decide) (fun hc16 => ?_) (fun hc16 => ?_)
    · have h := h.1 hc16
      refine mr_iconst (-1) dd_PH_lookup_27 (by decide) ?_
      exact mr_ireturn dd_PH_lookup_28 rfl h
    · have h := h.2 hc16
      refine mr_aload_n dd_PH_lookup_19 rfl ?_
      refine mr_iload_n dd_PH_lookup_20 rfl ?_
      refine mr_callV0 (Yc := Y_PH_isFrozen) (M := M6) (st := []) (vs := [.inl xb]) (ci := 0) fc_PH_143 iv_PH_isFrozen sv_PH_isFrozen dd_PH_lookup_21 ⟨Nat.le_of_ble_eq_true rfl, Nat.le_of_ble_eq_true rfl⟩ (by decide) rfl rfl (Nat.le_of_ble_eq_true rfl) rfl (mm_Xk hX7 (mm_Xk hX2 hk3 (by decide)) (by decide)) rfl rfl h (fun r M9 hX10 h => ?_)
      replace h := h hX10
      obtain ⟨x11, rfl, h⟩ := h
      show mm_Z l G Y_PH_lookup K M 0 0 24 [some (.inr (some a0)), some (.inl xa), some (.inl xb), some (.inl xc), some (.inr o4), none] [.inl x11] M9
      refine mr_if_ne 29 dd_PH_lookup_24 (by decide) (fun hc24 => ?_) (fun hc24 => ?_)
      · have h := h.1 hc24
        refine mr_aload dd_PH_lookup_29 rfl ?_
        refine mr_iload_n dd_PH_lookup_31 rfl ?_
        obtain ⟨hk14, h⟩ := h
        refine mr_callV0 (Yc := Y_Pr_isCharged) (M := M9) (st := []) (vs := [.inl xb]) (ci := 5) fc_PH_146 iv_Pr_isCharged sv_Pr_isCharged dd_PH_lookup_32 ⟨Nat.le_of_ble_eq_true rfl, Nat.le_of_ble_eq_true rfl⟩ (by decide) rfl rfl (Nat.le_of_ble_eq_true rfl) hc9 hk14 rfl rfl h (fun r M12 hX13 h => ?_)
        replace h := h hX13
        obtain ⟨x15, rfl, h⟩ := h
        show mm_Z l G Y_PH_lookup K M 0 0 35 [some (.inr (some a0)), some (.inl xa), some (.inl xb), some (.inl xc), some (.inr o4), none] [.inl x15] M12
        refine mr_if_ne 83 dd_PH_lookup_35 (by decide) (fun hc35 => ?_) (fun hc35 => ?_)
        · have h := h.1 hc35
          refine mr_aload dd_PH_lookup_83 rfl ?_
          refine mr_getr ff_PH_102 dd_PH_lookup_85 rs_5_4 hc9 (mm_Xk hX13 hk14 (by decide)) ?_
          refine mr_iload_n dd_PH_lookup_88 rfl ?_
          refine mr_aload_n dd_PH_lookup_89 rfl ?_
          refine mr_getr ff_PH_38 dd_PH_lookup_90 rs_0_4 rfl (mm_Xk hX13 (mm_Xk hX10 (mm_Xk hX7 (mm_Xk hX2 hk3 (by decide)) (by decide)) (by decide)) (by decide)) ?_
          refine mr_iload_n dd_PH_lookup_93 rfl ?_
          obtain ⟨a16, ho17, h⟩ := h
          obtain ⟨hk18, h⟩ := h
          obtain ⟨j19, hj20, hm21, hl22, h⟩ := h
          refine mr_aald (t := 3) dd_PH_lookup_94 ho17 hk18 (fun _ => rfl) (by decide) hj20 hm21 hl22 ?_
          obtain ⟨a23, ho24, h⟩ := h
          obtain ⟨hk25, h⟩ := h
          obtain ⟨j26, hj27, hm28, hl29, h⟩ := h
          obtain ⟨hv30, h⟩ := h
          refine mr_aast (t := 3) (E := "ProcessHeaps$HeapObject") dd_PH_lookup_95 ho24 hk25 (fun _ => rfl) (by decide) (by decide) hj27 hm28 hl29 (fun q e => ⟨7, hv30 q e, cs_7⟩) ?_
          refine mr_iconst 0 dd_PH_lookup_96 (by decide) ?_
          exact mr_ireturn dd_PH_lookup_97 rfl h
        · have h := h.2 hc35
          refine mr_aload_n dd_PH_lookup_38 rfl ?_
          refine mr_getr ff_PH_10 dd_PH_lookup_39 rs_0_0 rfl (mm_Xk hX13 (mm_Xk hX10 (mm_Xk hX7 (mm_Xk hX2 hk3 (by decide)) (by decide)) (by decide)) (by decide)) ?_
          refine mr_iload_n dd_PH_lookup_42 rfl ?_
          obtain ⟨a33, ho34, h⟩ := h
          obtain ⟨hk35, h⟩ := h
          refine mr_callV0 (Yc := Y_Me_countPages) (M := M12) (st := []) (vs := [.inl xb]) (ci := 1) fc_PH_149 iv_Me_countPages sv_Me_countPages dd_PH_lookup_43 ⟨Nat.le_of_ble_eq_true rfl, Nat.le_of_ble_eq_true rfl⟩ (by decide) rfl rfl (Nat.le_of_ble_eq_true rfl) ho34 hk35 rfl rfl h (fun r M31 hX32 h => ?_)
          replace h := h hX32
          obtain ⟨x36, rfl, h⟩ := h
          show mm_Z l G Y_PH_lookup K M 0 0 46 [some (.inr (some a0)), some (.inl xa), some (.inl xb), some (.inl xc), some (.inr o4), none] [.inl x36] M31
          refine mr_istore dd_PH_lookup_46 (by decide) ?_
          show mm_Z l G Y_PH_lookup K M 0 0 48 [some (.inr (some a0)), some (.inl xa), some (.inl xb), some (.inl xc), some (.inr o4), some (.inl x36)] [] M31
          refine mr_aload_n dd_PH_lookup_48 rfl ?_
          refine mr_iload_n dd_PH_lookup_49 rfl ?_
          refine mr_iload dd_PH_lookup_50 rfl ?_
          refine mr_callV0 (Yc := Y_PH_canPay) (M := M31) (st := []) (vs := [.inl xa, .inl x36]) (ci := 0) fc_PH_65 iv_PH_canPay sv_PH_canPay dd_PH_lookup_52 ⟨Nat.le_of_ble_eq_true rfl, Nat.le_of_ble_eq_true rfl⟩ (by decide) rfl rfl (Nat.le_of_ble_eq_true rfl) rfl (mm_Xk hX32 (mm_Xk hX13 (mm_Xk hX10 (mm_Xk hX7 (mm_Xk hX2 hk3 (by decide)) (by decide)) (by decide)) (by decide)) (by decide)) rfl rfl h (fun r M37 hX38 h => ?_)
          replace h := h hX38
          obtain ⟨x39, rfl, h⟩ := h
          show mm_Z l G Y_PH_lookup K M 0 0 55 [some (.inr (some a0)), some (.inl xa), some (.inl xb), some (.inl xc), some (.inr o4), some (.inl x36)] [.inl x39] M37
          refine mr_if_ne 64 dd_PH_lookup_55 (by decide) (fun hc55 => ?_) (fun hc55 => ?_)
          · have h := h.1 hc55
            refine mr_aload_n dd_PH_lookup_64 rfl ?_
            refine mr_iload_n dd_PH_lookup_65 rfl ?_
            refine mr_iload dd_PH_lookup_66 rfl ?_
            refine mr_callV0 (Yc := Y_PH_canPay) (M := M37) (st := []) (vs := [.inl xa, .inl x36]) (ci := 0) fc_PH_65 iv_PH_canPay sv_PH_canPay dd_PH_lookup_68 ⟨Nat.le_of_ble_eq_true rfl, Nat.le_of_ble_eq_true rfl⟩ (by decide) rfl rfl (Nat.le_of_ble_eq_true rfl) rfl (mm_Xk hX38 (mm_Xk hX32 (mm_Xk hX13 (mm_Xk hX10 (mm_Xk hX7 (mm_Xk hX2 hk3 (by decide)) (by decide)) (by decide)) (by decide)) (by decide)) (by decide)) rfl rfl h (fun r M40 hX41 h => ?_)
            replace h := h hX41
            obtain ⟨x42, rfl, h⟩ := h
            show mm_Z l G Y_PH_lookup K M 0 0 71 [some (.inr (some a0)), some (.inl xa), some (.inl xb), some (.inl xc), some (.inr o4), some (.inl x36)] [.inl x42] M40
            refine mr_if_ne 77 dd_PH_lookup_71 (by decide) (fun hc71 => ?_) (fun hc71 => ?_)
            · have h := h.1 hc71
              refine mr_aload dd_PH_lookup_77 rfl ?_
              refine mr_iload_n dd_PH_lookup_79 rfl ?_
              refine mr_callV0 (Yc := Y_Pr_addCharge) (M := M40) (st := []) (vs := [.inl xb]) (ci := 5) fc_PH_140 iv_Pr_addCharge sv_Pr_addCharge dd_PH_lookup_80 ⟨Nat.le_of_ble_eq_true rfl, Nat.le_of_ble_eq_true rfl⟩ (by decide) rfl rfl (Nat.le_of_ble_eq_true rfl) hc9 (mm_Xk hX41 (mm_Xk hX38 (mm_Xk hX32 (mm_Xk hX13 hk14 (by decide)) (by decide)) (by decide)) (by decide)) rfl rfl h (fun r M43 hX44 h => ?_)
              replace h := h hX44
              obtain ⟨rfl, h⟩ := h
              show mm_Z l G Y_PH_lookup K M 0 0 83 [some (.inr (some a0)), some (.inl xa), some (.inl xb), some (.inl xc), some (.inr o4), some (.inl x36)] [] M43
              refine mr_aload dd_PH_lookup_83 rfl ?_
              refine mr_getr ff_PH_102 dd_PH_lookup_85 rs_5_4 hc9 (mm_Xk hX44 (mm_Xk hX41 (mm_Xk hX38 (mm_Xk hX32 (mm_Xk hX13 hk14 (by decide)) (by decide)) (by decide)) (by decide)) (by decide)) ?_
              refine mr_iload_n dd_PH_lookup_88 rfl ?_
              refine mr_aload_n dd_PH_lookup_89 rfl ?_
              refine mr_getr ff_PH_38 dd_PH_lookup_90 rs_0_4 rfl (mm_Xk hX44 (mm_Xk hX41 (mm_Xk hX38 (mm_Xk hX32 (mm_Xk hX13 (mm_Xk hX10 (mm_Xk hX7 (mm_Xk hX2 hk3 (by decide)) (by decide)) (by decide)) (by decide)) (by decide)) (by decide)) (by decide)) (by decide)) ?_
              refine mr_iload_n dd_PH_lookup_93 rfl ?_
              obtain ⟨a45, ho46, h⟩ := h
              obtain ⟨hk47, h⟩ := h
              obtain ⟨j48, hj49, hm50, hl51, h⟩ := h
              refine mr_aald (t := 3) dd_PH_lookup_94 ho46 hk47 (fun _ => rfl) (by decide) hj49 hm50 hl51 ?_
              obtain ⟨a52, ho53, h⟩ := h
              obtain ⟨hk54, h⟩ := h
              obtain ⟨j55, hj56, hm57, hl58, h⟩ := h
              obtain ⟨hv59, h⟩ := h
              refine mr_aast (t := 3) (E := "ProcessHeaps$HeapObject") dd_PH_lookup_95 ho53 hk54 (fun _ => rfl) (by decide) (by decide) hj56 hm57 hl58 (fun q e => ⟨7, hv59 q e, cs_7⟩) ?_
              refine mr_iconst 0 dd_PH_lookup_96 (by decide) ?_
              exact mr_ireturn dd_PH_lookup_97 rfl h
            · have h := h.2 hc71
              refine mr_bipush (-5) dd_PH_lookup_74 (by decide) ?_
              exact mr_ireturn dd_PH_lookup_76 rfl h
          · have h := h.2 hc55
            refine mr_aload_n dd_PH_lookup_58 rfl ?_
            refine mr_iload_n dd_PH_lookup_59 rfl ?_
            refine mr_callV0 (Yc := Y_PH_collectHeap) (M := M37) (st := []) (vs := [.inl xa]) (ci := 0) fc_PH_98 iv_PH_collectHeap sv_PH_collectHeap dd_PH_lookup_60 ⟨Nat.le_of_ble_eq_true rfl, Nat.le_of_ble_eq_true rfl⟩ (by decide) rfl rfl (Nat.le_of_ble_eq_true rfl) rfl (mm_Xk hX38 (mm_Xk hX32 (mm_Xk hX13 (mm_Xk hX10 (mm_Xk hX7 (mm_Xk hX2 hk3 (by decide)) (by decide)) (by decide)) (by decide)) (by decide)) (by decide)) rfl rfl h (fun r M60 hX61 h => ?_)
            replace h := h hX61
            obtain ⟨x62, rfl, h⟩ := h
            show mm_Z l G Y_PH_lookup K M 0 0 63 [some (.inr (some a0)), some (.inl xa), some (.inl xb), some (.inl xc), some (.inr o4), some (.inl x36)] [.inl x62] M60
            refine mr_pop dd_PH_lookup_63 ?_
            refine mr_aload_n dd_PH_lookup_64 rfl ?_
            refine mr_iload_n dd_PH_lookup_65 rfl ?_
            refine mr_iload dd_PH_lookup_66 rfl ?_
            refine mr_callV0 (Yc := Y_PH_canPay) (M := M60) (st := []) (vs := [.inl xa, .inl x36]) (ci := 0) fc_PH_65 iv_PH_canPay sv_PH_canPay dd_PH_lookup_68 ⟨Nat.le_of_ble_eq_true rfl, Nat.le_of_ble_eq_true rfl⟩ (by decide) rfl rfl (Nat.le_of_ble_eq_true rfl) rfl (mm_Xk hX61 (mm_Xk hX38 (mm_Xk hX32 (mm_Xk hX13 (mm_Xk hX10 (mm_Xk hX7 (mm_Xk hX2 hk3 (by decide)) (by decide)) (by decide)) (by decide)) (by decide)) (by decide)) (by decide)) rfl rfl h (fun r M63 hX64 h => ?_)
            replace h := h hX64
            obtain ⟨x65, rfl, h⟩ := h
            show mm_Z l G Y_PH_lookup K M 0 0 71 [some (.inr (some a0)), some (.inl xa), some (.inl xb), some (.inl xc), some (.inr o4), some (.inl x36)] [.inl x65] M63
            refine mr_if_ne 77 dd_PH_lookup_71 (by decide) (fun hc71 => ?_) (fun hc71 => ?_)
            · have h := h.1 hc71
              refine mr_aload dd_PH_lookup_77 rfl ?_
              refine mr_iload_n dd_PH_lookup_79 rfl ?_
              refine mr_callV0 (Yc := Y_Pr_addCharge) (M := M63) (st := []) (vs := [.inl xb]) (ci := 5) fc_PH_140 iv_Pr_addCharge sv_Pr_addCharge dd_PH_lookup_80 ⟨Nat.le_of_ble_eq_true rfl, Nat.le_of_ble_eq_true rfl⟩ (by decide) rfl rfl (Nat.le_of_ble_eq_true rfl) hc9 (mm_Xk hX64 (mm_Xk hX61 (mm_Xk hX38 (mm_Xk hX32 (mm_Xk hX13 hk14 (by decide)) (by decide)) (by decide)) (by decide)) (by decide)) rfl rfl h (fun r M66 hX67 h => ?_)
              replace h := h hX67
              obtain ⟨rfl, h⟩ := h
              show mm_Z l G Y_PH_lookup K M 0 0 83 [some (.inr (some a0)), some (.inl xa), some (.inl xb), some (.inl xc), some (.inr o4), some (.inl x36)] [] M66
              refine mr_aload dd_PH_lookup_83 rfl ?_
              refine mr_getr ff_PH_102 dd_PH_lookup_85 rs_5_4 hc9 (mm_Xk hX67 (mm_Xk hX64 (mm_Xk hX61 (mm_Xk hX38 (mm_Xk hX32 (mm_Xk hX13 hk14 (by decide)) (by decide)) (by decide)) (by decide)) (by decide)) (by decide)) ?_
              refine mr_iload_n dd_PH_lookup_88 rfl ?_
              refine mr_aload_n dd_PH_lookup_89 rfl ?_
              refine mr_getr ff_PH_38 dd_PH_lookup_90 rs_0_4 rfl (mm_Xk hX67 (mm_Xk hX64 (mm_Xk hX61 (mm_Xk hX38 (mm_Xk hX32 (mm_Xk hX13 (mm_Xk hX10 (mm_Xk hX7 (mm_Xk hX2 hk3 (by decide)) (by decide)) (by decide)) (by decide)) (by decide)) (by decide)) (by decide)) (by decide)) (by decide)) ?_
              refine mr_iload_n dd_PH_lookup_93 rfl ?_
              obtain ⟨a68, ho69, h⟩ := h
              obtain ⟨hk70, h⟩ := h
              obtain ⟨j71, hj72, hm73, hl74, h⟩ := h
              refine mr_aald (t := 3) dd_PH_lookup_94 ho69 hk70 (fun _ => rfl) (by decide) hj72 hm73 hl74 ?_
              obtain ⟨a75, ho76, h⟩ := h
              obtain ⟨hk77, h⟩ := h
              obtain ⟨j78, hj79, hm80, hl81, h⟩ := h
              obtain ⟨hv82, h⟩ := h
              refine mr_aast (t := 3) (E := "ProcessHeaps$HeapObject") dd_PH_lookup_95 ho76 hk77 (fun _ => rfl) (by decide) (by decide) hj79 hm80 hl81 (fun q e => ⟨7, hv82 q e, cs_7⟩) ?_
              refine mr_iconst 0 dd_PH_lookup_96 (by decide) ?_
              exact mr_ireturn dd_PH_lookup_97 rfl h
            · have h := h.2 hc71
              refine mr_bipush (-5) dd_PH_lookup_74 (by decide) ?_
              exact mr_ireturn dd_PH_lookup_76 rfl h
      · have h := h.2 hc24
        refine mr_iconst (-1) dd_PH_lookup_27 (by decide) ?_
        exact mr_ireturn dd_PH_lookup_28 rfl h
set_option maxHeartbeats 4000000 in
set_option maxRecDepth 100000 in
theorem sg_PH_collect {l : Launch} {G : mm_G} {K : Option mm_V → mm_M → Prop} {M : mm_M} {a0 : Nat} {xa : Int32}
    (h : (xa = 8 → mm_k M a0 = 1 ∧ mm_Ok l G yy_PH_collectHeap Y_PH_collectHeap [.inr (some a0), .inl xa] M (fun r M1 => mm_X M M1 → ∃ x4 : Int32, r = some (.inl x4) ∧ K (some (.inl x4)) M1)) ∧ (¬ xa = 8 → mm_k M a0 = 1 ∧ mm_Ok l G yy_PH_livingProcess Y_PH_livingProcess [.inr (some a0), .inl xa] M (fun r M5 => mm_X M M5 → ∃ o8 : Option Nat, r = some (.inr o8) ∧ (o8 = none → K (some (.inl (-1))) M5) ∧ (∀ a9 : Nat, o8 = some a9 → mm_Ok l G yy_PH_collectHeap Y_PH_collectHeap [.inr (some a0), .inl xa] M5 (fun r M10 => mm_X M5 M10 → ∃ x12 : Int32, r = some (.inl x12) ∧ K (some (.inl x12)) M10))))) :
    mm_Ok l G yy_PH_collect Y_PH_collect [.inr (some a0), .inl xa] M K := by
  refine mm_go (by decide) rfl (fun q => by cases q) (Nat.le_of_ble_eq_true rfl) ?_
  show mm_Z l G Y_PH_collect K M 0 0 0 [some (.inr (some a0)), some (.inl xa)] [] M
  refine mr_iload_n dd_PH_collect_0 rfl ?_
  refine mr_bipush 8 dd_PH_collect_1 (by decide) ?_
  refine mr_icmp_eq 16 dd_PH_collect_3 (by decide) (fun hc3 => ?_) (fun hc3 => ?_)
  · have h := h.1 hc3
    refine mr_aload_n dd_PH_collect_16 rfl ?_
    refine mr_iload_n dd_PH_collect_17 rfl ?_
    obtain ⟨hk3, h⟩ := h
    refine mr_callV0 (Yc := Y_PH_collectHeap) (M := M) (st := []) (vs := [.inl xa]) (ci := 0) fc_PH_98 iv_PH_collectHeap sv_PH_collectHeap dd_PH_collect_18 ⟨Nat.le_of_ble_eq_true rfl, Nat.le_of_ble_eq_true rfl⟩ (by decide) rfl rfl (Nat.le_of_ble_eq_true rfl) rfl hk3 rfl rfl h (fun r M1 hX2 h => ?_)
    replace h := h hX2
    obtain ⟨x4, rfl, h⟩ := h
    show mm_Z l G Y_PH_collect K M 0 0 21 [some (.inr (some a0)), some (.inl xa)] [.inl x4] M1
    exact mr_ireturn dd_PH_collect_21 rfl h
  · have h := h.2 hc3
    refine mr_aload_n dd_PH_collect_6 rfl ?_
    refine mr_iload_n dd_PH_collect_7 rfl ?_
    obtain ⟨hk7, h⟩ := h
    refine mr_callV0 (Yc := Y_PH_livingProcess) (M := M) (st := []) (vs := [.inl xa]) (ci := 0) fc_PH_61 iv_PH_livingProcess sv_PH_livingProcess dd_PH_collect_8 ⟨Nat.le_of_ble_eq_true rfl, Nat.le_of_ble_eq_true rfl⟩ (by decide) rfl rfl (Nat.le_of_ble_eq_true rfl) rfl hk7 rfl rfl h (fun r M5 hX6 h => ?_)
    replace h := h hX6
    obtain ⟨o8, rfl, h⟩ := h
    show mm_Z l G Y_PH_collect K M 0 0 11 [some (.inr (some a0)), some (.inl xa)] [.inr o8] M5
    refine mr_ifnonnull 16 dd_PH_collect_11 (by decide) (fun a9 hc11 => ?_) (fun hc11 => ?_)
    · have h := h.2 a9 hc11
      refine mr_aload_n dd_PH_collect_16 rfl ?_
      refine mr_iload_n dd_PH_collect_17 rfl ?_
      refine mr_callV0 (Yc := Y_PH_collectHeap) (M := M5) (st := []) (vs := [.inl xa]) (ci := 0) fc_PH_98 iv_PH_collectHeap sv_PH_collectHeap dd_PH_collect_18 ⟨Nat.le_of_ble_eq_true rfl, Nat.le_of_ble_eq_true rfl⟩ (by decide) rfl rfl (Nat.le_of_ble_eq_true rfl) rfl (mm_Xk hX6 hk7 (by decide)) rfl rfl h (fun r M10 hX11 h => ?_)
      replace h := h hX11
      obtain ⟨x12, rfl, h⟩ := h
      show mm_Z l G Y_PH_collect K M 0 0 21 [some (.inr (some a0)), some (.inl xa)] [.inl x12] M10
      exact mr_ireturn dd_PH_collect_21 rfl h
    · have h := h.1 hc11
      refine mr_iconst (-1) dd_PH_collect_14 (by decide) ?_
      exact mr_ireturn dd_PH_collect_15 rfl h
set_option maxHeartbeats 4000000 in
set_option maxRecDepth 100000 in
theorem sg_PH_state {l : Launch} {G : mm_G} {K : Option mm_V → mm_M → Prop} {M : mm_M} {a0 : Nat} {xa : Int32}
    (h : mm_k M a0 = 1 ∧ mm_Ok l G yy_PH_isMade Y_PH_isMade [.inr (some a0), .inl xa] M (fun r M1 => mm_X M M1 → ∃ x4 : Int32, r = some (.inl x4) ∧ (x4 = 0 → K (some (.inl 0)) M1) ∧ (¬ x4 = 0 → ∃ a5 : Nat, (mm_p M1 a0 3) = some a5 ∧ mm_k M1 a5 = 104 ∧ ∃ j8 : Nat, xa = nI j8 ∧ j8 < 2147483648 ∧ j8 < mm_l M1 a5 ∧ ∃ a12 : Nat, (mm_p M1 a5 j8) = some a12 ∧ mm_k M1 a12 = 6 ∧ K (some (.inl (mm_i M1 a12 5))) M1))) :
    mm_Ok l G yy_PH_state Y_PH_state [.inr (some a0), .inl xa] M K := by
  refine mm_go (by decide) rfl (fun q => by cases q) (Nat.le_of_ble_eq_true rfl) ?_
  show mm_Z l G Y_PH_state K M 0 0 0 [some (.inr (some a0)), some (.inl xa)] [] M
  refine mr_aload_n dd_PH_state_0 rfl ?_
  refine mr_iload_n dd_PH_state_1 rfl ?_
  obtain ⟨hk3, h⟩ := h
  refine mr_callV0 (Yc := Y_PH_isMade) (M := M) (st := []) (vs := [.inl xa]) (ci := 0) fc_PH_152 iv_PH_isMade sv_PH_isMade dd_PH_state_2 ⟨Nat.le_of_ble_eq_true rfl, Nat.le_of_ble_eq_true rfl⟩ (by decide) rfl rfl (Nat.le_of_ble_eq_true rfl) rfl hk3 rfl rfl h (fun r M1 hX2 h => ?_)
  replace h := h hX2
  obtain ⟨x4, rfl, h⟩ := h
  show mm_Z l G Y_PH_state K M 0 0 5 [some (.inr (some a0)), some (.inl xa)] [.inl x4] M1
  refine mr_if_eq 20 dd_PH_state_5 (by decide) (fun hc5 => ?_) (fun hc5 => ?_)
  · have h := h.1 hc5
    refine mr_iconst 0 dd_PH_state_20 (by decide) ?_
    exact mr_ireturn dd_PH_state_21 rfl h
  · have h := h.2 hc5
    refine mr_aload_n dd_PH_state_8 rfl ?_
    refine mr_getr ff_PH_32 dd_PH_state_9 rs_0_3 rfl (mm_Xk hX2 hk3 (by decide)) ?_
    refine mr_iload_n dd_PH_state_12 rfl ?_
    obtain ⟨a5, ho6, h⟩ := h
    obtain ⟨hk7, h⟩ := h
    obtain ⟨j8, hj9, hm10, hl11, h⟩ := h
    refine mr_aald (t := 4) dd_PH_state_13 ho6 hk7 (fun _ => rfl) (by decide) hj9 hm10 hl11 ?_
    obtain ⟨a12, ho13, h⟩ := h
    obtain ⟨hk14, h⟩ := h
    refine mr_geti ff_PH_69 dd_PH_state_14 rs_5_5 ho13 hk14 ?_
    refine mr_goto 21 dd_PH_state_17 (by decide) ?_
    exact mr_ireturn dd_PH_state_21 rfl h
set_option maxHeartbeats 4000000 in
set_option maxRecDepth 100000 in
theorem sg_PH_pages {l : Launch} {G : mm_G} {K : Option mm_V → mm_M → Prop} {M : mm_M} {a0 : Nat} {xa : Int32}
    (h : mm_k M a0 = 1 ∧ ∃ a4 : Nat, (mm_p M a0 0) = some a4 ∧ mm_k M a4 = 2 ∧ mm_Ok l G yy_Me_countPages Y_Me_countPages [.inr (some a4), .inl xa] M (fun r M2 => mm_X M M2 → ∃ x7 : Int32, r = some (.inl x7) ∧ K (some (.inl x7)) M2)) :
    mm_Ok l G yy_PH_pages Y_PH_pages [.inr (some a0), .inl xa] M K := by
  refine mm_go (by decide) rfl (fun q => by cases q) (Nat.le_of_ble_eq_true rfl) ?_
  show mm_Z l G Y_PH_pages K M 0 0 0 [some (.inr (some a0)), some (.inl xa)] [] M
  refine mr_aload_n dd_PH_pages_0 rfl ?_
  obtain ⟨hk1, h⟩ := h
  refine mr_getr ff_PH_10 dd_PH_pages_1 rs_0_0 rfl hk1 ?_
  refine mr_iload_n dd_PH_pages_4 rfl ?_
  obtain ⟨a4, ho5, h⟩ := h
  obtain ⟨hk6, h⟩ := h
  refine mr_callV0 (Yc := Y_Me_countPages) (M := M) (st := []) (vs := [.inl xa]) (ci := 1) fc_PH_149 iv_Me_countPages sv_Me_countPages dd_PH_pages_5 ⟨Nat.le_of_ble_eq_true rfl, Nat.le_of_ble_eq_true rfl⟩ (by decide) rfl rfl (Nat.le_of_ble_eq_true rfl) ho5 hk6 rfl rfl h (fun r M2 hX3 h => ?_)
  replace h := h hX3
  obtain ⟨x7, rfl, h⟩ := h
  show mm_Z l G Y_PH_pages K M 0 0 8 [some (.inr (some a0)), some (.inl xa)] [.inl x7] M2
  exact mr_ireturn dd_PH_pages_8 rfl h
set_option maxHeartbeats 4000000 in
set_option maxRecDepth 100000 in
theorem sg_PH_objects {l : Launch} {G : mm_G} {K : Option mm_V → mm_M → Prop} {M : mm_M} {a0 : Nat} {xa : Int32}
    (h : mm_k M a0 = 1 ∧ ∃ a4 : Nat, (mm_p M a0 0) = some a4 ∧ mm_k M a4 = 2 ∧ mm_Ok l G yy_Me_countObjects Y_Me_countObjects [.inr (some a4), .inl xa] M (fun r M2 => mm_X M M2 → ∃ x7 : Int32, r = some (.inl x7) ∧ K (some (.inl x7)) M2)) :
    mm_Ok l G yy_PH_objects Y_PH_objects [.inr (some a0), .inl xa] M K := by
  refine mm_go (by decide) rfl (fun q => by cases q) (Nat.le_of_ble_eq_true rfl) ?_
  show mm_Z l G Y_PH_objects K M 0 0 0 [some (.inr (some a0)), some (.inl xa)] [] M
  refine mr_aload_n dd_PH_objects_0 rfl ?_
  obtain ⟨hk1, h⟩ := h
  refine mr_getr ff_PH_10 dd_PH_objects_1 rs_0_0 rfl hk1 ?_
  refine mr_iload_n dd_PH_objects_4 rfl ?_
  obtain ⟨a4, ho5, h⟩ := h
  obtain ⟨hk6, h⟩ := h
  refine mr_callV0 (Yc := Y_Me_countObjects) (M := M) (st := []) (vs := [.inl xa]) (ci := 1) fc_PH_155 iv_Me_countObjects sv_Me_countObjects dd_PH_objects_5 ⟨Nat.le_of_ble_eq_true rfl, Nat.le_of_ble_eq_true rfl⟩ (by decide) rfl rfl (Nat.le_of_ble_eq_true rfl) ho5 hk6 rfl rfl h (fun r M2 hX3 h => ?_)
  replace h := h hX3
  obtain ⟨x7, rfl, h⟩ := h
  show mm_Z l G Y_PH_objects K M 0 0 8 [some (.inr (some a0)), some (.inl xa)] [.inl x7] M2
  exact mr_ireturn dd_PH_objects_8 rfl h
set_option maxHeartbeats 4000000 in
set_option maxRecDepth 100000 in
theorem sg_PH_items {l : Launch} {G : mm_G} {K : Option mm_V → mm_M → Prop} {M : mm_M} {a0 : Nat} {xa : Int32}
    (h : mm_Ok l G yy_PH_isHeap Y_PH_isHeap [.inl xa] M (fun r M1 => mm_X M M1 → ∃ x3 : Int32, r = some (.inl x3) ∧ (x3 = 0 → K (some (.inl 0)) M1) ∧ (¬ x3 = 0 → mm_k M1 a0 = 1 ∧ ∃ a7 : Nat, (mm_p M1 a0 0) = some a7 ∧ mm_k M1 a7 = 2 ∧ mm_Ok l G yy_Me_countItems Y_Me_countItems [.inr (some a7), .inl xa] M1 (fun r M5 => mm_X M1 M5 → ∃ x10 : Int32, r = some (.inl x10) ∧ K (some (.inl x10)) M5)))) :
    mm_Ok l G yy_PH_items Y_PH_items [.inr (some a0), .inl xa] M K := by
  refine mm_go (by decide) rfl (fun q => by cases q) (Nat.le_of_ble_eq_true rfl) ?_
  show mm_Z l G Y_PH_items K M 0 0 0 [some (.inr (some a0)), some (.inl xa)] [] M
  refine mr_iload_n dd_PH_items_0 rfl ?_
  refine mr_callS0 (Yc := Y_PH_isHeap) (M := M) (st := []) (vs := [.inl xa]) fc_PH_158 si_PH_isHeap dd_PH_items_1 ⟨Nat.le_of_ble_eq_true rfl, Nat.le_of_ble_eq_true rfl⟩ rfl (Nat.le_of_ble_eq_true rfl) rfl rfl h (fun r M1 hX2 h => ?_)
  replace h := h hX2
  obtain ⟨x3, rfl, h⟩ := h
  show mm_Z l G Y_PH_items K M 0 0 4 [some (.inr (some a0)), some (.inl xa)] [.inl x3] M1
  refine mr_if_eq 18 dd_PH_items_4 (by decide) (fun hc4 => ?_) (fun hc4 => ?_)
  · have h := h.1 hc4
    refine mr_iconst 0 dd_PH_items_18 (by decide) ?_
    exact mr_ireturn dd_PH_items_19 rfl h
  · have h := h.2 hc4
    refine mr_aload_n dd_PH_items_7 rfl ?_
    obtain ⟨hk4, h⟩ := h
    refine mr_getr ff_PH_10 dd_PH_items_8 rs_0_0 rfl hk4 ?_
    refine mr_iload_n dd_PH_items_11 rfl ?_
    obtain ⟨a7, ho8, h⟩ := h
    obtain ⟨hk9, h⟩ := h
    refine mr_callV0 (Yc := Y_Me_countItems) (M := M1) (st := []) (vs := [.inl xa]) (ci := 1) fc_PH_161 iv_Me_countItems sv_Me_countItems dd_PH_items_12 ⟨Nat.le_of_ble_eq_true rfl, Nat.le_of_ble_eq_true rfl⟩ (by decide) rfl rfl (Nat.le_of_ble_eq_true rfl) ho8 hk9 rfl rfl h (fun r M5 hX6 h => ?_)
    replace h := h hX6
    obtain ⟨x10, rfl, h⟩ := h
    show mm_Z l G Y_PH_items K M 0 0 15 [some (.inr (some a0)), some (.inl xa)] [.inl x10] M5
    refine mr_goto 19 dd_PH_items_15 (by decide) ?_
    exact mr_ireturn dd_PH_items_19 rfl h
set_option maxHeartbeats 4000000 in
set_option maxRecDepth 100000 in
theorem sg_PH_use {l : Launch} {G : mm_G} {K : Option mm_V → mm_M → Prop} {M : mm_M} {a0 : Nat} {xa : Int32}
    (h : mm_k M a0 = 1 ∧ ∃ a4 : Nat, (mm_p M a0 2) = some a4 ∧ mm_k M a4 = 5 ∧ mm_Ok l G yy_Li_reckon Y_Li_reckon [.inr (some a4), .inr (mm_p M a0 3), .inr (mm_p M a0 0)] M (fun r M2 => mm_X M M2 → r = none ∧ mm_Ok l G yy_PH_isMade Y_PH_isMade [.inr (some a0), .inl xa] M2 (fun r M7 => mm_X M2 M7 → ∃ x9 : Int32, r = some (.inl x9) ∧ (x9 = 0 → K (some (.inl (-1))) M7) ∧ (¬ x9 = 0 → ∃ a10 : Nat, (mm_p M7 a0 2) = some a10 ∧ mm_k M7 a10 = 5 ∧ ∃ a13 : Nat, (mm_p M7 a10 2) = some a13 ∧ mm_k M7 a13 = 101 ∧ ∃ j16 : Nat, xa = nI j16 ∧ j16 < 2147483648 ∧ j16 < mm_l M7 a13 ∧ ((mm_i M7 a13 j16) = 0 → K (some (.inl (-1))) M7) ∧ (¬ (mm_i M7 a13 j16) = 0 → ∃ a20 : Nat, (mm_p M7 a10 0) = some a20 ∧ mm_k M7 a20 = 100 ∧ ∃ j23 : Nat, xa = nI j23 ∧ j23 < 2147483648 ∧ j23 < mm_l M7 a20 ∧ K (some (.inl (mm_i M7 a20 j23))) M7))))) :
    mm_Ok l G yy_PH_use Y_PH_use [.inr (some a0), .inl xa] M K := by
  refine mm_go (by decide) rfl (fun q => by cases q) (Nat.le_of_ble_eq_true rfl) ?_
  show mm_Z l G Y_PH_use K M 0 0 0 [some (.inr (some a0)), some (.inl xa)] [] M
  refine mr_aload_n dd_PH_use_0 rfl ?_
  obtain ⟨hk1, h⟩ := h
  refine mr_getr ff_PH_26 dd_PH_use_1 rs_0_2 rfl hk1 ?_
  refine mr_aload_n dd_PH_use_4 rfl ?_
  refine mr_getr ff_PH_32 dd_PH_use_5 rs_0_3 rfl hk1 ?_
  refine mr_aload_n dd_PH_use_8 rfl ?_
  refine mr_getr ff_PH_10 dd_PH_use_9 rs_0_0 rfl hk1 ?_
  obtain ⟨a4, ho5, h⟩ := h
  obtain ⟨hk6, h⟩ := h
  refine mr_callV0 (Yc := Y_Li_reckon) (M := M) (st := []) (vs := [.inr (mm_p M a0 3), .inr (mm_p M a0 0)]) (ci := 4) fc_PH_164 iv_Li_reckon sv_Li_reckon dd_PH_use_12 ⟨Nat.le_of_ble_eq_true rfl, Nat.le_of_ble_eq_true rfl⟩ (by decide) rfl rfl (Nat.le_of_ble_eq_true rfl) ho5 hk6 rfl rfl h (fun r M2 hX3 h => ?_)
  replace h := h hX3
  obtain ⟨rfl, h⟩ := h
  show mm_Z l G Y_PH_use K M 0 0 15 [some (.inr (some a0)), some (.inl xa)] [] M2
  refine mr_aload_n dd_PH_use_15 rfl ?_
  refine mr_iload_n dd_PH_use_16 rfl ?_
  refine mr_callV0 (Yc := Y_PH_isMade) (M := M2) (st := []) (vs := [.inl xa]) (ci := 0) fc_PH_152 iv_PH_isMade sv_PH_isMade dd_PH_use_17 ⟨Nat.le_of_ble_eq_true rfl, Nat.le_of_ble_eq_true rfl⟩ (by decide) rfl rfl (Nat.le_of_ble_eq_true rfl) rfl (mm_Xk hX3 hk1 (by decide)) rfl rfl h (fun r M7 hX8 h => ?_)
  replace h := h hX8
  obtain ⟨x9, rfl, h⟩ := h
  show mm_Z l G Y_PH_use K M 0 0 20 [some (.inr (some a0)), some (.inl xa)] [.inl x9] M7
  refine mr_if_eq 47 dd_PH_use_20 (by decide) (fun hc20 => ?_) (fun hc20 => ?_)
  · have h := h.1 hc20
    refine mr_iconst (-1) dd_PH_use_47 (by decide) ?_
    exact mr_ireturn dd_PH_use_48 rfl h
  · have h := h.2 hc20
    refine mr_aload_n dd_PH_use_23 rfl ?_
    refine mr_getr ff_PH_26 dd_PH_use_24 rs_0_2 rfl (mm_Xk hX8 (mm_Xk hX3 hk1 (by decide)) (by decide)) ?_
    obtain ⟨a10, ho11, h⟩ := h
    obtain ⟨hk12, h⟩ := h
    refine mr_getr ff_PH_168 dd_PH_use_27 rs_4_2 ho11 hk12 ?_
    refine mr_iload_n dd_PH_use_30 rfl ?_
    obtain ⟨a13, ho14, h⟩ := h
    obtain ⟨hk15, h⟩ := h
    obtain ⟨j16, hj17, hm18, hl19, h⟩ := h
    refine mr_zald dd_PH_use_31 ho14 hk15 hj17 hm18 hl19 ?_
    refine mr_if_eq 47 dd_PH_use_32 (by decide) (fun hc32 => ?_) (fun hc32 => ?_)
    · have h := h.1 hc32
      refine mr_iconst (-1) dd_PH_use_47 (by decide) ?_
      exact mr_ireturn dd_PH_use_48 rfl h
    · have h := h.2 hc32
      refine mr_aload_n dd_PH_use_35 rfl ?_
      refine mr_getr ff_PH_26 dd_PH_use_36 rs_0_2 rfl (mm_Xk hX8 (mm_Xk hX3 hk1 (by decide)) (by decide)) ?_
      refine mr_getr ff_PH_172 dd_PH_use_39 rs_4_0 ho11 hk12 ?_
      refine mr_iload_n dd_PH_use_42 rfl ?_
      obtain ⟨a20, ho21, h⟩ := h
      obtain ⟨hk22, h⟩ := h
      obtain ⟨j23, hj24, hm25, hl26, h⟩ := h
      refine mr_iald dd_PH_use_43 ho21 hk22 hj24 hm25 hl26 ?_
      refine mr_goto 48 dd_PH_use_44 (by decide) ?_
      exact mr_ireturn dd_PH_use_48 rfl h
set_option maxHeartbeats 4000000 in
set_option maxRecDepth 100000 in
theorem sg_PH_room {l : Launch} {G : mm_G} {K : Option mm_V → mm_M → Prop} {M : mm_M} {a0 : Nat} {xa : Int32}
    (h : mm_k M a0 = 1 ∧ ∃ a4 : Nat, (mm_p M a0 2) = some a4 ∧ mm_k M a4 = 5 ∧ mm_Ok l G yy_Li_reckon Y_Li_reckon [.inr (some a4), .inr (mm_p M a0 3), .inr (mm_p M a0 0)] M (fun r M2 => mm_X M M2 → r = none ∧ mm_Ok l G yy_PH_isMade Y_PH_isMade [.inr (some a0), .inl xa] M2 (fun r M7 => mm_X M2 M7 → ∃ x9 : Int32, r = some (.inl x9) ∧ (x9 = 0 → K (some (.inl (-1))) M7) ∧ (¬ x9 = 0 → ∃ a10 : Nat, (mm_p M7 a0 2) = some a10 ∧ mm_k M7 a10 = 5 ∧ ∃ a13 : Nat, (mm_p M7 a10 2) = some a13 ∧ mm_k M7 a13 = 101 ∧ ∃ j16 : Nat, xa = nI j16 ∧ j16 < 2147483648 ∧ j16 < mm_l M7 a13 ∧ ((mm_i M7 a13 j16) = 0 → K (some (.inl (-1))) M7) ∧ (¬ (mm_i M7 a13 j16) = 0 → ∃ a20 : Nat, (mm_p M7 a10 1) = some a20 ∧ mm_k M7 a20 = 100 ∧ ∃ j23 : Nat, xa = nI j23 ∧ j23 < 2147483648 ∧ j23 < mm_l M7 a20 ∧ K (some (.inl (mm_i M7 a20 j23))) M7))))) :
    mm_Ok l G yy_PH_room Y_PH_room [.inr (some a0), .inl xa] M K := by
  refine mm_go (by decide) rfl (fun q => by cases q) (Nat.le_of_ble_eq_true rfl) ?_
  show mm_Z l G Y_PH_room K M 0 0 0 [some (.inr (some a0)), some (.inl xa)] [] M
  refine mr_aload_n dd_PH_room_0 rfl ?_
  obtain ⟨hk1, h⟩ := h
  refine mr_getr ff_PH_26 dd_PH_room_1 rs_0_2 rfl hk1 ?_
  refine mr_aload_n dd_PH_room_4 rfl ?_
  refine mr_getr ff_PH_32 dd_PH_room_5 rs_0_3 rfl hk1 ?_
  refine mr_aload_n dd_PH_room_8 rfl ?_
  refine mr_getr ff_PH_10 dd_PH_room_9 rs_0_0 rfl hk1 ?_
  obtain ⟨a4, ho5, h⟩ := h
  obtain ⟨hk6, h⟩ := h
  refine mr_callV0 (Yc := Y_Li_reckon) (M := M) (st := []) (vs := [.inr (mm_p M a0 3), .inr (mm_p M a0 0)]) (ci := 4) fc_PH_164 iv_Li_reckon sv_Li_reckon dd_PH_room_12 ⟨Nat.le_of_ble_eq_true rfl, Nat.le_of_ble_eq_true rfl⟩ (by decide) rfl rfl (Nat.le_of_ble_eq_true rfl) ho5 hk6 rfl rfl h (fun r M2 hX3 h => ?_)
  replace h := h hX3
  obtain ⟨rfl, h⟩ := h
  show mm_Z l G Y_PH_room K M 0 0 15 [some (.inr (some a0)), some (.inl xa)] [] M2
  refine mr_aload_n dd_PH_room_15 rfl ?_
  refine mr_iload_n dd_PH_room_16 rfl ?_
  refine mr_callV0 (Yc := Y_PH_isMade) (M := M2) (st := []) (vs := [.inl xa]) (ci := 0) fc_PH_152 iv_PH_isMade sv_PH_isMade dd_PH_room_17 ⟨Nat.le_of_ble_eq_true rfl, Nat.le_of_ble_eq_true rfl⟩ (by decide) rfl rfl (Nat.le_of_ble_eq_true rfl) rfl (mm_Xk hX3 hk1 (by decide)) rfl rfl h (fun r M7 hX8 h => ?_)
  replace h := h hX8
  obtain ⟨x9, rfl, h⟩ := h
  show mm_Z l G Y_PH_room K M 0 0 20 [some (.inr (some a0)), some (.inl xa)] [.inl x9] M7
  refine mr_if_eq 47 dd_PH_room_20 (by decide) (fun hc20 => ?_) (fun hc20 => ?_)
  · have h := h.1 hc20
    refine mr_iconst (-1) dd_PH_room_47 (by decide) ?_
    exact mr_ireturn dd_PH_room_48 rfl h
  · have h := h.2 hc20
    refine mr_aload_n dd_PH_room_23 rfl ?_
    refine mr_getr ff_PH_26 dd_PH_room_24 rs_0_2 rfl (mm_Xk hX8 (mm_Xk hX3 hk1 (by decide)) (by decide)) ?_
    obtain ⟨a10, ho11, h⟩ := h
    obtain ⟨hk12, h⟩ := h
    refine mr_getr ff_PH_168 dd_PH_room_27 rs_4_2 ho11 hk12 ?_
    refine mr_iload_n dd_PH_room_30 rfl ?_
    obtain ⟨a13, ho14, h⟩ := h
    obtain ⟨hk15, h⟩ := h
    obtain ⟨j16, hj17, hm18, hl19, h⟩ := h
    refine mr_zald dd_PH_room_31 ho14 hk15 hj17 hm18 hl19 ?_
    refine mr_if_eq 47 dd_PH_room_32 (by decide) (fun hc32 => ?_) (fun hc32 => ?_)
    · have h := h.1 hc32
      refine mr_iconst (-1) dd_PH_room_47 (by decide) ?_
      exact mr_ireturn dd_PH_room_48 rfl h
    · have h := h.2 hc32
      refine mr_aload_n dd_PH_room_35 rfl ?_
      refine mr_getr ff_PH_26 dd_PH_room_36 rs_0_2 rfl (mm_Xk hX8 (mm_Xk hX3 hk1 (by decide)) (by decide)) ?_
      refine mr_getr ff_PH_176 dd_PH_room_39 rs_4_1 ho11 hk12 ?_
      refine mr_iload_n dd_PH_room_42 rfl ?_
      obtain ⟨a20, ho21, h⟩ := h
      obtain ⟨hk22, h⟩ := h
      obtain ⟨j23, hj24, hm25, hl26, h⟩ := h
      refine mr_iald dd_PH_room_43 ho21 hk22 hj24 hm25 hl26 ?_
      refine mr_goto 48 dd_PH_room_44 (by decide) ?_
      exact mr_ireturn dd_PH_room_48 rfl h
set_option maxHeartbeats 4000000 in
set_option maxRecDepth 100000 in
theorem sg_PH_shares {l : Launch} {G : mm_G} {K : Option mm_V → mm_M → Prop} {M : mm_M} {a0 : Nat} {xa : Int32} {xb : Int32}
    (h : mm_k M a0 = 1 ∧ mm_Ok l G yy_PH_livingProcess Y_PH_livingProcess [.inr (some a0), .inl xa] M (fun r M1 => mm_X M M1 → ∃ o4 : Option Nat, r = some (.inr o4) ∧ (o4 = none → K (some (.inl 0)) M1) ∧ (∀ a5 : Nat, o4 = some a5 → mm_Ok l G yy_PH_isHeap Y_PH_isHeap [.inl xb] M1 (fun r M6 => mm_X M1 M6 → ∃ x8 : Int32, r = some (.inl x8) ∧ (x8 = 0 → K (some (.inl 0)) M6) ∧ (¬ x8 = 0 → mm_k M6 a5 = 6 ∧ mm_Ok l G yy_Pr_isCharged Y_Pr_isCharged [.inr (some a5), .inl xb] M6 (fun r M9 => mm_X M6 M9 → ∃ x12 : Int32, r = some (.inl x12) ∧ (x12 = 0 → K (some (.inl 0)) M9) ∧ (¬ x12 = 0 → K (some (.inl 1)) M9))))))) :
    mm_Ok l G yy_PH_shares Y_PH_shares [.inr (some a0), .inl xa, .inl xb] M K := by
  refine mm_go (by decide) rfl (fun q => by cases q) (Nat.le_of_ble_eq_true rfl) ?_
  show mm_Z l G Y_PH_shares K M 0 0 0 [some (.inr (some a0)), some (.inl xa), some (.inl xb), none] [] M
  refine mr_aload_n dd_PH_shares_0 rfl ?_
  refine mr_iload_n dd_PH_shares_1 rfl ?_
  obtain ⟨hk3, h⟩ := h
  refine mr_callV0 (Yc := Y_PH_livingProcess) (M := M) (st := []) (vs := [.inl xa]) (ci := 0) fc_PH_61 iv_PH_livingProcess sv_PH_livingProcess dd_PH_shares_2 ⟨Nat.le_of_ble_eq_true rfl, Nat.le_of_ble_eq_true rfl⟩ (by decide) rfl rfl (Nat.le_of_ble_eq_true rfl) rfl hk3 rfl rfl h (fun r M1 hX2 h => ?_)
  replace h := h hX2
  obtain ⟨o4, rfl, h⟩ := h
  show mm_Z l G Y_PH_shares K M 0 0 5 [some (.inr (some a0)), some (.inl xa), some (.inl xb), none] [.inr o4] M1
  refine mr_astore_n dd_PH_shares_5 (by decide) ?_
  show mm_Z l G Y_PH_shares K M 0 0 6 [some (.inr (some a0)), some (.inl xa), some (.inl xb), some (.inr o4)] [] M1
  refine mr_aload_n dd_PH_shares_6 rfl ?_
  refine mr_ifnull 29 dd_PH_shares_7 (by decide) (fun hc7 => ?_) (fun a5 hc7 => ?_)
  · have h := h.1 hc7
    refine mr_iconst 0 dd_PH_shares_29 (by decide) ?_
    exact mr_zreturn dd_PH_shares_30 rfl (Or.inl rfl) h
  · have h := h.2 a5 hc7
    refine mr_iload_n dd_PH_shares_10 rfl ?_
    refine mr_callS0 (Yc := Y_PH_isHeap) (M := M1) (st := []) (vs := [.inl xb]) fc_PH_158 si_PH_isHeap dd_PH_shares_11 ⟨Nat.le_of_ble_eq_true rfl, Nat.le_of_ble_eq_true rfl⟩ rfl (Nat.le_of_ble_eq_true rfl) rfl rfl h (fun r M6 hX7 h => ?_)
    replace h := h hX7
    obtain ⟨x8, rfl, h⟩ := h
    show mm_Z l G Y_PH_shares K M 0 0 14 [some (.inr (some a0)), some (.inl xa), some (.inl xb), some (.inr o4)] [.inl x8] M6
    refine mr_if_eq 29 dd_PH_shares_14 (by decide) (fun hc14 => ?_) (fun hc14 => ?_)
    · have h := h.1 hc14
      refine mr_iconst 0 dd_PH_shares_29 (by decide) ?_
      exact mr_zreturn dd_PH_shares_30 rfl (Or.inl rfl) h
    · have h := h.2 hc14
      refine mr_aload_n dd_PH_shares_17 rfl ?_
      refine mr_iload_n dd_PH_shares_18 rfl ?_
      obtain ⟨hk11, h⟩ := h
      refine mr_callV0 (Yc := Y_Pr_isCharged) (M := M6) (st := []) (vs := [.inl xb]) (ci := 5) fc_PH_146 iv_Pr_isCharged sv_Pr_isCharged dd_PH_shares_19 ⟨Nat.le_of_ble_eq_true rfl, Nat.le_of_ble_eq_true rfl⟩ (by decide) rfl rfl (Nat.le_of_ble_eq_true rfl) hc7 hk11 rfl rfl h (fun r M9 hX10 h => ?_)
      replace h := h hX10
      obtain ⟨x12, rfl, h⟩ := h
      show mm_Z l G Y_PH_shares K M 0 0 22 [some (.inr (some a0)), some (.inl xa), some (.inl xb), some (.inr o4)] [.inl x12] M9
      refine mr_if_eq 29 dd_PH_shares_22 (by decide) (fun hc22 => ?_) (fun hc22 => ?_)
      · have h := h.1 hc22
        refine mr_iconst 0 dd_PH_shares_29 (by decide) ?_
        exact mr_zreturn dd_PH_shares_30 rfl (Or.inl rfl) h
      · have h := h.2 hc22
        refine mr_iconst 1 dd_PH_shares_25 (by decide) ?_
        refine mr_goto 30 dd_PH_shares_26 (by decide) ?_
        exact mr_zreturn dd_PH_shares_30 rfl (Or.inr rfl) h
set_option maxHeartbeats 4000000 in
set_option maxRecDepth 100000 in
theorem sg_PH_where {l : Launch} {G : mm_G} {K : Option mm_V → mm_M → Prop} {M : mm_M} {a0 : Nat} {xa : Int32} {xb : Int32}
    (h : mm_k M a0 = 1 ∧ mm_Ok l G yy_PH_livingProcess Y_PH_livingProcess [.inr (some a0), .inl xa] M (fun r M1 => mm_X M M1 → ∃ o4 : Option Nat, r = some (.inr o4) ∧ (o4 = none → K (some (.inl (-1))) M1) ∧ (∀ a5 : Nat, o4 = some a5 → mm_Ok l G yy_PH_isRegister Y_PH_isRegister [.inl xb] M1 (fun r M6 => mm_X M1 M6 → ∃ x8 : Int32, r = some (.inl x8) ∧ (¬ x8 = 0 → mm_k M6 a5 = 6 ∧ ∃ a10 : Nat, (mm_p M6 a5 4) = some a10 ∧ mm_k M6 a10 = 103 ∧ ∃ j13 : Nat, xb = nI j13 ∧ j13 < 2147483648 ∧ j13 < mm_l M6 a10 ∧ ((mm_p M6 a10 j13) = none → K (some (.inl (-2))) M6) ∧ (∀ a17 : Nat, (mm_p M6 a10 j13) = some a17 → mm_k M6 a17 = 8 ∧ mm_Ok l G yy_Ob_heapNumber Y_Ob_heapNumber [.inr (some a17)] M6 (fun r M18 => mm_X M6 M18 → ∃ x21 : Int32, r = some (.inl x21) ∧ K (some (.inl x21)) M18))) ∧ (x8 = 0 → K (some (.inl (-1))) M6))))) :
    mm_Ok l G yy_PH_where Y_PH_where [.inr (some a0), .inl xa, .inl xb] M K := by
  refine mm_go (by decide) rfl (fun q => by cases q) (Nat.le_of_ble_eq_true rfl) ?_
  show mm_Z l G Y_PH_where K M 0 0 0 [some (.inr (some a0)), some (.inl xa), some (.inl xb), none, none] [] M
  refine mr_aload_n dd_PH_where_0 rfl ?_
  refine mr_iload_n dd_PH_where_1 rfl ?_
  obtain ⟨hk3, h⟩ := h
  refine mr_callV0 (Yc := Y_PH_livingProcess) (M := M) (st := []) (vs := [.inl xa]) (ci := 0) fc_PH_61 iv_PH_livingProcess sv_PH_livingProcess dd_PH_where_2 ⟨Nat.le_of_ble_eq_true rfl, Nat.le_of_ble_eq_true rfl⟩ (by decide) rfl rfl (Nat.le_of_ble_eq_true rfl) rfl hk3 rfl rfl h (fun r M1 hX2 h => ?_)
  replace h := h hX2
  obtain ⟨o4, rfl, h⟩ := h
  show mm_Z l G Y_PH_where K M 0 0 5 [some (.inr (some a0)), some (.inl xa), some (.inl xb), none, none] [.inr o4] M1
  refine mr_astore_n dd_PH_where_5 (by decide) ?_
  show mm_Z l G Y_PH_where K M 0 0 6 [some (.inr (some a0)), some (.inl xa), some (.inl xb), some (.inr o4), none] [] M1
  refine mr_aload_n dd_PH_where_6 rfl ?_
  refine mr_ifnull 17 dd_PH_where_7 (by decide) (fun hc7 => ?_) (fun a5 hc7 => ?_)
  · have h := h.1 hc7
    refine mr_iconst (-1) dd_PH_where_17 (by decide) ?_
    exact mr_ireturn dd_PH_where_18 rfl h
  · have h := h.2 a5 hc7
    refine mr_iload_n dd_PH_where_10 rfl ?_
    refine mr_callS0 (Yc := Y_PH_isRegister) (M := M1) (st := []) (vs := [.inl xb]) fc_PH_80 si_PH_isRegister dd_PH_where_11 ⟨Nat.le_of_ble_eq_true rfl, Nat.le_of_ble_eq_true rfl⟩ rfl (Nat.le_of_ble_eq_true rfl) rfl rfl h (fun r M6 hX7 h => ?_)
    replace h := h hX7
    obtain ⟨x8, rfl, h⟩ := h
    show mm_Z l G Y_PH_where K M 0 0 14 [some (.inr (some a0)), some (.inl xa), some (.inl xb), some (.inr o4), none] [.inl x8] M6
    refine mr_if_ne 19 dd_PH_where_14 (by decide) (fun hc14 => ?_) (fun hc14 => ?_)
    · have h := h.1 hc14
      refine mr_aload_n dd_PH_where_19 rfl ?_
      obtain ⟨hk9, h⟩ := h
      refine mr_getr ff_PH_102 dd_PH_where_20 rs_5_4 hc7 hk9 ?_
      refine mr_iload_n dd_PH_where_23 rfl ?_
      obtain ⟨a10, ho11, h⟩ := h
      obtain ⟨hk12, h⟩ := h
      obtain ⟨j13, hj14, hm15, hl16, h⟩ := h
      refine mr_aald (t := 3) dd_PH_where_24 ho11 hk12 (fun _ => rfl) (by decide) hj14 hm15 hl16 ?_
      refine mr_astore dd_PH_where_25 (by decide) ?_
      show mm_Z l G Y_PH_where K M 0 0 27 [some (.inr (some a0)), some (.inl xa), some (.inl xb), some (.inr o4), some (.inr (mm_p M6 a10 j13))] [] M6
      refine mr_aload dd_PH_where_27 rfl ?_
      refine mr_ifnonnull 37 dd_PH_where_29 (by decide) (fun a17 hc29 => ?_) (fun hc29 => ?_)
      · have h := h.2 a17 hc29
        refine mr_aload dd_PH_where_37 rfl ?_
        obtain ⟨hk20, h⟩ := h
        refine mr_callV0 (Yc := Y_Ob_heapNumber) (M := M6) (st := []) (vs := []) (ci := 7) fc_PH_133 iv_Ob_heapNumber sv_Ob_heapNumber dd_PH_where_39 ⟨Nat.le_of_ble_eq_true rfl, Nat.le_of_ble_eq_true rfl⟩ (by decide) rfl rfl (Nat.le_of_ble_eq_true rfl) hc29 hk20 rfl rfl h (fun r M18 hX19 h => ?_)
        replace h := h hX19
        obtain ⟨x21, rfl, h⟩ := h
        show mm_Z l G Y_PH_where K M 0 0 42 [some (.inr (some a0)), some (.inl xa), some (.inl xb), some (.inr o4), some (.inr (mm_p M6 a10 j13))] [.inl x21] M18
        exact mr_ireturn dd_PH_where_42 rfl h
      · have h := h.1 hc29
        refine mr_bipush (-2) dd_PH_where_32 (by decide) ?_
        refine mr_goto 42 dd_PH_where_34 (by decide) ?_
        exact mr_ireturn dd_PH_where_42 rfl h
    · have h := h.2 hc14
      refine mr_iconst (-1) dd_PH_where_17 (by decide) ?_
      exact mr_ireturn dd_PH_where_18 rfl h
set_option maxHeartbeats 4000000 in
set_option maxRecDepth 100000 in
theorem sg_PH_tag {l : Launch} {G : mm_G} {K : Option mm_V → mm_M → Prop} {M : mm_M} {a0 : Nat} {xa : Int32} {xb : Int32}
    (h : mm_k M a0 = 1 ∧ mm_Ok l G yy_PH_livingProcess Y_PH_livingProcess [.inr (some a0), .inl xa] M (fun r M1 => mm_X M M1 → ∃ o4 : Option Nat, r = some (.inr o4) ∧ (o4 = none → K (some (.inl 0)) M1) ∧ (∀ a5 : Nat, o4 = some a5 → mm_Ok l G yy_PH_isRegister Y_PH_isRegister [.inl xb] M1 (fun r M6 => mm_X M1 M6 → ∃ x8 : Int32, r = some (.inl x8) ∧ (¬ x8 = 0 → mm_k M6 a5 = 6 ∧ ∃ a10 : Nat, (mm_p M6 a5 4) = some a10 ∧ mm_k M6 a10 = 103 ∧ ∃ j13 : Nat, xb = nI j13 ∧ j13 < 2147483648 ∧ j13 < mm_l M6 a10 ∧ ((mm_p M6 a10 j13) = none → K (some (.inl 0)) M6) ∧ (∀ a17 : Nat, (mm_p M6 a10 j13) = some a17 → mm_k M6 a17 = 8 ∧ K (some (.inl (mm_i M6 a17 2))) M6)) ∧ (x8 = 0 → K (some (.inl 0)) M6))))) :
    mm_Ok l G yy_PH_tag Y_PH_tag [.inr (some a0), .inl xa, .inl xb] M K := by
  refine mm_go (by decide) rfl (fun q => by cases q) (Nat.le_of_ble_eq_true rfl) ?_
  show mm_Z l G Y_PH_tag K M 0 0 0 [some (.inr (some a0)), some (.inl xa), some (.inl xb), none, none] [] M
  refine mr_aload_n dd_PH_tag_0 rfl ?_
  refine mr_iload_n dd_PH_tag_1 rfl ?_
  obtain ⟨hk3, h⟩ := h
  refine mr_callV0 (Yc := Y_PH_livingProcess) (M := M) (st := []) (vs := [.inl xa]) (ci := 0) fc_PH_61 iv_PH_livingProcess sv_PH_livingProcess dd_PH_tag_2 ⟨Nat.le_of_ble_eq_true rfl, Nat.le_of_ble_eq_true rfl⟩ (by decide) rfl rfl (Nat.le_of_ble_eq_true rfl) rfl hk3 rfl rfl h (fun r M1 hX2 h => ?_)
  replace h := h hX2
  obtain ⟨o4, rfl, h⟩ := h
  show mm_Z l G Y_PH_tag K M 0 0 5 [some (.inr (some a0)), some (.inl xa), some (.inl xb), none, none] [.inr o4] M1
  refine mr_astore_n dd_PH_tag_5 (by decide) ?_
  show mm_Z l G Y_PH_tag K M 0 0 6 [some (.inr (some a0)), some (.inl xa), some (.inl xb), some (.inr o4), none] [] M1
  refine mr_aload_n dd_PH_tag_6 rfl ?_
  refine mr_ifnull 17 dd_PH_tag_7 (by decide) (fun hc7 => ?_) (fun a5 hc7 => ?_)
  · have h := h.1 hc7
    refine mr_iconst 0 dd_PH_tag_17 (by decide) ?_
    exact mr_ireturn dd_PH_tag_18 rfl h
  · have h := h.2 a5 hc7
    refine mr_iload_n dd_PH_tag_10 rfl ?_
    refine mr_callS0 (Yc := Y_PH_isRegister) (M := M1) (st := []) (vs := [.inl xb]) fc_PH_80 si_PH_isRegister dd_PH_tag_11 ⟨Nat.le_of_ble_eq_true rfl, Nat.le_of_ble_eq_true rfl⟩ rfl (Nat.le_of_ble_eq_true rfl) rfl rfl h (fun r M6 hX7 h => ?_)
    replace h := h hX7
    obtain ⟨x8, rfl, h⟩ := h
    show mm_Z l G Y_PH_tag K M 0 0 14 [some (.inr (some a0)), some (.inl xa), some (.inl xb), some (.inr o4), none] [.inl x8] M6
    refine mr_if_ne 19 dd_PH_tag_14 (by decide) (fun hc14 => ?_) (fun hc14 => ?_)
    · have h := h.1 hc14
      refine mr_aload_n dd_PH_tag_19 rfl ?_
      obtain ⟨hk9, h⟩ := h
      refine mr_getr ff_PH_102 dd_PH_tag_20 rs_5_4 hc7 hk9 ?_
      refine mr_iload_n dd_PH_tag_23 rfl ?_
      obtain ⟨a10, ho11, h⟩ := h
      obtain ⟨hk12, h⟩ := h
      obtain ⟨j13, hj14, hm15, hl16, h⟩ := h
      refine mr_aald (t := 3) dd_PH_tag_24 ho11 hk12 (fun _ => rfl) (by decide) hj14 hm15 hl16 ?_
      refine mr_astore dd_PH_tag_25 (by decide) ?_
      show mm_Z l G Y_PH_tag K M 0 0 27 [some (.inr (some a0)), some (.inl xa), some (.inl xb), some (.inr o4), some (.inr (mm_p M6 a10 j13))] [] M6
      refine mr_aload dd_PH_tag_27 rfl ?_
      refine mr_ifnonnull 36 dd_PH_tag_29 (by decide) (fun a17 hc29 => ?_) (fun hc29 => ?_)
      · have h := h.2 a17 hc29
        refine mr_aload dd_PH_tag_36 rfl ?_
        obtain ⟨hk18, h⟩ := h
        refine mr_geti ff_PH_179 dd_PH_tag_38 rs_7_2 hc29 hk18 ?_
        exact mr_ireturn dd_PH_tag_41 rfl h
      · have h := h.1 hc29
        refine mr_iconst 0 dd_PH_tag_32 (by decide) ?_
        refine mr_goto 41 dd_PH_tag_33 (by decide) ?_
        exact mr_ireturn dd_PH_tag_41 rfl h
    · have h := h.2 hc14
      refine mr_iconst 0 dd_PH_tag_17 (by decide) ?_
      exact mr_ireturn dd_PH_tag_18 rfl h
