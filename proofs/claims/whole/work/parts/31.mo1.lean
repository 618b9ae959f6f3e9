/-! LAID STRETCHES OF THE REFERENCE (by program, wip/tools/walkmo.py): all methods -/
set_option maxHeartbeats 4000000 in
set_option maxRecDepth 100000 in
theorem mg_spawn {l : Launch} {G : mm_G} {K : Option mm_V → mo_A → Prop} {a0 : Nat} {ad : Nat → Nat} {Mb : mm_M} {A : mo_A} {xa : Int32} {xb : Int32} {xc : Int32}
    (h : mo_Ok l G yy_Mo_lives Y_Mo_lives [.inr (some a0), .inl xa] a0 ad Mb A (fun r B => B = A ∧ ∃ x2 : Int32, r = some (.inl x2) ∧ (x2 = 0 → K (some (.inl (-1))) A) ∧ (¬ x2 = 0 → (xb < 1 → K (some (.inl (-1))) A) ∧ (¬ xb < 1 → (xb ≤ 24 → ((A 4 0) < 8 → (xc = 0 → ∃ j3 : Nat, (A 4 0) = nI j3 ∧ j3 < 8 ∧ ∃ j6 : Nat, ((mo_u A 0 j3 1) 4 0) = nI j6 ∧ j6 < 8 ∧ ∃ j9 : Nat, ((mo_u (mo_u A 0 j3 1) 1 j6 xa) 4 0) = nI j9 ∧ j9 < 8 ∧ ∃ j12 : Nat, ((mo_u (mo_u (mo_u A 0 j3 1) 1 j6 xa) 2 j9 xb) 4 0) = nI j12 ∧ j12 < 8 ∧ (xc = 0 ∨ xc = 1) ∧ K (some (.inl (((mo_u (mo_u (mo_u (mo_u (mo_u A 0 j3 1) 1 j6 xa) 2 j9 xb) 3 j12 xc) 4 0 (((mo_u (mo_u (mo_u (mo_u A 0 j3 1) 1 j6 xa) 2 j9 xb) 3 j12 xc) 4 0) + 1)) 4 0) - 1))) (mo_u (mo_u (mo_u (mo_u (mo_u A 0 j3 1) 1 j6 xa) 2 j9 xb) 3 j12 xc) 4 0 (((mo_u (mo_u (mo_u (mo_u A 0 j3 1) 1 j6 xa) 2 j9 xb) 3 j12 xc) 4 0) + 1))) ∧ (¬ xc = 0 → mo_Ok l G yy_Mo_rest Y_Mo_rest [.inr (some a0), .inl xa] a0 ad Mb A (fun r A16 => ∃ x17 : Int32, r = some (.inl x17) ∧ (xb ≤ x17 → ∃ j18 : Nat, (A16 4 0) = nI j18 ∧ j18 < 8 ∧ ∃ j21 : Nat, ((mo_u A16 0 j18 1) 4 0) = nI j21 ∧ j21 < 8 ∧ ∃ j24 : Nat, ((mo_u (mo_u A16 0 j18 1) 1 j21 xa) 4 0) = nI j24 ∧ j24 < 8 ∧ ∃ j27 : Nat, ((mo_u (mo_u (mo_u A16 0 j18 1) 1 j21 xa) 2 j24 xb) 4 0) = nI j27 ∧ j27 < 8 ∧ (xc = 0 ∨ xc = 1) ∧ K (some (.inl (((mo_u (mo_u (mo_u (mo_u (mo_u A16 0 j18 1) 1 j21 xa) 2 j24 xb) 3 j27 xc) 4 0 (((mo_u (mo_u (mo_u (mo_u A16 0 j18 1) 1 j21 xa) 2 j24 xb) 3 j27 xc) 4 0) + 1)) 4 0) - 1))) (mo_u (mo_u (mo_u (mo_u (mo_u A16 0 j18 1) 1 j21 xa) 2 j24 xb) 3 j27 xc) 4 0 (((mo_u (mo_u (mo_u (mo_u A16 0 j18 1) 1 j21 xa) 2 j24 xb) 3 j27 xc) 4 0) + 1))) ∧ (¬ xb ≤ x17 → K (some (.inl (-5))) A16)))) ∧ (¬ (A 4 0) < 8 → K (some (.inl (-4))) A)) ∧ (¬ xb ≤ 24 → K (some (.inl (-1))) A))))) :
    mo_Ok l G yy_Mo_spawn Y_Mo_spawn [.inr (some a0), .inl xa, .inl xb, .inl xc] a0 ad Mb A K := by
  intro M hS
  refine mm_go (by decide) rfl (fun q => by cases q) (Nat.le_of_ble_eq_true rfl) ?_
  show mm_Z l G Y_Mo_spawn (mo_K a0 ad Mb K) _ 0 0 0 [some (.inr (some a0)), some (.inl xa), some (.inl xb), some (.inl xc)] [] M
  refine mr_aload_n dd_Mo_spawn_0 rfl ?_
  refine mr_iload_n dd_Mo_spawn_1 rfl ?_
  refine mr_callV0 (Yc := Y_Mo_lives) (M := M) (st := []) (vs := [.inl xa]) (ci := 8) fc_Mo_89 iv_Mo_lives sv_Mo_lives dd_Mo_spawn_2 ⟨Nat.le_of_ble_eq_true rfl, Nat.le_of_ble_eq_true rfl⟩ (by decide) rfl rfl (Nat.le_of_ble_eq_true rfl) rfl hS.1 rfl rfl (h M hS) (fun r M _ h => ?_)
  obtain ⟨B, hS, hB, h⟩ := h
  rw [hB] at hS
  obtain ⟨x2, rfl, h⟩ := h
  show mm_Z l G Y_Mo_spawn (mo_K a0 ad Mb K) _ 0 0 5 [some (.inr (some a0)), some (.inl xa), some (.inl xb), some (.inl xc)] [.inl x2] M
  refine mr_if_eq 19 dd_Mo_spawn_5 (by decide) (fun hc5 => ?_) (fun hc5 => ?_)
  · have h := h.1 hc5
    refine mr_iconst (-1) dd_Mo_spawn_19 (by decide) ?_
    exact mr_ireturn dd_Mo_spawn_20 rfl ⟨_, hS, h⟩
  · have h := h.2 hc5
    refine mr_iload_n dd_Mo_spawn_8 rfl ?_
    refine mr_iconst 1 dd_Mo_spawn_9 (by decide) ?_
    refine mr_icmp_lt 19 dd_Mo_spawn_10 (by decide) (fun hc10 => ?_) (fun hc10 => ?_)
    · have h := h.1 hc10
      refine mr_iconst (-1) dd_Mo_spawn_19 (by decide) ?_
      exact mr_ireturn dd_Mo_spawn_20 rfl ⟨_, hS, h⟩
    · have h := h.2 hc10
      refine mr_iload_n dd_Mo_spawn_13 rfl ?_
      refine mr_bipush 24 dd_Mo_spawn_14 (by decide) ?_
      refine mr_icmp_le 21 dd_Mo_spawn_16 (by decide) (fun hc16 => ?_) (fun hc16 => ?_)
      · have h := h.1 hc16
        refine mr_aload_n dd_Mo_spawn_21 rfl ?_
        refine mr_geti ff_Mo_77 dd_Mo_spawn_22 rs_8_4 rfl hS.1 ?_
        rw [mo_s hS 4 (by decide) rfl]
        refine mr_bipush 8 dd_Mo_spawn_25 (by decide) ?_
        refine mr_icmp_lt 33 dd_Mo_spawn_27 (by decide) (fun hc27 => ?_) (fun hc27 => ?_)
        · have h := h.1 hc27
          refine mr_iload_n dd_Mo_spawn_33 rfl ?_
          refine mr_if_eq 49 dd_Mo_spawn_34 (by decide) (fun hc34 => ?_) (fun hc34 => ?_)
          · have h := h.1 hc34
            refine mr_aload_n dd_Mo_spawn_49 rfl ?_
            refine mr_getr ff_Mo_7 dd_Mo_spawn_50 rs_8_0 rfl hS.1 ?_
            rw [mo_p hS 0 (by decide) rfl]
            refine mr_aload_n dd_Mo_spawn_53 rfl ?_
            refine mr_geti ff_Mo_77 dd_Mo_spawn_54 rs_8_4 rfl hS.1 ?_
            rw [mo_s hS 4 (by decide) rfl]
            refine mr_iconst 1 dd_Mo_spawn_57 (by decide) ?_
            obtain ⟨j3, hj4, hb5, h⟩ := h
            refine mr_iast dd_Mo_spawn_58 rfl (mo_k hS 0 (by decide) rfl rfl) hj4 (Nat.lt_trans hb5 (by decide)) (mo_l hS 0 (by decide) rfl rfl hb5) ?_
            have hS := mo_S.up hS 0 (by decide) rfl j3 1
            generalize mm_si M (ad 0) j3 1 = M at hS ⊢
            refine mr_aload_n dd_Mo_spawn_59 rfl ?_
            refine mr_getr ff_Mo_13 dd_Mo_spawn_60 rs_8_1 rfl hS.1 ?_
            rw [mo_p hS 1 (by decide) rfl]
            refine mr_aload_n dd_Mo_spawn_63 rfl ?_
            refine mr_geti ff_Mo_77 dd_Mo_spawn_64 rs_8_4 rfl hS.1 ?_
            rw [mo_s hS 4 (by decide) rfl]
            refine mr_iload_n dd_Mo_spawn_67 rfl ?_
            obtain ⟨j6, hj7, hb8, h⟩ := h
            refine mr_iast dd_Mo_spawn_68 rfl (mo_k hS 1 (by decide) rfl rfl) hj7 (Nat.lt_trans hb8 (by decide)) (mo_l hS 1 (by decide) rfl rfl hb8) ?_
            have hS := mo_S.up hS 1 (by decide) rfl j6 xa
            generalize mm_si M (ad 1) j6 xa = M at hS ⊢
            refine mr_aload_n dd_Mo_spawn_69 rfl ?_
            refine mr_getr ff_Mo_16 dd_Mo_spawn_70 rs_8_2 rfl hS.1 ?_
            rw [mo_p hS 2 (by decide) rfl]
            refine mr_aload_n dd_Mo_spawn_73 rfl ?_
            refine mr_geti ff_Mo_77 dd_Mo_spawn_74 rs_8_4 rfl hS.1 ?_
            rw [mo_s hS 4 (by decide) rfl]
            refine mr_iload_n dd_Mo_spawn_77 rfl ?_
            obtain ⟨j9, hj10, hb11, h⟩ := h
            refine mr_iast dd_Mo_spawn_78 rfl (mo_k hS 2 (by decide) rfl rfl) hj10 (Nat.lt_trans hb11 (by decide)) (mo_l hS 2 (by decide) rfl rfl hb11) ?_
            have hS := mo_S.up hS 2 (by decide) rfl j9 xb
            generalize mm_si M (ad 2) j9 xb = M at hS ⊢
            refine mr_aload_n dd_Mo_spawn_79 rfl ?_
            refine mr_getr ff_Mo_19 dd_Mo_spawn_80 rs_8_3 rfl hS.1 ?_
            rw [mo_p hS 3 (by decide) rfl]
            refine mr_aload_n dd_Mo_spawn_83 rfl ?_
            refine mr_geti ff_Mo_77 dd_Mo_spawn_84 rs_8_4 rfl hS.1 ?_
            rw [mo_s hS 4 (by decide) rfl]
            refine mr_iload_n dd_Mo_spawn_87 rfl ?_
            obtain ⟨j12, hj13, hb14, h⟩ := h
            obtain ⟨hz15, h⟩ := h
            refine mr_zast dd_Mo_spawn_88 rfl (mo_k hS 3 (by decide) rfl rfl) hj13 (Nat.lt_trans hb14 (by decide)) (mo_l hS 3 (by decide) rfl rfl hb14) hz15 ?_
            have hS := mo_S.up hS 3 (by decide) rfl j12 xc
            generalize mm_si M (ad 3) j12 xc = M at hS ⊢
            refine mr_aload_n dd_Mo_spawn_89 rfl ?_
            refine mr_dup dd_Mo_spawn_90 ?_
            refine mr_geti ff_Mo_77 dd_Mo_spawn_91 rs_8_4 rfl hS.1 ?_
            rw [mo_s hS 4 (by decide) rfl]
            refine mr_iconst 1 dd_Mo_spawn_94 (by decide) ?_
            refine mr_iadd dd_Mo_spawn_95 ?_
            refine mr_puti ff_Mo_77 fp_8 (Or.inl rfl) dd_Mo_spawn_96 (Or.inl (by decide +kernel)) rs_8_4 rfl hS.1 ?_
            have hS := mo_S.us hS 4 (by decide) rfl (((mo_u (mo_u (mo_u (mo_u A 0 j3 1) 1 j6 xa) 2 j9 xb) 3 j12 xc) 4 0) + 1)
            generalize mm_si M a0 4 (((mo_u (mo_u (mo_u (mo_u A 0 j3 1) 1 j6 xa) 2 j9 xb) 3 j12 xc) 4 0) + 1) = M at hS ⊢
            refine mr_aload_n dd_Mo_spawn_99 rfl ?_
            refine mr_geti ff_Mo_77 dd_Mo_spawn_100 rs_8_4 rfl hS.1 ?_
            rw [mo_s hS 4 (by decide) rfl]
            refine mr_iconst 1 dd_Mo_spawn_103 (by decide) ?_
            refine mr_isub dd_Mo_spawn_104 ?_
            exact mr_ireturn dd_Mo_spawn_105 rfl ⟨_, hS, h⟩
          · have h := h.2 hc34
            refine mr_aload_n dd_Mo_spawn_37 rfl ?_
            refine mr_iload_n dd_Mo_spawn_38 rfl ?_
            refine mr_callV0 (Yc := Y_Mo_rest) (M := M) (st := []) (vs := [.inl xa]) (ci := 8) fc_Mo_124 iv_Mo_rest sv_Mo_rest dd_Mo_spawn_39 ⟨Nat.le_of_ble_eq_true rfl, Nat.le_of_ble_eq_true rfl⟩ (by decide) rfl rfl (Nat.le_of_ble_eq_true rfl) rfl hS.1 rfl rfl (h M hS) (fun r M _ h => ?_)
            obtain ⟨A16, hS, h⟩ := h
            obtain ⟨x17, rfl, h⟩ := h
            show mm_Z l G Y_Mo_spawn (mo_K a0 ad Mb K) _ 0 0 42 [some (.inr (some a0)), some (.inl xa), some (.inl xb), some (.inl xc)] [.inl x17] M
            refine mr_iload_n dd_Mo_spawn_42 rfl ?_
            refine mr_icmp_ge 49 dd_Mo_spawn_43 (by decide) (fun hc43 => ?_) (fun hc43 => ?_)
            · have h := h.1 hc43
              refine mr_aload_n dd_Mo_spawn_49 rfl ?_
              refine mr_getr ff_Mo_7 dd_Mo_spawn_50 rs_8_0 rfl hS.1 ?_
              rw [mo_p hS 0 (by decide) rfl]
              refine mr_aload_n dd_Mo_spawn_53 rfl ?_
              refine mr_geti ff_Mo_77 dd_Mo_spawn_54 rs_8_4 rfl hS.1 ?_
              rw [mo_s hS 4 (by decide) rfl]
              refine mr_iconst 1 dd_Mo_spawn_57 (by decide) ?_
              obtain ⟨j18, hj19, hb20, h⟩ := h
              refine mr_iast dd_Mo_spawn_58 rfl (mo_k hS 0 (by decide) rfl rfl) hj19 (Nat.lt_trans hb20 (by decide)) (mo_l hS 0 (by decide) rfl rfl hb20) ?_
              have hS := mo_S.up hS 0 (by decide) rfl j18 1
              generalize mm_si M (ad 0) j18 1 = M at hS ⊢
              refine mr_aload_n dd_Mo_spawn_59 rfl ?_
              refine mr_getr ff_Mo_13 dd_Mo_spawn_60 rs_8_1 rfl hS.1 ?_
              rw [mo_p hS 1 (by decide) rfl]
              refine mr_aload_n dd_Mo_spawn_63 rfl ?_
              refine mr_geti ff_Mo_77 dd_Mo_spawn_64 rs_8_4 rfl hS.1 ?_
              rw [mo_s hS 4 (by decide) rfl]
              refine mr_iload_n dd_Mo_spawn_67 rfl ?_
              obtain ⟨j21, hj22, hb23, h⟩ := h
              refine mr_iast dd_Mo_spawn_68 rfl (mo_k hS 1 (by decide) rfl rfl) hj22 (Nat.lt_trans hb23 (by decide)) (mo_l hS 1 (by decide) rfl rfl hb23) ?_
              have hS := mo_S.up hS 1 (by decide) rfl j21 xa
              generalize mm_si M (ad 1) j21 xa = M at hS ⊢
              refine mr_aload_n dd_Mo_spawn_69 rfl ?_
              refine mr_getr ff_Mo_16 dd_Mo_spawn_70 rs_8_2 rfl hS.1 ?_
              rw [mo_p hS 2 (by decide) rfl]
              refine mr_aload_n dd_Mo_spawn_73 rfl ?_
              refine mr_geti ff_Mo_77 dd_Mo_spawn_74 rs_8_4 rfl hS.1 ?_
              rw [mo_s hS 4 (by decide) rfl]
              refine mr_iload_n dd_Mo_spawn_77 rfl ?_
              obtain ⟨j24, hj25, hb26, h⟩ := h
              refine mr_iast dd_Mo_spawn_78 rfl (mo_k hS 2 (by decide) rfl rfl) hj25 (Nat.lt_trans hb26 (by decide)) (mo_l hS 2 (by decide) rfl rfl hb26) ?_
              have hS := mo_S.up hS 2 (by decide) rfl j24 xb
              generalize mm_si M (ad 2) j24 xb = M at hS ⊢
              refine mr_aload_n dd_Mo_spawn_79 rfl ?_
              refine mr_getr ff_Mo_19 dd_Mo_spawn_80 rs_8_3 rfl hS.1 ?_
              rw [mo_p hS 3 (by decide) rfl]
              refine mr_aload_n dd_Mo_spawn_83 rfl ?_
              refine mr_geti ff_Mo_77 dd_Mo_spawn_84 rs_8_4 rfl hS.1 ?_
              rw [mo_s hS 4 (by decide) rfl]
              refine mr_iload_n dd_Mo_spawn_87 rfl ?_
              obtain ⟨j27, hj28, hb29, h⟩ := h
              obtain ⟨hz30, h⟩ := h
              refine mr_zast dd_Mo_spawn_88 rfl (mo_k hS 3 (by decide) rfl rfl) hj28 (Nat.lt_trans hb29 (by decide)) (mo_l hS 3 (by decide) rfl rfl hb29) hz30 ?_
              have hS := mo_S.up hS 3 (by decide) rfl j27 xc
              generalize mm_si M (ad 3) j27 xc = M at hS ⊢
              refine mr_aload_n dd_Mo_spawn_89 rfl ?_
              refine mr_dup dd_Mo_spawn_90 ?_
              refine mr_geti ff_Mo_77 dd_Mo_spawn_91 rs_8_4 rfl hS.1 ?_
              rw [mo_s hS 4 (by decide) rfl]
              refine mr_iconst 1 dd_Mo_spawn_94 (by decide) ?_
              refine mr_iadd dd_Mo_spawn_95 ?_
              refine mr_puti ff_Mo_77 fp_8 (Or.inl rfl) dd_Mo_spawn_96 (Or.inl (by decide +kernel)) rs_8_4 rfl hS.1 ?_
              have hS := mo_S.us hS 4 (by decide) rfl (((mo_u (mo_u (mo_u (mo_u A16 0 j18 1) 1 j21 xa) 2 j24 xb) 3 j27 xc) 4 0) + 1)
              generalize mm_si M a0 4 (((mo_u (mo_u (mo_u (mo_u A16 0 j18 1) 1 j21 xa) 2 j24 xb) 3 j27 xc) 4 0) + 1) = M at hS ⊢
              refine mr_aload_n dd_Mo_spawn_99 rfl ?_
              refine mr_geti ff_Mo_77 dd_Mo_spawn_100 rs_8_4 rfl hS.1 ?_
              rw [mo_s hS 4 (by decide) rfl]
              refine mr_iconst 1 dd_Mo_spawn_103 (by decide) ?_
              refine mr_isub dd_Mo_spawn_104 ?_
              exact mr_ireturn dd_Mo_spawn_105 rfl ⟨_, hS, h⟩
            · have h := h.2 hc43
              refine mr_bipush (-5) dd_Mo_spawn_46 (by decide) ?_
              exact mr_ireturn dd_Mo_spawn_48 rfl ⟨_, hS, h⟩
        · have h := h.2 hc27
          refine mr_bipush (-4) dd_Mo_spawn_30 (by decide) ?_
          exact mr_ireturn dd_Mo_spawn_32 rfl ⟨_, hS, h⟩
      · have h := h.2 hc16
        refine mr_iconst (-1) dd_Mo_spawn_19 (by decide) ?_
        exact mr_ireturn dd_Mo_spawn_20 rfl ⟨_, hS, h⟩
set_option maxHeartbeats 4000000 in
set_option maxRecDepth 100000 in
theorem mg_lives {l : Launch} {G : mm_G} {K : Option mm_V → mo_A → Prop} {a0 : Nat} {ad : Nat → Nat} {Mb : mm_M} {A : mo_A} {xa : Int32}
    (h : (xa < 0 → K (some (.inl 0)) A) ∧ (¬ xa < 0 → (8 ≤ xa → K (some (.inl 0)) A) ∧ (¬ 8 ≤ xa → ∃ j1 : Nat, xa = nI j1 ∧ j1 < 8 ∧ ((A 0 j1) ≤ 0 → K (some (.inl 0)) A) ∧ (¬ (A 0 j1) ≤ 0 → (4 ≤ (A 0 j1) → K (some (.inl 0)) A) ∧ (¬ 4 ≤ (A 0 j1) → K (some (.inl 1)) A))))) :
    mo_Ok l G yy_Mo_lives Y_Mo_lives [.inr (some a0), .inl xa] a0 ad Mb A K := by
  intro M hS
  refine mm_go (by decide) rfl (fun q => by cases q) (Nat.le_of_ble_eq_true rfl) ?_
  show mm_Z l G Y_Mo_lives (mo_K a0 ad Mb K) _ 0 0 0 [some (.inr (some a0)), some (.inl xa)] [] M
  refine mr_iload_n dd_Mo_lives_0 rfl ?_
  refine mr_if_lt 33 dd_Mo_lives_1 (by decide) (fun hc1 => ?_) (fun hc1 => ?_)
  · have h := h.1 hc1
    refine mr_iconst 0 dd_Mo_lives_33 (by decide) ?_
    exact mr_zreturn dd_Mo_lives_34 rfl (Or.inl rfl) ⟨_, hS, h⟩
  · have h := h.2 hc1
    refine mr_iload_n dd_Mo_lives_4 rfl ?_
    refine mr_bipush 8 dd_Mo_lives_5 (by decide) ?_
    refine mr_icmp_ge 33 dd_Mo_lives_7 (by decide) (fun hc7 => ?_) (fun hc7 => ?_)
    · have h := h.1 hc7
      refine mr_iconst 0 dd_Mo_lives_33 (by decide) ?_
      exact mr_zreturn dd_Mo_lives_34 rfl (Or.inl rfl) ⟨_, hS, h⟩
    · have h := h.2 hc7
      refine mr_aload_n dd_Mo_lives_10 rfl ?_
      refine mr_getr ff_Mo_7 dd_Mo_lives_11 rs_8_0 rfl hS.1 ?_
      rw [mo_p hS 0 (by decide) rfl]
      refine mr_iload_n dd_Mo_lives_14 rfl ?_
      obtain ⟨j1, hj2, hb3, h⟩ := h
      refine mr_iald dd_Mo_lives_15 rfl (mo_k hS 0 (by decide) rfl rfl) hj2 (Nat.lt_trans hb3 (by decide)) (mo_l hS 0 (by decide) rfl rfl hb3) ?_
      rw [mo_i hS 0 (by decide) rfl rfl hb3]
      refine mr_if_le 33 dd_Mo_lives_16 (by decide) (fun hc16 => ?_) (fun hc16 => ?_)
      · have h := h.1 hc16
        refine mr_iconst 0 dd_Mo_lives_33 (by decide) ?_
        exact mr_zreturn dd_Mo_lives_34 rfl (Or.inl rfl) ⟨_, hS, h⟩
      · have h := h.2 hc16
        refine mr_aload_n dd_Mo_lives_19 rfl ?_
        refine mr_getr ff_Mo_7 dd_Mo_lives_20 rs_8_0 rfl hS.1 ?_
        rw [mo_p hS 0 (by decide) rfl]
        refine mr_iload_n dd_Mo_lives_23 rfl ?_
        refine mr_iald dd_Mo_lives_24 rfl (mo_k hS 0 (by decide) rfl rfl) hj2 (Nat.lt_trans hb3 (by decide)) (mo_l hS 0 (by decide) rfl rfl hb3) ?_
        rw [mo_i hS 0 (by decide) rfl rfl hb3]
        refine mr_iconst 4 dd_Mo_lives_25 (by decide) ?_
        refine mr_icmp_ge 33 dd_Mo_lives_26 (by decide) (fun hc26 => ?_) (fun hc26 => ?_)
        · have h := h.1 hc26
          refine mr_iconst 0 dd_Mo_lives_33 (by decide) ?_
          exact mr_zreturn dd_Mo_lives_34 rfl (Or.inl rfl) ⟨_, hS, h⟩
        · have h := h.2 hc26
          refine mr_iconst 1 dd_Mo_lives_29 (by decide) ?_
          refine mr_goto 34 dd_Mo_lives_30 (by decide) ?_
          exact mr_zreturn dd_Mo_lives_34 rfl (Or.inr rfl) ⟨_, hS, h⟩
set_option maxHeartbeats 4000000 in
set_option maxRecDepth 100000 in
theorem mg_rest {l : Launch} {G : mm_G} {K : Option mm_V → mo_A → Prop} {a0 : Nat} {ad : Nat → Nat} {Mb : mm_M} {A : mo_A} {xa : Int32}
    (h : mo_Ok l G yy_Mo_work Y_Mo_work [.inr (some a0)] a0 ad Mb A (fun r A1 => r = none ∧ ∃ j2 : Nat, xa = nI j2 ∧ j2 < 8 ∧ mo_Z l G Y_Mo_rest K a0 ad Mb 23 [some (.inr (some a0)), some (.inl xa), some (.inl ((A1 2 j2) - (A1 22 j2))), some (.inl xa), some (.inl 0)] [] A1)) :
    mo_Ok l G yy_Mo_rest Y_Mo_rest [.inr (some a0), .inl xa] a0 ad Mb A K := by
  intro M hS
  refine mm_go (by decide) rfl (fun q => by cases q) (Nat.le_of_ble_eq_true rfl) ?_
  show mm_Z l G Y_Mo_rest (mo_K a0 ad Mb K) _ 0 0 0 [some (.inr (some a0)), some (.inl xa), none, none, none] [] M
  refine mr_aload_n dd_Mo_rest_0 rfl ?_
  refine mr_callV0 (Yc := Y_Mo_work) (M := M) (st := []) (vs := []) (ci := 8) fc_Mo_92 iv_Mo_work sv_Mo_work dd_Mo_rest_1 ⟨Nat.le_of_ble_eq_true rfl, Nat.le_of_ble_eq_true rfl⟩ (by decide) rfl rfl (Nat.le_of_ble_eq_true rfl) rfl hS.1 rfl rfl (h M hS) (fun r M _ h => ?_)
  obtain ⟨A1, hS, h⟩ := h
  obtain ⟨rfl, h⟩ := h
  show mm_Z l G Y_Mo_rest (mo_K a0 ad Mb K) _ 0 0 4 [some (.inr (some a0)), some (.inl xa), none, none, none] [] M
  refine mr_aload_n dd_Mo_rest_4 rfl ?_
  refine mr_getr ff_Mo_16 dd_Mo_rest_5 rs_8_2 rfl hS.1 ?_
  rw [mo_p hS 2 (by decide) rfl]
  refine mr_iload_n dd_Mo_rest_8 rfl ?_
  obtain ⟨j2, hj3, hb4, h⟩ := h
  refine mr_iald dd_Mo_rest_9 rfl (mo_k hS 2 (by decide) rfl rfl) hj3 (Nat.lt_trans hb4 (by decide)) (mo_l hS 2 (by decide) rfl rfl hb4) ?_
  rw [mo_i hS 2 (by decide) rfl rfl hb4]
  refine mr_aload_n dd_Mo_rest_10 rfl ?_
  refine mr_getr ff_Mo_68 dd_Mo_rest_11 rs_8_22 rfl hS.1 ?_
  rw [mo_p hS 22 (by decide) rfl]
  refine mr_iload_n dd_Mo_rest_14 rfl ?_
  refine mr_iald dd_Mo_rest_15 rfl (mo_k hS 22 (by decide) rfl rfl) hj3 (Nat.lt_trans hb4 (by decide)) (mo_l hS 22 (by decide) rfl rfl hb4) ?_
  rw [mo_i hS 22 (by decide) rfl rfl hb4]
  refine mr_isub dd_Mo_rest_16 ?_
  refine mr_istore_n dd_Mo_rest_17 (by decide) ?_
  show mm_Z l G Y_Mo_rest (mo_K a0 ad Mb K) _ 0 0 18 [some (.inr (some a0)), some (.inl xa), some (.inl ((A1 2 j2) - (A1 22 j2))), none, none] [] M
  refine mr_iload_n dd_Mo_rest_18 rfl ?_
  refine mr_istore_n dd_Mo_rest_19 (by decide) ?_
  show mm_Z l G Y_Mo_rest (mo_K a0 ad Mb K) _ 0 0 20 [some (.inr (some a0)), some (.inl xa), some (.inl ((A1 2 j2) - (A1 22 j2))), some (.inl xa), none] [] M
  refine mr_iconst 0 dd_Mo_rest_20 (by decide) ?_
  refine mr_istore dd_Mo_rest_21 (by decide) ?_
  show mm_Z l G Y_Mo_rest (mo_K a0 ad Mb K) _ 0 0 23 [some (.inr (some a0)), some (.inl xa), some (.inl ((A1 2 j2) - (A1 22 j2))), some (.inl xa), some (.inl 0)] [] M
  exact h _ M hS
set_option maxHeartbeats 4000000 in
set_option maxRecDepth 100000 in
theorem mg_rest_23 {l : Launch} {G : mm_G} {K : Option mm_V → mo_A → Prop} {a0 : Nat} {ad : Nat → Nat} {Mb : mm_M} {A : mo_A} {y1 : Int32} {y2 : Int32} {y3 : Int32} {y4 : Int32}
    (h : (8 ≤ y4 → K (some (.inl y2)) A) ∧ (¬ 8 ≤ y4 → (y3 = 0 → K (some (.inl y2)) A) ∧ (¬ y3 = 0 → ∃ j1 : Nat, y3 = nI j1 ∧ j1 < 8 ∧ (¬ (A 3 j1) = 0 → K (some (.inl y2)) A) ∧ ((A 3 j1) = 0 → ∃ j4 : Nat, (A 1 j1) = nI j4 ∧ j4 < 8 ∧ (y2 ≤ ((A 2 j4) - (A 22 j4)) → mo_Z l G Y_Mo_rest K a0 ad Mb 23 [some (.inr (some a0)), some (.inl y1), some (.inl y2), some (.inl (A 1 j1)), some (.inl (y4 + 1))] [] A) ∧ (¬ y2 ≤ ((A 2 j4) - (A 22 j4)) → mo_Z l G Y_Mo_rest K a0 ad Mb 23 [some (.inr (some a0)), some (.inl y1), some (.inl ((A 2 j4) - (A 22 j4))), some (.inl (A 1 j1)), some (.inl (y4 + 1))] [] A))))) :
    mo_Z l G Y_Mo_rest K a0 ad Mb 23 [some (.inr (some a0)), some (.inl y1), some (.inl y2), some (.inl y3), some (.inl y4)] [] A := by
  intro M0 M hS
  refine mr_iload dd_Mo_rest_23 rfl ?_
  refine mr_bipush 8 dd_Mo_rest_25 (by decide) ?_
  refine mr_icmp_ge 91 dd_Mo_rest_27 (by decide) (fun hc27 => ?_) (fun hc27 => ?_)
  · have h := h.1 hc27
    refine mr_iload_n dd_Mo_rest_91 rfl ?_
    exact mr_ireturn dd_Mo_rest_92 rfl ⟨_, hS, h⟩
  · have h := h.2 hc27
    refine mr_iload_n dd_Mo_rest_30 rfl ?_
    refine mr_if_eq 91 dd_Mo_rest_31 (by decide) (fun hc31 => ?_) (fun hc31 => ?_)
    · have h := h.1 hc31
      refine mr_iload_n dd_Mo_rest_91 rfl ?_
      exact mr_ireturn dd_Mo_rest_92 rfl ⟨_, hS, h⟩
    · have h := h.2 hc31
      refine mr_aload_n dd_Mo_rest_34 rfl ?_
      refine mr_getr ff_Mo_19 dd_Mo_rest_35 rs_8_3 rfl hS.1 ?_
      rw [mo_p hS 3 (by decide) rfl]
      refine mr_iload_n dd_Mo_rest_38 rfl ?_
      obtain ⟨j1, hj2, hb3, h⟩ := h
      refine mr_zald dd_Mo_rest_39 rfl (mo_k hS 3 (by decide) rfl rfl) hj2 (Nat.lt_trans hb3 (by decide)) (mo_l hS 3 (by decide) rfl rfl hb3) ?_
      rw [mo_i hS 3 (by decide) rfl rfl hb3]
      refine mr_if_ne 91 dd_Mo_rest_40 (by decide) (fun hc40 => ?_) (fun hc40 => ?_)
      · have h := h.1 hc40
        refine mr_iload_n dd_Mo_rest_91 rfl ?_
        exact mr_ireturn dd_Mo_rest_92 rfl ⟨_, hS, h⟩
      · have h := h.2 hc40
        refine mr_aload_n dd_Mo_rest_43 rfl ?_
        refine mr_getr ff_Mo_13 dd_Mo_rest_44 rs_8_1 rfl hS.1 ?_
        rw [mo_p hS 1 (by decide) rfl]
        refine mr_iload_n dd_Mo_rest_47 rfl ?_
        refine mr_iald dd_Mo_rest_48 rfl (mo_k hS 1 (by decide) rfl rfl) hj2 (Nat.lt_trans hb3 (by decide)) (mo_l hS 1 (by decide) rfl rfl hb3) ?_
        rw [mo_i hS 1 (by decide) rfl rfl hb3]
        refine mr_istore_n dd_Mo_rest_49 (by decide) ?_
        show mm_Z l G Y_Mo_rest (mo_K a0 ad Mb K) _ 0 0 50 [some (.inr (some a0)), some (.inl y1), some (.inl y2), some (.inl (A 1 j1)), some (.inl y4)] [] M
        refine mr_aload_n dd_Mo_rest_50 rfl ?_
        refine mr_getr ff_Mo_16 dd_Mo_rest_51 rs_8_2 rfl hS.1 ?_
        rw [mo_p hS 2 (by decide) rfl]
        refine mr_iload_n dd_Mo_rest_54 rfl ?_
        obtain ⟨j4, hj5, hb6, h⟩ := h
        refine mr_iald dd_Mo_rest_55 rfl (mo_k hS 2 (by decide) rfl rfl) hj5 (Nat.lt_trans hb6 (by decide)) (mo_l hS 2 (by decide) rfl rfl hb6) ?_
        rw [mo_i hS 2 (by decide) rfl rfl hb6]
        refine mr_aload_n dd_Mo_rest_56 rfl ?_
        refine mr_getr ff_Mo_68 dd_Mo_rest_57 rs_8_22 rfl hS.1 ?_
        rw [mo_p hS 22 (by decide) rfl]
        refine mr_iload_n dd_Mo_rest_60 rfl ?_
        refine mr_iald dd_Mo_rest_61 rfl (mo_k hS 22 (by decide) rfl rfl) hj5 (Nat.lt_trans hb6 (by decide)) (mo_l hS 22 (by decide) rfl rfl hb6) ?_
        rw [mo_i hS 22 (by decide) rfl rfl hb6]
        refine mr_isub dd_Mo_rest_62 ?_
        refine mr_iload_n dd_Mo_rest_63 rfl ?_
        refine mr_icmp_ge 83 dd_Mo_rest_64 (by decide) (fun hc64 => ?_) (fun hc64 => ?_)
        · have h := h.1 hc64
          refine mr_iload_n dd_Mo_rest_83 rfl ?_
          refine mr_istore_n dd_Mo_rest_84 (by decide) ?_
          show mm_Z l G Y_Mo_rest (mo_K a0 ad Mb K) _ 0 0 85 [some (.inr (some a0)), some (.inl y1), some (.inl y2), some (.inl (A 1 j1)), some (.inl y4)] [] M
          refine mr_iinc 1 dd_Mo_rest_85 rfl (by decide) (by decide) ?_
          show mm_Z l G Y_Mo_rest (mo_K a0 ad Mb K) _ 0 0 88 [some (.inr (some a0)), some (.inl y1), some (.inl y2), some (.inl (A 1 j1)), some (.inl (y4 + 1))] [] M
          refine mr_goto 23 dd_Mo_rest_88 (by decide) ?_
          exact h _ M hS
        · have h := h.2 hc64
          refine mr_aload_n dd_Mo_rest_67 rfl ?_
          refine mr_getr ff_Mo_16 dd_Mo_rest_68 rs_8_2 rfl hS.1 ?_
          rw [mo_p hS 2 (by decide) rfl]
          refine mr_iload_n dd_Mo_rest_71 rfl ?_
          refine mr_iald dd_Mo_rest_72 rfl (mo_k hS 2 (by decide) rfl rfl) hj5 (Nat.lt_trans hb6 (by decide)) (mo_l hS 2 (by decide) rfl rfl hb6) ?_
          rw [mo_i hS 2 (by decide) rfl rfl hb6]
          refine mr_aload_n dd_Mo_rest_73 rfl ?_
          refine mr_getr ff_Mo_68 dd_Mo_rest_74 rs_8_22 rfl hS.1 ?_
          rw [mo_p hS 22 (by decide) rfl]
          refine mr_iload_n dd_Mo_rest_77 rfl ?_
          refine mr_iald dd_Mo_rest_78 rfl (mo_k hS 22 (by decide) rfl rfl) hj5 (Nat.lt_trans hb6 (by decide)) (mo_l hS 22 (by decide) rfl rfl hb6) ?_
          rw [mo_i hS 22 (by decide) rfl rfl hb6]
          refine mr_isub dd_Mo_rest_79 ?_
          refine mr_goto 84 dd_Mo_rest_80 (by decide) ?_
          refine mr_istore_n dd_Mo_rest_84 (by decide) ?_
          show mm_Z l G Y_Mo_rest (mo_K a0 ad Mb K) _ 0 0 85 [some (.inr (some a0)), some (.inl y1), some (.inl ((A 2 j4) - (A 22 j4))), some (.inl (A 1 j1)), some (.inl y4)] [] M
          refine mr_iinc 1 dd_Mo_rest_85 rfl (by decide) (by decide) ?_
          show mm_Z l G Y_Mo_rest (mo_K a0 ad Mb K) _ 0 0 88 [some (.inr (some a0)), some (.inl y1), some (.inl ((A 2 j4) - (A 22 j4))), some (.inl (A 1 j1)), some (.inl (y4 + 1))] [] M
          refine mr_goto 23 dd_Mo_rest_88 (by decide) ?_
          exact h _ M hS
set_option maxHeartbeats 4000000 in
set_option maxRecDepth 100000 in
theorem mg_work {l : Launch} {G : mm_G} {K : Option mm_V → mo_A → Prop} {a0 : Nat} {ad : Nat → Nat} {Mb : mm_M} {A : mo_A} 
    (h : mo_Z l G Y_Mo_work K a0 ad Mb 3 [some (.inr (some a0)), some (.inl 7), none, none, none, none] [] A) :
    mo_Ok l G yy_Mo_work Y_Mo_work [.inr (some a0)] a0 ad Mb A K := by
  intro M hS
  refine mm_go (by decide) rfl (fun q => by cases q) (Nat.le_of_ble_eq_true rfl) ?_
  show mm_Z l G Y_Mo_work (mo_K a0 ad Mb K) _ 0 0 0 [some (.inr (some a0)), none, none, none, none, none] [] M
  refine mr_bipush 7 dd_Mo_work_0 (by decide) ?_
  refine mr_istore_n dd_Mo_work_2 (by decide) ?_
  show mm_Z l G Y_Mo_work (mo_K a0 ad Mb K) _ 0 0 3 [some (.inr (some a0)), some (.inl 7), none, none, none, none] [] M
  exact h _ M hS
set_option maxHeartbeats 4000000 in
set_option maxRecDepth 100000 in
theorem mg_work_3 {l : Launch} {G : mm_G} {K : Option mm_V → mo_A → Prop} {a0 : Nat} {ad : Nat → Nat} {Mb : mm_M} {A : mo_A} {y1 : Int32}
    (h : (y1 < 0 → K none A) ∧ (¬ y1 < 0 → mo_Z l G Y_Mo_work K a0 ad Mb 11 [some (.inr (some a0)), some (.inl y1), some (.inl 0), some (.inl 0), none, none] [] A)) :
    mo_Z l G Y_Mo_work K a0 ad Mb 3 [some (.inr (some a0)), some (.inl y1), none, none, none, none] [] A := by
  intro M0 M hS
  refine mr_iload_n dd_Mo_work_3 rfl ?_
  refine mr_if_lt 236 dd_Mo_work_4 (by decide) (fun hc4 => ?_) (fun hc4 => ?_)
  · have h := h.1 hc4
    exact mr_return dd_Mo_work_236 rfl ⟨_, hS, h⟩
  · have h := h.2 hc4
    refine mr_iconst 0 dd_Mo_work_7 (by decide) ?_
    refine mr_istore_n dd_Mo_work_8 (by decide) ?_
    show mm_Z l G Y_Mo_work (mo_K a0 ad Mb K) _ 0 0 9 [some (.inr (some a0)), some (.inl y1), some (.inl 0), none, none, none] [] M
    refine mr_iconst 0 dd_Mo_work_9 (by decide) ?_
    refine mr_istore_n dd_Mo_work_10 (by decide) ?_
    show mm_Z l G Y_Mo_work (mo_K a0 ad Mb K) _ 0 0 11 [some (.inr (some a0)), some (.inl y1), some (.inl 0), some (.inl 0), none, none] [] M
    exact h _ M hS
set_option maxHeartbeats 4000000 in
set_option maxRecDepth 100000 in
theorem mg_work_11 {l : Launch} {G : mm_G} {K : Option mm_V → mo_A → Prop} {a0 : Nat} {ad : Nat → Nat} {Mb : mm_M} {A : mo_A} {y1 : Int32} {y2 : Int32} {y3 : Int32}
    (h : (24 ≤ y3 → mo_Z l G Y_Mo_work K a0 ad Mb 62 [some (.inr (some a0)), some (.inl y1), some (.inl y2), some (.inl 0), none, none] [] A) ∧ (¬ 24 ≤ y3 → ∃ j1 : Nat, y3 = nI j1 ∧ j1 < 24 ∧ ((A 11 j1) ≤ 0 → mo_Z l G Y_Mo_work K a0 ad Mb 11 [some (.inr (some a0)), some (.inl y1), some (.inl y2), some (.inl (y3 + 1)), none, none] [] A) ∧ (¬ (A 11 j1) ≤ 0 → mo_Ok l G yy_Mo_frozen Y_Mo_frozen [.inr (some a0), .inl ((A 11 j1) - 1)] a0 ad Mb A (fun r B => B = A ∧ ∃ x5 : Int32, r = some (.inl x5) ∧ (¬ x5 = 0 → mo_Z l G Y_Mo_work K a0 ad Mb 11 [some (.inr (some a0)), some (.inl y1), some (.inl y2), some (.inl (y3 + 1)), none, none] [] A) ∧ (x5 = 0 → (¬ (A 12 j1) = y1 → mo_Z l G Y_Mo_work K a0 ad Mb 11 [some (.inr (some a0)), some (.inl y1), some (.inl y2), some (.inl (y3 + 1)), none, none] [] A) ∧ ((A 12 j1) = y1 → mo_Z l G Y_Mo_work K a0 ad Mb 11 [some (.inr (some a0)), some (.inl y1), some (.inl (y2 + 1)), some (.inl (y3 + 1)), none, none] [] A)))))) :
    mo_Z l G Y_Mo_work K a0 ad Mb 11 [some (.inr (some a0)), some (.inl y1), some (.inl y2), some (.inl y3), none, none] [] A := by
  intro M0 M hS
  refine mr_iload_n dd_Mo_work_11 rfl ?_
  refine mr_bipush 24 dd_Mo_work_12 (by decide) ?_
  refine mr_icmp_ge 60 dd_Mo_work_14 (by decide) (fun hc14 => ?_) (fun hc14 => ?_)
  · have h := h.1 hc14
    refine mr_iconst 0 dd_Mo_work_60 (by decide) ?_
    refine mr_istore_n dd_Mo_work_61 (by decide) ?_
    show mm_Z l G Y_Mo_work (mo_K a0 ad Mb K) _ 0 0 62 [some (.inr (some a0)), some (.inl y1), some (.inl y2), some (.inl 0), none, none] [] M
    exact h _ M hS
  · have h := h.2 hc14
    refine mr_aload_n dd_Mo_work_17 rfl ?_
    refine mr_getr ff_Mo_41 dd_Mo_work_18 rs_8_11 rfl hS.1 ?_
    rw [mo_p hS 11 (by decide) rfl]
    refine mr_iload_n dd_Mo_work_21 rfl ?_
    obtain ⟨j1, hj2, hb3, h⟩ := h
    refine mr_iald dd_Mo_work_22 rfl (mo_k hS 11 (by decide) rfl rfl) hj2 (Nat.lt_trans hb3 (by decide)) (mo_l hS 11 (by decide) rfl rfl hb3) ?_
    rw [mo_i hS 11 (by decide) rfl rfl hb3]
    refine mr_if_le 54 dd_Mo_work_23 (by decide) (fun hc23 => ?_) (fun hc23 => ?_)
    · have h := h.1 hc23
      refine mr_iinc 1 dd_Mo_work_54 rfl (by decide) (by decide) ?_
      show mm_Z l G Y_Mo_work (mo_K a0 ad Mb K) _ 0 0 57 [some (.inr (some a0)), some (.inl y1), some (.inl y2), some (.inl (y3 + 1)), none, none] [] M
      refine mr_goto 11 dd_Mo_work_57 (by decide) ?_
      exact h _ M hS
    · have h := h.2 hc23
      refine mr_aload_n dd_Mo_work_26 rfl ?_
      refine mr_aload_n dd_Mo_work_27 rfl ?_
      refine mr_getr ff_Mo_41 dd_Mo_work_28 rs_8_11 rfl hS.1 ?_
      rw [mo_p hS 11 (by decide) rfl]
      refine mr_iload_n dd_Mo_work_31 rfl ?_
      refine mr_iald dd_Mo_work_32 rfl (mo_k hS 11 (by decide) rfl rfl) hj2 (Nat.lt_trans hb3 (by decide)) (mo_l hS 11 (by decide) rfl rfl hb3) ?_
      rw [mo_i hS 11 (by decide) rfl rfl hb3]
      refine mr_iconst 1 dd_Mo_work_33 (by decide) ?_
      refine mr_isub dd_Mo_work_34 ?_
      refine mr_callV0 (Yc := Y_Mo_frozen) (M := M) (st := []) (vs := [.inl ((A 11 j1) - 1)]) (ci := 8) fc_Mo_81 iv_Mo_frozen sv_Mo_frozen dd_Mo_work_35 ⟨Nat.le_of_ble_eq_true rfl, Nat.le_of_ble_eq_true rfl⟩ (by decide) rfl rfl (Nat.le_of_ble_eq_true rfl) rfl hS.1 rfl rfl (h M hS) (fun r M _ h => ?_)
      obtain ⟨B, hS, hB, h⟩ := h
      rw [hB] at hS
      obtain ⟨x5, rfl, h⟩ := h
      show mm_Z l G Y_Mo_work (mo_K a0 ad Mb K) _ 0 0 38 [some (.inr (some a0)), some (.inl y1), some (.inl y2), some (.inl y3), none, none] [.inl x5] M
      refine mr_if_ne 54 dd_Mo_work_38 (by decide) (fun hc38 => ?_) (fun hc38 => ?_)
      · have h := h.1 hc38
        refine mr_iinc 1 dd_Mo_work_54 rfl (by decide) (by decide) ?_
        show mm_Z l G Y_Mo_work (mo_K a0 ad Mb K) _ 0 0 57 [some (.inr (some a0)), some (.inl y1), some (.inl y2), some (.inl (y3 + 1)), none, none] [] M
        refine mr_goto 11 dd_Mo_work_57 (by decide) ?_
        exact h _ M hS
      · have h := h.2 hc38
        refine mr_aload_n dd_Mo_work_41 rfl ?_
        refine mr_getr ff_Mo_44 dd_Mo_work_42 rs_8_12 rfl hS.1 ?_
        rw [mo_p hS 12 (by decide) rfl]
        refine mr_iload_n dd_Mo_work_45 rfl ?_
        refine mr_iald dd_Mo_work_46 rfl (mo_k hS 12 (by decide) rfl rfl) hj2 (Nat.lt_trans hb3 (by decide)) (mo_l hS 12 (by decide) rfl rfl hb3) ?_
        rw [mo_i hS 12 (by decide) rfl rfl hb3]
        refine mr_iload_n dd_Mo_work_47 rfl ?_
        refine mr_icmp_ne 54 dd_Mo_work_48 (by decide) (fun hc48 => ?_) (fun hc48 => ?_)
        · have h := h.1 hc48
          refine mr_iinc 1 dd_Mo_work_54 rfl (by decide) (by decide) ?_
          show mm_Z l G Y_Mo_work (mo_K a0 ad Mb K) _ 0 0 57 [some (.inr (some a0)), some (.inl y1), some (.inl y2), some (.inl (y3 + 1)), none, none] [] M
          refine mr_goto 11 dd_Mo_work_57 (by decide) ?_
          exact h _ M hS
        · have h := h.2 hc48
          refine mr_iinc 1 dd_Mo_work_51 rfl (by decide) (by decide) ?_
          show mm_Z l G Y_Mo_work (mo_K a0 ad Mb K) _ 0 0 54 [some (.inr (some a0)), some (.inl y1), some (.inl (y2 + 1)), some (.inl y3), none, none] [] M
          refine mr_iinc 1 dd_Mo_work_54 rfl (by decide) (by decide) ?_
          show mm_Z l G Y_Mo_work (mo_K a0 ad Mb K) _ 0 0 57 [some (.inr (some a0)), some (.inl y1), some (.inl (y2 + 1)), some (.inl (y3 + 1)), none, none] [] M
          refine mr_goto 11 dd_Mo_work_57 (by decide) ?_
          exact h _ M hS
set_option maxHeartbeats 4000000 in
set_option maxRecDepth 100000 in
theorem mg_work_62 {l : Launch} {G : mm_G} {K : Option mm_V → mo_A → Prop} {a0 : Nat} {ad : Nat → Nat} {Mb : mm_M} {A : mo_A} {y1 : Int32} {y2 : Int32} {y3 : Int32}
    (h : (4 ≤ y3 → mo_Z l G Y_Mo_work K a0 ad Mb 111 [some (.inr (some a0)), some (.inl y1), some (.inl y2), some (.inl 0), some (.inl 0), some (.inl (y1 + 1))] [] A) ∧ (¬ 4 ≤ y3 → ∃ j1 : Nat, ((4 * y1) + y3) = nI j1 ∧ j1 < 32 ∧ ((A 20 j1) = 0 → mo_Z l G Y_Mo_work K a0 ad Mb 62 [some (.inr (some a0)), some (.inl y1), some (.inl (y2 + 0)), some (.inl (y3 + 1)), none, none] [] A) ∧ (¬ (A 20 j1) = 0 → mo_Ok l G yy_Mo_pages Y_Mo_pages [.inr (some a0), .inl (9 + y3)] a0 ad Mb A (fun r B => B = A ∧ ∃ x5 : Int32, r = some (.inl x5) ∧ mo_Z l G Y_Mo_work K a0 ad Mb 62 [some (.inr (some a0)), some (.inl y1), some (.inl (y2 + x5)), some (.inl (y3 + 1)), none, none] [] A)))) :
    mo_Z l G Y_Mo_work K a0 ad Mb 62 [some (.inr (some a0)), some (.inl y1), some (.inl y2), some (.inl y3), none, none] [] A := by
  intro M0 M hS
  refine mr_iload_n dd_Mo_work_62 rfl ?_
  refine mr_iconst 4 dd_Mo_work_63 (by decide) ?_
  refine mr_icmp_ge 101 dd_Mo_work_64 (by decide) (fun hc64 => ?_) (fun hc64 => ?_)
  · have h := h.1 hc64
    refine mr_iconst 0 dd_Mo_work_101 (by decide) ?_
    refine mr_istore_n dd_Mo_work_102 (by decide) ?_
    show mm_Z l G Y_Mo_work (mo_K a0 ad Mb K) _ 0 0 103 [some (.inr (some a0)), some (.inl y1), some (.inl y2), some (.inl 0), none, none] [] M
    refine mr_iconst 0 dd_Mo_work_103 (by decide) ?_
    refine mr_istore dd_Mo_work_104 (by decide) ?_
    show mm_Z l G Y_Mo_work (mo_K a0 ad Mb K) _ 0 0 106 [some (.inr (some a0)), some (.inl y1), some (.inl y2), some (.inl 0), some (.inl 0), none] [] M
    refine mr_iload_n dd_Mo_work_106 rfl ?_
    refine mr_iconst 1 dd_Mo_work_107 (by decide) ?_
    refine mr_iadd dd_Mo_work_108 ?_
    refine mr_istore dd_Mo_work_109 (by decide) ?_
    show mm_Z l G Y_Mo_work (mo_K a0 ad Mb K) _ 0 0 111 [some (.inr (some a0)), some (.inl y1), some (.inl y2), some (.inl 0), some (.inl 0), some (.inl (y1 + 1))] [] M
    exact h _ M hS
  · have h := h.2 hc64
    refine mr_iload_n dd_Mo_work_67 rfl ?_
    refine mr_aload_n dd_Mo_work_68 rfl ?_
    refine mr_getr ff_Mo_62 dd_Mo_work_69 rs_8_20 rfl hS.1 ?_
    rw [mo_p hS 20 (by decide) rfl]
    refine mr_iconst 4 dd_Mo_work_72 (by decide) ?_
    refine mr_iload_n dd_Mo_work_73 rfl ?_
    refine mr_imul dd_Mo_work_74 ?_
    refine mr_iload_n dd_Mo_work_75 rfl ?_
    refine mr_iadd dd_Mo_work_76 ?_
    obtain ⟨j1, hj2, hb3, h⟩ := h
    refine mr_zald dd_Mo_work_77 rfl (mo_k hS 20 (by decide) rfl rfl) hj2 (Nat.lt_trans hb3 (by decide)) (mo_l hS 20 (by decide) rfl rfl hb3) ?_
    rw [mo_i hS 20 (by decide) rfl rfl hb3]
    refine mr_if_eq 92 dd_Mo_work_78 (by decide) (fun hc78 => ?_) (fun hc78 => ?_)
    · have h := h.1 hc78
      refine mr_iconst 0 dd_Mo_work_92 (by decide) ?_
      refine mr_iadd dd_Mo_work_93 ?_
      refine mr_istore_n dd_Mo_work_94 (by decide) ?_
      show mm_Z l G Y_Mo_work (mo_K a0 ad Mb K) _ 0 0 95 [some (.inr (some a0)), some (.inl y1), some (.inl (y2 + 0)), some (.inl y3), none, none] [] M
      refine mr_iinc 1 dd_Mo_work_95 rfl (by decide) (by decide) ?_
      show mm_Z l G Y_Mo_work (mo_K a0 ad Mb K) _ 0 0 98 [some (.inr (some a0)), some (.inl y1), some (.inl (y2 + 0)), some (.inl (y3 + 1)), none, none] [] M
      refine mr_goto 62 dd_Mo_work_98 (by decide) ?_
      exact h _ M hS
    · have h := h.2 hc78
      refine mr_aload_n dd_Mo_work_81 rfl ?_
      refine mr_bipush 9 dd_Mo_work_82 (by decide) ?_
      refine mr_iload_n dd_Mo_work_84 rfl ?_
      refine mr_iadd dd_Mo_work_85 ?_
      refine mr_callV0 (Yc := Y_Mo_pages) (M := M) (st := [.inl y2]) (vs := [.inl (9 + y3)]) (ci := 8) fc_Mo_85 iv_Mo_pages sv_Mo_pages dd_Mo_work_86 ⟨Nat.le_of_ble_eq_true rfl, Nat.le_of_ble_eq_true rfl⟩ (by decide) rfl rfl (Nat.le_of_ble_eq_true rfl) rfl hS.1 rfl rfl (h M hS) (fun r M _ h => ?_)
      obtain ⟨B, hS, hB, h⟩ := h
      rw [hB] at hS
      obtain ⟨x5, rfl, h⟩ := h
      show mm_Z l G Y_Mo_work (mo_K a0 ad Mb K) _ 0 0 89 [some (.inr (some a0)), some (.inl y1), some (.inl y2), some (.inl y3), none, none] [.inl x5, .inl y2] M
      refine mr_goto 93 dd_Mo_work_89 (by decide) ?_
      refine mr_iadd dd_Mo_work_93 ?_
      refine mr_istore_n dd_Mo_work_94 (by decide) ?_
      show mm_Z l G Y_Mo_work (mo_K a0 ad Mb K) _ 0 0 95 [some (.inr (some a0)), some (.inl y1), some (.inl (y2 + x5)), some (.inl y3), none, none] [] M
      refine mr_iinc 1 dd_Mo_work_95 rfl (by decide) (by decide) ?_
      show mm_Z l G Y_Mo_work (mo_K a0 ad Mb K) _ 0 0 98 [some (.inr (some a0)), some (.inl y1), some (.inl (y2 + x5)), some (.inl (y3 + 1)), none, none] [] M
      refine mr_goto 62 dd_Mo_work_98 (by decide) ?_
      exact h _ M hS
set_option maxHeartbeats 4000000 in
set_option maxRecDepth 100000 in
theorem mg_work_111 {l : Launch} {G : mm_G} {K : Option mm_V → mo_A → Prop} {a0 : Nat} {ad : Nat → Nat} {Mb : mm_M} {A : mo_A} {y1 : Int32} {y2 : Int32} {y3 : Int32} {y4 : Int32} {y5 : Int32}
    (h : (8 ≤ y5 → ∃ j1 : Nat, y1 = nI j1 ∧ j1 < 8 ∧ (y1 = 0 → mo_Z l G Y_Mo_work K a0 ad Mb 3 [some (.inr (some a0)), some (.inl (y1 + (-1))), none, none, none, none] [] (mo_u (mo_u A 22 j1 (y2 + y4)) 23 j1 1)) ∧ (¬ y1 = 0 → mo_Ok l G yy_Mo_lives Y_Mo_lives [.inr (some a0), .inl y1] a0 ad Mb (mo_u A 22 j1 (y2 + y4)) (fun r B => B = mo_u A 22 j1 (y2 + y4) ∧ ∃ x5 : Int32, r = some (.inl x5) ∧ (¬ x5 = 0 → mo_Z l G Y_Mo_work K a0 ad Mb 3 [some (.inr (some a0)), some (.inl (y1 + (-1))), none, none, none, none] [] (mo_u (mo_u A 22 j1 (y2 + y4)) 23 j1 1)) ∧ (x5 = 0 → (0 < y2 → mo_Z l G Y_Mo_work K a0 ad Mb 3 [some (.inr (some a0)), some (.inl (y1 + (-1))), none, none, none, none] [] (mo_u (mo_u A 22 j1 (y2 + y4)) 23 j1 1)) ∧ (¬ 0 < y2 → (y3 = 0 → mo_Z l G Y_Mo_work K a0 ad Mb 3 [some (.inr (some a0)), some (.inl (y1 + (-1))), none, none, none, none] [] (mo_u (mo_u A 22 j1 (y2 + y4)) 23 j1 0)) ∧ (¬ y3 = 0 → mo_Z l G Y_Mo_work K a0 ad Mb 3 [some (.inr (some a0)), some (.inl (y1 + (-1))), none, none, none, none] [] (mo_u (mo_u A 22 j1 (y2 + y4)) 23 j1 1))))))) ∧ (¬ 8 ≤ y5 → ∃ j6 : Nat, y5 = nI j6 ∧ j6 < 8 ∧ ((A 0 j6) ≤ 0 → mo_Z l G Y_Mo_work K a0 ad Mb 111 [some (.inr (some a0)), some (.inl y1), some (.inl y2), some (.inl y3), some (.inl y4), some (.inl (y5 + 1))] [] A) ∧ (¬ (A 0 j6) ≤ 0 → (¬ (A 1 j6) = y1 → mo_Z l G Y_Mo_work K a0 ad Mb 111 [some (.inr (some a0)), some (.inl y1), some (.inl y2), some (.inl y3), some (.inl y4), some (.inl (y5 + 1))] [] A) ∧ ((A 1 j6) = y1 → ((A 23 j6) = 0 → mo_Z l G Y_Mo_work K a0 ad Mb 111 [some (.inr (some a0)), some (.inl y1), some (.inl y2), some (.inl y3), some (.inl y4), some (.inl (y5 + 1))] [] A) ∧ (¬ (A 23 j6) = 0 → ((A 3 j6) = 0 → mo_Z l G Y_Mo_work K a0 ad Mb 111 [some (.inr (some a0)), some (.inl y1), some (.inl y2), some (.inl 1), some (.inl (y4 + (A 22 j6))), some (.inl (y5 + 1))] [] A) ∧ (¬ (A 3 j6) = 0 → mo_Z l G Y_Mo_work K a0 ad Mb 111 [some (.inr (some a0)), some (.inl y1), some (.inl y2), some (.inl 1), some (.inl (y4 + (A 2 j6))), some (.inl (y5 + 1))] [] A)))))) :
    mo_Z l G Y_Mo_work K a0 ad Mb 111 [some (.inr (some a0)), some (.inl y1), some (.inl y2), some (.inl y3), some (.inl y4), some (.inl y5)] [] A := by
  intro M0 M hS
  refine mr_iload dd_Mo_work_111 rfl ?_
  refine mr_bipush 8 dd_Mo_work_113 (by decide) ?_
  refine mr_icmp_ge 189 dd_Mo_work_115 (by decide) (fun hc115 => ?_) (fun hc115 => ?_)
  · have h := h.1 hc115
    refine mr_aload_n dd_Mo_work_189 rfl ?_
    refine mr_getr ff_Mo_68 dd_Mo_work_190 rs_8_22 rfl hS.1 ?_
    rw [mo_p hS 22 (by decide) rfl]
    refine mr_iload_n dd_Mo_work_193 rfl ?_
    refine mr_iload_n dd_Mo_work_194 rfl ?_
    refine mr_iload dd_Mo_work_195 rfl ?_
    refine mr_iadd dd_Mo_work_197 ?_
    obtain ⟨j1, hj2, hb3, h⟩ := h
    refine mr_iast dd_Mo_work_198 rfl (mo_k hS 22 (by decide) rfl rfl) hj2 (Nat.lt_trans hb3 (by decide)) (mo_l hS 22 (by decide) rfl rfl hb3) ?_
    have hS := mo_S.up hS 22 (by decide) rfl j1 (y2 + y4)
    generalize mm_si M (ad 22) j1 (y2 + y4) = M at hS ⊢
    refine mr_aload_n dd_Mo_work_199 rfl ?_
    refine mr_getr ff_Mo_71 dd_Mo_work_200 rs_8_23 rfl hS.1 ?_
    rw [mo_p hS 23 (by decide) rfl]
    refine mr_iload_n dd_Mo_work_203 rfl ?_
    refine mr_iload_n dd_Mo_work_204 rfl ?_
    refine mr_if_eq 224 dd_Mo_work_205 (by decide) (fun hc205 => ?_) (fun hc205 => ?_)
    · have h := h.1 hc205
      refine mr_iconst 1 dd_Mo_work_224 (by decide) ?_
      refine mr_goto 229 dd_Mo_work_225 (by decide) ?_
      refine mr_zast dd_Mo_work_229 rfl (mo_k hS 23 (by decide) rfl rfl) hj2 (Nat.lt_trans hb3 (by decide)) (mo_l hS 23 (by decide) rfl rfl hb3) (Or.inr rfl) ?_
      have hS := mo_S.up hS 23 (by decide) rfl j1 1
      generalize mm_si M (ad 23) j1 1 = M at hS ⊢
      refine mr_iinc (-1) dd_Mo_work_230 rfl (by decide) (by decide) ?_
      show mm_Z l G Y_Mo_work (mo_K a0 ad Mb K) _ 0 0 233 [some (.inr (some a0)), some (.inl (y1 + (-1))), some (.inl y2), some (.inl y3), some (.inl y4), some (.inl y5)] [] M
      refine mr_goto 3 dd_Mo_work_233 (by decide) ?_
      exact mm_fg (mm_leq (mm_le_s (mm_le_s (mm_le_n (mm_le_n (mm_le_n (mm_le_n mm_le_e))))))) (h _ M hS)
    · have h := h.2 hc205
      refine mr_aload_n dd_Mo_work_208 rfl ?_
      refine mr_iload_n dd_Mo_work_209 rfl ?_
      refine mr_callV0 (Yc := Y_Mo_lives) (M := M) (st := [.inl y1, .inr (some (ad 23))]) (vs := [.inl y1]) (ci := 8) fc_Mo_89 iv_Mo_lives sv_Mo_lives dd_Mo_work_210 ⟨Nat.le_of_ble_eq_true rfl, Nat.le_of_ble_eq_true rfl⟩ (by decide) rfl rfl (Nat.le_of_ble_eq_true rfl) rfl hS.1 rfl rfl (h M hS) (fun r M _ h => ?_)
      obtain ⟨B, hS, hB, h⟩ := h
      rw [hB] at hS
      obtain ⟨x5, rfl, h⟩ := h
      show mm_Z l G Y_Mo_work (mo_K a0 ad Mb K) _ 0 0 213 [some (.inr (some a0)), some (.inl y1), some (.inl y2), some (.inl y3), some (.inl y4), some (.inl y5)] [.inl x5, .inl y1, .inr (some (ad 23))] M
      refine mr_if_ne 224 dd_Mo_work_213 (by decide) (fun hc213 => ?_) (fun hc213 => ?_)
      · have h := h.1 hc213
        refine mr_iconst 1 dd_Mo_work_224 (by decide) ?_
        refine mr_goto 229 dd_Mo_work_225 (by decide) ?_
        refine mr_zast dd_Mo_work_229 rfl (mo_k hS 23 (by decide) rfl rfl) hj2 (Nat.lt_trans hb3 (by decide)) (mo_l hS 23 (by decide) rfl rfl hb3) (Or.inr rfl) ?_
        have hS := mo_S.up hS 23 (by decide) rfl j1 1
        generalize mm_si M (ad 23) j1 1 = M at hS ⊢
        refine mr_iinc (-1) dd_Mo_work_230 rfl (by decide) (by decide) ?_
        show mm_Z l G Y_Mo_work (mo_K a0 ad Mb K) _ 0 0 233 [some (.inr (some a0)), some (.inl (y1 + (-1))), some (.inl y2), some (.inl y3), some (.inl y4), some (.inl y5)] [] M
        refine mr_goto 3 dd_Mo_work_233 (by decide) ?_
        exact mm_fg (mm_leq (mm_le_s (mm_le_s (mm_le_n (mm_le_n (mm_le_n (mm_le_n mm_le_e))))))) (h _ M hS)
      · have h := h.2 hc213
        refine mr_iload_n dd_Mo_work_216 rfl ?_
        refine mr_if_gt 224 dd_Mo_work_217 (by decide) (fun hc217 => ?_) (fun hc217 => ?_)
        · have h := h.1 hc217
          refine mr_iconst 1 dd_Mo_work_224 (by decide) ?_
          refine mr_goto 229 dd_Mo_work_225 (by decide) ?_
          refine mr_zast dd_Mo_work_229 rfl (mo_k hS 23 (by decide) rfl rfl) hj2 (Nat.lt_trans hb3 (by decide)) (mo_l hS 23 (by decide) rfl rfl hb3) (Or.inr rfl) ?_
          have hS := mo_S.up hS 23 (by decide) rfl j1 1
          generalize mm_si M (ad 23) j1 1 = M at hS ⊢
          refine mr_iinc (-1) dd_Mo_work_230 rfl (by decide) (by decide) ?_
          show mm_Z l G Y_Mo_work (mo_K a0 ad Mb K) _ 0 0 233 [some (.inr (some a0)), some (.inl (y1 + (-1))), some (.inl y2), some (.inl y3), some (.inl y4), some (.inl y5)] [] M
          refine mr_goto 3 dd_Mo_work_233 (by decide) ?_
          exact mm_fg (mm_leq (mm_le_s (mm_le_s (mm_le_n (mm_le_n (mm_le_n (mm_le_n mm_le_e))))))) (h _ M hS)
        · have h := h.2 hc217
          refine mr_iload_n dd_Mo_work_220 rfl ?_
          refine mr_if_eq 228 dd_Mo_work_221 (by decide) (fun hc221 => ?_) (fun hc221 => ?_)
          · have h := h.1 hc221
            refine mr_iconst 0 dd_Mo_work_228 (by decide) ?_
            refine mr_zast dd_Mo_work_229 rfl (mo_k hS 23 (by decide) rfl rfl) hj2 (Nat.lt_trans hb3 (by decide)) (mo_l hS 23 (by decide) rfl rfl hb3) (Or.inl rfl) ?_
            have hS := mo_S.up hS 23 (by decide) rfl j1 0
            generalize mm_si M (ad 23) j1 0 = M at hS ⊢
            refine mr_iinc (-1) dd_Mo_work_230 rfl (by decide) (by decide) ?_
            show mm_Z l G Y_Mo_work (mo_K a0 ad Mb K) _ 0 0 233 [some (.inr (some a0)), some (.inl (y1 + (-1))), some (.inl y2), some (.inl y3), some (.inl y4), some (.inl y5)] [] M
            refine mr_goto 3 dd_Mo_work_233 (by decide) ?_
            exact mm_fg (mm_leq (mm_le_s (mm_le_s (mm_le_n (mm_le_n (mm_le_n (mm_le_n mm_le_e))))))) (h _ M hS)
          · have h := h.2 hc221
            refine mr_iconst 1 dd_Mo_work_224 (by decide) ?_
            refine mr_goto 229 dd_Mo_work_225 (by decide) ?_
            refine mr_zast dd_Mo_work_229 rfl (mo_k hS 23 (by decide) rfl rfl) hj2 (Nat.lt_trans hb3 (by decide)) (mo_l hS 23 (by decide) rfl rfl hb3) (Or.inr rfl) ?_
            have hS := mo_S.up hS 23 (by decide) rfl j1 1
            generalize mm_si M (ad 23) j1 1 = M at hS ⊢
            refine mr_iinc (-1) dd_Mo_work_230 rfl (by decide) (by decide) ?_
            show mm_Z l G Y_Mo_work (mo_K a0 ad Mb K) _ 0 0 233 [some (.inr (some a0)), some (.inl (y1 + (-1))), some (.inl y2), some (.inl y3), some (.inl y4), some (.inl y5)] [] M
            refine mr_goto 3 dd_Mo_work_233 (by decide) ?_
            exact mm_fg (mm_leq (mm_le_s (mm_le_s (mm_le_n (mm_le_n (mm_le_n (mm_le_n mm_le_e))))))) (h _ M hS)
  · have h := h.2 hc115
    refine mr_aload_n dd_Mo_work_118 rfl ?_
    refine mr_getr ff_Mo_7 dd_Mo_work_119 rs_8_0 rfl hS.1 ?_
    rw [mo_p hS 0 (by decide) rfl]
    refine mr_iload dd_Mo_work_122 rfl ?_
    obtain ⟨j6, hj7, hb8, h⟩ := h
    refine mr_iald dd_Mo_work_124 rfl (mo_k hS 0 (by decide) rfl rfl) hj7 (Nat.lt_trans hb8 (by decide)) (mo_l hS 0 (by decide) rfl rfl hb8) ?_
    rw [mo_i hS 0 (by decide) rfl rfl hb8]
    refine mr_if_le 183 dd_Mo_work_125 (by decide) (fun hc125 => ?_) (fun hc125 => ?_)
    · have h := h.1 hc125
      refine mr_iinc 1 dd_Mo_work_183 rfl (by decide) (by decide) ?_
      show mm_Z l G Y_Mo_work (mo_K a0 ad Mb K) _ 0 0 186 [some (.inr (some a0)), some (.inl y1), some (.inl y2), some (.inl y3), some (.inl y4), some (.inl (y5 + 1))] [] M
      refine mr_goto 111 dd_Mo_work_186 (by decide) ?_
      exact h _ M hS
    · have h := h.2 hc125
      refine mr_aload_n dd_Mo_work_128 rfl ?_
      refine mr_getr ff_Mo_13 dd_Mo_work_129 rs_8_1 rfl hS.1 ?_
      rw [mo_p hS 1 (by decide) rfl]
      refine mr_iload dd_Mo_work_132 rfl ?_
      refine mr_iald dd_Mo_work_134 rfl (mo_k hS 1 (by decide) rfl rfl) hj7 (Nat.lt_trans hb8 (by decide)) (mo_l hS 1 (by decide) rfl rfl hb8) ?_
      rw [mo_i hS 1 (by decide) rfl rfl hb8]
      refine mr_iload_n dd_Mo_work_135 rfl ?_
      refine mr_icmp_ne 183 dd_Mo_work_136 (by decide) (fun hc136 => ?_) (fun hc136 => ?_)
      · have h := h.1 hc136
        refine mr_iinc 1 dd_Mo_work_183 rfl (by decide) (by decide) ?_
        show mm_Z l G Y_Mo_work (mo_K a0 ad Mb K) _ 0 0 186 [some (.inr (some a0)), some (.inl y1), some (.inl y2), some (.inl y3), some (.inl y4), some (.inl (y5 + 1))] [] M
        refine mr_goto 111 dd_Mo_work_186 (by decide) ?_
        exact h _ M hS
      · have h := h.2 hc136
        refine mr_aload_n dd_Mo_work_139 rfl ?_
        refine mr_getr ff_Mo_71 dd_Mo_work_140 rs_8_23 rfl hS.1 ?_
        rw [mo_p hS 23 (by decide) rfl]
        refine mr_iload dd_Mo_work_143 rfl ?_
        refine mr_zald dd_Mo_work_145 rfl (mo_k hS 23 (by decide) rfl rfl) hj7 (Nat.lt_trans hb8 (by decide)) (mo_l hS 23 (by decide) rfl rfl hb8) ?_
        rw [mo_i hS 23 (by decide) rfl rfl hb8]
        refine mr_if_eq 183 dd_Mo_work_146 (by decide) (fun hc146 => ?_) (fun hc146 => ?_)
        · have h := h.1 hc146
          refine mr_iinc 1 dd_Mo_work_183 rfl (by decide) (by decide) ?_
          show mm_Z l G Y_Mo_work (mo_K a0 ad Mb K) _ 0 0 186 [some (.inr (some a0)), some (.inl y1), some (.inl y2), some (.inl y3), some (.inl y4), some (.inl (y5 + 1))] [] M
          refine mr_goto 111 dd_Mo_work_186 (by decide) ?_
          exact h _ M hS
        · have h := h.2 hc146
          refine mr_iconst 1 dd_Mo_work_149 (by decide) ?_
          refine mr_istore_n dd_Mo_work_150 (by decide) ?_
          show mm_Z l G Y_Mo_work (mo_K a0 ad Mb K) _ 0 0 151 [some (.inr (some a0)), some (.inl y1), some (.inl y2), some (.inl 1), some (.inl y4), some (.inl y5)] [] M
          refine mr_iload dd_Mo_work_151 rfl ?_
          refine mr_aload_n dd_Mo_work_153 rfl ?_
          refine mr_getr ff_Mo_19 dd_Mo_work_154 rs_8_3 rfl hS.1 ?_
          rw [mo_p hS 3 (by decide) rfl]
          refine mr_iload dd_Mo_work_157 rfl ?_
          refine mr_zald dd_Mo_work_159 rfl (mo_k hS 3 (by decide) rfl rfl) hj7 (Nat.lt_trans hb8 (by decide)) (mo_l hS 3 (by decide) rfl rfl hb8) ?_
          rw [mo_i hS 3 (by decide) rfl rfl hb8]
          refine mr_if_eq 173 dd_Mo_work_160 (by decide) (fun hc160 => ?_) (fun hc160 => ?_)
          · have h := h.1 hc160
            refine mr_aload_n dd_Mo_work_173 rfl ?_
            refine mr_getr ff_Mo_68 dd_Mo_work_174 rs_8_22 rfl hS.1 ?_
            rw [mo_p hS 22 (by decide) rfl]
            refine mr_iload dd_Mo_work_177 rfl ?_
            refine mr_iald dd_Mo_work_179 rfl (mo_k hS 22 (by decide) rfl rfl) hj7 (Nat.lt_trans hb8 (by decide)) (mo_l hS 22 (by decide) rfl rfl hb8) ?_
            rw [mo_i hS 22 (by decide) rfl rfl hb8]
            refine mr_iadd dd_Mo_work_180 ?_
            refine mr_istore dd_Mo_work_181 (by decide) ?_
            show mm_Z l G Y_Mo_work (mo_K a0 ad Mb K) _ 0 0 183 [some (.inr (some a0)), some (.inl y1), some (.inl y2), some (.inl 1), some (.inl (y4 + (A 22 j6))), some (.inl y5)] [] M
            refine mr_iinc 1 dd_Mo_work_183 rfl (by decide) (by decide) ?_
            show mm_Z l G Y_Mo_work (mo_K a0 ad Mb K) _ 0 0 186 [some (.inr (some a0)), some (.inl y1), some (.inl y2), some (.inl 1), some (.inl (y4 + (A 22 j6))), some (.inl (y5 + 1))] [] M
            refine mr_goto 111 dd_Mo_work_186 (by decide) ?_
            exact h _ M hS
          · have h := h.2 hc160
            refine mr_aload_n dd_Mo_work_163 rfl ?_
            refine mr_getr ff_Mo_16 dd_Mo_work_164 rs_8_2 rfl hS.1 ?_
            rw [mo_p hS 2 (by decide) rfl]
            refine mr_iload dd_Mo_work_167 rfl ?_
            refine mr_iald dd_Mo_work_169 rfl (mo_k hS 2 (by decide) rfl rfl) hj7 (Nat.lt_trans hb8 (by decide)) (mo_l hS 2 (by decide) rfl rfl hb8) ?_
            rw [mo_i hS 2 (by decide) rfl rfl hb8]
            refine mr_goto 180 dd_Mo_work_170 (by decide) ?_
            refine mr_iadd dd_Mo_work_180 ?_
            refine mr_istore dd_Mo_work_181 (by decide) ?_
            show mm_Z l G Y_Mo_work (mo_K a0 ad Mb K) _ 0 0 183 [some (.inr (some a0)), some (.inl y1), some (.inl y2), some (.inl 1), some (.inl (y4 + (A 2 j6))), some (.inl y5)] [] M
            refine mr_iinc 1 dd_Mo_work_183 rfl (by decide) (by decide) ?_
            show mm_Z l G Y_Mo_work (mo_K a0 ad Mb K) _ 0 0 186 [some (.inr (some a0)), some (.inl y1), some (.inl y2), some (.inl 1), some (.inl (y4 + (A 2 j6))), some (.inl (y5 + 1))] [] M
            refine mr_goto 111 dd_Mo_work_186 (by decide) ?_
            exact h _ M hS
set_option maxHeartbeats 4000000 in
set_option maxRecDepth 100000 in
theorem mg_frozen {l : Launch} {G : mm_G} {K : Option mm_V → mo_A → Prop} {a0 : Nat} {ad : Nat → Nat} {Mb : mm_M} {A : mo_A} {xa : Int32}
    (h : (xa < 9 → K (some (.inl 0)) A) ∧ (¬ xa < 9 → (12 < xa → K (some (.inl 0)) A) ∧ (¬ 12 < xa → ∃ j1 : Nat, (xa - 9) = nI j1 ∧ j1 < 4 ∧ (¬ (A 15 j1) = 2 → K (some (.inl 0)) A) ∧ ((A 15 j1) = 2 → K (some (.inl 1)) A)))) :
    mo_Ok l G yy_Mo_frozen Y_Mo_frozen [.inr (some a0), .inl xa] a0 ad Mb A K := by
  intro M hS
  refine mm_go (by decide) rfl (fun q => by cases q) (Nat.le_of_ble_eq_true rfl) ?_
  show mm_Z l G Y_Mo_frozen (mo_K a0 ad Mb K) _ 0 0 0 [some (.inr (some a0)), some (.inl xa)] [] M
  refine mr_iload_n dd_Mo_frozen_0 rfl ?_
  refine mr_bipush 9 dd_Mo_frozen_1 (by decide) ?_
  refine mr_icmp_lt 29 dd_Mo_frozen_3 (by decide) (fun hc3 => ?_) (fun hc3 => ?_)
  · have h := h.1 hc3
    refine mr_iconst 0 dd_Mo_frozen_29 (by decide) ?_
    exact mr_zreturn dd_Mo_frozen_30 rfl (Or.inl rfl) ⟨_, hS, h⟩
  · have h := h.2 hc3
    refine mr_iload_n dd_Mo_frozen_6 rfl ?_
    refine mr_bipush 12 dd_Mo_frozen_7 (by decide) ?_
    refine mr_icmp_gt 29 dd_Mo_frozen_9 (by decide) (fun hc9 => ?_) (fun hc9 => ?_)
    · have h := h.1 hc9
      refine mr_iconst 0 dd_Mo_frozen_29 (by decide) ?_
      exact mr_zreturn dd_Mo_frozen_30 rfl (Or.inl rfl) ⟨_, hS, h⟩
    · have h := h.2 hc9
      refine mr_aload_n dd_Mo_frozen_12 rfl ?_
      refine mr_getr ff_Mo_50 dd_Mo_frozen_13 rs_8_15 rfl hS.1 ?_
      rw [mo_p hS 15 (by decide) rfl]
      refine mr_iload_n dd_Mo_frozen_16 rfl ?_
      refine mr_bipush 9 dd_Mo_frozen_17 (by decide) ?_
      refine mr_isub dd_Mo_frozen_19 ?_
      obtain ⟨j1, hj2, hb3, h⟩ := h
      refine mr_iald dd_Mo_frozen_20 rfl (mo_k hS 15 (by decide) rfl rfl) hj2 (Nat.lt_trans hb3 (by decide)) (mo_l hS 15 (by decide) rfl rfl hb3) ?_
      rw [mo_i hS 15 (by decide) rfl rfl hb3]
      refine mr_iconst 2 dd_Mo_frozen_21 (by decide) ?_
      refine mr_icmp_ne 29 dd_Mo_frozen_22 (by decide) (fun hc22 => ?_) (fun hc22 => ?_)
      · have h := h.1 hc22
        refine mr_iconst 0 dd_Mo_frozen_29 (by decide) ?_
        exact mr_zreturn dd_Mo_frozen_30 rfl (Or.inl rfl) ⟨_, hS, h⟩
      · have h := h.2 hc22
        refine mr_iconst 1 dd_Mo_frozen_25 (by decide) ?_
        refine mr_goto 30 dd_Mo_frozen_26 (by decide) ?_
        exact mr_zreturn dd_Mo_frozen_30 rfl (Or.inr rfl) ⟨_, hS, h⟩
set_option maxHeartbeats 4000000 in
set_option maxRecDepth 100000 in
theorem mg_pages {l : Launch} {G : mm_G} {K : Option mm_V → mo_A → Prop} {a0 : Nat} {ad : Nat → Nat} {Mb : mm_M} {A : mo_A} {xa : Int32}
    (h : mo_Z l G Y_Mo_pages K a0 ad Mb 4 [some (.inr (some a0)), some (.inl xa), some (.inl 0), some (.inl 0)] [] A) :
    mo_Ok l G yy_Mo_pages Y_Mo_pages [.inr (some a0), .inl xa] a0 ad Mb A K := by
  intro M hS
  refine mm_go (by decide) rfl (fun q => by cases q) (Nat.le_of_ble_eq_true rfl) ?_
  show mm_Z l G Y_Mo_pages (mo_K a0 ad Mb K) _ 0 0 0 [some (.inr (some a0)), some (.inl xa), none, none] [] M
  refine mr_iconst 0 dd_Mo_pages_0 (by decide) ?_
  refine mr_istore_n dd_Mo_pages_1 (by decide) ?_
  show mm_Z l G Y_Mo_pages (mo_K a0 ad Mb K) _ 0 0 2 [some (.inr (some a0)), some (.inl xa), some (.inl 0), none] [] M
  refine mr_iconst 0 dd_Mo_pages_2 (by decide) ?_
  refine mr_istore_n dd_Mo_pages_3 (by decide) ?_
  show mm_Z l G Y_Mo_pages (mo_K a0 ad Mb K) _ 0 0 4 [some (.inr (some a0)), some (.inl xa), some (.inl 0), some (.inl 0)] [] M
  exact h _ M hS
set_option maxHeartbeats 4000000 in
set_option maxRecDepth 100000 in
theorem mg_pages_4 {l : Launch} {G : mm_G} {K : Option mm_V → mo_A → Prop} {a0 : Nat} {ad : Nat → Nat} {Mb : mm_M} {A : mo_A} {y1 : Int32} {y2 : Int32} {y3 : Int32}
    (h : (24 ≤ y3 → K (some (.inl y2)) A) ∧ (¬ 24 ≤ y3 → (y1 < 0 → mo_Z l G Y_Mo_pages K a0 ad Mb 4 [some (.inr (some a0)), some (.inl y1), some (.inl (y2 + 0)), some (.inl (y3 + 1))] [] A) ∧ (¬ y1 < 0 → (13 ≤ y1 → mo_Z l G Y_Mo_pages K a0 ad Mb 4 [some (.inr (some a0)), some (.inl y1), some (.inl (y2 + 0)), some (.inl (y3 + 1))] [] A) ∧ (¬ 13 ≤ y1 → ∃ j1 : Nat, y3 = nI j1 ∧ j1 < 24 ∧ (¬ (A 11 j1) = (y1 + 1) → mo_Z l G Y_Mo_pages K a0 ad Mb 4 [some (.inr (some a0)), some (.inl y1), some (.inl (y2 + 0)), some (.inl (y3 + 1))] [] A) ∧ ((A 11 j1) = (y1 + 1) → mo_Z l G Y_Mo_pages K a0 ad Mb 4 [some (.inr (some a0)), some (.inl y1), some (.inl (y2 + 1)), some (.inl (y3 + 1))] [] A))))) :
    mo_Z l G Y_Mo_pages K a0 ad Mb 4 [some (.inr (some a0)), some (.inl y1), some (.inl y2), some (.inl y3)] [] A := by
  intro M0 M hS
  refine mr_iload_n dd_Mo_pages_4 rfl ?_
  refine mr_bipush 24 dd_Mo_pages_5 (by decide) ?_
  refine mr_icmp_ge 46 dd_Mo_pages_7 (by decide) (fun hc7 => ?_) (fun hc7 => ?_)
  · have h := h.1 hc7
    refine mr_iload_n dd_Mo_pages_46 rfl ?_
    exact mr_ireturn dd_Mo_pages_47 rfl ⟨_, hS, h⟩
  · have h := h.2 hc7
    refine mr_iload_n dd_Mo_pages_10 rfl ?_
    refine mr_iload_n dd_Mo_pages_11 rfl ?_
    refine mr_if_lt 37 dd_Mo_pages_12 (by decide) (fun hc12 => ?_) (fun hc12 => ?_)
    · have h := h.1 hc12
      refine mr_iconst 0 dd_Mo_pages_37 (by decide) ?_
      refine mr_iadd dd_Mo_pages_38 ?_
      refine mr_istore_n dd_Mo_pages_39 (by decide) ?_
      show mm_Z l G Y_Mo_pages (mo_K a0 ad Mb K) _ 0 0 40 [some (.inr (some a0)), some (.inl y1), some (.inl (y2 + 0)), some (.inl y3)] [] M
      refine mr_iinc 1 dd_Mo_pages_40 rfl (by decide) (by decide) ?_
      show mm_Z l G Y_Mo_pages (mo_K a0 ad Mb K) _ 0 0 43 [some (.inr (some a0)), some (.inl y1), some (.inl (y2 + 0)), some (.inl (y3 + 1))] [] M
      refine mr_goto 4 dd_Mo_pages_43 (by decide) ?_
      exact h _ M hS
    · have h := h.2 hc12
      refine mr_iload_n dd_Mo_pages_15 rfl ?_
      refine mr_bipush 13 dd_Mo_pages_16 (by decide) ?_
      refine mr_icmp_ge 37 dd_Mo_pages_18 (by decide) (fun hc18 => ?_) (fun hc18 => ?_)
      · have h := h.1 hc18
        refine mr_iconst 0 dd_Mo_pages_37 (by decide) ?_
        refine mr_iadd dd_Mo_pages_38 ?_
        refine mr_istore_n dd_Mo_pages_39 (by decide) ?_
        show mm_Z l G Y_Mo_pages (mo_K a0 ad Mb K) _ 0 0 40 [some (.inr (some a0)), some (.inl y1), some (.inl (y2 + 0)), some (.inl y3)] [] M
        refine mr_iinc 1 dd_Mo_pages_40 rfl (by decide) (by decide) ?_
        show mm_Z l G Y_Mo_pages (mo_K a0 ad Mb K) _ 0 0 43 [some (.inr (some a0)), some (.inl y1), some (.inl (y2 + 0)), some (.inl (y3 + 1))] [] M
        refine mr_goto 4 dd_Mo_pages_43 (by decide) ?_
        exact h _ M hS
      · have h := h.2 hc18
        refine mr_aload_n dd_Mo_pages_21 rfl ?_
        refine mr_getr ff_Mo_41 dd_Mo_pages_22 rs_8_11 rfl hS.1 ?_
        rw [mo_p hS 11 (by decide) rfl]
        refine mr_iload_n dd_Mo_pages_25 rfl ?_
        obtain ⟨j1, hj2, hb3, h⟩ := h
        refine mr_iald dd_Mo_pages_26 rfl (mo_k hS 11 (by decide) rfl rfl) hj2 (Nat.lt_trans hb3 (by decide)) (mo_l hS 11 (by decide) rfl rfl hb3) ?_
        rw [mo_i hS 11 (by decide) rfl rfl hb3]
        refine mr_iload_n dd_Mo_pages_27 rfl ?_
        refine mr_iconst 1 dd_Mo_pages_28 (by decide) ?_
        refine mr_iadd dd_Mo_pages_29 ?_
        refine mr_icmp_ne 37 dd_Mo_pages_30 (by decide) (fun hc30 => ?_) (fun hc30 => ?_)
        · have h := h.1 hc30
          refine mr_iconst 0 dd_Mo_pages_37 (by decide) ?_
          refine mr_iadd dd_Mo_pages_38 ?_
          refine mr_istore_n dd_Mo_pages_39 (by decide) ?_
          show mm_Z l G Y_Mo_pages (mo_K a0 ad Mb K) _ 0 0 40 [some (.inr (some a0)), some (.inl y1), some (.inl (y2 + 0)), some (.inl y3)] [] M
          refine mr_iinc 1 dd_Mo_pages_40 rfl (by decide) (by decide) ?_
          show mm_Z l G Y_Mo_pages (mo_K a0 ad Mb K) _ 0 0 43 [some (.inr (some a0)), some (.inl y1), some (.inl (y2 + 0)), some (.inl (y3 + 1))] [] M
          refine mr_goto 4 dd_Mo_pages_43 (by decide) ?_
          exact h _ M hS
        · have h := h.2 hc30
          refine mr_iconst 1 dd_Mo_pages_33 (by decide) ?_
          refine mr_goto 38 dd_Mo_pages_34 (by decide) ?_
          refine mr_iadd dd_Mo_pages_38 ?_
          refine mr_istore_n dd_Mo_pages_39 (by decide) ?_
          show mm_Z l G Y_Mo_pages (mo_K a0 ad Mb K) _ 0 0 40 [some (.inr (some a0)), some (.inl y1), some (.inl (y2 + 1)), some (.inl y3)] [] M
          refine mr_iinc 1 dd_Mo_pages_40 rfl (by decide) (by decide) ?_
          show mm_Z l G Y_Mo_pages (mo_K a0 ad Mb K) _ 0 0 43 [some (.inr (some a0)), some (.inl y1), some (.inl (y2 + 1)), some (.inl (y3 + 1))] [] M
          refine mr_goto 4 dd_Mo_pages_43 (by decide) ?_
          exact h _ M hS
set_option maxHeartbeats 4000000 in
set_option maxRecDepth 100000 in
theorem mg_kill {l : Launch} {G : mm_G} {K : Option mm_V → mo_A → Prop} {a0 : Nat} {ad : Nat → Nat} {Mb : mm_M} {A : mo_A} {xa : Int32}
    (h : mo_Ok l G yy_Mo_lives Y_Mo_lives [.inr (some a0), .inl xa] a0 ad Mb A (fun r B => B = A ∧ ∃ x2 : Int32, r = some (.inl x2) ∧ (x2 = 0 → K (some (.inl 0)) A) ∧ (¬ x2 = 0 → (xa = 0 → K (some (.inl 0)) A) ∧ (¬ xa = 0 → ∃ j3 : Nat, xa = nI j3 ∧ j3 < 8 ∧ (¬ (A 0 j3) = 3 → (¬ (A 0 j3) = 1 → K (some (.inl 1)) (mo_u A 0 j3 3)) ∧ ((A 0 j3) = 1 → mo_Ok l G yy_Mo_die Y_Mo_die [.inr (some a0), .inl xa] a0 ad Mb A (fun r A6 => r = none ∧ K (some (.inl 1)) A6))) ∧ ((A 0 j3) = 3 → K (some (.inl 0)) A))))) :
    mo_Ok l G yy_Mo_kill Y_Mo_kill [.inr (some a0), .inl xa] a0 ad Mb A K := by
  intro M hS
  refine mm_go (by decide) rfl (fun q => by cases q) (Nat.le_of_ble_eq_true rfl) ?_
  show mm_Z l G Y_Mo_kill (mo_K a0 ad Mb K) _ 0 0 0 [some (.inr (some a0)), some (.inl xa)] [] M
  refine mr_aload_n dd_Mo_kill_0 rfl ?_
  refine mr_iload_n dd_Mo_kill_1 rfl ?_
  refine mr_callV0 (Yc := Y_Mo_lives) (M := M) (st := []) (vs := [.inl xa]) (ci := 8) fc_Mo_89 iv_Mo_lives sv_Mo_lives dd_Mo_kill_2 ⟨Nat.le_of_ble_eq_true rfl, Nat.le_of_ble_eq_true rfl⟩ (by decide) rfl rfl (Nat.le_of_ble_eq_true rfl) rfl hS.1 rfl rfl (h M hS) (fun r M _ h => ?_)
  obtain ⟨B, hS, hB, h⟩ := h
  rw [hB] at hS
  obtain ⟨x2, rfl, h⟩ := h
  show mm_Z l G Y_Mo_kill (mo_K a0 ad Mb K) _ 0 0 5 [some (.inr (some a0)), some (.inl xa)] [.inl x2] M
  refine mr_if_eq 22 dd_Mo_kill_5 (by decide) (fun hc5 => ?_) (fun hc5 => ?_)
  · have h := h.1 hc5
    refine mr_iconst 0 dd_Mo_kill_22 (by decide) ?_
    exact mr_zreturn dd_Mo_kill_23 rfl (Or.inl rfl) ⟨_, hS, h⟩
  · have h := h.2 hc5
    refine mr_iload_n dd_Mo_kill_8 rfl ?_
    refine mr_if_eq 22 dd_Mo_kill_9 (by decide) (fun hc9 => ?_) (fun hc9 => ?_)
    · have h := h.1 hc9
      refine mr_iconst 0 dd_Mo_kill_22 (by decide) ?_
      exact mr_zreturn dd_Mo_kill_23 rfl (Or.inl rfl) ⟨_, hS, h⟩
    · have h := h.2 hc9
      refine mr_aload_n dd_Mo_kill_12 rfl ?_
      refine mr_getr ff_Mo_7 dd_Mo_kill_13 rs_8_0 rfl hS.1 ?_
      rw [mo_p hS 0 (by decide) rfl]
      refine mr_iload_n dd_Mo_kill_16 rfl ?_
      obtain ⟨j3, hj4, hb5, h⟩ := h
      refine mr_iald dd_Mo_kill_17 rfl (mo_k hS 0 (by decide) rfl rfl) hj4 (Nat.lt_trans hb5 (by decide)) (mo_l hS 0 (by decide) rfl rfl hb5) ?_
      rw [mo_i hS 0 (by decide) rfl rfl hb5]
      refine mr_iconst 3 dd_Mo_kill_18 (by decide) ?_
      refine mr_icmp_ne 24 dd_Mo_kill_19 (by decide) (fun hc19 => ?_) (fun hc19 => ?_)
      · have h := h.1 hc19
        refine mr_aload_n dd_Mo_kill_24 rfl ?_
        refine mr_getr ff_Mo_7 dd_Mo_kill_25 rs_8_0 rfl hS.1 ?_
        rw [mo_p hS 0 (by decide) rfl]
        refine mr_iload_n dd_Mo_kill_28 rfl ?_
        refine mr_iald dd_Mo_kill_29 rfl (mo_k hS 0 (by decide) rfl rfl) hj4 (Nat.lt_trans hb5 (by decide)) (mo_l hS 0 (by decide) rfl rfl hb5) ?_
        rw [mo_i hS 0 (by decide) rfl rfl hb5]
        refine mr_iconst 1 dd_Mo_kill_30 (by decide) ?_
        refine mr_icmp_ne 42 dd_Mo_kill_31 (by decide) (fun hc31 => ?_) (fun hc31 => ?_)
        · have h := h.1 hc31
          refine mr_aload_n dd_Mo_kill_42 rfl ?_
          refine mr_getr ff_Mo_7 dd_Mo_kill_43 rs_8_0 rfl hS.1 ?_
          rw [mo_p hS 0 (by decide) rfl]
          refine mr_iload_n dd_Mo_kill_46 rfl ?_
          refine mr_iconst 3 dd_Mo_kill_47 (by decide) ?_
          refine mr_iast dd_Mo_kill_48 rfl (mo_k hS 0 (by decide) rfl rfl) hj4 (Nat.lt_trans hb5 (by decide)) (mo_l hS 0 (by decide) rfl rfl hb5) ?_
          have hS := mo_S.up hS 0 (by decide) rfl j3 3
          generalize mm_si M (ad 0) j3 3 = M at hS ⊢
          refine mr_iconst 1 dd_Mo_kill_49 (by decide) ?_
          exact mr_zreturn dd_Mo_kill_50 rfl (Or.inr rfl) ⟨_, hS, h⟩
        · have h := h.2 hc31
          refine mr_aload_n dd_Mo_kill_34 rfl ?_
          refine mr_iload_n dd_Mo_kill_35 rfl ?_
          refine mr_callV0 (Yc := Y_Mo_die) (M := M) (st := []) (vs := [.inl xa]) (ci := 8) fc_Mo_127 iv_Mo_die sv_Mo_die dd_Mo_kill_36 ⟨Nat.le_of_ble_eq_true rfl, Nat.le_of_ble_eq_true rfl⟩ (by decide) rfl rfl (Nat.le_of_ble_eq_true rfl) rfl hS.1 rfl rfl (h M hS) (fun r M _ h => ?_)
          obtain ⟨A6, hS, h⟩ := h
          obtain ⟨rfl, h⟩ := h
          show mm_Z l G Y_Mo_kill (mo_K a0 ad Mb K) _ 0 0 39 [some (.inr (some a0)), some (.inl xa)] [] M
          refine mr_goto 49 dd_Mo_kill_39 (by decide) ?_
          refine mr_iconst 1 dd_Mo_kill_49 (by decide) ?_
          exact mr_zreturn dd_Mo_kill_50 rfl (Or.inr rfl) ⟨_, hS, h⟩
      · have h := h.2 hc19
        refine mr_iconst 0 dd_Mo_kill_22 (by decide) ?_
        exact mr_zreturn dd_Mo_kill_23 rfl (Or.inl rfl) ⟨_, hS, h⟩
set_option maxHeartbeats 4000000 in
set_option maxRecDepth 100000 in
theorem mg_die {l : Launch} {G : mm_G} {K : Option mm_V → mo_A → Prop} {a0 : Nat} {ad : Nat → Nat} {Mb : mm_M} {A : mo_A} {xa : Int32}
    (h : ∃ j1 : Nat, xa = nI j1 ∧ j1 < 8 ∧ mo_Z l G Y_Mo_die K a0 ad Mb 9 [some (.inr (some a0)), some (.inl xa), some (.inl 0), none] [] (mo_u A 0 j1 4)) :
    mo_Ok l G yy_Mo_die Y_Mo_die [.inr (some a0), .inl xa] a0 ad Mb A K := by
  intro M hS
  refine mm_go (by decide) rfl (fun q => by cases q) (Nat.le_of_ble_eq_true rfl) ?_
  show mm_Z l G Y_Mo_die (mo_K a0 ad Mb K) _ 0 0 0 [some (.inr (some a0)), some (.inl xa), none, none] [] M
  refine mr_aload_n dd_Mo_die_0 rfl ?_
  refine mr_getr ff_Mo_7 dd_Mo_die_1 rs_8_0 rfl hS.1 ?_
  rw [mo_p hS 0 (by decide) rfl]
  refine mr_iload_n dd_Mo_die_4 rfl ?_
  refine mr_iconst 4 dd_Mo_die_5 (by decide) ?_
  obtain ⟨j1, hj2, hb3, h⟩ := h
  refine mr_iast dd_Mo_die_6 rfl (mo_k hS 0 (by decide) rfl rfl) hj2 (Nat.lt_trans hb3 (by decide)) (mo_l hS 0 (by decide) rfl rfl hb3) ?_
  have hS := mo_S.up hS 0 (by decide) rfl j1 4
  generalize mm_si M (ad 0) j1 4 = M at hS ⊢
  refine mr_iconst 0 dd_Mo_die_7 (by decide) ?_
  refine mr_istore_n dd_Mo_die_8 (by decide) ?_
  show mm_Z l G Y_Mo_die (mo_K a0 ad Mb K) _ 0 0 9 [some (.inr (some a0)), some (.inl xa), some (.inl 0), none] [] M
  exact h _ M hS
set_option maxHeartbeats 4000000 in
set_option maxRecDepth 100000 in
theorem mg_die_9 {l : Launch} {G : mm_G} {K : Option mm_V → mo_A → Prop} {a0 : Nat} {ad : Nat → Nat} {Mb : mm_M} {A : mo_A} {y1 : Int32} {y2 : Int32}
    (h : (4 ≤ y2 → mo_Ok l G yy_Mo_merge Y_Mo_merge [.inr (some a0), .inl y1] a0 ad Mb A (fun r A1 => r = none ∧ mo_Z l G Y_Mo_die K a0 ad Mb 86 [some (.inr (some a0)), some (.inl y1), some (.inl 0), none] [] A1)) ∧ (¬ 4 ≤ y2 → ∃ j2 : Nat, ((4 * y1) + y2) = nI j2 ∧ j2 < 32 ∧ ∃ j5 : Nat, y2 = nI j5 ∧ j5 < 4 ∧ (¬ ((mo_u (mo_u A 5 j2 0) 19 j2 0) 15 j5) = 2 → mo_Z l G Y_Mo_die K a0 ad Mb 9 [some (.inr (some a0)), some (.inl y1), some (.inl (y2 + 1)), none] [] (mo_u (mo_u (mo_u A 5 j2 0) 19 j2 0) 20 j2 0)) ∧ (((mo_u (mo_u A 5 j2 0) 19 j2 0) 15 j5) = 2 → mo_Ok l G yy_Mo_names Y_Mo_names [.inr (some a0), .inl y1, .inl (9 + y2)] a0 ad Mb (mo_u (mo_u A 5 j2 0) 19 j2 0) (fun r B => B = mo_u (mo_u A 5 j2 0) 19 j2 0 ∧ ∃ x9 : Int32, r = some (.inl x9) ∧ (x9 = 0 → mo_Z l G Y_Mo_die K a0 ad Mb 9 [some (.inr (some a0)), some (.inl y1), some (.inl (y2 + 1)), none] [] (mo_u (mo_u (mo_u A 5 j2 0) 19 j2 0) 20 j2 0)) ∧ (¬ x9 = 0 → mo_Z l G Y_Mo_die K a0 ad Mb 9 [some (.inr (some a0)), some (.inl y1), some (.inl (y2 + 1)), none] [] (mo_u (mo_u (mo_u A 5 j2 0) 19 j2 0) 20 j2 1)))))) :
    mo_Z l G Y_Mo_die K a0 ad Mb 9 [some (.inr (some a0)), some (.inl y1), some (.inl y2), none] [] A := by
  intro M0 M hS
  refine mr_iload_n dd_Mo_die_9 rfl ?_
  refine mr_iconst 4 dd_Mo_die_10 (by decide) ?_
  refine mr_icmp_ge 79 dd_Mo_die_11 (by decide) (fun hc11 => ?_) (fun hc11 => ?_)
  · have h := h.1 hc11
    refine mr_aload_n dd_Mo_die_79 rfl ?_
    refine mr_iload_n dd_Mo_die_80 rfl ?_
    refine mr_callV0 (Yc := Y_Mo_merge) (M := M) (st := []) (vs := [.inl y1]) (ci := 8) fc_Mo_121 iv_Mo_merge sv_Mo_merge dd_Mo_die_81 ⟨Nat.le_of_ble_eq_true rfl, Nat.le_of_ble_eq_true rfl⟩ (by decide) rfl rfl (Nat.le_of_ble_eq_true rfl) rfl hS.1 rfl rfl (h M hS) (fun r M _ h => ?_)
    obtain ⟨A1, hS, h⟩ := h
    obtain ⟨rfl, h⟩ := h
    show mm_Z l G Y_Mo_die (mo_K a0 ad Mb K) _ 0 0 84 [some (.inr (some a0)), some (.inl y1), some (.inl y2), none] [] M
    refine mr_iconst 0 dd_Mo_die_84 (by decide) ?_
    refine mr_istore_n dd_Mo_die_85 (by decide) ?_
    show mm_Z l G Y_Mo_die (mo_K a0 ad Mb K) _ 0 0 86 [some (.inr (some a0)), some (.inl y1), some (.inl 0), none] [] M
    exact h _ M hS
  · have h := h.2 hc11
    refine mr_aload_n dd_Mo_die_14 rfl ?_
    refine mr_getr ff_Mo_23 dd_Mo_die_15 rs_8_5 rfl hS.1 ?_
    rw [mo_p hS 5 (by decide) rfl]
    refine mr_iconst 4 dd_Mo_die_18 (by decide) ?_
    refine mr_iload_n dd_Mo_die_19 rfl ?_
    refine mr_imul dd_Mo_die_20 ?_
    refine mr_iload_n dd_Mo_die_21 rfl ?_
    refine mr_iadd dd_Mo_die_22 ?_
    refine mr_iconst 0 dd_Mo_die_23 (by decide) ?_
    obtain ⟨j2, hj3, hb4, h⟩ := h
    refine mr_iast dd_Mo_die_24 rfl (mo_k hS 5 (by decide) rfl rfl) hj3 (Nat.lt_trans hb4 (by decide)) (mo_l hS 5 (by decide) rfl rfl hb4) ?_
    have hS := mo_S.up hS 5 (by decide) rfl j2 0
    generalize mm_si M (ad 5) j2 0 = M at hS ⊢
    refine mr_aload_n dd_Mo_die_25 rfl ?_
    refine mr_getr ff_Mo_59 dd_Mo_die_26 rs_8_19 rfl hS.1 ?_
    rw [mo_p hS 19 (by decide) rfl]
    refine mr_iconst 4 dd_Mo_die_29 (by decide) ?_
    refine mr_iload_n dd_Mo_die_30 rfl ?_
    refine mr_imul dd_Mo_die_31 ?_
    refine mr_iload_n dd_Mo_die_32 rfl ?_
    refine mr_iadd dd_Mo_die_33 ?_
    refine mr_iconst 0 dd_Mo_die_34 (by decide) ?_
    refine mr_zast dd_Mo_die_35 rfl (mo_k hS 19 (by decide) rfl rfl) hj3 (Nat.lt_trans hb4 (by decide)) (mo_l hS 19 (by decide) rfl rfl hb4) (Or.inl rfl) ?_
    have hS := mo_S.up hS 19 (by decide) rfl j2 0
    generalize mm_si M (ad 19) j2 0 = M at hS ⊢
    refine mr_aload_n dd_Mo_die_36 rfl ?_
    refine mr_getr ff_Mo_62 dd_Mo_die_37 rs_8_20 rfl hS.1 ?_
    rw [mo_p hS 20 (by decide) rfl]
    refine mr_iconst 4 dd_Mo_die_40 (by decide) ?_
    refine mr_iload_n dd_Mo_die_41 rfl ?_
    refine mr_imul dd_Mo_die_42 ?_
    refine mr_iload_n dd_Mo_die_43 rfl ?_
    refine mr_iadd dd_Mo_die_44 ?_
    refine mr_aload_n dd_Mo_die_45 rfl ?_
    refine mr_getr ff_Mo_50 dd_Mo_die_46 rs_8_15 rfl hS.1 ?_
    rw [mo_p hS 15 (by decide) rfl]
    refine mr_iload_n dd_Mo_die_49 rfl ?_
    obtain ⟨j5, hj6, hb7, h⟩ := h
    refine mr_iald dd_Mo_die_50 rfl (mo_k hS 15 (by decide) rfl rfl) hj6 (Nat.lt_trans hb7 (by decide)) (mo_l hS 15 (by decide) rfl rfl hb7) ?_
    rw [mo_i hS 15 (by decide) rfl rfl hb7]
    refine mr_iconst 2 dd_Mo_die_51 (by decide) ?_
    refine mr_icmp_ne 71 dd_Mo_die_52 (by decide) (fun hc52 => ?_) (fun hc52 => ?_)
    · have h := h.1 hc52
      refine mr_iconst 0 dd_Mo_die_71 (by decide) ?_
      refine mr_zast dd_Mo_die_72 rfl (mo_k hS 20 (by decide) rfl rfl) hj3 (Nat.lt_trans hb4 (by decide)) (mo_l hS 20 (by decide) rfl rfl hb4) (Or.inl rfl) ?_
      have hS := mo_S.up hS 20 (by decide) rfl j2 0
      generalize mm_si M (ad 20) j2 0 = M at hS ⊢
      refine mr_iinc 1 dd_Mo_die_73 rfl (by decide) (by decide) ?_
      show mm_Z l G Y_Mo_die (mo_K a0 ad Mb K) _ 0 0 76 [some (.inr (some a0)), some (.inl y1), some (.inl (y2 + 1)), none] [] M
      refine mr_goto 9 dd_Mo_die_76 (by decide) ?_
      exact h _ M hS
    · have h := h.2 hc52
      refine mr_aload_n dd_Mo_die_55 rfl ?_
      refine mr_iload_n dd_Mo_die_56 rfl ?_
      refine mr_bipush 9 dd_Mo_die_57 (by decide) ?_
      refine mr_iload_n dd_Mo_die_59 rfl ?_
      refine mr_iadd dd_Mo_die_60 ?_
      refine mr_callV0 (Yc := Y_Mo_names) (M := M) (st := [.inl ((4 * y1) + y2), .inr (some (ad 20))]) (vs := [.inl y1, .inl (9 + y2)]) (ci := 8) fc_Mo_109 iv_Mo_names sv_Mo_names dd_Mo_die_61 ⟨Nat.le_of_ble_eq_true rfl, Nat.le_of_ble_eq_true rfl⟩ (by decide) rfl rfl (Nat.le_of_ble_eq_true rfl) rfl hS.1 rfl rfl (h M hS) (fun r M _ h => ?_)
      obtain ⟨B, hS, hB, h⟩ := h
      rw [hB] at hS
      obtain ⟨x9, rfl, h⟩ := h
      show mm_Z l G Y_Mo_die (mo_K a0 ad Mb K) _ 0 0 64 [some (.inr (some a0)), some (.inl y1), some (.inl y2), none] [.inl x9, .inl ((4 * y1) + y2), .inr (some (ad 20))] M
      refine mr_if_eq 71 dd_Mo_die_64 (by decide) (fun hc64 => ?_) (fun hc64 => ?_)
      · have h := h.1 hc64
        refine mr_iconst 0 dd_Mo_die_71 (by decide) ?_
        refine mr_zast dd_Mo_die_72 rfl (mo_k hS 20 (by decide) rfl rfl) hj3 (Nat.lt_trans hb4 (by decide)) (mo_l hS 20 (by decide) rfl rfl hb4) (Or.inl rfl) ?_
        have hS := mo_S.up hS 20 (by decide) rfl j2 0
        generalize mm_si M (ad 20) j2 0 = M at hS ⊢
        refine mr_iinc 1 dd_Mo_die_73 rfl (by decide) (by decide) ?_
        show mm_Z l G Y_Mo_die (mo_K a0 ad Mb K) _ 0 0 76 [some (.inr (some a0)), some (.inl y1), some (.inl (y2 + 1)), none] [] M
        refine mr_goto 9 dd_Mo_die_76 (by decide) ?_
        exact h _ M hS
      · have h := h.2 hc64
        refine mr_iconst 1 dd_Mo_die_67 (by decide) ?_
        refine mr_goto 72 dd_Mo_die_68 (by decide) ?_
        refine mr_zast dd_Mo_die_72 rfl (mo_k hS 20 (by decide) rfl rfl) hj3 (Nat.lt_trans hb4 (by decide)) (mo_l hS 20 (by decide) rfl rfl hb4) (Or.inr rfl) ?_
        have hS := mo_S.up hS 20 (by decide) rfl j2 1
        generalize mm_si M (ad 20) j2 1 = M at hS ⊢
        refine mr_iinc 1 dd_Mo_die_73 rfl (by decide) (by decide) ?_
        show mm_Z l G Y_Mo_die (mo_K a0 ad Mb K) _ 0 0 76 [some (.inr (some a0)), some (.inl y1), some (.inl (y2 + 1)), none] [] M
        refine mr_goto 9 dd_Mo_die_76 (by decide) ?_
        exact h _ M hS
set_option maxHeartbeats 4000000 in
set_option maxRecDepth 100000 in
theorem mg_die_86 {l : Launch} {G : mm_G} {K : Option mm_V → mo_A → Prop} {a0 : Nat} {ad : Nat → Nat} {Mb : mm_M} {A : mo_A} {y1 : Int32} {y2 : Int32}
    (h : (4 ≤ y2 → mo_Z l G Y_Mo_die K a0 ad Mb 134 [some (.inr (some a0)), some (.inl y1), some (.inl 0), none] [] A) ∧ (¬ 4 ≤ y2 → ∃ j1 : Nat, y2 = nI j1 ∧ j1 < 4 ∧ (¬ (A 15 j1) = 1 → mo_Z l G Y_Mo_die K a0 ad Mb 86 [some (.inr (some a0)), some (.inl y1), some (.inl (y2 + 1)), none] [] A) ∧ ((A 15 j1) = 1 → (¬ (A 16 j1) = y1 → mo_Z l G Y_Mo_die K a0 ad Mb 86 [some (.inr (some a0)), some (.inl y1), some (.inl (y2 + 1)), none] [] A) ∧ ((A 16 j1) = y1 → mo_Ok l G yy_Mo_merge Y_Mo_merge [.inr (some a0), .inl (9 + y2)] a0 ad Mb A (fun r A4 => r = none ∧ mo_Z l G Y_Mo_die K a0 ad Mb 86 [some (.inr (some a0)), some (.inl y1), some (.inl (y2 + 1)), none] [] (mo_u A4 15 j1 3)))))) :
    mo_Z l G Y_Mo_die K a0 ad Mb 86 [some (.inr (some a0)), some (.inl y1), some (.inl y2), none] [] A := by
  intro M0 M hS
  refine mr_iload_n dd_Mo_die_86 rfl ?_
  refine mr_iconst 4 dd_Mo_die_87 (by decide) ?_
  refine mr_icmp_ge 132 dd_Mo_die_88 (by decide) (fun hc88 => ?_) (fun hc88 => ?_)
  · have h := h.1 hc88
    refine mr_iconst 0 dd_Mo_die_132 (by decide) ?_
    refine mr_istore_n dd_Mo_die_133 (by decide) ?_
    show mm_Z l G Y_Mo_die (mo_K a0 ad Mb K) _ 0 0 134 [some (.inr (some a0)), some (.inl y1), some (.inl 0), none] [] M
    exact h _ M hS
  · have h := h.2 hc88
    refine mr_aload_n dd_Mo_die_91 rfl ?_
    refine mr_getr ff_Mo_50 dd_Mo_die_92 rs_8_15 rfl hS.1 ?_
    rw [mo_p hS 15 (by decide) rfl]
    refine mr_iload_n dd_Mo_die_95 rfl ?_
    obtain ⟨j1, hj2, hb3, h⟩ := h
    refine mr_iald dd_Mo_die_96 rfl (mo_k hS 15 (by decide) rfl rfl) hj2 (Nat.lt_trans hb3 (by decide)) (mo_l hS 15 (by decide) rfl rfl hb3) ?_
    rw [mo_i hS 15 (by decide) rfl rfl hb3]
    refine mr_iconst 1 dd_Mo_die_97 (by decide) ?_
    refine mr_icmp_ne 126 dd_Mo_die_98 (by decide) (fun hc98 => ?_) (fun hc98 => ?_)
    · have h := h.1 hc98
      refine mr_iinc 1 dd_Mo_die_126 rfl (by decide) (by decide) ?_
      show mm_Z l G Y_Mo_die (mo_K a0 ad Mb K) _ 0 0 129 [some (.inr (some a0)), some (.inl y1), some (.inl (y2 + 1)), none] [] M
      refine mr_goto 86 dd_Mo_die_129 (by decide) ?_
      exact h _ M hS
    · have h := h.2 hc98
      refine mr_aload_n dd_Mo_die_101 rfl ?_
      refine mr_getr ff_Mo_53 dd_Mo_die_102 rs_8_16 rfl hS.1 ?_
      rw [mo_p hS 16 (by decide) rfl]
      refine mr_iload_n dd_Mo_die_105 rfl ?_
      refine mr_iald dd_Mo_die_106 rfl (mo_k hS 16 (by decide) rfl rfl) hj2 (Nat.lt_trans hb3 (by decide)) (mo_l hS 16 (by decide) rfl rfl hb3) ?_
      rw [mo_i hS 16 (by decide) rfl rfl hb3]
      refine mr_iload_n dd_Mo_die_107 rfl ?_
      refine mr_icmp_ne 126 dd_Mo_die_108 (by decide) (fun hc108 => ?_) (fun hc108 => ?_)
      · have h := h.1 hc108
        refine mr_iinc 1 dd_Mo_die_126 rfl (by decide) (by decide) ?_
        show mm_Z l G Y_Mo_die (mo_K a0 ad Mb K) _ 0 0 129 [some (.inr (some a0)), some (.inl y1), some (.inl (y2 + 1)), none] [] M
        refine mr_goto 86 dd_Mo_die_129 (by decide) ?_
        exact h _ M hS
      · have h := h.2 hc108
        refine mr_aload_n dd_Mo_die_111 rfl ?_
        refine mr_bipush 9 dd_Mo_die_112 (by decide) ?_
        refine mr_iload_n dd_Mo_die_114 rfl ?_
        refine mr_iadd dd_Mo_die_115 ?_
        refine mr_callV0 (Yc := Y_Mo_merge) (M := M) (st := []) (vs := [.inl (9 + y2)]) (ci := 8) fc_Mo_121 iv_Mo_merge sv_Mo_merge dd_Mo_die_116 ⟨Nat.le_of_ble_eq_true rfl, Nat.le_of_ble_eq_true rfl⟩ (by decide) rfl rfl (Nat.le_of_ble_eq_true rfl) rfl hS.1 rfl rfl (h M hS) (fun r M _ h => ?_)
        obtain ⟨A4, hS, h⟩ := h
        obtain ⟨rfl, h⟩ := h
        show mm_Z l G Y_Mo_die (mo_K a0 ad Mb K) _ 0 0 119 [some (.inr (some a0)), some (.inl y1), some (.inl y2), none] [] M
        refine mr_aload_n dd_Mo_die_119 rfl ?_
        refine mr_getr ff_Mo_50 dd_Mo_die_120 rs_8_15 rfl hS.1 ?_
        rw [mo_p hS 15 (by decide) rfl]
        refine mr_iload_n dd_Mo_die_123 rfl ?_
        refine mr_iconst 3 dd_Mo_die_124 (by decide) ?_
        refine mr_iast dd_Mo_die_125 rfl (mo_k hS 15 (by decide) rfl rfl) hj2 (Nat.lt_trans hb3 (by decide)) (mo_l hS 15 (by decide) rfl rfl hb3) ?_
        have hS := mo_S.up hS 15 (by decide) rfl j1 3
        generalize mm_si M (ad 15) j1 3 = M at hS ⊢
        refine mr_iinc 1 dd_Mo_die_126 rfl (by decide) (by decide) ?_
        show mm_Z l G Y_Mo_die (mo_K a0 ad Mb K) _ 0 0 129 [some (.inr (some a0)), some (.inl y1), some (.inl (y2 + 1)), none] [] M
        refine mr_goto 86 dd_Mo_die_129 (by decide) ?_
        exact h _ M hS
set_option maxHeartbeats 4000000 in
set_option maxRecDepth 100000 in
theorem mg_die_134 {l : Launch} {G : mm_G} {K : Option mm_V → mo_A → Prop} {a0 : Nat} {ad : Nat → Nat} {Mb : mm_M} {A : mo_A} {y1 : Int32} {y2 : Int32}
    (h : (60 ≤ y2 → mo_Ok l G yy_Mo_vanish Y_Mo_vanish [.inr (some a0)] a0 ad Mb A (fun r A1 => r = none ∧ K none A1)) ∧ (¬ 60 ≤ y2 → ∃ j2 : Nat, ((60 * y1) + y2) = nI j2 ∧ j2 < 780 ∧ (¬ (A 21 j2) = 0 → ∃ j5 : Nat, y2 = nI j5 ∧ j5 < 60 ∧ ((A 6 j5) ≤ 0 → ∃ j8 : Nat, (480 + y2) = nI j8 ∧ j8 < 780 ∧ mo_Z l G Y_Mo_die K a0 ad Mb 134 [some (.inr (some a0)), some (.inl y1), some (.inl (y2 + 1)), none] [] (mo_u (mo_u A 21 j8 0) 21 j2 0)) ∧ (¬ (A 6 j5) ≤ 0 → ((A 6 j5) = 9 → ∃ j11 : Nat, (480 + y2) = nI j11 ∧ j11 < 780 ∧ mo_Z l G Y_Mo_die K a0 ad Mb 134 [some (.inr (some a0)), some (.inl y1), some (.inl (y2 + 1)), none] [] (mo_u (mo_u A 21 j11 0) 21 j2 0)) ∧ (¬ (A 6 j5) = 9 → ∃ j14 : Nat, (480 + y2) = nI j14 ∧ j14 < 780 ∧ mo_Z l G Y_Mo_die K a0 ad Mb 134 [some (.inr (some a0)), some (.inl y1), some (.inl (y2 + 1)), none] [] (mo_u (mo_u A 21 j14 1) 21 j2 0)))) ∧ ((A 21 j2) = 0 → ∃ j17 : Nat, (480 + y2) = nI j17 ∧ j17 < 780 ∧ ((A 21 j17) = 0 → mo_Z l G Y_Mo_die K a0 ad Mb 134 [some (.inr (some a0)), some (.inl y1), some (.inl (y2 + 1)), none] [] (mo_u (mo_u A 21 j17 0) 21 j2 0)) ∧ (¬ (A 21 j17) = 0 → ∃ j20 : Nat, y2 = nI j20 ∧ j20 < 60 ∧ ((A 6 j20) ≤ 0 → mo_Z l G Y_Mo_die K a0 ad Mb 134 [some (.inr (some a0)), some (.inl y1), some (.inl (y2 + 1)), none] [] (mo_u (mo_u A 21 j17 0) 21 j2 0)) ∧ (¬ (A 6 j20) ≤ 0 → ((A 6 j20) = 9 → mo_Z l G Y_Mo_die K a0 ad Mb 134 [some (.inr (some a0)), some (.inl y1), some (.inl (y2 + 1)), none] [] (mo_u (mo_u A 21 j17 0) 21 j2 0)) ∧ (¬ (A 6 j20) = 9 → mo_Z l G Y_Mo_die K a0 ad Mb 134 [some (.inr (some a0)), some (.inl y1), some (.inl (y2 + 1)), none] [] (mo_u (mo_u A 21 j17 1) 21 j2 0))))))) :
    mo_Z l G Y_Mo_die K a0 ad Mb 134 [some (.inr (some a0)), some (.inl y1), some (.inl y2), none] [] A := by
  intro M0 M hS
  refine mr_iload_n dd_Mo_die_134 rfl ?_
  refine mr_bipush 60 dd_Mo_die_135 (by decide) ?_
  refine mr_icmp_ge 230 dd_Mo_die_137 (by decide) (fun hc137 => ?_) (fun hc137 => ?_)
  · have h := h.1 hc137
    refine mr_aload_n dd_Mo_die_230 rfl ?_
    refine mr_callV0 (Yc := Y_Mo_vanish) (M := M) (st := []) (vs := []) (ci := 8) fc_Mo_115 iv_Mo_vanish sv_Mo_vanish dd_Mo_die_231 ⟨Nat.le_of_ble_eq_true rfl, Nat.le_of_ble_eq_true rfl⟩ (by decide) rfl rfl (Nat.le_of_ble_eq_true rfl) rfl hS.1 rfl rfl (h M hS) (fun r M _ h => ?_)
    obtain ⟨A1, hS, h⟩ := h
    obtain ⟨rfl, h⟩ := h
    show mm_Z l G Y_Mo_die (mo_K a0 ad Mb K) _ 0 0 234 [some (.inr (some a0)), some (.inl y1), some (.inl y2), none] [] M
    exact mr_return dd_Mo_die_234 rfl ⟨_, hS, h⟩
  · have h := h.2 hc137
    refine mr_aload_n dd_Mo_die_140 rfl ?_
    refine mr_getr ff_Mo_65 dd_Mo_die_141 rs_8_21 rfl hS.1 ?_
    rw [mo_p hS 21 (by decide) rfl]
    refine mr_bipush 60 dd_Mo_die_144 (by decide) ?_
    refine mr_iload_n dd_Mo_die_146 rfl ?_
    refine mr_imul dd_Mo_die_147 ?_
    refine mr_iload_n dd_Mo_die_148 rfl ?_
    refine mr_iadd dd_Mo_die_149 ?_
    obtain ⟨j2, hj3, hb4, h⟩ := h
    refine mr_zald dd_Mo_die_150 rfl (mo_k hS 21 (by decide) rfl rfl) hj3 (Nat.lt_trans hb4 (by decide)) (mo_l hS 21 (by decide) rfl rfl hb4) ?_
    rw [mo_i hS 21 (by decide) rfl rfl hb4]
    refine mr_if_ne 167 dd_Mo_die_151 (by decide) (fun hc151 => ?_) (fun hc151 => ?_)
    · have h := h.1 hc151
      refine mr_iconst 1 dd_Mo_die_167 (by decide) ?_
      refine mr_goto 172 dd_Mo_die_168 (by decide) ?_
      refine mr_istore_n dd_Mo_die_172 (by decide) ?_
      show mm_Z l G Y_Mo_die (mo_K a0 ad Mb K) _ 0 0 173 [some (.inr (some a0)), some (.inl y1), some (.inl y2), some (.inl 1)] [] M
      refine mr_aload_n dd_Mo_die_173 rfl ?_
      refine mr_getr ff_Mo_65 dd_Mo_die_174 rs_8_21 rfl hS.1 ?_
      rw [mo_p hS 21 (by decide) rfl]
      refine mr_sipush 480 dd_Mo_die_177 (by decide) ?_
      refine mr_iload_n dd_Mo_die_180 rfl ?_
      refine mr_iadd dd_Mo_die_181 ?_
      refine mr_iload_n dd_Mo_die_182 rfl ?_
      refine mr_if_eq 210 dd_Mo_die_183 (by decide) (fun q => absurd q (by decide)) (fun _ => ?_)
      refine mr_aload_n dd_Mo_die_186 rfl ?_
      refine mr_getr ff_Mo_26 dd_Mo_die_187 rs_8_6 rfl hS.1 ?_
      rw [mo_p hS 6 (by decide) rfl]
      refine mr_iload_n dd_Mo_die_190 rfl ?_
      obtain ⟨j5, hj6, hb7, h⟩ := h
      refine mr_iald dd_Mo_die_191 rfl (mo_k hS 6 (by decide) rfl rfl) hj6 (Nat.lt_trans hb7 (by decide)) (mo_l hS 6 (by decide) rfl rfl hb7) ?_
      rw [mo_i hS 6 (by decide) rfl rfl hb7]
      refine mr_if_le 210 dd_Mo_die_192 (by decide) (fun hc192 => ?_) (fun hc192 => ?_)
      · have h := h.1 hc192
        refine mr_iconst 0 dd_Mo_die_210 (by decide) ?_
        obtain ⟨j8, hj9, hb10, h⟩ := h
        refine mr_zast dd_Mo_die_211 rfl (mo_k hS 21 (by decide) rfl rfl) hj9 (Nat.lt_trans hb10 (by decide)) (mo_l hS 21 (by decide) rfl rfl hb10) (Or.inl rfl) ?_
        have hS := mo_S.up hS 21 (by decide) rfl j8 0
        generalize mm_si M (ad 21) j8 0 = M at hS ⊢
        refine mr_aload_n dd_Mo_die_212 rfl ?_
        refine mr_getr ff_Mo_65 dd_Mo_die_213 rs_8_21 rfl hS.1 ?_
        rw [mo_p hS 21 (by decide) rfl]
        refine mr_bipush 60 dd_Mo_die_216 (by decide) ?_
        refine mr_iload_n dd_Mo_die_218 rfl ?_
        refine mr_imul dd_Mo_die_219 ?_
        refine mr_iload_n dd_Mo_die_220 rfl ?_
        refine mr_iadd dd_Mo_die_221 ?_
        refine mr_iconst 0 dd_Mo_die_222 (by decide) ?_
        refine mr_zast dd_Mo_die_223 rfl (mo_k hS 21 (by decide) rfl rfl) hj3 (Nat.lt_trans hb4 (by decide)) (mo_l hS 21 (by decide) rfl rfl hb4) (Or.inl rfl) ?_
        have hS := mo_S.up hS 21 (by decide) rfl j2 0
        generalize mm_si M (ad 21) j2 0 = M at hS ⊢
        refine mr_iinc 1 dd_Mo_die_224 rfl (by decide) (by decide) ?_
        show mm_Z l G Y_Mo_die (mo_K a0 ad Mb K) _ 0 0 227 [some (.inr (some a0)), some (.inl y1), some (.inl (y2 + 1)), some (.inl 1)] [] M
        refine mr_goto 134 dd_Mo_die_227 (by decide) ?_
        exact mm_fg (mm_leq (mm_le_s (mm_le_s (mm_le_s (mm_le_n mm_le_e))))) (h _ M hS)
      · have h := h.2 hc192
        refine mr_aload_n dd_Mo_die_195 rfl ?_
        refine mr_getr ff_Mo_26 dd_Mo_die_196 rs_8_6 rfl hS.1 ?_
        rw [mo_p hS 6 (by decide) rfl]
        refine mr_iload_n dd_Mo_die_199 rfl ?_
        refine mr_iald dd_Mo_die_200 rfl (mo_k hS 6 (by decide) rfl rfl) hj6 (Nat.lt_trans hb7 (by decide)) (mo_l hS 6 (by decide) rfl rfl hb7) ?_
        rw [mo_i hS 6 (by decide) rfl rfl hb7]
        refine mr_bipush 9 dd_Mo_die_201 (by decide) ?_
        refine mr_icmp_eq 210 dd_Mo_die_203 (by decide) (fun hc203 => ?_) (fun hc203 => ?_)
        · have h := h.1 hc203
          refine mr_iconst 0 dd_Mo_die_210 (by decide) ?_
          obtain ⟨j11, hj12, hb13, h⟩ := h
          refine mr_zast dd_Mo_die_211 rfl (mo_k hS 21 (by decide) rfl rfl) hj12 (Nat.lt_trans hb13 (by decide)) (mo_l hS 21 (by decide) rfl rfl hb13) (Or.inl rfl) ?_
          have hS := mo_S.up hS 21 (by decide) rfl j11 0
          generalize mm_si M (ad 21) j11 0 = M at hS ⊢
          refine mr_aload_n dd_Mo_die_212 rfl ?_
          refine mr_getr ff_Mo_65 dd_Mo_die_213 rs_8_21 rfl hS.1 ?_
          rw [mo_p hS 21 (by decide) rfl]
          refine mr_bipush 60 dd_Mo_die_216 (by decide) ?_
          refine mr_iload_n dd_Mo_die_218 rfl ?_
          refine mr_imul dd_Mo_die_219 ?_
          refine mr_iload_n dd_Mo_die_220 rfl ?_
          refine mr_iadd dd_Mo_die_221 ?_
          refine mr_iconst 0 dd_Mo_die_222 (by decide) ?_
          refine mr_zast dd_Mo_die_223 rfl (mo_k hS 21 (by decide) rfl rfl) hj3 (Nat.lt_trans hb4 (by decide)) (mo_l hS 21 (by decide) rfl rfl hb4) (Or.inl rfl) ?_
          have hS := mo_S.up hS 21 (by decide) rfl j2 0
          generalize mm_si M (ad 21) j2 0 = M at hS ⊢
          refine mr_iinc 1 dd_Mo_die_224 rfl (by decide) (by decide) ?_
          show mm_Z l G Y_Mo_die (mo_K a0 ad Mb K) _ 0 0 227 [some (.inr (some a0)), some (.inl y1), some (.inl (y2 + 1)), some (.inl 1)] [] M
          refine mr_goto 134 dd_Mo_die_227 (by decide) ?_
          exact mm_fg (mm_leq (mm_le_s (mm_le_s (mm_le_s (mm_le_n mm_le_e))))) (h _ M hS)
        · have h := h.2 hc203
          refine mr_iconst 1 dd_Mo_die_206 (by decide) ?_
          refine mr_goto 211 dd_Mo_die_207 (by decide) ?_
          obtain ⟨j14, hj15, hb16, h⟩ := h
          refine mr_zast dd_Mo_die_211 rfl (mo_k hS 21 (by decide) rfl rfl) hj15 (Nat.lt_trans hb16 (by decide)) (mo_l hS 21 (by decide) rfl rfl hb16) (Or.inr rfl) ?_
          have hS := mo_S.up hS 21 (by decide) rfl j14 1
          generalize mm_si M (ad 21) j14 1 = M at hS ⊢
          refine mr_aload_n dd_Mo_die_212 rfl ?_
          refine mr_getr ff_Mo_65 dd_Mo_die_213 rs_8_21 rfl hS.1 ?_
          rw [mo_p hS 21 (by decide) rfl]
          refine mr_bipush 60 dd_Mo_die_216 (by decide) ?_
          refine mr_iload_n dd_Mo_die_218 rfl ?_
          refine mr_imul dd_Mo_die_219 ?_
          refine mr_iload_n dd_Mo_die_220 rfl ?_
          refine mr_iadd dd_Mo_die_221 ?_
          refine mr_iconst 0 dd_Mo_die_222 (by decide) ?_
          refine mr_zast dd_Mo_die_223 rfl (mo_k hS 21 (by decide) rfl rfl) hj3 (Nat.lt_trans hb4 (by decide)) (mo_l hS 21 (by decide) rfl rfl hb4) (Or.inl rfl) ?_
          have hS := mo_S.up hS 21 (by decide) rfl j2 0
          generalize mm_si M (ad 21) j2 0 = M at hS ⊢
          refine mr_iinc 1 dd_Mo_die_224 rfl (by decide) (by decide) ?_
          show mm_Z l G Y_Mo_die (mo_K a0 ad Mb K) _ 0 0 227 [some (.inr (some a0)), some (.inl y1), some (.inl (y2 + 1)), some (.inl 1)] [] M
          refine mr_goto 134 dd_Mo_die_227 (by decide) ?_
          exact mm_fg (mm_leq (mm_le_s (mm_le_s (mm_le_s (mm_le_n mm_le_e))))) (h _ M hS)
    · have h := h.2 hc151
      refine mr_aload_n dd_Mo_die_154 rfl ?_
      refine mr_getr ff_Mo_65 dd_Mo_die_155 rs_8_21 rfl hS.1 ?_
      rw [mo_p hS 21 (by decide) rfl]
      refine mr_sipush 480 dd_Mo_die_158 (by decide) ?_
      refine mr_iload_n dd_Mo_die_161 rfl ?_
      refine mr_iadd dd_Mo_die_162 ?_
      obtain ⟨j17, hj18, hb19, h⟩ := h
      refine mr_zald dd_Mo_die_163 rfl (mo_k hS 21 (by decide) rfl rfl) hj18 (Nat.lt_trans hb19 (by decide)) (mo_l hS 21 (by decide) rfl rfl hb19) ?_
      rw [mo_i hS 21 (by decide) rfl rfl hb19]
      refine mr_if_eq 171 dd_Mo_die_164 (by decide) (fun hc164 => ?_) (fun hc164 => ?_)
      · have h := h.1 hc164
        refine mr_iconst 0 dd_Mo_die_171 (by decide) ?_
        refine mr_istore_n dd_Mo_die_172 (by decide) ?_
        show mm_Z l G Y_Mo_die (mo_K a0 ad Mb K) _ 0 0 173 [some (.inr (some a0)), some (.inl y1), some (.inl y2), some (.inl 0)] [] M
        refine mr_aload_n dd_Mo_die_173 rfl ?_
        refine mr_getr ff_Mo_65 dd_Mo_die_174 rs_8_21 rfl hS.1 ?_
        rw [mo_p hS 21 (by decide) rfl]
        refine mr_sipush 480 dd_Mo_die_177 (by decide) ?_
        refine mr_iload_n dd_Mo_die_180 rfl ?_
        refine mr_iadd dd_Mo_die_181 ?_
        refine mr_iload_n dd_Mo_die_182 rfl ?_
        refine mr_if_eq 210 dd_Mo_die_183 (by decide) (fun _ => ?_) (fun q => absurd q (by decide))
        refine mr_iconst 0 dd_Mo_die_210 (by decide) ?_
        refine mr_zast dd_Mo_die_211 rfl (mo_k hS 21 (by decide) rfl rfl) hj18 (Nat.lt_trans hb19 (by decide)) (mo_l hS 21 (by decide) rfl rfl hb19) (Or.inl rfl) ?_
        have hS := mo_S.up hS 21 (by decide) rfl j17 0
        generalize mm_si M (ad 21) j17 0 = M at hS ⊢
        refine mr_aload_n dd_Mo_die_212 rfl ?_
        refine mr_getr ff_Mo_65 dd_Mo_die_213 rs_8_21 rfl hS.1 ?_
        rw [mo_p hS 21 (by decide) rfl]
        refine mr_bipush 60 dd_Mo_die_216 (by decide) ?_
        refine mr_iload_n dd_Mo_die_218 rfl ?_
        refine mr_imul dd_Mo_die_219 ?_
        refine mr_iload_n dd_Mo_die_220 rfl ?_
        refine mr_iadd dd_Mo_die_221 ?_
        refine mr_iconst 0 dd_Mo_die_222 (by decide) ?_
        refine mr_zast dd_Mo_die_223 rfl (mo_k hS 21 (by decide) rfl rfl) hj3 (Nat.lt_trans hb4 (by decide)) (mo_l hS 21 (by decide) rfl rfl hb4) (Or.inl rfl) ?_
        have hS := mo_S.up hS 21 (by decide) rfl j2 0
        generalize mm_si M (ad 21) j2 0 = M at hS ⊢
        refine mr_iinc 1 dd_Mo_die_224 rfl (by decide) (by decide) ?_
        show mm_Z l G Y_Mo_die (mo_K a0 ad Mb K) _ 0 0 227 [some (.inr (some a0)), some (.inl y1), some (.inl (y2 + 1)), some (.inl 0)] [] M
        refine mr_goto 134 dd_Mo_die_227 (by decide) ?_
        exact mm_fg (mm_leq (mm_le_s (mm_le_s (mm_le_s (mm_le_n mm_le_e))))) (h _ M hS)
      · have h := h.2 hc164
        refine mr_iconst 1 dd_Mo_die_167 (by decide) ?_
        refine mr_goto 172 dd_Mo_die_168 (by decide) ?_
        refine mr_istore_n dd_Mo_die_172 (by decide) ?_
        show mm_Z l G Y_Mo_die (mo_K a0 ad Mb K) _ 0 0 173 [some (.inr (some a0)), some (.inl y1), some (.inl y2), some (.inl 1)] [] M
        refine mr_aload_n dd_Mo_die_173 rfl ?_
        refine mr_getr ff_Mo_65 dd_Mo_die_174 rs_8_21 rfl hS.1 ?_
        rw [mo_p hS 21 (by decide) rfl]
        refine mr_sipush 480 dd_Mo_die_177 (by decide) ?_
        refine mr_iload_n dd_Mo_die_180 rfl ?_
        refine mr_iadd dd_Mo_die_181 ?_
        refine mr_iload_n dd_Mo_die_182 rfl ?_
        refine mr_if_eq 210 dd_Mo_die_183 (by decide) (fun q => absurd q (by decide)) (fun _ => ?_)
        refine mr_aload_n dd_Mo_die_186 rfl ?_
        refine mr_getr ff_Mo_26 dd_Mo_die_187 rs_8_6 rfl hS.1 ?_
        rw [mo_p hS 6 (by decide) rfl]
        refine mr_iload_n dd_Mo_die_190 rfl ?_
        obtain ⟨j20, hj21, hb22, h⟩ := h
        refine mr_iald dd_Mo_die_191 rfl (mo_k hS 6 (by decide) rfl rfl) hj21 (Nat.lt_trans hb22 (by decide)) (mo_l hS 6 (by decide) rfl rfl hb22) ?_
        rw [mo_i hS 6 (by decide) rfl rfl hb22]
        refine mr_if_le 210 dd_Mo_die_192 (by decide) (fun hc192 => ?_) (fun hc192 => ?_)
        · have h := h.1 hc192
          refine mr_iconst 0 dd_Mo_die_210 (by decide) ?_
          refine mr_zast dd_Mo_die_211 rfl (mo_k hS 21 (by decide) rfl rfl) hj18 (Nat.lt_trans hb19 (by decide)) (mo_l hS 21 (by decide) rfl rfl hb19) (Or.inl rfl) ?_
          have hS := mo_S.up hS 21 (by decide) rfl j17 0
          generalize mm_si M (ad 21) j17 0 = M at hS ⊢
          refine mr_aload_n dd_Mo_die_212 rfl ?_
          refine mr_getr ff_Mo_65 dd_Mo_die_213 rs_8_21 rfl hS.1 ?_
          rw [mo_p hS 21 (by decide) rfl]
          refine mr_bipush 60 dd_Mo_die_216 (by decide) ?_
          refine mr_iload_n dd_Mo_die_218 rfl ?_
          refine mr_imul dd_Mo_die_219 ?_
          refine mr_iload_n dd_Mo_die_220 rfl ?_
          refine mr_iadd dd_Mo_die_221 ?_
          refine mr_iconst 0 dd_Mo_die_222 (by decide) ?_
          refine mr_zast dd_Mo_die_223 rfl (mo_k hS 21 (by decide) rfl rfl) hj3 (Nat.lt_trans hb4 (by decide)) (mo_l hS 21 (by decide) rfl rfl hb4) (Or.inl rfl) ?_
          have hS := mo_S.up hS 21 (by decide) rfl j2 0
          generalize mm_si M (ad 21) j2 0 = M at hS ⊢
          refine mr_iinc 1 dd_Mo_die_224 rfl (by decide) (by decide) ?_
          show mm_Z l G Y_Mo_die (mo_K a0 ad Mb K) _ 0 0 227 [some (.inr (some a0)), some (.inl y1), some (.inl (y2 + 1)), some (.inl 1)] [] M
          refine mr_goto 134 dd_Mo_die_227 (by decide) ?_
          exact mm_fg (mm_leq (mm_le_s (mm_le_s (mm_le_s (mm_le_n mm_le_e))))) (h _ M hS)
        · have h := h.2 hc192
          refine mr_aload_n dd_Mo_die_195 rfl ?_
          refine mr_getr ff_Mo_26 dd_Mo_die_196 rs_8_6 rfl hS.1 ?_
          rw [mo_p hS 6 (by decide) rfl]
          refine mr_iload_n dd_Mo_die_199 rfl ?_
          refine mr_iald dd_Mo_die_200 rfl (mo_k hS 6 (by decide) rfl rfl) hj21 (Nat.lt_trans hb22 (by decide)) (mo_l hS 6 (by decide) rfl rfl hb22) ?_
          rw [mo_i hS 6 (by decide) rfl rfl hb22]
          refine mr_bipush 9 dd_Mo_die_201 (by decide) ?_
          refine mr_icmp_eq 210 dd_Mo_die_203 (by decide) (fun hc203 => ?_) (fun hc203 => ?_)
          · have h := h.1 hc203
            refine mr_iconst 0 dd_Mo_die_210 (by decide) ?_
            refine mr_zast dd_Mo_die_211 rfl (mo_k hS 21 (by decide) rfl rfl) hj18 (Nat.lt_trans hb19 (by decide)) (mo_l hS 21 (by decide) rfl rfl hb19) (Or.inl rfl) ?_
            have hS := mo_S.up hS 21 (by decide) rfl j17 0
            generalize mm_si M (ad 21) j17 0 = M at hS ⊢
            refine mr_aload_n dd_Mo_die_212 rfl ?_
            refine mr_getr ff_Mo_65 dd_Mo_die_213 rs_8_21 rfl hS.1 ?_
            rw [mo_p hS 21 (by decide) rfl]
            refine mr_bipush 60 dd_Mo_die_216 (by decide) ?_
            refine mr_iload_n dd_Mo_die_218 rfl ?_
            refine mr_imul dd_Mo_die_219 ?_
            refine mr_iload_n dd_Mo_die_220 rfl ?_
            refine mr_iadd dd_Mo_die_221 ?_
            refine mr_iconst 0 dd_Mo_die_222 (by decide) ?_
            refine mr_zast dd_Mo_die_223 rfl (mo_k hS 21 (by decide) rfl rfl) hj3 (Nat.lt_trans hb4 (by decide)) (mo_l hS 21 (by decide) rfl rfl hb4) (Or.inl rfl) ?_
            have hS := mo_S.up hS 21 (by decide) rfl j2 0
            generalize mm_si M (ad 21) j2 0 = M at hS ⊢
            refine mr_iinc 1 dd_Mo_die_224 rfl (by decide) (by decide) ?_
            show mm_Z l G Y_Mo_die (mo_K a0 ad Mb K) _ 0 0 227 [some (.inr (some a0)), some (.inl y1), some (.inl (y2 + 1)), some (.inl 1)] [] M
            refine mr_goto 134 dd_Mo_die_227 (by decide) ?_
            exact mm_fg (mm_leq (mm_le_s (mm_le_s (mm_le_s (mm_le_n mm_le_e))))) (h _ M hS)
          · have h := h.2 hc203
            refine mr_iconst 1 dd_Mo_die_206 (by decide) ?_
            refine mr_goto 211 dd_Mo_die_207 (by decide) ?_
            refine mr_zast dd_Mo_die_211 rfl (mo_k hS 21 (by decide) rfl rfl) hj18 (Nat.lt_trans hb19 (by decide)) (mo_l hS 21 (by decide) rfl rfl hb19) (Or.inr rfl) ?_
            have hS := mo_S.up hS 21 (by decide) rfl j17 1
            generalize mm_si M (ad 21) j17 1 = M at hS ⊢
            refine mr_aload_n dd_Mo_die_212 rfl ?_
            refine mr_getr ff_Mo_65 dd_Mo_die_213 rs_8_21 rfl hS.1 ?_
            rw [mo_p hS 21 (by decide) rfl]
            refine mr_bipush 60 dd_Mo_die_216 (by decide) ?_
            refine mr_iload_n dd_Mo_die_218 rfl ?_
            refine mr_imul dd_Mo_die_219 ?_
            refine mr_iload_n dd_Mo_die_220 rfl ?_
            refine mr_iadd dd_Mo_die_221 ?_
            refine mr_iconst 0 dd_Mo_die_222 (by decide) ?_
            refine mr_zast dd_Mo_die_223 rfl (mo_k hS 21 (by decide) rfl rfl) hj3 (Nat.lt_trans hb4 (by decide)) (mo_l hS 21 (by decide) rfl rfl hb4) (Or.inl rfl) ?_
            have hS := mo_S.up hS 21 (by decide) rfl j2 0
            generalize mm_si M (ad 21) j2 0 = M at hS ⊢
            refine mr_iinc 1 dd_Mo_die_224 rfl (by decide) (by decide) ?_
            show mm_Z l G Y_Mo_die (mo_K a0 ad Mb K) _ 0 0 227 [some (.inr (some a0)), some (.inl y1), some (.inl (y2 + 1)), some (.inl 1)] [] M
            refine mr_goto 134 dd_Mo_die_227 (by decide) ?_
            exact mm_fg (mm_leq (mm_le_s (mm_le_s (mm_le_s (mm_le_n mm_le_e))))) (h _ M hS)
set_option maxHeartbeats 4000000 in
set_option maxRecDepth 100000 in
theorem mg_names {l : Launch} {G : mm_G} {K : Option mm_V → mo_A → Prop} {a0 : Nat} {ad : Nat → Nat} {Mb : mm_M} {A : mo_A} {xa : Int32} {xb : Int32}
    (h : mo_Z l G Y_Mo_names K a0 ad Mb 5 [some (.inr (some a0)), some (.inl xa), some (.inl xb), some (.inl 0), some (.inl 0)] [] A) :
    mo_Ok l G yy_Mo_names Y_Mo_names [.inr (some a0), .inl xa, .inl xb] a0 ad Mb A K := by
  intro M hS
  refine mm_go (by decide) rfl (fun q => by cases q) (Nat.le_of_ble_eq_true rfl) ?_
  show mm_Z l G Y_Mo_names (mo_K a0 ad Mb K) _ 0 0 0 [some (.inr (some a0)), some (.inl xa), some (.inl xb), none, none] [] M
  refine mr_iconst 0 dd_Mo_names_0 (by decide) ?_
  refine mr_istore_n dd_Mo_names_1 (by decide) ?_
  show mm_Z l G Y_Mo_names (mo_K a0 ad Mb K) _ 0 0 2 [some (.inr (some a0)), some (.inl xa), some (.inl xb), some (.inl 0), none] [] M
  refine mr_iconst 0 dd_Mo_names_2 (by decide) ?_
  refine mr_istore dd_Mo_names_3 (by decide) ?_
  show mm_Z l G Y_Mo_names (mo_K a0 ad Mb K) _ 0 0 5 [some (.inr (some a0)), some (.inl xa), some (.inl xb), some (.inl 0), some (.inl 0)] [] M
  exact h _ M hS
set_option maxHeartbeats 4000000 in
set_option maxRecDepth 100000 in
theorem mg_names_5 {l : Launch} {G : mm_G} {K : Option mm_V → mo_A → Prop} {a0 : Nat} {ad : Nat → Nat} {Mb : mm_M} {A : mo_A} {y1 : Int32} {y2 : Int32} {y3 : Int32} {y4 : Int32}
    (h : (60 ≤ y4 → (y3 = 0 ∨ y3 = 1) ∧ K (some (.inl y3)) A) ∧ (¬ 60 ≤ y4 → (¬ y3 = 0 → mo_Z l G Y_Mo_names K a0 ad Mb 5 [some (.inr (some a0)), some (.inl y1), some (.inl y2), some (.inl 1), some (.inl (y4 + 1))] [] A) ∧ (y3 = 0 → ∃ j1 : Nat, ((60 * y1) + y4) = nI j1 ∧ j1 < 780 ∧ ((A 21 j1) = 0 → mo_Z l G Y_Mo_names K a0 ad Mb 5 [some (.inr (some a0)), some (.inl y1), some (.inl y2), some (.inl 0), some (.inl (y4 + 1))] [] A) ∧ (¬ (A 21 j1) = 0 → ∃ j4 : Nat, y4 = nI j4 ∧ j4 < 60 ∧ (¬ (A 6 j4) = (y2 + 1) → mo_Z l G Y_Mo_names K a0 ad Mb 5 [some (.inr (some a0)), some (.inl y1), some (.inl y2), some (.inl 0), some (.inl (y4 + 1))] [] A) ∧ ((A 6 j4) = (y2 + 1) → mo_Z l G Y_Mo_names K a0 ad Mb 5 [some (.inr (some a0)), some (.inl y1), some (.inl y2), some (.inl 1), some (.inl (y4 + 1))] [] A))))) :
    mo_Z l G Y_Mo_names K a0 ad Mb 5 [some (.inr (some a0)), some (.inl y1), some (.inl y2), some (.inl y3), some (.inl y4)] [] A := by
  intro M0 M hS
  refine mr_iload dd_Mo_names_5 rfl ?_
  refine mr_bipush 60 dd_Mo_names_7 (by decide) ?_
  refine mr_icmp_ge 56 dd_Mo_names_9 (by decide) (fun hc9 => ?_) (fun hc9 => ?_)
  · have h := h.1 hc9
    refine mr_iload_n dd_Mo_names_56 rfl ?_
    exact mr_zreturn dd_Mo_names_57 rfl h.1 ⟨_, hS, h.2⟩
  · have h := h.2 hc9
    refine mr_iload_n dd_Mo_names_12 rfl ?_
    refine mr_if_ne 44 dd_Mo_names_13 (by decide) (fun hc13 => ?_) (fun hc13 => ?_)
    · have h := h.1 hc13
      refine mr_iconst 1 dd_Mo_names_44 (by decide) ?_
      refine mr_goto 49 dd_Mo_names_45 (by decide) ?_
      refine mr_istore_n dd_Mo_names_49 (by decide) ?_
      show mm_Z l G Y_Mo_names (mo_K a0 ad Mb K) _ 0 0 50 [some (.inr (some a0)), some (.inl y1), some (.inl y2), some (.inl 1), some (.inl y4)] [] M
      refine mr_iinc 1 dd_Mo_names_50 rfl (by decide) (by decide) ?_
      show mm_Z l G Y_Mo_names (mo_K a0 ad Mb K) _ 0 0 53 [some (.inr (some a0)), some (.inl y1), some (.inl y2), some (.inl 1), some (.inl (y4 + 1))] [] M
      refine mr_goto 5 dd_Mo_names_53 (by decide) ?_
      exact h _ M hS
    · have h := h.2 hc13
      refine mr_aload_n dd_Mo_names_16 rfl ?_
      refine mr_getr ff_Mo_65 dd_Mo_names_17 rs_8_21 rfl hS.1 ?_
      rw [mo_p hS 21 (by decide) rfl]
      refine mr_bipush 60 dd_Mo_names_20 (by decide) ?_
      refine mr_iload_n dd_Mo_names_22 rfl ?_
      refine mr_imul dd_Mo_names_23 ?_
      refine mr_iload dd_Mo_names_24 rfl ?_
      refine mr_iadd dd_Mo_names_26 ?_
      obtain ⟨j1, hj2, hb3, h⟩ := h
      refine mr_zald dd_Mo_names_27 rfl (mo_k hS 21 (by decide) rfl rfl) hj2 (Nat.lt_trans hb3 (by decide)) (mo_l hS 21 (by decide) rfl rfl hb3) ?_
      rw [mo_i hS 21 (by decide) rfl rfl hb3]
      refine mr_if_eq 48 dd_Mo_names_28 (by decide) (fun hc28 => ?_) (fun hc28 => ?_)
      · have h := h.1 hc28
        refine mr_iconst 0 dd_Mo_names_48 (by decide) ?_
        refine mr_istore_n dd_Mo_names_49 (by decide) ?_
        show mm_Z l G Y_Mo_names (mo_K a0 ad Mb K) _ 0 0 50 [some (.inr (some a0)), some (.inl y1), some (.inl y2), some (.inl 0), some (.inl y4)] [] M
        refine mr_iinc 1 dd_Mo_names_50 rfl (by decide) (by decide) ?_
        show mm_Z l G Y_Mo_names (mo_K a0 ad Mb K) _ 0 0 53 [some (.inr (some a0)), some (.inl y1), some (.inl y2), some (.inl 0), some (.inl (y4 + 1))] [] M
        refine mr_goto 5 dd_Mo_names_53 (by decide) ?_
        exact h _ M hS
      · have h := h.2 hc28
        refine mr_aload_n dd_Mo_names_31 rfl ?_
        refine mr_getr ff_Mo_26 dd_Mo_names_32 rs_8_6 rfl hS.1 ?_
        rw [mo_p hS 6 (by decide) rfl]
        refine mr_iload dd_Mo_names_35 rfl ?_
        obtain ⟨j4, hj5, hb6, h⟩ := h
        refine mr_iald dd_Mo_names_37 rfl (mo_k hS 6 (by decide) rfl rfl) hj5 (Nat.lt_trans hb6 (by decide)) (mo_l hS 6 (by decide) rfl rfl hb6) ?_
        rw [mo_i hS 6 (by decide) rfl rfl hb6]
        refine mr_iload_n dd_Mo_names_38 rfl ?_
        refine mr_iconst 1 dd_Mo_names_39 (by decide) ?_
        refine mr_iadd dd_Mo_names_40 ?_
        refine mr_icmp_ne 48 dd_Mo_names_41 (by decide) (fun hc41 => ?_) (fun hc41 => ?_)
        · have h := h.1 hc41
          refine mr_iconst 0 dd_Mo_names_48 (by decide) ?_
          refine mr_istore_n dd_Mo_names_49 (by decide) ?_
          show mm_Z l G Y_Mo_names (mo_K a0 ad Mb K) _ 0 0 50 [some (.inr (some a0)), some (.inl y1), some (.inl y2), some (.inl 0), some (.inl y4)] [] M
          refine mr_iinc 1 dd_Mo_names_50 rfl (by decide) (by decide) ?_
          show mm_Z l G Y_Mo_names (mo_K a0 ad Mb K) _ 0 0 53 [some (.inr (some a0)), some (.inl y1), some (.inl y2), some (.inl 0), some (.inl (y4 + 1))] [] M
          refine mr_goto 5 dd_Mo_names_53 (by decide) ?_
          exact h _ M hS
        · have h := h.2 hc41
          refine mr_iconst 1 dd_Mo_names_44 (by decide) ?_
          refine mr_goto 49 dd_Mo_names_45 (by decide) ?_
          refine mr_istore_n dd_Mo_names_49 (by decide) ?_
          show mm_Z l G Y_Mo_names (mo_K a0 ad Mb K) _ 0 0 50 [some (.inr (some a0)), some (.inl y1), some (.inl y2), some (.inl 1), some (.inl y4)] [] M
          refine mr_iinc 1 dd_Mo_names_50 rfl (by decide) (by decide) ?_
          show mm_Z l G Y_Mo_names (mo_K a0 ad Mb K) _ 0 0 53 [some (.inr (some a0)), some (.inl y1), some (.inl y2), some (.inl 1), some (.inl (y4 + 1))] [] M
          refine mr_goto 5 dd_Mo_names_53 (by decide) ?_
          exact h _ M hS
set_option maxHeartbeats 4000000 in
set_option maxRecDepth 100000 in
theorem mg_merge {l : Launch} {G : mm_G} {K : Option mm_V → mo_A → Prop} {a0 : Nat} {ad : Nat → Nat} {Mb : mm_M} {A : mo_A} {xa : Int32}
    (h : mo_Z l G Y_Mo_merge K a0 ad Mb 2 [some (.inr (some a0)), some (.inl xa), some (.inl 0), none, none] [] A) :
    mo_Ok l G yy_Mo_merge Y_Mo_merge [.inr (some a0), .inl xa] a0 ad Mb A K := by
  intro M hS
  refine mm_go (by decide) rfl (fun q => by cases q) (Nat.le_of_ble_eq_true rfl) ?_
  show mm_Z l G Y_Mo_merge (mo_K a0 ad Mb K) _ 0 0 0 [some (.inr (some a0)), some (.inl xa), none, none, none] [] M
  refine mr_iconst 0 dd_Mo_merge_0 (by decide) ?_
  refine mr_istore_n dd_Mo_merge_1 (by decide) ?_
  show mm_Z l G Y_Mo_merge (mo_K a0 ad Mb K) _ 0 0 2 [some (.inr (some a0)), some (.inl xa), some (.inl 0), none, none] [] M
  exact h _ M hS
set_option maxHeartbeats 4000000 in
set_option maxRecDepth 100000 in
theorem mg_merge_2 {l : Launch} {G : mm_G} {K : Option mm_V → mo_A → Prop} {a0 : Nat} {ad : Nat → Nat} {Mb : mm_M} {A : mo_A} {y1 : Int32} {y2 : Int32}
    (h : (24 ≤ y2 → mo_Z l G Y_Mo_merge K a0 ad Mb 102 [some (.inr (some a0)), some (.inl y1), some (.inl 0), none, none] [] A) ∧ (¬ 24 ≤ y2 → mo_Z l G Y_Mo_merge K a0 ad Mb 13 [some (.inr (some a0)), some (.inl y1), some (.inl y2), some (.inl (-1)), some (.inl 0)] [] A)) :
    mo_Z l G Y_Mo_merge K a0 ad Mb 2 [some (.inr (some a0)), some (.inl y1), some (.inl y2), none, none] [] A := by
  intro M0 M hS
  refine mr_iload_n dd_Mo_merge_2 rfl ?_
  refine mr_bipush 24 dd_Mo_merge_3 (by decide) ?_
  refine mr_icmp_ge 100 dd_Mo_merge_5 (by decide) (fun hc5 => ?_) (fun hc5 => ?_)
  · have h := h.1 hc5
    refine mr_iconst 0 dd_Mo_merge_100 (by decide) ?_
    refine mr_istore_n dd_Mo_merge_101 (by decide) ?_
    show mm_Z l G Y_Mo_merge (mo_K a0 ad Mb K) _ 0 0 102 [some (.inr (some a0)), some (.inl y1), some (.inl 0), none, none] [] M
    exact h _ M hS
  · have h := h.2 hc5
    refine mr_iconst (-1) dd_Mo_merge_8 (by decide) ?_
    refine mr_istore_n dd_Mo_merge_9 (by decide) ?_
    show mm_Z l G Y_Mo_merge (mo_K a0 ad Mb K) _ 0 0 10 [some (.inr (some a0)), some (.inl y1), some (.inl y2), some (.inl (-1)), none] [] M
    refine mr_iconst 0 dd_Mo_merge_10 (by decide) ?_
    refine mr_istore dd_Mo_merge_11 (by decide) ?_
    show mm_Z l G Y_Mo_merge (mo_K a0 ad Mb K) _ 0 0 13 [some (.inr (some a0)), some (.inl y1), some (.inl y2), some (.inl (-1)), some (.inl 0)] [] M
    exact h _ M hS
set_option maxHeartbeats 4000000 in
set_option maxRecDepth 100000 in
theorem mg_merge_13 {l : Launch} {G : mm_G} {K : Option mm_V → mo_A → Prop} {a0 : Nat} {ad : Nat → Nat} {Mb : mm_M} {A : mo_A} {y1 : Int32} {y2 : Int32} {y3 : Int32} {y4 : Int32}
    (h : (24 ≤ y4 → (y3 < 0 → mo_Z l G Y_Mo_merge K a0 ad Mb 2 [some (.inr (some a0)), some (.inl y1), some (.inl (y2 + 1)), none, none] [] A) ∧ (¬ y3 < 0 → ∃ j1 : Nat, y3 = nI j1 ∧ j1 < 24 ∧ mo_Z l G Y_Mo_merge K a0 ad Mb 2 [some (.inr (some a0)), some (.inl y1), some (.inl (y2 + 1)), none, none] [] (mo_u (mo_u (mo_u A 11 j1 9) 14 0 (((mo_u A 11 j1 9) 14 0) + 1)) 13 j1 ((mo_u (mo_u A 11 j1 9) 14 0 (((mo_u A 11 j1 9) 14 0) + 1)) 14 0)))) ∧ (¬ 24 ≤ y4 → ∃ j4 : Nat, y4 = nI j4 ∧ j4 < 24 ∧ (¬ (A 11 j4) = (y1 + 1) → mo_Z l G Y_Mo_merge K a0 ad Mb 13 [some (.inr (some a0)), some (.inl y1), some (.inl y2), some (.inl y3), some (.inl (y4 + 1))] [] A) ∧ ((A 11 j4) = (y1 + 1) → (y3 < 0 → mo_Z l G Y_Mo_merge K a0 ad Mb 13 [some (.inr (some a0)), some (.inl y1), some (.inl y2), some (.inl y4), some (.inl (y4 + 1))] [] A) ∧ (¬ y3 < 0 → ∃ j7 : Nat, y3 = nI j7 ∧ j7 < 24 ∧ ((A 13 j7) ≤ (A 13 j4) → mo_Z l G Y_Mo_merge K a0 ad Mb 13 [some (.inr (some a0)), some (.inl y1), some (.inl y2), some (.inl y3), some (.inl (y4 + 1))] [] A) ∧ (¬ (A 13 j7) ≤ (A 13 j4) → mo_Z l G Y_Mo_merge K a0 ad Mb 13 [some (.inr (some a0)), some (.inl y1), some (.inl y2), some (.inl y4), some (.inl (y4 + 1))] [] A))))) :
    mo_Z l G Y_Mo_merge K a0 ad Mb 13 [some (.inr (some a0)), some (.inl y1), some (.inl y2), some (.inl y3), some (.inl y4)] [] A := by
  intro M0 M hS
  refine mr_iload dd_Mo_merge_13 rfl ?_
  refine mr_bipush 24 dd_Mo_merge_15 (by decide) ?_
  refine mr_icmp_ge 62 dd_Mo_merge_17 (by decide) (fun hc17 => ?_) (fun hc17 => ?_)
  · have h := h.1 hc17
    refine mr_iload_n dd_Mo_merge_62 rfl ?_
    refine mr_if_lt 94 dd_Mo_merge_63 (by decide) (fun hc63 => ?_) (fun hc63 => ?_)
    · have h := h.1 hc63
      refine mr_iinc 1 dd_Mo_merge_94 rfl (by decide) (by decide) ?_
      show mm_Z l G Y_Mo_merge (mo_K a0 ad Mb K) _ 0 0 97 [some (.inr (some a0)), some (.inl y1), some (.inl (y2 + 1)), some (.inl y3), some (.inl y4)] [] M
      refine mr_goto 2 dd_Mo_merge_97 (by decide) ?_
      exact mm_fg (mm_leq (mm_le_s (mm_le_s (mm_le_s (mm_le_n (mm_le_n mm_le_e)))))) (h _ M hS)
    · have h := h.2 hc63
      refine mr_aload_n dd_Mo_merge_66 rfl ?_
      refine mr_getr ff_Mo_41 dd_Mo_merge_67 rs_8_11 rfl hS.1 ?_
      rw [mo_p hS 11 (by decide) rfl]
      refine mr_iload_n dd_Mo_merge_70 rfl ?_
      refine mr_bipush 9 dd_Mo_merge_71 (by decide) ?_
      obtain ⟨j1, hj2, hb3, h⟩ := h
      refine mr_iast dd_Mo_merge_73 rfl (mo_k hS 11 (by decide) rfl rfl) hj2 (Nat.lt_trans hb3 (by decide)) (mo_l hS 11 (by decide) rfl rfl hb3) ?_
      have hS := mo_S.up hS 11 (by decide) rfl j1 9
      generalize mm_si M (ad 11) j1 9 = M at hS ⊢
      refine mr_aload_n dd_Mo_merge_74 rfl ?_
      refine mr_dup dd_Mo_merge_75 ?_
      refine mr_geti ff_Mo_118 dd_Mo_merge_76 rs_8_14 rfl hS.1 ?_
      rw [mo_s hS 14 (by decide) rfl]
      refine mr_iconst 1 dd_Mo_merge_79 (by decide) ?_
      refine mr_iadd dd_Mo_merge_80 ?_
      refine mr_puti ff_Mo_118 fp_8 (Or.inl rfl) dd_Mo_merge_81 (Or.inl (by decide +kernel)) rs_8_14 rfl hS.1 ?_
      have hS := mo_S.us hS 14 (by decide) rfl (((mo_u A 11 j1 9) 14 0) + 1)
      generalize mm_si M a0 14 (((mo_u A 11 j1 9) 14 0) + 1) = M at hS ⊢
      refine mr_aload_n dd_Mo_merge_84 rfl ?_
      refine mr_getr ff_Mo_47 dd_Mo_merge_85 rs_8_13 rfl hS.1 ?_
      rw [mo_p hS 13 (by decide) rfl]
      refine mr_iload_n dd_Mo_merge_88 rfl ?_
      refine mr_aload_n dd_Mo_merge_89 rfl ?_
      refine mr_geti ff_Mo_118 dd_Mo_merge_90 rs_8_14 rfl hS.1 ?_
      rw [mo_s hS 14 (by decide) rfl]
      refine mr_iast dd_Mo_merge_93 rfl (mo_k hS 13 (by decide) rfl rfl) hj2 (Nat.lt_trans hb3 (by decide)) (mo_l hS 13 (by decide) rfl rfl hb3) ?_
      have hS := mo_S.up hS 13 (by decide) rfl j1 ((mo_u (mo_u A 11 j1 9) 14 0 (((mo_u A 11 j1 9) 14 0) + 1)) 14 0)
      generalize mm_si M (ad 13) j1 ((mo_u (mo_u A 11 j1 9) 14 0 (((mo_u A 11 j1 9) 14 0) + 1)) 14 0) = M at hS ⊢
      refine mr_iinc 1 dd_Mo_merge_94 rfl (by decide) (by decide) ?_
      show mm_Z l G Y_Mo_merge (mo_K a0 ad Mb K) _ 0 0 97 [some (.inr (some a0)), some (.inl y1), some (.inl (y2 + 1)), some (.inl y3), some (.inl y4)] [] M
      refine mr_goto 2 dd_Mo_merge_97 (by decide) ?_
      exact mm_fg (mm_leq (mm_le_s (mm_le_s (mm_le_s (mm_le_n (mm_le_n mm_le_e)))))) (h _ M hS)
  · have h := h.2 hc17
    refine mr_aload_n dd_Mo_merge_20 rfl ?_
    refine mr_getr ff_Mo_41 dd_Mo_merge_21 rs_8_11 rfl hS.1 ?_
    rw [mo_p hS 11 (by decide) rfl]
    refine mr_iload dd_Mo_merge_24 rfl ?_
    obtain ⟨j4, hj5, hb6, h⟩ := h
    refine mr_iald dd_Mo_merge_26 rfl (mo_k hS 11 (by decide) rfl rfl) hj5 (Nat.lt_trans hb6 (by decide)) (mo_l hS 11 (by decide) rfl rfl hb6) ?_
    rw [mo_i hS 11 (by decide) rfl rfl hb6]
    refine mr_iload_n dd_Mo_merge_27 rfl ?_
    refine mr_iconst 1 dd_Mo_merge_28 (by decide) ?_
    refine mr_iadd dd_Mo_merge_29 ?_
    refine mr_icmp_ne 56 dd_Mo_merge_30 (by decide) (fun hc30 => ?_) (fun hc30 => ?_)
    · have h := h.1 hc30
      refine mr_iinc 1 dd_Mo_merge_56 rfl (by decide) (by decide) ?_
      show mm_Z l G Y_Mo_merge (mo_K a0 ad Mb K) _ 0 0 59 [some (.inr (some a0)), some (.inl y1), some (.inl y2), some (.inl y3), some (.inl (y4 + 1))] [] M
      refine mr_goto 13 dd_Mo_merge_59 (by decide) ?_
      exact h _ M hS
    · have h := h.2 hc30
      refine mr_iload_n dd_Mo_merge_33 rfl ?_
      refine mr_if_lt 53 dd_Mo_merge_34 (by decide) (fun hc34 => ?_) (fun hc34 => ?_)
      · have h := h.1 hc34
        refine mr_iload dd_Mo_merge_53 rfl ?_
        refine mr_istore_n dd_Mo_merge_55 (by decide) ?_
        show mm_Z l G Y_Mo_merge (mo_K a0 ad Mb K) _ 0 0 56 [some (.inr (some a0)), some (.inl y1), some (.inl y2), some (.inl y4), some (.inl y4)] [] M
        refine mr_iinc 1 dd_Mo_merge_56 rfl (by decide) (by decide) ?_
        show mm_Z l G Y_Mo_merge (mo_K a0 ad Mb K) _ 0 0 59 [some (.inr (some a0)), some (.inl y1), some (.inl y2), some (.inl y4), some (.inl (y4 + 1))] [] M
        refine mr_goto 13 dd_Mo_merge_59 (by decide) ?_
        exact h _ M hS
      · have h := h.2 hc34
        refine mr_aload_n dd_Mo_merge_37 rfl ?_
        refine mr_getr ff_Mo_47 dd_Mo_merge_38 rs_8_13 rfl hS.1 ?_
        rw [mo_p hS 13 (by decide) rfl]
        refine mr_iload dd_Mo_merge_41 rfl ?_
        refine mr_iald dd_Mo_merge_43 rfl (mo_k hS 13 (by decide) rfl rfl) hj5 (Nat.lt_trans hb6 (by decide)) (mo_l hS 13 (by decide) rfl rfl hb6) ?_
        rw [mo_i hS 13 (by decide) rfl rfl hb6]
        refine mr_aload_n dd_Mo_merge_44 rfl ?_
        refine mr_getr ff_Mo_47 dd_Mo_merge_45 rs_8_13 rfl hS.1 ?_
        rw [mo_p hS 13 (by decide) rfl]
        refine mr_iload_n dd_Mo_merge_48 rfl ?_
        obtain ⟨j7, hj8, hb9, h⟩ := h
        refine mr_iald dd_Mo_merge_49 rfl (mo_k hS 13 (by decide) rfl rfl) hj8 (Nat.lt_trans hb9 (by decide)) (mo_l hS 13 (by decide) rfl rfl hb9) ?_
        rw [mo_i hS 13 (by decide) rfl rfl hb9]
        refine mr_icmp_ge 56 dd_Mo_merge_50 (by decide) (fun hc50 => ?_) (fun hc50 => ?_)
        · have h := h.1 hc50
          refine mr_iinc 1 dd_Mo_merge_56 rfl (by decide) (by decide) ?_
          show mm_Z l G Y_Mo_merge (mo_K a0 ad Mb K) _ 0 0 59 [some (.inr (some a0)), some (.inl y1), some (.inl y2), some (.inl y3), some (.inl (y4 + 1))] [] M
          refine mr_goto 13 dd_Mo_merge_59 (by decide) ?_
          exact h _ M hS
        · have h := h.2 hc50
          refine mr_iload dd_Mo_merge_53 rfl ?_
          refine mr_istore_n dd_Mo_merge_55 (by decide) ?_
          show mm_Z l G Y_Mo_merge (mo_K a0 ad Mb K) _ 0 0 56 [some (.inr (some a0)), some (.inl y1), some (.inl y2), some (.inl y4), some (.inl y4)] [] M
          refine mr_iinc 1 dd_Mo_merge_56 rfl (by decide) (by decide) ?_
          show mm_Z l G Y_Mo_merge (mo_K a0 ad Mb K) _ 0 0 59 [some (.inr (some a0)), some (.inl y1), some (.inl y2), some (.inl y4), some (.inl (y4 + 1))] [] M
          refine mr_goto 13 dd_Mo_merge_59 (by decide) ?_
          exact h _ M hS
set_option maxHeartbeats 4000000 in
set_option maxRecDepth 100000 in
theorem mg_merge_102 {l : Launch} {G : mm_G} {K : Option mm_V → mo_A → Prop} {a0 : Nat} {ad : Nat → Nat} {Mb : mm_M} {A : mo_A} {y1 : Int32} {y2 : Int32}
    (h : (60 ≤ y2 → K none A) ∧ (¬ 60 ≤ y2 → ∃ j1 : Nat, y2 = nI j1 ∧ j1 < 60 ∧ (¬ (A 6 j1) = (y1 + 1) → mo_Z l G Y_Mo_merge K a0 ad Mb 102 [some (.inr (some a0)), some (.inl y1), some (.inl (y2 + 1)), none, none] [] (mo_u A 6 j1 (A 6 j1))) ∧ ((A 6 j1) = (y1 + 1) → mo_Z l G Y_Mo_merge K a0 ad Mb 102 [some (.inr (some a0)), some (.inl y1), some (.inl (y2 + 1)), none, none] [] (mo_u A 6 j1 9)))) :
    mo_Z l G Y_Mo_merge K a0 ad Mb 102 [some (.inr (some a0)), some (.inl y1), some (.inl y2), none, none] [] A := by
  intro M0 M hS
  refine mr_iload_n dd_Mo_merge_102 rfl ?_
  refine mr_bipush 60 dd_Mo_merge_103 (by decide) ?_
  refine mr_icmp_ge 143 dd_Mo_merge_105 (by decide) (fun hc105 => ?_) (fun hc105 => ?_)
  · have h := h.1 hc105
    exact mr_return dd_Mo_merge_143 rfl ⟨_, hS, h⟩
  · have h := h.2 hc105
    refine mr_aload_n dd_Mo_merge_108 rfl ?_
    refine mr_getr ff_Mo_26 dd_Mo_merge_109 rs_8_6 rfl hS.1 ?_
    rw [mo_p hS 6 (by decide) rfl]
    refine mr_iload_n dd_Mo_merge_112 rfl ?_
    refine mr_aload_n dd_Mo_merge_113 rfl ?_
    refine mr_getr ff_Mo_26 dd_Mo_merge_114 rs_8_6 rfl hS.1 ?_
    rw [mo_p hS 6 (by decide) rfl]
    refine mr_iload_n dd_Mo_merge_117 rfl ?_
    obtain ⟨j1, hj2, hb3, h⟩ := h
    refine mr_iald dd_Mo_merge_118 rfl (mo_k hS 6 (by decide) rfl rfl) hj2 (Nat.lt_trans hb3 (by decide)) (mo_l hS 6 (by decide) rfl rfl hb3) ?_
    rw [mo_i hS 6 (by decide) rfl rfl hb3]
    refine mr_iload_n dd_Mo_merge_119 rfl ?_
    refine mr_iconst 1 dd_Mo_merge_120 (by decide) ?_
    refine mr_iadd dd_Mo_merge_121 ?_
    refine mr_icmp_ne 130 dd_Mo_merge_122 (by decide) (fun hc122 => ?_) (fun hc122 => ?_)
    · have h := h.1 hc122
      refine mr_aload_n dd_Mo_merge_130 rfl ?_
      refine mr_getr ff_Mo_26 dd_Mo_merge_131 rs_8_6 rfl hS.1 ?_
      rw [mo_p hS 6 (by decide) rfl]
      refine mr_iload_n dd_Mo_merge_134 rfl ?_
      refine mr_iald dd_Mo_merge_135 rfl (mo_k hS 6 (by decide) rfl rfl) hj2 (Nat.lt_trans hb3 (by decide)) (mo_l hS 6 (by decide) rfl rfl hb3) ?_
      rw [mo_i hS 6 (by decide) rfl rfl hb3]
      refine mr_iast dd_Mo_merge_136 rfl (mo_k hS 6 (by decide) rfl rfl) hj2 (Nat.lt_trans hb3 (by decide)) (mo_l hS 6 (by decide) rfl rfl hb3) ?_
      have hS := mo_S.up hS 6 (by decide) rfl j1 (A 6 j1)
      generalize mm_si M (ad 6) j1 (A 6 j1) = M at hS ⊢
      refine mr_iinc 1 dd_Mo_merge_137 rfl (by decide) (by decide) ?_
      show mm_Z l G Y_Mo_merge (mo_K a0 ad Mb K) _ 0 0 140 [some (.inr (some a0)), some (.inl y1), some (.inl (y2 + 1)), none, none] [] M
      refine mr_goto 102 dd_Mo_merge_140 (by decide) ?_
      exact h _ M hS
    · have h := h.2 hc122
      refine mr_bipush 9 dd_Mo_merge_125 (by decide) ?_
      refine mr_goto 136 dd_Mo_merge_127 (by decide) ?_
      refine mr_iast dd_Mo_merge_136 rfl (mo_k hS 6 (by decide) rfl rfl) hj2 (Nat.lt_trans hb3 (by decide)) (mo_l hS 6 (by decide) rfl rfl hb3) ?_
      have hS := mo_S.up hS 6 (by decide) rfl j1 9
      generalize mm_si M (ad 6) j1 9 = M at hS ⊢
      refine mr_iinc 1 dd_Mo_merge_137 rfl (by decide) (by decide) ?_
      show mm_Z l G Y_Mo_merge (mo_K a0 ad Mb K) _ 0 0 140 [some (.inr (some a0)), some (.inl y1), some (.inl (y2 + 1)), none, none] [] M
      refine mr_goto 102 dd_Mo_merge_140 (by decide) ?_
      exact h _ M hS
set_option maxHeartbeats 4000000 in
set_option maxRecDepth 100000 in
theorem mg_vanish {l : Launch} {G : mm_G} {K : Option mm_V → mo_A → Prop} {a0 : Nat} {ad : Nat → Nat} {Mb : mm_M} {A : mo_A} 
    (h : mo_Z l G Y_Mo_vanish K a0 ad Mb 2 [some (.inr (some a0)), some (.inl 0), none, none] [] A) :
    mo_Ok l G yy_Mo_vanish Y_Mo_vanish [.inr (some a0)] a0 ad Mb A K := by
  intro M hS
  refine mm_go (by decide) rfl (fun q => by cases q) (Nat.le_of_ble_eq_true rfl) ?_
  show mm_Z l G Y_Mo_vanish (mo_K a0 ad Mb K) _ 0 0 0 [some (.inr (some a0)), none, none, none] [] M
  refine mr_iconst 0 dd_Mo_vanish_0 (by decide) ?_
  refine mr_istore_n dd_Mo_vanish_1 (by decide) ?_
  show mm_Z l G Y_Mo_vanish (mo_K a0 ad Mb K) _ 0 0 2 [some (.inr (some a0)), some (.inl 0), none, none] [] M
  exact h _ M hS
set_option maxHeartbeats 4000000 in
set_option maxRecDepth 100000 in
theorem mg_vanish_2 {l : Launch} {G : mm_G} {K : Option mm_V → mo_A → Prop} {a0 : Nat} {ad : Nat → Nat} {Mb : mm_M} {A : mo_A} {y1 : Int32}
    (h : (4 ≤ y1 → K none A) ∧ (¬ 4 ≤ y1 → mo_Ok l G yy_Mo_names Y_Mo_names [.inr (some a0), .inl 8, .inl (9 + y1)] a0 ad Mb A (fun r B => B = A ∧ ∃ x2 : Int32, r = some (.inl x2) ∧ mo_Z l G Y_Mo_vanish K a0 ad Mb 20 [some (.inr (some a0)), some (.inl y1), some (.inl x2), some (.inl 0)] [] A))) :
    mo_Z l G Y_Mo_vanish K a0 ad Mb 2 [some (.inr (some a0)), some (.inl y1), none, none] [] A := by
  intro M0 M hS
  refine mr_iload_n dd_Mo_vanish_2 rfl ?_
  refine mr_iconst 4 dd_Mo_vanish_3 (by decide) ?_
  refine mr_icmp_ge 147 dd_Mo_vanish_4 (by decide) (fun hc4 => ?_) (fun hc4 => ?_)
  · have h := h.1 hc4
    exact mr_return dd_Mo_vanish_147 rfl ⟨_, hS, h⟩
  · have h := h.2 hc4
    refine mr_aload_n dd_Mo_vanish_7 rfl ?_
    refine mr_bipush 8 dd_Mo_vanish_8 (by decide) ?_
    refine mr_bipush 9 dd_Mo_vanish_10 (by decide) ?_
    refine mr_iload_n dd_Mo_vanish_12 rfl ?_
    refine mr_iadd dd_Mo_vanish_13 ?_
    refine mr_callV0 (Yc := Y_Mo_names) (M := M) (st := []) (vs := [.inl 8, .inl (9 + y1)]) (ci := 8) fc_Mo_109 iv_Mo_names sv_Mo_names dd_Mo_vanish_14 ⟨Nat.le_of_ble_eq_true rfl, Nat.le_of_ble_eq_true rfl⟩ (by decide) rfl rfl (Nat.le_of_ble_eq_true rfl) rfl hS.1 rfl rfl (h M hS) (fun r M _ h => ?_)
    obtain ⟨B, hS, hB, h⟩ := h
    rw [hB] at hS
    obtain ⟨x2, rfl, h⟩ := h
    show mm_Z l G Y_Mo_vanish (mo_K a0 ad Mb K) _ 0 0 17 [some (.inr (some a0)), some (.inl y1), none, none] [.inl x2] M
    refine mr_istore_n dd_Mo_vanish_17 (by decide) ?_
    show mm_Z l G Y_Mo_vanish (mo_K a0 ad Mb K) _ 0 0 18 [some (.inr (some a0)), some (.inl y1), some (.inl x2), none] [] M
    refine mr_iconst 0 dd_Mo_vanish_18 (by decide) ?_
    refine mr_istore_n dd_Mo_vanish_19 (by decide) ?_
    show mm_Z l G Y_Mo_vanish (mo_K a0 ad Mb K) _ 0 0 20 [some (.inr (some a0)), some (.inl y1), some (.inl x2), some (.inl 0)] [] M
    exact h _ M hS
set_option maxHeartbeats 4000000 in
set_option maxRecDepth 100000 in
theorem mg_vanish_20 {l : Launch} {G : mm_G} {K : Option mm_V → mo_A → Prop} {a0 : Nat} {ad : Nat → Nat} {Mb : mm_M} {A : mo_A} {y1 : Int32} {y2 : Int32} {y3 : Int32}
    (h : (8 ≤ y3 → ∃ j1 : Nat, y1 = nI j1 ∧ j1 < 4 ∧ (¬ (A 15 j1) = 2 → mo_Z l G Y_Mo_vanish K a0 ad Mb 2 [some (.inr (some a0)), some (.inl (y1 + 1)), none, none] [] A) ∧ ((A 15 j1) = 2 → (¬ y2 = 0 → mo_Z l G Y_Mo_vanish K a0 ad Mb 2 [some (.inr (some a0)), some (.inl (y1 + 1)), none, none] [] A) ∧ (y2 = 0 → mo_Z l G Y_Mo_vanish K a0 ad Mb 79 [some (.inr (some a0)), some (.inl y1), some (.inl y2), some (.inl 0)] [] A))) ∧ (¬ 8 ≤ y3 → (¬ y2 = 0 → mo_Z l G Y_Mo_vanish K a0 ad Mb 20 [some (.inr (some a0)), some (.inl y1), some (.inl 1), some (.inl (y3 + 1))] [] A) ∧ (y2 = 0 → mo_Ok l G yy_Mo_lives Y_Mo_lives [.inr (some a0), .inl y3] a0 ad Mb A (fun r B => B = A ∧ ∃ x5 : Int32, r = some (.inl x5) ∧ (x5 = 0 → mo_Z l G Y_Mo_vanish K a0 ad Mb 20 [some (.inr (some a0)), some (.inl y1), some (.inl 0), some (.inl (y3 + 1))] [] A) ∧ (¬ x5 = 0 → ∃ j6 : Nat, ((4 * y3) + y1) = nI j6 ∧ j6 < 32 ∧ ((A 19 j6) = 0 → mo_Z l G Y_Mo_vanish K a0 ad Mb 20 [some (.inr (some a0)), some (.inl y1), some (.inl 0), some (.inl (y3 + 1))] [] A) ∧ (¬ (A 19 j6) = 0 → mo_Z l G Y_Mo_vanish K a0 ad Mb 20 [some (.inr (some a0)), some (.inl y1), some (.inl 1), some (.inl (y3 + 1))] [] A)))))) :
    mo_Z l G Y_Mo_vanish K a0 ad Mb 20 [some (.inr (some a0)), some (.inl y1), some (.inl y2), some (.inl y3)] [] A := by
  intro M0 M hS
  refine mr_iload_n dd_Mo_vanish_20 rfl ?_
  refine mr_bipush 8 dd_Mo_vanish_21 (by decide) ?_
  refine mr_icmp_ge 63 dd_Mo_vanish_23 (by decide) (fun hc23 => ?_) (fun hc23 => ?_)
  · have h := h.1 hc23
    refine mr_aload_n dd_Mo_vanish_63 rfl ?_
    refine mr_getr ff_Mo_50 dd_Mo_vanish_64 rs_8_15 rfl hS.1 ?_
    rw [mo_p hS 15 (by decide) rfl]
    refine mr_iload_n dd_Mo_vanish_67 rfl ?_
    obtain ⟨j1, hj2, hb3, h⟩ := h
    refine mr_iald dd_Mo_vanish_68 rfl (mo_k hS 15 (by decide) rfl rfl) hj2 (Nat.lt_trans hb3 (by decide)) (mo_l hS 15 (by decide) rfl rfl hb3) ?_
    rw [mo_i hS 15 (by decide) rfl rfl hb3]
    refine mr_iconst 2 dd_Mo_vanish_69 (by decide) ?_
    refine mr_icmp_ne 141 dd_Mo_vanish_70 (by decide) (fun hc70 => ?_) (fun hc70 => ?_)
    · have h := h.1 hc70
      refine mr_iinc 1 dd_Mo_vanish_141 rfl (by decide) (by decide) ?_
      show mm_Z l G Y_Mo_vanish (mo_K a0 ad Mb K) _ 0 0 144 [some (.inr (some a0)), some (.inl (y1 + 1)), some (.inl y2), some (.inl y3)] [] M
      refine mr_goto 2 dd_Mo_vanish_144 (by decide) ?_
      exact mm_fg (mm_leq (mm_le_s (mm_le_s (mm_le_n (mm_le_n mm_le_e))))) (h _ M hS)
    · have h := h.2 hc70
      refine mr_iload_n dd_Mo_vanish_73 rfl ?_
      refine mr_if_ne 141 dd_Mo_vanish_74 (by decide) (fun hc74 => ?_) (fun hc74 => ?_)
      · have h := h.1 hc74
        refine mr_iinc 1 dd_Mo_vanish_141 rfl (by decide) (by decide) ?_
        show mm_Z l G Y_Mo_vanish (mo_K a0 ad Mb K) _ 0 0 144 [some (.inr (some a0)), some (.inl (y1 + 1)), some (.inl y2), some (.inl y3)] [] M
        refine mr_goto 2 dd_Mo_vanish_144 (by decide) ?_
        exact mm_fg (mm_leq (mm_le_s (mm_le_s (mm_le_n (mm_le_n mm_le_e))))) (h _ M hS)
      · have h := h.2 hc74
        refine mr_iconst 0 dd_Mo_vanish_77 (by decide) ?_
        refine mr_istore_n dd_Mo_vanish_78 (by decide) ?_
        show mm_Z l G Y_Mo_vanish (mo_K a0 ad Mb K) _ 0 0 79 [some (.inr (some a0)), some (.inl y1), some (.inl y2), some (.inl 0)] [] M
        exact h _ M hS
  · have h := h.2 hc23
    refine mr_iload_n dd_Mo_vanish_26 rfl ?_
    refine mr_if_ne 51 dd_Mo_vanish_27 (by decide) (fun hc27 => ?_) (fun hc27 => ?_)
    · have h := h.1 hc27
      refine mr_iconst 1 dd_Mo_vanish_51 (by decide) ?_
      refine mr_goto 56 dd_Mo_vanish_52 (by decide) ?_
      refine mr_istore_n dd_Mo_vanish_56 (by decide) ?_
      show mm_Z l G Y_Mo_vanish (mo_K a0 ad Mb K) _ 0 0 57 [some (.inr (some a0)), some (.inl y1), some (.inl 1), some (.inl y3)] [] M
      refine mr_iinc 1 dd_Mo_vanish_57 rfl (by decide) (by decide) ?_
      show mm_Z l G Y_Mo_vanish (mo_K a0 ad Mb K) _ 0 0 60 [some (.inr (some a0)), some (.inl y1), some (.inl 1), some (.inl (y3 + 1))] [] M
      refine mr_goto 20 dd_Mo_vanish_60 (by decide) ?_
      exact h _ M hS
    · have h := h.2 hc27
      refine mr_aload_n dd_Mo_vanish_30 rfl ?_
      refine mr_iload_n dd_Mo_vanish_31 rfl ?_
      refine mr_callV0 (Yc := Y_Mo_lives) (M := M) (st := []) (vs := [.inl y3]) (ci := 8) fc_Mo_89 iv_Mo_lives sv_Mo_lives dd_Mo_vanish_32 ⟨Nat.le_of_ble_eq_true rfl, Nat.le_of_ble_eq_true rfl⟩ (by decide) rfl rfl (Nat.le_of_ble_eq_true rfl) rfl hS.1 rfl rfl (h M hS) (fun r M _ h => ?_)
      obtain ⟨B, hS, hB, h⟩ := h
      rw [hB] at hS
      obtain ⟨x5, rfl, h⟩ := h
      show mm_Z l G Y_Mo_vanish (mo_K a0 ad Mb K) _ 0 0 35 [some (.inr (some a0)), some (.inl y1), some (.inl y2), some (.inl y3)] [.inl x5] M
      refine mr_if_eq 55 dd_Mo_vanish_35 (by decide) (fun hc35 => ?_) (fun hc35 => ?_)
      · have h := h.1 hc35
        refine mr_iconst 0 dd_Mo_vanish_55 (by decide) ?_
        refine mr_istore_n dd_Mo_vanish_56 (by decide) ?_
        show mm_Z l G Y_Mo_vanish (mo_K a0 ad Mb K) _ 0 0 57 [some (.inr (some a0)), some (.inl y1), some (.inl 0), some (.inl y3)] [] M
        refine mr_iinc 1 dd_Mo_vanish_57 rfl (by decide) (by decide) ?_
        show mm_Z l G Y_Mo_vanish (mo_K a0 ad Mb K) _ 0 0 60 [some (.inr (some a0)), some (.inl y1), some (.inl 0), some (.inl (y3 + 1))] [] M
        refine mr_goto 20 dd_Mo_vanish_60 (by decide) ?_
        exact h _ M hS
      · have h := h.2 hc35
        refine mr_aload_n dd_Mo_vanish_38 rfl ?_
        refine mr_getr ff_Mo_59 dd_Mo_vanish_39 rs_8_19 rfl hS.1 ?_
        rw [mo_p hS 19 (by decide) rfl]
        refine mr_iconst 4 dd_Mo_vanish_42 (by decide) ?_
        refine mr_iload_n dd_Mo_vanish_43 rfl ?_
        refine mr_imul dd_Mo_vanish_44 ?_
        refine mr_iload_n dd_Mo_vanish_45 rfl ?_
        refine mr_iadd dd_Mo_vanish_46 ?_
        obtain ⟨j6, hj7, hb8, h⟩ := h
        refine mr_zald dd_Mo_vanish_47 rfl (mo_k hS 19 (by decide) rfl rfl) hj7 (Nat.lt_trans hb8 (by decide)) (mo_l hS 19 (by decide) rfl rfl hb8) ?_
        rw [mo_i hS 19 (by decide) rfl rfl hb8]
        refine mr_if_eq 55 dd_Mo_vanish_48 (by decide) (fun hc48 => ?_) (fun hc48 => ?_)
        · have h := h.1 hc48
          refine mr_iconst 0 dd_Mo_vanish_55 (by decide) ?_
          refine mr_istore_n dd_Mo_vanish_56 (by decide) ?_
          show mm_Z l G Y_Mo_vanish (mo_K a0 ad Mb K) _ 0 0 57 [some (.inr (some a0)), some (.inl y1), some (.inl 0), some (.inl y3)] [] M
          refine mr_iinc 1 dd_Mo_vanish_57 rfl (by decide) (by decide) ?_
          show mm_Z l G Y_Mo_vanish (mo_K a0 ad Mb K) _ 0 0 60 [some (.inr (some a0)), some (.inl y1), some (.inl 0), some (.inl (y3 + 1))] [] M
          refine mr_goto 20 dd_Mo_vanish_60 (by decide) ?_
          exact h _ M hS
        · have h := h.2 hc48
          refine mr_iconst 1 dd_Mo_vanish_51 (by decide) ?_
          refine mr_goto 56 dd_Mo_vanish_52 (by decide) ?_
          refine mr_istore_n dd_Mo_vanish_56 (by decide) ?_
          show mm_Z l G Y_Mo_vanish (mo_K a0 ad Mb K) _ 0 0 57 [some (.inr (some a0)), some (.inl y1), some (.inl 1), some (.inl y3)] [] M
          refine mr_iinc 1 dd_Mo_vanish_57 rfl (by decide) (by decide) ?_
          show mm_Z l G Y_Mo_vanish (mo_K a0 ad Mb K) _ 0 0 60 [some (.inr (some a0)), some (.inl y1), some (.inl 1), some (.inl (y3 + 1))] [] M
          refine mr_goto 20 dd_Mo_vanish_60 (by decide) ?_
          exact h _ M hS
set_option maxHeartbeats 4000000 in
set_option maxRecDepth 100000 in
theorem mg_vanish_79 {l : Launch} {G : mm_G} {K : Option mm_V → mo_A → Prop} {a0 : Nat} {ad : Nat → Nat} {Mb : mm_M} {A : mo_A} {y1 : Int32} {y2 : Int32} {y3 : Int32}
    (h : (60 ≤ y3 → mo_Z l G Y_Mo_vanish K a0 ad Mb 111 [some (.inr (some a0)), some (.inl y1), some (.inl y2), some (.inl 0)] [] A) ∧ (¬ 60 ≤ y3 → ∃ j1 : Nat, y3 = nI j1 ∧ j1 < 60 ∧ (¬ (A 6 j1) = (10 + y1) → mo_Z l G Y_Mo_vanish K a0 ad Mb 79 [some (.inr (some a0)), some (.inl y1), some (.inl y2), some (.inl (y3 + 1))] [] A) ∧ ((A 6 j1) = (10 + y1) → mo_Ok l G yy_Mo_free Y_Mo_free [.inr (some a0), .inl y3] a0 ad Mb A (fun r A4 => r = none ∧ mo_Z l G Y_Mo_vanish K a0 ad Mb 79 [some (.inr (some a0)), some (.inl y1), some (.inl y2), some (.inl (y3 + 1))] [] A4)))) :
    mo_Z l G Y_Mo_vanish K a0 ad Mb 79 [some (.inr (some a0)), some (.inl y1), some (.inl y2), some (.inl y3)] [] A := by
  intro M0 M hS
  refine mr_iload_n dd_Mo_vanish_79 rfl ?_
  refine mr_bipush 60 dd_Mo_vanish_80 (by decide) ?_
  refine mr_icmp_ge 109 dd_Mo_vanish_82 (by decide) (fun hc82 => ?_) (fun hc82 => ?_)
  · have h := h.1 hc82
    refine mr_iconst 0 dd_Mo_vanish_109 (by decide) ?_
    refine mr_istore_n dd_Mo_vanish_110 (by decide) ?_
    show mm_Z l G Y_Mo_vanish (mo_K a0 ad Mb K) _ 0 0 111 [some (.inr (some a0)), some (.inl y1), some (.inl y2), some (.inl 0)] [] M
    exact h _ M hS
  · have h := h.2 hc82
    refine mr_aload_n dd_Mo_vanish_85 rfl ?_
    refine mr_getr ff_Mo_26 dd_Mo_vanish_86 rs_8_6 rfl hS.1 ?_
    rw [mo_p hS 6 (by decide) rfl]
    refine mr_iload_n dd_Mo_vanish_89 rfl ?_
    obtain ⟨j1, hj2, hb3, h⟩ := h
    refine mr_iald dd_Mo_vanish_90 rfl (mo_k hS 6 (by decide) rfl rfl) hj2 (Nat.lt_trans hb3 (by decide)) (mo_l hS 6 (by decide) rfl rfl hb3) ?_
    rw [mo_i hS 6 (by decide) rfl rfl hb3]
    refine mr_bipush 10 dd_Mo_vanish_91 (by decide) ?_
    refine mr_iload_n dd_Mo_vanish_93 rfl ?_
    refine mr_iadd dd_Mo_vanish_94 ?_
    refine mr_icmp_ne 103 dd_Mo_vanish_95 (by decide) (fun hc95 => ?_) (fun hc95 => ?_)
    · have h := h.1 hc95
      refine mr_iinc 1 dd_Mo_vanish_103 rfl (by decide) (by decide) ?_
      show mm_Z l G Y_Mo_vanish (mo_K a0 ad Mb K) _ 0 0 106 [some (.inr (some a0)), some (.inl y1), some (.inl y2), some (.inl (y3 + 1))] [] M
      refine mr_goto 79 dd_Mo_vanish_106 (by decide) ?_
      exact h _ M hS
    · have h := h.2 hc95
      refine mr_aload_n dd_Mo_vanish_98 rfl ?_
      refine mr_iload_n dd_Mo_vanish_99 rfl ?_
      refine mr_callV0 (Yc := Y_Mo_free) (M := M) (st := []) (vs := [.inl y3]) (ci := 8) fc_Mo_103 iv_Mo_free sv_Mo_free dd_Mo_vanish_100 ⟨Nat.le_of_ble_eq_true rfl, Nat.le_of_ble_eq_true rfl⟩ (by decide) rfl rfl (Nat.le_of_ble_eq_true rfl) rfl hS.1 rfl rfl (h M hS) (fun r M _ h => ?_)
      obtain ⟨A4, hS, h⟩ := h
      obtain ⟨rfl, h⟩ := h
      show mm_Z l G Y_Mo_vanish (mo_K a0 ad Mb K) _ 0 0 103 [some (.inr (some a0)), some (.inl y1), some (.inl y2), some (.inl y3)] [] M
      refine mr_iinc 1 dd_Mo_vanish_103 rfl (by decide) (by decide) ?_
      show mm_Z l G Y_Mo_vanish (mo_K a0 ad Mb K) _ 0 0 106 [some (.inr (some a0)), some (.inl y1), some (.inl y2), some (.inl (y3 + 1))] [] M
      refine mr_goto 79 dd_Mo_vanish_106 (by decide) ?_
      exact h _ M hS
set_option maxHeartbeats 4000000 in
set_option maxRecDepth 100000 in
theorem mg_vanish_111 {l : Launch} {G : mm_G} {K : Option mm_V → mo_A → Prop} {a0 : Nat} {ad : Nat → Nat} {Mb : mm_M} {A : mo_A} {y1 : Int32} {y2 : Int32} {y3 : Int32}
    (h : (8 ≤ y3 → ∃ j1 : Nat, y1 = nI j1 ∧ j1 < 4 ∧ mo_Z l G Y_Mo_vanish K a0 ad Mb 2 [some (.inr (some a0)), some (.inl (y1 + 1)), none, none] [] (mo_u A 15 j1 3)) ∧ (¬ 8 ≤ y3 → ∃ j4 : Nat, ((4 * y3) + y1) = nI j4 ∧ j4 < 32 ∧ mo_Z l G Y_Mo_vanish K a0 ad Mb 111 [some (.inr (some a0)), some (.inl y1), some (.inl y2), some (.inl (y3 + 1))] [] (mo_u A 20 j4 0))) :
    mo_Z l G Y_Mo_vanish K a0 ad Mb 111 [some (.inr (some a0)), some (.inl y1), some (.inl y2), some (.inl y3)] [] A := by
  intro M0 M hS
  refine mr_iload_n dd_Mo_vanish_111 rfl ?_
  refine mr_bipush 8 dd_Mo_vanish_112 (by decide) ?_
  refine mr_icmp_ge 134 dd_Mo_vanish_114 (by decide) (fun hc114 => ?_) (fun hc114 => ?_)
  · have h := h.1 hc114
    refine mr_aload_n dd_Mo_vanish_134 rfl ?_
    refine mr_getr ff_Mo_50 dd_Mo_vanish_135 rs_8_15 rfl hS.1 ?_
    rw [mo_p hS 15 (by decide) rfl]
    refine mr_iload_n dd_Mo_vanish_138 rfl ?_
    refine mr_iconst 3 dd_Mo_vanish_139 (by decide) ?_
    obtain ⟨j1, hj2, hb3, h⟩ := h
    refine mr_iast dd_Mo_vanish_140 rfl (mo_k hS 15 (by decide) rfl rfl) hj2 (Nat.lt_trans hb3 (by decide)) (mo_l hS 15 (by decide) rfl rfl hb3) ?_
    have hS := mo_S.up hS 15 (by decide) rfl j1 3
    generalize mm_si M (ad 15) j1 3 = M at hS ⊢
    refine mr_iinc 1 dd_Mo_vanish_141 rfl (by decide) (by decide) ?_
    show mm_Z l G Y_Mo_vanish (mo_K a0 ad Mb K) _ 0 0 144 [some (.inr (some a0)), some (.inl (y1 + 1)), some (.inl y2), some (.inl y3)] [] M
    refine mr_goto 2 dd_Mo_vanish_144 (by decide) ?_
    exact mm_fg (mm_leq (mm_le_s (mm_le_s (mm_le_n (mm_le_n mm_le_e))))) (h _ M hS)
  · have h := h.2 hc114
    refine mr_aload_n dd_Mo_vanish_117 rfl ?_
    refine mr_getr ff_Mo_62 dd_Mo_vanish_118 rs_8_20 rfl hS.1 ?_
    rw [mo_p hS 20 (by decide) rfl]
    refine mr_iconst 4 dd_Mo_vanish_121 (by decide) ?_
    refine mr_iload_n dd_Mo_vanish_122 rfl ?_
    refine mr_imul dd_Mo_vanish_123 ?_
    refine mr_iload_n dd_Mo_vanish_124 rfl ?_
    refine mr_iadd dd_Mo_vanish_125 ?_
    refine mr_iconst 0 dd_Mo_vanish_126 (by decide) ?_
    obtain ⟨j4, hj5, hb6, h⟩ := h
    refine mr_zast dd_Mo_vanish_127 rfl (mo_k hS 20 (by decide) rfl rfl) hj5 (Nat.lt_trans hb6 (by decide)) (mo_l hS 20 (by decide) rfl rfl hb6) (Or.inl rfl) ?_
    have hS := mo_S.up hS 20 (by decide) rfl j4 0
    generalize mm_si M (ad 20) j4 0 = M at hS ⊢
    refine mr_iinc 1 dd_Mo_vanish_128 rfl (by decide) (by decide) ?_
    show mm_Z l G Y_Mo_vanish (mo_K a0 ad Mb K) _ 0 0 131 [some (.inr (some a0)), some (.inl y1), some (.inl y2), some (.inl (y3 + 1))] [] M
    refine mr_goto 111 dd_Mo_vanish_131 (by decide) ?_
    exact h _ M hS
set_option maxHeartbeats 4000000 in
set_option maxRecDepth 100000 in
theorem mg_free {l : Launch} {G : mm_G} {K : Option mm_V → mo_A → Prop} {a0 : Nat} {ad : Nat → Nat} {Mb : mm_M} {A : mo_A} {xa : Int32}
    (h : ∃ j1 : Nat, xa = nI j1 ∧ j1 < 60 ∧ mo_Z l G Y_Mo_free K a0 ad Mb 19 [some (.inr (some a0)), some (.inl xa), some (.inl (A 9 j1)), some (.inl 1), some (.inl 0)] [] (mo_u A 6 j1 0)) :
    mo_Ok l G yy_Mo_free Y_Mo_free [.inr (some a0), .inl xa] a0 ad Mb A K := by
  intro M hS
  refine mm_go (by decide) rfl (fun q => by cases q) (Nat.le_of_ble_eq_true rfl) ?_
  show mm_Z l G Y_Mo_free (mo_K a0 ad Mb K) _ 0 0 0 [some (.inr (some a0)), some (.inl xa), none, none, none] [] M
  refine mr_aload_n dd_Mo_free_0 rfl ?_
  refine mr_getr ff_Mo_35 dd_Mo_free_1 rs_8_9 rfl hS.1 ?_
  rw [mo_p hS 9 (by decide) rfl]
  refine mr_iload_n dd_Mo_free_4 rfl ?_
  obtain ⟨j1, hj2, hb3, h⟩ := h
  refine mr_iald dd_Mo_free_5 rfl (mo_k hS 9 (by decide) rfl rfl) hj2 (Nat.lt_trans hb3 (by decide)) (mo_l hS 9 (by decide) rfl rfl hb3) ?_
  rw [mo_i hS 9 (by decide) rfl rfl hb3]
  refine mr_istore_n dd_Mo_free_6 (by decide) ?_
  show mm_Z l G Y_Mo_free (mo_K a0 ad Mb K) _ 0 0 7 [some (.inr (some a0)), some (.inl xa), some (.inl (A 9 j1)), none, none] [] M
  refine mr_aload_n dd_Mo_free_7 rfl ?_
  refine mr_getr ff_Mo_26 dd_Mo_free_8 rs_8_6 rfl hS.1 ?_
  rw [mo_p hS 6 (by decide) rfl]
  refine mr_iload_n dd_Mo_free_11 rfl ?_
  refine mr_iconst 0 dd_Mo_free_12 (by decide) ?_
  refine mr_iast dd_Mo_free_13 rfl (mo_k hS 6 (by decide) rfl rfl) hj2 (Nat.lt_trans hb3 (by decide)) (mo_l hS 6 (by decide) rfl rfl hb3) ?_
  have hS := mo_S.up hS 6 (by decide) rfl j1 0
  generalize mm_si M (ad 6) j1 0 = M at hS ⊢
  refine mr_iconst 1 dd_Mo_free_14 (by decide) ?_
  refine mr_istore_n dd_Mo_free_15 (by decide) ?_
  show mm_Z l G Y_Mo_free (mo_K a0 ad Mb K) _ 0 0 16 [some (.inr (some a0)), some (.inl xa), some (.inl (A 9 j1)), some (.inl 1), none] [] M
  refine mr_iconst 0 dd_Mo_free_16 (by decide) ?_
  refine mr_istore dd_Mo_free_17 (by decide) ?_
  show mm_Z l G Y_Mo_free (mo_K a0 ad Mb K) _ 0 0 19 [some (.inr (some a0)), some (.inl xa), some (.inl (A 9 j1)), some (.inl 1), some (.inl 0)] [] M
  exact h _ M hS
set_option maxHeartbeats 4000000 in
set_option maxRecDepth 100000 in
theorem mg_free_19 {l : Launch} {G : mm_G} {K : Option mm_V → mo_A → Prop} {a0 : Nat} {ad : Nat → Nat} {Mb : mm_M} {A : mo_A} {y1 : Int32} {y2 : Int32} {y3 : Int32} {y4 : Int32}
    (h : (60 ≤ y4 → (y3 = 0 → mo_Z l G Y_Mo_free K a0 ad Mb 77 [some (.inr (some a0)), some (.inl y1), some (.inl y2), some (.inl y3), some (.inl 0)] [] A) ∧ (¬ y3 = 0 → ∃ j1 : Nat, y2 = nI j1 ∧ j1 < 24 ∧ mo_Z l G Y_Mo_free K a0 ad Mb 77 [some (.inr (some a0)), some (.inl y1), some (.inl y2), some (.inl y3), some (.inl 0)] [] (mo_u A 11 j1 0))) ∧ (¬ 60 ≤ y4 → (y3 = 0 → mo_Z l G Y_Mo_free K a0 ad Mb 19 [some (.inr (some a0)), some (.inl y1), some (.inl y2), some (.inl 0), some (.inl (y4 + 1))] [] A) ∧ (¬ y3 = 0 → ∃ j4 : Nat, y4 = nI j4 ∧ j4 < 60 ∧ ((A 6 j4) ≤ 0 → mo_Z l G Y_Mo_free K a0 ad Mb 19 [some (.inr (some a0)), some (.inl y1), some (.inl y2), some (.inl 1), some (.inl (y4 + 1))] [] A) ∧ (¬ (A 6 j4) ≤ 0 → ((A 9 j4) = y2 → mo_Z l G Y_Mo_free K a0 ad Mb 19 [some (.inr (some a0)), some (.inl y1), some (.inl y2), some (.inl 0), some (.inl (y4 + 1))] [] A) ∧ (¬ (A 9 j4) = y2 → mo_Z l G Y_Mo_free K a0 ad Mb 19 [some (.inr (some a0)), some (.inl y1), some (.inl y2), some (.inl 1), some (.inl (y4 + 1))] [] A))))) :
    mo_Z l G Y_Mo_free K a0 ad Mb 19 [some (.inr (some a0)), some (.inl y1), some (.inl y2), some (.inl y3), some (.inl y4)] [] A := by
  intro M0 M hS
  refine mr_iload dd_Mo_free_19 rfl ?_
  refine mr_bipush 60 dd_Mo_free_21 (by decide) ?_
  refine mr_icmp_ge 63 dd_Mo_free_23 (by decide) (fun hc23 => ?_) (fun hc23 => ?_)
  · have h := h.1 hc23
    refine mr_iload_n dd_Mo_free_63 rfl ?_
    refine mr_if_eq 74 dd_Mo_free_64 (by decide) (fun hc64 => ?_) (fun hc64 => ?_)
    · have h := h.1 hc64
      refine mr_iconst 0 dd_Mo_free_74 (by decide) ?_
      refine mr_istore dd_Mo_free_75 (by decide) ?_
      show mm_Z l G Y_Mo_free (mo_K a0 ad Mb K) _ 0 0 77 [some (.inr (some a0)), some (.inl y1), some (.inl y2), some (.inl y3), some (.inl 0)] [] M
      exact h _ M hS
    · have h := h.2 hc64
      refine mr_aload_n dd_Mo_free_67 rfl ?_
      refine mr_getr ff_Mo_41 dd_Mo_free_68 rs_8_11 rfl hS.1 ?_
      rw [mo_p hS 11 (by decide) rfl]
      refine mr_iload_n dd_Mo_free_71 rfl ?_
      refine mr_iconst 0 dd_Mo_free_72 (by decide) ?_
      obtain ⟨j1, hj2, hb3, h⟩ := h
      refine mr_iast dd_Mo_free_73 rfl (mo_k hS 11 (by decide) rfl rfl) hj2 (Nat.lt_trans hb3 (by decide)) (mo_l hS 11 (by decide) rfl rfl hb3) ?_
      have hS := mo_S.up hS 11 (by decide) rfl j1 0
      generalize mm_si M (ad 11) j1 0 = M at hS ⊢
      refine mr_iconst 0 dd_Mo_free_74 (by decide) ?_
      refine mr_istore dd_Mo_free_75 (by decide) ?_
      show mm_Z l G Y_Mo_free (mo_K a0 ad Mb K) _ 0 0 77 [some (.inr (some a0)), some (.inl y1), some (.inl y2), some (.inl y3), some (.inl 0)] [] M
      exact h _ M hS
  · have h := h.2 hc23
    refine mr_iload_n dd_Mo_free_26 rfl ?_
    refine mr_if_eq 55 dd_Mo_free_27 (by decide) (fun hc27 => ?_) (fun hc27 => ?_)
    · have h := h.1 hc27
      refine mr_iconst 0 dd_Mo_free_55 (by decide) ?_
      refine mr_istore_n dd_Mo_free_56 (by decide) ?_
      show mm_Z l G Y_Mo_free (mo_K a0 ad Mb K) _ 0 0 57 [some (.inr (some a0)), some (.inl y1), some (.inl y2), some (.inl 0), some (.inl y4)] [] M
      refine mr_iinc 1 dd_Mo_free_57 rfl (by decide) (by decide) ?_
      show mm_Z l G Y_Mo_free (mo_K a0 ad Mb K) _ 0 0 60 [some (.inr (some a0)), some (.inl y1), some (.inl y2), some (.inl 0), some (.inl (y4 + 1))] [] M
      refine mr_goto 19 dd_Mo_free_60 (by decide) ?_
      exact h _ M hS
    · have h := h.2 hc27
      refine mr_aload_n dd_Mo_free_30 rfl ?_
      refine mr_getr ff_Mo_26 dd_Mo_free_31 rs_8_6 rfl hS.1 ?_
      rw [mo_p hS 6 (by decide) rfl]
      refine mr_iload dd_Mo_free_34 rfl ?_
      obtain ⟨j4, hj5, hb6, h⟩ := h
      refine mr_iald dd_Mo_free_36 rfl (mo_k hS 6 (by decide) rfl rfl) hj5 (Nat.lt_trans hb6 (by decide)) (mo_l hS 6 (by decide) rfl rfl hb6) ?_
      rw [mo_i hS 6 (by decide) rfl rfl hb6]
      refine mr_if_le 51 dd_Mo_free_37 (by decide) (fun hc37 => ?_) (fun hc37 => ?_)
      · have h := h.1 hc37
        refine mr_iconst 1 dd_Mo_free_51 (by decide) ?_
        refine mr_goto 56 dd_Mo_free_52 (by decide) ?_
        refine mr_istore_n dd_Mo_free_56 (by decide) ?_
        show mm_Z l G Y_Mo_free (mo_K a0 ad Mb K) _ 0 0 57 [some (.inr (some a0)), some (.inl y1), some (.inl y2), some (.inl 1), some (.inl y4)] [] M
        refine mr_iinc 1 dd_Mo_free_57 rfl (by decide) (by decide) ?_
        show mm_Z l G Y_Mo_free (mo_K a0 ad Mb K) _ 0 0 60 [some (.inr (some a0)), some (.inl y1), some (.inl y2), some (.inl 1), some (.inl (y4 + 1))] [] M
        refine mr_goto 19 dd_Mo_free_60 (by decide) ?_
        exact h _ M hS
      · have h := h.2 hc37
        refine mr_aload_n dd_Mo_free_40 rfl ?_
        refine mr_getr ff_Mo_35 dd_Mo_free_41 rs_8_9 rfl hS.1 ?_
        rw [mo_p hS 9 (by decide) rfl]
        refine mr_iload dd_Mo_free_44 rfl ?_
        refine mr_iald dd_Mo_free_46 rfl (mo_k hS 9 (by decide) rfl rfl) hj5 (Nat.lt_trans hb6 (by decide)) (mo_l hS 9 (by decide) rfl rfl hb6) ?_
        rw [mo_i hS 9 (by decide) rfl rfl hb6]
        refine mr_iload_n dd_Mo_free_47 rfl ?_
        refine mr_icmp_eq 55 dd_Mo_free_48 (by decide) (fun hc48 => ?_) (fun hc48 => ?_)
        · have h := h.1 hc48
          refine mr_iconst 0 dd_Mo_free_55 (by decide) ?_
          refine mr_istore_n dd_Mo_free_56 (by decide) ?_
          show mm_Z l G Y_Mo_free (mo_K a0 ad Mb K) _ 0 0 57 [some (.inr (some a0)), some (.inl y1), some (.inl y2), some (.inl 0), some (.inl y4)] [] M
          refine mr_iinc 1 dd_Mo_free_57 rfl (by decide) (by decide) ?_
          show mm_Z l G Y_Mo_free (mo_K a0 ad Mb K) _ 0 0 60 [some (.inr (some a0)), some (.inl y1), some (.inl y2), some (.inl 0), some (.inl (y4 + 1))] [] M
          refine mr_goto 19 dd_Mo_free_60 (by decide) ?_
          exact h _ M hS
        · have h := h.2 hc48
          refine mr_iconst 1 dd_Mo_free_51 (by decide) ?_
          refine mr_goto 56 dd_Mo_free_52 (by decide) ?_
          refine mr_istore_n dd_Mo_free_56 (by decide) ?_
          show mm_Z l G Y_Mo_free (mo_K a0 ad Mb K) _ 0 0 57 [some (.inr (some a0)), some (.inl y1), some (.inl y2), some (.inl 1), some (.inl y4)] [] M
          refine mr_iinc 1 dd_Mo_free_57 rfl (by decide) (by decide) ?_
          show mm_Z l G Y_Mo_free (mo_K a0 ad Mb K) _ 0 0 60 [some (.inr (some a0)), some (.inl y1), some (.inl y2), some (.inl 1), some (.inl (y4 + 1))] [] M
          refine mr_goto 19 dd_Mo_free_60 (by decide) ?_
          exact h _ M hS
set_option maxHeartbeats 4000000 in
set_option maxRecDepth 100000 in
theorem mg_free_77 {l : Launch} {G : mm_G} {K : Option mm_V → mo_A → Prop} {a0 : Nat} {ad : Nat → Nat} {Mb : mm_M} {A : mo_A} {y1 : Int32} {y2 : Int32} {y3 : Int32} {y4 : Int32}
    (h : (13 ≤ y4 → K none A) ∧ (¬ 13 ≤ y4 → ∃ j1 : Nat, ((60 * y4) + y1) = nI j1 ∧ j1 < 780 ∧ mo_Z l G Y_Mo_free K a0 ad Mb 77 [some (.inr (some a0)), some (.inl y1), some (.inl y2), some (.inl y3), some (.inl (y4 + 1))] [] (mo_u A 21 j1 0))) :
    mo_Z l G Y_Mo_free K a0 ad Mb 77 [some (.inr (some a0)), some (.inl y1), some (.inl y2), some (.inl y3), some (.inl y4)] [] A := by
  intro M0 M hS
  refine mr_iload dd_Mo_free_77 rfl ?_
  refine mr_bipush 13 dd_Mo_free_79 (by decide) ?_
  refine mr_icmp_ge 103 dd_Mo_free_81 (by decide) (fun hc81 => ?_) (fun hc81 => ?_)
  · have h := h.1 hc81
    exact mr_return dd_Mo_free_103 rfl ⟨_, hS, h⟩
  · have h := h.2 hc81
    refine mr_aload_n dd_Mo_free_84 rfl ?_
    refine mr_getr ff_Mo_65 dd_Mo_free_85 rs_8_21 rfl hS.1 ?_
    rw [mo_p hS 21 (by decide) rfl]
    refine mr_bipush 60 dd_Mo_free_88 (by decide) ?_
    refine mr_iload dd_Mo_free_90 rfl ?_
    refine mr_imul dd_Mo_free_92 ?_
    refine mr_iload_n dd_Mo_free_93 rfl ?_
    refine mr_iadd dd_Mo_free_94 ?_
    refine mr_iconst 0 dd_Mo_free_95 (by decide) ?_
    obtain ⟨j1, hj2, hb3, h⟩ := h
    refine mr_zast dd_Mo_free_96 rfl (mo_k hS 21 (by decide) rfl rfl) hj2 (Nat.lt_trans hb3 (by decide)) (mo_l hS 21 (by decide) rfl rfl hb3) (Or.inl rfl) ?_
    have hS := mo_S.up hS 21 (by decide) rfl j1 0
    generalize mm_si M (ad 21) j1 0 = M at hS ⊢
    refine mr_iinc 1 dd_Mo_free_97 rfl (by decide) (by decide) ?_
    show mm_Z l G Y_Mo_free (mo_K a0 ad Mb K) _ 0 0 100 [some (.inr (some a0)), some (.inl y1), some (.inl y2), some (.inl y3), some (.inl (y4 + 1))] [] M
    refine mr_goto 77 dd_Mo_free_100 (by decide) ?_
    exact h _ M hS
set_option maxHeartbeats 4000000 in
set_option maxRecDepth 100000 in
theorem mg_mode {l : Launch} {G : mm_G} {K : Option mm_V → mo_A → Prop} {a0 : Nat} {ad : Nat → Nat} {Mb : mm_M} {A : mo_A} {xa : Int32} {xb : Int32}
    (h : mo_Ok l G yy_Mo_lives Y_Mo_lives [.inr (some a0), .inl xa] a0 ad Mb A (fun r B => B = A ∧ ∃ x2 : Int32, r = some (.inl x2) ∧ (x2 = 0 → K (some (.inl 0)) A) ∧ (¬ x2 = 0 → ∃ j3 : Nat, xa = nI j3 ∧ j3 < 8 ∧ ((A 0 j3) < 2 → (¬ xb = 0 → (¬ (A 0 j3) = 3 → (xb = 0 → K (some (.inl 1)) (mo_u A 0 j3 1)) ∧ (¬ xb = 0 → K (some (.inl 1)) (mo_u A 0 j3 2))) ∧ ((A 0 j3) = 3 → mo_Ok l G yy_Mo_die Y_Mo_die [.inr (some a0), .inl xa] a0 ad Mb A (fun r A6 => r = none ∧ K (some (.inl 1)) A6))) ∧ (xb = 0 → K (some (.inl 0)) A)) ∧ (¬ (A 0 j3) < 2 → (¬ xb = 1 → (¬ (A 0 j3) = 3 → (xb = 0 → K (some (.inl 1)) (mo_u A 0 j3 1)) ∧ (¬ xb = 0 → K (some (.inl 1)) (mo_u A 0 j3 2))) ∧ ((A 0 j3) = 3 → mo_Ok l G yy_Mo_die Y_Mo_die [.inr (some a0), .inl xa] a0 ad Mb A (fun r A7 => r = none ∧ K (some (.inl 1)) A7))) ∧ (xb = 1 → K (some (.inl 0)) A))))) :
    mo_Ok l G yy_Mo_mode Y_Mo_mode [.inr (some a0), .inl xa, .inl xb] a0 ad Mb A K := by
  intro M hS
  refine mm_go (by decide) rfl (fun q => by cases q) (Nat.le_of_ble_eq_true rfl) ?_
  show mm_Z l G Y_Mo_mode (mo_K a0 ad Mb K) _ 0 0 0 [some (.inr (some a0)), some (.inl xa), some (.inl xb)] [] M
  refine mr_aload_n dd_Mo_mode_0 rfl ?_
  refine mr_iload_n dd_Mo_mode_1 rfl ?_
  refine mr_callV0 (Yc := Y_Mo_lives) (M := M) (st := []) (vs := [.inl xa]) (ci := 8) fc_Mo_89 iv_Mo_lives sv_Mo_lives dd_Mo_mode_2 ⟨Nat.le_of_ble_eq_true rfl, Nat.le_of_ble_eq_true rfl⟩ (by decide) rfl rfl (Nat.le_of_ble_eq_true rfl) rfl hS.1 rfl rfl (h M hS) (fun r M _ h => ?_)
  obtain ⟨B, hS, hB, h⟩ := h
  rw [hB] at hS
  obtain ⟨x2, rfl, h⟩ := h
  show mm_Z l G Y_Mo_mode (mo_K a0 ad Mb K) _ 0 0 5 [some (.inr (some a0)), some (.inl xa), some (.inl xb)] [.inl x2] M
  refine mr_if_eq 27 dd_Mo_mode_5 (by decide) (fun hc5 => ?_) (fun hc5 => ?_)
  · have h := h.1 hc5
    refine mr_iconst 0 dd_Mo_mode_27 (by decide) ?_
    exact mr_zreturn dd_Mo_mode_28 rfl (Or.inl rfl) ⟨_, hS, h⟩
  · have h := h.2 hc5
    refine mr_iload_n dd_Mo_mode_8 rfl ?_
    refine mr_aload_n dd_Mo_mode_9 rfl ?_
    refine mr_getr ff_Mo_7 dd_Mo_mode_10 rs_8_0 rfl hS.1 ?_
    rw [mo_p hS 0 (by decide) rfl]
    refine mr_iload_n dd_Mo_mode_13 rfl ?_
    obtain ⟨j3, hj4, hb5, h⟩ := h
    refine mr_iald dd_Mo_mode_14 rfl (mo_k hS 0 (by decide) rfl rfl) hj4 (Nat.lt_trans hb5 (by decide)) (mo_l hS 0 (by decide) rfl rfl hb5) ?_
    rw [mo_i hS 0 (by decide) rfl rfl hb5]
    refine mr_iconst 2 dd_Mo_mode_15 (by decide) ?_
    refine mr_icmp_lt 23 dd_Mo_mode_16 (by decide) (fun hc16 => ?_) (fun hc16 => ?_)
    · have h := h.1 hc16
      refine mr_iconst 0 dd_Mo_mode_23 (by decide) ?_
      refine mr_icmp_ne 29 dd_Mo_mode_24 (by decide) (fun hc24 => ?_) (fun hc24 => ?_)
      · have h := h.1 hc24
        refine mr_aload_n dd_Mo_mode_29 rfl ?_
        refine mr_getr ff_Mo_7 dd_Mo_mode_30 rs_8_0 rfl hS.1 ?_
        rw [mo_p hS 0 (by decide) rfl]
        refine mr_iload_n dd_Mo_mode_33 rfl ?_
        refine mr_iald dd_Mo_mode_34 rfl (mo_k hS 0 (by decide) rfl rfl) hj4 (Nat.lt_trans hb5 (by decide)) (mo_l hS 0 (by decide) rfl rfl hb5) ?_
        rw [mo_i hS 0 (by decide) rfl rfl hb5]
        refine mr_iconst 3 dd_Mo_mode_35 (by decide) ?_
        refine mr_icmp_ne 47 dd_Mo_mode_36 (by decide) (fun hc36 => ?_) (fun hc36 => ?_)
        · have h := h.1 hc36
          refine mr_aload_n dd_Mo_mode_47 rfl ?_
          refine mr_getr ff_Mo_7 dd_Mo_mode_48 rs_8_0 rfl hS.1 ?_
          rw [mo_p hS 0 (by decide) rfl]
          refine mr_iload_n dd_Mo_mode_51 rfl ?_
          refine mr_iload_n dd_Mo_mode_52 rfl ?_
          refine mr_if_eq 60 dd_Mo_mode_53 (by decide) (fun hc53 => ?_) (fun hc53 => ?_)
          · have h := h.1 hc53
            refine mr_iconst 1 dd_Mo_mode_60 (by decide) ?_
            refine mr_iast dd_Mo_mode_61 rfl (mo_k hS 0 (by decide) rfl rfl) hj4 (Nat.lt_trans hb5 (by decide)) (mo_l hS 0 (by decide) rfl rfl hb5) ?_
            have hS := mo_S.up hS 0 (by decide) rfl j3 1
            generalize mm_si M (ad 0) j3 1 = M at hS ⊢
            refine mr_iconst 1 dd_Mo_mode_62 (by decide) ?_
            exact mr_zreturn dd_Mo_mode_63 rfl (Or.inr rfl) ⟨_, hS, h⟩
          · have h := h.2 hc53
            refine mr_iconst 2 dd_Mo_mode_56 (by decide) ?_
            refine mr_goto 61 dd_Mo_mode_57 (by decide) ?_
            refine mr_iast dd_Mo_mode_61 rfl (mo_k hS 0 (by decide) rfl rfl) hj4 (Nat.lt_trans hb5 (by decide)) (mo_l hS 0 (by decide) rfl rfl hb5) ?_
            have hS := mo_S.up hS 0 (by decide) rfl j3 2
            generalize mm_si M (ad 0) j3 2 = M at hS ⊢
            refine mr_iconst 1 dd_Mo_mode_62 (by decide) ?_
            exact mr_zreturn dd_Mo_mode_63 rfl (Or.inr rfl) ⟨_, hS, h⟩
        · have h := h.2 hc36
          refine mr_aload_n dd_Mo_mode_39 rfl ?_
          refine mr_iload_n dd_Mo_mode_40 rfl ?_
          refine mr_callV0 (Yc := Y_Mo_die) (M := M) (st := []) (vs := [.inl xa]) (ci := 8) fc_Mo_127 iv_Mo_die sv_Mo_die dd_Mo_mode_41 ⟨Nat.le_of_ble_eq_true rfl, Nat.le_of_ble_eq_true rfl⟩ (by decide) rfl rfl (Nat.le_of_ble_eq_true rfl) rfl hS.1 rfl rfl (h M hS) (fun r M _ h => ?_)
          obtain ⟨A6, hS, h⟩ := h
          obtain ⟨rfl, h⟩ := h
          show mm_Z l G Y_Mo_mode (mo_K a0 ad Mb K) _ 0 0 44 [some (.inr (some a0)), some (.inl xa), some (.inl xb)] [] M
          refine mr_goto 62 dd_Mo_mode_44 (by decide) ?_
          refine mr_iconst 1 dd_Mo_mode_62 (by decide) ?_
          exact mr_zreturn dd_Mo_mode_63 rfl (Or.inr rfl) ⟨_, hS, h⟩
      · have h := h.2 hc24
        refine mr_iconst 0 dd_Mo_mode_27 (by decide) ?_
        exact mr_zreturn dd_Mo_mode_28 rfl (Or.inl rfl) ⟨_, hS, h⟩
    · have h := h.2 hc16
      refine mr_iconst 1 dd_Mo_mode_19 (by decide) ?_
      refine mr_goto 24 dd_Mo_mode_20 (by decide) ?_
      refine mr_icmp_ne 29 dd_Mo_mode_24 (by decide) (fun hc24 => ?_) (fun hc24 => ?_)
      · have h := h.1 hc24
        refine mr_aload_n dd_Mo_mode_29 rfl ?_
        refine mr_getr ff_Mo_7 dd_Mo_mode_30 rs_8_0 rfl hS.1 ?_
        rw [mo_p hS 0 (by decide) rfl]
        refine mr_iload_n dd_Mo_mode_33 rfl ?_
        refine mr_iald dd_Mo_mode_34 rfl (mo_k hS 0 (by decide) rfl rfl) hj4 (Nat.lt_trans hb5 (by decide)) (mo_l hS 0 (by decide) rfl rfl hb5) ?_
        rw [mo_i hS 0 (by decide) rfl rfl hb5]
        refine mr_iconst 3 dd_Mo_mode_35 (by decide) ?_
        refine mr_icmp_ne 47 dd_Mo_mode_36 (by decide) (fun hc36 => ?_) (fun hc36 => ?_)
        · have h := h.1 hc36
          refine mr_aload_n dd_Mo_mode_47 rfl ?_
          refine mr_getr ff_Mo_7 dd_Mo_mode_48 rs_8_0 rfl hS.1 ?_
          rw [mo_p hS 0 (by decide) rfl]
          refine mr_iload_n dd_Mo_mode_51 rfl ?_
          refine mr_iload_n dd_Mo_mode_52 rfl ?_
          refine mr_if_eq 60 dd_Mo_mode_53 (by decide) (fun hc53 => ?_) (fun hc53 => ?_)
          · have h := h.1 hc53
            refine mr_iconst 1 dd_Mo_mode_60 (by decide) ?_
            refine mr_iast dd_Mo_mode_61 rfl (mo_k hS 0 (by decide) rfl rfl) hj4 (Nat.lt_trans hb5 (by decide)) (mo_l hS 0 (by decide) rfl rfl hb5) ?_
            have hS := mo_S.up hS 0 (by decide) rfl j3 1
            generalize mm_si M (ad 0) j3 1 = M at hS ⊢
            refine mr_iconst 1 dd_Mo_mode_62 (by decide) ?_
            exact mr_zreturn dd_Mo_mode_63 rfl (Or.inr rfl) ⟨_, hS, h⟩
          · have h := h.2 hc53
            refine mr_iconst 2 dd_Mo_mode_56 (by decide) ?_
            refine mr_goto 61 dd_Mo_mode_57 (by decide) ?_
            refine mr_iast dd_Mo_mode_61 rfl (mo_k hS 0 (by decide) rfl rfl) hj4 (Nat.lt_trans hb5 (by decide)) (mo_l hS 0 (by decide) rfl rfl hb5) ?_
            have hS := mo_S.up hS 0 (by decide) rfl j3 2
            generalize mm_si M (ad 0) j3 2 = M at hS ⊢
            refine mr_iconst 1 dd_Mo_mode_62 (by decide) ?_
            exact mr_zreturn dd_Mo_mode_63 rfl (Or.inr rfl) ⟨_, hS, h⟩
        · have h := h.2 hc36
          refine mr_aload_n dd_Mo_mode_39 rfl ?_
          refine mr_iload_n dd_Mo_mode_40 rfl ?_
          refine mr_callV0 (Yc := Y_Mo_die) (M := M) (st := []) (vs := [.inl xa]) (ci := 8) fc_Mo_127 iv_Mo_die sv_Mo_die dd_Mo_mode_41 ⟨Nat.le_of_ble_eq_true rfl, Nat.le_of_ble_eq_true rfl⟩ (by decide) rfl rfl (Nat.le_of_ble_eq_true rfl) rfl hS.1 rfl rfl (h M hS) (fun r M _ h => ?_)
          obtain ⟨A7, hS, h⟩ := h
          obtain ⟨rfl, h⟩ := h
          show mm_Z l G Y_Mo_mode (mo_K a0 ad Mb K) _ 0 0 44 [some (.inr (some a0)), some (.inl xa), some (.inl xb)] [] M
          refine mr_goto 62 dd_Mo_mode_44 (by decide) ?_
          refine mr_iconst 1 dd_Mo_mode_62 (by decide) ?_
          exact mr_zreturn dd_Mo_mode_63 rfl (Or.inr rfl) ⟨_, hS, h⟩
      · have h := h.2 hc24
        refine mr_iconst 0 dd_Mo_mode_27 (by decide) ?_
        exact mr_zreturn dd_Mo_mode_28 rfl (Or.inl rfl) ⟨_, hS, h⟩
set_option maxHeartbeats 4000000 in
set_option maxRecDepth 100000 in
theorem mg_make {l : Launch} {G : mm_G} {K : Option mm_V → mo_A → Prop} {a0 : Nat} {ad : Nat → Nat} {Mb : mm_M} {A : mo_A} {xa : Int32} {xb : Int32} {xc : Int32} {xd : Int32}
    (h : mo_Ok l G yy_Mo_lives Y_Mo_lives [.inr (some a0), .inl xa] a0 ad Mb A (fun r B => B = A ∧ ∃ x2 : Int32, r = some (.inl x2) ∧ (x2 = 0 → K (some (.inl (-1))) A) ∧ (¬ x2 = 0 → mo_Ok l G yy_Mo_isRegister Y_Mo_isRegister [.inl xb] a0 ad Mb A (fun r B => B = A ∧ ∃ x4 : Int32, r = some (.inl x4) ∧ (x4 = 0 → K (some (.inl (-1))) A) ∧ (¬ x4 = 0 → (xc < 1 → K (some (.inl (-1))) A) ∧ (¬ xc < 1 → (xc ≤ 16 → mo_Z l G Y_Mo_make K a0 ad Mb 31 [some (.inr (some a0)), some (.inl xa), some (.inl xb), some (.inl xc), some (.inl xd), some (.inl 0), none, none, none, none, none] [] A) ∧ (¬ xc ≤ 16 → K (some (.inl (-1))) A))))))) :
    mo_Ok l G yy_Mo_make Y_Mo_make [.inr (some a0), .inl xa, .inl xb, .inl xc, .inl xd] a0 ad Mb A K := by
  intro M hS
  refine mm_go (by decide) rfl (fun q => by cases q) (Nat.le_of_ble_eq_true rfl) ?_
  show mm_Z l G Y_Mo_make (mo_K a0 ad Mb K) _ 0 0 0 [some (.inr (some a0)), some (.inl xa), some (.inl xb), some (.inl xc), some (.inl xd), none, none, none, none, none, none] [] M
  refine mr_aload_n dd_Mo_make_0 rfl ?_
  refine mr_iload_n dd_Mo_make_1 rfl ?_
  refine mr_callV0 (Yc := Y_Mo_lives) (M := M) (st := []) (vs := [.inl xa]) (ci := 8) fc_Mo_89 iv_Mo_lives sv_Mo_lives dd_Mo_make_2 ⟨Nat.le_of_ble_eq_true rfl, Nat.le_of_ble_eq_true rfl⟩ (by decide) rfl rfl (Nat.le_of_ble_eq_true rfl) rfl hS.1 rfl rfl (h M hS) (fun r M _ h => ?_)
  obtain ⟨B, hS, hB, h⟩ := h
  rw [hB] at hS
  obtain ⟨x2, rfl, h⟩ := h
  show mm_Z l G Y_Mo_make (mo_K a0 ad Mb K) _ 0 0 5 [some (.inr (some a0)), some (.inl xa), some (.inl xb), some (.inl xc), some (.inl xd), none, none, none, none, none, none] [.inl x2] M
  refine mr_if_eq 26 dd_Mo_make_5 (by decide) (fun hc5 => ?_) (fun hc5 => ?_)
  · have h := h.1 hc5
    refine mr_iconst (-1) dd_Mo_make_26 (by decide) ?_
    exact mr_ireturn dd_Mo_make_27 rfl ⟨_, hS, h⟩
  · have h := h.2 hc5
    refine mr_iload_n dd_Mo_make_8 rfl ?_
    refine mr_callS0 (Yc := Y_Mo_isRegister) (M := M) (st := []) (vs := [.inl xb]) fc_Mo_134 si_Mo_isRegister dd_Mo_make_9 ⟨Nat.le_of_ble_eq_true rfl, Nat.le_of_ble_eq_true rfl⟩ rfl (Nat.le_of_ble_eq_true rfl) rfl rfl (h M hS) (fun r M _ h => ?_)
    obtain ⟨B, hS, hB, h⟩ := h
    rw [hB] at hS
    obtain ⟨x4, rfl, h⟩ := h
    show mm_Z l G Y_Mo_make (mo_K a0 ad Mb K) _ 0 0 12 [some (.inr (some a0)), some (.inl xa), some (.inl xb), some (.inl xc), some (.inl xd), none, none, none, none, none, none] [.inl x4] M
    refine mr_if_eq 26 dd_Mo_make_12 (by decide) (fun hc12 => ?_) (fun hc12 => ?_)
    · have h := h.1 hc12
      refine mr_iconst (-1) dd_Mo_make_26 (by decide) ?_
      exact mr_ireturn dd_Mo_make_27 rfl ⟨_, hS, h⟩
    · have h := h.2 hc12
      refine mr_iload_n dd_Mo_make_15 rfl ?_
      refine mr_iconst 1 dd_Mo_make_16 (by decide) ?_
      refine mr_icmp_lt 26 dd_Mo_make_17 (by decide) (fun hc17 => ?_) (fun hc17 => ?_)
      · have h := h.1 hc17
        refine mr_iconst (-1) dd_Mo_make_26 (by decide) ?_
        exact mr_ireturn dd_Mo_make_27 rfl ⟨_, hS, h⟩
      · have h := h.2 hc17
        refine mr_iload_n dd_Mo_make_20 rfl ?_
        refine mr_bipush 16 dd_Mo_make_21 (by decide) ?_
        refine mr_icmp_le 28 dd_Mo_make_23 (by decide) (fun hc23 => ?_) (fun hc23 => ?_)
        · have h := h.1 hc23
          refine mr_iconst 0 dd_Mo_make_28 (by decide) ?_
          refine mr_istore dd_Mo_make_29 (by decide) ?_
          show mm_Z l G Y_Mo_make (mo_K a0 ad Mb K) _ 0 0 31 [some (.inr (some a0)), some (.inl xa), some (.inl xb), some (.inl xc), some (.inl xd), some (.inl 0), none, none, none, none, none] [] M
          exact h _ M hS
        · have h := h.2 hc23
          refine mr_iconst (-1) dd_Mo_make_26 (by decide) ?_
          exact mr_ireturn dd_Mo_make_27 rfl ⟨_, hS, h⟩
set_option maxHeartbeats 4000000 in
set_option maxRecDepth 100000 in
theorem mg_make_31 {l : Launch} {G : mm_G} {K : Option mm_V → mo_A → Prop} {a0 : Nat} {ad : Nat → Nat} {Mb : mm_M} {A : mo_A} {y1 : Int32} {y2 : Int32} {y3 : Int32} {y4 : Int32} {y5 : Int32}
    (h : (60 ≤ y5 → (¬ y5 = 60 → ∃ j1 : Nat, y1 = nI j1 ∧ j1 < 8 ∧ ((A 0 j1) < 2 → mo_Z l G Y_Mo_make K a0 ad Mb 97 [some (.inr (some a0)), some (.inl y1), some (.inl y2), some (.inl y3), some (.inl y4), some (.inl y5), some (.inl 0), some (.inl y1), some (.inl 0), none, none] [] A) ∧ (¬ (A 0 j1) < 2 → mo_Z l G Y_Mo_make K a0 ad Mb 97 [some (.inr (some a0)), some (.inl y1), some (.inl y2), some (.inl y3), some (.inl y4), some (.inl y5), some (.inl 1), some (.inl 8), some (.inl 0), none, none] [] A)) ∧ (y5 = 60 → K (some (.inl (-4))) A)) ∧ (¬ 60 ≤ y5 → ∃ j4 : Nat, y5 = nI j4 ∧ j4 < 60 ∧ ((A 6 j4) ≤ 0 → (¬ y5 = 60 → ∃ j7 : Nat, y1 = nI j7 ∧ j7 < 8 ∧ ((A 0 j7) < 2 → mo_Z l G Y_Mo_make K a0 ad Mb 97 [some (.inr (some a0)), some (.inl y1), some (.inl y2), some (.inl y3), some (.inl y4), some (.inl y5), some (.inl 0), some (.inl y1), some (.inl 0), none, none] [] A) ∧ (¬ (A 0 j7) < 2 → mo_Z l G Y_Mo_make K a0 ad Mb 97 [some (.inr (some a0)), some (.inl y1), some (.inl y2), some (.inl y3), some (.inl y4), some (.inl y5), some (.inl 1), some (.inl 8), some (.inl 0), none, none] [] A)) ∧ (y5 = 60 → K (some (.inl (-4))) A)) ∧ (¬ (A 6 j4) ≤ 0 → mo_Z l G Y_Mo_make K a0 ad Mb 31 [some (.inr (some a0)), some (.inl y1), some (.inl y2), some (.inl y3), some (.inl y4), some (.inl (y5 + 1)), none, none, none, none, none] [] A))) :
    mo_Z l G Y_Mo_make K a0 ad Mb 31 [some (.inr (some a0)), some (.inl y1), some (.inl y2), some (.inl y3), some (.inl y4), some (.inl y5), none, none, none, none, none] [] A := by
  intro M0 M hS
  refine mr_iload dd_Mo_make_31 rfl ?_
  refine mr_bipush 60 dd_Mo_make_33 (by decide) ?_
  refine mr_icmp_ge 54 dd_Mo_make_35 (by decide) (fun hc35 => ?_) (fun hc35 => ?_)
  · have h := h.1 hc35
    refine mr_iload dd_Mo_make_54 rfl ?_
    refine mr_bipush 60 dd_Mo_make_56 (by decide) ?_
    refine mr_icmp_ne 64 dd_Mo_make_58 (by decide) (fun hc58 => ?_) (fun hc58 => ?_)
    · have h := h.1 hc58
      refine mr_aload_n dd_Mo_make_64 rfl ?_
      refine mr_getr ff_Mo_7 dd_Mo_make_65 rs_8_0 rfl hS.1 ?_
      rw [mo_p hS 0 (by decide) rfl]
      refine mr_iload_n dd_Mo_make_68 rfl ?_
      obtain ⟨j1, hj2, hb3, h⟩ := h
      refine mr_iald dd_Mo_make_69 rfl (mo_k hS 0 (by decide) rfl rfl) hj2 (Nat.lt_trans hb3 (by decide)) (mo_l hS 0 (by decide) rfl rfl hb3) ?_
      rw [mo_i hS 0 (by decide) rfl rfl hb3]
      refine mr_iconst 2 dd_Mo_make_70 (by decide) ?_
      refine mr_icmp_lt 78 dd_Mo_make_71 (by decide) (fun hc71 => ?_) (fun hc71 => ?_)
      · have h := h.1 hc71
        refine mr_iconst 0 dd_Mo_make_78 (by decide) ?_
        refine mr_istore dd_Mo_make_79 (by decide) ?_
        show mm_Z l G Y_Mo_make (mo_K a0 ad Mb K) _ 0 0 81 [some (.inr (some a0)), some (.inl y1), some (.inl y2), some (.inl y3), some (.inl y4), some (.inl y5), some (.inl 0), none, none, none, none] [] M
        refine mr_iload dd_Mo_make_81 rfl ?_
        refine mr_if_eq 91 dd_Mo_make_83 (by decide) (fun _ => ?_) (fun q => absurd q (by decide))
        refine mr_iload_n dd_Mo_make_91 rfl ?_
        refine mr_istore dd_Mo_make_92 (by decide) ?_
        show mm_Z l G Y_Mo_make (mo_K a0 ad Mb K) _ 0 0 94 [some (.inr (some a0)), some (.inl y1), some (.inl y2), some (.inl y3), some (.inl y4), some (.inl y5), some (.inl 0), some (.inl y1), none, none, none] [] M
        refine mr_iconst 0 dd_Mo_make_94 (by decide) ?_
        refine mr_istore dd_Mo_make_95 (by decide) ?_
        show mm_Z l G Y_Mo_make (mo_K a0 ad Mb K) _ 0 0 97 [some (.inr (some a0)), some (.inl y1), some (.inl y2), some (.inl y3), some (.inl y4), some (.inl y5), some (.inl 0), some (.inl y1), some (.inl 0), none, none] [] M
        exact h _ M hS
      · have h := h.2 hc71
        refine mr_iconst 1 dd_Mo_make_74 (by decide) ?_
        refine mr_goto 79 dd_Mo_make_75 (by decide) ?_
        refine mr_istore dd_Mo_make_79 (by decide) ?_
        show mm_Z l G Y_Mo_make (mo_K a0 ad Mb K) _ 0 0 81 [some (.inr (some a0)), some (.inl y1), some (.inl y2), some (.inl y3), some (.inl y4), some (.inl y5), some (.inl 1), none, none, none, none] [] M
        refine mr_iload dd_Mo_make_81 rfl ?_
        refine mr_if_eq 91 dd_Mo_make_83 (by decide) (fun q => absurd q (by decide)) (fun _ => ?_)
        refine mr_bipush 8 dd_Mo_make_86 (by decide) ?_
        refine mr_goto 92 dd_Mo_make_88 (by decide) ?_
        refine mr_istore dd_Mo_make_92 (by decide) ?_
        show mm_Z l G Y_Mo_make (mo_K a0 ad Mb K) _ 0 0 94 [some (.inr (some a0)), some (.inl y1), some (.inl y2), some (.inl y3), some (.inl y4), some (.inl y5), some (.inl 1), some (.inl 8), none, none, none] [] M
        refine mr_iconst 0 dd_Mo_make_94 (by decide) ?_
        refine mr_istore dd_Mo_make_95 (by decide) ?_
        show mm_Z l G Y_Mo_make (mo_K a0 ad Mb K) _ 0 0 97 [some (.inr (some a0)), some (.inl y1), some (.inl y2), some (.inl y3), some (.inl y4), some (.inl y5), some (.inl 1), some (.inl 8), some (.inl 0), none, none] [] M
        exact h _ M hS
    · have h := h.2 hc58
      refine mr_bipush (-4) dd_Mo_make_61 (by decide) ?_
      exact mr_ireturn dd_Mo_make_63 rfl ⟨_, hS, h⟩
  · have h := h.2 hc35
    refine mr_aload_n dd_Mo_make_38 rfl ?_
    refine mr_getr ff_Mo_26 dd_Mo_make_39 rs_8_6 rfl hS.1 ?_
    rw [mo_p hS 6 (by decide) rfl]
    refine mr_iload dd_Mo_make_42 rfl ?_
    obtain ⟨j4, hj5, hb6, h⟩ := h
    refine mr_iald dd_Mo_make_44 rfl (mo_k hS 6 (by decide) rfl rfl) hj5 (Nat.lt_trans hb6 (by decide)) (mo_l hS 6 (by decide) rfl rfl hb6) ?_
    rw [mo_i hS 6 (by decide) rfl rfl hb6]
    refine mr_if_le 54 dd_Mo_make_45 (by decide) (fun hc45 => ?_) (fun hc45 => ?_)
    · have h := h.1 hc45
      refine mr_iload dd_Mo_make_54 rfl ?_
      refine mr_bipush 60 dd_Mo_make_56 (by decide) ?_
      refine mr_icmp_ne 64 dd_Mo_make_58 (by decide) (fun hc58 => ?_) (fun hc58 => ?_)
      · have h := h.1 hc58
        refine mr_aload_n dd_Mo_make_64 rfl ?_
        refine mr_getr ff_Mo_7 dd_Mo_make_65 rs_8_0 rfl hS.1 ?_
        rw [mo_p hS 0 (by decide) rfl]
        refine mr_iload_n dd_Mo_make_68 rfl ?_
        obtain ⟨j7, hj8, hb9, h⟩ := h
        refine mr_iald dd_Mo_make_69 rfl (mo_k hS 0 (by decide) rfl rfl) hj8 (Nat.lt_trans hb9 (by decide)) (mo_l hS 0 (by decide) rfl rfl hb9) ?_
        rw [mo_i hS 0 (by decide) rfl rfl hb9]
        refine mr_iconst 2 dd_Mo_make_70 (by decide) ?_
        refine mr_icmp_lt 78 dd_Mo_make_71 (by decide) (fun hc71 => ?_) (fun hc71 => ?_)
        · have h := h.1 hc71
          refine mr_iconst 0 dd_Mo_make_78 (by decide) ?_
          refine mr_istore dd_Mo_make_79 (by decide) ?_
          show mm_Z l G Y_Mo_make (mo_K a0 ad Mb K) _ 0 0 81 [some (.inr (some a0)), some (.inl y1), some (.inl y2), some (.inl y3), some (.inl y4), some (.inl y5), some (.inl 0), none, none, none, none] [] M
          refine mr_iload dd_Mo_make_81 rfl ?_
          refine mr_if_eq 91 dd_Mo_make_83 (by decide) (fun _ => ?_) (fun q => absurd q (by decide))
          refine mr_iload_n dd_Mo_make_91 rfl ?_
          refine mr_istore dd_Mo_make_92 (by decide) ?_
          show mm_Z l G Y_Mo_make (mo_K a0 ad Mb K) _ 0 0 94 [some (.inr (some a0)), some (.inl y1), some (.inl y2), some (.inl y3), some (.inl y4), some (.inl y5), some (.inl 0), some (.inl y1), none, none, none] [] M
          refine mr_iconst 0 dd_Mo_make_94 (by decide) ?_
          refine mr_istore dd_Mo_make_95 (by decide) ?_
          show mm_Z l G Y_Mo_make (mo_K a0 ad Mb K) _ 0 0 97 [some (.inr (some a0)), some (.inl y1), some (.inl y2), some (.inl y3), some (.inl y4), some (.inl y5), some (.inl 0), some (.inl y1), some (.inl 0), none, none] [] M
          exact h _ M hS
        · have h := h.2 hc71
          refine mr_iconst 1 dd_Mo_make_74 (by decide) ?_
          refine mr_goto 79 dd_Mo_make_75 (by decide) ?_
          refine mr_istore dd_Mo_make_79 (by decide) ?_
          show mm_Z l G Y_Mo_make (mo_K a0 ad Mb K) _ 0 0 81 [some (.inr (some a0)), some (.inl y1), some (.inl y2), some (.inl y3), some (.inl y4), some (.inl y5), some (.inl 1), none, none, none, none] [] M
          refine mr_iload dd_Mo_make_81 rfl ?_
          refine mr_if_eq 91 dd_Mo_make_83 (by decide) (fun q => absurd q (by decide)) (fun _ => ?_)
          refine mr_bipush 8 dd_Mo_make_86 (by decide) ?_
          refine mr_goto 92 dd_Mo_make_88 (by decide) ?_
          refine mr_istore dd_Mo_make_92 (by decide) ?_
          show mm_Z l G Y_Mo_make (mo_K a0 ad Mb K) _ 0 0 94 [some (.inr (some a0)), some (.inl y1), some (.inl y2), some (.inl y3), some (.inl y4), some (.inl y5), some (.inl 1), some (.inl 8), none, none, none] [] M
          refine mr_iconst 0 dd_Mo_make_94 (by decide) ?_
          refine mr_istore dd_Mo_make_95 (by decide) ?_
          show mm_Z l G Y_Mo_make (mo_K a0 ad Mb K) _ 0 0 97 [some (.inr (some a0)), some (.inl y1), some (.inl y2), some (.inl y3), some (.inl y4), some (.inl y5), some (.inl 1), some (.inl 8), some (.inl 0), none, none] [] M
          exact h _ M hS
      · have h := h.2 hc58
        refine mr_bipush (-4) dd_Mo_make_61 (by decide) ?_
        exact mr_ireturn dd_Mo_make_63 rfl ⟨_, hS, h⟩
    · have h := h.2 hc45
      refine mr_iinc 1 dd_Mo_make_48 rfl (by decide) (by decide) ?_
      show mm_Z l G Y_Mo_make (mo_K a0 ad Mb K) _ 0 0 51 [some (.inr (some a0)), some (.inl y1), some (.inl y2), some (.inl y3), some (.inl y4), some (.inl (y5 + 1)), none, none, none, none, none] [] M
      refine mr_goto 31 dd_Mo_make_51 (by decide) ?_
      exact h _ M hS
set_option maxHeartbeats 4000000 in
set_option maxRecDepth 100000 in
theorem mg_make_97 {l : Launch} {G : mm_G} {K : Option mm_V → mo_A → Prop} {a0 : Nat} {ad : Nat → Nat} {Mb : mm_M} {A : mo_A} {y1 : Int32} {y2 : Int32} {y3 : Int32} {y4 : Int32} {y5 : Int32} {y6 : Int32} {y7 : Int32} {y8 : Int32}
    (h : (4 ≤ y8 → (y6 = 0 → mo_Ok l G yy_Mo_find Y_Mo_find [.inr (some a0), .inl y7, .inl y1, .inl y3] a0 ad Mb A (fun r A1 => ∃ x2 : Int32, r = some (.inl x2) ∧ (0 ≤ x2 → (0 ≤ x2 → mo_Z l G Y_Mo_make K a0 ad Mb 214 [some (.inr (some a0)), some (.inl y1), some (.inl y2), some (.inl y3), some (.inl y4), some (.inl 0), some (.inl y6), some (.inl y7), some (.inl y1), some (.inl x2), none] [] A1) ∧ (¬ 0 ≤ x2 → K (some (.inl (-5))) A1)) ∧ (¬ 0 ≤ x2 → (y6 = 0 → mo_Ok l G yy_Mo_sweep Y_Mo_sweep [.inr (some a0), .inl y1] a0 ad Mb A1 (fun r A3 => ∃ x4 : Int32, r = some (.inl x4) ∧ mo_Ok l G yy_Mo_find Y_Mo_find [.inr (some a0), .inl y7, .inl y1, .inl y3] a0 ad Mb A3 (fun r A5 => ∃ x6 : Int32, r = some (.inl x6) ∧ (0 ≤ x6 → mo_Z l G Y_Mo_make K a0 ad Mb 214 [some (.inr (some a0)), some (.inl y1), some (.inl y2), some (.inl y3), some (.inl y4), some (.inl 0), some (.inl y6), some (.inl y7), some (.inl y1), some (.inl x6), none] [] A5) ∧ (¬ 0 ≤ x6 → K (some (.inl (-5))) A5)))) ∧ (¬ y6 = 0 → mo_Ok l G yy_Mo_sweep Y_Mo_sweep [.inr (some a0), .inl 8] a0 ad Mb A1 (fun r A7 => ∃ x8 : Int32, r = some (.inl x8) ∧ mo_Ok l G yy_Mo_find Y_Mo_find [.inr (some a0), .inl y7, .inl y1, .inl y3] a0 ad Mb A7 (fun r A9 => ∃ x10 : Int32, r = some (.inl x10) ∧ (0 ≤ x10 → mo_Z l G Y_Mo_make K a0 ad Mb 214 [some (.inr (some a0)), some (.inl y1), some (.inl y2), some (.inl y3), some (.inl y4), some (.inl 0), some (.inl y6), some (.inl y7), some (.inl y1), some (.inl x10), none] [] A9) ∧ (¬ 0 ≤ x10 → K (some (.inl (-5))) A9))))))) ∧ (¬ y6 = 0 → mo_Ok l G yy_Mo_find Y_Mo_find [.inr (some a0), .inl y7, .inl 0, .inl y3] a0 ad Mb A (fun r A11 => ∃ x12 : Int32, r = some (.inl x12) ∧ (0 ≤ x12 → (0 ≤ x12 → mo_Z l G Y_Mo_make K a0 ad Mb 214 [some (.inr (some a0)), some (.inl y1), some (.inl y2), some (.inl y3), some (.inl y4), some (.inl 0), some (.inl y6), some (.inl y7), some (.inl 0), some (.inl x12), none] [] A11) ∧ (¬ 0 ≤ x12 → K (some (.inl (-5))) A11)) ∧ (¬ 0 ≤ x12 → (y6 = 0 → mo_Ok l G yy_Mo_sweep Y_Mo_sweep [.inr (some a0), .inl y1] a0 ad Mb A11 (fun r A13 => ∃ x14 : Int32, r = some (.inl x14) ∧ mo_Ok l G yy_Mo_find Y_Mo_find [.inr (some a0), .inl y7, .inl 0, .inl y3] a0 ad Mb A13 (fun r A15 => ∃ x16 : Int32, r = some (.inl x16) ∧ (0 ≤ x16 → mo_Z l G Y_Mo_make K a0 ad Mb 214 [some (.inr (some a0)), some (.inl y1), some (.inl y2), some (.inl y3), some (.inl y4), some (.inl 0), some (.inl y6), some (.inl y7), some (.inl 0), some (.inl x16), none] [] A15) ∧ (¬ 0 ≤ x16 → K (some (.inl (-5))) A15)))) ∧ (¬ y6 = 0 → mo_Ok l G yy_Mo_sweep Y_Mo_sweep [.inr (some a0), .inl 8] a0 ad Mb A11 (fun r A17 => ∃ x18 : Int32, r = some (.inl x18) ∧ mo_Ok l G yy_Mo_find Y_Mo_find [.inr (some a0), .inl y7, .inl 0, .inl y3] a0 ad Mb A17 (fun r A19 => ∃ x20 : Int32, r = some (.inl x20) ∧ (0 ≤ x20 → mo_Z l G Y_Mo_make K a0 ad Mb 214 [some (.inr (some a0)), some (.inl y1), some (.inl y2), some (.inl y3), some (.inl y4), some (.inl 0), some (.inl y6), some (.inl y7), some (.inl 0), some (.inl x20), none] [] A19) ∧ (¬ 0 ≤ x20 → K (some (.inl (-5))) A19)))))))) ∧ (¬ 4 ≤ y8 → (¬ y6 = 0 → mo_Z l G Y_Mo_make K a0 ad Mb 97 [some (.inr (some a0)), some (.inl y1), some (.inl y2), some (.inl y3), some (.inl y4), some (.inl y5), some (.inl y6), some (.inl y7), some (.inl (y8 + 1)), none, none] [] A) ∧ (y6 = 0 → ∃ j21 : Nat, y8 = nI j21 ∧ j21 < 4 ∧ (¬ (A 15 j21) = 1 → mo_Z l G Y_Mo_make K a0 ad Mb 97 [some (.inr (some a0)), some (.inl y1), some (.inl y2), some (.inl y3), some (.inl y4), some (.inl y5), some (.inl y6), some (.inl y7), some (.inl (y8 + 1)), none, none] [] A) ∧ ((A 15 j21) = 1 → (¬ (A 16 j21) = y1 → mo_Z l G Y_Mo_make K a0 ad Mb 97 [some (.inr (some a0)), some (.inl y1), some (.inl y2), some (.inl y3), some (.inl y4), some (.inl y5), some (.inl y6), some (.inl y7), some (.inl (y8 + 1)), none, none] [] A) ∧ ((A 16 j21) = y1 → mo_Z l G Y_Mo_make K a0 ad Mb 97 [some (.inr (some a0)), some (.inl y1), some (.inl y2), some (.inl y3), some (.inl y4), some (.inl y5), some (.inl y6), some (.inl (9 + y8)), some (.inl (y8 + 1)), none, none] [] A))))) :
    mo_Z l G Y_Mo_make K a0 ad Mb 97 [some (.inr (some a0)), some (.inl y1), some (.inl y2), some (.inl y3), some (.inl y4), some (.inl y5), some (.inl y6), some (.inl y7), some (.inl y8), none, none] [] A := by
  intro M0 M hS
  refine mr_iload dd_Mo_make_97 rfl ?_
  refine mr_iconst 4 dd_Mo_make_99 (by decide) ?_
  refine mr_icmp_ge 148 dd_Mo_make_100 (by decide) (fun hc100 => ?_) (fun hc100 => ?_)
  · have h := h.1 hc100
    refine mr_iload dd_Mo_make_148 rfl ?_
    refine mr_if_eq 157 dd_Mo_make_150 (by decide) (fun hc150 => ?_) (fun hc150 => ?_)
    · have h := h.1 hc150
      refine mr_iload_n dd_Mo_make_157 rfl ?_
      refine mr_istore dd_Mo_make_158 (by decide) ?_
      show mm_Z l G Y_Mo_make (mo_K a0 ad Mb K) _ 0 0 160 [some (.inr (some a0)), some (.inl y1), some (.inl y2), some (.inl y3), some (.inl y4), some (.inl y5), some (.inl y6), some (.inl y7), some (.inl y1), none, none] [] M
      refine mr_aload_n dd_Mo_make_160 rfl ?_
      refine mr_iload dd_Mo_make_161 rfl ?_
      refine mr_iload dd_Mo_make_163 rfl ?_
      refine mr_iload_n dd_Mo_make_165 rfl ?_
      refine mr_callV0 (Yc := Y_Mo_find) (M := M) (st := []) (vs := [.inl y7, .inl y1, .inl y3]) (ci := 8) fc_Mo_137 iv_Mo_find sv_Mo_find dd_Mo_make_166 ⟨Nat.le_of_ble_eq_true rfl, Nat.le_of_ble_eq_true rfl⟩ (by decide) rfl rfl (Nat.le_of_ble_eq_true rfl) rfl hS.1 rfl rfl (h M hS) (fun r M _ h => ?_)
      obtain ⟨A1, hS, h⟩ := h
      obtain ⟨x2, rfl, h⟩ := h
      show mm_Z l G Y_Mo_make (mo_K a0 ad Mb K) _ 0 0 169 [some (.inr (some a0)), some (.inl y1), some (.inl y2), some (.inl y3), some (.inl y4), some (.inl y5), some (.inl y6), some (.inl y7), some (.inl y1), none, none] [.inl x2] M
      refine mr_istore dd_Mo_make_169 (by decide) ?_
      show mm_Z l G Y_Mo_make (mo_K a0 ad Mb K) _ 0 0 171 [some (.inr (some a0)), some (.inl y1), some (.inl y2), some (.inl y3), some (.inl y4), some (.inl y5), some (.inl y6), some (.inl y7), some (.inl y1), some (.inl x2), none] [] M
      refine mr_iload dd_Mo_make_171 rfl ?_
      refine mr_if_ge 203 dd_Mo_make_173 (by decide) (fun hc173 => ?_) (fun hc173 => ?_)
      · have h := h.1 hc173
        refine mr_iload dd_Mo_make_203 rfl ?_
        refine mr_if_ge 211 dd_Mo_make_205 (by decide) (fun hc205 => ?_) (fun hc205 => ?_)
        · have h := h.1 hc205
          refine mr_iconst 0 dd_Mo_make_211 (by decide) ?_
          refine mr_istore dd_Mo_make_212 (by decide) ?_
          show mm_Z l G Y_Mo_make (mo_K a0 ad Mb K) _ 0 0 214 [some (.inr (some a0)), some (.inl y1), some (.inl y2), some (.inl y3), some (.inl y4), some (.inl 0), some (.inl y6), some (.inl y7), some (.inl y1), some (.inl x2), none] [] M
          exact h _ M hS
        · have h := h.2 hc205
          refine mr_bipush (-5) dd_Mo_make_208 (by decide) ?_
          exact mr_ireturn dd_Mo_make_210 rfl ⟨_, hS, h⟩
      · have h := h.2 hc173
        refine mr_aload_n dd_Mo_make_176 rfl ?_
        refine mr_iload dd_Mo_make_177 rfl ?_
        refine mr_if_eq 187 dd_Mo_make_179 (by decide) (fun hc179 => ?_) (fun hc179 => ?_)
        · have h := h.1 hc179
          refine mr_iload_n dd_Mo_make_187 rfl ?_
          refine mr_callV0 (Yc := Y_Mo_sweep) (M := M) (st := []) (vs := [.inl y1]) (ci := 8) fc_Mo_141 iv_Mo_sweep sv_Mo_sweep dd_Mo_make_188 ⟨Nat.le_of_ble_eq_true rfl, Nat.le_of_ble_eq_true rfl⟩ (by decide) rfl rfl (Nat.le_of_ble_eq_true rfl) rfl hS.1 rfl rfl (h M hS) (fun r M _ h => ?_)
          obtain ⟨A3, hS, h⟩ := h
          obtain ⟨x4, rfl, h⟩ := h
          show mm_Z l G Y_Mo_make (mo_K a0 ad Mb K) _ 0 0 191 [some (.inr (some a0)), some (.inl y1), some (.inl y2), some (.inl y3), some (.inl y4), some (.inl y5), some (.inl y6), some (.inl y7), some (.inl y1), some (.inl x2), none] [.inl x4] M
          refine mr_pop dd_Mo_make_191 ?_
          refine mr_aload_n dd_Mo_make_192 rfl ?_
          refine mr_iload dd_Mo_make_193 rfl ?_
          refine mr_iload dd_Mo_make_195 rfl ?_
          refine mr_iload_n dd_Mo_make_197 rfl ?_
          refine mr_callV0 (Yc := Y_Mo_find) (M := M) (st := []) (vs := [.inl y7, .inl y1, .inl y3]) (ci := 8) fc_Mo_137 iv_Mo_find sv_Mo_find dd_Mo_make_198 ⟨Nat.le_of_ble_eq_true rfl, Nat.le_of_ble_eq_true rfl⟩ (by decide) rfl rfl (Nat.le_of_ble_eq_true rfl) rfl hS.1 rfl rfl (h M hS) (fun r M _ h => ?_)
          obtain ⟨A5, hS, h⟩ := h
          obtain ⟨x6, rfl, h⟩ := h
          show mm_Z l G Y_Mo_make (mo_K a0 ad Mb K) _ 0 0 201 [some (.inr (some a0)), some (.inl y1), some (.inl y2), some (.inl y3), some (.inl y4), some (.inl y5), some (.inl y6), some (.inl y7), some (.inl y1), some (.inl x2), none] [.inl x6] M
          refine mr_istore dd_Mo_make_201 (by decide) ?_
          show mm_Z l G Y_Mo_make (mo_K a0 ad Mb K) _ 0 0 203 [some (.inr (some a0)), some (.inl y1), some (.inl y2), some (.inl y3), some (.inl y4), some (.inl y5), some (.inl y6), some (.inl y7), some (.inl y1), some (.inl x6), none] [] M
          refine mr_iload dd_Mo_make_203 rfl ?_
          refine mr_if_ge 211 dd_Mo_make_205 (by decide) (fun hc205 => ?_) (fun hc205 => ?_)
          · have h := h.1 hc205
            refine mr_iconst 0 dd_Mo_make_211 (by decide) ?_
            refine mr_istore dd_Mo_make_212 (by decide) ?_
            show mm_Z l G Y_Mo_make (mo_K a0 ad Mb K) _ 0 0 214 [some (.inr (some a0)), some (.inl y1), some (.inl y2), some (.inl y3), some (.inl y4), some (.inl 0), some (.inl y6), some (.inl y7), some (.inl y1), some (.inl x6), none] [] M
            exact h _ M hS
          · have h := h.2 hc205
            refine mr_bipush (-5) dd_Mo_make_208 (by decide) ?_
            exact mr_ireturn dd_Mo_make_210 rfl ⟨_, hS, h⟩
        · have h := h.2 hc179
          refine mr_bipush 8 dd_Mo_make_182 (by decide) ?_
          refine mr_goto 188 dd_Mo_make_184 (by decide) ?_
          refine mr_callV0 (Yc := Y_Mo_sweep) (M := M) (st := []) (vs := [.inl 8]) (ci := 8) fc_Mo_141 iv_Mo_sweep sv_Mo_sweep dd_Mo_make_188 ⟨Nat.le_of_ble_eq_true rfl, Nat.le_of_ble_eq_true rfl⟩ (by decide) rfl rfl (Nat.le_of_ble_eq_true rfl) rfl hS.1 rfl rfl (h M hS) (fun r M _ h => ?_)
          obtain ⟨A7, hS, h⟩ := h
          obtain ⟨x8, rfl, h⟩ := h
          show mm_Z l G Y_Mo_make (mo_K a0 ad Mb K) _ 0 0 191 [some (.inr (some a0)), some (.inl y1), some (.inl y2), some (.inl y3), some (.inl y4), some (.inl y5), some (.inl y6), some (.inl y7), some (.inl y1), some (.inl x2), none] [.inl x8] M
          refine mr_pop dd_Mo_make_191 ?_
          refine mr_aload_n dd_Mo_make_192 rfl ?_
          refine mr_iload dd_Mo_make_193 rfl ?_
          refine mr_iload dd_Mo_make_195 rfl ?_
          refine mr_iload_n dd_Mo_make_197 rfl ?_
          refine mr_callV0 (Yc := Y_Mo_find) (M := M) (st := []) (vs := [.inl y7, .inl y1, .inl y3]) (ci := 8) fc_Mo_137 iv_Mo_find sv_Mo_find dd_Mo_make_198 ⟨Nat.le_of_ble_eq_true rfl, Nat.le_of_ble_eq_true rfl⟩ (by decide) rfl rfl (Nat.le_of_ble_eq_true rfl) rfl hS.1 rfl rfl (h M hS) (fun r M _ h => ?_)
          obtain ⟨A9, hS, h⟩ := h
          obtain ⟨x10, rfl, h⟩ := h
          show mm_Z l G Y_Mo_make (mo_K a0 ad Mb K) _ 0 0 201 [some (.inr (some a0)), some (.inl y1), some (.inl y2), some (.inl y3), some (.inl y4), some (.inl y5), some (.inl y6), some (.inl y7), some (.inl y1), some (.inl x2), none] [.inl x10] M
          refine mr_istore dd_Mo_make_201 (by decide) ?_
          show mm_Z l G Y_Mo_make (mo_K a0 ad Mb K) _ 0 0 203 [some (.inr (some a0)), some (.inl y1), some (.inl y2), some (.inl y3), some (.inl y4), some (.inl y5), some (.inl y6), some (.inl y7), some (.inl y1), some (.inl x10), none] [] M
          refine mr_iload dd_Mo_make_203 rfl ?_
          refine mr_if_ge 211 dd_Mo_make_205 (by decide) (fun hc205 => ?_) (fun hc205 => ?_)
          · have h := h.1 hc205
            refine mr_iconst 0 dd_Mo_make_211 (by decide) ?_
            refine mr_istore dd_Mo_make_212 (by decide) ?_
            show mm_Z l G Y_Mo_make (mo_K a0 ad Mb K) _ 0 0 214 [some (.inr (some a0)), some (.inl y1), some (.inl y2), some (.inl y3), some (.inl y4), some (.inl 0), some (.inl y6), some (.inl y7), some (.inl y1), some (.inl x10), none] [] M
            exact h _ M hS
          · have h := h.2 hc205
            refine mr_bipush (-5) dd_Mo_make_208 (by decide) ?_
            exact mr_ireturn dd_Mo_make_210 rfl ⟨_, hS, h⟩
    · have h := h.2 hc150
      refine mr_iconst 0 dd_Mo_make_153 (by decide) ?_
      refine mr_goto 158 dd_Mo_make_154 (by decide) ?_
      refine mr_istore dd_Mo_make_158 (by decide) ?_
      show mm_Z l G Y_Mo_make (mo_K a0 ad Mb K) _ 0 0 160 [some (.inr (some a0)), some (.inl y1), some (.inl y2), some (.inl y3), some (.inl y4), some (.inl y5), some (.inl y6), some (.inl y7), some (.inl 0), none, none] [] M
      refine mr_aload_n dd_Mo_make_160 rfl ?_
      refine mr_iload dd_Mo_make_161 rfl ?_
      refine mr_iload dd_Mo_make_163 rfl ?_
      refine mr_iload_n dd_Mo_make_165 rfl ?_
      refine mr_callV0 (Yc := Y_Mo_find) (M := M) (st := []) (vs := [.inl y7, .inl 0, .inl y3]) (ci := 8) fc_Mo_137 iv_Mo_find sv_Mo_find dd_Mo_make_166 ⟨Nat.le_of_ble_eq_true rfl, Nat.le_of_ble_eq_true rfl⟩ (by decide) rfl rfl (Nat.le_of_ble_eq_true rfl) rfl hS.1 rfl rfl (h M hS) (fun r M _ h => ?_)
      obtain ⟨A11, hS, h⟩ := h
      obtain ⟨x12, rfl, h⟩ := h
      show mm_Z l G Y_Mo_make (mo_K a0 ad Mb K) _ 0 0 169 [some (.inr (some a0)), some (.inl y1), some (.inl y2), some (.inl y3), some (.inl y4), some (.inl y5), some (.inl y6), some (.inl y7), some (.inl 0), none, none] [.inl x12] M
      refine mr_istore dd_Mo_make_169 (by decide) ?_
      show mm_Z l G Y_Mo_make (mo_K a0 ad Mb K) _ 0 0 171 [some (.inr (some a0)), some (.inl y1), some (.inl y2), some (.inl y3), some (.inl y4), some (.inl y5), some (.inl y6), some (.inl y7), some (.inl 0), some (.inl x12), none] [] M
      refine mr_iload dd_Mo_make_171 rfl ?_
      refine mr_if_ge 203 dd_Mo_make_173 (by decide) (fun hc173 => ?_) (fun hc173 => ?_)
      · have h := h.1 hc173
        refine mr_iload dd_Mo_make_203 rfl ?_
        refine mr_if_ge 211 dd_Mo_make_205 (by decide) (fun hc205 => ?_) (fun hc205 => ?_)
        · have h := h.1 hc205
          refine mr_iconst 0 dd_Mo_make_211 (by decide) ?_
          refine mr_istore dd_Mo_make_212 (by decide) ?_
          show mm_Z l G Y_Mo_make (mo_K a0 ad Mb K) _ 0 0 214 [some (.inr (some a0)), some (.inl y1), some (.inl y2), some (.inl y3), some (.inl y4), some (.inl 0), some (.inl y6), some (.inl y7), some (.inl 0), some (.inl x12), none] [] M
          exact h _ M hS
        · have h := h.2 hc205
          refine mr_bipush (-5) dd_Mo_make_208 (by decide) ?_
          exact mr_ireturn dd_Mo_make_210 rfl ⟨_, hS, h⟩
      · have h := h.2 hc173
        refine mr_aload_n dd_Mo_make_176 rfl ?_
        refine mr_iload dd_Mo_make_177 rfl ?_
        refine mr_if_eq 187 dd_Mo_make_179 (by decide) (fun hc179 => ?_) (fun hc179 => ?_)
        · have h := h.1 hc179
          refine mr_iload_n dd_Mo_make_187 rfl ?_
          refine mr_callV0 (Yc := Y_Mo_sweep) (M := M) (st := []) (vs := [.inl y1]) (ci := 8) fc_Mo_141 iv_Mo_sweep sv_Mo_sweep dd_Mo_make_188 ⟨Nat.le_of_ble_eq_true rfl, Nat.le_of_ble_eq_true rfl⟩ (by decide) rfl rfl (Nat.le_of_ble_eq_true rfl) rfl hS.1 rfl rfl (h M hS) (fun r M _ h => ?_)
          obtain ⟨A13, hS, h⟩ := h
          obtain ⟨x14, rfl, h⟩ := h
          show mm_Z l G Y_Mo_make (mo_K a0 ad Mb K) _ 0 0 191 [some (.inr (some a0)), some (.inl y1), some (.inl y2), some (.inl y3), some (.inl y4), some (.inl y5), some (.inl y6), some (.inl y7), some (.inl 0), some (.inl x12), none] [.inl x14] M
          refine mr_pop dd_Mo_make_191 ?_
          refine mr_aload_n dd_Mo_make_192 rfl ?_
          refine mr_iload dd_Mo_make_193 rfl ?_
          refine mr_iload dd_Mo_make_195 rfl ?_
          refine mr_iload_n dd_Mo_make_197 rfl ?_
          refine mr_callV0 (Yc := Y_Mo_find) (M := M) (st := []) (vs := [.inl y7, .inl 0, .inl y3]) (ci := 8) fc_Mo_137 iv_Mo_find sv_Mo_find dd_Mo_make_198 ⟨Nat.le_of_ble_eq_true rfl, Nat.le_of_ble_eq_true rfl⟩ (by decide) rfl rfl (Nat.le_of_ble_eq_true rfl) rfl hS.1 rfl rfl (h M hS) (fun r M _ h => ?_)
          obtain ⟨A15, hS, h⟩ := h
          obtain ⟨x16, rfl, h⟩ := h
          show mm_Z l G Y_Mo_make (mo_K a0 ad Mb K) _ 0 0 201 [some (.inr (some a0)), some (.inl y1), some (.inl y2), some (.inl y3), some (.inl y4), some (.inl y5), some (.inl y6), some (.inl y7), some (.inl 0), some (.inl x12), none] [.inl x16] M
          refine mr_istore dd_Mo_make_201 (by decide) ?_
          show mm_Z l G Y_Mo_make (mo_K a0 ad Mb K) _ 0 0 203 [some (.inr (some a0)), some (.inl y1), some (.inl y2), some (.inl y3), some (.inl y4), some (.inl y5), some (.inl y6), some (.inl y7), some (.inl 0), some (.inl x16), none] [] M
          refine mr_iload dd_Mo_make_203 rfl ?_
          refine mr_if_ge 211 dd_Mo_make_205 (by decide) (fun hc205 => ?_) (fun hc205 => ?_)
          · have h := h.1 hc205
            refine mr_iconst 0 dd_Mo_make_211 (by decide) ?_
            refine mr_istore dd_Mo_make_212 (by decide) ?_
            show mm_Z l G Y_Mo_make (mo_K a0 ad Mb K) _ 0 0 214 [some (.inr (some a0)), some (.inl y1), some (.inl y2), some (.inl y3), some (.inl y4), some (.inl 0), some (.inl y6), some (.inl y7), some (.inl 0), some (.inl x16), none] [] M
            exact h _ M hS
          · have h := h.2 hc205
            refine mr_bipush (-5) dd_Mo_make_208 (by decide) ?_
            exact mr_ireturn dd_Mo_make_210 rfl ⟨_, hS, h⟩
        · have h := h.2 hc179
          refine mr_bipush 8 dd_Mo_make_182 (by decide) ?_
          refine mr_goto 188 dd_Mo_make_184 (by decide) ?_
          refine mr_callV0 (Yc := Y_Mo_sweep) (M := M) (st := []) (vs := [.inl 8]) (ci := 8) fc_Mo_141 iv_Mo_sweep sv_Mo_sweep dd_Mo_make_188 ⟨Nat.le_of_ble_eq_true rfl, Nat.le_of_ble_eq_true rfl⟩ (by decide) rfl rfl (Nat.le_of_ble_eq_true rfl) rfl hS.1 rfl rfl (h M hS) (fun r M _ h => ?_)
          obtain ⟨A17, hS, h⟩ := h
          obtain ⟨x18, rfl, h⟩ := h
          show mm_Z l G Y_Mo_make (mo_K a0 ad Mb K) _ 0 0 191 [some (.inr (some a0)), some (.inl y1), some (.inl y2), some (.inl y3), some (.inl y4), some (.inl y5), some (.inl y6), some (.inl y7), some (.inl 0), some (.inl x12), none] [.inl x18] M
          refine mr_pop dd_Mo_make_191 ?_
          refine mr_aload_n dd_Mo_make_192 rfl ?_
          refine mr_iload dd_Mo_make_193 rfl ?_
          refine mr_iload dd_Mo_make_195 rfl ?_
          refine mr_iload_n dd_Mo_make_197 rfl ?_
          refine mr_callV0 (Yc := Y_Mo_find) (M := M) (st := []) (vs := [.inl y7, .inl 0, .inl y3]) (ci := 8) fc_Mo_137 iv_Mo_find sv_Mo_find dd_Mo_make_198 ⟨Nat.le_of_ble_eq_true rfl, Nat.le_of_ble_eq_true rfl⟩ (by decide) rfl rfl (Nat.le_of_ble_eq_true rfl) rfl hS.1 rfl rfl (h M hS) (fun r M _ h => ?_)
          obtain ⟨A19, hS, h⟩ := h
          obtain ⟨x20, rfl, h⟩ := h
          show mm_Z l G Y_Mo_make (mo_K a0 ad Mb K) _ 0 0 201 [some (.inr (some a0)), some (.inl y1), some (.inl y2), some (.inl y3), some (.inl y4), some (.inl y5), some (.inl y6), some (.inl y7), some (.inl 0), some (.inl x12), none] [.inl x20] M
          refine mr_istore dd_Mo_make_201 (by decide) ?_
          show mm_Z l G Y_Mo_make (mo_K a0 ad Mb K) _ 0 0 203 [some (.inr (some a0)), some (.inl y1), some (.inl y2), some (.inl y3), some (.inl y4), some (.inl y5), some (.inl y6), some (.inl y7), some (.inl 0), some (.inl x20), none] [] M
          refine mr_iload dd_Mo_make_203 rfl ?_
          refine mr_if_ge 211 dd_Mo_make_205 (by decide) (fun hc205 => ?_) (fun hc205 => ?_)
          · have h := h.1 hc205
            refine mr_iconst 0 dd_Mo_make_211 (by decide) ?_
            refine mr_istore dd_Mo_make_212 (by decide) ?_
            show mm_Z l G Y_Mo_make (mo_K a0 ad Mb K) _ 0 0 214 [some (.inr (some a0)), some (.inl y1), some (.inl y2), some (.inl y3), some (.inl y4), some (.inl 0), some (.inl y6), some (.inl y7), some (.inl 0), some (.inl x20), none] [] M
            exact h _ M hS
          · have h := h.2 hc205
            refine mr_bipush (-5) dd_Mo_make_208 (by decide) ?_
            exact mr_ireturn dd_Mo_make_210 rfl ⟨_, hS, h⟩
  · have h := h.2 hc100
    refine mr_iload dd_Mo_make_103 rfl ?_
    refine mr_if_ne 138 dd_Mo_make_105 (by decide) (fun hc105 => ?_) (fun hc105 => ?_)
    · have h := h.1 hc105
      refine mr_iload dd_Mo_make_138 rfl ?_
      refine mr_istore dd_Mo_make_140 (by decide) ?_
      show mm_Z l G Y_Mo_make (mo_K a0 ad Mb K) _ 0 0 142 [some (.inr (some a0)), some (.inl y1), some (.inl y2), some (.inl y3), some (.inl y4), some (.inl y5), some (.inl y6), some (.inl y7), some (.inl y8), none, none] [] M
      refine mr_iinc 1 dd_Mo_make_142 rfl (by decide) (by decide) ?_
      show mm_Z l G Y_Mo_make (mo_K a0 ad Mb K) _ 0 0 145 [some (.inr (some a0)), some (.inl y1), some (.inl y2), some (.inl y3), some (.inl y4), some (.inl y5), some (.inl y6), some (.inl y7), some (.inl (y8 + 1)), none, none] [] M
      refine mr_goto 97 dd_Mo_make_145 (by decide) ?_
      exact h _ M hS
    · have h := h.2 hc105
      refine mr_aload_n dd_Mo_make_108 rfl ?_
      refine mr_getr ff_Mo_50 dd_Mo_make_109 rs_8_15 rfl hS.1 ?_
      rw [mo_p hS 15 (by decide) rfl]
      refine mr_iload dd_Mo_make_112 rfl ?_
      obtain ⟨j21, hj22, hb23, h⟩ := h
      refine mr_iald dd_Mo_make_114 rfl (mo_k hS 15 (by decide) rfl rfl) hj22 (Nat.lt_trans hb23 (by decide)) (mo_l hS 15 (by decide) rfl rfl hb23) ?_
      rw [mo_i hS 15 (by decide) rfl rfl hb23]
      refine mr_iconst 1 dd_Mo_make_115 (by decide) ?_
      refine mr_icmp_ne 138 dd_Mo_make_116 (by decide) (fun hc116 => ?_) (fun hc116 => ?_)
      · have h := h.1 hc116
        refine mr_iload dd_Mo_make_138 rfl ?_
        refine mr_istore dd_Mo_make_140 (by decide) ?_
        show mm_Z l G Y_Mo_make (mo_K a0 ad Mb K) _ 0 0 142 [some (.inr (some a0)), some (.inl y1), some (.inl y2), some (.inl y3), some (.inl y4), some (.inl y5), some (.inl y6), some (.inl y7), some (.inl y8), none, none] [] M
        refine mr_iinc 1 dd_Mo_make_142 rfl (by decide) (by decide) ?_
        show mm_Z l G Y_Mo_make (mo_K a0 ad Mb K) _ 0 0 145 [some (.inr (some a0)), some (.inl y1), some (.inl y2), some (.inl y3), some (.inl y4), some (.inl y5), some (.inl y6), some (.inl y7), some (.inl (y8 + 1)), none, none] [] M
        refine mr_goto 97 dd_Mo_make_145 (by decide) ?_
        exact h _ M hS
      · have h := h.2 hc116
        refine mr_aload_n dd_Mo_make_119 rfl ?_
        refine mr_getr ff_Mo_53 dd_Mo_make_120 rs_8_16 rfl hS.1 ?_
        rw [mo_p hS 16 (by decide) rfl]
        refine mr_iload dd_Mo_make_123 rfl ?_
        refine mr_iald dd_Mo_make_125 rfl (mo_k hS 16 (by decide) rfl rfl) hj22 (Nat.lt_trans hb23 (by decide)) (mo_l hS 16 (by decide) rfl rfl hb23) ?_
        rw [mo_i hS 16 (by decide) rfl rfl hb23]
        refine mr_iload_n dd_Mo_make_126 rfl ?_
        refine mr_icmp_ne 138 dd_Mo_make_127 (by decide) (fun hc127 => ?_) (fun hc127 => ?_)
        · have h := h.1 hc127
          refine mr_iload dd_Mo_make_138 rfl ?_
          refine mr_istore dd_Mo_make_140 (by decide) ?_
          show mm_Z l G Y_Mo_make (mo_K a0 ad Mb K) _ 0 0 142 [some (.inr (some a0)), some (.inl y1), some (.inl y2), some (.inl y3), some (.inl y4), some (.inl y5), some (.inl y6), some (.inl y7), some (.inl y8), none, none] [] M
          refine mr_iinc 1 dd_Mo_make_142 rfl (by decide) (by decide) ?_
          show mm_Z l G Y_Mo_make (mo_K a0 ad Mb K) _ 0 0 145 [some (.inr (some a0)), some (.inl y1), some (.inl y2), some (.inl y3), some (.inl y4), some (.inl y5), some (.inl y6), some (.inl y7), some (.inl (y8 + 1)), none, none] [] M
          refine mr_goto 97 dd_Mo_make_145 (by decide) ?_
          exact h _ M hS
        · have h := h.2 hc127
          refine mr_bipush 9 dd_Mo_make_130 (by decide) ?_
          refine mr_iload dd_Mo_make_132 rfl ?_
          refine mr_iadd dd_Mo_make_134 ?_
          refine mr_goto 140 dd_Mo_make_135 (by decide) ?_
          refine mr_istore dd_Mo_make_140 (by decide) ?_
          show mm_Z l G Y_Mo_make (mo_K a0 ad Mb K) _ 0 0 142 [some (.inr (some a0)), some (.inl y1), some (.inl y2), some (.inl y3), some (.inl y4), some (.inl y5), some (.inl y6), some (.inl (9 + y8)), some (.inl y8), none, none] [] M
          refine mr_iinc 1 dd_Mo_make_142 rfl (by decide) (by decide) ?_
          show mm_Z l G Y_Mo_make (mo_K a0 ad Mb K) _ 0 0 145 [some (.inr (some a0)), some (.inl y1), some (.inl y2), some (.inl y3), some (.inl y4), some (.inl y5), some (.inl y6), some (.inl (9 + y8)), some (.inl (y8 + 1)), none, none] [] M
          refine mr_goto 97 dd_Mo_make_145 (by decide) ?_
          exact h _ M hS
set_option maxHeartbeats 4000000 in
set_option maxRecDepth 100000 in
theorem mg_make_214 {l : Launch} {G : mm_G} {K : Option mm_V → mo_A → Prop} {a0 : Nat} {ad : Nat → Nat} {Mb : mm_M} {A : mo_A} {y1 : Int32} {y2 : Int32} {y3 : Int32} {y4 : Int32} {y5 : Int32} {y6 : Int32} {y7 : Int32} {y8 : Int32} {y9 : Int32}
    (h : (59 ≤ y5 → ∃ j1 : Nat, y5 = nI j1 ∧ j1 < 60 ∧ mo_Z l G Y_Mo_make K a0 ad Mb 277 [some (.inr (some a0)), some (.inl y1), some (.inl y2), some (.inl y3), some (.inl y4), some (.inl y5), some (.inl y6), some (.inl y7), some (.inl y8), some (.inl y9), some (.inl 0)] [] (mo_u (mo_u (mo_u (mo_u A 6 j1 (y7 + 1)) 7 j1 y3) 8 j1 y4) 9 j1 y9)) ∧ (¬ 59 ≤ y5 → ∃ j4 : Nat, y5 = nI j4 ∧ j4 < 60 ∧ ((A 6 j4) ≤ 0 → mo_Z l G Y_Mo_make K a0 ad Mb 277 [some (.inr (some a0)), some (.inl y1), some (.inl y2), some (.inl y3), some (.inl y4), some (.inl y5), some (.inl y6), some (.inl y7), some (.inl y8), some (.inl y9), some (.inl 0)] [] (mo_u (mo_u (mo_u (mo_u A 6 j4 (y7 + 1)) 7 j4 y3) 8 j4 y4) 9 j4 y9)) ∧ (¬ (A 6 j4) ≤ 0 → mo_Z l G Y_Mo_make K a0 ad Mb 214 [some (.inr (some a0)), some (.inl y1), some (.inl y2), some (.inl y3), some (.inl y4), some (.inl (y5 + 1)), some (.inl y6), some (.inl y7), some (.inl y8), some (.inl y9), none] [] A))) :
    mo_Z l G Y_Mo_make K a0 ad Mb 214 [some (.inr (some a0)), some (.inl y1), some (.inl y2), some (.inl y3), some (.inl y4), some (.inl y5), some (.inl y6), some (.inl y7), some (.inl y8), some (.inl y9), none] [] A := by
  intro M0 M hS
  refine mr_iload dd_Mo_make_214 rfl ?_
  refine mr_bipush 59 dd_Mo_make_216 (by decide) ?_
  refine mr_icmp_ge 237 dd_Mo_make_218 (by decide) (fun hc218 => ?_) (fun hc218 => ?_)
  · have h := h.1 hc218
    refine mr_aload_n dd_Mo_make_237 rfl ?_
    refine mr_getr ff_Mo_26 dd_Mo_make_238 rs_8_6 rfl hS.1 ?_
    rw [mo_p hS 6 (by decide) rfl]
    refine mr_iload dd_Mo_make_241 rfl ?_
    refine mr_iload dd_Mo_make_243 rfl ?_
    refine mr_iconst 1 dd_Mo_make_245 (by decide) ?_
    refine mr_iadd dd_Mo_make_246 ?_
    obtain ⟨j1, hj2, hb3, h⟩ := h
    refine mr_iast dd_Mo_make_247 rfl (mo_k hS 6 (by decide) rfl rfl) hj2 (Nat.lt_trans hb3 (by decide)) (mo_l hS 6 (by decide) rfl rfl hb3) ?_
    have hS := mo_S.up hS 6 (by decide) rfl j1 (y7 + 1)
    generalize mm_si M (ad 6) j1 (y7 + 1) = M at hS ⊢
    refine mr_aload_n dd_Mo_make_248 rfl ?_
    refine mr_getr ff_Mo_29 dd_Mo_make_249 rs_8_7 rfl hS.1 ?_
    rw [mo_p hS 7 (by decide) rfl]
    refine mr_iload dd_Mo_make_252 rfl ?_
    refine mr_iload_n dd_Mo_make_254 rfl ?_
    refine mr_iast dd_Mo_make_255 rfl (mo_k hS 7 (by decide) rfl rfl) hj2 (Nat.lt_trans hb3 (by decide)) (mo_l hS 7 (by decide) rfl rfl hb3) ?_
    have hS := mo_S.up hS 7 (by decide) rfl j1 y3
    generalize mm_si M (ad 7) j1 y3 = M at hS ⊢
    refine mr_aload_n dd_Mo_make_256 rfl ?_
    refine mr_getr ff_Mo_32 dd_Mo_make_257 rs_8_8 rfl hS.1 ?_
    rw [mo_p hS 8 (by decide) rfl]
    refine mr_iload dd_Mo_make_260 rfl ?_
    refine mr_iload dd_Mo_make_262 rfl ?_
    refine mr_iast dd_Mo_make_264 rfl (mo_k hS 8 (by decide) rfl rfl) hj2 (Nat.lt_trans hb3 (by decide)) (mo_l hS 8 (by decide) rfl rfl hb3) ?_
    have hS := mo_S.up hS 8 (by decide) rfl j1 y4
    generalize mm_si M (ad 8) j1 y4 = M at hS ⊢
    refine mr_aload_n dd_Mo_make_265 rfl ?_
    refine mr_getr ff_Mo_35 dd_Mo_make_266 rs_8_9 rfl hS.1 ?_
    rw [mo_p hS 9 (by decide) rfl]
    refine mr_iload dd_Mo_make_269 rfl ?_
    refine mr_iload dd_Mo_make_271 rfl ?_
    refine mr_iast dd_Mo_make_273 rfl (mo_k hS 9 (by decide) rfl rfl) hj2 (Nat.lt_trans hb3 (by decide)) (mo_l hS 9 (by decide) rfl rfl hb3) ?_
    have hS := mo_S.up hS 9 (by decide) rfl j1 y9
    generalize mm_si M (ad 9) j1 y9 = M at hS ⊢
    refine mr_iconst 0 dd_Mo_make_274 (by decide) ?_
    refine mr_istore dd_Mo_make_275 (by decide) ?_
    show mm_Z l G Y_Mo_make (mo_K a0 ad Mb K) _ 0 0 277 [some (.inr (some a0)), some (.inl y1), some (.inl y2), some (.inl y3), some (.inl y4), some (.inl y5), some (.inl y6), some (.inl y7), some (.inl y8), some (.inl y9), some (.inl 0)] [] M
    exact h _ M hS
  · have h := h.2 hc218
    refine mr_aload_n dd_Mo_make_221 rfl ?_
    refine mr_getr ff_Mo_26 dd_Mo_make_222 rs_8_6 rfl hS.1 ?_
    rw [mo_p hS 6 (by decide) rfl]
    refine mr_iload dd_Mo_make_225 rfl ?_
    obtain ⟨j4, hj5, hb6, h⟩ := h
    refine mr_iald dd_Mo_make_227 rfl (mo_k hS 6 (by decide) rfl rfl) hj5 (Nat.lt_trans hb6 (by decide)) (mo_l hS 6 (by decide) rfl rfl hb6) ?_
    rw [mo_i hS 6 (by decide) rfl rfl hb6]
    refine mr_if_le 237 dd_Mo_make_228 (by decide) (fun hc228 => ?_) (fun hc228 => ?_)
    · have h := h.1 hc228
      refine mr_aload_n dd_Mo_make_237 rfl ?_
      refine mr_getr ff_Mo_26 dd_Mo_make_238 rs_8_6 rfl hS.1 ?_
      rw [mo_p hS 6 (by decide) rfl]
      refine mr_iload dd_Mo_make_241 rfl ?_
      refine mr_iload dd_Mo_make_243 rfl ?_
      refine mr_iconst 1 dd_Mo_make_245 (by decide) ?_
      refine mr_iadd dd_Mo_make_246 ?_
      refine mr_iast dd_Mo_make_247 rfl (mo_k hS 6 (by decide) rfl rfl) hj5 (Nat.lt_trans hb6 (by decide)) (mo_l hS 6 (by decide) rfl rfl hb6) ?_
      have hS := mo_S.up hS 6 (by decide) rfl j4 (y7 + 1)
      generalize mm_si M (ad 6) j4 (y7 + 1) = M at hS ⊢
      refine mr_aload_n dd_Mo_make_248 rfl ?_
      refine mr_getr ff_Mo_29 dd_Mo_make_249 rs_8_7 rfl hS.1 ?_
      rw [mo_p hS 7 (by decide) rfl]
      refine mr_iload dd_Mo_make_252 rfl ?_
      refine mr_iload_n dd_Mo_make_254 rfl ?_
      refine mr_iast dd_Mo_make_255 rfl (mo_k hS 7 (by decide) rfl rfl) hj5 (Nat.lt_trans hb6 (by decide)) (mo_l hS 7 (by decide) rfl rfl hb6) ?_
      have hS := mo_S.up hS 7 (by decide) rfl j4 y3
      generalize mm_si M (ad 7) j4 y3 = M at hS ⊢
      refine mr_aload_n dd_Mo_make_256 rfl ?_
      refine mr_getr ff_Mo_32 dd_Mo_make_257 rs_8_8 rfl hS.1 ?_
      rw [mo_p hS 8 (by decide) rfl]
      refine mr_iload dd_Mo_make_260 rfl ?_
      refine mr_iload dd_Mo_make_262 rfl ?_
      refine mr_iast dd_Mo_make_264 rfl (mo_k hS 8 (by decide) rfl rfl) hj5 (Nat.lt_trans hb6 (by decide)) (mo_l hS 8 (by decide) rfl rfl hb6) ?_
      have hS := mo_S.up hS 8 (by decide) rfl j4 y4
      generalize mm_si M (ad 8) j4 y4 = M at hS ⊢
      refine mr_aload_n dd_Mo_make_265 rfl ?_
      refine mr_getr ff_Mo_35 dd_Mo_make_266 rs_8_9 rfl hS.1 ?_
      rw [mo_p hS 9 (by decide) rfl]
      refine mr_iload dd_Mo_make_269 rfl ?_
      refine mr_iload dd_Mo_make_271 rfl ?_
      refine mr_iast dd_Mo_make_273 rfl (mo_k hS 9 (by decide) rfl rfl) hj5 (Nat.lt_trans hb6 (by decide)) (mo_l hS 9 (by decide) rfl rfl hb6) ?_
      have hS := mo_S.up hS 9 (by decide) rfl j4 y9
      generalize mm_si M (ad 9) j4 y9 = M at hS ⊢
      refine mr_iconst 0 dd_Mo_make_274 (by decide) ?_
      refine mr_istore dd_Mo_make_275 (by decide) ?_
      show mm_Z l G Y_Mo_make (mo_K a0 ad Mb K) _ 0 0 277 [some (.inr (some a0)), some (.inl y1), some (.inl y2), some (.inl y3), some (.inl y4), some (.inl y5), some (.inl y6), some (.inl y7), some (.inl y8), some (.inl y9), some (.inl 0)] [] M
      exact h _ M hS
    · have h := h.2 hc228
      refine mr_iinc 1 dd_Mo_make_231 rfl (by decide) (by decide) ?_
      show mm_Z l G Y_Mo_make (mo_K a0 ad Mb K) _ 0 0 234 [some (.inr (some a0)), some (.inl y1), some (.inl y2), some (.inl y3), some (.inl y4), some (.inl (y5 + 1)), some (.inl y6), some (.inl y7), some (.inl y8), some (.inl y9), none] [] M
      refine mr_goto 214 dd_Mo_make_234 (by decide) ?_
      exact h _ M hS
set_option maxHeartbeats 4000000 in
set_option maxRecDepth 100000 in
theorem mg_make_277 {l : Launch} {G : mm_G} {K : Option mm_V → mo_A → Prop} {a0 : Nat} {ad : Nat → Nat} {Mb : mm_M} {A : mo_A} {y1 : Int32} {y2 : Int32} {y3 : Int32} {y4 : Int32} {y5 : Int32} {y6 : Int32} {y7 : Int32} {y8 : Int32} {y9 : Int32} {y10 : Int32}
    (h : (3 ≤ y10 → ∃ j1 : Nat, ((4 * y1) + y2) = nI j1 ∧ j1 < 32 ∧ K (some (.inl 0)) (mo_u A 5 j1 (y5 + 1))) ∧ (¬ 3 ≤ y10 → ∃ j4 : Nat, ((3 * y5) + y10) = nI j4 ∧ j4 < 180 ∧ mo_Z l G Y_Mo_make K a0 ad Mb 277 [some (.inr (some a0)), some (.inl y1), some (.inl y2), some (.inl y3), some (.inl y4), some (.inl y5), some (.inl y6), some (.inl y7), some (.inl y8), some (.inl y9), some (.inl (y10 + 1))] [] (mo_u A 10 j4 0))) :
    mo_Z l G Y_Mo_make K a0 ad Mb 277 [some (.inr (some a0)), some (.inl y1), some (.inl y2), some (.inl y3), some (.inl y4), some (.inl y5), some (.inl y6), some (.inl y7), some (.inl y8), some (.inl y9), some (.inl y10)] [] A := by
  intro M0 M hS
  refine mr_iload dd_Mo_make_277 rfl ?_
  refine mr_iconst 3 dd_Mo_make_279 (by decide) ?_
  refine mr_icmp_ge 302 dd_Mo_make_280 (by decide) (fun hc280 => ?_) (fun hc280 => ?_)
  · have h := h.1 hc280
    refine mr_aload_n dd_Mo_make_302 rfl ?_
    refine mr_getr ff_Mo_23 dd_Mo_make_303 rs_8_5 rfl hS.1 ?_
    rw [mo_p hS 5 (by decide) rfl]
    refine mr_iconst 4 dd_Mo_make_306 (by decide) ?_
    refine mr_iload_n dd_Mo_make_307 rfl ?_
    refine mr_imul dd_Mo_make_308 ?_
    refine mr_iload_n dd_Mo_make_309 rfl ?_
    refine mr_iadd dd_Mo_make_310 ?_
    refine mr_iload dd_Mo_make_311 rfl ?_
    refine mr_iconst 1 dd_Mo_make_313 (by decide) ?_
    refine mr_iadd dd_Mo_make_314 ?_
    obtain ⟨j1, hj2, hb3, h⟩ := h
    refine mr_iast dd_Mo_make_315 rfl (mo_k hS 5 (by decide) rfl rfl) hj2 (Nat.lt_trans hb3 (by decide)) (mo_l hS 5 (by decide) rfl rfl hb3) ?_
    have hS := mo_S.up hS 5 (by decide) rfl j1 (y5 + 1)
    generalize mm_si M (ad 5) j1 (y5 + 1) = M at hS ⊢
    refine mr_iconst 0 dd_Mo_make_316 (by decide) ?_
    exact mr_ireturn dd_Mo_make_317 rfl ⟨_, hS, h⟩
  · have h := h.2 hc280
    refine mr_aload_n dd_Mo_make_283 rfl ?_
    refine mr_getr ff_Mo_38 dd_Mo_make_284 rs_8_10 rfl hS.1 ?_
    rw [mo_p hS 10 (by decide) rfl]
    refine mr_iconst 3 dd_Mo_make_287 (by decide) ?_
    refine mr_iload dd_Mo_make_288 rfl ?_
    refine mr_imul dd_Mo_make_290 ?_
    refine mr_iload dd_Mo_make_291 rfl ?_
    refine mr_iadd dd_Mo_make_293 ?_
    refine mr_iconst 0 dd_Mo_make_294 (by decide) ?_
    obtain ⟨j4, hj5, hb6, h⟩ := h
    refine mr_iast dd_Mo_make_295 rfl (mo_k hS 10 (by decide) rfl rfl) hj5 (Nat.lt_trans hb6 (by decide)) (mo_l hS 10 (by decide) rfl rfl hb6) ?_
    have hS := mo_S.up hS 10 (by decide) rfl j4 0
    generalize mm_si M (ad 10) j4 0 = M at hS ⊢
    refine mr_iinc 1 dd_Mo_make_296 rfl (by decide) (by decide) ?_
    show mm_Z l G Y_Mo_make (mo_K a0 ad Mb K) _ 0 0 299 [some (.inr (some a0)), some (.inl y1), some (.inl y2), some (.inl y3), some (.inl y4), some (.inl y5), some (.inl y6), some (.inl y7), some (.inl y8), some (.inl y9), some (.inl (y10 + 1))] [] M
    refine mr_goto 277 dd_Mo_make_299 (by decide) ?_
    exact h _ M hS
set_option maxHeartbeats 4000000 in
set_option maxRecDepth 100000 in
theorem mg_isRegister {l : Launch} {G : mm_G} {K : Option mm_V → mo_A → Prop} {a0 : Nat} {ad : Nat → Nat} {Mb : mm_M} {A : mo_A} {xa : Int32}
    (h : (xa < 0 → K (some (.inl 0)) A) ∧ (¬ xa < 0 → (4 ≤ xa → K (some (.inl 0)) A) ∧ (¬ 4 ≤ xa → K (some (.inl 1)) A))) :
    mo_Ok l G yy_Mo_isRegister Y_Mo_isRegister [.inl xa] a0 ad Mb A K := by
  intro M hS
  refine mm_go (by decide) rfl (fun q => by cases q) (Nat.le_of_ble_eq_true rfl) ?_
  show mm_Z l G Y_Mo_isRegister (mo_K a0 ad Mb K) _ 0 0 0 [some (.inl xa)] [] M
  refine mr_iload_n dd_Mo_isRegister_0 rfl ?_
  refine mr_if_lt 13 dd_Mo_isRegister_1 (by decide) (fun hc1 => ?_) (fun hc1 => ?_)
  · have h := h.1 hc1
    refine mr_iconst 0 dd_Mo_isRegister_13 (by decide) ?_
    exact mr_zreturn dd_Mo_isRegister_14 rfl (Or.inl rfl) ⟨_, hS, h⟩
  · have h := h.2 hc1
    refine mr_iload_n dd_Mo_isRegister_4 rfl ?_
    refine mr_iconst 4 dd_Mo_isRegister_5 (by decide) ?_
    refine mr_icmp_ge 13 dd_Mo_isRegister_6 (by decide) (fun hc6 => ?_) (fun hc6 => ?_)
    · have h := h.1 hc6
      refine mr_iconst 0 dd_Mo_isRegister_13 (by decide) ?_
      exact mr_zreturn dd_Mo_isRegister_14 rfl (Or.inl rfl) ⟨_, hS, h⟩
    · have h := h.2 hc6
      refine mr_iconst 1 dd_Mo_isRegister_9 (by decide) ?_
      refine mr_goto 14 dd_Mo_isRegister_10 (by decide) ?_
      exact mr_zreturn dd_Mo_isRegister_14 rfl (Or.inr rfl) ⟨_, hS, h⟩
set_option maxHeartbeats 4000000 in
set_option maxRecDepth 100000 in
theorem mg_find {l : Launch} {G : mm_G} {K : Option mm_V → mo_A → Prop} {a0 : Nat} {ad : Nat → Nat} {Mb : mm_M} {A : mo_A} {xa : Int32} {xb : Int32} {xc : Int32}
    (h : mo_Ok l G yy_Mo_fitting Y_Mo_fitting [.inr (some a0), .inl xa, .inl xc] a0 ad Mb A (fun r B => B = A ∧ ∃ x2 : Int32, r = some (.inl x2) ∧ (0 ≤ x2 → K (some (.inl x2)) A) ∧ (¬ 0 ≤ x2 → mo_Ok l G yy_Mo_rest Y_Mo_rest [.inr (some a0), .inl xb] a0 ad Mb A (fun r A3 => ∃ x4 : Int32, r = some (.inl x4) ∧ (1 ≤ x4 → mo_Z l G Y_Mo_find K a0 ad Mb 28 [some (.inr (some a0)), some (.inl xa), some (.inl xb), some (.inl xc), some (.inl 0)] [] A3) ∧ (¬ 1 ≤ x4 → K (some (.inl x2)) A3))))) :
    mo_Ok l G yy_Mo_find Y_Mo_find [.inr (some a0), .inl xa, .inl xb, .inl xc] a0 ad Mb A K := by
  intro M hS
  refine mm_go (by decide) rfl (fun q => by cases q) (Nat.le_of_ble_eq_true rfl) ?_
  show mm_Z l G Y_Mo_find (mo_K a0 ad Mb K) _ 0 0 0 [some (.inr (some a0)), some (.inl xa), some (.inl xb), some (.inl xc), none] [] M
  refine mr_aload_n dd_Mo_find_0 rfl ?_
  refine mr_iload_n dd_Mo_find_1 rfl ?_
  refine mr_iload_n dd_Mo_find_2 rfl ?_
  refine mr_callV0 (Yc := Y_Mo_fitting) (M := M) (st := []) (vs := [.inl xa, .inl xc]) (ci := 8) fc_Mo_130 iv_Mo_fitting sv_Mo_fitting dd_Mo_find_3 ⟨Nat.le_of_ble_eq_true rfl, Nat.le_of_ble_eq_true rfl⟩ (by decide) rfl rfl (Nat.le_of_ble_eq_true rfl) rfl hS.1 rfl rfl (h M hS) (fun r M _ h => ?_)
  obtain ⟨B, hS, hB, h⟩ := h
  rw [hB] at hS
  obtain ⟨x2, rfl, h⟩ := h
  show mm_Z l G Y_Mo_find (mo_K a0 ad Mb K) _ 0 0 6 [some (.inr (some a0)), some (.inl xa), some (.inl xb), some (.inl xc), none] [.inl x2] M
  refine mr_istore dd_Mo_find_6 (by decide) ?_
  show mm_Z l G Y_Mo_find (mo_K a0 ad Mb K) _ 0 0 8 [some (.inr (some a0)), some (.inl xa), some (.inl xb), some (.inl xc), some (.inl x2)] [] M
  refine mr_iload dd_Mo_find_8 rfl ?_
  refine mr_if_ge 22 dd_Mo_find_10 (by decide) (fun hc10 => ?_) (fun hc10 => ?_)
  · have h := h.1 hc10
    refine mr_iload dd_Mo_find_22 rfl ?_
    exact mr_ireturn dd_Mo_find_24 rfl ⟨_, hS, h⟩
  · have h := h.2 hc10
    refine mr_aload_n dd_Mo_find_13 rfl ?_
    refine mr_iload_n dd_Mo_find_14 rfl ?_
    refine mr_callV0 (Yc := Y_Mo_rest) (M := M) (st := []) (vs := [.inl xb]) (ci := 8) fc_Mo_124 iv_Mo_rest sv_Mo_rest dd_Mo_find_15 ⟨Nat.le_of_ble_eq_true rfl, Nat.le_of_ble_eq_true rfl⟩ (by decide) rfl rfl (Nat.le_of_ble_eq_true rfl) rfl hS.1 rfl rfl (h M hS) (fun r M _ h => ?_)
    obtain ⟨A3, hS, h⟩ := h
    obtain ⟨x4, rfl, h⟩ := h
    show mm_Z l G Y_Mo_find (mo_K a0 ad Mb K) _ 0 0 18 [some (.inr (some a0)), some (.inl xa), some (.inl xb), some (.inl xc), some (.inl x2)] [.inl x4] M
    refine mr_iconst 1 dd_Mo_find_18 (by decide) ?_
    refine mr_icmp_ge 25 dd_Mo_find_19 (by decide) (fun hc19 => ?_) (fun hc19 => ?_)
    · have h := h.1 hc19
      refine mr_iconst 0 dd_Mo_find_25 (by decide) ?_
      refine mr_istore dd_Mo_find_26 (by decide) ?_
      show mm_Z l G Y_Mo_find (mo_K a0 ad Mb K) _ 0 0 28 [some (.inr (some a0)), some (.inl xa), some (.inl xb), some (.inl xc), some (.inl 0)] [] M
      exact h _ M hS
    · have h := h.2 hc19
      refine mr_iload dd_Mo_find_22 rfl ?_
      exact mr_ireturn dd_Mo_find_24 rfl ⟨_, hS, h⟩
set_option maxHeartbeats 4000000 in
set_option maxRecDepth 100000 in
theorem mg_find_28 {l : Launch} {G : mm_G} {K : Option mm_V → mo_A → Prop} {a0 : Nat} {ad : Nat → Nat} {Mb : mm_M} {A : mo_A} {y1 : Int32} {y2 : Int32} {y3 : Int32} {y4 : Int32}
    (h : (24 ≤ y4 → ∃ j1 : Nat, y4 = nI j1 ∧ j1 < 24 ∧ K (some (.inl y4)) (mo_u (mo_u (mo_u (mo_u A 11 j1 (y1 + 1)) 12 j1 y2) 14 0 (((mo_u (mo_u A 11 j1 (y1 + 1)) 12 j1 y2) 14 0) + 1)) 13 j1 ((mo_u (mo_u (mo_u A 11 j1 (y1 + 1)) 12 j1 y2) 14 0 (((mo_u (mo_u A 11 j1 (y1 + 1)) 12 j1 y2) 14 0) + 1)) 14 0))) ∧ (¬ 24 ≤ y4 → ∃ j4 : Nat, y4 = nI j4 ∧ j4 < 24 ∧ ((A 11 j4) ≤ 0 → K (some (.inl y4)) (mo_u (mo_u (mo_u (mo_u A 11 j4 (y1 + 1)) 12 j4 y2) 14 0 (((mo_u (mo_u A 11 j4 (y1 + 1)) 12 j4 y2) 14 0) + 1)) 13 j4 ((mo_u (mo_u (mo_u A 11 j4 (y1 + 1)) 12 j4 y2) 14 0 (((mo_u (mo_u A 11 j4 (y1 + 1)) 12 j4 y2) 14 0) + 1)) 14 0))) ∧ (¬ (A 11 j4) ≤ 0 → mo_Z l G Y_Mo_find K a0 ad Mb 28 [some (.inr (some a0)), some (.inl y1), some (.inl y2), some (.inl y3), some (.inl (y4 + 1))] [] A))) :
    mo_Z l G Y_Mo_find K a0 ad Mb 28 [some (.inr (some a0)), some (.inl y1), some (.inl y2), some (.inl y3), some (.inl y4)] [] A := by
  intro M0 M hS
  refine mr_iload dd_Mo_find_28 rfl ?_
  refine mr_bipush 24 dd_Mo_find_30 (by decide) ?_
  refine mr_icmp_ge 51 dd_Mo_find_32 (by decide) (fun hc32 => ?_) (fun hc32 => ?_)
  · have h := h.1 hc32
    refine mr_aload_n dd_Mo_find_51 rfl ?_
    refine mr_getr ff_Mo_41 dd_Mo_find_52 rs_8_11 rfl hS.1 ?_
    rw [mo_p hS 11 (by decide) rfl]
    refine mr_iload dd_Mo_find_55 rfl ?_
    refine mr_iload_n dd_Mo_find_57 rfl ?_
    refine mr_iconst 1 dd_Mo_find_58 (by decide) ?_
    refine mr_iadd dd_Mo_find_59 ?_
    obtain ⟨j1, hj2, hb3, h⟩ := h
    refine mr_iast dd_Mo_find_60 rfl (mo_k hS 11 (by decide) rfl rfl) hj2 (Nat.lt_trans hb3 (by decide)) (mo_l hS 11 (by decide) rfl rfl hb3) ?_
    have hS := mo_S.up hS 11 (by decide) rfl j1 (y1 + 1)
    generalize mm_si M (ad 11) j1 (y1 + 1) = M at hS ⊢
    refine mr_aload_n dd_Mo_find_61 rfl ?_
    refine mr_getr ff_Mo_44 dd_Mo_find_62 rs_8_12 rfl hS.1 ?_
    rw [mo_p hS 12 (by decide) rfl]
    refine mr_iload dd_Mo_find_65 rfl ?_
    refine mr_iload_n dd_Mo_find_67 rfl ?_
    refine mr_iast dd_Mo_find_68 rfl (mo_k hS 12 (by decide) rfl rfl) hj2 (Nat.lt_trans hb3 (by decide)) (mo_l hS 12 (by decide) rfl rfl hb3) ?_
    have hS := mo_S.up hS 12 (by decide) rfl j1 y2
    generalize mm_si M (ad 12) j1 y2 = M at hS ⊢
    refine mr_aload_n dd_Mo_find_69 rfl ?_
    refine mr_dup dd_Mo_find_70 ?_
    refine mr_geti ff_Mo_118 dd_Mo_find_71 rs_8_14 rfl hS.1 ?_
    rw [mo_s hS 14 (by decide) rfl]
    refine mr_iconst 1 dd_Mo_find_74 (by decide) ?_
    refine mr_iadd dd_Mo_find_75 ?_
    refine mr_puti ff_Mo_118 fp_8 (Or.inl rfl) dd_Mo_find_76 (Or.inl (by decide +kernel)) rs_8_14 rfl hS.1 ?_
    have hS := mo_S.us hS 14 (by decide) rfl (((mo_u (mo_u A 11 j1 (y1 + 1)) 12 j1 y2) 14 0) + 1)
    generalize mm_si M a0 14 (((mo_u (mo_u A 11 j1 (y1 + 1)) 12 j1 y2) 14 0) + 1) = M at hS ⊢
    refine mr_aload_n dd_Mo_find_79 rfl ?_
    refine mr_getr ff_Mo_47 dd_Mo_find_80 rs_8_13 rfl hS.1 ?_
    rw [mo_p hS 13 (by decide) rfl]
    refine mr_iload dd_Mo_find_83 rfl ?_
    refine mr_aload_n dd_Mo_find_85 rfl ?_
    refine mr_geti ff_Mo_118 dd_Mo_find_86 rs_8_14 rfl hS.1 ?_
    rw [mo_s hS 14 (by decide) rfl]
    refine mr_iast dd_Mo_find_89 rfl (mo_k hS 13 (by decide) rfl rfl) hj2 (Nat.lt_trans hb3 (by decide)) (mo_l hS 13 (by decide) rfl rfl hb3) ?_
    have hS := mo_S.up hS 13 (by decide) rfl j1 ((mo_u (mo_u (mo_u A 11 j1 (y1 + 1)) 12 j1 y2) 14 0 (((mo_u (mo_u A 11 j1 (y1 + 1)) 12 j1 y2) 14 0) + 1)) 14 0)
    generalize mm_si M (ad 13) j1 ((mo_u (mo_u (mo_u A 11 j1 (y1 + 1)) 12 j1 y2) 14 0 (((mo_u (mo_u A 11 j1 (y1 + 1)) 12 j1 y2) 14 0) + 1)) 14 0) = M at hS ⊢
    refine mr_iload dd_Mo_find_90 rfl ?_
    exact mr_ireturn dd_Mo_find_92 rfl ⟨_, hS, h⟩
  · have h := h.2 hc32
    refine mr_aload_n dd_Mo_find_35 rfl ?_
    refine mr_getr ff_Mo_41 dd_Mo_find_36 rs_8_11 rfl hS.1 ?_
    rw [mo_p hS 11 (by decide) rfl]
    refine mr_iload dd_Mo_find_39 rfl ?_
    obtain ⟨j4, hj5, hb6, h⟩ := h
    refine mr_iald dd_Mo_find_41 rfl (mo_k hS 11 (by decide) rfl rfl) hj5 (Nat.lt_trans hb6 (by decide)) (mo_l hS 11 (by decide) rfl rfl hb6) ?_
    rw [mo_i hS 11 (by decide) rfl rfl hb6]
    refine mr_if_le 51 dd_Mo_find_42 (by decide) (fun hc42 => ?_) (fun hc42 => ?_)
    · have h := h.1 hc42
      refine mr_aload_n dd_Mo_find_51 rfl ?_
      refine mr_getr ff_Mo_41 dd_Mo_find_52 rs_8_11 rfl hS.1 ?_
      rw [mo_p hS 11 (by decide) rfl]
      refine mr_iload dd_Mo_find_55 rfl ?_
      refine mr_iload_n dd_Mo_find_57 rfl ?_
      refine mr_iconst 1 dd_Mo_find_58 (by decide) ?_
      refine mr_iadd dd_Mo_find_59 ?_
      refine mr_iast dd_Mo_find_60 rfl (mo_k hS 11 (by decide) rfl rfl) hj5 (Nat.lt_trans hb6 (by decide)) (mo_l hS 11 (by decide) rfl rfl hb6) ?_
      have hS := mo_S.up hS 11 (by decide) rfl j4 (y1 + 1)
      generalize mm_si M (ad 11) j4 (y1 + 1) = M at hS ⊢
      refine mr_aload_n dd_Mo_find_61 rfl ?_
      refine mr_getr ff_Mo_44 dd_Mo_find_62 rs_8_12 rfl hS.1 ?_
      rw [mo_p hS 12 (by decide) rfl]
      refine mr_iload dd_Mo_find_65 rfl ?_
      refine mr_iload_n dd_Mo_find_67 rfl ?_
      refine mr_iast dd_Mo_find_68 rfl (mo_k hS 12 (by decide) rfl rfl) hj5 (Nat.lt_trans hb6 (by decide)) (mo_l hS 12 (by decide) rfl rfl hb6) ?_
      have hS := mo_S.up hS 12 (by decide) rfl j4 y2
      generalize mm_si M (ad 12) j4 y2 = M at hS ⊢
      refine mr_aload_n dd_Mo_find_69 rfl ?_
      refine mr_dup dd_Mo_find_70 ?_
      refine mr_geti ff_Mo_118 dd_Mo_find_71 rs_8_14 rfl hS.1 ?_
      rw [mo_s hS 14 (by decide) rfl]
      refine mr_iconst 1 dd_Mo_find_74 (by decide) ?_
      refine mr_iadd dd_Mo_find_75 ?_
      refine mr_puti ff_Mo_118 fp_8 (Or.inl rfl) dd_Mo_find_76 (Or.inl (by decide +kernel)) rs_8_14 rfl hS.1 ?_
      have hS := mo_S.us hS 14 (by decide) rfl (((mo_u (mo_u A 11 j4 (y1 + 1)) 12 j4 y2) 14 0) + 1)
      generalize mm_si M a0 14 (((mo_u (mo_u A 11 j4 (y1 + 1)) 12 j4 y2) 14 0) + 1) = M at hS ⊢
      refine mr_aload_n dd_Mo_find_79 rfl ?_
      refine mr_getr ff_Mo_47 dd_Mo_find_80 rs_8_13 rfl hS.1 ?_
      rw [mo_p hS 13 (by decide) rfl]
      refine mr_iload dd_Mo_find_83 rfl ?_
      refine mr_aload_n dd_Mo_find_85 rfl ?_
      refine mr_geti ff_Mo_118 dd_Mo_find_86 rs_8_14 rfl hS.1 ?_
      rw [mo_s hS 14 (by decide) rfl]
      refine mr_iast dd_Mo_find_89 rfl (mo_k hS 13 (by decide) rfl rfl) hj5 (Nat.lt_trans hb6 (by decide)) (mo_l hS 13 (by decide) rfl rfl hb6) ?_
      have hS := mo_S.up hS 13 (by decide) rfl j4 ((mo_u (mo_u (mo_u A 11 j4 (y1 + 1)) 12 j4 y2) 14 0 (((mo_u (mo_u A 11 j4 (y1 + 1)) 12 j4 y2) 14 0) + 1)) 14 0)
      generalize mm_si M (ad 13) j4 ((mo_u (mo_u (mo_u A 11 j4 (y1 + 1)) 12 j4 y2) 14 0 (((mo_u (mo_u A 11 j4 (y1 + 1)) 12 j4 y2) 14 0) + 1)) 14 0) = M at hS ⊢
      refine mr_iload dd_Mo_find_90 rfl ?_
      exact mr_ireturn dd_Mo_find_92 rfl ⟨_, hS, h⟩
    · have h := h.2 hc42
      refine mr_iinc 1 dd_Mo_find_45 rfl (by decide) (by decide) ?_
      show mm_Z l G Y_Mo_find (mo_K a0 ad Mb K) _ 0 0 48 [some (.inr (some a0)), some (.inl y1), some (.inl y2), some (.inl y3), some (.inl (y4 + 1))] [] M
      refine mr_goto 28 dd_Mo_find_48 (by decide) ?_
      exact h _ M hS
set_option maxHeartbeats 4000000 in
set_option maxRecDepth 100000 in
theorem mg_fitting {l : Launch} {G : mm_G} {K : Option mm_V → mo_A → Prop} {a0 : Nat} {ad : Nat → Nat} {Mb : mm_M} {A : mo_A} {xa : Int32} {xb : Int32}
    (h : mo_Z l G Y_Mo_fitting K a0 ad Mb 5 [some (.inr (some a0)), some (.inl xa), some (.inl xb), some (.inl (-1)), some (.inl 0), none, none] [] A) :
    mo_Ok l G yy_Mo_fitting Y_Mo_fitting [.inr (some a0), .inl xa, .inl xb] a0 ad Mb A K := by
  intro M hS
  refine mm_go (by decide) rfl (fun q => by cases q) (Nat.le_of_ble_eq_true rfl) ?_
  show mm_Z l G Y_Mo_fitting (mo_K a0 ad Mb K) _ 0 0 0 [some (.inr (some a0)), some (.inl xa), some (.inl xb), none, none, none, none] [] M
  refine mr_iconst (-1) dd_Mo_fitting_0 (by decide) ?_
  refine mr_istore_n dd_Mo_fitting_1 (by decide) ?_
  show mm_Z l G Y_Mo_fitting (mo_K a0 ad Mb K) _ 0 0 2 [some (.inr (some a0)), some (.inl xa), some (.inl xb), some (.inl (-1)), none, none, none] [] M
  refine mr_iconst 0 dd_Mo_fitting_2 (by decide) ?_
  refine mr_istore dd_Mo_fitting_3 (by decide) ?_
  show mm_Z l G Y_Mo_fitting (mo_K a0 ad Mb K) _ 0 0 5 [some (.inr (some a0)), some (.inl xa), some (.inl xb), some (.inl (-1)), some (.inl 0), none, none] [] M
  exact h _ M hS
set_option maxHeartbeats 4000000 in
set_option maxRecDepth 100000 in
theorem mg_fitting_5 {l : Launch} {G : mm_G} {K : Option mm_V → mo_A → Prop} {a0 : Nat} {ad : Nat → Nat} {Mb : mm_M} {A : mo_A} {y1 : Int32} {y2 : Int32} {y3 : Int32} {y4 : Int32}
    (h : (24 ≤ y4 → K (some (.inl y3)) A) ∧ (¬ 24 ≤ y4 → mo_Z l G Y_Mo_fitting K a0 ad Mb 18 [some (.inr (some a0)), some (.inl y1), some (.inl y2), some (.inl y3), some (.inl y4), some (.inl 0), some (.inl 0)] [] A)) :
    mo_Z l G Y_Mo_fitting K a0 ad Mb 5 [some (.inr (some a0)), some (.inl y1), some (.inl y2), some (.inl y3), some (.inl y4), none, none] [] A := by
  intro M0 M hS
  refine mr_iload dd_Mo_fitting_5 rfl ?_
  refine mr_bipush 24 dd_Mo_fitting_7 (by decide) ?_
  refine mr_icmp_ge 120 dd_Mo_fitting_9 (by decide) (fun hc9 => ?_) (fun hc9 => ?_)
  · have h := h.1 hc9
    refine mr_iload_n dd_Mo_fitting_120 rfl ?_
    exact mr_ireturn dd_Mo_fitting_121 rfl ⟨_, hS, h⟩
  · have h := h.2 hc9
    refine mr_iconst 0 dd_Mo_fitting_12 (by decide) ?_
    refine mr_istore dd_Mo_fitting_13 (by decide) ?_
    show mm_Z l G Y_Mo_fitting (mo_K a0 ad Mb K) _ 0 0 15 [some (.inr (some a0)), some (.inl y1), some (.inl y2), some (.inl y3), some (.inl y4), some (.inl 0), none] [] M
    refine mr_iconst 0 dd_Mo_fitting_15 (by decide) ?_
    refine mr_istore dd_Mo_fitting_16 (by decide) ?_
    show mm_Z l G Y_Mo_fitting (mo_K a0 ad Mb K) _ 0 0 18 [some (.inr (some a0)), some (.inl y1), some (.inl y2), some (.inl y3), some (.inl y4), some (.inl 0), some (.inl 0)] [] M
    exact h _ M hS
set_option maxHeartbeats 4000000 in
set_option maxRecDepth 100000 in
theorem mg_fitting_18 {l : Launch} {G : mm_G} {K : Option mm_V → mo_A → Prop} {a0 : Nat} {ad : Nat → Nat} {Mb : mm_M} {A : mo_A} {y1 : Int32} {y2 : Int32} {y3 : Int32} {y4 : Int32} {y5 : Int32} {y6 : Int32}
    (h : (60 ≤ y6 → ∃ j1 : Nat, y4 = nI j1 ∧ j1 < 24 ∧ (¬ (A 11 j1) = (y1 + 1) → mo_Z l G Y_Mo_fitting K a0 ad Mb 5 [some (.inr (some a0)), some (.inl y1), some (.inl y2), some (.inl y3), some (.inl (y4 + 1)), none, none] [] A) ∧ ((A 11 j1) = (y1 + 1) → (16 < (y5 + y2) → mo_Z l G Y_Mo_fitting K a0 ad Mb 5 [some (.inr (some a0)), some (.inl y1), some (.inl y2), some (.inl y3), some (.inl (y4 + 1)), none, none] [] A) ∧ (¬ 16 < (y5 + y2) → (y3 < 0 → mo_Z l G Y_Mo_fitting K a0 ad Mb 5 [some (.inr (some a0)), some (.inl y1), some (.inl y2), some (.inl y4), some (.inl (y4 + 1)), none, none] [] A) ∧ (¬ y3 < 0 → ∃ j4 : Nat, y3 = nI j4 ∧ j4 < 24 ∧ ((A 13 j4) ≤ (A 13 j1) → mo_Z l G Y_Mo_fitting K a0 ad Mb 5 [some (.inr (some a0)), some (.inl y1), some (.inl y2), some (.inl y3), some (.inl (y4 + 1)), none, none] [] A) ∧ (¬ (A 13 j4) ≤ (A 13 j1) → mo_Z l G Y_Mo_fitting K a0 ad Mb 5 [some (.inr (some a0)), some (.inl y1), some (.inl y2), some (.inl y4), some (.inl (y4 + 1)), none, none] [] A))))) ∧ (¬ 60 ≤ y6 → ∃ j7 : Nat, y6 = nI j7 ∧ j7 < 60 ∧ ((A 6 j7) ≤ 0 → mo_Z l G Y_Mo_fitting K a0 ad Mb 18 [some (.inr (some a0)), some (.inl y1), some (.inl y2), some (.inl y3), some (.inl y4), some (.inl (y5 + 0)), some (.inl (y6 + 1))] [] A) ∧ (¬ (A 6 j7) ≤ 0 → (¬ (A 9 j7) = y4 → mo_Z l G Y_Mo_fitting K a0 ad Mb 18 [some (.inr (some a0)), some (.inl y1), some (.inl y2), some (.inl y3), some (.inl y4), some (.inl (y5 + 0)), some (.inl (y6 + 1))] [] A) ∧ ((A 9 j7) = y4 → mo_Z l G Y_Mo_fitting K a0 ad Mb 18 [some (.inr (some a0)), some (.inl y1), some (.inl y2), some (.inl y3), some (.inl y4), some (.inl (y5 + (A 7 j7))), some (.inl (y6 + 1))] [] A)))) :
    mo_Z l G Y_Mo_fitting K a0 ad Mb 18 [some (.inr (some a0)), some (.inl y1), some (.inl y2), some (.inl y3), some (.inl y4), some (.inl y5), some (.inl y6)] [] A := by
  intro M0 M hS
  refine mr_iload dd_Mo_fitting_18 rfl ?_
  refine mr_bipush 60 dd_Mo_fitting_20 (by decide) ?_
  refine mr_icmp_ge 69 dd_Mo_fitting_22 (by decide) (fun hc22 => ?_) (fun hc22 => ?_)
  · have h := h.1 hc22
    refine mr_aload_n dd_Mo_fitting_69 rfl ?_
    refine mr_getr ff_Mo_41 dd_Mo_fitting_70 rs_8_11 rfl hS.1 ?_
    rw [mo_p hS 11 (by decide) rfl]
    refine mr_iload dd_Mo_fitting_73 rfl ?_
    obtain ⟨j1, hj2, hb3, h⟩ := h
    refine mr_iald dd_Mo_fitting_75 rfl (mo_k hS 11 (by decide) rfl rfl) hj2 (Nat.lt_trans hb3 (by decide)) (mo_l hS 11 (by decide) rfl rfl hb3) ?_
    rw [mo_i hS 11 (by decide) rfl rfl hb3]
    refine mr_iload_n dd_Mo_fitting_76 rfl ?_
    refine mr_iconst 1 dd_Mo_fitting_77 (by decide) ?_
    refine mr_iadd dd_Mo_fitting_78 ?_
    refine mr_icmp_ne 114 dd_Mo_fitting_79 (by decide) (fun hc79 => ?_) (fun hc79 => ?_)
    · have h := h.1 hc79
      refine mr_iinc 1 dd_Mo_fitting_114 rfl (by decide) (by decide) ?_
      show mm_Z l G Y_Mo_fitting (mo_K a0 ad Mb K) _ 0 0 117 [some (.inr (some a0)), some (.inl y1), some (.inl y2), some (.inl y3), some (.inl (y4 + 1)), some (.inl y5), some (.inl y6)] [] M
      refine mr_goto 5 dd_Mo_fitting_117 (by decide) ?_
      exact mm_fg (mm_leq (mm_le_s (mm_le_s (mm_le_s (mm_le_s (mm_le_s (mm_le_n (mm_le_n mm_le_e)))))))) (h _ M hS)
    · have h := h.2 hc79
      refine mr_iload dd_Mo_fitting_82 rfl ?_
      refine mr_iload_n dd_Mo_fitting_84 rfl ?_
      refine mr_iadd dd_Mo_fitting_85 ?_
      refine mr_bipush 16 dd_Mo_fitting_86 (by decide) ?_
      refine mr_icmp_gt 114 dd_Mo_fitting_88 (by decide) (fun hc88 => ?_) (fun hc88 => ?_)
      · have h := h.1 hc88
        refine mr_iinc 1 dd_Mo_fitting_114 rfl (by decide) (by decide) ?_
        show mm_Z l G Y_Mo_fitting (mo_K a0 ad Mb K) _ 0 0 117 [some (.inr (some a0)), some (.inl y1), some (.inl y2), some (.inl y3), some (.inl (y4 + 1)), some (.inl y5), some (.inl y6)] [] M
        refine mr_goto 5 dd_Mo_fitting_117 (by decide) ?_
        exact mm_fg (mm_leq (mm_le_s (mm_le_s (mm_le_s (mm_le_s (mm_le_s (mm_le_n (mm_le_n mm_le_e)))))))) (h _ M hS)
      · have h := h.2 hc88
        refine mr_iload_n dd_Mo_fitting_91 rfl ?_
        refine mr_if_lt 111 dd_Mo_fitting_92 (by decide) (fun hc92 => ?_) (fun hc92 => ?_)
        · have h := h.1 hc92
          refine mr_iload dd_Mo_fitting_111 rfl ?_
          refine mr_istore_n dd_Mo_fitting_113 (by decide) ?_
          show mm_Z l G Y_Mo_fitting (mo_K a0 ad Mb K) _ 0 0 114 [some (.inr (some a0)), some (.inl y1), some (.inl y2), some (.inl y4), some (.inl y4), some (.inl y5), some (.inl y6)] [] M
          refine mr_iinc 1 dd_Mo_fitting_114 rfl (by decide) (by decide) ?_
          show mm_Z l G Y_Mo_fitting (mo_K a0 ad Mb K) _ 0 0 117 [some (.inr (some a0)), some (.inl y1), some (.inl y2), some (.inl y4), some (.inl (y4 + 1)), some (.inl y5), some (.inl y6)] [] M
          refine mr_goto 5 dd_Mo_fitting_117 (by decide) ?_
          exact mm_fg (mm_leq (mm_le_s (mm_le_s (mm_le_s (mm_le_s (mm_le_s (mm_le_n (mm_le_n mm_le_e)))))))) (h _ M hS)
        · have h := h.2 hc92
          refine mr_aload_n dd_Mo_fitting_95 rfl ?_
          refine mr_getr ff_Mo_47 dd_Mo_fitting_96 rs_8_13 rfl hS.1 ?_
          rw [mo_p hS 13 (by decide) rfl]
          refine mr_iload dd_Mo_fitting_99 rfl ?_
          refine mr_iald dd_Mo_fitting_101 rfl (mo_k hS 13 (by decide) rfl rfl) hj2 (Nat.lt_trans hb3 (by decide)) (mo_l hS 13 (by decide) rfl rfl hb3) ?_
          rw [mo_i hS 13 (by decide) rfl rfl hb3]
          refine mr_aload_n dd_Mo_fitting_102 rfl ?_
          refine mr_getr ff_Mo_47 dd_Mo_fitting_103 rs_8_13 rfl hS.1 ?_
          rw [mo_p hS 13 (by decide) rfl]
          refine mr_iload_n dd_Mo_fitting_106 rfl ?_
          obtain ⟨j4, hj5, hb6, h⟩ := h
          refine mr_iald dd_Mo_fitting_107 rfl (mo_k hS 13 (by decide) rfl rfl) hj5 (Nat.lt_trans hb6 (by decide)) (mo_l hS 13 (by decide) rfl rfl hb6) ?_
          rw [mo_i hS 13 (by decide) rfl rfl hb6]
          refine mr_icmp_ge 114 dd_Mo_fitting_108 (by decide) (fun hc108 => ?_) (fun hc108 => ?_)
          · have h := h.1 hc108
            refine mr_iinc 1 dd_Mo_fitting_114 rfl (by decide) (by decide) ?_
            show mm_Z l G Y_Mo_fitting (mo_K a0 ad Mb K) _ 0 0 117 [some (.inr (some a0)), some (.inl y1), some (.inl y2), some (.inl y3), some (.inl (y4 + 1)), some (.inl y5), some (.inl y6)] [] M
            refine mr_goto 5 dd_Mo_fitting_117 (by decide) ?_
            exact mm_fg (mm_leq (mm_le_s (mm_le_s (mm_le_s (mm_le_s (mm_le_s (mm_le_n (mm_le_n mm_le_e)))))))) (h _ M hS)
          · have h := h.2 hc108
            refine mr_iload dd_Mo_fitting_111 rfl ?_
            refine mr_istore_n dd_Mo_fitting_113 (by decide) ?_
            show mm_Z l G Y_Mo_fitting (mo_K a0 ad Mb K) _ 0 0 114 [some (.inr (some a0)), some (.inl y1), some (.inl y2), some (.inl y4), some (.inl y4), some (.inl y5), some (.inl y6)] [] M
            refine mr_iinc 1 dd_Mo_fitting_114 rfl (by decide) (by decide) ?_
            show mm_Z l G Y_Mo_fitting (mo_K a0 ad Mb K) _ 0 0 117 [some (.inr (some a0)), some (.inl y1), some (.inl y2), some (.inl y4), some (.inl (y4 + 1)), some (.inl y5), some (.inl y6)] [] M
            refine mr_goto 5 dd_Mo_fitting_117 (by decide) ?_
            exact mm_fg (mm_leq (mm_le_s (mm_le_s (mm_le_s (mm_le_s (mm_le_s (mm_le_n (mm_le_n mm_le_e)))))))) (h _ M hS)
  · have h := h.2 hc22
    refine mr_iload dd_Mo_fitting_25 rfl ?_
    refine mr_aload_n dd_Mo_fitting_27 rfl ?_
    refine mr_getr ff_Mo_26 dd_Mo_fitting_28 rs_8_6 rfl hS.1 ?_
    rw [mo_p hS 6 (by decide) rfl]
    refine mr_iload dd_Mo_fitting_31 rfl ?_
    obtain ⟨j7, hj8, hb9, h⟩ := h
    refine mr_iald dd_Mo_fitting_33 rfl (mo_k hS 6 (by decide) rfl rfl) hj8 (Nat.lt_trans hb9 (by decide)) (mo_l hS 6 (by decide) rfl rfl hb9) ?_
    rw [mo_i hS 6 (by decide) rfl rfl hb9]
    refine mr_if_le 59 dd_Mo_fitting_34 (by decide) (fun hc34 => ?_) (fun hc34 => ?_)
    · have h := h.1 hc34
      refine mr_iconst 0 dd_Mo_fitting_59 (by decide) ?_
      refine mr_iadd dd_Mo_fitting_60 ?_
      refine mr_istore dd_Mo_fitting_61 (by decide) ?_
      show mm_Z l G Y_Mo_fitting (mo_K a0 ad Mb K) _ 0 0 63 [some (.inr (some a0)), some (.inl y1), some (.inl y2), some (.inl y3), some (.inl y4), some (.inl (y5 + 0)), some (.inl y6)] [] M
      refine mr_iinc 1 dd_Mo_fitting_63 rfl (by decide) (by decide) ?_
      show mm_Z l G Y_Mo_fitting (mo_K a0 ad Mb K) _ 0 0 66 [some (.inr (some a0)), some (.inl y1), some (.inl y2), some (.inl y3), some (.inl y4), some (.inl (y5 + 0)), some (.inl (y6 + 1))] [] M
      refine mr_goto 18 dd_Mo_fitting_66 (by decide) ?_
      exact h _ M hS
    · have h := h.2 hc34
      refine mr_aload_n dd_Mo_fitting_37 rfl ?_
      refine mr_getr ff_Mo_35 dd_Mo_fitting_38 rs_8_9 rfl hS.1 ?_
      rw [mo_p hS 9 (by decide) rfl]
      refine mr_iload dd_Mo_fitting_41 rfl ?_
      refine mr_iald dd_Mo_fitting_43 rfl (mo_k hS 9 (by decide) rfl rfl) hj8 (Nat.lt_trans hb9 (by decide)) (mo_l hS 9 (by decide) rfl rfl hb9) ?_
      rw [mo_i hS 9 (by decide) rfl rfl hb9]
      refine mr_iload dd_Mo_fitting_44 rfl ?_
      refine mr_icmp_ne 59 dd_Mo_fitting_46 (by decide) (fun hc46 => ?_) (fun hc46 => ?_)
      · have h := h.1 hc46
        refine mr_iconst 0 dd_Mo_fitting_59 (by decide) ?_
        refine mr_iadd dd_Mo_fitting_60 ?_
        refine mr_istore dd_Mo_fitting_61 (by decide) ?_
        show mm_Z l G Y_Mo_fitting (mo_K a0 ad Mb K) _ 0 0 63 [some (.inr (some a0)), some (.inl y1), some (.inl y2), some (.inl y3), some (.inl y4), some (.inl (y5 + 0)), some (.inl y6)] [] M
        refine mr_iinc 1 dd_Mo_fitting_63 rfl (by decide) (by decide) ?_
        show mm_Z l G Y_Mo_fitting (mo_K a0 ad Mb K) _ 0 0 66 [some (.inr (some a0)), some (.inl y1), some (.inl y2), some (.inl y3), some (.inl y4), some (.inl (y5 + 0)), some (.inl (y6 + 1))] [] M
        refine mr_goto 18 dd_Mo_fitting_66 (by decide) ?_
        exact h _ M hS
      · have h := h.2 hc46
        refine mr_aload_n dd_Mo_fitting_49 rfl ?_
        refine mr_getr ff_Mo_29 dd_Mo_fitting_50 rs_8_7 rfl hS.1 ?_
        rw [mo_p hS 7 (by decide) rfl]
        refine mr_iload dd_Mo_fitting_53 rfl ?_
        refine mr_iald dd_Mo_fitting_55 rfl (mo_k hS 7 (by decide) rfl rfl) hj8 (Nat.lt_trans hb9 (by decide)) (mo_l hS 7 (by decide) rfl rfl hb9) ?_
        rw [mo_i hS 7 (by decide) rfl rfl hb9]
        refine mr_goto 60 dd_Mo_fitting_56 (by decide) ?_
        refine mr_iadd dd_Mo_fitting_60 ?_
        refine mr_istore dd_Mo_fitting_61 (by decide) ?_
        show mm_Z l G Y_Mo_fitting (mo_K a0 ad Mb K) _ 0 0 63 [some (.inr (some a0)), some (.inl y1), some (.inl y2), some (.inl y3), some (.inl y4), some (.inl (y5 + (A 7 j7))), some (.inl y6)] [] M
        refine mr_iinc 1 dd_Mo_fitting_63 rfl (by decide) (by decide) ?_
        show mm_Z l G Y_Mo_fitting (mo_K a0 ad Mb K) _ 0 0 66 [some (.inr (some a0)), some (.inl y1), some (.inl y2), some (.inl y3), some (.inl y4), some (.inl (y5 + (A 7 j7))), some (.inl (y6 + 1))] [] M
        refine mr_goto 18 dd_Mo_fitting_66 (by decide) ?_
        exact h _ M hS
set_option maxHeartbeats 4000000 in
set_option maxRecDepth 100000 in
theorem mg_sweep {l : Launch} {G : mm_G} {K : Option mm_V → mo_A → Prop} {a0 : Nat} {ad : Nat → Nat} {Mb : mm_M} {A : mo_A} {xa : Int32}
    (h : mo_Ok l G yy_Mo_reach Y_Mo_reach [.inr (some a0), .inl xa] a0 ad Mb A (fun r A1 => r = none ∧ mo_Z l G Y_Mo_sweep K a0 ad Mb 9 [some (.inr (some a0)), some (.inl xa), some (.inl 0), some (.inl 0), none, none] [] A1)) :
    mo_Ok l G yy_Mo_sweep Y_Mo_sweep [.inr (some a0), .inl xa] a0 ad Mb A K := by
  intro M hS
  refine mm_go (by decide) rfl (fun q => by cases q) (Nat.le_of_ble_eq_true rfl) ?_
  show mm_Z l G Y_Mo_sweep (mo_K a0 ad Mb K) _ 0 0 0 [some (.inr (some a0)), some (.inl xa), none, none, none, none] [] M
  refine mr_aload_n dd_Mo_sweep_0 rfl ?_
  refine mr_iload_n dd_Mo_sweep_1 rfl ?_
  refine mr_callV0 (Yc := Y_Mo_reach) (M := M) (st := []) (vs := [.inl xa]) (ci := 8) fc_Mo_99 iv_Mo_reach sv_Mo_reach dd_Mo_sweep_2 ⟨Nat.le_of_ble_eq_true rfl, Nat.le_of_ble_eq_true rfl⟩ (by decide) rfl rfl (Nat.le_of_ble_eq_true rfl) rfl hS.1 rfl rfl (h M hS) (fun r M _ h => ?_)
  obtain ⟨A1, hS, h⟩ := h
  obtain ⟨rfl, h⟩ := h
  show mm_Z l G Y_Mo_sweep (mo_K a0 ad Mb K) _ 0 0 5 [some (.inr (some a0)), some (.inl xa), none, none, none, none] [] M
  refine mr_iconst 0 dd_Mo_sweep_5 (by decide) ?_
  refine mr_istore_n dd_Mo_sweep_6 (by decide) ?_
  show mm_Z l G Y_Mo_sweep (mo_K a0 ad Mb K) _ 0 0 7 [some (.inr (some a0)), some (.inl xa), some (.inl 0), none, none, none] [] M
  refine mr_iconst 0 dd_Mo_sweep_7 (by decide) ?_
  refine mr_istore_n dd_Mo_sweep_8 (by decide) ?_
  show mm_Z l G Y_Mo_sweep (mo_K a0 ad Mb K) _ 0 0 9 [some (.inr (some a0)), some (.inl xa), some (.inl 0), some (.inl 0), none, none] [] M
  exact h _ M hS
set_option maxHeartbeats 4000000 in
set_option maxRecDepth 100000 in
theorem mg_sweep_9 {l : Launch} {G : mm_G} {K : Option mm_V → mo_A → Prop} {a0 : Nat} {ad : Nat → Nat} {Mb : mm_M} {A : mo_A} {y1 : Int32} {y2 : Int32} {y3 : Int32}
    (h : (60 ≤ y3 → mo_Z l G Y_Mo_sweep K a0 ad Mb 52 [some (.inr (some a0)), some (.inl y1), some (.inl y2), some (.inl 0), none, none] [] A) ∧ (¬ 60 ≤ y3 → ∃ j1 : Nat, y3 = nI j1 ∧ j1 < 60 ∧ (¬ (A 6 j1) = (y1 + 1) → mo_Z l G Y_Mo_sweep K a0 ad Mb 9 [some (.inr (some a0)), some (.inl y1), some (.inl y2), some (.inl (y3 + 1)), none, none] [] A) ∧ ((A 6 j1) = (y1 + 1) → (¬ (A 24 j1) = 0 → mo_Z l G Y_Mo_sweep K a0 ad Mb 9 [some (.inr (some a0)), some (.inl y1), some (.inl y2), some (.inl (y3 + 1)), none, none] [] A) ∧ ((A 24 j1) = 0 → mo_Ok l G yy_Mo_free Y_Mo_free [.inr (some a0), .inl y3] a0 ad Mb A (fun r A4 => r = none ∧ mo_Z l G Y_Mo_sweep K a0 ad Mb 9 [some (.inr (some a0)), some (.inl y1), some (.inl (y2 + 1)), some (.inl (y3 + 1)), none, none] [] A4))))) :
    mo_Z l G Y_Mo_sweep K a0 ad Mb 9 [some (.inr (some a0)), some (.inl y1), some (.inl y2), some (.inl y3), none, none] [] A := by
  intro M0 M hS
  refine mr_iload_n dd_Mo_sweep_9 rfl ?_
  refine mr_bipush 60 dd_Mo_sweep_10 (by decide) ?_
  refine mr_icmp_ge 50 dd_Mo_sweep_12 (by decide) (fun hc12 => ?_) (fun hc12 => ?_)
  · have h := h.1 hc12
    refine mr_iconst 0 dd_Mo_sweep_50 (by decide) ?_
    refine mr_istore_n dd_Mo_sweep_51 (by decide) ?_
    show mm_Z l G Y_Mo_sweep (mo_K a0 ad Mb K) _ 0 0 52 [some (.inr (some a0)), some (.inl y1), some (.inl y2), some (.inl 0), none, none] [] M
    exact h _ M hS
  · have h := h.2 hc12
    refine mr_aload_n dd_Mo_sweep_15 rfl ?_
    refine mr_getr ff_Mo_26 dd_Mo_sweep_16 rs_8_6 rfl hS.1 ?_
    rw [mo_p hS 6 (by decide) rfl]
    refine mr_iload_n dd_Mo_sweep_19 rfl ?_
    obtain ⟨j1, hj2, hb3, h⟩ := h
    refine mr_iald dd_Mo_sweep_20 rfl (mo_k hS 6 (by decide) rfl rfl) hj2 (Nat.lt_trans hb3 (by decide)) (mo_l hS 6 (by decide) rfl rfl hb3) ?_
    rw [mo_i hS 6 (by decide) rfl rfl hb3]
    refine mr_iload_n dd_Mo_sweep_21 rfl ?_
    refine mr_iconst 1 dd_Mo_sweep_22 (by decide) ?_
    refine mr_iadd dd_Mo_sweep_23 ?_
    refine mr_icmp_ne 44 dd_Mo_sweep_24 (by decide) (fun hc24 => ?_) (fun hc24 => ?_)
    · have h := h.1 hc24
      refine mr_iinc 1 dd_Mo_sweep_44 rfl (by decide) (by decide) ?_
      show mm_Z l G Y_Mo_sweep (mo_K a0 ad Mb K) _ 0 0 47 [some (.inr (some a0)), some (.inl y1), some (.inl y2), some (.inl (y3 + 1)), none, none] [] M
      refine mr_goto 9 dd_Mo_sweep_47 (by decide) ?_
      exact h _ M hS
    · have h := h.2 hc24
      refine mr_aload_n dd_Mo_sweep_27 rfl ?_
      refine mr_getr ff_Mo_74 dd_Mo_sweep_28 rs_8_24 rfl hS.1 ?_
      rw [mo_p hS 24 (by decide) rfl]
      refine mr_iload_n dd_Mo_sweep_31 rfl ?_
      refine mr_zald dd_Mo_sweep_32 rfl (mo_k hS 24 (by decide) rfl rfl) hj2 (Nat.lt_trans hb3 (by decide)) (mo_l hS 24 (by decide) rfl rfl hb3) ?_
      rw [mo_i hS 24 (by decide) rfl rfl hb3]
      refine mr_if_ne 44 dd_Mo_sweep_33 (by decide) (fun hc33 => ?_) (fun hc33 => ?_)
      · have h := h.1 hc33
        refine mr_iinc 1 dd_Mo_sweep_44 rfl (by decide) (by decide) ?_
        show mm_Z l G Y_Mo_sweep (mo_K a0 ad Mb K) _ 0 0 47 [some (.inr (some a0)), some (.inl y1), some (.inl y2), some (.inl (y3 + 1)), none, none] [] M
        refine mr_goto 9 dd_Mo_sweep_47 (by decide) ?_
        exact h _ M hS
      · have h := h.2 hc33
        refine mr_aload_n dd_Mo_sweep_36 rfl ?_
        refine mr_iload_n dd_Mo_sweep_37 rfl ?_
        refine mr_callV0 (Yc := Y_Mo_free) (M := M) (st := []) (vs := [.inl y3]) (ci := 8) fc_Mo_103 iv_Mo_free sv_Mo_free dd_Mo_sweep_38 ⟨Nat.le_of_ble_eq_true rfl, Nat.le_of_ble_eq_true rfl⟩ (by decide) rfl rfl (Nat.le_of_ble_eq_true rfl) rfl hS.1 rfl rfl (h M hS) (fun r M _ h => ?_)
        obtain ⟨A4, hS, h⟩ := h
        obtain ⟨rfl, h⟩ := h
        show mm_Z l G Y_Mo_sweep (mo_K a0 ad Mb K) _ 0 0 41 [some (.inr (some a0)), some (.inl y1), some (.inl y2), some (.inl y3), none, none] [] M
        refine mr_iinc 1 dd_Mo_sweep_41 rfl (by decide) (by decide) ?_
        show mm_Z l G Y_Mo_sweep (mo_K a0 ad Mb K) _ 0 0 44 [some (.inr (some a0)), some (.inl y1), some (.inl (y2 + 1)), some (.inl y3), none, none] [] M
        refine mr_iinc 1 dd_Mo_sweep_44 rfl (by decide) (by decide) ?_
        show mm_Z l G Y_Mo_sweep (mo_K a0 ad Mb K) _ 0 0 47 [some (.inr (some a0)), some (.inl y1), some (.inl (y2 + 1)), some (.inl (y3 + 1)), none, none] [] M
        refine mr_goto 9 dd_Mo_sweep_47 (by decide) ?_
        exact h _ M hS
set_option maxHeartbeats 4000000 in
set_option maxRecDepth 100000 in
theorem mg_sweep_52 {l : Launch} {G : mm_G} {K : Option mm_V → mo_A → Prop} {a0 : Nat} {ad : Nat → Nat} {Mb : mm_M} {A : mo_A} {y1 : Int32} {y2 : Int32} {y3 : Int32}
    (h : (60 ≤ y3 → mo_Z l G Y_Mo_sweep K a0 ad Mb 105 [some (.inr (some a0)), some (.inl y1), some (.inl y2), some (.inl 0), none, none] [] A) ∧ (¬ 60 ≤ y3 → ∃ j1 : Nat, ((60 * y1) + y3) = nI j1 ∧ j1 < 780 ∧ ((A 21 j1) = 0 → mo_Z l G Y_Mo_sweep K a0 ad Mb 52 [some (.inr (some a0)), some (.inl y1), some (.inl y2), some (.inl (y3 + 1)), none, none] [] (mo_u A 21 j1 0)) ∧ (¬ (A 21 j1) = 0 → mo_Ok l G yy_Mo_inField Y_Mo_inField [.inr (some a0), .inl y1, .inl y3] a0 ad Mb A (fun r B => B = A ∧ ∃ x5 : Int32, r = some (.inl x5) ∧ (x5 = 0 → mo_Z l G Y_Mo_sweep K a0 ad Mb 52 [some (.inr (some a0)), some (.inl y1), some (.inl y2), some (.inl (y3 + 1)), none, none] [] (mo_u A 21 j1 0)) ∧ (¬ x5 = 0 → mo_Z l G Y_Mo_sweep K a0 ad Mb 52 [some (.inr (some a0)), some (.inl y1), some (.inl y2), some (.inl (y3 + 1)), none, none] [] (mo_u A 21 j1 1)))))) :
    mo_Z l G Y_Mo_sweep K a0 ad Mb 52 [some (.inr (some a0)), some (.inl y1), some (.inl y2), some (.inl y3), none, none] [] A := by
  intro M0 M hS
  refine mr_iload_n dd_Mo_sweep_52 rfl ?_
  refine mr_bipush 60 dd_Mo_sweep_53 (by decide) ?_
  refine mr_icmp_ge 103 dd_Mo_sweep_55 (by decide) (fun hc55 => ?_) (fun hc55 => ?_)
  · have h := h.1 hc55
    refine mr_iconst 0 dd_Mo_sweep_103 (by decide) ?_
    refine mr_istore_n dd_Mo_sweep_104 (by decide) ?_
    show mm_Z l G Y_Mo_sweep (mo_K a0 ad Mb K) _ 0 0 105 [some (.inr (some a0)), some (.inl y1), some (.inl y2), some (.inl 0), none, none] [] M
    exact h _ M hS
  · have h := h.2 hc55
    refine mr_aload_n dd_Mo_sweep_58 rfl ?_
    refine mr_getr ff_Mo_65 dd_Mo_sweep_59 rs_8_21 rfl hS.1 ?_
    rw [mo_p hS 21 (by decide) rfl]
    refine mr_bipush 60 dd_Mo_sweep_62 (by decide) ?_
    refine mr_iload_n dd_Mo_sweep_64 rfl ?_
    refine mr_imul dd_Mo_sweep_65 ?_
    refine mr_iload_n dd_Mo_sweep_66 rfl ?_
    refine mr_iadd dd_Mo_sweep_67 ?_
    refine mr_aload_n dd_Mo_sweep_68 rfl ?_
    refine mr_getr ff_Mo_65 dd_Mo_sweep_69 rs_8_21 rfl hS.1 ?_
    rw [mo_p hS 21 (by decide) rfl]
    refine mr_bipush 60 dd_Mo_sweep_72 (by decide) ?_
    refine mr_iload_n dd_Mo_sweep_74 rfl ?_
    refine mr_imul dd_Mo_sweep_75 ?_
    refine mr_iload_n dd_Mo_sweep_76 rfl ?_
    refine mr_iadd dd_Mo_sweep_77 ?_
    obtain ⟨j1, hj2, hb3, h⟩ := h
    refine mr_zald dd_Mo_sweep_78 rfl (mo_k hS 21 (by decide) rfl rfl) hj2 (Nat.lt_trans hb3 (by decide)) (mo_l hS 21 (by decide) rfl rfl hb3) ?_
    rw [mo_i hS 21 (by decide) rfl rfl hb3]
    refine mr_if_eq 95 dd_Mo_sweep_79 (by decide) (fun hc79 => ?_) (fun hc79 => ?_)
    · have h := h.1 hc79
      refine mr_iconst 0 dd_Mo_sweep_95 (by decide) ?_
      refine mr_zast dd_Mo_sweep_96 rfl (mo_k hS 21 (by decide) rfl rfl) hj2 (Nat.lt_trans hb3 (by decide)) (mo_l hS 21 (by decide) rfl rfl hb3) (Or.inl rfl) ?_
      have hS := mo_S.up hS 21 (by decide) rfl j1 0
      generalize mm_si M (ad 21) j1 0 = M at hS ⊢
      refine mr_iinc 1 dd_Mo_sweep_97 rfl (by decide) (by decide) ?_
      show mm_Z l G Y_Mo_sweep (mo_K a0 ad Mb K) _ 0 0 100 [some (.inr (some a0)), some (.inl y1), some (.inl y2), some (.inl (y3 + 1)), none, none] [] M
      refine mr_goto 52 dd_Mo_sweep_100 (by decide) ?_
      exact h _ M hS
    · have h := h.2 hc79
      refine mr_aload_n dd_Mo_sweep_82 rfl ?_
      refine mr_iload_n dd_Mo_sweep_83 rfl ?_
      refine mr_iload_n dd_Mo_sweep_84 rfl ?_
      refine mr_callV0 (Yc := Y_Mo_inField) (M := M) (st := [.inl ((60 * y1) + y3), .inr (some (ad 21))]) (vs := [.inl y1, .inl y3]) (ci := 8) fc_Mo_106 iv_Mo_inField sv_Mo_inField dd_Mo_sweep_85 ⟨Nat.le_of_ble_eq_true rfl, Nat.le_of_ble_eq_true rfl⟩ (by decide) rfl rfl (Nat.le_of_ble_eq_true rfl) rfl hS.1 rfl rfl (h M hS) (fun r M _ h => ?_)
      obtain ⟨B, hS, hB, h⟩ := h
      rw [hB] at hS
      obtain ⟨x5, rfl, h⟩ := h
      show mm_Z l G Y_Mo_sweep (mo_K a0 ad Mb K) _ 0 0 88 [some (.inr (some a0)), some (.inl y1), some (.inl y2), some (.inl y3), none, none] [.inl x5, .inl ((60 * y1) + y3), .inr (some (ad 21))] M
      refine mr_if_eq 95 dd_Mo_sweep_88 (by decide) (fun hc88 => ?_) (fun hc88 => ?_)
      · have h := h.1 hc88
        refine mr_iconst 0 dd_Mo_sweep_95 (by decide) ?_
        refine mr_zast dd_Mo_sweep_96 rfl (mo_k hS 21 (by decide) rfl rfl) hj2 (Nat.lt_trans hb3 (by decide)) (mo_l hS 21 (by decide) rfl rfl hb3) (Or.inl rfl) ?_
        have hS := mo_S.up hS 21 (by decide) rfl j1 0
        generalize mm_si M (ad 21) j1 0 = M at hS ⊢
        refine mr_iinc 1 dd_Mo_sweep_97 rfl (by decide) (by decide) ?_
        show mm_Z l G Y_Mo_sweep (mo_K a0 ad Mb K) _ 0 0 100 [some (.inr (some a0)), some (.inl y1), some (.inl y2), some (.inl (y3 + 1)), none, none] [] M
        refine mr_goto 52 dd_Mo_sweep_100 (by decide) ?_
        exact h _ M hS
      · have h := h.2 hc88
        refine mr_iconst 1 dd_Mo_sweep_91 (by decide) ?_
        refine mr_goto 96 dd_Mo_sweep_92 (by decide) ?_
        refine mr_zast dd_Mo_sweep_96 rfl (mo_k hS 21 (by decide) rfl rfl) hj2 (Nat.lt_trans hb3 (by decide)) (mo_l hS 21 (by decide) rfl rfl hb3) (Or.inr rfl) ?_
        have hS := mo_S.up hS 21 (by decide) rfl j1 1
        generalize mm_si M (ad 21) j1 1 = M at hS ⊢
        refine mr_iinc 1 dd_Mo_sweep_97 rfl (by decide) (by decide) ?_
        show mm_Z l G Y_Mo_sweep (mo_K a0 ad Mb K) _ 0 0 100 [some (.inr (some a0)), some (.inl y1), some (.inl y2), some (.inl (y3 + 1)), none, none] [] M
        refine mr_goto 52 dd_Mo_sweep_100 (by decide) ?_
        exact h _ M hS
set_option maxHeartbeats 4000000 in
set_option maxRecDepth 100000 in
theorem mg_sweep_105 {l : Launch} {G : mm_G} {K : Option mm_V → mo_A → Prop} {a0 : Nat} {ad : Nat → Nat} {Mb : mm_M} {A : mo_A} {y1 : Int32} {y2 : Int32} {y3 : Int32}
    (h : (4 ≤ y3 → mo_Ok l G yy_Mo_vanish Y_Mo_vanish [.inr (some a0)] a0 ad Mb A (fun r A1 => r = none ∧ K (some (.inl y2)) A1)) ∧ (¬ 4 ≤ y3 → (8 ≤ y1 → mo_Z l G Y_Mo_sweep K a0 ad Mb 180 [some (.inr (some a0)), some (.inl y1), some (.inl y2), some (.inl y3), some (.inl (9 + y3)), some (.inl 0)] [] A) ∧ (¬ 8 ≤ y1 → ∃ j2 : Nat, ((4 * y1) + y3) = nI j2 ∧ j2 < 32 ∧ ((A 19 j2) = 0 → mo_Z l G Y_Mo_sweep K a0 ad Mb 180 [some (.inr (some a0)), some (.inl y1), some (.inl y2), some (.inl y3), some (.inl (9 + y3)), some (.inl 0)] [] A) ∧ (¬ (A 19 j2) = 0 → mo_Ok l G yy_Mo_names Y_Mo_names [.inr (some a0), .inl y1, .inl (9 + y3)] a0 ad Mb A (fun r B => B = A ∧ ∃ x6 : Int32, r = some (.inl x6) ∧ (¬ x6 = 0 → mo_Z l G Y_Mo_sweep K a0 ad Mb 180 [some (.inr (some a0)), some (.inl y1), some (.inl y2), some (.inl y3), some (.inl (9 + y3)), some (.inl 0)] [] A) ∧ (x6 = 0 → mo_Ok l G yy_Mo_holds Y_Mo_holds [.inr (some a0), .inl y1, .inl (9 + y3)] a0 ad Mb A (fun r B => B = A ∧ ∃ x8 : Int32, r = some (.inl x8) ∧ (¬ x8 = 0 → mo_Z l G Y_Mo_sweep K a0 ad Mb 180 [some (.inr (some a0)), some (.inl y1), some (.inl y2), some (.inl y3), some (.inl (9 + y3)), some (.inl 0)] [] A) ∧ (x8 = 0 → mo_Z l G Y_Mo_sweep K a0 ad Mb 180 [some (.inr (some a0)), some (.inl y1), some (.inl y2), some (.inl y3), some (.inl (9 + y3)), some (.inl 0)] [] (mo_u (mo_u A 19 j2 0) 20 j2 0))))))))) :
    mo_Z l G Y_Mo_sweep K a0 ad Mb 105 [some (.inr (some a0)), some (.inl y1), some (.inl y2), some (.inl y3), none, none] [] A := by
  intro M0 M hS
  refine mr_iload_n dd_Mo_sweep_105 rfl ?_
  refine mr_iconst 4 dd_Mo_sweep_106 (by decide) ?_
  refine mr_icmp_ge 239 dd_Mo_sweep_107 (by decide) (fun hc107 => ?_) (fun hc107 => ?_)
  · have h := h.1 hc107
    refine mr_aload_n dd_Mo_sweep_239 rfl ?_
    refine mr_callV0 (Yc := Y_Mo_vanish) (M := M) (st := []) (vs := []) (ci := 8) fc_Mo_115 iv_Mo_vanish sv_Mo_vanish dd_Mo_sweep_240 ⟨Nat.le_of_ble_eq_true rfl, Nat.le_of_ble_eq_true rfl⟩ (by decide) rfl rfl (Nat.le_of_ble_eq_true rfl) rfl hS.1 rfl rfl (h M hS) (fun r M _ h => ?_)
    obtain ⟨A1, hS, h⟩ := h
    obtain ⟨rfl, h⟩ := h
    show mm_Z l G Y_Mo_sweep (mo_K a0 ad Mb K) _ 0 0 243 [some (.inr (some a0)), some (.inl y1), some (.inl y2), some (.inl y3), none, none] [] M
    refine mr_iload_n dd_Mo_sweep_243 rfl ?_
    exact mr_ireturn dd_Mo_sweep_244 rfl ⟨_, hS, h⟩
  · have h := h.2 hc107
    refine mr_bipush 9 dd_Mo_sweep_110 (by decide) ?_
    refine mr_iload_n dd_Mo_sweep_112 rfl ?_
    refine mr_iadd dd_Mo_sweep_113 ?_
    refine mr_istore dd_Mo_sweep_114 (by decide) ?_
    show mm_Z l G Y_Mo_sweep (mo_K a0 ad Mb K) _ 0 0 116 [some (.inr (some a0)), some (.inl y1), some (.inl y2), some (.inl y3), some (.inl (9 + y3)), none] [] M
    refine mr_iload_n dd_Mo_sweep_116 rfl ?_
    refine mr_bipush 8 dd_Mo_sweep_117 (by decide) ?_
    refine mr_icmp_ge 177 dd_Mo_sweep_119 (by decide) (fun hc119 => ?_) (fun hc119 => ?_)
    · have h := h.1 hc119
      refine mr_iconst 0 dd_Mo_sweep_177 (by decide) ?_
      refine mr_istore dd_Mo_sweep_178 (by decide) ?_
      show mm_Z l G Y_Mo_sweep (mo_K a0 ad Mb K) _ 0 0 180 [some (.inr (some a0)), some (.inl y1), some (.inl y2), some (.inl y3), some (.inl (9 + y3)), some (.inl 0)] [] M
      exact h _ M hS
    · have h := h.2 hc119
      refine mr_aload_n dd_Mo_sweep_122 rfl ?_
      refine mr_getr ff_Mo_59 dd_Mo_sweep_123 rs_8_19 rfl hS.1 ?_
      rw [mo_p hS 19 (by decide) rfl]
      refine mr_iconst 4 dd_Mo_sweep_126 (by decide) ?_
      refine mr_iload_n dd_Mo_sweep_127 rfl ?_
      refine mr_imul dd_Mo_sweep_128 ?_
      refine mr_iload_n dd_Mo_sweep_129 rfl ?_
      refine mr_iadd dd_Mo_sweep_130 ?_
      obtain ⟨j2, hj3, hb4, h⟩ := h
      refine mr_zald dd_Mo_sweep_131 rfl (mo_k hS 19 (by decide) rfl rfl) hj3 (Nat.lt_trans hb4 (by decide)) (mo_l hS 19 (by decide) rfl rfl hb4) ?_
      rw [mo_i hS 19 (by decide) rfl rfl hb4]
      refine mr_if_eq 177 dd_Mo_sweep_132 (by decide) (fun hc132 => ?_) (fun hc132 => ?_)
      · have h := h.1 hc132
        refine mr_iconst 0 dd_Mo_sweep_177 (by decide) ?_
        refine mr_istore dd_Mo_sweep_178 (by decide) ?_
        show mm_Z l G Y_Mo_sweep (mo_K a0 ad Mb K) _ 0 0 180 [some (.inr (some a0)), some (.inl y1), some (.inl y2), some (.inl y3), some (.inl (9 + y3)), some (.inl 0)] [] M
        exact h _ M hS
      · have h := h.2 hc132
        refine mr_aload_n dd_Mo_sweep_135 rfl ?_
        refine mr_iload_n dd_Mo_sweep_136 rfl ?_
        refine mr_iload dd_Mo_sweep_137 rfl ?_
        refine mr_callV0 (Yc := Y_Mo_names) (M := M) (st := []) (vs := [.inl y1, .inl (9 + y3)]) (ci := 8) fc_Mo_109 iv_Mo_names sv_Mo_names dd_Mo_sweep_139 ⟨Nat.le_of_ble_eq_true rfl, Nat.le_of_ble_eq_true rfl⟩ (by decide) rfl rfl (Nat.le_of_ble_eq_true rfl) rfl hS.1 rfl rfl (h M hS) (fun r M _ h => ?_)
        obtain ⟨B, hS, hB, h⟩ := h
        rw [hB] at hS
        obtain ⟨x6, rfl, h⟩ := h
        show mm_Z l G Y_Mo_sweep (mo_K a0 ad Mb K) _ 0 0 142 [some (.inr (some a0)), some (.inl y1), some (.inl y2), some (.inl y3), some (.inl (9 + y3)), none] [.inl x6] M
        refine mr_if_ne 177 dd_Mo_sweep_142 (by decide) (fun hc142 => ?_) (fun hc142 => ?_)
        · have h := h.1 hc142
          refine mr_iconst 0 dd_Mo_sweep_177 (by decide) ?_
          refine mr_istore dd_Mo_sweep_178 (by decide) ?_
          show mm_Z l G Y_Mo_sweep (mo_K a0 ad Mb K) _ 0 0 180 [some (.inr (some a0)), some (.inl y1), some (.inl y2), some (.inl y3), some (.inl (9 + y3)), some (.inl 0)] [] M
          exact h _ M hS
        · have h := h.2 hc142
          refine mr_aload_n dd_Mo_sweep_145 rfl ?_
          refine mr_iload_n dd_Mo_sweep_146 rfl ?_
          refine mr_iload dd_Mo_sweep_147 rfl ?_
          refine mr_callV0 (Yc := Y_Mo_holds) (M := M) (st := []) (vs := [.inl y1, .inl (9 + y3)]) (ci := 8) fc_Mo_112 iv_Mo_holds sv_Mo_holds dd_Mo_sweep_149 ⟨Nat.le_of_ble_eq_true rfl, Nat.le_of_ble_eq_true rfl⟩ (by decide) rfl rfl (Nat.le_of_ble_eq_true rfl) rfl hS.1 rfl rfl (h M hS) (fun r M _ h => ?_)
          obtain ⟨B, hS, hB, h⟩ := h
          rw [hB] at hS
          obtain ⟨x8, rfl, h⟩ := h
          show mm_Z l G Y_Mo_sweep (mo_K a0 ad Mb K) _ 0 0 152 [some (.inr (some a0)), some (.inl y1), some (.inl y2), some (.inl y3), some (.inl (9 + y3)), none] [.inl x8] M
          refine mr_if_ne 177 dd_Mo_sweep_152 (by decide) (fun hc152 => ?_) (fun hc152 => ?_)
          · have h := h.1 hc152
            refine mr_iconst 0 dd_Mo_sweep_177 (by decide) ?_
            refine mr_istore dd_Mo_sweep_178 (by decide) ?_
            show mm_Z l G Y_Mo_sweep (mo_K a0 ad Mb K) _ 0 0 180 [some (.inr (some a0)), some (.inl y1), some (.inl y2), some (.inl y3), some (.inl (9 + y3)), some (.inl 0)] [] M
            exact h _ M hS
          · have h := h.2 hc152
            refine mr_aload_n dd_Mo_sweep_155 rfl ?_
            refine mr_getr ff_Mo_59 dd_Mo_sweep_156 rs_8_19 rfl hS.1 ?_
            rw [mo_p hS 19 (by decide) rfl]
            refine mr_iconst 4 dd_Mo_sweep_159 (by decide) ?_
            refine mr_iload_n dd_Mo_sweep_160 rfl ?_
            refine mr_imul dd_Mo_sweep_161 ?_
            refine mr_iload_n dd_Mo_sweep_162 rfl ?_
            refine mr_iadd dd_Mo_sweep_163 ?_
            refine mr_iconst 0 dd_Mo_sweep_164 (by decide) ?_
            refine mr_zast dd_Mo_sweep_165 rfl (mo_k hS 19 (by decide) rfl rfl) hj3 (Nat.lt_trans hb4 (by decide)) (mo_l hS 19 (by decide) rfl rfl hb4) (Or.inl rfl) ?_
            have hS := mo_S.up hS 19 (by decide) rfl j2 0
            generalize mm_si M (ad 19) j2 0 = M at hS ⊢
            refine mr_aload_n dd_Mo_sweep_166 rfl ?_
            refine mr_getr ff_Mo_62 dd_Mo_sweep_167 rs_8_20 rfl hS.1 ?_
            rw [mo_p hS 20 (by decide) rfl]
            refine mr_iconst 4 dd_Mo_sweep_170 (by decide) ?_
            refine mr_iload_n dd_Mo_sweep_171 rfl ?_
            refine mr_imul dd_Mo_sweep_172 ?_
            refine mr_iload_n dd_Mo_sweep_173 rfl ?_
            refine mr_iadd dd_Mo_sweep_174 ?_
            refine mr_iconst 0 dd_Mo_sweep_175 (by decide) ?_
            refine mr_zast dd_Mo_sweep_176 rfl (mo_k hS 20 (by decide) rfl rfl) hj3 (Nat.lt_trans hb4 (by decide)) (mo_l hS 20 (by decide) rfl rfl hb4) (Or.inl rfl) ?_
            have hS := mo_S.up hS 20 (by decide) rfl j2 0
            generalize mm_si M (ad 20) j2 0 = M at hS ⊢
            refine mr_iconst 0 dd_Mo_sweep_177 (by decide) ?_
            refine mr_istore dd_Mo_sweep_178 (by decide) ?_
            show mm_Z l G Y_Mo_sweep (mo_K a0 ad Mb K) _ 0 0 180 [some (.inr (some a0)), some (.inl y1), some (.inl y2), some (.inl y3), some (.inl (9 + y3)), some (.inl 0)] [] M
            exact h _ M hS
set_option maxHeartbeats 4000000 in
set_option maxRecDepth 100000 in
theorem mg_sweep_180 {l : Launch} {G : mm_G} {K : Option mm_V → mo_A → Prop} {a0 : Nat} {ad : Nat → Nat} {Mb : mm_M} {A : mo_A} {y1 : Int32} {y2 : Int32} {y3 : Int32} {y4 : Int32} {y5 : Int32}
    (h : (8 ≤ y5 → mo_Z l G Y_Mo_sweep K a0 ad Mb 105 [some (.inr (some a0)), some (.inl y1), some (.inl y2), some (.inl (y3 + 1)), none, none] [] A) ∧ (¬ 8 ≤ y5 → (¬ y1 = 8 → mo_Z l G Y_Mo_sweep K a0 ad Mb 180 [some (.inr (some a0)), some (.inl y1), some (.inl y2), some (.inl y3), some (.inl y4), some (.inl (y5 + 1))] [] A) ∧ (y1 = 8 → ∃ j1 : Nat, y5 = nI j1 ∧ j1 < 8 ∧ (¬ (A 0 j1) = 4 → mo_Z l G Y_Mo_sweep K a0 ad Mb 180 [some (.inr (some a0)), some (.inl y1), some (.inl y2), some (.inl y3), some (.inl y4), some (.inl (y5 + 1))] [] A) ∧ ((A 0 j1) = 4 → mo_Ok l G yy_Mo_names Y_Mo_names [.inr (some a0), .inl 8, .inl y4] a0 ad Mb A (fun r B => B = A ∧ ∃ x5 : Int32, r = some (.inl x5) ∧ (¬ x5 = 0 → mo_Z l G Y_Mo_sweep K a0 ad Mb 180 [some (.inr (some a0)), some (.inl y1), some (.inl y2), some (.inl y3), some (.inl y4), some (.inl (y5 + 1))] [] A) ∧ (x5 = 0 → ∃ j6 : Nat, ((4 * y5) + y3) = nI j6 ∧ j6 < 32 ∧ mo_Z l G Y_Mo_sweep K a0 ad Mb 180 [some (.inr (some a0)), some (.inl y1), some (.inl y2), some (.inl y3), some (.inl y4), some (.inl (y5 + 1))] [] (mo_u A 20 j6 0))))))) :
    mo_Z l G Y_Mo_sweep K a0 ad Mb 180 [some (.inr (some a0)), some (.inl y1), some (.inl y2), some (.inl y3), some (.inl y4), some (.inl y5)] [] A := by
  intro M0 M hS
  refine mr_iload dd_Mo_sweep_180 rfl ?_
  refine mr_bipush 8 dd_Mo_sweep_182 (by decide) ?_
  refine mr_icmp_ge 233 dd_Mo_sweep_184 (by decide) (fun hc184 => ?_) (fun hc184 => ?_)
  · have h := h.1 hc184
    refine mr_iinc 1 dd_Mo_sweep_233 rfl (by decide) (by decide) ?_
    show mm_Z l G Y_Mo_sweep (mo_K a0 ad Mb K) _ 0 0 236 [some (.inr (some a0)), some (.inl y1), some (.inl y2), some (.inl (y3 + 1)), some (.inl y4), some (.inl y5)] [] M
    refine mr_goto 105 dd_Mo_sweep_236 (by decide) ?_
    exact mm_fg (mm_leq (mm_le_s (mm_le_s (mm_le_s (mm_le_s (mm_le_n (mm_le_n mm_le_e))))))) (h _ M hS)
  · have h := h.2 hc184
    refine mr_iload_n dd_Mo_sweep_187 rfl ?_
    refine mr_bipush 8 dd_Mo_sweep_188 (by decide) ?_
    refine mr_icmp_ne 227 dd_Mo_sweep_190 (by decide) (fun hc190 => ?_) (fun hc190 => ?_)
    · have h := h.1 hc190
      refine mr_iinc 1 dd_Mo_sweep_227 rfl (by decide) (by decide) ?_
      show mm_Z l G Y_Mo_sweep (mo_K a0 ad Mb K) _ 0 0 230 [some (.inr (some a0)), some (.inl y1), some (.inl y2), some (.inl y3), some (.inl y4), some (.inl (y5 + 1))] [] M
      refine mr_goto 180 dd_Mo_sweep_230 (by decide) ?_
      exact h _ M hS
    · have h := h.2 hc190
      refine mr_aload_n dd_Mo_sweep_193 rfl ?_
      refine mr_getr ff_Mo_7 dd_Mo_sweep_194 rs_8_0 rfl hS.1 ?_
      rw [mo_p hS 0 (by decide) rfl]
      refine mr_iload dd_Mo_sweep_197 rfl ?_
      obtain ⟨j1, hj2, hb3, h⟩ := h
      refine mr_iald dd_Mo_sweep_199 rfl (mo_k hS 0 (by decide) rfl rfl) hj2 (Nat.lt_trans hb3 (by decide)) (mo_l hS 0 (by decide) rfl rfl hb3) ?_
      rw [mo_i hS 0 (by decide) rfl rfl hb3]
      refine mr_iconst 4 dd_Mo_sweep_200 (by decide) ?_
      refine mr_icmp_ne 227 dd_Mo_sweep_201 (by decide) (fun hc201 => ?_) (fun hc201 => ?_)
      · have h := h.1 hc201
        refine mr_iinc 1 dd_Mo_sweep_227 rfl (by decide) (by decide) ?_
        show mm_Z l G Y_Mo_sweep (mo_K a0 ad Mb K) _ 0 0 230 [some (.inr (some a0)), some (.inl y1), some (.inl y2), some (.inl y3), some (.inl y4), some (.inl (y5 + 1))] [] M
        refine mr_goto 180 dd_Mo_sweep_230 (by decide) ?_
        exact h _ M hS
      · have h := h.2 hc201
        refine mr_aload_n dd_Mo_sweep_204 rfl ?_
        refine mr_bipush 8 dd_Mo_sweep_205 (by decide) ?_
        refine mr_iload dd_Mo_sweep_207 rfl ?_
        refine mr_callV0 (Yc := Y_Mo_names) (M := M) (st := []) (vs := [.inl 8, .inl y4]) (ci := 8) fc_Mo_109 iv_Mo_names sv_Mo_names dd_Mo_sweep_209 ⟨Nat.le_of_ble_eq_true rfl, Nat.le_of_ble_eq_true rfl⟩ (by decide) rfl rfl (Nat.le_of_ble_eq_true rfl) rfl hS.1 rfl rfl (h M hS) (fun r M _ h => ?_)
        obtain ⟨B, hS, hB, h⟩ := h
        rw [hB] at hS
        obtain ⟨x5, rfl, h⟩ := h
        show mm_Z l G Y_Mo_sweep (mo_K a0 ad Mb K) _ 0 0 212 [some (.inr (some a0)), some (.inl y1), some (.inl y2), some (.inl y3), some (.inl y4), some (.inl y5)] [.inl x5] M
        refine mr_if_ne 227 dd_Mo_sweep_212 (by decide) (fun hc212 => ?_) (fun hc212 => ?_)
        · have h := h.1 hc212
          refine mr_iinc 1 dd_Mo_sweep_227 rfl (by decide) (by decide) ?_
          show mm_Z l G Y_Mo_sweep (mo_K a0 ad Mb K) _ 0 0 230 [some (.inr (some a0)), some (.inl y1), some (.inl y2), some (.inl y3), some (.inl y4), some (.inl (y5 + 1))] [] M
          refine mr_goto 180 dd_Mo_sweep_230 (by decide) ?_
          exact h _ M hS
        · have h := h.2 hc212
          refine mr_aload_n dd_Mo_sweep_215 rfl ?_
          refine mr_getr ff_Mo_62 dd_Mo_sweep_216 rs_8_20 rfl hS.1 ?_
          rw [mo_p hS 20 (by decide) rfl]
          refine mr_iconst 4 dd_Mo_sweep_219 (by decide) ?_
          refine mr_iload dd_Mo_sweep_220 rfl ?_
          refine mr_imul dd_Mo_sweep_222 ?_
          refine mr_iload_n dd_Mo_sweep_223 rfl ?_
          refine mr_iadd dd_Mo_sweep_224 ?_
          refine mr_iconst 0 dd_Mo_sweep_225 (by decide) ?_
          obtain ⟨j6, hj7, hb8, h⟩ := h
          refine mr_zast dd_Mo_sweep_226 rfl (mo_k hS 20 (by decide) rfl rfl) hj7 (Nat.lt_trans hb8 (by decide)) (mo_l hS 20 (by decide) rfl rfl hb8) (Or.inl rfl) ?_
          have hS := mo_S.up hS 20 (by decide) rfl j6 0
          generalize mm_si M (ad 20) j6 0 = M at hS ⊢
          refine mr_iinc 1 dd_Mo_sweep_227 rfl (by decide) (by decide) ?_
          show mm_Z l G Y_Mo_sweep (mo_K a0 ad Mb K) _ 0 0 230 [some (.inr (some a0)), some (.inl y1), some (.inl y2), some (.inl y3), some (.inl y4), some (.inl (y5 + 1))] [] M
          refine mr_goto 180 dd_Mo_sweep_230 (by decide) ?_
          exact h _ M hS
set_option maxHeartbeats 4000000 in
set_option maxRecDepth 100000 in
theorem mg_reach {l : Launch} {G : mm_G} {K : Option mm_V → mo_A → Prop} {a0 : Nat} {ad : Nat → Nat} {Mb : mm_M} {A : mo_A} {xa : Int32}
    (h : mo_Z l G Y_Mo_reach K a0 ad Mb 2 [some (.inr (some a0)), some (.inl xa), some (.inl 0), none, none, none] [] A) :
    mo_Ok l G yy_Mo_reach Y_Mo_reach [.inr (some a0), .inl xa] a0 ad Mb A K := by
  intro M hS
  refine mm_go (by decide) rfl (fun q => by cases q) (Nat.le_of_ble_eq_true rfl) ?_
  show mm_Z l G Y_Mo_reach (mo_K a0 ad Mb K) _ 0 0 0 [some (.inr (some a0)), some (.inl xa), none, none, none, none] [] M
  refine mr_iconst 0 dd_Mo_reach_0 (by decide) ?_
  refine mr_istore_n dd_Mo_reach_1 (by decide) ?_
  show mm_Z l G Y_Mo_reach (mo_K a0 ad Mb K) _ 0 0 2 [some (.inr (some a0)), some (.inl xa), some (.inl 0), none, none, none] [] M
  exact h _ M hS
set_option maxHeartbeats 4000000 in
set_option maxRecDepth 100000 in
theorem mg_reach_2 {l : Launch} {G : mm_G} {K : Option mm_V → mo_A → Prop} {a0 : Nat} {ad : Nat → Nat} {Mb : mm_M} {A : mo_A} {y1 : Int32} {y2 : Int32}
    (h : (60 ≤ y2 → mo_Z l G Y_Mo_reach K a0 ad Mb 50 [some (.inr (some a0)), some (.inl y1), some (.inl 1), some (.inl 0), none, none] [] A) ∧ (¬ 60 ≤ y2 → ∃ j1 : Nat, y2 = nI j1 ∧ j1 < 60 ∧ (¬ (A 6 j1) = (y1 + 1) → mo_Z l G Y_Mo_reach K a0 ad Mb 2 [some (.inr (some a0)), some (.inl y1), some (.inl (y2 + 1)), none, none, none] [] (mo_u A 24 j1 0)) ∧ ((A 6 j1) = (y1 + 1) → mo_Ok l G yy_Mo_root Y_Mo_root [.inr (some a0), .inl y1, .inl y2] a0 ad Mb A (fun r B => B = A ∧ ∃ x5 : Int32, r = some (.inl x5) ∧ (x5 = 0 → mo_Z l G Y_Mo_reach K a0 ad Mb 2 [some (.inr (some a0)), some (.inl y1), some (.inl (y2 + 1)), none, none, none] [] (mo_u A 24 j1 0)) ∧ (¬ x5 = 0 → mo_Z l G Y_Mo_reach K a0 ad Mb 2 [some (.inr (some a0)), some (.inl y1), some (.inl (y2 + 1)), none, none, none] [] (mo_u A 24 j1 1)))))) :
    mo_Z l G Y_Mo_reach K a0 ad Mb 2 [some (.inr (some a0)), some (.inl y1), some (.inl y2), none, none, none] [] A := by
  intro M0 M hS
  refine mr_iload_n dd_Mo_reach_2 rfl ?_
  refine mr_bipush 60 dd_Mo_reach_3 (by decide) ?_
  refine mr_icmp_ge 46 dd_Mo_reach_5 (by decide) (fun hc5 => ?_) (fun hc5 => ?_)
  · have h := h.1 hc5
    refine mr_iconst 1 dd_Mo_reach_46 (by decide) ?_
    refine mr_istore_n dd_Mo_reach_47 (by decide) ?_
    show mm_Z l G Y_Mo_reach (mo_K a0 ad Mb K) _ 0 0 48 [some (.inr (some a0)), some (.inl y1), some (.inl 1), none, none, none] [] M
    refine mr_iconst 0 dd_Mo_reach_48 (by decide) ?_
    refine mr_istore_n dd_Mo_reach_49 (by decide) ?_
    show mm_Z l G Y_Mo_reach (mo_K a0 ad Mb K) _ 0 0 50 [some (.inr (some a0)), some (.inl y1), some (.inl 1), some (.inl 0), none, none] [] M
    exact h _ M hS
  · have h := h.2 hc5
    refine mr_aload_n dd_Mo_reach_8 rfl ?_
    refine mr_getr ff_Mo_74 dd_Mo_reach_9 rs_8_24 rfl hS.1 ?_
    rw [mo_p hS 24 (by decide) rfl]
    refine mr_iload_n dd_Mo_reach_12 rfl ?_
    refine mr_aload_n dd_Mo_reach_13 rfl ?_
    refine mr_getr ff_Mo_26 dd_Mo_reach_14 rs_8_6 rfl hS.1 ?_
    rw [mo_p hS 6 (by decide) rfl]
    refine mr_iload_n dd_Mo_reach_17 rfl ?_
    obtain ⟨j1, hj2, hb3, h⟩ := h
    refine mr_iald dd_Mo_reach_18 rfl (mo_k hS 6 (by decide) rfl rfl) hj2 (Nat.lt_trans hb3 (by decide)) (mo_l hS 6 (by decide) rfl rfl hb3) ?_
    rw [mo_i hS 6 (by decide) rfl rfl hb3]
    refine mr_iload_n dd_Mo_reach_19 rfl ?_
    refine mr_iconst 1 dd_Mo_reach_20 (by decide) ?_
    refine mr_iadd dd_Mo_reach_21 ?_
    refine mr_icmp_ne 38 dd_Mo_reach_22 (by decide) (fun hc22 => ?_) (fun hc22 => ?_)
    · have h := h.1 hc22
      refine mr_iconst 0 dd_Mo_reach_38 (by decide) ?_
      refine mr_zast dd_Mo_reach_39 rfl (mo_k hS 24 (by decide) rfl rfl) hj2 (Nat.lt_trans hb3 (by decide)) (mo_l hS 24 (by decide) rfl rfl hb3) (Or.inl rfl) ?_
      have hS := mo_S.up hS 24 (by decide) rfl j1 0
      generalize mm_si M (ad 24) j1 0 = M at hS ⊢
      refine mr_iinc 1 dd_Mo_reach_40 rfl (by decide) (by decide) ?_
      show mm_Z l G Y_Mo_reach (mo_K a0 ad Mb K) _ 0 0 43 [some (.inr (some a0)), some (.inl y1), some (.inl (y2 + 1)), none, none, none] [] M
      refine mr_goto 2 dd_Mo_reach_43 (by decide) ?_
      exact h _ M hS
    · have h := h.2 hc22
      refine mr_aload_n dd_Mo_reach_25 rfl ?_
      refine mr_iload_n dd_Mo_reach_26 rfl ?_
      refine mr_iload_n dd_Mo_reach_27 rfl ?_
      refine mr_callV0 (Yc := Y_Mo_root) (M := M) (st := [.inl y2, .inr (some (ad 24))]) (vs := [.inl y1, .inl y2]) (ci := 8) fc_Mo_95 iv_Mo_root sv_Mo_root dd_Mo_reach_28 ⟨Nat.le_of_ble_eq_true rfl, Nat.le_of_ble_eq_true rfl⟩ (by decide) rfl rfl (Nat.le_of_ble_eq_true rfl) rfl hS.1 rfl rfl (h M hS) (fun r M _ h => ?_)
      obtain ⟨B, hS, hB, h⟩ := h
      rw [hB] at hS
      obtain ⟨x5, rfl, h⟩ := h
      show mm_Z l G Y_Mo_reach (mo_K a0 ad Mb K) _ 0 0 31 [some (.inr (some a0)), some (.inl y1), some (.inl y2), none, none, none] [.inl x5, .inl y2, .inr (some (ad 24))] M
      refine mr_if_eq 38 dd_Mo_reach_31 (by decide) (fun hc31 => ?_) (fun hc31 => ?_)
      · have h := h.1 hc31
        refine mr_iconst 0 dd_Mo_reach_38 (by decide) ?_
        refine mr_zast dd_Mo_reach_39 rfl (mo_k hS 24 (by decide) rfl rfl) hj2 (Nat.lt_trans hb3 (by decide)) (mo_l hS 24 (by decide) rfl rfl hb3) (Or.inl rfl) ?_
        have hS := mo_S.up hS 24 (by decide) rfl j1 0
        generalize mm_si M (ad 24) j1 0 = M at hS ⊢
        refine mr_iinc 1 dd_Mo_reach_40 rfl (by decide) (by decide) ?_
        show mm_Z l G Y_Mo_reach (mo_K a0 ad Mb K) _ 0 0 43 [some (.inr (some a0)), some (.inl y1), some (.inl (y2 + 1)), none, none, none] [] M
        refine mr_goto 2 dd_Mo_reach_43 (by decide) ?_
        exact h _ M hS
      · have h := h.2 hc31
        refine mr_iconst 1 dd_Mo_reach_34 (by decide) ?_
        refine mr_goto 39 dd_Mo_reach_35 (by decide) ?_
        refine mr_zast dd_Mo_reach_39 rfl (mo_k hS 24 (by decide) rfl rfl) hj2 (Nat.lt_trans hb3 (by decide)) (mo_l hS 24 (by decide) rfl rfl hb3) (Or.inr rfl) ?_
        have hS := mo_S.up hS 24 (by decide) rfl j1 1
        generalize mm_si M (ad 24) j1 1 = M at hS ⊢
        refine mr_iinc 1 dd_Mo_reach_40 rfl (by decide) (by decide) ?_
        show mm_Z l G Y_Mo_reach (mo_K a0 ad Mb K) _ 0 0 43 [some (.inr (some a0)), some (.inl y1), some (.inl (y2 + 1)), none, none, none] [] M
        refine mr_goto 2 dd_Mo_reach_43 (by decide) ?_
        exact h _ M hS
set_option maxHeartbeats 4000000 in
set_option maxRecDepth 100000 in
theorem mg_reach_50 {l : Launch} {G : mm_G} {K : Option mm_V → mo_A → Prop} {a0 : Nat} {ad : Nat → Nat} {Mb : mm_M} {A : mo_A} {y1 : Int32} {y2 : Int32} {y3 : Int32}
    (h : (61 ≤ y3 → K none A) ∧ (¬ 61 ≤ y3 → (y2 = 0 → K none A) ∧ (¬ y2 = 0 → mo_Z l G Y_Mo_reach K a0 ad Mb 65 [some (.inr (some a0)), some (.inl y1), some (.inl 0), some (.inl y3), some (.inl 0), none] [] A))) :
    mo_Z l G Y_Mo_reach K a0 ad Mb 50 [some (.inr (some a0)), some (.inl y1), some (.inl y2), some (.inl y3), none, none] [] A := by
  intro M0 M hS
  refine mr_iload_n dd_Mo_reach_50 rfl ?_
  refine mr_bipush 61 dd_Mo_reach_51 (by decide) ?_
  refine mr_icmp_ge 146 dd_Mo_reach_53 (by decide) (fun hc53 => ?_) (fun hc53 => ?_)
  · have h := h.1 hc53
    exact mr_return dd_Mo_reach_146 rfl ⟨_, hS, h⟩
  · have h := h.2 hc53
    refine mr_iload_n dd_Mo_reach_56 rfl ?_
    refine mr_if_eq 146 dd_Mo_reach_57 (by decide) (fun hc57 => ?_) (fun hc57 => ?_)
    · have h := h.1 hc57
      exact mr_return dd_Mo_reach_146 rfl ⟨_, hS, h⟩
    · have h := h.2 hc57
      refine mr_iconst 0 dd_Mo_reach_60 (by decide) ?_
      refine mr_istore_n dd_Mo_reach_61 (by decide) ?_
      show mm_Z l G Y_Mo_reach (mo_K a0 ad Mb K) _ 0 0 62 [some (.inr (some a0)), some (.inl y1), some (.inl 0), some (.inl y3), none, none] [] M
      refine mr_iconst 0 dd_Mo_reach_62 (by decide) ?_
      refine mr_istore dd_Mo_reach_63 (by decide) ?_
      show mm_Z l G Y_Mo_reach (mo_K a0 ad Mb K) _ 0 0 65 [some (.inr (some a0)), some (.inl y1), some (.inl 0), some (.inl y3), some (.inl 0), none] [] M
      exact h _ M hS
set_option maxHeartbeats 4000000 in
set_option maxRecDepth 100000 in
theorem mg_reach_65 {l : Launch} {G : mm_G} {K : Option mm_V → mo_A → Prop} {a0 : Nat} {ad : Nat → Nat} {Mb : mm_M} {A : mo_A} {y1 : Int32} {y2 : Int32} {y3 : Int32} {y4 : Int32}
    (h : (180 ≤ y4 → mo_Z l G Y_Mo_reach K a0 ad Mb 50 [some (.inr (some a0)), some (.inl y1), some (.inl y2), some (.inl (y3 + 1)), none, none] [] A) ∧ (¬ 180 ≤ y4 → ∃ j1 : Nat, y4 = nI j1 ∧ j1 < 180 ∧ ∃ j4 : Nat, (y4 / 3) = nI j4 ∧ j4 < 60 ∧ ((A 24 j4) = 0 → mo_Z l G Y_Mo_reach K a0 ad Mb 65 [some (.inr (some a0)), some (.inl y1), some (.inl y2), some (.inl y3), some (.inl (y4 + 1)), none] [] A) ∧ (¬ (A 24 j4) = 0 → (((A 10 j1) - 1) < 0 → mo_Z l G Y_Mo_reach K a0 ad Mb 65 [some (.inr (some a0)), some (.inl y1), some (.inl y2), some (.inl y3), some (.inl (y4 + 1)), none] [] A) ∧ (¬ ((A 10 j1) - 1) < 0 → ∃ j7 : Nat, ((A 10 j1) - 1) = nI j7 ∧ j7 < 60 ∧ (¬ (A 6 j7) = (y1 + 1) → mo_Z l G Y_Mo_reach K a0 ad Mb 65 [some (.inr (some a0)), some (.inl y1), some (.inl y2), some (.inl y3), some (.inl (y4 + 1)), none] [] A) ∧ ((A 6 j7) = (y1 + 1) → (¬ (A 24 j7) = 0 → mo_Z l G Y_Mo_reach K a0 ad Mb 65 [some (.inr (some a0)), some (.inl y1), some (.inl y2), some (.inl y3), some (.inl (y4 + 1)), none] [] A) ∧ ((A 24 j7) = 0 → mo_Z l G Y_Mo_reach K a0 ad Mb 65 [some (.inr (some a0)), some (.inl y1), some (.inl 1), some (.inl y3), some (.inl (y4 + 1)), none] [] (mo_u A 24 j7 1))))))) :
    mo_Z l G Y_Mo_reach K a0 ad Mb 65 [some (.inr (some a0)), some (.inl y1), some (.inl y2), some (.inl y3), some (.inl y4), none] [] A := by
  intro M0 M hS
  refine mr_iload dd_Mo_reach_65 rfl ?_
  refine mr_sipush 180 dd_Mo_reach_67 (by decide) ?_
  refine mr_icmp_ge 140 dd_Mo_reach_70 (by decide) (fun hc70 => ?_) (fun hc70 => ?_)
  · have h := h.1 hc70
    refine mr_iinc 1 dd_Mo_reach_140 rfl (by decide) (by decide) ?_
    show mm_Z l G Y_Mo_reach (mo_K a0 ad Mb K) _ 0 0 143 [some (.inr (some a0)), some (.inl y1), some (.inl y2), some (.inl (y3 + 1)), some (.inl y4), none] [] M
    refine mr_goto 50 dd_Mo_reach_143 (by decide) ?_
    exact mm_fg (mm_leq (mm_le_s (mm_le_s (mm_le_s (mm_le_s (mm_le_n (mm_le_n mm_le_e))))))) (h _ M hS)
  · have h := h.2 hc70
    refine mr_aload_n dd_Mo_reach_73 rfl ?_
    refine mr_getr ff_Mo_38 dd_Mo_reach_74 rs_8_10 rfl hS.1 ?_
    rw [mo_p hS 10 (by decide) rfl]
    refine mr_iload dd_Mo_reach_77 rfl ?_
    obtain ⟨j1, hj2, hb3, h⟩ := h
    refine mr_iald dd_Mo_reach_79 rfl (mo_k hS 10 (by decide) rfl rfl) hj2 (Nat.lt_trans hb3 (by decide)) (mo_l hS 10 (by decide) rfl rfl hb3) ?_
    rw [mo_i hS 10 (by decide) rfl rfl hb3]
    refine mr_iconst 1 dd_Mo_reach_80 (by decide) ?_
    refine mr_isub dd_Mo_reach_81 ?_
    refine mr_istore dd_Mo_reach_82 (by decide) ?_
    show mm_Z l G Y_Mo_reach (mo_K a0 ad Mb K) _ 0 0 84 [some (.inr (some a0)), some (.inl y1), some (.inl y2), some (.inl y3), some (.inl y4), some (.inl ((A 10 j1) - 1))] [] M
    refine mr_aload_n dd_Mo_reach_84 rfl ?_
    refine mr_getr ff_Mo_74 dd_Mo_reach_85 rs_8_24 rfl hS.1 ?_
    rw [mo_p hS 24 (by decide) rfl]
    refine mr_iload dd_Mo_reach_88 rfl ?_
    refine mr_iconst 3 dd_Mo_reach_90 (by decide) ?_
    refine mr_idiv dd_Mo_reach_91 (by decide) ?_
    obtain ⟨j4, hj5, hb6, h⟩ := h
    refine mr_zald dd_Mo_reach_92 rfl (mo_k hS 24 (by decide) rfl rfl) hj5 (Nat.lt_trans hb6 (by decide)) (mo_l hS 24 (by decide) rfl rfl hb6) ?_
    rw [mo_i hS 24 (by decide) rfl rfl hb6]
    refine mr_if_eq 134 dd_Mo_reach_93 (by decide) (fun hc93 => ?_) (fun hc93 => ?_)
    · have h := h.1 hc93
      refine mr_iinc 1 dd_Mo_reach_134 rfl (by decide) (by decide) ?_
      show mm_Z l G Y_Mo_reach (mo_K a0 ad Mb K) _ 0 0 137 [some (.inr (some a0)), some (.inl y1), some (.inl y2), some (.inl y3), some (.inl (y4 + 1)), some (.inl ((A 10 j1) - 1))] [] M
      refine mr_goto 65 dd_Mo_reach_137 (by decide) ?_
      exact mm_fg (mm_leq (mm_le_s (mm_le_s (mm_le_s (mm_le_s (mm_le_s (mm_le_n mm_le_e))))))) (h _ M hS)
    · have h := h.2 hc93
      refine mr_iload dd_Mo_reach_96 rfl ?_
      refine mr_if_lt 134 dd_Mo_reach_98 (by decide) (fun hc98 => ?_) (fun hc98 => ?_)
      · have h := h.1 hc98
        refine mr_iinc 1 dd_Mo_reach_134 rfl (by decide) (by decide) ?_
        show mm_Z l G Y_Mo_reach (mo_K a0 ad Mb K) _ 0 0 137 [some (.inr (some a0)), some (.inl y1), some (.inl y2), some (.inl y3), some (.inl (y4 + 1)), some (.inl ((A 10 j1) - 1))] [] M
        refine mr_goto 65 dd_Mo_reach_137 (by decide) ?_
        exact mm_fg (mm_leq (mm_le_s (mm_le_s (mm_le_s (mm_le_s (mm_le_s (mm_le_n mm_le_e))))))) (h _ M hS)
      · have h := h.2 hc98
        refine mr_aload_n dd_Mo_reach_101 rfl ?_
        refine mr_getr ff_Mo_26 dd_Mo_reach_102 rs_8_6 rfl hS.1 ?_
        rw [mo_p hS 6 (by decide) rfl]
        refine mr_iload dd_Mo_reach_105 rfl ?_
        obtain ⟨j7, hj8, hb9, h⟩ := h
        refine mr_iald dd_Mo_reach_107 rfl (mo_k hS 6 (by decide) rfl rfl) hj8 (Nat.lt_trans hb9 (by decide)) (mo_l hS 6 (by decide) rfl rfl hb9) ?_
        rw [mo_i hS 6 (by decide) rfl rfl hb9]
        refine mr_iload_n dd_Mo_reach_108 rfl ?_
        refine mr_iconst 1 dd_Mo_reach_109 (by decide) ?_
        refine mr_iadd dd_Mo_reach_110 ?_
        refine mr_icmp_ne 134 dd_Mo_reach_111 (by decide) (fun hc111 => ?_) (fun hc111 => ?_)
        · have h := h.1 hc111
          refine mr_iinc 1 dd_Mo_reach_134 rfl (by decide) (by decide) ?_
          show mm_Z l G Y_Mo_reach (mo_K a0 ad Mb K) _ 0 0 137 [some (.inr (some a0)), some (.inl y1), some (.inl y2), some (.inl y3), some (.inl (y4 + 1)), some (.inl ((A 10 j1) - 1))] [] M
          refine mr_goto 65 dd_Mo_reach_137 (by decide) ?_
          exact mm_fg (mm_leq (mm_le_s (mm_le_s (mm_le_s (mm_le_s (mm_le_s (mm_le_n mm_le_e))))))) (h _ M hS)
        · have h := h.2 hc111
          refine mr_aload_n dd_Mo_reach_114 rfl ?_
          refine mr_getr ff_Mo_74 dd_Mo_reach_115 rs_8_24 rfl hS.1 ?_
          rw [mo_p hS 24 (by decide) rfl]
          refine mr_iload dd_Mo_reach_118 rfl ?_
          refine mr_zald dd_Mo_reach_120 rfl (mo_k hS 24 (by decide) rfl rfl) hj8 (Nat.lt_trans hb9 (by decide)) (mo_l hS 24 (by decide) rfl rfl hb9) ?_
          rw [mo_i hS 24 (by decide) rfl rfl hb9]
          refine mr_if_ne 134 dd_Mo_reach_121 (by decide) (fun hc121 => ?_) (fun hc121 => ?_)
          · have h := h.1 hc121
            refine mr_iinc 1 dd_Mo_reach_134 rfl (by decide) (by decide) ?_
            show mm_Z l G Y_Mo_reach (mo_K a0 ad Mb K) _ 0 0 137 [some (.inr (some a0)), some (.inl y1), some (.inl y2), some (.inl y3), some (.inl (y4 + 1)), some (.inl ((A 10 j1) - 1))] [] M
            refine mr_goto 65 dd_Mo_reach_137 (by decide) ?_
            exact mm_fg (mm_leq (mm_le_s (mm_le_s (mm_le_s (mm_le_s (mm_le_s (mm_le_n mm_le_e))))))) (h _ M hS)
          · have h := h.2 hc121
            refine mr_aload_n dd_Mo_reach_124 rfl ?_
            refine mr_getr ff_Mo_74 dd_Mo_reach_125 rs_8_24 rfl hS.1 ?_
            rw [mo_p hS 24 (by decide) rfl]
            refine mr_iload dd_Mo_reach_128 rfl ?_
            refine mr_iconst 1 dd_Mo_reach_130 (by decide) ?_
            refine mr_zast dd_Mo_reach_131 rfl (mo_k hS 24 (by decide) rfl rfl) hj8 (Nat.lt_trans hb9 (by decide)) (mo_l hS 24 (by decide) rfl rfl hb9) (Or.inr rfl) ?_
            have hS := mo_S.up hS 24 (by decide) rfl j7 1
            generalize mm_si M (ad 24) j7 1 = M at hS ⊢
            refine mr_iconst 1 dd_Mo_reach_132 (by decide) ?_
            refine mr_istore_n dd_Mo_reach_133 (by decide) ?_
            show mm_Z l G Y_Mo_reach (mo_K a0 ad Mb K) _ 0 0 134 [some (.inr (some a0)), some (.inl y1), some (.inl 1), some (.inl y3), some (.inl y4), some (.inl ((A 10 j1) - 1))] [] M
            refine mr_iinc 1 dd_Mo_reach_134 rfl (by decide) (by decide) ?_
            show mm_Z l G Y_Mo_reach (mo_K a0 ad Mb K) _ 0 0 137 [some (.inr (some a0)), some (.inl y1), some (.inl 1), some (.inl y3), some (.inl (y4 + 1)), some (.inl ((A 10 j1) - 1))] [] M
            refine mr_goto 65 dd_Mo_reach_137 (by decide) ?_
            exact mm_fg (mm_leq (mm_le_s (mm_le_s (mm_le_s (mm_le_s (mm_le_s (mm_le_n mm_le_e))))))) (h _ M hS)
set_option maxHeartbeats 4000000 in
set_option maxRecDepth 100000 in
theorem mg_root {l : Launch} {G : mm_G} {K : Option mm_V → mo_A → Prop} {a0 : Nat} {ad : Nat → Nat} {Mb : mm_M} {A : mo_A} {xa : Int32} {xb : Int32}
    (h : mo_Z l G Y_Mo_root K a0 ad Mb 5 [some (.inr (some a0)), some (.inl xa), some (.inl xb), some (.inl 0), some (.inl 0)] [] A) :
    mo_Ok l G yy_Mo_root Y_Mo_root [.inr (some a0), .inl xa, .inl xb] a0 ad Mb A K := by
  intro M hS
  refine mm_go (by decide) rfl (fun q => by cases q) (Nat.le_of_ble_eq_true rfl) ?_
  show mm_Z l G Y_Mo_root (mo_K a0 ad Mb K) _ 0 0 0 [some (.inr (some a0)), some (.inl xa), some (.inl xb), none, none] [] M
  refine mr_iconst 0 dd_Mo_root_0 (by decide) ?_
  refine mr_istore_n dd_Mo_root_1 (by decide) ?_
  show mm_Z l G Y_Mo_root (mo_K a0 ad Mb K) _ 0 0 2 [some (.inr (some a0)), some (.inl xa), some (.inl xb), some (.inl 0), none] [] M
  refine mr_iconst 0 dd_Mo_root_2 (by decide) ?_
  refine mr_istore dd_Mo_root_3 (by decide) ?_
  show mm_Z l G Y_Mo_root (mo_K a0 ad Mb K) _ 0 0 5 [some (.inr (some a0)), some (.inl xa), some (.inl xb), some (.inl 0), some (.inl 0)] [] M
  exact h _ M hS
set_option maxHeartbeats 4000000 in
set_option maxRecDepth 100000 in
theorem mg_root_5 {l : Launch} {G : mm_G} {K : Option mm_V → mo_A → Prop} {a0 : Nat} {ad : Nat → Nat} {Mb : mm_M} {A : mo_A} {y1 : Int32} {y2 : Int32} {y3 : Int32} {y4 : Int32}
    (h : (32 ≤ y4 → mo_Z l G Y_Mo_root K a0 ad Mb 55 [some (.inr (some a0)), some (.inl y1), some (.inl y2), some (.inl y3), some (.inl 0)] [] A) ∧ (¬ 32 ≤ y4 → (¬ y3 = 0 → mo_Z l G Y_Mo_root K a0 ad Mb 5 [some (.inr (some a0)), some (.inl y1), some (.inl y2), some (.inl 1), some (.inl (y4 + 1))] [] A) ∧ (y3 = 0 → mo_Ok l G yy_Mo_lives Y_Mo_lives [.inr (some a0), .inl (y4 / 4)] a0 ad Mb A (fun r B => B = A ∧ ∃ x2 : Int32, r = some (.inl x2) ∧ (x2 = 0 → mo_Z l G Y_Mo_root K a0 ad Mb 5 [some (.inr (some a0)), some (.inl y1), some (.inl y2), some (.inl 0), some (.inl (y4 + 1))] [] A) ∧ (¬ x2 = 0 → ∃ j3 : Nat, y4 = nI j3 ∧ j3 < 32 ∧ (¬ (A 5 j3) = (y2 + 1) → mo_Z l G Y_Mo_root K a0 ad Mb 5 [some (.inr (some a0)), some (.inl y1), some (.inl y2), some (.inl 0), some (.inl (y4 + 1))] [] A) ∧ ((A 5 j3) = (y2 + 1) → mo_Z l G Y_Mo_root K a0 ad Mb 5 [some (.inr (some a0)), some (.inl y1), some (.inl y2), some (.inl 1), some (.inl (y4 + 1))] [] A)))))) :
    mo_Z l G Y_Mo_root K a0 ad Mb 5 [some (.inr (some a0)), some (.inl y1), some (.inl y2), some (.inl y3), some (.inl y4)] [] A := by
  intro M0 M hS
  refine mr_iload dd_Mo_root_5 rfl ?_
  refine mr_bipush 32 dd_Mo_root_7 (by decide) ?_
  refine mr_icmp_ge 52 dd_Mo_root_9 (by decide) (fun hc9 => ?_) (fun hc9 => ?_)
  · have h := h.1 hc9
    refine mr_iconst 0 dd_Mo_root_52 (by decide) ?_
    refine mr_istore dd_Mo_root_53 (by decide) ?_
    show mm_Z l G Y_Mo_root (mo_K a0 ad Mb K) _ 0 0 55 [some (.inr (some a0)), some (.inl y1), some (.inl y2), some (.inl y3), some (.inl 0)] [] M
    exact h _ M hS
  · have h := h.2 hc9
    refine mr_iload_n dd_Mo_root_12 rfl ?_
    refine mr_if_ne 40 dd_Mo_root_13 (by decide) (fun hc13 => ?_) (fun hc13 => ?_)
    · have h := h.1 hc13
      refine mr_iconst 1 dd_Mo_root_40 (by decide) ?_
      refine mr_goto 45 dd_Mo_root_41 (by decide) ?_
      refine mr_istore_n dd_Mo_root_45 (by decide) ?_
      show mm_Z l G Y_Mo_root (mo_K a0 ad Mb K) _ 0 0 46 [some (.inr (some a0)), some (.inl y1), some (.inl y2), some (.inl 1), some (.inl y4)] [] M
      refine mr_iinc 1 dd_Mo_root_46 rfl (by decide) (by decide) ?_
      show mm_Z l G Y_Mo_root (mo_K a0 ad Mb K) _ 0 0 49 [some (.inr (some a0)), some (.inl y1), some (.inl y2), some (.inl 1), some (.inl (y4 + 1))] [] M
      refine mr_goto 5 dd_Mo_root_49 (by decide) ?_
      exact h _ M hS
    · have h := h.2 hc13
      refine mr_aload_n dd_Mo_root_16 rfl ?_
      refine mr_iload dd_Mo_root_17 rfl ?_
      refine mr_iconst 4 dd_Mo_root_19 (by decide) ?_
      refine mr_idiv dd_Mo_root_20 (by decide) ?_
      refine mr_callV0 (Yc := Y_Mo_lives) (M := M) (st := []) (vs := [.inl (y4 / 4)]) (ci := 8) fc_Mo_89 iv_Mo_lives sv_Mo_lives dd_Mo_root_21 ⟨Nat.le_of_ble_eq_true rfl, Nat.le_of_ble_eq_true rfl⟩ (by decide) rfl rfl (Nat.le_of_ble_eq_true rfl) rfl hS.1 rfl rfl (h M hS) (fun r M _ h => ?_)
      obtain ⟨B, hS, hB, h⟩ := h
      rw [hB] at hS
      obtain ⟨x2, rfl, h⟩ := h
      show mm_Z l G Y_Mo_root (mo_K a0 ad Mb K) _ 0 0 24 [some (.inr (some a0)), some (.inl y1), some (.inl y2), some (.inl y3), some (.inl y4)] [.inl x2] M
      refine mr_if_eq 44 dd_Mo_root_24 (by decide) (fun hc24 => ?_) (fun hc24 => ?_)
      · have h := h.1 hc24
        refine mr_iconst 0 dd_Mo_root_44 (by decide) ?_
        refine mr_istore_n dd_Mo_root_45 (by decide) ?_
        show mm_Z l G Y_Mo_root (mo_K a0 ad Mb K) _ 0 0 46 [some (.inr (some a0)), some (.inl y1), some (.inl y2), some (.inl 0), some (.inl y4)] [] M
        refine mr_iinc 1 dd_Mo_root_46 rfl (by decide) (by decide) ?_
        show mm_Z l G Y_Mo_root (mo_K a0 ad Mb K) _ 0 0 49 [some (.inr (some a0)), some (.inl y1), some (.inl y2), some (.inl 0), some (.inl (y4 + 1))] [] M
        refine mr_goto 5 dd_Mo_root_49 (by decide) ?_
        exact h _ M hS
      · have h := h.2 hc24
        refine mr_aload_n dd_Mo_root_27 rfl ?_
        refine mr_getr ff_Mo_23 dd_Mo_root_28 rs_8_5 rfl hS.1 ?_
        rw [mo_p hS 5 (by decide) rfl]
        refine mr_iload dd_Mo_root_31 rfl ?_
        obtain ⟨j3, hj4, hb5, h⟩ := h
        refine mr_iald dd_Mo_root_33 rfl (mo_k hS 5 (by decide) rfl rfl) hj4 (Nat.lt_trans hb5 (by decide)) (mo_l hS 5 (by decide) rfl rfl hb5) ?_
        rw [mo_i hS 5 (by decide) rfl rfl hb5]
        refine mr_iload_n dd_Mo_root_34 rfl ?_
        refine mr_iconst 1 dd_Mo_root_35 (by decide) ?_
        refine mr_iadd dd_Mo_root_36 ?_
        refine mr_icmp_ne 44 dd_Mo_root_37 (by decide) (fun hc37 => ?_) (fun hc37 => ?_)
        · have h := h.1 hc37
          refine mr_iconst 0 dd_Mo_root_44 (by decide) ?_
          refine mr_istore_n dd_Mo_root_45 (by decide) ?_
          show mm_Z l G Y_Mo_root (mo_K a0 ad Mb K) _ 0 0 46 [some (.inr (some a0)), some (.inl y1), some (.inl y2), some (.inl 0), some (.inl y4)] [] M
          refine mr_iinc 1 dd_Mo_root_46 rfl (by decide) (by decide) ?_
          show mm_Z l G Y_Mo_root (mo_K a0 ad Mb K) _ 0 0 49 [some (.inr (some a0)), some (.inl y1), some (.inl y2), some (.inl 0), some (.inl (y4 + 1))] [] M
          refine mr_goto 5 dd_Mo_root_49 (by decide) ?_
          exact h _ M hS
        · have h := h.2 hc37
          refine mr_iconst 1 dd_Mo_root_40 (by decide) ?_
          refine mr_goto 45 dd_Mo_root_41 (by decide) ?_
          refine mr_istore_n dd_Mo_root_45 (by decide) ?_
          show mm_Z l G Y_Mo_root (mo_K a0 ad Mb K) _ 0 0 46 [some (.inr (some a0)), some (.inl y1), some (.inl y2), some (.inl 1), some (.inl y4)] [] M
          refine mr_iinc 1 dd_Mo_root_46 rfl (by decide) (by decide) ?_
          show mm_Z l G Y_Mo_root (mo_K a0 ad Mb K) _ 0 0 49 [some (.inr (some a0)), some (.inl y1), some (.inl y2), some (.inl 1), some (.inl (y4 + 1))] [] M
          refine mr_goto 5 dd_Mo_root_49 (by decide) ?_
          exact h _ M hS
set_option maxHeartbeats 4000000 in
set_option maxRecDepth 100000 in
theorem mg_root_55 {l : Launch} {G : mm_G} {K : Option mm_V → mo_A → Prop} {a0 : Nat} {ad : Nat → Nat} {Mb : mm_M} {A : mo_A} {y1 : Int32} {y2 : Int32} {y3 : Int32} {y4 : Int32}
    (h : (13 ≤ y4 → (y3 = 0 ∨ y3 = 1) ∧ K (some (.inl y3)) A) ∧ (¬ 13 ≤ y4 → (¬ y3 = 0 → mo_Z l G Y_Mo_root K a0 ad Mb 55 [some (.inr (some a0)), some (.inl y1), some (.inl y2), some (.inl 1), some (.inl (y4 + 1))] [] A) ∧ (y3 = 0 → (y4 = y1 → mo_Z l G Y_Mo_root K a0 ad Mb 55 [some (.inr (some a0)), some (.inl y1), some (.inl y2), some (.inl 0), some (.inl (y4 + 1))] [] A) ∧ (¬ y4 = y1 → ∃ j1 : Nat, ((60 * y4) + y2) = nI j1 ∧ j1 < 780 ∧ ((A 21 j1) = 0 → mo_Z l G Y_Mo_root K a0 ad Mb 55 [some (.inr (some a0)), some (.inl y1), some (.inl y2), some (.inl 0), some (.inl (y4 + 1))] [] A) ∧ (¬ (A 21 j1) = 0 → mo_Z l G Y_Mo_root K a0 ad Mb 55 [some (.inr (some a0)), some (.inl y1), some (.inl y2), some (.inl 1), some (.inl (y4 + 1))] [] A))))) :
    mo_Z l G Y_Mo_root K a0 ad Mb 55 [some (.inr (some a0)), some (.inl y1), some (.inl y2), some (.inl y3), some (.inl y4)] [] A := by
  intro M0 M hS
  refine mr_iload dd_Mo_root_55 rfl ?_
  refine mr_bipush 13 dd_Mo_root_57 (by decide) ?_
  refine mr_icmp_ge 99 dd_Mo_root_59 (by decide) (fun hc59 => ?_) (fun hc59 => ?_)
  · have h := h.1 hc59
    refine mr_iload_n dd_Mo_root_99 rfl ?_
    exact mr_zreturn dd_Mo_root_100 rfl h.1 ⟨_, hS, h.2⟩
  · have h := h.2 hc59
    refine mr_iload_n dd_Mo_root_62 rfl ?_
    refine mr_if_ne 87 dd_Mo_root_63 (by decide) (fun hc63 => ?_) (fun hc63 => ?_)
    · have h := h.1 hc63
      refine mr_iconst 1 dd_Mo_root_87 (by decide) ?_
      refine mr_goto 92 dd_Mo_root_88 (by decide) ?_
      refine mr_istore_n dd_Mo_root_92 (by decide) ?_
      show mm_Z l G Y_Mo_root (mo_K a0 ad Mb K) _ 0 0 93 [some (.inr (some a0)), some (.inl y1), some (.inl y2), some (.inl 1), some (.inl y4)] [] M
      refine mr_iinc 1 dd_Mo_root_93 rfl (by decide) (by decide) ?_
      show mm_Z l G Y_Mo_root (mo_K a0 ad Mb K) _ 0 0 96 [some (.inr (some a0)), some (.inl y1), some (.inl y2), some (.inl 1), some (.inl (y4 + 1))] [] M
      refine mr_goto 55 dd_Mo_root_96 (by decide) ?_
      exact h _ M hS
    · have h := h.2 hc63
      refine mr_iload dd_Mo_root_66 rfl ?_
      refine mr_iload_n dd_Mo_root_68 rfl ?_
      refine mr_icmp_eq 91 dd_Mo_root_69 (by decide) (fun hc69 => ?_) (fun hc69 => ?_)
      · have h := h.1 hc69
        refine mr_iconst 0 dd_Mo_root_91 (by decide) ?_
        refine mr_istore_n dd_Mo_root_92 (by decide) ?_
        show mm_Z l G Y_Mo_root (mo_K a0 ad Mb K) _ 0 0 93 [some (.inr (some a0)), some (.inl y1), some (.inl y2), some (.inl 0), some (.inl y4)] [] M
        refine mr_iinc 1 dd_Mo_root_93 rfl (by decide) (by decide) ?_
        show mm_Z l G Y_Mo_root (mo_K a0 ad Mb K) _ 0 0 96 [some (.inr (some a0)), some (.inl y1), some (.inl y2), some (.inl 0), some (.inl (y4 + 1))] [] M
        refine mr_goto 55 dd_Mo_root_96 (by decide) ?_
        exact h _ M hS
      · have h := h.2 hc69
        refine mr_aload_n dd_Mo_root_72 rfl ?_
        refine mr_getr ff_Mo_65 dd_Mo_root_73 rs_8_21 rfl hS.1 ?_
        rw [mo_p hS 21 (by decide) rfl]
        refine mr_bipush 60 dd_Mo_root_76 (by decide) ?_
        refine mr_iload dd_Mo_root_78 rfl ?_
        refine mr_imul dd_Mo_root_80 ?_
        refine mr_iload_n dd_Mo_root_81 rfl ?_
        refine mr_iadd dd_Mo_root_82 ?_
        obtain ⟨j1, hj2, hb3, h⟩ := h
        refine mr_zald dd_Mo_root_83 rfl (mo_k hS 21 (by decide) rfl rfl) hj2 (Nat.lt_trans hb3 (by decide)) (mo_l hS 21 (by decide) rfl rfl hb3) ?_
        rw [mo_i hS 21 (by decide) rfl rfl hb3]
        refine mr_if_eq 91 dd_Mo_root_84 (by decide) (fun hc84 => ?_) (fun hc84 => ?_)
        · have h := h.1 hc84
          refine mr_iconst 0 dd_Mo_root_91 (by decide) ?_
          refine mr_istore_n dd_Mo_root_92 (by decide) ?_
          show mm_Z l G Y_Mo_root (mo_K a0 ad Mb K) _ 0 0 93 [some (.inr (some a0)), some (.inl y1), some (.inl y2), some (.inl 0), some (.inl y4)] [] M
          refine mr_iinc 1 dd_Mo_root_93 rfl (by decide) (by decide) ?_
          show mm_Z l G Y_Mo_root (mo_K a0 ad Mb K) _ 0 0 96 [some (.inr (some a0)), some (.inl y1), some (.inl y2), some (.inl 0), some (.inl (y4 + 1))] [] M
          refine mr_goto 55 dd_Mo_root_96 (by decide) ?_
          exact h _ M hS
        · have h := h.2 hc84
          refine mr_iconst 1 dd_Mo_root_87 (by decide) ?_
          refine mr_goto 92 dd_Mo_root_88 (by decide) ?_
          refine mr_istore_n dd_Mo_root_92 (by decide) ?_
          show mm_Z l G Y_Mo_root (mo_K a0 ad Mb K) _ 0 0 93 [some (.inr (some a0)), some (.inl y1), some (.inl y2), some (.inl 1), some (.inl y4)] [] M
          refine mr_iinc 1 dd_Mo_root_93 rfl (by decide) (by decide) ?_
          show mm_Z l G Y_Mo_root (mo_K a0 ad Mb K) _ 0 0 96 [some (.inr (some a0)), some (.inl y1), some (.inl y2), some (.inl 1), some (.inl (y4 + 1))] [] M
          refine mr_goto 55 dd_Mo_root_96 (by decide) ?_
          exact h _ M hS
set_option maxHeartbeats 4000000 in
set_option maxRecDepth 100000 in
theorem mg_inField {l : Launch} {G : mm_G} {K : Option mm_V → mo_A → Prop} {a0 : Nat} {ad : Nat → Nat} {Mb : mm_M} {A : mo_A} {xa : Int32} {xb : Int32}
    (h : mo_Z l G Y_Mo_inField K a0 ad Mb 5 [some (.inr (some a0)), some (.inl xa), some (.inl xb), some (.inl 0), some (.inl 0)] [] A) :
    mo_Ok l G yy_Mo_inField Y_Mo_inField [.inr (some a0), .inl xa, .inl xb] a0 ad Mb A K := by
  intro M hS
  refine mm_go (by decide) rfl (fun q => by cases q) (Nat.le_of_ble_eq_true rfl) ?_
  show mm_Z l G Y_Mo_inField (mo_K a0 ad Mb K) _ 0 0 0 [some (.inr (some a0)), some (.inl xa), some (.inl xb), none, none] [] M
  refine mr_iconst 0 dd_Mo_inField_0 (by decide) ?_
  refine mr_istore_n dd_Mo_inField_1 (by decide) ?_
  show mm_Z l G Y_Mo_inField (mo_K a0 ad Mb K) _ 0 0 2 [some (.inr (some a0)), some (.inl xa), some (.inl xb), some (.inl 0), none] [] M
  refine mr_iconst 0 dd_Mo_inField_2 (by decide) ?_
  refine mr_istore dd_Mo_inField_3 (by decide) ?_
  show mm_Z l G Y_Mo_inField (mo_K a0 ad Mb K) _ 0 0 5 [some (.inr (some a0)), some (.inl xa), some (.inl xb), some (.inl 0), some (.inl 0)] [] M
  exact h _ M hS
set_option maxHeartbeats 4000000 in
set_option maxRecDepth 100000 in
theorem mg_inField_5 {l : Launch} {G : mm_G} {K : Option mm_V → mo_A → Prop} {a0 : Nat} {ad : Nat → Nat} {Mb : mm_M} {A : mo_A} {y1 : Int32} {y2 : Int32} {y3 : Int32} {y4 : Int32}
    (h : (180 ≤ y4 → (y3 = 0 ∨ y3 = 1) ∧ K (some (.inl y3)) A) ∧ (¬ 180 ≤ y4 → (¬ y3 = 0 → mo_Z l G Y_Mo_inField K a0 ad Mb 5 [some (.inr (some a0)), some (.inl y1), some (.inl y2), some (.inl 1), some (.inl (y4 + 1))] [] A) ∧ (y3 = 0 → ∃ j1 : Nat, (y4 / 3) = nI j1 ∧ j1 < 60 ∧ (¬ (A 6 j1) = (y1 + 1) → mo_Z l G Y_Mo_inField K a0 ad Mb 5 [some (.inr (some a0)), some (.inl y1), some (.inl y2), some (.inl 0), some (.inl (y4 + 1))] [] A) ∧ ((A 6 j1) = (y1 + 1) → ∃ j4 : Nat, y4 = nI j4 ∧ j4 < 180 ∧ (¬ (A 10 j4) = (y2 + 1) → mo_Z l G Y_Mo_inField K a0 ad Mb 5 [some (.inr (some a0)), some (.inl y1), some (.inl y2), some (.inl 0), some (.inl (y4 + 1))] [] A) ∧ ((A 10 j4) = (y2 + 1) → mo_Z l G Y_Mo_inField K a0 ad Mb 5 [some (.inr (some a0)), some (.inl y1), some (.inl y2), some (.inl 1), some (.inl (y4 + 1))] [] A))))) :
    mo_Z l G Y_Mo_inField K a0 ad Mb 5 [some (.inr (some a0)), some (.inl y1), some (.inl y2), some (.inl y3), some (.inl y4)] [] A := by
  intro M0 M hS
  refine mr_iload dd_Mo_inField_5 rfl ?_
  refine mr_sipush 180 dd_Mo_inField_7 (by decide) ?_
  refine mr_icmp_ge 57 dd_Mo_inField_10 (by decide) (fun hc10 => ?_) (fun hc10 => ?_)
  · have h := h.1 hc10
    refine mr_iload_n dd_Mo_inField_57 rfl ?_
    exact mr_zreturn dd_Mo_inField_58 rfl h.1 ⟨_, hS, h.2⟩
  · have h := h.2 hc10
    refine mr_iload_n dd_Mo_inField_13 rfl ?_
    refine mr_if_ne 45 dd_Mo_inField_14 (by decide) (fun hc14 => ?_) (fun hc14 => ?_)
    · have h := h.1 hc14
      refine mr_iconst 1 dd_Mo_inField_45 (by decide) ?_
      refine mr_goto 50 dd_Mo_inField_46 (by decide) ?_
      refine mr_istore_n dd_Mo_inField_50 (by decide) ?_
      show mm_Z l G Y_Mo_inField (mo_K a0 ad Mb K) _ 0 0 51 [some (.inr (some a0)), some (.inl y1), some (.inl y2), some (.inl 1), some (.inl y4)] [] M
      refine mr_iinc 1 dd_Mo_inField_51 rfl (by decide) (by decide) ?_
      show mm_Z l G Y_Mo_inField (mo_K a0 ad Mb K) _ 0 0 54 [some (.inr (some a0)), some (.inl y1), some (.inl y2), some (.inl 1), some (.inl (y4 + 1))] [] M
      refine mr_goto 5 dd_Mo_inField_54 (by decide) ?_
      exact h _ M hS
    · have h := h.2 hc14
      refine mr_aload_n dd_Mo_inField_17 rfl ?_
      refine mr_getr ff_Mo_26 dd_Mo_inField_18 rs_8_6 rfl hS.1 ?_
      rw [mo_p hS 6 (by decide) rfl]
      refine mr_iload dd_Mo_inField_21 rfl ?_
      refine mr_iconst 3 dd_Mo_inField_23 (by decide) ?_
      refine mr_idiv dd_Mo_inField_24 (by decide) ?_
      obtain ⟨j1, hj2, hb3, h⟩ := h
      refine mr_iald dd_Mo_inField_25 rfl (mo_k hS 6 (by decide) rfl rfl) hj2 (Nat.lt_trans hb3 (by decide)) (mo_l hS 6 (by decide) rfl rfl hb3) ?_
      rw [mo_i hS 6 (by decide) rfl rfl hb3]
      refine mr_iload_n dd_Mo_inField_26 rfl ?_
      refine mr_iconst 1 dd_Mo_inField_27 (by decide) ?_
      refine mr_iadd dd_Mo_inField_28 ?_
      refine mr_icmp_ne 49 dd_Mo_inField_29 (by decide) (fun hc29 => ?_) (fun hc29 => ?_)
      · have h := h.1 hc29
        refine mr_iconst 0 dd_Mo_inField_49 (by decide) ?_
        refine mr_istore_n dd_Mo_inField_50 (by decide) ?_
        show mm_Z l G Y_Mo_inField (mo_K a0 ad Mb K) _ 0 0 51 [some (.inr (some a0)), some (.inl y1), some (.inl y2), some (.inl 0), some (.inl y4)] [] M
        refine mr_iinc 1 dd_Mo_inField_51 rfl (by decide) (by decide) ?_
        show mm_Z l G Y_Mo_inField (mo_K a0 ad Mb K) _ 0 0 54 [some (.inr (some a0)), some (.inl y1), some (.inl y2), some (.inl 0), some (.inl (y4 + 1))] [] M
        refine mr_goto 5 dd_Mo_inField_54 (by decide) ?_
        exact h _ M hS
      · have h := h.2 hc29
        refine mr_aload_n dd_Mo_inField_32 rfl ?_
        refine mr_getr ff_Mo_38 dd_Mo_inField_33 rs_8_10 rfl hS.1 ?_
        rw [mo_p hS 10 (by decide) rfl]
        refine mr_iload dd_Mo_inField_36 rfl ?_
        obtain ⟨j4, hj5, hb6, h⟩ := h
        refine mr_iald dd_Mo_inField_38 rfl (mo_k hS 10 (by decide) rfl rfl) hj5 (Nat.lt_trans hb6 (by decide)) (mo_l hS 10 (by decide) rfl rfl hb6) ?_
        rw [mo_i hS 10 (by decide) rfl rfl hb6]
        refine mr_iload_n dd_Mo_inField_39 rfl ?_
        refine mr_iconst 1 dd_Mo_inField_40 (by decide) ?_
        refine mr_iadd dd_Mo_inField_41 ?_
        refine mr_icmp_ne 49 dd_Mo_inField_42 (by decide) (fun hc42 => ?_) (fun hc42 => ?_)
        · have h := h.1 hc42
          refine mr_iconst 0 dd_Mo_inField_49 (by decide) ?_
          refine mr_istore_n dd_Mo_inField_50 (by decide) ?_
          show mm_Z l G Y_Mo_inField (mo_K a0 ad Mb K) _ 0 0 51 [some (.inr (some a0)), some (.inl y1), some (.inl y2), some (.inl 0), some (.inl y4)] [] M
          refine mr_iinc 1 dd_Mo_inField_51 rfl (by decide) (by decide) ?_
          show mm_Z l G Y_Mo_inField (mo_K a0 ad Mb K) _ 0 0 54 [some (.inr (some a0)), some (.inl y1), some (.inl y2), some (.inl 0), some (.inl (y4 + 1))] [] M
          refine mr_goto 5 dd_Mo_inField_54 (by decide) ?_
          exact h _ M hS
        · have h := h.2 hc42
          refine mr_iconst 1 dd_Mo_inField_45 (by decide) ?_
          refine mr_goto 50 dd_Mo_inField_46 (by decide) ?_
          refine mr_istore_n dd_Mo_inField_50 (by decide) ?_
          show mm_Z l G Y_Mo_inField (mo_K a0 ad Mb K) _ 0 0 51 [some (.inr (some a0)), some (.inl y1), some (.inl y2), some (.inl 1), some (.inl y4)] [] M
          refine mr_iinc 1 dd_Mo_inField_51 rfl (by decide) (by decide) ?_
          show mm_Z l G Y_Mo_inField (mo_K a0 ad Mb K) _ 0 0 54 [some (.inr (some a0)), some (.inl y1), some (.inl y2), some (.inl 1), some (.inl (y4 + 1))] [] M
          refine mr_goto 5 dd_Mo_inField_54 (by decide) ?_
          exact h _ M hS
set_option maxHeartbeats 4000000 in
set_option maxRecDepth 100000 in
theorem mg_holds {l : Launch} {G : mm_G} {K : Option mm_V → mo_A → Prop} {a0 : Nat} {ad : Nat → Nat} {Mb : mm_M} {A : mo_A} {xa : Int32} {xb : Int32}
    (h : mo_Z l G Y_Mo_holds K a0 ad Mb 5 [some (.inr (some a0)), some (.inl xa), some (.inl xb), some (.inl 0), some (.inl 0), none] [] A) :
    mo_Ok l G yy_Mo_holds Y_Mo_holds [.inr (some a0), .inl xa, .inl xb] a0 ad Mb A K := by
  intro M hS
  refine mm_go (by decide) rfl (fun q => by cases q) (Nat.le_of_ble_eq_true rfl) ?_
  show mm_Z l G Y_Mo_holds (mo_K a0 ad Mb K) _ 0 0 0 [some (.inr (some a0)), some (.inl xa), some (.inl xb), none, none, none] [] M
  refine mr_iconst 0 dd_Mo_holds_0 (by decide) ?_
  refine mr_istore_n dd_Mo_holds_1 (by decide) ?_
  show mm_Z l G Y_Mo_holds (mo_K a0 ad Mb K) _ 0 0 2 [some (.inr (some a0)), some (.inl xa), some (.inl xb), some (.inl 0), none, none] [] M
  refine mr_iconst 0 dd_Mo_holds_2 (by decide) ?_
  refine mr_istore dd_Mo_holds_3 (by decide) ?_
  show mm_Z l G Y_Mo_holds (mo_K a0 ad Mb K) _ 0 0 5 [some (.inr (some a0)), some (.inl xa), some (.inl xb), some (.inl 0), some (.inl 0), none] [] M
  exact h _ M hS
set_option maxHeartbeats 4000000 in
set_option maxRecDepth 100000 in
theorem mg_holds_5 {l : Launch} {G : mm_G} {K : Option mm_V → mo_A → Prop} {a0 : Nat} {ad : Nat → Nat} {Mb : mm_M} {A : mo_A} {y1 : Int32} {y2 : Int32} {y3 : Int32} {y4 : Int32}
    (h : (4 ≤ y4 → (y3 = 0 ∨ y3 = 1) ∧ K (some (.inl y3)) A) ∧ (¬ 4 ≤ y4 → ∃ j1 : Nat, ((4 * y1) + y4) = nI j1 ∧ j1 < 32 ∧ (¬ y3 = 0 → mo_Z l G Y_Mo_holds K a0 ad Mb 5 [some (.inr (some a0)), some (.inl y1), some (.inl y2), some (.inl 1), some (.inl (y4 + 1)), none] [] A) ∧ (y3 = 0 → (((A 5 j1) - 1) < 0 → mo_Z l G Y_Mo_holds K a0 ad Mb 5 [some (.inr (some a0)), some (.inl y1), some (.inl y2), some (.inl 0), some (.inl (y4 + 1)), none] [] A) ∧ (¬ ((A 5 j1) - 1) < 0 → ∃ j4 : Nat, ((A 5 j1) - 1) = nI j4 ∧ j4 < 60 ∧ (¬ (A 6 j4) = (y2 + 1) → mo_Z l G Y_Mo_holds K a0 ad Mb 5 [some (.inr (some a0)), some (.inl y1), some (.inl y2), some (.inl 0), some (.inl (y4 + 1)), none] [] A) ∧ ((A 6 j4) = (y2 + 1) → mo_Z l G Y_Mo_holds K a0 ad Mb 5 [some (.inr (some a0)), some (.inl y1), some (.inl y2), some (.inl 1), some (.inl (y4 + 1)), none] [] A))))) :
    mo_Z l G Y_Mo_holds K a0 ad Mb 5 [some (.inr (some a0)), some (.inl y1), some (.inl y2), some (.inl y3), some (.inl y4), none] [] A := by
  intro M0 M hS
  refine mr_iload dd_Mo_holds_5 rfl ?_
  refine mr_iconst 4 dd_Mo_holds_7 (by decide) ?_
  refine mr_icmp_ge 60 dd_Mo_holds_8 (by decide) (fun hc8 => ?_) (fun hc8 => ?_)
  · have h := h.1 hc8
    refine mr_iload_n dd_Mo_holds_60 rfl ?_
    exact mr_zreturn dd_Mo_holds_61 rfl h.1 ⟨_, hS, h.2⟩
  · have h := h.2 hc8
    refine mr_aload_n dd_Mo_holds_11 rfl ?_
    refine mr_getr ff_Mo_23 dd_Mo_holds_12 rs_8_5 rfl hS.1 ?_
    rw [mo_p hS 5 (by decide) rfl]
    refine mr_iconst 4 dd_Mo_holds_15 (by decide) ?_
    refine mr_iload_n dd_Mo_holds_16 rfl ?_
    refine mr_imul dd_Mo_holds_17 ?_
    refine mr_iload dd_Mo_holds_18 rfl ?_
    refine mr_iadd dd_Mo_holds_20 ?_
    obtain ⟨j1, hj2, hb3, h⟩ := h
    refine mr_iald dd_Mo_holds_21 rfl (mo_k hS 5 (by decide) rfl rfl) hj2 (Nat.lt_trans hb3 (by decide)) (mo_l hS 5 (by decide) rfl rfl hb3) ?_
    rw [mo_i hS 5 (by decide) rfl rfl hb3]
    refine mr_iconst 1 dd_Mo_holds_22 (by decide) ?_
    refine mr_isub dd_Mo_holds_23 ?_
    refine mr_istore dd_Mo_holds_24 (by decide) ?_
    show mm_Z l G Y_Mo_holds (mo_K a0 ad Mb K) _ 0 0 26 [some (.inr (some a0)), some (.inl y1), some (.inl y2), some (.inl y3), some (.inl y4), some (.inl ((A 5 j1) - 1))] [] M
    refine mr_iload_n dd_Mo_holds_26 rfl ?_
    refine mr_if_ne 48 dd_Mo_holds_27 (by decide) (fun hc27 => ?_) (fun hc27 => ?_)
    · have h := h.1 hc27
      refine mr_iconst 1 dd_Mo_holds_48 (by decide) ?_
      refine mr_goto 53 dd_Mo_holds_49 (by decide) ?_
      refine mr_istore_n dd_Mo_holds_53 (by decide) ?_
      show mm_Z l G Y_Mo_holds (mo_K a0 ad Mb K) _ 0 0 54 [some (.inr (some a0)), some (.inl y1), some (.inl y2), some (.inl 1), some (.inl y4), some (.inl ((A 5 j1) - 1))] [] M
      refine mr_iinc 1 dd_Mo_holds_54 rfl (by decide) (by decide) ?_
      show mm_Z l G Y_Mo_holds (mo_K a0 ad Mb K) _ 0 0 57 [some (.inr (some a0)), some (.inl y1), some (.inl y2), some (.inl 1), some (.inl (y4 + 1)), some (.inl ((A 5 j1) - 1))] [] M
      refine mr_goto 5 dd_Mo_holds_57 (by decide) ?_
      exact mm_fg (mm_leq (mm_le_s (mm_le_s (mm_le_s (mm_le_s (mm_le_s (mm_le_n mm_le_e))))))) (h _ M hS)
    · have h := h.2 hc27
      refine mr_iload dd_Mo_holds_30 rfl ?_
      refine mr_if_lt 52 dd_Mo_holds_32 (by decide) (fun hc32 => ?_) (fun hc32 => ?_)
      · have h := h.1 hc32
        refine mr_iconst 0 dd_Mo_holds_52 (by decide) ?_
        refine mr_istore_n dd_Mo_holds_53 (by decide) ?_
        show mm_Z l G Y_Mo_holds (mo_K a0 ad Mb K) _ 0 0 54 [some (.inr (some a0)), some (.inl y1), some (.inl y2), some (.inl 0), some (.inl y4), some (.inl ((A 5 j1) - 1))] [] M
        refine mr_iinc 1 dd_Mo_holds_54 rfl (by decide) (by decide) ?_
        show mm_Z l G Y_Mo_holds (mo_K a0 ad Mb K) _ 0 0 57 [some (.inr (some a0)), some (.inl y1), some (.inl y2), some (.inl 0), some (.inl (y4 + 1)), some (.inl ((A 5 j1) - 1))] [] M
        refine mr_goto 5 dd_Mo_holds_57 (by decide) ?_
        exact mm_fg (mm_leq (mm_le_s (mm_le_s (mm_le_s (mm_le_s (mm_le_s (mm_le_n mm_le_e))))))) (h _ M hS)
      · have h := h.2 hc32
        refine mr_aload_n dd_Mo_holds_35 rfl ?_
        refine mr_getr ff_Mo_26 dd_Mo_holds_36 rs_8_6 rfl hS.1 ?_
        rw [mo_p hS 6 (by decide) rfl]
        refine mr_iload dd_Mo_holds_39 rfl ?_
        obtain ⟨j4, hj5, hb6, h⟩ := h
        refine mr_iald dd_Mo_holds_41 rfl (mo_k hS 6 (by decide) rfl rfl) hj5 (Nat.lt_trans hb6 (by decide)) (mo_l hS 6 (by decide) rfl rfl hb6) ?_
        rw [mo_i hS 6 (by decide) rfl rfl hb6]
        refine mr_iload_n dd_Mo_holds_42 rfl ?_
        refine mr_iconst 1 dd_Mo_holds_43 (by decide) ?_
        refine mr_iadd dd_Mo_holds_44 ?_
        refine mr_icmp_ne 52 dd_Mo_holds_45 (by decide) (fun hc45 => ?_) (fun hc45 => ?_)
        · have h := h.1 hc45
          refine mr_iconst 0 dd_Mo_holds_52 (by decide) ?_
          refine mr_istore_n dd_Mo_holds_53 (by decide) ?_
          show mm_Z l G Y_Mo_holds (mo_K a0 ad Mb K) _ 0 0 54 [some (.inr (some a0)), some (.inl y1), some (.inl y2), some (.inl 0), some (.inl y4), some (.inl ((A 5 j1) - 1))] [] M
          refine mr_iinc 1 dd_Mo_holds_54 rfl (by decide) (by decide) ?_
          show mm_Z l G Y_Mo_holds (mo_K a0 ad Mb K) _ 0 0 57 [some (.inr (some a0)), some (.inl y1), some (.inl y2), some (.inl 0), some (.inl (y4 + 1)), some (.inl ((A 5 j1) - 1))] [] M
          refine mr_goto 5 dd_Mo_holds_57 (by decide) ?_
          exact mm_fg (mm_leq (mm_le_s (mm_le_s (mm_le_s (mm_le_s (mm_le_s (mm_le_n mm_le_e))))))) (h _ M hS)
        · have h := h.2 hc45
          refine mr_iconst 1 dd_Mo_holds_48 (by decide) ?_
          refine mr_goto 53 dd_Mo_holds_49 (by decide) ?_
          refine mr_istore_n dd_Mo_holds_53 (by decide) ?_
          show mm_Z l G Y_Mo_holds (mo_K a0 ad Mb K) _ 0 0 54 [some (.inr (some a0)), some (.inl y1), some (.inl y2), some (.inl 1), some (.inl y4), some (.inl ((A 5 j1) - 1))] [] M
          refine mr_iinc 1 dd_Mo_holds_54 rfl (by decide) (by decide) ?_
          show mm_Z l G Y_Mo_holds (mo_K a0 ad Mb K) _ 0 0 57 [some (.inr (some a0)), some (.inl y1), some (.inl y2), some (.inl 1), some (.inl (y4 + 1)), some (.inl ((A 5 j1) - 1))] [] M
          refine mr_goto 5 dd_Mo_holds_57 (by decide) ?_
          exact mm_fg (mm_leq (mm_le_s (mm_le_s (mm_le_s (mm_le_s (mm_le_s (mm_le_n mm_le_e))))))) (h _ M hS)
set_option maxHeartbeats 4000000 in
set_option maxRecDepth 100000 in
theorem mg_store {l : Launch} {G : mm_G} {K : Option mm_V → mo_A → Prop} {a0 : Nat} {ad : Nat → Nat} {Mb : mm_M} {A : mo_A} {xa : Int32} {xb : Int32} {xc : Int32} {xd : Int32}
    (h : mo_Ok l G yy_Mo_lives Y_Mo_lives [.inr (some a0), .inl xa] a0 ad Mb A (fun r B => B = A ∧ ∃ x2 : Int32, r = some (.inl x2) ∧ (x2 = 0 → K (some (.inl (-1))) A) ∧ (¬ x2 = 0 → mo_Ok l G yy_Mo_isRegister Y_Mo_isRegister [.inl xb] a0 ad Mb A (fun r B => B = A ∧ ∃ x4 : Int32, r = some (.inl x4) ∧ (x4 = 0 → K (some (.inl (-1))) A) ∧ (¬ x4 = 0 → mo_Ok l G yy_Mo_isRegister Y_Mo_isRegister [.inl xd] a0 ad Mb A (fun r B => B = A ∧ ∃ x6 : Int32, r = some (.inl x6) ∧ (x6 = 0 → K (some (.inl (-1))) A) ∧ (¬ x6 = 0 → (xc < 0 → K (some (.inl (-1))) A) ∧ (¬ xc < 0 → (xc ≤ 2 → ∃ j7 : Nat, ((4 * xa) + xb) = nI j7 ∧ j7 < 32 ∧ ∃ j10 : Nat, ((4 * xa) + xd) = nI j10 ∧ j10 < 32 ∧ (0 ≤ ((A 5 j7) - 1) → ∃ j13 : Nat, ((A 5 j7) - 1) = nI j13 ∧ j13 < 60 ∧ (0 ≤ ((A 5 j10) - 1) → ∃ j16 : Nat, ((A 5 j10) - 1) = nI j16 ∧ j16 < 60 ∧ (¬ ((A 6 j13) - 1) = xa → (¬ ((A 6 j13) - 1) = 8 → mo_Ok l G yy_Mo_frozen Y_Mo_frozen [.inr (some a0), .inl ((A 6 j13) - 1)] a0 ad Mb A (fun r B => B = A ∧ ∃ x20 : Int32, r = some (.inl x20) ∧ (¬ x20 = 0 → K (some (.inl (-3))) A) ∧ (x20 = 0 → (¬ ((A 6 j16) - 1) = ((A 6 j13) - 1) → K (some (.inl (-3))) A) ∧ (((A 6 j16) - 1) = ((A 6 j13) - 1) → ∃ j21 : Nat, ((3 * ((A 5 j7) - 1)) + xc) = nI j21 ∧ j21 < 180 ∧ (((A 6 j16) - 1) = ((A 6 j13) - 1) → K (some (.inl 0)) (mo_u A 10 j21 (((A 5 j10) - 1) + 1))) ∧ (¬ ((A 6 j16) - 1) = ((A 6 j13) - 1) → ∃ j24 : Nat, ((60 * ((A 6 j13) - 1)) + ((A 5 j10) - 1)) = nI j24 ∧ j24 < 780 ∧ K (some (.inl 0)) (mo_u (mo_u A 10 j21 (((A 5 j10) - 1) + 1)) 21 j24 1)))))) ∧ (((A 6 j13) - 1) = 8 → ∃ j27 : Nat, xa = nI j27 ∧ j27 < 8 ∧ ((A 0 j27) < 2 → K (some (.inl (-3))) A) ∧ (¬ (A 0 j27) < 2 → (((A 6 j16) - 1) = 8 → ∃ j30 : Nat, ((3 * ((A 5 j7) - 1)) + xc) = nI j30 ∧ j30 < 180 ∧ (((A 6 j16) - 1) = ((A 6 j13) - 1) → K (some (.inl 0)) (mo_u A 10 j30 (((A 5 j10) - 1) + 1))) ∧ (¬ ((A 6 j16) - 1) = ((A 6 j13) - 1) → ∃ j33 : Nat, ((60 * ((A 6 j13) - 1)) + ((A 5 j10) - 1)) = nI j33 ∧ j33 < 780 ∧ K (some (.inl 0)) (mo_u (mo_u A 10 j30 (((A 5 j10) - 1) + 1)) 21 j33 1))) ∧ (¬ ((A 6 j16) - 1) = 8 → (¬ ((A 6 j16) - 1) = xa → K (some (.inl (-3))) A) ∧ (((A 6 j16) - 1) = xa → ∃ j36 : Nat, ((3 * ((A 5 j7) - 1)) + xc) = nI j36 ∧ j36 < 180 ∧ (((A 6 j16) - 1) = ((A 6 j13) - 1) → K (some (.inl 0)) (mo_u A 10 j36 (((A 5 j10) - 1) + 1))) ∧ (¬ ((A 6 j16) - 1) = ((A 6 j13) - 1) → ∃ j39 : Nat, ((60 * ((A 6 j13) - 1)) + ((A 5 j10) - 1)) = nI j39 ∧ j39 < 780 ∧ K (some (.inl 0)) (mo_u (mo_u A 10 j36 (((A 5 j10) - 1) + 1)) 21 j39 1))))))) ∧ (((A 6 j13) - 1) = xa → (((A 6 j16) - 1) = xa → ∃ j42 : Nat, ((3 * ((A 5 j7) - 1)) + xc) = nI j42 ∧ j42 < 180 ∧ (((A 6 j16) - 1) = ((A 6 j13) - 1) → K (some (.inl 0)) (mo_u A 10 j42 (((A 5 j10) - 1) + 1))) ∧ (¬ ((A 6 j16) - 1) = ((A 6 j13) - 1) → ∃ j45 : Nat, ((60 * ((A 6 j13) - 1)) + ((A 5 j10) - 1)) = nI j45 ∧ j45 < 780 ∧ K (some (.inl 0)) (mo_u (mo_u A 10 j42 (((A 5 j10) - 1) + 1)) 21 j45 1))) ∧ (¬ ((A 6 j16) - 1) = xa → (((A 6 j16) - 1) = 8 → ∃ j48 : Nat, ((3 * ((A 5 j7) - 1)) + xc) = nI j48 ∧ j48 < 180 ∧ (((A 6 j16) - 1) = ((A 6 j13) - 1) → K (some (.inl 0)) (mo_u A 10 j48 (((A 5 j10) - 1) + 1))) ∧ (¬ ((A 6 j16) - 1) = ((A 6 j13) - 1) → ∃ j51 : Nat, ((60 * ((A 6 j13) - 1)) + ((A 5 j10) - 1)) = nI j51 ∧ j51 < 780 ∧ K (some (.inl 0)) (mo_u (mo_u A 10 j48 (((A 5 j10) - 1) + 1)) 21 j51 1))) ∧ (¬ ((A 6 j16) - 1) = 8 → mo_Ok l G yy_Mo_frozen Y_Mo_frozen [.inr (some a0), .inl ((A 6 j16) - 1)] a0 ad Mb A (fun r B => B = A ∧ ∃ x55 : Int32, r = some (.inl x55) ∧ (x55 = 0 → K (some (.inl (-3))) A) ∧ (¬ x55 = 0 → ∃ j56 : Nat, ((3 * ((A 5 j7) - 1)) + xc) = nI j56 ∧ j56 < 180 ∧ (((A 6 j16) - 1) = ((A 6 j13) - 1) → K (some (.inl 0)) (mo_u A 10 j56 (((A 5 j10) - 1) + 1))) ∧ (¬ ((A 6 j16) - 1) = ((A 6 j13) - 1) → ∃ j59 : Nat, ((60 * ((A 6 j13) - 1)) + ((A 5 j10) - 1)) = nI j59 ∧ j59 < 780 ∧ K (some (.inl 0)) (mo_u (mo_u A 10 j56 (((A 5 j10) - 1) + 1)) 21 j59 1)))))))) ∧ (¬ 0 ≤ ((A 5 j10) - 1) → (¬ ((A 6 j13) - 1) = xa → (¬ ((A 6 j13) - 1) = 8 → mo_Ok l G yy_Mo_frozen Y_Mo_frozen [.inr (some a0), .inl ((A 6 j13) - 1)] a0 ad Mb A (fun r B => B = A ∧ ∃ x63 : Int32, r = some (.inl x63) ∧ (¬ x63 = 0 → K (some (.inl (-3))) A) ∧ (x63 = 0 → (¬ ((A 6 j13) - 1) = ((A 6 j13) - 1) → K (some (.inl (-3))) A) ∧ (((A 6 j13) - 1) = ((A 6 j13) - 1) → ∃ j64 : Nat, ((3 * ((A 5 j7) - 1)) + xc) = nI j64 ∧ j64 < 180 ∧ (((A 6 j13) - 1) = ((A 6 j13) - 1) → K (some (.inl 0)) (mo_u A 10 j64 (((A 5 j10) - 1) + 1))) ∧ (¬ ((A 6 j13) - 1) = ((A 6 j13) - 1) → ∃ j67 : Nat, ((60 * ((A 6 j13) - 1)) + ((A 5 j10) - 1)) = nI j67 ∧ j67 < 780 ∧ K (some (.inl 0)) (mo_u (mo_u A 10 j64 (((A 5 j10) - 1) + 1)) 21 j67 1)))))) ∧ (((A 6 j13) - 1) = 8 → ∃ j70 : Nat, xa = nI j70 ∧ j70 < 8 ∧ ((A 0 j70) < 2 → K (some (.inl (-3))) A) ∧ (¬ (A 0 j70) < 2 → (((A 6 j13) - 1) = 8 → ∃ j73 : Nat, ((3 * ((A 5 j7) - 1)) + xc) = nI j73 ∧ j73 < 180 ∧ (((A 6 j13) - 1) = ((A 6 j13) - 1) → K (some (.inl 0)) (mo_u A 10 j73 (((A 5 j10) - 1) + 1))) ∧ (¬ ((A 6 j13) - 1) = ((A 6 j13) - 1) → ∃ j76 : Nat, ((60 * ((A 6 j13) - 1)) + ((A 5 j10) - 1)) = nI j76 ∧ j76 < 780 ∧ K (some (.inl 0)) (mo_u (mo_u A 10 j73 (((A 5 j10) - 1) + 1)) 21 j76 1))) ∧ (¬ ((A 6 j13) - 1) = 8 → (¬ ((A 6 j13) - 1) = xa → K (some (.inl (-3))) A) ∧ (((A 6 j13) - 1) = xa → ∃ j79 : Nat, ((3 * ((A 5 j7) - 1)) + xc) = nI j79 ∧ j79 < 180 ∧ (((A 6 j13) - 1) = ((A 6 j13) - 1) → K (some (.inl 0)) (mo_u A 10 j79 (((A 5 j10) - 1) + 1))) ∧ (¬ ((A 6 j13) - 1) = ((A 6 j13) - 1) → ∃ j82 : Nat, ((60 * ((A 6 j13) - 1)) + ((A 5 j10) - 1)) = nI j82 ∧ j82 < 780 ∧ K (some (.inl 0)) (mo_u (mo_u A 10 j79 (((A 5 j10) - 1) + 1)) 21 j82 1))))))) ∧ (((A 6 j13) - 1) = xa → (((A 6 j13) - 1) = xa → ∃ j85 : Nat, ((3 * ((A 5 j7) - 1)) + xc) = nI j85 ∧ j85 < 180 ∧ (((A 6 j13) - 1) = ((A 6 j13) - 1) → K (some (.inl 0)) (mo_u A 10 j85 (((A 5 j10) - 1) + 1))) ∧ (¬ ((A 6 j13) - 1) = ((A 6 j13) - 1) → ∃ j88 : Nat, ((60 * ((A 6 j13) - 1)) + ((A 5 j10) - 1)) = nI j88 ∧ j88 < 780 ∧ K (some (.inl 0)) (mo_u (mo_u A 10 j85 (((A 5 j10) - 1) + 1)) 21 j88 1))) ∧ (¬ ((A 6 j13) - 1) = xa → (((A 6 j13) - 1) = 8 → ∃ j91 : Nat, ((3 * ((A 5 j7) - 1)) + xc) = nI j91 ∧ j91 < 180 ∧ (((A 6 j13) - 1) = ((A 6 j13) - 1) → K (some (.inl 0)) (mo_u A 10 j91 (((A 5 j10) - 1) + 1))) ∧ (¬ ((A 6 j13) - 1) = ((A 6 j13) - 1) → ∃ j94 : Nat, ((60 * ((A 6 j13) - 1)) + ((A 5 j10) - 1)) = nI j94 ∧ j94 < 780 ∧ K (some (.inl 0)) (mo_u (mo_u A 10 j91 (((A 5 j10) - 1) + 1)) 21 j94 1))) ∧ (¬ ((A 6 j13) - 1) = 8 → mo_Ok l G yy_Mo_frozen Y_Mo_frozen [.inr (some a0), .inl ((A 6 j13) - 1)] a0 ad Mb A (fun r B => B = A ∧ ∃ x98 : Int32, r = some (.inl x98) ∧ (x98 = 0 → K (some (.inl (-3))) A) ∧ (¬ x98 = 0 → ∃ j99 : Nat, ((3 * ((A 5 j7) - 1)) + xc) = nI j99 ∧ j99 < 180 ∧ (((A 6 j13) - 1) = ((A 6 j13) - 1) → K (some (.inl 0)) (mo_u A 10 j99 (((A 5 j10) - 1) + 1))) ∧ (¬ ((A 6 j13) - 1) = ((A 6 j13) - 1) → ∃ j102 : Nat, ((60 * ((A 6 j13) - 1)) + ((A 5 j10) - 1)) = nI j102 ∧ j102 < 780 ∧ K (some (.inl 0)) (mo_u (mo_u A 10 j99 (((A 5 j10) - 1) + 1)) 21 j102 1))))))))) ∧ (¬ 0 ≤ ((A 5 j7) - 1) → K (some (.inl (-2))) A)) ∧ (¬ xc ≤ 2 → K (some (.inl (-1))) A))))))))) :
    mo_Ok l G yy_Mo_store Y_Mo_store [.inr (some a0), .inl xa, .inl xb, .inl xc, .inl xd] a0 ad Mb A K := by
  intro M hS
  refine mm_go (by decide) rfl (fun q => by cases q) (Nat.le_of_ble_eq_true rfl) ?_
  show mm_Z l G Y_Mo_store (mo_K a0 ad Mb K) _ 0 0 0 [some (.inr (some a0)), some (.inl xa), some (.inl xb), some (.inl xc), some (.inl xd), none, none, none, none, none] [] M
  refine mr_aload_n dd_Mo_store_0 rfl ?_
  refine mr_iload_n dd_Mo_store_1 rfl ?_
  refine mr_callV0 (Yc := Y_Mo_lives) (M := M) (st := []) (vs := [.inl xa]) (ci := 8) fc_Mo_89 iv_Mo_lives sv_Mo_lives dd_Mo_store_2 ⟨Nat.le_of_ble_eq_true rfl, Nat.le_of_ble_eq_true rfl⟩ (by decide) rfl rfl (Nat.le_of_ble_eq_true rfl) rfl hS.1 rfl rfl (h M hS) (fun r M _ h => ?_)
  obtain ⟨B, hS, hB, h⟩ := h
  rw [hB] at hS
  obtain ⟨x2, rfl, h⟩ := h
  show mm_Z l G Y_Mo_store (mo_K a0 ad Mb K) _ 0 0 5 [some (.inr (some a0)), some (.inl xa), some (.inl xb), some (.inl xc), some (.inl xd), none, none, none, none, none] [.inl x2] M
  refine mr_if_eq 32 dd_Mo_store_5 (by decide) (fun hc5 => ?_) (fun hc5 => ?_)
  · have h := h.1 hc5
    refine mr_iconst (-1) dd_Mo_store_32 (by decide) ?_
    exact mr_ireturn dd_Mo_store_33 rfl ⟨_, hS, h⟩
  · have h := h.2 hc5
    refine mr_iload_n dd_Mo_store_8 rfl ?_
    refine mr_callS0 (Yc := Y_Mo_isRegister) (M := M) (st := []) (vs := [.inl xb]) fc_Mo_134 si_Mo_isRegister dd_Mo_store_9 ⟨Nat.le_of_ble_eq_true rfl, Nat.le_of_ble_eq_true rfl⟩ rfl (Nat.le_of_ble_eq_true rfl) rfl rfl (h M hS) (fun r M _ h => ?_)
    obtain ⟨B, hS, hB, h⟩ := h
    rw [hB] at hS
    obtain ⟨x4, rfl, h⟩ := h
    show mm_Z l G Y_Mo_store (mo_K a0 ad Mb K) _ 0 0 12 [some (.inr (some a0)), some (.inl xa), some (.inl xb), some (.inl xc), some (.inl xd), none, none, none, none, none] [.inl x4] M
    refine mr_if_eq 32 dd_Mo_store_12 (by decide) (fun hc12 => ?_) (fun hc12 => ?_)
    · have h := h.1 hc12
      refine mr_iconst (-1) dd_Mo_store_32 (by decide) ?_
      exact mr_ireturn dd_Mo_store_33 rfl ⟨_, hS, h⟩
    · have h := h.2 hc12
      refine mr_iload dd_Mo_store_15 rfl ?_
      refine mr_callS0 (Yc := Y_Mo_isRegister) (M := M) (st := []) (vs := [.inl xd]) fc_Mo_134 si_Mo_isRegister dd_Mo_store_17 ⟨Nat.le_of_ble_eq_true rfl, Nat.le_of_ble_eq_true rfl⟩ rfl (Nat.le_of_ble_eq_true rfl) rfl rfl (h M hS) (fun r M _ h => ?_)
      obtain ⟨B, hS, hB, h⟩ := h
      rw [hB] at hS
      obtain ⟨x6, rfl, h⟩ := h
      show mm_Z l G Y_Mo_store (mo_K a0 ad Mb K) _ 0 0 20 [some (.inr (some a0)), some (.inl xa), some (.inl xb), some (.inl xc), some (.inl xd), none, none, none, none, none] [.inl x6] M
      refine mr_if_eq 32 dd_Mo_store_20 (by decide) (fun hc20 => ?_) (fun hc20 => ?_)
      · have h := h.1 hc20
        refine mr_iconst (-1) dd_Mo_store_32 (by decide) ?_
        exact mr_ireturn dd_Mo_store_33 rfl ⟨_, hS, h⟩
      · have h := h.2 hc20
        refine mr_iload_n dd_Mo_store_23 rfl ?_
        refine mr_if_lt 32 dd_Mo_store_24 (by decide) (fun hc24 => ?_) (fun hc24 => ?_)
        · have h := h.1 hc24
          refine mr_iconst (-1) dd_Mo_store_32 (by decide) ?_
          exact mr_ireturn dd_Mo_store_33 rfl ⟨_, hS, h⟩
        · have h := h.2 hc24
          refine mr_iload_n dd_Mo_store_27 rfl ?_
          refine mr_iconst 2 dd_Mo_store_28 (by decide) ?_
          refine mr_icmp_le 34 dd_Mo_store_29 (by decide) (fun hc29 => ?_) (fun hc29 => ?_)
          · have h := h.1 hc29
            refine mr_aload_n dd_Mo_store_34 rfl ?_
            refine mr_getr ff_Mo_23 dd_Mo_store_35 rs_8_5 rfl hS.1 ?_
            rw [mo_p hS 5 (by decide) rfl]
            refine mr_iconst 4 dd_Mo_store_38 (by decide) ?_
            refine mr_iload_n dd_Mo_store_39 rfl ?_
            refine mr_imul dd_Mo_store_40 ?_
            refine mr_iload_n dd_Mo_store_41 rfl ?_
            refine mr_iadd dd_Mo_store_42 ?_
            obtain ⟨j7, hj8, hb9, h⟩ := h
            refine mr_iald dd_Mo_store_43 rfl (mo_k hS 5 (by decide) rfl rfl) hj8 (Nat.lt_trans hb9 (by decide)) (mo_l hS 5 (by decide) rfl rfl hb9) ?_
            rw [mo_i hS 5 (by decide) rfl rfl hb9]
            refine mr_iconst 1 dd_Mo_store_44 (by decide) ?_
            refine mr_isub dd_Mo_store_45 ?_
            refine mr_istore dd_Mo_store_46 (by decide) ?_
            show mm_Z l G Y_Mo_store (mo_K a0 ad Mb K) _ 0 0 48 [some (.inr (some a0)), some (.inl xa), some (.inl xb), some (.inl xc), some (.inl xd), some (.inl ((A 5 j7) - 1)), none, none, none, none] [] M
            refine mr_aload_n dd_Mo_store_48 rfl ?_
            refine mr_getr ff_Mo_23 dd_Mo_store_49 rs_8_5 rfl hS.1 ?_
            rw [mo_p hS 5 (by decide) rfl]
            refine mr_iconst 4 dd_Mo_store_52 (by decide) ?_
            refine mr_iload_n dd_Mo_store_53 rfl ?_
            refine mr_imul dd_Mo_store_54 ?_
            refine mr_iload dd_Mo_store_55 rfl ?_
            refine mr_iadd dd_Mo_store_57 ?_
            obtain ⟨j10, hj11, hb12, h⟩ := h
            refine mr_iald dd_Mo_store_58 rfl (mo_k hS 5 (by decide) rfl rfl) hj11 (Nat.lt_trans hb12 (by decide)) (mo_l hS 5 (by decide) rfl rfl hb12) ?_
            rw [mo_i hS 5 (by decide) rfl rfl hb12]
            refine mr_iconst 1 dd_Mo_store_59 (by decide) ?_
            refine mr_isub dd_Mo_store_60 ?_
            refine mr_istore dd_Mo_store_61 (by decide) ?_
            show mm_Z l G Y_Mo_store (mo_K a0 ad Mb K) _ 0 0 63 [some (.inr (some a0)), some (.inl xa), some (.inl xb), some (.inl xc), some (.inl xd), some (.inl ((A 5 j7) - 1)), some (.inl ((A 5 j10) - 1)), none, none, none] [] M
            refine mr_iload dd_Mo_store_63 rfl ?_
            refine mr_if_ge 71 dd_Mo_store_65 (by decide) (fun hc65 => ?_) (fun hc65 => ?_)
            · have h := h.1 hc65
              refine mr_aload_n dd_Mo_store_71 rfl ?_
              refine mr_getr ff_Mo_26 dd_Mo_store_72 rs_8_6 rfl hS.1 ?_
              rw [mo_p hS 6 (by decide) rfl]
              refine mr_iload dd_Mo_store_75 rfl ?_
              obtain ⟨j13, hj14, hb15, h⟩ := h
              refine mr_iald dd_Mo_store_77 rfl (mo_k hS 6 (by decide) rfl rfl) hj14 (Nat.lt_trans hb15 (by decide)) (mo_l hS 6 (by decide) rfl rfl hb15) ?_
              rw [mo_i hS 6 (by decide) rfl rfl hb15]
              refine mr_iconst 1 dd_Mo_store_78 (by decide) ?_
              refine mr_isub dd_Mo_store_79 ?_
              refine mr_istore dd_Mo_store_80 (by decide) ?_
              show mm_Z l G Y_Mo_store (mo_K a0 ad Mb K) _ 0 0 82 [some (.inr (some a0)), some (.inl xa), some (.inl xb), some (.inl xc), some (.inl xd), some (.inl ((A 5 j7) - 1)), some (.inl ((A 5 j10) - 1)), some (.inl ((A 6 j13) - 1)), none, none] [] M
              refine mr_iload dd_Mo_store_82 rfl ?_
              refine mr_if_ge 92 dd_Mo_store_84 (by decide) (fun hc84 => ?_) (fun hc84 => ?_)
              · have h := h.1 hc84
                refine mr_aload_n dd_Mo_store_92 rfl ?_
                refine mr_getr ff_Mo_26 dd_Mo_store_93 rs_8_6 rfl hS.1 ?_
                rw [mo_p hS 6 (by decide) rfl]
                refine mr_iload dd_Mo_store_96 rfl ?_
                obtain ⟨j16, hj17, hb18, h⟩ := h
                refine mr_iald dd_Mo_store_98 rfl (mo_k hS 6 (by decide) rfl rfl) hj17 (Nat.lt_trans hb18 (by decide)) (mo_l hS 6 (by decide) rfl rfl hb18) ?_
                rw [mo_i hS 6 (by decide) rfl rfl hb18]
                refine mr_iconst 1 dd_Mo_store_99 (by decide) ?_
                refine mr_isub dd_Mo_store_100 ?_
                refine mr_istore dd_Mo_store_101 (by decide) ?_
                show mm_Z l G Y_Mo_store (mo_K a0 ad Mb K) _ 0 0 103 [some (.inr (some a0)), some (.inl xa), some (.inl xb), some (.inl xc), some (.inl xd), some (.inl ((A 5 j7) - 1)), some (.inl ((A 5 j10) - 1)), some (.inl ((A 6 j13) - 1)), some (.inl ((A 6 j16) - 1)), none] [] M
                refine mr_iload dd_Mo_store_103 rfl ?_
                refine mr_iload_n dd_Mo_store_105 rfl ?_
                refine mr_icmp_ne 139 dd_Mo_store_106 (by decide) (fun hc106 => ?_) (fun hc106 => ?_)
                · have h := h.1 hc106
                  refine mr_iload dd_Mo_store_139 rfl ?_
                  refine mr_bipush 8 dd_Mo_store_141 (by decide) ?_
                  refine mr_icmp_ne 177 dd_Mo_store_143 (by decide) (fun hc143 => ?_) (fun hc143 => ?_)
                  · have h := h.1 hc143
                    refine mr_aload_n dd_Mo_store_177 rfl ?_
                    refine mr_iload dd_Mo_store_178 rfl ?_
                    refine mr_callV0 (Yc := Y_Mo_frozen) (M := M) (st := []) (vs := [.inl ((A 6 j13) - 1)]) (ci := 8) fc_Mo_81 iv_Mo_frozen sv_Mo_frozen dd_Mo_store_180 ⟨Nat.le_of_ble_eq_true rfl, Nat.le_of_ble_eq_true rfl⟩ (by decide) rfl rfl (Nat.le_of_ble_eq_true rfl) rfl hS.1 rfl rfl (h M hS) (fun r M _ h => ?_)
                    obtain ⟨B, hS, hB, h⟩ := h
                    rw [hB] at hS
                    obtain ⟨x20, rfl, h⟩ := h
                    show mm_Z l G Y_Mo_store (mo_K a0 ad Mb K) _ 0 0 183 [some (.inr (some a0)), some (.inl xa), some (.inl xb), some (.inl xc), some (.inl xd), some (.inl ((A 5 j7) - 1)), some (.inl ((A 5 j10) - 1)), some (.inl ((A 6 j13) - 1)), some (.inl ((A 6 j16) - 1)), none] [.inl x20] M
                    refine mr_if_ne 197 dd_Mo_store_183 (by decide) (fun hc183 => ?_) (fun hc183 => ?_)
                    · have h := h.1 hc183
                      refine mr_iconst 0 dd_Mo_store_197 (by decide) ?_
                      refine mr_istore dd_Mo_store_198 (by decide) ?_
                      show mm_Z l G Y_Mo_store (mo_K a0 ad Mb K) _ 0 0 200 [some (.inr (some a0)), some (.inl xa), some (.inl xb), some (.inl xc), some (.inl xd), some (.inl ((A 5 j7) - 1)), some (.inl ((A 5 j10) - 1)), some (.inl ((A 6 j13) - 1)), some (.inl ((A 6 j16) - 1)), some (.inl 0)] [] M
                      refine mr_iload dd_Mo_store_200 rfl ?_
                      refine mr_if_ne 208 dd_Mo_store_202 (by decide) (fun q => absurd q (by decide)) (fun _ => ?_)
                      refine mr_bipush (-3) dd_Mo_store_205 (by decide) ?_
                      exact mr_ireturn dd_Mo_store_207 rfl ⟨_, hS, h⟩
                    · have h := h.2 hc183
                      refine mr_iload dd_Mo_store_186 rfl ?_
                      refine mr_iload dd_Mo_store_188 rfl ?_
                      refine mr_icmp_ne 197 dd_Mo_store_190 (by decide) (fun hc190 => ?_) (fun hc190 => ?_)
                      · have h := h.1 hc190
                        refine mr_iconst 0 dd_Mo_store_197 (by decide) ?_
                        refine mr_istore dd_Mo_store_198 (by decide) ?_
                        show mm_Z l G Y_Mo_store (mo_K a0 ad Mb K) _ 0 0 200 [some (.inr (some a0)), some (.inl xa), some (.inl xb), some (.inl xc), some (.inl xd), some (.inl ((A 5 j7) - 1)), some (.inl ((A 5 j10) - 1)), some (.inl ((A 6 j13) - 1)), some (.inl ((A 6 j16) - 1)), some (.inl 0)] [] M
                        refine mr_iload dd_Mo_store_200 rfl ?_
                        refine mr_if_ne 208 dd_Mo_store_202 (by decide) (fun q => absurd q (by decide)) (fun _ => ?_)
                        refine mr_bipush (-3) dd_Mo_store_205 (by decide) ?_
                        exact mr_ireturn dd_Mo_store_207 rfl ⟨_, hS, h⟩
                      · have h := h.2 hc190
                        refine mr_iconst 1 dd_Mo_store_193 (by decide) ?_
                        refine mr_goto 198 dd_Mo_store_194 (by decide) ?_
                        refine mr_istore dd_Mo_store_198 (by decide) ?_
                        show mm_Z l G Y_Mo_store (mo_K a0 ad Mb K) _ 0 0 200 [some (.inr (some a0)), some (.inl xa), some (.inl xb), some (.inl xc), some (.inl xd), some (.inl ((A 5 j7) - 1)), some (.inl ((A 5 j10) - 1)), some (.inl ((A 6 j13) - 1)), some (.inl ((A 6 j16) - 1)), some (.inl 1)] [] M
                        refine mr_iload dd_Mo_store_200 rfl ?_
                        refine mr_if_ne 208 dd_Mo_store_202 (by decide) (fun _ => ?_) (fun q => absurd q (by decide))
                        refine mr_aload_n dd_Mo_store_208 rfl ?_
                        refine mr_getr ff_Mo_38 dd_Mo_store_209 rs_8_10 rfl hS.1 ?_
                        rw [mo_p hS 10 (by decide) rfl]
                        refine mr_iconst 3 dd_Mo_store_212 (by decide) ?_
                        refine mr_iload dd_Mo_store_213 rfl ?_
                        refine mr_imul dd_Mo_store_215 ?_
                        refine mr_iload_n dd_Mo_store_216 rfl ?_
                        refine mr_iadd dd_Mo_store_217 ?_
                        refine mr_iload dd_Mo_store_218 rfl ?_
                        refine mr_iconst 1 dd_Mo_store_220 (by decide) ?_
                        refine mr_iadd dd_Mo_store_221 ?_
                        obtain ⟨j21, hj22, hb23, h⟩ := h
                        refine mr_iast dd_Mo_store_222 rfl (mo_k hS 10 (by decide) rfl rfl) hj22 (Nat.lt_trans hb23 (by decide)) (mo_l hS 10 (by decide) rfl rfl hb23) ?_
                        have hS := mo_S.up hS 10 (by decide) rfl j21 (((A 5 j10) - 1) + 1)
                        generalize mm_si M (ad 10) j21 (((A 5 j10) - 1) + 1) = M at hS ⊢
                        refine mr_iload dd_Mo_store_223 rfl ?_
                        refine mr_iload dd_Mo_store_225 rfl ?_
                        refine mr_icmp_eq 244 dd_Mo_store_227 (by decide) (fun hc227 => ?_) (fun hc227 => ?_)
                        · have h := h.1 hc227
                          refine mr_iconst 0 dd_Mo_store_244 (by decide) ?_
                          exact mr_ireturn dd_Mo_store_245 rfl ⟨_, hS, h⟩
                        · have h := h.2 hc227
                          refine mr_aload_n dd_Mo_store_230 rfl ?_
                          refine mr_getr ff_Mo_65 dd_Mo_store_231 rs_8_21 rfl hS.1 ?_
                          rw [mo_p hS 21 (by decide) rfl]
                          refine mr_bipush 60 dd_Mo_store_234 (by decide) ?_
                          refine mr_iload dd_Mo_store_236 rfl ?_
                          refine mr_imul dd_Mo_store_238 ?_
                          refine mr_iload dd_Mo_store_239 rfl ?_
                          refine mr_iadd dd_Mo_store_241 ?_
                          refine mr_iconst 1 dd_Mo_store_242 (by decide) ?_
                          obtain ⟨j24, hj25, hb26, h⟩ := h
                          refine mr_zast dd_Mo_store_243 rfl (mo_k hS 21 (by decide) rfl rfl) hj25 (Nat.lt_trans hb26 (by decide)) (mo_l hS 21 (by decide) rfl rfl hb26) (Or.inr rfl) ?_
                          have hS := mo_S.up hS 21 (by decide) rfl j24 1
                          generalize mm_si M (ad 21) j24 1 = M at hS ⊢
                          refine mr_iconst 0 dd_Mo_store_244 (by decide) ?_
                          exact mr_ireturn dd_Mo_store_245 rfl ⟨_, hS, h⟩
                  · have h := h.2 hc143
                    refine mr_aload_n dd_Mo_store_146 rfl ?_
                    refine mr_getr ff_Mo_7 dd_Mo_store_147 rs_8_0 rfl hS.1 ?_
                    rw [mo_p hS 0 (by decide) rfl]
                    refine mr_iload_n dd_Mo_store_150 rfl ?_
                    obtain ⟨j27, hj28, hb29, h⟩ := h
                    refine mr_iald dd_Mo_store_151 rfl (mo_k hS 0 (by decide) rfl rfl) hj28 (Nat.lt_trans hb29 (by decide)) (mo_l hS 0 (by decide) rfl rfl hb29) ?_
                    rw [mo_i hS 0 (by decide) rfl rfl hb29]
                    refine mr_iconst 2 dd_Mo_store_152 (by decide) ?_
                    refine mr_icmp_lt 173 dd_Mo_store_153 (by decide) (fun hc153 => ?_) (fun hc153 => ?_)
                    · have h := h.1 hc153
                      refine mr_iconst 0 dd_Mo_store_173 (by decide) ?_
                      refine mr_goto 198 dd_Mo_store_174 (by decide) ?_
                      refine mr_istore dd_Mo_store_198 (by decide) ?_
                      show mm_Z l G Y_Mo_store (mo_K a0 ad Mb K) _ 0 0 200 [some (.inr (some a0)), some (.inl xa), some (.inl xb), some (.inl xc), some (.inl xd), some (.inl ((A 5 j7) - 1)), some (.inl ((A 5 j10) - 1)), some (.inl ((A 6 j13) - 1)), some (.inl ((A 6 j16) - 1)), some (.inl 0)] [] M
                      refine mr_iload dd_Mo_store_200 rfl ?_
                      refine mr_if_ne 208 dd_Mo_store_202 (by decide) (fun q => absurd q (by decide)) (fun _ => ?_)
                      refine mr_bipush (-3) dd_Mo_store_205 (by decide) ?_
                      exact mr_ireturn dd_Mo_store_207 rfl ⟨_, hS, h⟩
                    · have h := h.2 hc153
                      refine mr_iload dd_Mo_store_156 rfl ?_
                      refine mr_bipush 8 dd_Mo_store_158 (by decide) ?_
                      refine mr_icmp_eq 169 dd_Mo_store_160 (by decide) (fun hc160 => ?_) (fun hc160 => ?_)
                      · have h := h.1 hc160
                        refine mr_iconst 1 dd_Mo_store_169 (by decide) ?_
                        refine mr_goto 198 dd_Mo_store_170 (by decide) ?_
                        refine mr_istore dd_Mo_store_198 (by decide) ?_
                        show mm_Z l G Y_Mo_store (mo_K a0 ad Mb K) _ 0 0 200 [some (.inr (some a0)), some (.inl xa), some (.inl xb), some (.inl xc), some (.inl xd), some (.inl ((A 5 j7) - 1)), some (.inl ((A 5 j10) - 1)), some (.inl ((A 6 j13) - 1)), some (.inl ((A 6 j16) - 1)), some (.inl 1)] [] M
                        refine mr_iload dd_Mo_store_200 rfl ?_
                        refine mr_if_ne 208 dd_Mo_store_202 (by decide) (fun _ => ?_) (fun q => absurd q (by decide))
                        refine mr_aload_n dd_Mo_store_208 rfl ?_
                        refine mr_getr ff_Mo_38 dd_Mo_store_209 rs_8_10 rfl hS.1 ?_
                        rw [mo_p hS 10 (by decide) rfl]
                        refine mr_iconst 3 dd_Mo_store_212 (by decide) ?_
                        refine mr_iload dd_Mo_store_213 rfl ?_
                        refine mr_imul dd_Mo_store_215 ?_
                        refine mr_iload_n dd_Mo_store_216 rfl ?_
                        refine mr_iadd dd_Mo_store_217 ?_
                        refine mr_iload dd_Mo_store_218 rfl ?_
                        refine mr_iconst 1 dd_Mo_store_220 (by decide) ?_
                        refine mr_iadd dd_Mo_store_221 ?_
                        obtain ⟨j30, hj31, hb32, h⟩ := h
                        refine mr_iast dd_Mo_store_222 rfl (mo_k hS 10 (by decide) rfl rfl) hj31 (Nat.lt_trans hb32 (by decide)) (mo_l hS 10 (by decide) rfl rfl hb32) ?_
                        have hS := mo_S.up hS 10 (by decide) rfl j30 (((A 5 j10) - 1) + 1)
                        generalize mm_si M (ad 10) j30 (((A 5 j10) - 1) + 1) = M at hS ⊢
                        refine mr_iload dd_Mo_store_223 rfl ?_
                        refine mr_iload dd_Mo_store_225 rfl ?_
                        refine mr_icmp_eq 244 dd_Mo_store_227 (by decide) (fun hc227 => ?_) (fun hc227 => ?_)
                        · have h := h.1 hc227
                          refine mr_iconst 0 dd_Mo_store_244 (by decide) ?_
                          exact mr_ireturn dd_Mo_store_245 rfl ⟨_, hS, h⟩
                        · have h := h.2 hc227
                          refine mr_aload_n dd_Mo_store_230 rfl ?_
                          refine mr_getr ff_Mo_65 dd_Mo_store_231 rs_8_21 rfl hS.1 ?_
                          rw [mo_p hS 21 (by decide) rfl]
                          refine mr_bipush 60 dd_Mo_store_234 (by decide) ?_
                          refine mr_iload dd_Mo_store_236 rfl ?_
                          refine mr_imul dd_Mo_store_238 ?_
                          refine mr_iload dd_Mo_store_239 rfl ?_
                          refine mr_iadd dd_Mo_store_241 ?_
                          refine mr_iconst 1 dd_Mo_store_242 (by decide) ?_
                          obtain ⟨j33, hj34, hb35, h⟩ := h
                          refine mr_zast dd_Mo_store_243 rfl (mo_k hS 21 (by decide) rfl rfl) hj34 (Nat.lt_trans hb35 (by decide)) (mo_l hS 21 (by decide) rfl rfl hb35) (Or.inr rfl) ?_
                          have hS := mo_S.up hS 21 (by decide) rfl j33 1
                          generalize mm_si M (ad 21) j33 1 = M at hS ⊢
                          refine mr_iconst 0 dd_Mo_store_244 (by decide) ?_
                          exact mr_ireturn dd_Mo_store_245 rfl ⟨_, hS, h⟩
                      · have h := h.2 hc160
                        refine mr_iload dd_Mo_store_163 rfl ?_
                        refine mr_iload_n dd_Mo_store_165 rfl ?_
                        refine mr_icmp_ne 173 dd_Mo_store_166 (by decide) (fun hc166 => ?_) (fun hc166 => ?_)
                        · have h := h.1 hc166
                          refine mr_iconst 0 dd_Mo_store_173 (by decide) ?_
                          refine mr_goto 198 dd_Mo_store_174 (by decide) ?_
                          refine mr_istore dd_Mo_store_198 (by decide) ?_
                          show mm_Z l G Y_Mo_store (mo_K a0 ad Mb K) _ 0 0 200 [some (.inr (some a0)), some (.inl xa), some (.inl xb), some (.inl xc), some (.inl xd), some (.inl ((A 5 j7) - 1)), some (.inl ((A 5 j10) - 1)), some (.inl ((A 6 j13) - 1)), some (.inl ((A 6 j16) - 1)), some (.inl 0)] [] M
                          refine mr_iload dd_Mo_store_200 rfl ?_
                          refine mr_if_ne 208 dd_Mo_store_202 (by decide) (fun q => absurd q (by decide)) (fun _ => ?_)
                          refine mr_bipush (-3) dd_Mo_store_205 (by decide) ?_
                          exact mr_ireturn dd_Mo_store_207 rfl ⟨_, hS, h⟩
                        · have h := h.2 hc166
                          refine mr_iconst 1 dd_Mo_store_169 (by decide) ?_
                          refine mr_goto 198 dd_Mo_store_170 (by decide) ?_
                          refine mr_istore dd_Mo_store_198 (by decide) ?_
                          show mm_Z l G Y_Mo_store (mo_K a0 ad Mb K) _ 0 0 200 [some (.inr (some a0)), some (.inl xa), some (.inl xb), some (.inl xc), some (.inl xd), some (.inl ((A 5 j7) - 1)), some (.inl ((A 5 j10) - 1)), some (.inl ((A 6 j13) - 1)), some (.inl ((A 6 j16) - 1)), some (.inl 1)] [] M
                          refine mr_iload dd_Mo_store_200 rfl ?_
                          refine mr_if_ne 208 dd_Mo_store_202 (by decide) (fun _ => ?_) (fun q => absurd q (by decide))
                          refine mr_aload_n dd_Mo_store_208 rfl ?_
                          refine mr_getr ff_Mo_38 dd_Mo_store_209 rs_8_10 rfl hS.1 ?_
                          rw [mo_p hS 10 (by decide) rfl]
                          refine mr_iconst 3 dd_Mo_store_212 (by decide) ?_
                          refine mr_iload dd_Mo_store_213 rfl ?_
                          refine mr_imul dd_Mo_store_215 ?_
                          refine mr_iload_n dd_Mo_store_216 rfl ?_
                          refine mr_iadd dd_Mo_store_217 ?_
                          refine mr_iload dd_Mo_store_218 rfl ?_
                          refine mr_iconst 1 dd_Mo_store_220 (by decide) ?_
                          refine mr_iadd dd_Mo_store_221 ?_
                          obtain ⟨j36, hj37, hb38, h⟩ := h
                          refine mr_iast dd_Mo_store_222 rfl (mo_k hS 10 (by decide) rfl rfl) hj37 (Nat.lt_trans hb38 (by decide)) (mo_l hS 10 (by decide) rfl rfl hb38) ?_
                          have hS := mo_S.up hS 10 (by decide) rfl j36 (((A 5 j10) - 1) + 1)
                          generalize mm_si M (ad 10) j36 (((A 5 j10) - 1) + 1) = M at hS ⊢
                          refine mr_iload dd_Mo_store_223 rfl ?_
                          refine mr_iload dd_Mo_store_225 rfl ?_
                          refine mr_icmp_eq 244 dd_Mo_store_227 (by decide) (fun hc227 => ?_) (fun hc227 => ?_)
                          · have h := h.1 hc227
                            refine mr_iconst 0 dd_Mo_store_244 (by decide) ?_
                            exact mr_ireturn dd_Mo_store_245 rfl ⟨_, hS, h⟩
                          · have h := h.2 hc227
                            refine mr_aload_n dd_Mo_store_230 rfl ?_
                            refine mr_getr ff_Mo_65 dd_Mo_store_231 rs_8_21 rfl hS.1 ?_
                            rw [mo_p hS 21 (by decide) rfl]
                            refine mr_bipush 60 dd_Mo_store_234 (by decide) ?_
                            refine mr_iload dd_Mo_store_236 rfl ?_
                            refine mr_imul dd_Mo_store_238 ?_
                            refine mr_iload dd_Mo_store_239 rfl ?_
                            refine mr_iadd dd_Mo_store_241 ?_
                            refine mr_iconst 1 dd_Mo_store_242 (by decide) ?_
                            obtain ⟨j39, hj40, hb41, h⟩ := h
                            refine mr_zast dd_Mo_store_243 rfl (mo_k hS 21 (by decide) rfl rfl) hj40 (Nat.lt_trans hb41 (by decide)) (mo_l hS 21 (by decide) rfl rfl hb41) (Or.inr rfl) ?_
                            have hS := mo_S.up hS 21 (by decide) rfl j39 1
                            generalize mm_si M (ad 21) j39 1 = M at hS ⊢
                            refine mr_iconst 0 dd_Mo_store_244 (by decide) ?_
                            exact mr_ireturn dd_Mo_store_245 rfl ⟨_, hS, h⟩
                · have h := h.2 hc106
                  refine mr_iload dd_Mo_store_109 rfl ?_
                  refine mr_iload_n dd_Mo_store_111 rfl ?_
                  refine mr_icmp_eq 131 dd_Mo_store_112 (by decide) (fun hc112 => ?_) (fun hc112 => ?_)
                  · have h := h.1 hc112
                    refine mr_iconst 1 dd_Mo_store_131 (by decide) ?_
                    refine mr_goto 198 dd_Mo_store_132 (by decide) ?_
                    refine mr_istore dd_Mo_store_198 (by decide) ?_
                    show mm_Z l G Y_Mo_store (mo_K a0 ad Mb K) _ 0 0 200 [some (.inr (some a0)), some (.inl xa), some (.inl xb), some (.inl xc), some (.inl xd), some (.inl ((A 5 j7) - 1)), some (.inl ((A 5 j10) - 1)), some (.inl ((A 6 j13) - 1)), some (.inl ((A 6 j16) - 1)), some (.inl 1)] [] M
                    refine mr_iload dd_Mo_store_200 rfl ?_
                    refine mr_if_ne 208 dd_Mo_store_202 (by decide) (fun _ => ?_) (fun q => absurd q (by decide))
                    refine mr_aload_n dd_Mo_store_208 rfl ?_
                    refine mr_getr ff_Mo_38 dd_Mo_store_209 rs_8_10 rfl hS.1 ?_
                    rw [mo_p hS 10 (by decide) rfl]
                    refine mr_iconst 3 dd_Mo_store_212 (by decide) ?_
                    refine mr_iload dd_Mo_store_213 rfl ?_
                    refine mr_imul dd_Mo_store_215 ?_
                    refine mr_iload_n dd_Mo_store_216 rfl ?_
                    refine mr_iadd dd_Mo_store_217 ?_
                    refine mr_iload dd_Mo_store_218 rfl ?_
                    refine mr_iconst 1 dd_Mo_store_220 (by decide) ?_
                    refine mr_iadd dd_Mo_store_221 ?_
                    obtain ⟨j42, hj43, hb44, h⟩ := h
                    refine mr_iast dd_Mo_store_222 rfl (mo_k hS 10 (by decide) rfl rfl) hj43 (Nat.lt_trans hb44 (by decide)) (mo_l hS 10 (by decide) rfl rfl hb44) ?_
                    have hS := mo_S.up hS 10 (by decide) rfl j42 (((A 5 j10) - 1) + 1)
                    generalize mm_si M (ad 10) j42 (((A 5 j10) - 1) + 1) = M at hS ⊢
                    refine mr_iload dd_Mo_store_223 rfl ?_
                    refine mr_iload dd_Mo_store_225 rfl ?_
                    refine mr_icmp_eq 244 dd_Mo_store_227 (by decide) (fun hc227 => ?_) (fun hc227 => ?_)
                    · have h := h.1 hc227
                      refine mr_iconst 0 dd_Mo_store_244 (by decide) ?_
                      exact mr_ireturn dd_Mo_store_245 rfl ⟨_, hS, h⟩
                    · have h := h.2 hc227
                      refine mr_aload_n dd_Mo_store_230 rfl ?_
                      refine mr_getr ff_Mo_65 dd_Mo_store_231 rs_8_21 rfl hS.1 ?_
                      rw [mo_p hS 21 (by decide) rfl]
                      refine mr_bipush 60 dd_Mo_store_234 (by decide) ?_
                      refine mr_iload dd_Mo_store_236 rfl ?_
                      refine mr_imul dd_Mo_store_238 ?_
                      refine mr_iload dd_Mo_store_239 rfl ?_
                      refine mr_iadd dd_Mo_store_241 ?_
                      refine mr_iconst 1 dd_Mo_store_242 (by decide) ?_
                      obtain ⟨j45, hj46, hb47, h⟩ := h
                      refine mr_zast dd_Mo_store_243 rfl (mo_k hS 21 (by decide) rfl rfl) hj46 (Nat.lt_trans hb47 (by decide)) (mo_l hS 21 (by decide) rfl rfl hb47) (Or.inr rfl) ?_
                      have hS := mo_S.up hS 21 (by decide) rfl j45 1
                      generalize mm_si M (ad 21) j45 1 = M at hS ⊢
                      refine mr_iconst 0 dd_Mo_store_244 (by decide) ?_
                      exact mr_ireturn dd_Mo_store_245 rfl ⟨_, hS, h⟩
                  · have h := h.2 hc112
                    refine mr_iload dd_Mo_store_115 rfl ?_
                    refine mr_bipush 8 dd_Mo_store_117 (by decide) ?_
                    refine mr_icmp_eq 131 dd_Mo_store_119 (by decide) (fun hc119 => ?_) (fun hc119 => ?_)
                    · have h := h.1 hc119
                      refine mr_iconst 1 dd_Mo_store_131 (by decide) ?_
                      refine mr_goto 198 dd_Mo_store_132 (by decide) ?_
                      refine mr_istore dd_Mo_store_198 (by decide) ?_
                      show mm_Z l G Y_Mo_store (mo_K a0 ad Mb K) _ 0 0 200 [some (.inr (some a0)), some (.inl xa), some (.inl xb), some (.inl xc), some (.inl xd), some (.inl ((A 5 j7) - 1)), some (.inl ((A 5 j10) - 1)), some (.inl ((A 6 j13) - 1)), some (.inl ((A 6 j16) - 1)), some (.inl 1)] [] M
                      refine mr_iload dd_Mo_store_200 rfl ?_
                      refine mr_if_ne 208 dd_Mo_store_202 (by decide) (fun _ => ?_) (fun q => absurd q (by decide))
                      refine mr_aload_n dd_Mo_store_208 rfl ?_
                      refine mr_getr ff_Mo_38 dd_Mo_store_209 rs_8_10 rfl hS.1 ?_
                      rw [mo_p hS 10 (by decide) rfl]
                      refine mr_iconst 3 dd_Mo_store_212 (by decide) ?_
                      refine mr_iload dd_Mo_store_213 rfl ?_
                      refine mr_imul dd_Mo_store_215 ?_
                      refine mr_iload_n dd_Mo_store_216 rfl ?_
                      refine mr_iadd dd_Mo_store_217 ?_
                      refine mr_iload dd_Mo_store_218 rfl ?_
                      refine mr_iconst 1 dd_Mo_store_220 (by decide) ?_
                      refine mr_iadd dd_Mo_store_221 ?_
                      obtain ⟨j48, hj49, hb50, h⟩ := h
                      refine mr_iast dd_Mo_store_222 rfl (mo_k hS 10 (by decide) rfl rfl) hj49 (Nat.lt_trans hb50 (by decide)) (mo_l hS 10 (by decide) rfl rfl hb50) ?_
                      have hS := mo_S.up hS 10 (by decide) rfl j48 (((A 5 j10) - 1) + 1)
                      generalize mm_si M (ad 10) j48 (((A 5 j10) - 1) + 1) = M at hS ⊢
                      refine mr_iload dd_Mo_store_223 rfl ?_
                      refine mr_iload dd_Mo_store_225 rfl ?_
                      refine mr_icmp_eq 244 dd_Mo_store_227 (by decide) (fun hc227 => ?_) (fun hc227 => ?_)
                      · have h := h.1 hc227
                        refine mr_iconst 0 dd_Mo_store_244 (by decide) ?_
                        exact mr_ireturn dd_Mo_store_245 rfl ⟨_, hS, h⟩
                      · have h := h.2 hc227
                        refine mr_aload_n dd_Mo_store_230 rfl ?_
                        refine mr_getr ff_Mo_65 dd_Mo_store_231 rs_8_21 rfl hS.1 ?_
                        rw [mo_p hS 21 (by decide) rfl]
                        refine mr_bipush 60 dd_Mo_store_234 (by decide) ?_
                        refine mr_iload dd_Mo_store_236 rfl ?_
                        refine mr_imul dd_Mo_store_238 ?_
                        refine mr_iload dd_Mo_store_239 rfl ?_
                        refine mr_iadd dd_Mo_store_241 ?_
                        refine mr_iconst 1 dd_Mo_store_242 (by decide) ?_
                        obtain ⟨j51, hj52, hb53, h⟩ := h
                        refine mr_zast dd_Mo_store_243 rfl (mo_k hS 21 (by decide) rfl rfl) hj52 (Nat.lt_trans hb53 (by decide)) (mo_l hS 21 (by decide) rfl rfl hb53) (Or.inr rfl) ?_
                        have hS := mo_S.up hS 21 (by decide) rfl j51 1
                        generalize mm_si M (ad 21) j51 1 = M at hS ⊢
                        refine mr_iconst 0 dd_Mo_store_244 (by decide) ?_
                        exact mr_ireturn dd_Mo_store_245 rfl ⟨_, hS, h⟩
                    · have h := h.2 hc119
                      refine mr_aload_n dd_Mo_store_122 rfl ?_
                      refine mr_iload dd_Mo_store_123 rfl ?_
                      refine mr_callV0 (Yc := Y_Mo_frozen) (M := M) (st := []) (vs := [.inl ((A 6 j16) - 1)]) (ci := 8) fc_Mo_81 iv_Mo_frozen sv_Mo_frozen dd_Mo_store_125 ⟨Nat.le_of_ble_eq_true rfl, Nat.le_of_ble_eq_true rfl⟩ (by decide) rfl rfl (Nat.le_of_ble_eq_true rfl) rfl hS.1 rfl rfl (h M hS) (fun r M _ h => ?_)
                      obtain ⟨B, hS, hB, h⟩ := h
                      rw [hB] at hS
                      obtain ⟨x55, rfl, h⟩ := h
                      show mm_Z l G Y_Mo_store (mo_K a0 ad Mb K) _ 0 0 128 [some (.inr (some a0)), some (.inl xa), some (.inl xb), some (.inl xc), some (.inl xd), some (.inl ((A 5 j7) - 1)), some (.inl ((A 5 j10) - 1)), some (.inl ((A 6 j13) - 1)), some (.inl ((A 6 j16) - 1)), none] [.inl x55] M
                      refine mr_if_eq 135 dd_Mo_store_128 (by decide) (fun hc128 => ?_) (fun hc128 => ?_)
                      · have h := h.1 hc128
                        refine mr_iconst 0 dd_Mo_store_135 (by decide) ?_
                        refine mr_goto 198 dd_Mo_store_136 (by decide) ?_
                        refine mr_istore dd_Mo_store_198 (by decide) ?_
                        show mm_Z l G Y_Mo_store (mo_K a0 ad Mb K) _ 0 0 200 [some (.inr (some a0)), some (.inl xa), some (.inl xb), some (.inl xc), some (.inl xd), some (.inl ((A 5 j7) - 1)), some (.inl ((A 5 j10) - 1)), some (.inl ((A 6 j13) - 1)), some (.inl ((A 6 j16) - 1)), some (.inl 0)] [] M
                        refine mr_iload dd_Mo_store_200 rfl ?_
                        refine mr_if_ne 208 dd_Mo_store_202 (by decide) (fun q => absurd q (by decide)) (fun _ => ?_)
                        refine mr_bipush (-3) dd_Mo_store_205 (by decide) ?_
                        exact mr_ireturn dd_Mo_store_207 rfl ⟨_, hS, h⟩
                      · have h := h.2 hc128
                        refine mr_iconst 1 dd_Mo_store_131 (by decide) ?_
                        refine mr_goto 198 dd_Mo_store_132 (by decide) ?_
                        refine mr_istore dd_Mo_store_198 (by decide) ?_
                        show mm_Z l G Y_Mo_store (mo_K a0 ad Mb K) _ 0 0 200 [some (.inr (some a0)), some (.inl xa), some (.inl xb), some (.inl xc), some (.inl xd), some (.inl ((A 5 j7) - 1)), some (.inl ((A 5 j10) - 1)), some (.inl ((A 6 j13) - 1)), some (.inl ((A 6 j16) - 1)), some (.inl 1)] [] M
                        refine mr_iload dd_Mo_store_200 rfl ?_
                        refine mr_if_ne 208 dd_Mo_store_202 (by decide) (fun _ => ?_) (fun q => absurd q (by decide))
                        refine mr_aload_n dd_Mo_store_208 rfl ?_
                        refine mr_getr ff_Mo_38 dd_Mo_store_209 rs_8_10 rfl hS.1 ?_
                        rw [mo_p hS 10 (by decide) rfl]
                        refine mr_iconst 3 dd_Mo_store_212 (by decide) ?_
                        refine mr_iload dd_Mo_store_213 rfl ?_
                        refine mr_imul dd_Mo_store_215 ?_
                        refine mr_iload_n dd_Mo_store_216 rfl ?_
                        refine mr_iadd dd_Mo_store_217 ?_
                        refine mr_iload dd_Mo_store_218 rfl ?_
                        refine mr_iconst 1 dd_Mo_store_220 (by decide) ?_
                        refine mr_iadd dd_Mo_store_221 ?_
                        obtain ⟨j56, hj57, hb58, h⟩ := h
                        refine mr_iast dd_Mo_store_222 rfl (mo_k hS 10 (by decide) rfl rfl) hj57 (Nat.lt_trans hb58 (by decide)) (mo_l hS 10 (by decide) rfl rfl hb58) ?_
                        have hS := mo_S.up hS 10 (by decide) rfl j56 (((A 5 j10) - 1) + 1)
                        generalize mm_si M (ad 10) j56 (((A 5 j10) - 1) + 1) = M at hS ⊢
                        refine mr_iload dd_Mo_store_223 rfl ?_
                        refine mr_iload dd_Mo_store_225 rfl ?_
                        refine mr_icmp_eq 244 dd_Mo_store_227 (by decide) (fun hc227 => ?_) (fun hc227 => ?_)
                        · have h := h.1 hc227
                          refine mr_iconst 0 dd_Mo_store_244 (by decide) ?_
                          exact mr_ireturn dd_Mo_store_245 rfl ⟨_, hS, h⟩
                        · have h := h.2 hc227
                          refine mr_aload_n dd_Mo_store_230 rfl ?_
                          refine mr_getr ff_Mo_65 dd_Mo_store_231 rs_8_21 rfl hS.1 ?_
                          rw [mo_p hS 21 (by decide) rfl]
                          refine mr_bipush 60 dd_Mo_store_234 (by decide) ?_
                          refine mr_iload dd_Mo_store_236 rfl ?_
                          refine mr_imul dd_Mo_store_238 ?_
                          refine mr_iload dd_Mo_store_239 rfl ?_
                          refine mr_iadd dd_Mo_store_241 ?_
                          refine mr_iconst 1 dd_Mo_store_242 (by decide) ?_
                          obtain ⟨j59, hj60, hb61, h⟩ := h
                          refine mr_zast dd_Mo_store_243 rfl (mo_k hS 21 (by decide) rfl rfl) hj60 (Nat.lt_trans hb61 (by decide)) (mo_l hS 21 (by decide) rfl rfl hb61) (Or.inr rfl) ?_
                          have hS := mo_S.up hS 21 (by decide) rfl j59 1
                          generalize mm_si M (ad 21) j59 1 = M at hS ⊢
                          refine mr_iconst 0 dd_Mo_store_244 (by decide) ?_
                          exact mr_ireturn dd_Mo_store_245 rfl ⟨_, hS, h⟩
              · have h := h.2 hc84
                refine mr_iload dd_Mo_store_87 rfl ?_
                refine mr_goto 101 dd_Mo_store_89 (by decide) ?_
                refine mr_istore dd_Mo_store_101 (by decide) ?_
                show mm_Z l G Y_Mo_store (mo_K a0 ad Mb K) _ 0 0 103 [some (.inr (some a0)), some (.inl xa), some (.inl xb), some (.inl xc), some (.inl xd), some (.inl ((A 5 j7) - 1)), some (.inl ((A 5 j10) - 1)), some (.inl ((A 6 j13) - 1)), some (.inl ((A 6 j13) - 1)), none] [] M
                refine mr_iload dd_Mo_store_103 rfl ?_
                refine mr_iload_n dd_Mo_store_105 rfl ?_
                refine mr_icmp_ne 139 dd_Mo_store_106 (by decide) (fun hc106 => ?_) (fun hc106 => ?_)
                · have h := h.1 hc106
                  refine mr_iload dd_Mo_store_139 rfl ?_
                  refine mr_bipush 8 dd_Mo_store_141 (by decide) ?_
                  refine mr_icmp_ne 177 dd_Mo_store_143 (by decide) (fun hc143 => ?_) (fun hc143 => ?_)
                  · have h := h.1 hc143
                    refine mr_aload_n dd_Mo_store_177 rfl ?_
                    refine mr_iload dd_Mo_store_178 rfl ?_
                    refine mr_callV0 (Yc := Y_Mo_frozen) (M := M) (st := []) (vs := [.inl ((A 6 j13) - 1)]) (ci := 8) fc_Mo_81 iv_Mo_frozen sv_Mo_frozen dd_Mo_store_180 ⟨Nat.le_of_ble_eq_true rfl, Nat.le_of_ble_eq_true rfl⟩ (by decide) rfl rfl (Nat.le_of_ble_eq_true rfl) rfl hS.1 rfl rfl (h M hS) (fun r M _ h => ?_)
                    obtain ⟨B, hS, hB, h⟩ := h
                    rw [hB] at hS
                    obtain ⟨x63, rfl, h⟩ := h
                    show mm_Z l G Y_Mo_store (mo_K a0 ad Mb K) _ 0 0 183 [some (.inr (some a0)), some (.inl xa), some (.inl xb), some (.inl xc), some (.inl xd), some (.inl ((A 5 j7) - 1)), some (.inl ((A 5 j10) - 1)), some (.inl ((A 6 j13) - 1)), some (.inl ((A 6 j13) - 1)), none] [.inl x63] M
                    refine mr_if_ne 197 dd_Mo_store_183 (by decide) (fun hc183 => ?_) (fun hc183 => ?_)
                    · have h := h.1 hc183
                      refine mr_iconst 0 dd_Mo_store_197 (by decide) ?_
                      refine mr_istore dd_Mo_store_198 (by decide) ?_
                      show mm_Z l G Y_Mo_store (mo_K a0 ad Mb K) _ 0 0 200 [some (.inr (some a0)), some (.inl xa), some (.inl xb), some (.inl xc), some (.inl xd), some (.inl ((A 5 j7) - 1)), some (.inl ((A 5 j10) - 1)), some (.inl ((A 6 j13) - 1)), some (.inl ((A 6 j13) - 1)), some (.inl 0)] [] M
                      refine mr_iload dd_Mo_store_200 rfl ?_
                      refine mr_if_ne 208 dd_Mo_store_202 (by decide) (fun q => absurd q (by decide)) (fun _ => ?_)
                      refine mr_bipush (-3) dd_Mo_store_205 (by decide) ?_
                      exact mr_ireturn dd_Mo_store_207 rfl ⟨_, hS, h⟩
                    · have h := h.2 hc183
                      refine mr_iload dd_Mo_store_186 rfl ?_
                      refine mr_iload dd_Mo_store_188 rfl ?_
                      refine mr_icmp_ne 197 dd_Mo_store_190 (by decide) (fun hc190 => ?_) (fun hc190 => ?_)
                      · have h := h.1 hc190
                        refine mr_iconst 0 dd_Mo_store_197 (by decide) ?_
                        refine mr_istore dd_Mo_store_198 (by decide) ?_
                        show mm_Z l G Y_Mo_store (mo_K a0 ad Mb K) _ 0 0 200 [some (.inr (some a0)), some (.inl xa), some (.inl xb), some (.inl xc), some (.inl xd), some (.inl ((A 5 j7) - 1)), some (.inl ((A 5 j10) - 1)), some (.inl ((A 6 j13) - 1)), some (.inl ((A 6 j13) - 1)), some (.inl 0)] [] M
                        refine mr_iload dd_Mo_store_200 rfl ?_
                        refine mr_if_ne 208 dd_Mo_store_202 (by decide) (fun q => absurd q (by decide)) (fun _ => ?_)
                        refine mr_bipush (-3) dd_Mo_store_205 (by decide) ?_
                        exact mr_ireturn dd_Mo_store_207 rfl ⟨_, hS, h⟩
                      · have h := h.2 hc190
                        refine mr_iconst 1 dd_Mo_store_193 (by decide) ?_
                        refine mr_goto 198 dd_Mo_store_194 (by decide) ?_
                        refine mr_istore dd_Mo_store_198 (by decide) ?_
                        show mm_Z l G Y_Mo_store (mo_K a0 ad Mb K) _ 0 0 200 [some (.inr (some a0)), some (.inl xa), some (.inl xb), some (.inl xc), some (.inl xd), some (.inl ((A 5 j7) - 1)), some (.inl ((A 5 j10) - 1)), some (.inl ((A 6 j13) - 1)), some (.inl ((A 6 j13) - 1)), some (.inl 1)] [] M
                        refine mr_iload dd_Mo_store_200 rfl ?_
                        refine mr_if_ne 208 dd_Mo_store_202 (by decide) (fun _ => ?_) (fun q => absurd q (by decide))
                        refine mr_aload_n dd_Mo_store_208 rfl ?_
                        refine mr_getr ff_Mo_38 dd_Mo_store_209 rs_8_10 rfl hS.1 ?_
                        rw [mo_p hS 10 (by decide) rfl]
                        refine mr_iconst 3 dd_Mo_store_212 (by decide) ?_
                        refine mr_iload dd_Mo_store_213 rfl ?_
                        refine mr_imul dd_Mo_store_215 ?_
                        refine mr_iload_n dd_Mo_store_216 rfl ?_
                        refine mr_iadd dd_Mo_store_217 ?_
                        refine mr_iload dd_Mo_store_218 rfl ?_
                        refine mr_iconst 1 dd_Mo_store_220 (by decide) ?_
                        refine mr_iadd dd_Mo_store_221 ?_
                        obtain ⟨j64, hj65, hb66, h⟩ := h
                        refine mr_iast dd_Mo_store_222 rfl (mo_k hS 10 (by decide) rfl rfl) hj65 (Nat.lt_trans hb66 (by decide)) (mo_l hS 10 (by decide) rfl rfl hb66) ?_
                        have hS := mo_S.up hS 10 (by decide) rfl j64 (((A 5 j10) - 1) + 1)
                        generalize mm_si M (ad 10) j64 (((A 5 j10) - 1) + 1) = M at hS ⊢
                        refine mr_iload dd_Mo_store_223 rfl ?_
                        refine mr_iload dd_Mo_store_225 rfl ?_
                        refine mr_icmp_eq 244 dd_Mo_store_227 (by decide) (fun hc227 => ?_) (fun hc227 => ?_)
                        · have h := h.1 hc227
                          refine mr_iconst 0 dd_Mo_store_244 (by decide) ?_
                          exact mr_ireturn dd_Mo_store_245 rfl ⟨_, hS, h⟩
                        · have h := h.2 hc227
                          refine mr_aload_n dd_Mo_store_230 rfl ?_
                          refine mr_getr ff_Mo_65 dd_Mo_store_231 rs_8_21 rfl hS.1 ?_
                          rw [mo_p hS 21 (by decide) rfl]
                          refine mr_bipush 60 dd_Mo_store_234 (by decide) ?_
                          refine mr_iload dd_Mo_store_236 rfl ?_
                          refine mr_imul dd_Mo_store_238 ?_
                          refine mr_iload dd_Mo_store_239 rfl ?_
                          refine mr_iadd dd_Mo_store_241 ?_
                          refine mr_iconst 1 dd_Mo_store_242 (by decide) ?_
                          obtain ⟨j67, hj68, hb69, h⟩ := h
                          refine mr_zast dd_Mo_store_243 rfl (mo_k hS 21 (by decide) rfl rfl) hj68 (Nat.lt_trans hb69 (by decide)) (mo_l hS 21 (by decide) rfl rfl hb69) (Or.inr rfl) ?_
                          have hS := mo_S.up hS 21 (by decide) rfl j67 1
                          generalize mm_si M (ad 21) j67 1 = M at hS ⊢
                          refine mr_iconst 0 dd_Mo_store_244 (by decide) ?_
                          exact mr_ireturn dd_Mo_store_245 rfl ⟨_, hS, h⟩
                  · have h := h.2 hc143
                    refine mr_aload_n dd_Mo_store_146 rfl ?_
                    refine mr_getr ff_Mo_7 dd_Mo_store_147 rs_8_0 rfl hS.1 ?_
                    rw [mo_p hS 0 (by decide) rfl]
                    refine mr_iload_n dd_Mo_store_150 rfl ?_
                    obtain ⟨j70, hj71, hb72, h⟩ := h
                    refine mr_iald dd_Mo_store_151 rfl (mo_k hS 0 (by decide) rfl rfl) hj71 (Nat.lt_trans hb72 (by decide)) (mo_l hS 0 (by decide) rfl rfl hb72) ?_
                    rw [mo_i hS 0 (by decide) rfl rfl hb72]
                    refine mr_iconst 2 dd_Mo_store_152 (by decide) ?_
                    refine mr_icmp_lt 173 dd_Mo_store_153 (by decide) (fun hc153 => ?_) (fun hc153 => ?_)
                    · have h := h.1 hc153
                      refine mr_iconst 0 dd_Mo_store_173 (by decide) ?_
                      refine mr_goto 198 dd_Mo_store_174 (by decide) ?_
                      refine mr_istore dd_Mo_store_198 (by decide) ?_
                      show mm_Z l G Y_Mo_store (mo_K a0 ad Mb K) _ 0 0 200 [some (.inr (some a0)), some (.inl xa), some (.inl xb), some (.inl xc), some (.inl xd), some (.inl ((A 5 j7) - 1)), some (.inl ((A 5 j10) - 1)), some (.inl ((A 6 j13) - 1)), some (.inl ((A 6 j13) - 1)), some (.inl 0)] [] M
                      refine mr_iload dd_Mo_store_200 rfl ?_
                      refine mr_if_ne 208 dd_Mo_store_202 (by decide) (fun q => absurd q (by decide)) (fun _ => ?_)
                      refine mr_bipush (-3) dd_Mo_store_205 (by decide) ?_
                      exact mr_ireturn dd_Mo_store_207 rfl ⟨_, hS, h⟩
                    · have h := h.2 hc153
                      refine mr_iload dd_Mo_store_156 rfl ?_
                      refine mr_bipush 8 dd_Mo_store_158 (by decide) ?_
                      refine mr_icmp_eq 169 dd_Mo_store_160 (by decide) (fun hc160 => ?_) (fun hc160 => ?_)
                      · have h := h.1 hc160
                        refine mr_iconst 1 dd_Mo_store_169 (by decide) ?_
                        refine mr_goto 198 dd_Mo_store_170 (by decide) ?_
                        refine mr_istore dd_Mo_store_198 (by decide) ?_
                        show mm_Z l G Y_Mo_store (mo_K a0 ad Mb K) _ 0 0 200 [some (.inr (some a0)), some (.inl xa), some (.inl xb), some (.inl xc), some (.inl xd), some (.inl ((A 5 j7) - 1)), some (.inl ((A 5 j10) - 1)), some (.inl ((A 6 j13) - 1)), some (.inl ((A 6 j13) - 1)), some (.inl 1)] [] M
                        refine mr_iload dd_Mo_store_200 rfl ?_
                        refine mr_if_ne 208 dd_Mo_store_202 (by decide) (fun _ => ?_) (fun q => absurd q (by decide))
                        refine mr_aload_n dd_Mo_store_208 rfl ?_
                        refine mr_getr ff_Mo_38 dd_Mo_store_209 rs_8_10 rfl hS.1 ?_
                        rw [mo_p hS 10 (by decide) rfl]
                        refine mr_iconst 3 dd_Mo_store_212 (by decide) ?_
                        refine mr_iload dd_Mo_store_213 rfl ?_
                        refine mr_imul dd_Mo_store_215 ?_
                        refine mr_iload_n dd_Mo_store_216 rfl ?_
                        refine mr_iadd dd_Mo_store_217 ?_
                        refine mr_iload dd_Mo_store_218 rfl ?_
                        refine mr_iconst 1 dd_Mo_store_220 (by decide) ?_
                        refine mr_iadd dd_Mo_store_221 ?_
                        obtain ⟨j73, hj74, hb75, h⟩ := h
                        refine mr_iast dd_Mo_store_222 rfl (mo_k hS 10 (by decide) rfl rfl) hj74 (Nat.lt_trans hb75 (by decide)) (mo_l hS 10 (by decide) rfl rfl hb75) ?_
                        have hS := mo_S.up hS 10 (by decide) rfl j73 (((A 5 j10) - 1) + 1)
                        generalize mm_si M (ad 10) j73 (((A 5 j10) - 1) + 1) = M at hS ⊢
                        refine mr_iload dd_Mo_store_223 rfl ?_
                        refine mr_iload dd_Mo_store_225 rfl ?_
                        refine mr_icmp_eq 244 dd_Mo_store_227 (by decide) (fun hc227 => ?_) (fun hc227 => ?_)
                        · have h := h.1 hc227
                          refine mr_iconst 0 dd_Mo_store_244 (by decide) ?_
                          exact mr_ireturn dd_Mo_store_245 rfl ⟨_, hS, h⟩
                        · have h := h.2 hc227
                          refine mr_aload_n dd_Mo_store_230 rfl ?_
                          refine mr_getr ff_Mo_65 dd_Mo_store_231 rs_8_21 rfl hS.1 ?_
                          rw [mo_p hS 21 (by decide) rfl]
                          refine mr_bipush 60 dd_Mo_store_234 (by decide) ?_
                          refine mr_iload dd_Mo_store_236 rfl ?_
                          refine mr_imul dd_Mo_store_238 ?_
                          refine mr_iload dd_Mo_store_239 rfl ?_
                          refine mr_iadd dd_Mo_store_241 ?_
                          refine mr_iconst 1 dd_Mo_store_242 (by decide) ?_
                          obtain ⟨j76, hj77, hb78, h⟩ := h
                          refine mr_zast dd_Mo_store_243 rfl (mo_k hS 21 (by decide) rfl rfl) hj77 (Nat.lt_trans hb78 (by decide)) (mo_l hS 21 (by decide) rfl rfl hb78) (Or.inr rfl) ?_
                          have hS := mo_S.up hS 21 (by decide) rfl j76 1
                          generalize mm_si M (ad 21) j76 1 = M at hS ⊢
                          refine mr_iconst 0 dd_Mo_store_244 (by decide) ?_
                          exact mr_ireturn dd_Mo_store_245 rfl ⟨_, hS, h⟩
                      · have h := h.2 hc160
                        refine mr_iload dd_Mo_store_163 rfl ?_
                        refine mr_iload_n dd_Mo_store_165 rfl ?_
                        refine mr_icmp_ne 173 dd_Mo_store_166 (by decide) (fun hc166 => ?_) (fun hc166 => ?_)
                        · have h := h.1 hc166
                          refine mr_iconst 0 dd_Mo_store_173 (by decide) ?_
                          refine mr_goto 198 dd_Mo_store_174 (by decide) ?_
                          refine mr_istore dd_Mo_store_198 (by decide) ?_
                          show mm_Z l G Y_Mo_store (mo_K a0 ad Mb K) _ 0 0 200 [some (.inr (some a0)), some (.inl xa), some (.inl xb), some (.inl xc), some (.inl xd), some (.inl ((A 5 j7) - 1)), some (.inl ((A 5 j10) - 1)), some (.inl ((A 6 j13) - 1)), some (.inl ((A 6 j13) - 1)), some (.inl 0)] [] M
                          refine mr_iload dd_Mo_store_200 rfl ?_
                          refine mr_if_ne 208 dd_Mo_store_202 (by decide) (fun q => absurd q (by decide)) (fun _ => ?_)
                          refine mr_bipush (-3) dd_Mo_store_205 (by decide) ?_
                          exact mr_ireturn dd_Mo_store_207 rfl ⟨_, hS, h⟩
                        · have h := h.2 hc166
                          refine mr_iconst 1 dd_Mo_store_169 (by decide) ?_
                          refine mr_goto 198 dd_Mo_store_170 (by decide) ?_
                          refine mr_istore dd_Mo_store_198 (by decide) ?_
                          show mm_Z l G Y_Mo_store (mo_K a0 ad Mb K) _ 0 0 200 [some (.inr (some a0)), some (.inl xa), some (.inl xb), some (.inl xc), some (.inl xd), some (.inl ((A 5 j7) - 1)), some (.inl ((A 5 j10) - 1)), some (.inl ((A 6 j13) - 1)), some (.inl ((A 6 j13) - 1)), some (.inl 1)] [] M
                          refine mr_iload dd_Mo_store_200 rfl ?_
                          refine mr_if_ne 208 dd_Mo_store_202 (by decide) (fun _ => ?_) (fun q => absurd q (by decide))
                          refine mr_aload_n dd_Mo_store_208 rfl ?_
                          refine mr_getr ff_Mo_38 dd_Mo_store_209 rs_8_10 rfl hS.1 ?_
                          rw [mo_p hS 10 (by decide) rfl]
                          refine mr_iconst 3 dd_Mo_store_212 (by decide) ?_
                          refine mr_iload dd_Mo_store_213 rfl ?_
                          refine mr_imul dd_Mo_store_215 ?_
                          refine mr_iload_n dd_Mo_store_216 rfl ?_
                          refine mr_iadd dd_Mo_store_217 ?_
                          refine mr_iload dd_Mo_store_218 rfl ?_
                          refine mr_iconst 1 dd_Mo_store_220 (by decide) ?_
                          refine mr_iadd dd_Mo_store_221 ?_
                          obtain ⟨j79, hj80, hb81, h⟩ := h
                          refine mr_iast dd_Mo_store_222 rfl (mo_k hS 10 (by decide) rfl rfl) hj80 (Nat.lt_trans hb81 (by decide)) (mo_l hS 10 (by decide) rfl rfl hb81) ?_
                          have hS := mo_S.up hS 10 (by decide) rfl j79 (((A 5 j10) - 1) + 1)
                          generalize mm_si M (ad 10) j79 (((A 5 j10) - 1) + 1) = M at hS ⊢
                          refine mr_iload dd_Mo_store_223 rfl ?_
                          refine mr_iload dd_Mo_store_225 rfl ?_
                          refine mr_icmp_eq 244 dd_Mo_store_227 (by decide) (fun hc227 => ?_) (fun hc227 => ?_)
                          · have h := h.1 hc227
                            refine mr_iconst 0 dd_Mo_store_244 (by decide) ?_
                            exact mr_ireturn dd_Mo_store_245 rfl ⟨_, hS, h⟩
                          · have h := h.2 hc227
                            refine mr_aload_n dd_Mo_store_230 rfl ?_
                            refine mr_getr ff_Mo_65 dd_Mo_store_231 rs_8_21 rfl hS.1 ?_
                            rw [mo_p hS 21 (by decide) rfl]
                            refine mr_bipush 60 dd_Mo_store_234 (by decide) ?_
                            refine mr_iload dd_Mo_store_236 rfl ?_
                            refine mr_imul dd_Mo_store_238 ?_
                            refine mr_iload dd_Mo_store_239 rfl ?_
                            refine mr_iadd dd_Mo_store_241 ?_
                            refine mr_iconst 1 dd_Mo_store_242 (by decide) ?_
                            obtain ⟨j82, hj83, hb84, h⟩ := h
                            refine mr_zast dd_Mo_store_243 rfl (mo_k hS 21 (by decide) rfl rfl) hj83 (Nat.lt_trans hb84 (by decide)) (mo_l hS 21 (by decide) rfl rfl hb84) (Or.inr rfl) ?_
                            have hS := mo_S.up hS 21 (by decide) rfl j82 1
                            generalize mm_si M (ad 21) j82 1 = M at hS ⊢
                            refine mr_iconst 0 dd_Mo_store_244 (by decide) ?_
                            exact mr_ireturn dd_Mo_store_245 rfl ⟨_, hS, h⟩
                · have h := h.2 hc106
                  refine mr_iload dd_Mo_store_109 rfl ?_
                  refine mr_iload_n dd_Mo_store_111 rfl ?_
                  refine mr_icmp_eq 131 dd_Mo_store_112 (by decide) (fun hc112 => ?_) (fun hc112 => ?_)
                  · have h := h.1 hc112
                    refine mr_iconst 1 dd_Mo_store_131 (by decide) ?_
                    refine mr_goto 198 dd_Mo_store_132 (by decide) ?_
                    refine mr_istore dd_Mo_store_198 (by decide) ?_
                    show mm_Z l G Y_Mo_store (mo_K a0 ad Mb K) _ 0 0 200 [some (.inr (some a0)), some (.inl xa), some (.inl xb), some (.inl xc), some (.inl xd), some (.inl ((A 5 j7) - 1)), some (.inl ((A 5 j10) - 1)), some (.inl ((A 6 j13) - 1)), some (.inl ((A 6 j13) - 1)), some (.inl 1)] [] M
                    refine mr_iload dd_Mo_store_200 rfl ?_
                    refine mr_if_ne 208 dd_Mo_store_202 (by decide) (fun _ => ?_) (fun q => absurd q (by decide))
                    refine mr_aload_n dd_Mo_store_208 rfl ?_
                    refine mr_getr ff_Mo_38 dd_Mo_store_209 rs_8_10 rfl hS.1 ?_
                    rw [mo_p hS 10 (by decide) rfl]
                    refine mr_iconst 3 dd_Mo_store_212 (by decide) ?_
                    refine mr_iload dd_Mo_store_213 rfl ?_
                    refine mr_imul dd_Mo_store_215 ?_
                    refine mr_iload_n dd_Mo_store_216 rfl ?_
                    refine mr_iadd dd_Mo_store_217 ?_
                    refine mr_iload dd_Mo_store_218 rfl ?_
                    refine mr_iconst 1 dd_Mo_store_220 (by decide) ?_
                    refine mr_iadd dd_Mo_store_221 ?_
                    obtain ⟨j85, hj86, hb87, h⟩ := h
                    refine mr_iast dd_Mo_store_222 rfl (mo_k hS 10 (by decide) rfl rfl) hj86 (Nat.lt_trans hb87 (by decide)) (mo_l hS 10 (by decide) rfl rfl hb87) ?_
                    have hS := mo_S.up hS 10 (by decide) rfl j85 (((A 5 j10) - 1) + 1)
                    generalize mm_si M (ad 10) j85 (((A 5 j10) - 1) + 1) = M at hS ⊢
                    refine mr_iload dd_Mo_store_223 rfl ?_
                    refine mr_iload dd_Mo_store_225 rfl ?_
                    refine mr_icmp_eq 244 dd_Mo_store_227 (by decide) (fun hc227 => ?_) (fun hc227 => ?_)
                    · have h := h.1 hc227
                      refine mr_iconst 0 dd_Mo_store_244 (by decide) ?_
                      exact mr_ireturn dd_Mo_store_245 rfl ⟨_, hS, h⟩
                    · have h := h.2 hc227
                      refine mr_aload_n dd_Mo_store_230 rfl ?_
                      refine mr_getr ff_Mo_65 dd_Mo_store_231 rs_8_21 rfl hS.1 ?_
                      rw [mo_p hS 21 (by decide) rfl]
                      refine mr_bipush 60 dd_Mo_store_234 (by decide) ?_
                      refine mr_iload dd_Mo_store_236 rfl ?_
                      refine mr_imul dd_Mo_store_238 ?_
                      refine mr_iload dd_Mo_store_239 rfl ?_
                      refine mr_iadd dd_Mo_store_241 ?_
                      refine mr_iconst 1 dd_Mo_store_242 (by decide) ?_
                      obtain ⟨j88, hj89, hb90, h⟩ := h
                      refine mr_zast dd_Mo_store_243 rfl (mo_k hS 21 (by decide) rfl rfl) hj89 (Nat.lt_trans hb90 (by decide)) (mo_l hS 21 (by decide) rfl rfl hb90) (Or.inr rfl) ?_
                      have hS := mo_S.up hS 21 (by decide) rfl j88 1
                      generalize mm_si M (ad 21) j88 1 = M at hS ⊢
                      refine mr_iconst 0 dd_Mo_store_244 (by decide) ?_
                      exact mr_ireturn dd_Mo_store_245 rfl ⟨_, hS, h⟩
                  · have h := h.2 hc112
                    refine mr_iload dd_Mo_store_115 rfl ?_
                    refine mr_bipush 8 dd_Mo_store_117 (by decide) ?_
                    refine mr_icmp_eq 131 dd_Mo_store_119 (by decide) (fun hc119 => ?_) (fun hc119 => ?_)
                    · have h := h.1 hc119
                      refine mr_iconst 1 dd_Mo_store_131 (by decide) ?_
                      refine mr_goto 198 dd_Mo_store_132 (by decide) ?_
                      refine mr_istore dd_Mo_store_198 (by decide) ?_
                      show mm_Z l G Y_Mo_store (mo_K a0 ad Mb K) _ 0 0 200 [some (.inr (some a0)), some (.inl xa), some (.inl xb), some (.inl xc), some (.inl xd), some (.inl ((A 5 j7) - 1)), some (.inl ((A 5 j10) - 1)), some (.inl ((A 6 j13) - 1)), some (.inl ((A 6 j13) - 1)), some (.inl 1)] [] M
                      refine mr_iload dd_Mo_store_200 rfl ?_
                      refine mr_if_ne 208 dd_Mo_store_202 (by decide) (fun _ => ?_) (fun q => absurd q (by decide))
                      refine mr_aload_n dd_Mo_store_208 rfl ?_
                      refine mr_getr ff_Mo_38 dd_Mo_store_209 rs_8_10 rfl hS.1 ?_
                      rw [mo_p hS 10 (by decide) rfl]
                      refine mr_iconst 3 dd_Mo_store_212 (by decide) ?_
                      refine mr_iload dd_Mo_store_213 rfl ?_
                      refine mr_imul dd_Mo_store_215 ?_
                      refine mr_iload_n dd_Mo_store_216 rfl ?_
                      refine mr_iadd dd_Mo_store_217 ?_
                      refine mr_iload dd_Mo_store_218 rfl ?_
                      refine mr_iconst 1 dd_Mo_store_220 (by decide) ?_
                      refine mr_iadd dd_Mo_store_221 ?_
                      obtain ⟨j91, hj92, hb93, h⟩ := h
                      refine mr_iast dd_Mo_store_222 rfl (mo_k hS 10 (by decide) rfl rfl) hj92 (Nat.lt_trans hb93 (by decide)) (mo_l hS 10 (by decide) rfl rfl hb93) ?_
                      have hS := mo_S.up hS 10 (by decide) rfl j91 (((A 5 j10) - 1) + 1)
                      generalize mm_si M (ad 10) j91 (((A 5 j10) - 1) + 1) = M at hS ⊢
                      refine mr_iload dd_Mo_store_223 rfl ?_
                      refine mr_iload dd_Mo_store_225 rfl ?_
                      refine mr_icmp_eq 244 dd_Mo_store_227 (by decide) (fun hc227 => ?_) (fun hc227 => ?_)
                      · have h := h.1 hc227
                        refine mr_iconst 0 dd_Mo_store_244 (by decide) ?_
                        exact mr_ireturn dd_Mo_store_245 rfl ⟨_, hS, h⟩
                      · have h := h.2 hc227
                        refine mr_aload_n dd_Mo_store_230 rfl ?_
                        refine mr_getr ff_Mo_65 dd_Mo_store_231 rs_8_21 rfl hS.1 ?_
                        rw [mo_p hS 21 (by decide) rfl]
                        refine mr_bipush 60 dd_Mo_store_234 (by decide) ?_
                        refine mr_iload dd_Mo_store_236 rfl ?_
                        refine mr_imul dd_Mo_store_238 ?_
                        refine mr_iload dd_Mo_store_239 rfl ?_
                        refine mr_iadd dd_Mo_store_241 ?_
                        refine mr_iconst 1 dd_Mo_store_242 (by decide) ?_
                        obtain ⟨j94, hj95, hb96, h⟩ := h
                        refine mr_zast dd_Mo_store_243 rfl (mo_k hS 21 (by decide) rfl rfl) hj95 (Nat.lt_trans hb96 (by decide)) (mo_l hS 21 (by decide) rfl rfl hb96) (Or.inr rfl) ?_
                        have hS := mo_S.up hS 21 (by decide) rfl j94 1
                        generalize mm_si M (ad 21) j94 1 = M at hS ⊢
                        refine mr_iconst 0 dd_Mo_store_244 (by decide) ?_
                        exact mr_ireturn dd_Mo_store_245 rfl ⟨_, hS, h⟩
                    · have h := h.2 hc119
                      refine mr_aload_n dd_Mo_store_122 rfl ?_
                      refine mr_iload dd_Mo_store_123 rfl ?_
                      refine mr_callV0 (Yc := Y_Mo_frozen) (M := M) (st := []) (vs := [.inl ((A 6 j13) - 1)]) (ci := 8) fc_Mo_81 iv_Mo_frozen sv_Mo_frozen dd_Mo_store_125 ⟨Nat.le_of_ble_eq_true rfl, Nat.le_of_ble_eq_true rfl⟩ (by decide) rfl rfl (Nat.le_of_ble_eq_true rfl) rfl hS.1 rfl rfl (h M hS) (fun r M _ h => ?_)
                      obtain ⟨B, hS, hB, h⟩ := h
                      rw [hB] at hS
                      obtain ⟨x98, rfl, h⟩ := h
                      show mm_Z l G Y_Mo_store (mo_K a0 ad Mb K) _ 0 0 128 [some (.inr (some a0)), some (.inl xa), some (.inl xb), some (.inl xc), some (.inl xd), some (.inl ((A 5 j7) - 1)), some (.inl ((A 5 j10) - 1)), some (.inl ((A 6 j13) - 1)), some (.inl ((A 6 j13) - 1)), none] [.inl x98] M
                      refine mr_if_eq 135 dd_Mo_store_128 (by decide) (fun hc128 => ?_) (fun hc128 => ?_)
                      · have h := h.1 hc128
                        refine mr_iconst 0 dd_Mo_store_135 (by decide) ?_
                        refine mr_goto 198 dd_Mo_store_136 (by decide) ?_
                        refine mr_istore dd_Mo_store_198 (by decide) ?_
                        show mm_Z l G Y_Mo_store (mo_K a0 ad Mb K) _ 0 0 200 [some (.inr (some a0)), some (.inl xa), some (.inl xb), some (.inl xc), some (.inl xd), some (.inl ((A 5 j7) - 1)), some (.inl ((A 5 j10) - 1)), some (.inl ((A 6 j13) - 1)), some (.inl ((A 6 j13) - 1)), some (.inl 0)] [] M
                        refine mr_iload dd_Mo_store_200 rfl ?_
                        refine mr_if_ne 208 dd_Mo_store_202 (by decide) (fun q => absurd q (by decide)) (fun _ => ?_)
                        refine mr_bipush (-3) dd_Mo_store_205 (by decide) ?_
                        exact mr_ireturn dd_Mo_store_207 rfl ⟨_, hS, h⟩
                      · have h := h.2 hc128
                        refine mr_iconst 1 dd_Mo_store_131 (by decide) ?_
                        refine mr_goto 198 dd_Mo_store_132 (by decide) ?_
                        refine mr_istore dd_Mo_store_198 (by decide) ?_
                        show mm_Z l G Y_Mo_store (mo_K a0 ad Mb K) _ 0 0 200 [some (.inr (some a0)), some (.inl xa), some (.inl xb), some (.inl xc), some (.inl xd), some (.inl ((A 5 j7) - 1)), some (.inl ((A 5 j10) - 1)), some (.inl ((A 6 j13) - 1)), some (.inl ((A 6 j13) - 1)), some (.inl 1)] [] M
                        refine mr_iload dd_Mo_store_200 rfl ?_
                        refine mr_if_ne 208 dd_Mo_store_202 (by decide) (fun _ => ?_) (fun q => absurd q (by decide))
                        refine mr_aload_n dd_Mo_store_208 rfl ?_
                        refine mr_getr ff_Mo_38 dd_Mo_store_209 rs_8_10 rfl hS.1 ?_
                        rw [mo_p hS 10 (by decide) rfl]
                        refine mr_iconst 3 dd_Mo_store_212 (by decide) ?_
                        refine mr_iload dd_Mo_store_213 rfl ?_
                        refine mr_imul dd_Mo_store_215 ?_
                        refine mr_iload_n dd_Mo_store_216 rfl ?_
                        refine mr_iadd dd_Mo_store_217 ?_
                        refine mr_iload dd_Mo_store_218 rfl ?_
                        refine mr_iconst 1 dd_Mo_store_220 (by decide) ?_
                        refine mr_iadd dd_Mo_store_221 ?_
                        obtain ⟨j99, hj100, hb101, h⟩ := h
                        refine mr_iast dd_Mo_store_222 rfl (mo_k hS 10 (by decide) rfl rfl) hj100 (Nat.lt_trans hb101 (by decide)) (mo_l hS 10 (by decide) rfl rfl hb101) ?_
                        have hS := mo_S.up hS 10 (by decide) rfl j99 (((A 5 j10) - 1) + 1)
                        generalize mm_si M (ad 10) j99 (((A 5 j10) - 1) + 1) = M at hS ⊢
                        refine mr_iload dd_Mo_store_223 rfl ?_
                        refine mr_iload dd_Mo_store_225 rfl ?_
                        refine mr_icmp_eq 244 dd_Mo_store_227 (by decide) (fun hc227 => ?_) (fun hc227 => ?_)
                        · have h := h.1 hc227
                          refine mr_iconst 0 dd_Mo_store_244 (by decide) ?_
                          exact mr_ireturn dd_Mo_store_245 rfl ⟨_, hS, h⟩
                        · have h := h.2 hc227
                          refine mr_aload_n dd_Mo_store_230 rfl ?_
                          refine mr_getr ff_Mo_65 dd_Mo_store_231 rs_8_21 rfl hS.1 ?_
                          rw [mo_p hS 21 (by decide) rfl]
                          refine mr_bipush 60 dd_Mo_store_234 (by decide) ?_
                          refine mr_iload dd_Mo_store_236 rfl ?_
                          refine mr_imul dd_Mo_store_238 ?_
                          refine mr_iload dd_Mo_store_239 rfl ?_
                          refine mr_iadd dd_Mo_store_241 ?_
                          refine mr_iconst 1 dd_Mo_store_242 (by decide) ?_
                          obtain ⟨j102, hj103, hb104, h⟩ := h
                          refine mr_zast dd_Mo_store_243 rfl (mo_k hS 21 (by decide) rfl rfl) hj103 (Nat.lt_trans hb104 (by decide)) (mo_l hS 21 (by decide) rfl rfl hb104) (Or.inr rfl) ?_
                          have hS := mo_S.up hS 21 (by decide) rfl j102 1
                          generalize mm_si M (ad 21) j102 1 = M at hS ⊢
                          refine mr_iconst 0 dd_Mo_store_244 (by decide) ?_
                          exact mr_ireturn dd_Mo_store_245 rfl ⟨_, hS, h⟩
            · have h := h.2 hc65
              refine mr_bipush (-2) dd_Mo_store_68 (by decide) ?_
              exact mr_ireturn dd_Mo_store_70 rfl ⟨_, hS, h⟩
          · have h := h.2 hc29
            refine mr_iconst (-1) dd_Mo_store_32 (by decide) ?_
            exact mr_ireturn dd_Mo_store_33 rfl ⟨_, hS, h⟩
set_option maxHeartbeats 4000000 in
set_option maxRecDepth 100000 in
theorem mg_load {l : Launch} {G : mm_G} {K : Option mm_V → mo_A → Prop} {a0 : Nat} {ad : Nat → Nat} {Mb : mm_M} {A : mo_A} {xa : Int32} {xb : Int32} {xc : Int32} {xd : Int32}
    (h : mo_Ok l G yy_Mo_lives Y_Mo_lives [.inr (some a0), .inl xa] a0 ad Mb A (fun r B => B = A ∧ ∃ x2 : Int32, r = some (.inl x2) ∧ (x2 = 0 → K (some (.inl (-1))) A) ∧ (¬ x2 = 0 → mo_Ok l G yy_Mo_isRegister Y_Mo_isRegister [.inl xb] a0 ad Mb A (fun r B => B = A ∧ ∃ x4 : Int32, r = some (.inl x4) ∧ (x4 = 0 → K (some (.inl (-1))) A) ∧ (¬ x4 = 0 → mo_Ok l G yy_Mo_isRegister Y_Mo_isRegister [.inl xc] a0 ad Mb A (fun r B => B = A ∧ ∃ x6 : Int32, r = some (.inl x6) ∧ (x6 = 0 → K (some (.inl (-1))) A) ∧ (¬ x6 = 0 → (xd < 0 → K (some (.inl (-1))) A) ∧ (¬ xd < 0 → (xd ≤ 2 → ∃ j7 : Nat, ((4 * xa) + xc) = nI j7 ∧ j7 < 32 ∧ (0 ≤ ((A 5 j7) - 1) → ∃ j10 : Nat, ((3 * ((A 5 j7) - 1)) + xd) = nI j10 ∧ j10 < 180 ∧ (0 ≤ ((A 10 j10) - 1) → ∃ j13 : Nat, ((A 10 j10) - 1) = nI j13 ∧ j13 < 60 ∧ (8 ≤ ((A 6 j13) - 1) → mo_Ok l G yy_Mo_frozen Y_Mo_frozen [.inr (some a0), .inl ((A 6 j13) - 1)] a0 ad Mb A (fun r B => B = A ∧ ∃ x17 : Int32, r = some (.inl x17) ∧ (x17 = 0 → ∃ j18 : Nat, ((4 * xa) + xb) = nI j18 ∧ j18 < 32 ∧ K (some (.inl 0)) (mo_u A 5 j18 (((A 10 j10) - 1) + 1))) ∧ (¬ x17 = 0 → ∃ j21 : Nat, (((4 * xa) + ((A 6 j13) - 1)) - 9) = nI j21 ∧ j21 < 32 ∧ (¬ (A 19 j21) = 0 → ∃ j24 : Nat, ((4 * xa) + xb) = nI j24 ∧ j24 < 32 ∧ K (some (.inl 0)) (mo_u A 5 j24 (((A 10 j10) - 1) + 1))) ∧ ((A 19 j21) = 0 → K (some (.inl (-3))) A)))) ∧ (¬ 8 ≤ ((A 6 j13) - 1) → (¬ ((A 6 j13) - 1) = xa → K (some (.inl (-3))) A) ∧ (((A 6 j13) - 1) = xa → mo_Ok l G yy_Mo_frozen Y_Mo_frozen [.inr (some a0), .inl ((A 6 j13) - 1)] a0 ad Mb A (fun r B => B = A ∧ ∃ x28 : Int32, r = some (.inl x28) ∧ (x28 = 0 → ∃ j29 : Nat, ((4 * xa) + xb) = nI j29 ∧ j29 < 32 ∧ K (some (.inl 0)) (mo_u A 5 j29 (((A 10 j10) - 1) + 1))) ∧ (¬ x28 = 0 → ∃ j32 : Nat, (((4 * xa) + ((A 6 j13) - 1)) - 9) = nI j32 ∧ j32 < 32 ∧ (¬ (A 19 j32) = 0 → ∃ j35 : Nat, ((4 * xa) + xb) = nI j35 ∧ j35 < 32 ∧ K (some (.inl 0)) (mo_u A 5 j35 (((A 10 j10) - 1) + 1))) ∧ ((A 19 j32) = 0 → K (some (.inl (-3))) A)))))) ∧ (¬ 0 ≤ ((A 10 j10) - 1) → (8 ≤ xa → mo_Ok l G yy_Mo_frozen Y_Mo_frozen [.inr (some a0), .inl xa] a0 ad Mb A (fun r B => B = A ∧ ∃ x39 : Int32, r = some (.inl x39) ∧ (x39 = 0 → ∃ j40 : Nat, ((4 * xa) + xb) = nI j40 ∧ j40 < 32 ∧ K (some (.inl 0)) (mo_u A 5 j40 (((A 10 j10) - 1) + 1))) ∧ (¬ x39 = 0 → ∃ j43 : Nat, (((4 * xa) + xa) - 9) = nI j43 ∧ j43 < 32 ∧ (¬ (A 19 j43) = 0 → ∃ j46 : Nat, ((4 * xa) + xb) = nI j46 ∧ j46 < 32 ∧ K (some (.inl 0)) (mo_u A 5 j46 (((A 10 j10) - 1) + 1))) ∧ ((A 19 j43) = 0 → K (some (.inl (-3))) A)))) ∧ (¬ 8 ≤ xa → (¬ xa = xa → K (some (.inl (-3))) A) ∧ (xa = xa → mo_Ok l G yy_Mo_frozen Y_Mo_frozen [.inr (some a0), .inl xa] a0 ad Mb A (fun r B => B = A ∧ ∃ x50 : Int32, r = some (.inl x50) ∧ (x50 = 0 → ∃ j51 : Nat, ((4 * xa) + xb) = nI j51 ∧ j51 < 32 ∧ K (some (.inl 0)) (mo_u A 5 j51 (((A 10 j10) - 1) + 1))) ∧ (¬ x50 = 0 → ∃ j54 : Nat, (((4 * xa) + xa) - 9) = nI j54 ∧ j54 < 32 ∧ (¬ (A 19 j54) = 0 → ∃ j57 : Nat, ((4 * xa) + xb) = nI j57 ∧ j57 < 32 ∧ K (some (.inl 0)) (mo_u A 5 j57 (((A 10 j10) - 1) + 1))) ∧ ((A 19 j54) = 0 → K (some (.inl (-3))) A))))))) ∧ (¬ 0 ≤ ((A 5 j7) - 1) → K (some (.inl (-2))) A)) ∧ (¬ xd ≤ 2 → K (some (.inl (-1))) A))))))))) :
    mo_Ok l G yy_Mo_load Y_Mo_load [.inr (some a0), .inl xa, .inl xb, .inl xc, .inl xd] a0 ad Mb A K := by
  intro M hS
  refine mm_go (by decide) rfl (fun q => by cases q) (Nat.le_of_ble_eq_true rfl) ?_
  show mm_Z l G Y_Mo_load (mo_K a0 ad Mb K) _ 0 0 0 [some (.inr (some a0)), some (.inl xa), some (.inl xb), some (.inl xc), some (.inl xd), none, none, none] [] M
  refine mr_aload_n dd_Mo_load_0 rfl ?_
  refine mr_iload_n dd_Mo_load_1 rfl ?_
  refine mr_callV0 (Yc := Y_Mo_lives) (M := M) (st := []) (vs := [.inl xa]) (ci := 8) fc_Mo_89 iv_Mo_lives sv_Mo_lives dd_Mo_load_2 ⟨Nat.le_of_ble_eq_true rfl, Nat.le_of_ble_eq_true rfl⟩ (by decide) rfl rfl (Nat.le_of_ble_eq_true rfl) rfl hS.1 rfl rfl (h M hS) (fun r M _ h => ?_)
  obtain ⟨B, hS, hB, h⟩ := h
  rw [hB] at hS
  obtain ⟨x2, rfl, h⟩ := h
  show mm_Z l G Y_Mo_load (mo_K a0 ad Mb K) _ 0 0 5 [some (.inr (some a0)), some (.inl xa), some (.inl xb), some (.inl xc), some (.inl xd), none, none, none] [.inl x2] M
  refine mr_if_eq 33 dd_Mo_load_5 (by decide) (fun hc5 => ?_) (fun hc5 => ?_)
  · have h := h.1 hc5
    refine mr_iconst (-1) dd_Mo_load_33 (by decide) ?_
    exact mr_ireturn dd_Mo_load_34 rfl ⟨_, hS, h⟩
  · have h := h.2 hc5
    refine mr_iload_n dd_Mo_load_8 rfl ?_
    refine mr_callS0 (Yc := Y_Mo_isRegister) (M := M) (st := []) (vs := [.inl xb]) fc_Mo_134 si_Mo_isRegister dd_Mo_load_9 ⟨Nat.le_of_ble_eq_true rfl, Nat.le_of_ble_eq_true rfl⟩ rfl (Nat.le_of_ble_eq_true rfl) rfl rfl (h M hS) (fun r M _ h => ?_)
    obtain ⟨B, hS, hB, h⟩ := h
    rw [hB] at hS
    obtain ⟨x4, rfl, h⟩ := h
    show mm_Z l G Y_Mo_load (mo_K a0 ad Mb K) _ 0 0 12 [some (.inr (some a0)), some (.inl xa), some (.inl xb), some (.inl xc), some (.inl xd), none, none, none] [.inl x4] M
    refine mr_if_eq 33 dd_Mo_load_12 (by decide) (fun hc12 => ?_) (fun hc12 => ?_)
    · have h := h.1 hc12
      refine mr_iconst (-1) dd_Mo_load_33 (by decide) ?_
      exact mr_ireturn dd_Mo_load_34 rfl ⟨_, hS, h⟩
    · have h := h.2 hc12
      refine mr_iload_n dd_Mo_load_15 rfl ?_
      refine mr_callS0 (Yc := Y_Mo_isRegister) (M := M) (st := []) (vs := [.inl xc]) fc_Mo_134 si_Mo_isRegister dd_Mo_load_16 ⟨Nat.le_of_ble_eq_true rfl, Nat.le_of_ble_eq_true rfl⟩ rfl (Nat.le_of_ble_eq_true rfl) rfl rfl (h M hS) (fun r M _ h => ?_)
      obtain ⟨B, hS, hB, h⟩ := h
      rw [hB] at hS
      obtain ⟨x6, rfl, h⟩ := h
      show mm_Z l G Y_Mo_load (mo_K a0 ad Mb K) _ 0 0 19 [some (.inr (some a0)), some (.inl xa), some (.inl xb), some (.inl xc), some (.inl xd), none, none, none] [.inl x6] M
      refine mr_if_eq 33 dd_Mo_load_19 (by decide) (fun hc19 => ?_) (fun hc19 => ?_)
      · have h := h.1 hc19
        refine mr_iconst (-1) dd_Mo_load_33 (by decide) ?_
        exact mr_ireturn dd_Mo_load_34 rfl ⟨_, hS, h⟩
      · have h := h.2 hc19
        refine mr_iload dd_Mo_load_22 rfl ?_
        refine mr_if_lt 33 dd_Mo_load_24 (by decide) (fun hc24 => ?_) (fun hc24 => ?_)
        · have h := h.1 hc24
          refine mr_iconst (-1) dd_Mo_load_33 (by decide) ?_
          exact mr_ireturn dd_Mo_load_34 rfl ⟨_, hS, h⟩
        · have h := h.2 hc24
          refine mr_iload dd_Mo_load_27 rfl ?_
          refine mr_iconst 2 dd_Mo_load_29 (by decide) ?_
          refine mr_icmp_le 35 dd_Mo_load_30 (by decide) (fun hc30 => ?_) (fun hc30 => ?_)
          · have h := h.1 hc30
            refine mr_aload_n dd_Mo_load_35 rfl ?_
            refine mr_getr ff_Mo_23 dd_Mo_load_36 rs_8_5 rfl hS.1 ?_
            rw [mo_p hS 5 (by decide) rfl]
            refine mr_iconst 4 dd_Mo_load_39 (by decide) ?_
            refine mr_iload_n dd_Mo_load_40 rfl ?_
            refine mr_imul dd_Mo_load_41 ?_
            refine mr_iload_n dd_Mo_load_42 rfl ?_
            refine mr_iadd dd_Mo_load_43 ?_
            obtain ⟨j7, hj8, hb9, h⟩ := h
            refine mr_iald dd_Mo_load_44 rfl (mo_k hS 5 (by decide) rfl rfl) hj8 (Nat.lt_trans hb9 (by decide)) (mo_l hS 5 (by decide) rfl rfl hb9) ?_
            rw [mo_i hS 5 (by decide) rfl rfl hb9]
            refine mr_iconst 1 dd_Mo_load_45 (by decide) ?_
            refine mr_isub dd_Mo_load_46 ?_
            refine mr_istore dd_Mo_load_47 (by decide) ?_
            show mm_Z l G Y_Mo_load (mo_K a0 ad Mb K) _ 0 0 49 [some (.inr (some a0)), some (.inl xa), some (.inl xb), some (.inl xc), some (.inl xd), some (.inl ((A 5 j7) - 1)), none, none] [] M
            refine mr_iload dd_Mo_load_49 rfl ?_
            refine mr_if_ge 57 dd_Mo_load_51 (by decide) (fun hc51 => ?_) (fun hc51 => ?_)
            · have h := h.1 hc51
              refine mr_aload_n dd_Mo_load_57 rfl ?_
              refine mr_getr ff_Mo_38 dd_Mo_load_58 rs_8_10 rfl hS.1 ?_
              rw [mo_p hS 10 (by decide) rfl]
              refine mr_iconst 3 dd_Mo_load_61 (by decide) ?_
              refine mr_iload dd_Mo_load_62 rfl ?_
              refine mr_imul dd_Mo_load_64 ?_
              refine mr_iload dd_Mo_load_65 rfl ?_
              refine mr_iadd dd_Mo_load_67 ?_
              obtain ⟨j10, hj11, hb12, h⟩ := h
              refine mr_iald dd_Mo_load_68 rfl (mo_k hS 10 (by decide) rfl rfl) hj11 (Nat.lt_trans hb12 (by decide)) (mo_l hS 10 (by decide) rfl rfl hb12) ?_
              rw [mo_i hS 10 (by decide) rfl rfl hb12]
              refine mr_iconst 1 dd_Mo_load_69 (by decide) ?_
              refine mr_isub dd_Mo_load_70 ?_
              refine mr_istore dd_Mo_load_71 (by decide) ?_
              show mm_Z l G Y_Mo_load (mo_K a0 ad Mb K) _ 0 0 73 [some (.inr (some a0)), some (.inl xa), some (.inl xb), some (.inl xc), some (.inl xd), some (.inl ((A 5 j7) - 1)), some (.inl ((A 10 j10) - 1)), none] [] M
              refine mr_iload dd_Mo_load_73 rfl ?_
              refine mr_if_ge 82 dd_Mo_load_75 (by decide) (fun hc75 => ?_) (fun hc75 => ?_)
              · have h := h.1 hc75
                refine mr_aload_n dd_Mo_load_82 rfl ?_
                refine mr_getr ff_Mo_26 dd_Mo_load_83 rs_8_6 rfl hS.1 ?_
                rw [mo_p hS 6 (by decide) rfl]
                refine mr_iload dd_Mo_load_86 rfl ?_
                obtain ⟨j13, hj14, hb15, h⟩ := h
                refine mr_iald dd_Mo_load_88 rfl (mo_k hS 6 (by decide) rfl rfl) hj14 (Nat.lt_trans hb15 (by decide)) (mo_l hS 6 (by decide) rfl rfl hb15) ?_
                rw [mo_i hS 6 (by decide) rfl rfl hb15]
                refine mr_iconst 1 dd_Mo_load_89 (by decide) ?_
                refine mr_isub dd_Mo_load_90 ?_
                refine mr_istore dd_Mo_load_91 (by decide) ?_
                show mm_Z l G Y_Mo_load (mo_K a0 ad Mb K) _ 0 0 93 [some (.inr (some a0)), some (.inl xa), some (.inl xb), some (.inl xc), some (.inl xd), some (.inl ((A 5 j7) - 1)), some (.inl ((A 10 j10) - 1)), some (.inl ((A 6 j13) - 1))] [] M
                refine mr_iload dd_Mo_load_93 rfl ?_
                refine mr_bipush 8 dd_Mo_load_95 (by decide) ?_
                refine mr_icmp_ge 106 dd_Mo_load_97 (by decide) (fun hc97 => ?_) (fun hc97 => ?_)
                · have h := h.1 hc97
                  refine mr_aload_n dd_Mo_load_106 rfl ?_
                  refine mr_iload dd_Mo_load_107 rfl ?_
                  refine mr_callV0 (Yc := Y_Mo_frozen) (M := M) (st := []) (vs := [.inl ((A 6 j13) - 1)]) (ci := 8) fc_Mo_81 iv_Mo_frozen sv_Mo_frozen dd_Mo_load_109 ⟨Nat.le_of_ble_eq_true rfl, Nat.le_of_ble_eq_true rfl⟩ (by decide) rfl rfl (Nat.le_of_ble_eq_true rfl) rfl hS.1 rfl rfl (h M hS) (fun r M _ h => ?_)
                  obtain ⟨B, hS, hB, h⟩ := h
                  rw [hB] at hS
                  obtain ⟨x17, rfl, h⟩ := h
                  show mm_Z l G Y_Mo_load (mo_K a0 ad Mb K) _ 0 0 112 [some (.inr (some a0)), some (.inl xa), some (.inl xb), some (.inl xc), some (.inl xd), some (.inl ((A 5 j7) - 1)), some (.inl ((A 10 j10) - 1)), some (.inl ((A 6 j13) - 1))] [.inl x17] M
                  refine mr_if_eq 135 dd_Mo_load_112 (by decide) (fun hc112 => ?_) (fun hc112 => ?_)
                  · have h := h.1 hc112
                    refine mr_aload_n dd_Mo_load_135 rfl ?_
                    refine mr_getr ff_Mo_23 dd_Mo_load_136 rs_8_5 rfl hS.1 ?_
                    rw [mo_p hS 5 (by decide) rfl]
                    refine mr_iconst 4 dd_Mo_load_139 (by decide) ?_
                    refine mr_iload_n dd_Mo_load_140 rfl ?_
                    refine mr_imul dd_Mo_load_141 ?_
                    refine mr_iload_n dd_Mo_load_142 rfl ?_
                    refine mr_iadd dd_Mo_load_143 ?_
                    refine mr_iload dd_Mo_load_144 rfl ?_
                    refine mr_iconst 1 dd_Mo_load_146 (by decide) ?_
                    refine mr_iadd dd_Mo_load_147 ?_
                    obtain ⟨j18, hj19, hb20, h⟩ := h
                    refine mr_iast dd_Mo_load_148 rfl (mo_k hS 5 (by decide) rfl rfl) hj19 (Nat.lt_trans hb20 (by decide)) (mo_l hS 5 (by decide) rfl rfl hb20) ?_
                    have hS := mo_S.up hS 5 (by decide) rfl j18 (((A 10 j10) - 1) + 1)
                    generalize mm_si M (ad 5) j18 (((A 10 j10) - 1) + 1) = M at hS ⊢
                    refine mr_iconst 0 dd_Mo_load_149 (by decide) ?_
                    exact mr_ireturn dd_Mo_load_150 rfl ⟨_, hS, h⟩
                  · have h := h.2 hc112
                    refine mr_aload_n dd_Mo_load_115 rfl ?_
                    refine mr_getr ff_Mo_59 dd_Mo_load_116 rs_8_19 rfl hS.1 ?_
                    rw [mo_p hS 19 (by decide) rfl]
                    refine mr_iconst 4 dd_Mo_load_119 (by decide) ?_
                    refine mr_iload_n dd_Mo_load_120 rfl ?_
                    refine mr_imul dd_Mo_load_121 ?_
                    refine mr_iload dd_Mo_load_122 rfl ?_
                    refine mr_iadd dd_Mo_load_124 ?_
                    refine mr_bipush 9 dd_Mo_load_125 (by decide) ?_
                    refine mr_isub dd_Mo_load_127 ?_
                    obtain ⟨j21, hj22, hb23, h⟩ := h
                    refine mr_zald dd_Mo_load_128 rfl (mo_k hS 19 (by decide) rfl rfl) hj22 (Nat.lt_trans hb23 (by decide)) (mo_l hS 19 (by decide) rfl rfl hb23) ?_
                    rw [mo_i hS 19 (by decide) rfl rfl hb23]
                    refine mr_if_ne 135 dd_Mo_load_129 (by decide) (fun hc129 => ?_) (fun hc129 => ?_)
                    · have h := h.1 hc129
                      refine mr_aload_n dd_Mo_load_135 rfl ?_
                      refine mr_getr ff_Mo_23 dd_Mo_load_136 rs_8_5 rfl hS.1 ?_
                      rw [mo_p hS 5 (by decide) rfl]
                      refine mr_iconst 4 dd_Mo_load_139 (by decide) ?_
                      refine mr_iload_n dd_Mo_load_140 rfl ?_
                      refine mr_imul dd_Mo_load_141 ?_
                      refine mr_iload_n dd_Mo_load_142 rfl ?_
                      refine mr_iadd dd_Mo_load_143 ?_
                      refine mr_iload dd_Mo_load_144 rfl ?_
                      refine mr_iconst 1 dd_Mo_load_146 (by decide) ?_
                      refine mr_iadd dd_Mo_load_147 ?_
                      obtain ⟨j24, hj25, hb26, h⟩ := h
                      refine mr_iast dd_Mo_load_148 rfl (mo_k hS 5 (by decide) rfl rfl) hj25 (Nat.lt_trans hb26 (by decide)) (mo_l hS 5 (by decide) rfl rfl hb26) ?_
                      have hS := mo_S.up hS 5 (by decide) rfl j24 (((A 10 j10) - 1) + 1)
                      generalize mm_si M (ad 5) j24 (((A 10 j10) - 1) + 1) = M at hS ⊢
                      refine mr_iconst 0 dd_Mo_load_149 (by decide) ?_
                      exact mr_ireturn dd_Mo_load_150 rfl ⟨_, hS, h⟩
                    · have h := h.2 hc129
                      refine mr_bipush (-3) dd_Mo_load_132 (by decide) ?_
                      exact mr_ireturn dd_Mo_load_134 rfl ⟨_, hS, h⟩
                · have h := h.2 hc97
                  refine mr_iload dd_Mo_load_100 rfl ?_
                  refine mr_iload_n dd_Mo_load_102 rfl ?_
                  refine mr_icmp_ne 132 dd_Mo_load_103 (by decide) (fun hc103 => ?_) (fun hc103 => ?_)
                  · have h := h.1 hc103
                    refine mr_bipush (-3) dd_Mo_load_132 (by decide) ?_
                    exact mr_ireturn dd_Mo_load_134 rfl ⟨_, hS, h⟩
                  · have h := h.2 hc103
                    refine mr_aload_n dd_Mo_load_106 rfl ?_
                    refine mr_iload dd_Mo_load_107 rfl ?_
                    refine mr_callV0 (Yc := Y_Mo_frozen) (M := M) (st := []) (vs := [.inl ((A 6 j13) - 1)]) (ci := 8) fc_Mo_81 iv_Mo_frozen sv_Mo_frozen dd_Mo_load_109 ⟨Nat.le_of_ble_eq_true rfl, Nat.le_of_ble_eq_true rfl⟩ (by decide) rfl rfl (Nat.le_of_ble_eq_true rfl) rfl hS.1 rfl rfl (h M hS) (fun r M _ h => ?_)
                    obtain ⟨B, hS, hB, h⟩ := h
                    rw [hB] at hS
                    obtain ⟨x28, rfl, h⟩ := h
                    show mm_Z l G Y_Mo_load (mo_K a0 ad Mb K) _ 0 0 112 [some (.inr (some a0)), some (.inl xa), some (.inl xb), some (.inl xc), some (.inl xd), some (.inl ((A 5 j7) - 1)), some (.inl ((A 10 j10) - 1)), some (.inl ((A 6 j13) - 1))] [.inl x28] M
                    refine mr_if_eq 135 dd_Mo_load_112 (by decide) (fun hc112 => ?_) (fun hc112 => ?_)
                    · have h := h.1 hc112
                      refine mr_aload_n dd_Mo_load_135 rfl ?_
                      refine mr_getr ff_Mo_23 dd_Mo_load_136 rs_8_5 rfl hS.1 ?_
                      rw [mo_p hS 5 (by decide) rfl]
                      refine mr_iconst 4 dd_Mo_load_139 (by decide) ?_
                      refine mr_iload_n dd_Mo_load_140 rfl ?_
                      refine mr_imul dd_Mo_load_141 ?_
                      refine mr_iload_n dd_Mo_load_142 rfl ?_
                      refine mr_iadd dd_Mo_load_143 ?_
                      refine mr_iload dd_Mo_load_144 rfl ?_
                      refine mr_iconst 1 dd_Mo_load_146 (by decide) ?_
                      refine mr_iadd dd_Mo_load_147 ?_
                      obtain ⟨j29, hj30, hb31, h⟩ := h
                      refine mr_iast dd_Mo_load_148 rfl (mo_k hS 5 (by decide) rfl rfl) hj30 (Nat.lt_trans hb31 (by decide)) (mo_l hS 5 (by decide) rfl rfl hb31) ?_
                      have hS := mo_S.up hS 5 (by decide) rfl j29 (((A 10 j10) - 1) + 1)
                      generalize mm_si M (ad 5) j29 (((A 10 j10) - 1) + 1) = M at hS ⊢
                      refine mr_iconst 0 dd_Mo_load_149 (by decide) ?_
                      exact mr_ireturn dd_Mo_load_150 rfl ⟨_, hS, h⟩
                    · have h := h.2 hc112
                      refine mr_aload_n dd_Mo_load_115 rfl ?_
                      refine mr_getr ff_Mo_59 dd_Mo_load_116 rs_8_19 rfl hS.1 ?_
                      rw [mo_p hS 19 (by decide) rfl]
                      refine mr_iconst 4 dd_Mo_load_119 (by decide) ?_
                      refine mr_iload_n dd_Mo_load_120 rfl ?_
                      refine mr_imul dd_Mo_load_121 ?_
                      refine mr_iload dd_Mo_load_122 rfl ?_
                      refine mr_iadd dd_Mo_load_124 ?_
                      refine mr_bipush 9 dd_Mo_load_125 (by decide) ?_
                      refine mr_isub dd_Mo_load_127 ?_
                      obtain ⟨j32, hj33, hb34, h⟩ := h
                      refine mr_zald dd_Mo_load_128 rfl (mo_k hS 19 (by decide) rfl rfl) hj33 (Nat.lt_trans hb34 (by decide)) (mo_l hS 19 (by decide) rfl rfl hb34) ?_
                      rw [mo_i hS 19 (by decide) rfl rfl hb34]
                      refine mr_if_ne 135 dd_Mo_load_129 (by decide) (fun hc129 => ?_) (fun hc129 => ?_)
                      · have h := h.1 hc129
                        refine mr_aload_n dd_Mo_load_135 rfl ?_
                        refine mr_getr ff_Mo_23 dd_Mo_load_136 rs_8_5 rfl hS.1 ?_
                        rw [mo_p hS 5 (by decide) rfl]
                        refine mr_iconst 4 dd_Mo_load_139 (by decide) ?_
                        refine mr_iload_n dd_Mo_load_140 rfl ?_
                        refine mr_imul dd_Mo_load_141 ?_
                        refine mr_iload_n dd_Mo_load_142 rfl ?_
                        refine mr_iadd dd_Mo_load_143 ?_
                        refine mr_iload dd_Mo_load_144 rfl ?_
                        refine mr_iconst 1 dd_Mo_load_146 (by decide) ?_
                        refine mr_iadd dd_Mo_load_147 ?_
                        obtain ⟨j35, hj36, hb37, h⟩ := h
                        refine mr_iast dd_Mo_load_148 rfl (mo_k hS 5 (by decide) rfl rfl) hj36 (Nat.lt_trans hb37 (by decide)) (mo_l hS 5 (by decide) rfl rfl hb37) ?_
                        have hS := mo_S.up hS 5 (by decide) rfl j35 (((A 10 j10) - 1) + 1)
                        generalize mm_si M (ad 5) j35 (((A 10 j10) - 1) + 1) = M at hS ⊢
                        refine mr_iconst 0 dd_Mo_load_149 (by decide) ?_
                        exact mr_ireturn dd_Mo_load_150 rfl ⟨_, hS, h⟩
                      · have h := h.2 hc129
                        refine mr_bipush (-3) dd_Mo_load_132 (by decide) ?_
                        exact mr_ireturn dd_Mo_load_134 rfl ⟨_, hS, h⟩
              · have h := h.2 hc75
                refine mr_iload_n dd_Mo_load_78 rfl ?_
                refine mr_goto 91 dd_Mo_load_79 (by decide) ?_
                refine mr_istore dd_Mo_load_91 (by decide) ?_
                show mm_Z l G Y_Mo_load (mo_K a0 ad Mb K) _ 0 0 93 [some (.inr (some a0)), some (.inl xa), some (.inl xb), some (.inl xc), some (.inl xd), some (.inl ((A 5 j7) - 1)), some (.inl ((A 10 j10) - 1)), some (.inl xa)] [] M
                refine mr_iload dd_Mo_load_93 rfl ?_
                refine mr_bipush 8 dd_Mo_load_95 (by decide) ?_
                refine mr_icmp_ge 106 dd_Mo_load_97 (by decide) (fun hc97 => ?_) (fun hc97 => ?_)
                · have h := h.1 hc97
                  refine mr_aload_n dd_Mo_load_106 rfl ?_
                  refine mr_iload dd_Mo_load_107 rfl ?_
                  refine mr_callV0 (Yc := Y_Mo_frozen) (M := M) (st := []) (vs := [.inl xa]) (ci := 8) fc_Mo_81 iv_Mo_frozen sv_Mo_frozen dd_Mo_load_109 ⟨Nat.le_of_ble_eq_true rfl, Nat.le_of_ble_eq_true rfl⟩ (by decide) rfl rfl (Nat.le_of_ble_eq_true rfl) rfl hS.1 rfl rfl (h M hS) (fun r M _ h => ?_)
                  obtain ⟨B, hS, hB, h⟩ := h
                  rw [hB] at hS
                  obtain ⟨x39, rfl, h⟩ := h
                  show mm_Z l G Y_Mo_load (mo_K a0 ad Mb K) _ 0 0 112 [some (.inr (some a0)), some (.inl xa), some (.inl xb), some (.inl xc), some (.inl xd), some (.inl ((A 5 j7) - 1)), some (.inl ((A 10 j10) - 1)), some (.inl xa)] [.inl x39] M
                  refine mr_if_eq 135 dd_Mo_load_112 (by decide) (fun hc112 => ?_) (fun hc112 => ?_)
                  · have h := h.1 hc112
                    refine mr_aload_n dd_Mo_load_135 rfl ?_
                    refine mr_getr ff_Mo_23 dd_Mo_load_136 rs_8_5 rfl hS.1 ?_
                    rw [mo_p hS 5 (by decide) rfl]
                    refine mr_iconst 4 dd_Mo_load_139 (by decide) ?_
                    refine mr_iload_n dd_Mo_load_140 rfl ?_
                    refine mr_imul dd_Mo_load_141 ?_
                    refine mr_iload_n dd_Mo_load_142 rfl ?_
                    refine mr_iadd dd_Mo_load_143 ?_
                    refine mr_iload dd_Mo_load_144 rfl ?_
                    refine mr_iconst 1 dd_Mo_load_146 (by decide) ?_
                    refine mr_iadd dd_Mo_load_147 ?_
                    obtain ⟨j40, hj41, hb42, h⟩ := h
                    refine mr_iast dd_Mo_load_148 rfl (mo_k hS 5 (by decide) rfl rfl) hj41 (Nat.lt_trans hb42 (by decide)) (mo_l hS 5 (by decide) rfl rfl hb42) ?_
                    have hS := mo_S.up hS 5 (by decide) rfl j40 (((A 10 j10) - 1) + 1)
                    generalize mm_si M (ad 5) j40 (((A 10 j10) - 1) + 1) = M at hS ⊢
                    refine mr_iconst 0 dd_Mo_load_149 (by decide) ?_
                    exact mr_ireturn dd_Mo_load_150 rfl ⟨_, hS, h⟩
                  · have h := h.2 hc112
                    refine mr_aload_n dd_Mo_load_115 rfl ?_
                    refine mr_getr ff_Mo_59 dd_Mo_load_116 rs_8_19 rfl hS.1 ?_
                    rw [mo_p hS 19 (by decide) rfl]
                    refine mr_iconst 4 dd_Mo_load_119 (by decide) ?_
                    refine mr_iload_n dd_Mo_load_120 rfl ?_
                    refine mr_imul dd_Mo_load_121 ?_
                    refine mr_iload dd_Mo_load_122 rfl ?_
                    refine mr_iadd dd_Mo_load_124 ?_
                    refine mr_bipush 9 dd_Mo_load_125 (by decide) ?_
                    refine mr_isub dd_Mo_load_127 ?_
                    obtain ⟨j43, hj44, hb45, h⟩ := h
                    refine mr_zald dd_Mo_load_128 rfl (mo_k hS 19 (by decide) rfl rfl) hj44 (Nat.lt_trans hb45 (by decide)) (mo_l hS 19 (by decide) rfl rfl hb45) ?_
                    rw [mo_i hS 19 (by decide) rfl rfl hb45]
                    refine mr_if_ne 135 dd_Mo_load_129 (by decide) (fun hc129 => ?_) (fun hc129 => ?_)
                    · have h := h.1 hc129
                      refine mr_aload_n dd_Mo_load_135 rfl ?_
                      refine mr_getr ff_Mo_23 dd_Mo_load_136 rs_8_5 rfl hS.1 ?_
                      rw [mo_p hS 5 (by decide) rfl]
                      refine mr_iconst 4 dd_Mo_load_139 (by decide) ?_
                      refine mr_iload_n dd_Mo_load_140 rfl ?_
                      refine mr_imul dd_Mo_load_141 ?_
                      refine mr_iload_n dd_Mo_load_142 rfl ?_
                      refine mr_iadd dd_Mo_load_143 ?_
                      refine mr_iload dd_Mo_load_144 rfl ?_
                      refine mr_iconst 1 dd_Mo_load_146 (by decide) ?_
                      refine mr_iadd dd_Mo_load_147 ?_
                      obtain ⟨j46, hj47, hb48, h⟩ := h
                      refine mr_iast dd_Mo_load_148 rfl (mo_k hS 5 (by decide) rfl rfl) hj47 (Nat.lt_trans hb48 (by decide)) (mo_l hS 5 (by decide) rfl rfl hb48) ?_
                      have hS := mo_S.up hS 5 (by decide) rfl j46 (((A 10 j10) - 1) + 1)
                      generalize mm_si M (ad 5) j46 (((A 10 j10) - 1) + 1) = M at hS ⊢
                      refine mr_iconst 0 dd_Mo_load_149 (by decide) ?_
                      exact mr_ireturn dd_Mo_load_150 rfl ⟨_, hS, h⟩
                    · have h := h.2 hc129
                      refine mr_bipush (-3) dd_Mo_load_132 (by decide) ?_
                      exact mr_ireturn dd_Mo_load_134 rfl ⟨_, hS, h⟩
                · have h := h.2 hc97
                  refine mr_iload dd_Mo_load_100 rfl ?_
                  refine mr_iload_n dd_Mo_load_102 rfl ?_
                  refine mr_icmp_ne 132 dd_Mo_load_103 (by decide) (fun hc103 => ?_) (fun hc103 => ?_)
                  · have h := h.1 hc103
                    refine mr_bipush (-3) dd_Mo_load_132 (by decide) ?_
                    exact mr_ireturn dd_Mo_load_134 rfl ⟨_, hS, h⟩
                  · have h := h.2 hc103
                    refine mr_aload_n dd_Mo_load_106 rfl ?_
                    refine mr_iload dd_Mo_load_107 rfl ?_
                    refine mr_callV0 (Yc := Y_Mo_frozen) (M := M) (st := []) (vs := [.inl xa]) (ci := 8) fc_Mo_81 iv_Mo_frozen sv_Mo_frozen dd_Mo_load_109 ⟨Nat.le_of_ble_eq_true rfl, Nat.le_of_ble_eq_true rfl⟩ (by decide) rfl rfl (Nat.le_of_ble_eq_true rfl) rfl hS.1 rfl rfl (h M hS) (fun r M _ h => ?_)
                    obtain ⟨B, hS, hB, h⟩ := h
                    rw [hB] at hS
                    obtain ⟨x50, rfl, h⟩ := h
                    show mm_Z l G Y_Mo_load (mo_K a0 ad Mb K) _ 0 0 112 [some (.inr (some a0)), some (.inl xa), some (.inl xb), some (.inl xc), some (.inl xd), some (.inl ((A 5 j7) - 1)), some (.inl ((A 10 j10) - 1)), some (.inl xa)] [.inl x50] M
                    refine mr_if_eq 135 dd_Mo_load_112 (by decide) (fun hc112 => ?_) (fun hc112 => ?_)
                    · have h := h.1 hc112
                      refine mr_aload_n dd_Mo_load_135 rfl ?_
                      refine mr_getr ff_Mo_23 dd_Mo_load_136 rs_8_5 rfl hS.1 ?_
                      rw [mo_p hS 5 (by decide) rfl]
                      refine mr_iconst 4 dd_Mo_load_139 (by decide) ?_
                      refine mr_iload_n dd_Mo_load_140 rfl ?_
                      refine mr_imul dd_Mo_load_141 ?_
                      refine mr_iload_n dd_Mo_load_142 rfl ?_
                      refine mr_iadd dd_Mo_load_143 ?_
                      refine mr_iload dd_Mo_load_144 rfl ?_
                      refine mr_iconst 1 dd_Mo_load_146 (by decide) ?_
                      refine mr_iadd dd_Mo_load_147 ?_
                      obtain ⟨j51, hj52, hb53, h⟩ := h
                      refine mr_iast dd_Mo_load_148 rfl (mo_k hS 5 (by decide) rfl rfl) hj52 (Nat.lt_trans hb53 (by decide)) (mo_l hS 5 (by decide) rfl rfl hb53) ?_
                      have hS := mo_S.up hS 5 (by decide) rfl j51 (((A 10 j10) - 1) + 1)
                      generalize mm_si M (ad 5) j51 (((A 10 j10) - 1) + 1) = M at hS ⊢
                      refine mr_iconst 0 dd_Mo_load_149 (by decide) ?_
                      exact mr_ireturn dd_Mo_load_150 rfl ⟨_, hS, h⟩
                    · have h := h.2 hc112
                      refine mr_aload_n dd_Mo_load_115 rfl ?_
                      refine mr_getr ff_Mo_59 dd_Mo_load_116 rs_8_19 rfl hS.1 ?_
                      rw [mo_p hS 19 (by decide) rfl]
                      refine mr_iconst 4 dd_Mo_load_119 (by decide) ?_
                      refine mr_iload_n dd_Mo_load_120 rfl ?_
                      refine mr_imul dd_Mo_load_121 ?_
                      refine mr_iload dd_Mo_load_122 rfl ?_
                      refine mr_iadd dd_Mo_load_124 ?_
                      refine mr_bipush 9 dd_Mo_load_125 (by decide) ?_
                      refine mr_isub dd_Mo_load_127 ?_
                      obtain ⟨j54, hj55, hb56, h⟩ := h
                      refine mr_zald dd_Mo_load_128 rfl (mo_k hS 19 (by decide) rfl rfl) hj55 (Nat.lt_trans hb56 (by decide)) (mo_l hS 19 (by decide) rfl rfl hb56) ?_
                      rw [mo_i hS 19 (by decide) rfl rfl hb56]
                      refine mr_if_ne 135 dd_Mo_load_129 (by decide) (fun hc129 => ?_) (fun hc129 => ?_)
                      · have h := h.1 hc129
                        refine mr_aload_n dd_Mo_load_135 rfl ?_
                        refine mr_getr ff_Mo_23 dd_Mo_load_136 rs_8_5 rfl hS.1 ?_
                        rw [mo_p hS 5 (by decide) rfl]
                        refine mr_iconst 4 dd_Mo_load_139 (by decide) ?_
                        refine mr_iload_n dd_Mo_load_140 rfl ?_
                        refine mr_imul dd_Mo_load_141 ?_
                        refine mr_iload_n dd_Mo_load_142 rfl ?_
                        refine mr_iadd dd_Mo_load_143 ?_
                        refine mr_iload dd_Mo_load_144 rfl ?_
                        refine mr_iconst 1 dd_Mo_load_146 (by decide) ?_
                        refine mr_iadd dd_Mo_load_147 ?_
                        obtain ⟨j57, hj58, hb59, h⟩ := h
                        refine mr_iast dd_Mo_load_148 rfl (mo_k hS 5 (by decide) rfl rfl) hj58 (Nat.lt_trans hb59 (by decide)) (mo_l hS 5 (by decide) rfl rfl hb59) ?_
                        have hS := mo_S.up hS 5 (by decide) rfl j57 (((A 10 j10) - 1) + 1)
                        generalize mm_si M (ad 5) j57 (((A 10 j10) - 1) + 1) = M at hS ⊢
                        refine mr_iconst 0 dd_Mo_load_149 (by decide) ?_
                        exact mr_ireturn dd_Mo_load_150 rfl ⟨_, hS, h⟩
                      · have h := h.2 hc129
                        refine mr_bipush (-3) dd_Mo_load_132 (by decide) ?_
                        exact mr_ireturn dd_Mo_load_134 rfl ⟨_, hS, h⟩
            · have h := h.2 hc51
              refine mr_bipush (-2) dd_Mo_load_54 (by decide) ?_
              exact mr_ireturn dd_Mo_load_56 rfl ⟨_, hS, h⟩
          · have h := h.2 hc30
            refine mr_iconst (-1) dd_Mo_load_33 (by decide) ?_
            exact mr_ireturn dd_Mo_load_34 rfl ⟨_, hS, h⟩
set_option maxHeartbeats 4000000 in
set_option maxRecDepth 100000 in
theorem mg_move {l : Launch} {G : mm_G} {K : Option mm_V → mo_A → Prop} {a0 : Nat} {ad : Nat → Nat} {Mb : mm_M} {A : mo_A} {xa : Int32} {xb : Int32} {xc : Int32}
    (h : mo_Ok l G yy_Mo_lives Y_Mo_lives [.inr (some a0), .inl xa] a0 ad Mb A (fun r B => B = A ∧ ∃ x2 : Int32, r = some (.inl x2) ∧ (x2 = 0 → K (some (.inl 0)) A) ∧ (¬ x2 = 0 → mo_Ok l G yy_Mo_isRegister Y_Mo_isRegister [.inl xb] a0 ad Mb A (fun r B => B = A ∧ ∃ x4 : Int32, r = some (.inl x4) ∧ (x4 = 0 → K (some (.inl 0)) A) ∧ (¬ x4 = 0 → (xc < (-1) → K (some (.inl 0)) A) ∧ (¬ xc < (-1) → (xc ≤ 3 → (0 ≤ xc → ∃ j5 : Nat, ((4 * xa) + xc) = nI j5 ∧ j5 < 32 ∧ ∃ j8 : Nat, ((4 * xa) + xb) = nI j8 ∧ j8 < 32 ∧ K (some (.inl 1)) (mo_u A 5 j8 (A 5 j5))) ∧ (¬ 0 ≤ xc → ∃ j11 : Nat, ((4 * xa) + xb) = nI j11 ∧ j11 < 32 ∧ K (some (.inl 1)) (mo_u A 5 j11 0))) ∧ (¬ xc ≤ 3 → K (some (.inl 0)) A))))))) :
    mo_Ok l G yy_Mo_move Y_Mo_move [.inr (some a0), .inl xa, .inl xb, .inl xc] a0 ad Mb A K := by
  intro M hS
  refine mm_go (by decide) rfl (fun q => by cases q) (Nat.le_of_ble_eq_true rfl) ?_
  show mm_Z l G Y_Mo_move (mo_K a0 ad Mb K) _ 0 0 0 [some (.inr (some a0)), some (.inl xa), some (.inl xb), some (.inl xc)] [] M
  refine mr_aload_n dd_Mo_move_0 rfl ?_
  refine mr_iload_n dd_Mo_move_1 rfl ?_
  refine mr_callV0 (Yc := Y_Mo_lives) (M := M) (st := []) (vs := [.inl xa]) (ci := 8) fc_Mo_89 iv_Mo_lives sv_Mo_lives dd_Mo_move_2 ⟨Nat.le_of_ble_eq_true rfl, Nat.le_of_ble_eq_true rfl⟩ (by decide) rfl rfl (Nat.le_of_ble_eq_true rfl) rfl hS.1 rfl rfl (h M hS) (fun r M _ h => ?_)
  obtain ⟨B, hS, hB, h⟩ := h
  rw [hB] at hS
  obtain ⟨x2, rfl, h⟩ := h
  show mm_Z l G Y_Mo_move (mo_K a0 ad Mb K) _ 0 0 5 [some (.inr (some a0)), some (.inl xa), some (.inl xb), some (.inl xc)] [.inl x2] M
  refine mr_if_eq 25 dd_Mo_move_5 (by decide) (fun hc5 => ?_) (fun hc5 => ?_)
  · have h := h.1 hc5
    refine mr_iconst 0 dd_Mo_move_25 (by decide) ?_
    exact mr_zreturn dd_Mo_move_26 rfl (Or.inl rfl) ⟨_, hS, h⟩
  · have h := h.2 hc5
    refine mr_iload_n dd_Mo_move_8 rfl ?_
    refine mr_callS0 (Yc := Y_Mo_isRegister) (M := M) (st := []) (vs := [.inl xb]) fc_Mo_134 si_Mo_isRegister dd_Mo_move_9 ⟨Nat.le_of_ble_eq_true rfl, Nat.le_of_ble_eq_true rfl⟩ rfl (Nat.le_of_ble_eq_true rfl) rfl rfl (h M hS) (fun r M _ h => ?_)
    obtain ⟨B, hS, hB, h⟩ := h
    rw [hB] at hS
    obtain ⟨x4, rfl, h⟩ := h
    show mm_Z l G Y_Mo_move (mo_K a0 ad Mb K) _ 0 0 12 [some (.inr (some a0)), some (.inl xa), some (.inl xb), some (.inl xc)] [.inl x4] M
    refine mr_if_eq 25 dd_Mo_move_12 (by decide) (fun hc12 => ?_) (fun hc12 => ?_)
    · have h := h.1 hc12
      refine mr_iconst 0 dd_Mo_move_25 (by decide) ?_
      exact mr_zreturn dd_Mo_move_26 rfl (Or.inl rfl) ⟨_, hS, h⟩
    · have h := h.2 hc12
      refine mr_iload_n dd_Mo_move_15 rfl ?_
      refine mr_iconst (-1) dd_Mo_move_16 (by decide) ?_
      refine mr_icmp_lt 25 dd_Mo_move_17 (by decide) (fun hc17 => ?_) (fun hc17 => ?_)
      · have h := h.1 hc17
        refine mr_iconst 0 dd_Mo_move_25 (by decide) ?_
        exact mr_zreturn dd_Mo_move_26 rfl (Or.inl rfl) ⟨_, hS, h⟩
      · have h := h.2 hc17
        refine mr_iload_n dd_Mo_move_20 rfl ?_
        refine mr_iconst 3 dd_Mo_move_21 (by decide) ?_
        refine mr_icmp_le 27 dd_Mo_move_22 (by decide) (fun hc22 => ?_) (fun hc22 => ?_)
        · have h := h.1 hc22
          refine mr_aload_n dd_Mo_move_27 rfl ?_
          refine mr_getr ff_Mo_23 dd_Mo_move_28 rs_8_5 rfl hS.1 ?_
          rw [mo_p hS 5 (by decide) rfl]
          refine mr_iconst 4 dd_Mo_move_31 (by decide) ?_
          refine mr_iload_n dd_Mo_move_32 rfl ?_
          refine mr_imul dd_Mo_move_33 ?_
          refine mr_iload_n dd_Mo_move_34 rfl ?_
          refine mr_iadd dd_Mo_move_35 ?_
          refine mr_iload_n dd_Mo_move_36 rfl ?_
          refine mr_if_ge 44 dd_Mo_move_37 (by decide) (fun hc37 => ?_) (fun hc37 => ?_)
          · have h := h.1 hc37
            refine mr_aload_n dd_Mo_move_44 rfl ?_
            refine mr_getr ff_Mo_23 dd_Mo_move_45 rs_8_5 rfl hS.1 ?_
            rw [mo_p hS 5 (by decide) rfl]
            refine mr_iconst 4 dd_Mo_move_48 (by decide) ?_
            refine mr_iload_n dd_Mo_move_49 rfl ?_
            refine mr_imul dd_Mo_move_50 ?_
            refine mr_iload_n dd_Mo_move_51 rfl ?_
            refine mr_iadd dd_Mo_move_52 ?_
            obtain ⟨j5, hj6, hb7, h⟩ := h
            refine mr_iald dd_Mo_move_53 rfl (mo_k hS 5 (by decide) rfl rfl) hj6 (Nat.lt_trans hb7 (by decide)) (mo_l hS 5 (by decide) rfl rfl hb7) ?_
            rw [mo_i hS 5 (by decide) rfl rfl hb7]
            obtain ⟨j8, hj9, hb10, h⟩ := h
            refine mr_iast dd_Mo_move_54 rfl (mo_k hS 5 (by decide) rfl rfl) hj9 (Nat.lt_trans hb10 (by decide)) (mo_l hS 5 (by decide) rfl rfl hb10) ?_
            have hS := mo_S.up hS 5 (by decide) rfl j8 (A 5 j5)
            generalize mm_si M (ad 5) j8 (A 5 j5) = M at hS ⊢
            refine mr_iconst 1 dd_Mo_move_55 (by decide) ?_
            exact mr_zreturn dd_Mo_move_56 rfl (Or.inr rfl) ⟨_, hS, h⟩
          · have h := h.2 hc37
            refine mr_iconst 0 dd_Mo_move_40 (by decide) ?_
            refine mr_goto 54 dd_Mo_move_41 (by decide) ?_
            obtain ⟨j11, hj12, hb13, h⟩ := h
            refine mr_iast dd_Mo_move_54 rfl (mo_k hS 5 (by decide) rfl rfl) hj12 (Nat.lt_trans hb13 (by decide)) (mo_l hS 5 (by decide) rfl rfl hb13) ?_
            have hS := mo_S.up hS 5 (by decide) rfl j11 0
            generalize mm_si M (ad 5) j11 0 = M at hS ⊢
            refine mr_iconst 1 dd_Mo_move_55 (by decide) ?_
            exact mr_zreturn dd_Mo_move_56 rfl (Or.inr rfl) ⟨_, hS, h⟩
        · have h := h.2 hc22
          refine mr_iconst 0 dd_Mo_move_25 (by decide) ?_
          exact mr_zreturn dd_Mo_move_26 rfl (Or.inl rfl) ⟨_, hS, h⟩
set_option maxHeartbeats 4000000 in
set_option maxRecDepth 100000 in
theorem mg_begin {l : Launch} {G : mm_G} {K : Option mm_V → mo_A → Prop} {a0 : Nat} {ad : Nat → Nat} {Mb : mm_M} {A : mo_A} {xa : Int32}
    (h : mo_Ok l G yy_Mo_lives Y_Mo_lives [.inr (some a0), .inl xa] a0 ad Mb A (fun r B => B = A ∧ ∃ x2 : Int32, r = some (.inl x2) ∧ (¬ x2 = 0 → mo_Z l G Y_Mo_begin K a0 ad Mb 12 [some (.inr (some a0)), some (.inl xa), some (.inl 0)] [] A) ∧ (x2 = 0 → K (some (.inl (-1))) A))) :
    mo_Ok l G yy_Mo_begin Y_Mo_begin [.inr (some a0), .inl xa] a0 ad Mb A K := by
  intro M hS
  refine mm_go (by decide) rfl (fun q => by cases q) (Nat.le_of_ble_eq_true rfl) ?_
  show mm_Z l G Y_Mo_begin (mo_K a0 ad Mb K) _ 0 0 0 [some (.inr (some a0)), some (.inl xa), none] [] M
  refine mr_aload_n dd_Mo_begin_0 rfl ?_
  refine mr_iload_n dd_Mo_begin_1 rfl ?_
  refine mr_callV0 (Yc := Y_Mo_lives) (M := M) (st := []) (vs := [.inl xa]) (ci := 8) fc_Mo_89 iv_Mo_lives sv_Mo_lives dd_Mo_begin_2 ⟨Nat.le_of_ble_eq_true rfl, Nat.le_of_ble_eq_true rfl⟩ (by decide) rfl rfl (Nat.le_of_ble_eq_true rfl) rfl hS.1 rfl rfl (h M hS) (fun r M _ h => ?_)
  obtain ⟨B, hS, hB, h⟩ := h
  rw [hB] at hS
  obtain ⟨x2, rfl, h⟩ := h
  show mm_Z l G Y_Mo_begin (mo_K a0 ad Mb K) _ 0 0 5 [some (.inr (some a0)), some (.inl xa), none] [.inl x2] M
  refine mr_if_ne 10 dd_Mo_begin_5 (by decide) (fun hc5 => ?_) (fun hc5 => ?_)
  · have h := h.1 hc5
    refine mr_iconst 0 dd_Mo_begin_10 (by decide) ?_
    refine mr_istore_n dd_Mo_begin_11 (by decide) ?_
    show mm_Z l G Y_Mo_begin (mo_K a0 ad Mb K) _ 0 0 12 [some (.inr (some a0)), some (.inl xa), some (.inl 0)] [] M
    exact h _ M hS
  · have h := h.2 hc5
    refine mr_iconst (-1) dd_Mo_begin_8 (by decide) ?_
    exact mr_ireturn dd_Mo_begin_9 rfl ⟨_, hS, h⟩
set_option maxHeartbeats 4000000 in
set_option maxRecDepth 100000 in
theorem mg_begin_12 {l : Launch} {G : mm_G} {K : Option mm_V → mo_A → Prop} {a0 : Nat} {ad : Nat → Nat} {Mb : mm_M} {A : mo_A} {y1 : Int32} {y2 : Int32}
    (h : (4 ≤ y2 → ((A 18 0) < 4 → ∃ j1 : Nat, (A 18 0) = nI j1 ∧ j1 < 4 ∧ ∃ j4 : Nat, ((mo_u A 15 j1 1) 18 0) = nI j4 ∧ j4 < 4 ∧ K (some (.inl (8 + ((mo_u (mo_u (mo_u A 15 j1 1) 16 j4 y1) 18 0 (((mo_u (mo_u A 15 j1 1) 16 j4 y1) 18 0) + 1)) 18 0)))) (mo_u (mo_u (mo_u A 15 j1 1) 16 j4 y1) 18 0 (((mo_u (mo_u A 15 j1 1) 16 j4 y1) 18 0) + 1))) ∧ (¬ (A 18 0) < 4 → K (some (.inl (-4))) A)) ∧ (¬ 4 ≤ y2 → ∃ j7 : Nat, y2 = nI j7 ∧ j7 < 4 ∧ (¬ (A 15 j7) = 1 → mo_Z l G Y_Mo_begin K a0 ad Mb 12 [some (.inr (some a0)), some (.inl y1), some (.inl (y2 + 1))] [] A) ∧ ((A 15 j7) = 1 → (¬ (A 16 j7) = y1 → mo_Z l G Y_Mo_begin K a0 ad Mb 12 [some (.inr (some a0)), some (.inl y1), some (.inl (y2 + 1))] [] A) ∧ ((A 16 j7) = y1 → K (some (.inl (-1))) A)))) :
    mo_Z l G Y_Mo_begin K a0 ad Mb 12 [some (.inr (some a0)), some (.inl y1), some (.inl y2)] [] A := by
  intro M0 M hS
  refine mr_iload_n dd_Mo_begin_12 rfl ?_
  refine mr_iconst 4 dd_Mo_begin_13 (by decide) ?_
  refine mr_icmp_ge 45 dd_Mo_begin_14 (by decide) (fun hc14 => ?_) (fun hc14 => ?_)
  · have h := h.1 hc14
    refine mr_aload_n dd_Mo_begin_45 rfl ?_
    refine mr_geti ff_Mo_144 dd_Mo_begin_46 rs_8_18 rfl hS.1 ?_
    rw [mo_s hS 18 (by decide) rfl]
    refine mr_iconst 4 dd_Mo_begin_49 (by decide) ?_
    refine mr_icmp_lt 56 dd_Mo_begin_50 (by decide) (fun hc50 => ?_) (fun hc50 => ?_)
    · have h := h.1 hc50
      refine mr_aload_n dd_Mo_begin_56 rfl ?_
      refine mr_getr ff_Mo_50 dd_Mo_begin_57 rs_8_15 rfl hS.1 ?_
      rw [mo_p hS 15 (by decide) rfl]
      refine mr_aload_n dd_Mo_begin_60 rfl ?_
      refine mr_geti ff_Mo_144 dd_Mo_begin_61 rs_8_18 rfl hS.1 ?_
      rw [mo_s hS 18 (by decide) rfl]
      refine mr_iconst 1 dd_Mo_begin_64 (by decide) ?_
      obtain ⟨j1, hj2, hb3, h⟩ := h
      refine mr_iast dd_Mo_begin_65 rfl (mo_k hS 15 (by decide) rfl rfl) hj2 (Nat.lt_trans hb3 (by decide)) (mo_l hS 15 (by decide) rfl rfl hb3) ?_
      have hS := mo_S.up hS 15 (by decide) rfl j1 1
      generalize mm_si M (ad 15) j1 1 = M at hS ⊢
      refine mr_aload_n dd_Mo_begin_66 rfl ?_
      refine mr_getr ff_Mo_53 dd_Mo_begin_67 rs_8_16 rfl hS.1 ?_
      rw [mo_p hS 16 (by decide) rfl]
      refine mr_aload_n dd_Mo_begin_70 rfl ?_
      refine mr_geti ff_Mo_144 dd_Mo_begin_71 rs_8_18 rfl hS.1 ?_
      rw [mo_s hS 18 (by decide) rfl]
      refine mr_iload_n dd_Mo_begin_74 rfl ?_
      obtain ⟨j4, hj5, hb6, h⟩ := h
      refine mr_iast dd_Mo_begin_75 rfl (mo_k hS 16 (by decide) rfl rfl) hj5 (Nat.lt_trans hb6 (by decide)) (mo_l hS 16 (by decide) rfl rfl hb6) ?_
      have hS := mo_S.up hS 16 (by decide) rfl j4 y1
      generalize mm_si M (ad 16) j4 y1 = M at hS ⊢
      refine mr_aload_n dd_Mo_begin_76 rfl ?_
      refine mr_dup dd_Mo_begin_77 ?_
      refine mr_geti ff_Mo_144 dd_Mo_begin_78 rs_8_18 rfl hS.1 ?_
      rw [mo_s hS 18 (by decide) rfl]
      refine mr_iconst 1 dd_Mo_begin_81 (by decide) ?_
      refine mr_iadd dd_Mo_begin_82 ?_
      refine mr_puti ff_Mo_144 fp_8 (Or.inl rfl) dd_Mo_begin_83 (Or.inl (by decide +kernel)) rs_8_18 rfl hS.1 ?_
      have hS := mo_S.us hS 18 (by decide) rfl (((mo_u (mo_u A 15 j1 1) 16 j4 y1) 18 0) + 1)
      generalize mm_si M a0 18 (((mo_u (mo_u A 15 j1 1) 16 j4 y1) 18 0) + 1) = M at hS ⊢
      refine mr_bipush 8 dd_Mo_begin_86 (by decide) ?_
      refine mr_aload_n dd_Mo_begin_88 rfl ?_
      refine mr_geti ff_Mo_144 dd_Mo_begin_89 rs_8_18 rfl hS.1 ?_
      rw [mo_s hS 18 (by decide) rfl]
      refine mr_iadd dd_Mo_begin_92 ?_
      exact mr_ireturn dd_Mo_begin_93 rfl ⟨_, hS, h⟩
    · have h := h.2 hc50
      refine mr_bipush (-4) dd_Mo_begin_53 (by decide) ?_
      exact mr_ireturn dd_Mo_begin_55 rfl ⟨_, hS, h⟩
  · have h := h.2 hc14
    refine mr_aload_n dd_Mo_begin_17 rfl ?_
    refine mr_getr ff_Mo_50 dd_Mo_begin_18 rs_8_15 rfl hS.1 ?_
    rw [mo_p hS 15 (by decide) rfl]
    refine mr_iload_n dd_Mo_begin_21 rfl ?_
    obtain ⟨j7, hj8, hb9, h⟩ := h
    refine mr_iald dd_Mo_begin_22 rfl (mo_k hS 15 (by decide) rfl rfl) hj8 (Nat.lt_trans hb9 (by decide)) (mo_l hS 15 (by decide) rfl rfl hb9) ?_
    rw [mo_i hS 15 (by decide) rfl rfl hb9]
    refine mr_iconst 1 dd_Mo_begin_23 (by decide) ?_
    refine mr_icmp_ne 39 dd_Mo_begin_24 (by decide) (fun hc24 => ?_) (fun hc24 => ?_)
    · have h := h.1 hc24
      refine mr_iinc 1 dd_Mo_begin_39 rfl (by decide) (by decide) ?_
      show mm_Z l G Y_Mo_begin (mo_K a0 ad Mb K) _ 0 0 42 [some (.inr (some a0)), some (.inl y1), some (.inl (y2 + 1))] [] M
      refine mr_goto 12 dd_Mo_begin_42 (by decide) ?_
      exact h _ M hS
    · have h := h.2 hc24
      refine mr_aload_n dd_Mo_begin_27 rfl ?_
      refine mr_getr ff_Mo_53 dd_Mo_begin_28 rs_8_16 rfl hS.1 ?_
      rw [mo_p hS 16 (by decide) rfl]
      refine mr_iload_n dd_Mo_begin_31 rfl ?_
      refine mr_iald dd_Mo_begin_32 rfl (mo_k hS 16 (by decide) rfl rfl) hj8 (Nat.lt_trans hb9 (by decide)) (mo_l hS 16 (by decide) rfl rfl hb9) ?_
      rw [mo_i hS 16 (by decide) rfl rfl hb9]
      refine mr_iload_n dd_Mo_begin_33 rfl ?_
      refine mr_icmp_ne 39 dd_Mo_begin_34 (by decide) (fun hc34 => ?_) (fun hc34 => ?_)
      · have h := h.1 hc34
        refine mr_iinc 1 dd_Mo_begin_39 rfl (by decide) (by decide) ?_
        show mm_Z l G Y_Mo_begin (mo_K a0 ad Mb K) _ 0 0 42 [some (.inr (some a0)), some (.inl y1), some (.inl (y2 + 1))] [] M
        refine mr_goto 12 dd_Mo_begin_42 (by decide) ?_
        exact h _ M hS
      · have h := h.2 hc34
        refine mr_iconst (-1) dd_Mo_begin_37 (by decide) ?_
        exact mr_ireturn dd_Mo_begin_38 rfl ⟨_, hS, h⟩
set_option maxHeartbeats 4000000 in
set_option maxRecDepth 100000 in
theorem mg_freeze {l : Launch} {G : mm_G} {K : Option mm_V → mo_A → Prop} {a0 : Nat} {ad : Nat → Nat} {Mb : mm_M} {A : mo_A} {xa : Int32} {xb : Int32}
    (h : mo_Ok l G yy_Mo_lives Y_Mo_lives [.inr (some a0), .inl xa] a0 ad Mb A (fun r B => B = A ∧ ∃ x2 : Int32, r = some (.inl x2) ∧ (x2 = 0 → K (some (.inl (-1))) A) ∧ (¬ x2 = 0 → mo_Ok l G yy_Mo_isRegister Y_Mo_isRegister [.inl xb] a0 ad Mb A (fun r B => B = A ∧ ∃ x4 : Int32, r = some (.inl x4) ∧ (¬ x4 = 0 → ∃ j5 : Nat, ((4 * xa) + xb) = nI j5 ∧ j5 < 32 ∧ mo_Z l G Y_Mo_freeze K a0 ad Mb 33 [some (.inr (some a0)), some (.inl xa), some (.inl xb), some (.inl ((A 5 j5) - 1)), some (.inl 0)] [] A) ∧ (x4 = 0 → K (some (.inl (-1))) A))))) :
    mo_Ok l G yy_Mo_freeze Y_Mo_freeze [.inr (some a0), .inl xa, .inl xb] a0 ad Mb A K := by
  intro M hS
  refine mm_go (by decide) rfl (fun q => by cases q) (Nat.le_of_ble_eq_true rfl) ?_
  show mm_Z l G Y_Mo_freeze (mo_K a0 ad Mb K) _ 0 0 0 [some (.inr (some a0)), some (.inl xa), some (.inl xb), none, none] [] M
  refine mr_aload_n dd_Mo_freeze_0 rfl ?_
  refine mr_iload_n dd_Mo_freeze_1 rfl ?_
  refine mr_callV0 (Yc := Y_Mo_lives) (M := M) (st := []) (vs := [.inl xa]) (ci := 8) fc_Mo_89 iv_Mo_lives sv_Mo_lives dd_Mo_freeze_2 ⟨Nat.le_of_ble_eq_true rfl, Nat.le_of_ble_eq_true rfl⟩ (by decide) rfl rfl (Nat.le_of_ble_eq_true rfl) rfl hS.1 rfl rfl (h M hS) (fun r M _ h => ?_)
  obtain ⟨B, hS, hB, h⟩ := h
  rw [hB] at hS
  obtain ⟨x2, rfl, h⟩ := h
  show mm_Z l G Y_Mo_freeze (mo_K a0 ad Mb K) _ 0 0 5 [some (.inr (some a0)), some (.inl xa), some (.inl xb), none, none] [.inl x2] M
  refine mr_if_eq 15 dd_Mo_freeze_5 (by decide) (fun hc5 => ?_) (fun hc5 => ?_)
  · have h := h.1 hc5
    refine mr_iconst (-1) dd_Mo_freeze_15 (by decide) ?_
    exact mr_ireturn dd_Mo_freeze_16 rfl ⟨_, hS, h⟩
  · have h := h.2 hc5
    refine mr_iload_n dd_Mo_freeze_8 rfl ?_
    refine mr_callS0 (Yc := Y_Mo_isRegister) (M := M) (st := []) (vs := [.inl xb]) fc_Mo_134 si_Mo_isRegister dd_Mo_freeze_9 ⟨Nat.le_of_ble_eq_true rfl, Nat.le_of_ble_eq_true rfl⟩ rfl (Nat.le_of_ble_eq_true rfl) rfl rfl (h M hS) (fun r M _ h => ?_)
    obtain ⟨B, hS, hB, h⟩ := h
    rw [hB] at hS
    obtain ⟨x4, rfl, h⟩ := h
    show mm_Z l G Y_Mo_freeze (mo_K a0 ad Mb K) _ 0 0 12 [some (.inr (some a0)), some (.inl xa), some (.inl xb), none, none] [.inl x4] M
    refine mr_if_ne 17 dd_Mo_freeze_12 (by decide) (fun hc12 => ?_) (fun hc12 => ?_)
    · have h := h.1 hc12
      refine mr_aload_n dd_Mo_freeze_17 rfl ?_
      refine mr_getr ff_Mo_23 dd_Mo_freeze_18 rs_8_5 rfl hS.1 ?_
      rw [mo_p hS 5 (by decide) rfl]
      refine mr_iconst 4 dd_Mo_freeze_21 (by decide) ?_
      refine mr_iload_n dd_Mo_freeze_22 rfl ?_
      refine mr_imul dd_Mo_freeze_23 ?_
      refine mr_iload_n dd_Mo_freeze_24 rfl ?_
      refine mr_iadd dd_Mo_freeze_25 ?_
      obtain ⟨j5, hj6, hb7, h⟩ := h
      refine mr_iald dd_Mo_freeze_26 rfl (mo_k hS 5 (by decide) rfl rfl) hj6 (Nat.lt_trans hb7 (by decide)) (mo_l hS 5 (by decide) rfl rfl hb7) ?_
      rw [mo_i hS 5 (by decide) rfl rfl hb7]
      refine mr_iconst 1 dd_Mo_freeze_27 (by decide) ?_
      refine mr_isub dd_Mo_freeze_28 ?_
      refine mr_istore_n dd_Mo_freeze_29 (by decide) ?_
      show mm_Z l G Y_Mo_freeze (mo_K a0 ad Mb K) _ 0 0 30 [some (.inr (some a0)), some (.inl xa), some (.inl xb), some (.inl ((A 5 j5) - 1)), none] [] M
      refine mr_iconst 0 dd_Mo_freeze_30 (by decide) ?_
      refine mr_istore dd_Mo_freeze_31 (by decide) ?_
      show mm_Z l G Y_Mo_freeze (mo_K a0 ad Mb K) _ 0 0 33 [some (.inr (some a0)), some (.inl xa), some (.inl xb), some (.inl ((A 5 j5) - 1)), some (.inl 0)] [] M
      exact h _ M hS
    · have h := h.2 hc12
      refine mr_iconst (-1) dd_Mo_freeze_15 (by decide) ?_
      exact mr_ireturn dd_Mo_freeze_16 rfl ⟨_, hS, h⟩
set_option maxHeartbeats 4000000 in
set_option maxRecDepth 100000 in
theorem mg_freeze_33 {l : Launch} {G : mm_G} {K : Option mm_V → mo_A → Prop} {a0 : Nat} {ad : Nat → Nat} {Mb : mm_M} {A : mo_A} {y1 : Int32} {y2 : Int32} {y3 : Int32} {y4 : Int32}
    (h : (4 ≤ y4 → K (some (.inl (-1))) A) ∧ (¬ 4 ≤ y4 → ∃ j1 : Nat, y4 = nI j1 ∧ j1 < 4 ∧ (¬ (A 15 j1) = 1 → mo_Z l G Y_Mo_freeze K a0 ad Mb 33 [some (.inr (some a0)), some (.inl y1), some (.inl y2), some (.inl y3), some (.inl (y4 + 1))] [] A) ∧ ((A 15 j1) = 1 → (¬ (A 16 j1) = y1 → mo_Z l G Y_Mo_freeze K a0 ad Mb 33 [some (.inr (some a0)), some (.inl y1), some (.inl y2), some (.inl y3), some (.inl (y4 + 1))] [] A) ∧ ((A 16 j1) = y1 → (y3 < 0 → mo_Z l G Y_Mo_freeze K a0 ad Mb 33 [some (.inr (some a0)), some (.inl y1), some (.inl y2), some (.inl y3), some (.inl (y4 + 1))] [] A) ∧ (¬ y3 < 0 → ∃ j4 : Nat, y3 = nI j4 ∧ j4 < 60 ∧ (¬ (A 6 j4) = (10 + y4) → mo_Z l G Y_Mo_freeze K a0 ad Mb 33 [some (.inr (some a0)), some (.inl y1), some (.inl y2), some (.inl y3), some (.inl (y4 + 1))] [] A) ∧ ((A 6 j4) = (10 + y4) → ∃ j7 : Nat, ((4 * y1) + y4) = nI j7 ∧ j7 < 32 ∧ K (some (.inl (9 + y4))) (mo_u (mo_u (mo_u (mo_u A 15 j1 2) 17 j1 y3) 19 j7 1) 20 j7 1))))))) :
    mo_Z l G Y_Mo_freeze K a0 ad Mb 33 [some (.inr (some a0)), some (.inl y1), some (.inl y2), some (.inl y3), some (.inl y4)] [] A := by
  intro M0 M hS
  refine mr_iload dd_Mo_freeze_33 rfl ?_
  refine mr_iconst 4 dd_Mo_freeze_35 (by decide) ?_
  refine mr_icmp_ge 131 dd_Mo_freeze_36 (by decide) (fun hc36 => ?_) (fun hc36 => ?_)
  · have h := h.1 hc36
    refine mr_iconst (-1) dd_Mo_freeze_131 (by decide) ?_
    exact mr_ireturn dd_Mo_freeze_132 rfl ⟨_, hS, h⟩
  · have h := h.2 hc36
    refine mr_aload_n dd_Mo_freeze_39 rfl ?_
    refine mr_getr ff_Mo_50 dd_Mo_freeze_40 rs_8_15 rfl hS.1 ?_
    rw [mo_p hS 15 (by decide) rfl]
    refine mr_iload dd_Mo_freeze_43 rfl ?_
    obtain ⟨j1, hj2, hb3, h⟩ := h
    refine mr_iald dd_Mo_freeze_45 rfl (mo_k hS 15 (by decide) rfl rfl) hj2 (Nat.lt_trans hb3 (by decide)) (mo_l hS 15 (by decide) rfl rfl hb3) ?_
    rw [mo_i hS 15 (by decide) rfl rfl hb3]
    refine mr_iconst 1 dd_Mo_freeze_46 (by decide) ?_
    refine mr_icmp_ne 125 dd_Mo_freeze_47 (by decide) (fun hc47 => ?_) (fun hc47 => ?_)
    · have h := h.1 hc47
      refine mr_iinc 1 dd_Mo_freeze_125 rfl (by decide) (by decide) ?_
      show mm_Z l G Y_Mo_freeze (mo_K a0 ad Mb K) _ 0 0 128 [some (.inr (some a0)), some (.inl y1), some (.inl y2), some (.inl y3), some (.inl (y4 + 1))] [] M
      refine mr_goto 33 dd_Mo_freeze_128 (by decide) ?_
      exact h _ M hS
    · have h := h.2 hc47
      refine mr_aload_n dd_Mo_freeze_50 rfl ?_
      refine mr_getr ff_Mo_53 dd_Mo_freeze_51 rs_8_16 rfl hS.1 ?_
      rw [mo_p hS 16 (by decide) rfl]
      refine mr_iload dd_Mo_freeze_54 rfl ?_
      refine mr_iald dd_Mo_freeze_56 rfl (mo_k hS 16 (by decide) rfl rfl) hj2 (Nat.lt_trans hb3 (by decide)) (mo_l hS 16 (by decide) rfl rfl hb3) ?_
      rw [mo_i hS 16 (by decide) rfl rfl hb3]
      refine mr_iload_n dd_Mo_freeze_57 rfl ?_
      refine mr_icmp_ne 125 dd_Mo_freeze_58 (by decide) (fun hc58 => ?_) (fun hc58 => ?_)
      · have h := h.1 hc58
        refine mr_iinc 1 dd_Mo_freeze_125 rfl (by decide) (by decide) ?_
        show mm_Z l G Y_Mo_freeze (mo_K a0 ad Mb K) _ 0 0 128 [some (.inr (some a0)), some (.inl y1), some (.inl y2), some (.inl y3), some (.inl (y4 + 1))] [] M
        refine mr_goto 33 dd_Mo_freeze_128 (by decide) ?_
        exact h _ M hS
      · have h := h.2 hc58
        refine mr_iload_n dd_Mo_freeze_61 rfl ?_
        refine mr_if_lt 125 dd_Mo_freeze_62 (by decide) (fun hc62 => ?_) (fun hc62 => ?_)
        · have h := h.1 hc62
          refine mr_iinc 1 dd_Mo_freeze_125 rfl (by decide) (by decide) ?_
          show mm_Z l G Y_Mo_freeze (mo_K a0 ad Mb K) _ 0 0 128 [some (.inr (some a0)), some (.inl y1), some (.inl y2), some (.inl y3), some (.inl (y4 + 1))] [] M
          refine mr_goto 33 dd_Mo_freeze_128 (by decide) ?_
          exact h _ M hS
        · have h := h.2 hc62
          refine mr_aload_n dd_Mo_freeze_65 rfl ?_
          refine mr_getr ff_Mo_26 dd_Mo_freeze_66 rs_8_6 rfl hS.1 ?_
          rw [mo_p hS 6 (by decide) rfl]
          refine mr_iload_n dd_Mo_freeze_69 rfl ?_
          obtain ⟨j4, hj5, hb6, h⟩ := h
          refine mr_iald dd_Mo_freeze_70 rfl (mo_k hS 6 (by decide) rfl rfl) hj5 (Nat.lt_trans hb6 (by decide)) (mo_l hS 6 (by decide) rfl rfl hb6) ?_
          rw [mo_i hS 6 (by decide) rfl rfl hb6]
          refine mr_bipush 10 dd_Mo_freeze_71 (by decide) ?_
          refine mr_iload dd_Mo_freeze_73 rfl ?_
          refine mr_iadd dd_Mo_freeze_75 ?_
          refine mr_icmp_ne 125 dd_Mo_freeze_76 (by decide) (fun hc76 => ?_) (fun hc76 => ?_)
          · have h := h.1 hc76
            refine mr_iinc 1 dd_Mo_freeze_125 rfl (by decide) (by decide) ?_
            show mm_Z l G Y_Mo_freeze (mo_K a0 ad Mb K) _ 0 0 128 [some (.inr (some a0)), some (.inl y1), some (.inl y2), some (.inl y3), some (.inl (y4 + 1))] [] M
            refine mr_goto 33 dd_Mo_freeze_128 (by decide) ?_
            exact h _ M hS
          · have h := h.2 hc76
            refine mr_aload_n dd_Mo_freeze_79 rfl ?_
            refine mr_getr ff_Mo_50 dd_Mo_freeze_80 rs_8_15 rfl hS.1 ?_
            rw [mo_p hS 15 (by decide) rfl]
            refine mr_iload dd_Mo_freeze_83 rfl ?_
            refine mr_iconst 2 dd_Mo_freeze_85 (by decide) ?_
            refine mr_iast dd_Mo_freeze_86 rfl (mo_k hS 15 (by decide) rfl rfl) hj2 (Nat.lt_trans hb3 (by decide)) (mo_l hS 15 (by decide) rfl rfl hb3) ?_
            have hS := mo_S.up hS 15 (by decide) rfl j1 2
            generalize mm_si M (ad 15) j1 2 = M at hS ⊢
            refine mr_aload_n dd_Mo_freeze_87 rfl ?_
            refine mr_getr ff_Mo_56 dd_Mo_freeze_88 rs_8_17 rfl hS.1 ?_
            rw [mo_p hS 17 (by decide) rfl]
            refine mr_iload dd_Mo_freeze_91 rfl ?_
            refine mr_iload_n dd_Mo_freeze_93 rfl ?_
            refine mr_iast dd_Mo_freeze_94 rfl (mo_k hS 17 (by decide) rfl rfl) hj2 (Nat.lt_trans hb3 (by decide)) (mo_l hS 17 (by decide) rfl rfl hb3) ?_
            have hS := mo_S.up hS 17 (by decide) rfl j1 y3
            generalize mm_si M (ad 17) j1 y3 = M at hS ⊢
            refine mr_aload_n dd_Mo_freeze_95 rfl ?_
            refine mr_getr ff_Mo_59 dd_Mo_freeze_96 rs_8_19 rfl hS.1 ?_
            rw [mo_p hS 19 (by decide) rfl]
            refine mr_iconst 4 dd_Mo_freeze_99 (by decide) ?_
            refine mr_iload_n dd_Mo_freeze_100 rfl ?_
            refine mr_imul dd_Mo_freeze_101 ?_
            refine mr_iload dd_Mo_freeze_102 rfl ?_
            refine mr_iadd dd_Mo_freeze_104 ?_
            refine mr_iconst 1 dd_Mo_freeze_105 (by decide) ?_
            obtain ⟨j7, hj8, hb9, h⟩ := h
            refine mr_zast dd_Mo_freeze_106 rfl (mo_k hS 19 (by decide) rfl rfl) hj8 (Nat.lt_trans hb9 (by decide)) (mo_l hS 19 (by decide) rfl rfl hb9) (Or.inr rfl) ?_
            have hS := mo_S.up hS 19 (by decide) rfl j7 1
            generalize mm_si M (ad 19) j7 1 = M at hS ⊢
            refine mr_aload_n dd_Mo_freeze_107 rfl ?_
            refine mr_getr ff_Mo_62 dd_Mo_freeze_108 rs_8_20 rfl hS.1 ?_
            rw [mo_p hS 20 (by decide) rfl]
            refine mr_iconst 4 dd_Mo_freeze_111 (by decide) ?_
            refine mr_iload_n dd_Mo_freeze_112 rfl ?_
            refine mr_imul dd_Mo_freeze_113 ?_
            refine mr_iload dd_Mo_freeze_114 rfl ?_
            refine mr_iadd dd_Mo_freeze_116 ?_
            refine mr_iconst 1 dd_Mo_freeze_117 (by decide) ?_
            refine mr_zast dd_Mo_freeze_118 rfl (mo_k hS 20 (by decide) rfl rfl) hj8 (Nat.lt_trans hb9 (by decide)) (mo_l hS 20 (by decide) rfl rfl hb9) (Or.inr rfl) ?_
            have hS := mo_S.up hS 20 (by decide) rfl j7 1
            generalize mm_si M (ad 20) j7 1 = M at hS ⊢
            refine mr_bipush 9 dd_Mo_freeze_119 (by decide) ?_
            refine mr_iload dd_Mo_freeze_121 rfl ?_
            refine mr_iadd dd_Mo_freeze_123 ?_
            exact mr_ireturn dd_Mo_freeze_124 rfl ⟨_, hS, h⟩
set_option maxHeartbeats 4000000 in
set_option maxRecDepth 100000 in
theorem mg_lookup {l : Launch} {G : mm_G} {K : Option mm_V → mo_A → Prop} {a0 : Nat} {ad : Nat → Nat} {Mb : mm_M} {A : mo_A} {xa : Int32} {xb : Int32} {xc : Int32}
    (h : mo_Ok l G yy_Mo_lives Y_Mo_lives [.inr (some a0), .inl xa] a0 ad Mb A (fun r B => B = A ∧ ∃ x2 : Int32, r = some (.inl x2) ∧ (x2 = 0 → K (some (.inl (-1))) A) ∧ (¬ x2 = 0 → mo_Ok l G yy_Mo_isRegister Y_Mo_isRegister [.inl xc] a0 ad Mb A (fun r B => B = A ∧ ∃ x4 : Int32, r = some (.inl x4) ∧ (x4 = 0 → K (some (.inl (-1))) A) ∧ (¬ x4 = 0 → mo_Ok l G yy_Mo_frozen Y_Mo_frozen [.inr (some a0), .inl xb] a0 ad Mb A (fun r B => B = A ∧ ∃ x6 : Int32, r = some (.inl x6) ∧ (¬ x6 = 0 → ∃ j7 : Nat, ((4 * xa) + (xb - 9)) = nI j7 ∧ j7 < 32 ∧ (¬ (A 19 j7) = 0 → ∃ j10 : Nat, (xb - 9) = nI j10 ∧ j10 < 4 ∧ ∃ j13 : Nat, ((4 * xa) + xc) = nI j13 ∧ j13 < 32 ∧ K (some (.inl 0)) (mo_u A 5 j13 ((A 17 j10) + 1))) ∧ ((A 19 j7) = 0 → mo_Ok l G yy_Mo_rest Y_Mo_rest [.inr (some a0), .inl xa] a0 ad Mb A (fun r A16 => ∃ x17 : Int32, r = some (.inl x17) ∧ mo_Ok l G yy_Mo_pages Y_Mo_pages [.inr (some a0), .inl xb] a0 ad Mb A16 (fun r B => B = A16 ∧ ∃ x19 : Int32, r = some (.inl x19) ∧ (x19 ≤ x17 → mo_Ok l G yy_Mo_rest Y_Mo_rest [.inr (some a0), .inl xa] a0 ad Mb A16 (fun r A20 => ∃ x21 : Int32, r = some (.inl x21) ∧ mo_Ok l G yy_Mo_pages Y_Mo_pages [.inr (some a0), .inl xb] a0 ad Mb A20 (fun r B => B = A20 ∧ ∃ x23 : Int32, r = some (.inl x23) ∧ (x23 ≤ x21 → ∃ j24 : Nat, (xb - 9) = nI j24 ∧ j24 < 4 ∧ ∃ j27 : Nat, ((4 * xa) + xc) = nI j27 ∧ j27 < 32 ∧ K (some (.inl 0)) (mo_u (mo_u (mo_u A20 19 j7 1) 20 j7 1) 5 j27 (((mo_u (mo_u A20 19 j7 1) 20 j7 1) 17 j24) + 1))) ∧ (¬ x23 ≤ x21 → K (some (.inl (-5))) A20)))) ∧ (¬ x19 ≤ x17 → mo_Ok l G yy_Mo_sweep Y_Mo_sweep [.inr (some a0), .inl xa] a0 ad Mb A16 (fun r A30 => ∃ x31 : Int32, r = some (.inl x31) ∧ mo_Ok l G yy_Mo_rest Y_Mo_rest [.inr (some a0), .inl xa] a0 ad Mb A30 (fun r A32 => ∃ x33 : Int32, r = some (.inl x33) ∧ mo_Ok l G yy_Mo_pages Y_Mo_pages [.inr (some a0), .inl xb] a0 ad Mb A32 (fun r B => B = A32 ∧ ∃ x35 : Int32, r = some (.inl x35) ∧ (x35 ≤ x33 → ∃ j36 : Nat, (xb - 9) = nI j36 ∧ j36 < 4 ∧ ∃ j39 : Nat, ((4 * xa) + xc) = nI j39 ∧ j39 < 32 ∧ K (some (.inl 0)) (mo_u (mo_u (mo_u A32 19 j7 1) 20 j7 1) 5 j39 (((mo_u (mo_u A32 19 j7 1) 20 j7 1) 17 j36) + 1))) ∧ (¬ x35 ≤ x33 → K (some (.inl (-5))) A32))))))))) ∧ (x6 = 0 → K (some (.inl (-1))) A))))))) :
    mo_Ok l G yy_Mo_lookup Y_Mo_lookup [.inr (some a0), .inl xa, .inl xb, .inl xc] a0 ad Mb A K := by
  intro M hS
  refine mm_go (by decide) rfl (fun q => by cases q) (Nat.le_of_ble_eq_true rfl) ?_
  show mm_Z l G Y_Mo_lookup (mo_K a0 ad Mb K) _ 0 0 0 [some (.inr (some a0)), some (.inl xa), some (.inl xb), some (.inl xc), none] [] M
  refine mr_aload_n dd_Mo_lookup_0 rfl ?_
  refine mr_iload_n dd_Mo_lookup_1 rfl ?_
  refine mr_callV0 (Yc := Y_Mo_lives) (M := M) (st := []) (vs := [.inl xa]) (ci := 8) fc_Mo_89 iv_Mo_lives sv_Mo_lives dd_Mo_lookup_2 ⟨Nat.le_of_ble_eq_true rfl, Nat.le_of_ble_eq_true rfl⟩ (by decide) rfl rfl (Nat.le_of_ble_eq_true rfl) rfl hS.1 rfl rfl (h M hS) (fun r M _ h => ?_)
  obtain ⟨B, hS, hB, h⟩ := h
  rw [hB] at hS
  obtain ⟨x2, rfl, h⟩ := h
  show mm_Z l G Y_Mo_lookup (mo_K a0 ad Mb K) _ 0 0 5 [some (.inr (some a0)), some (.inl xa), some (.inl xb), some (.inl xc), none] [.inl x2] M
  refine mr_if_eq 23 dd_Mo_lookup_5 (by decide) (fun hc5 => ?_) (fun hc5 => ?_)
  · have h := h.1 hc5
    refine mr_iconst (-1) dd_Mo_lookup_23 (by decide) ?_
    exact mr_ireturn dd_Mo_lookup_24 rfl ⟨_, hS, h⟩
  · have h := h.2 hc5
    refine mr_iload_n dd_Mo_lookup_8 rfl ?_
    refine mr_callS0 (Yc := Y_Mo_isRegister) (M := M) (st := []) (vs := [.inl xc]) fc_Mo_134 si_Mo_isRegister dd_Mo_lookup_9 ⟨Nat.le_of_ble_eq_true rfl, Nat.le_of_ble_eq_true rfl⟩ rfl (Nat.le_of_ble_eq_true rfl) rfl rfl (h M hS) (fun r M _ h => ?_)
    obtain ⟨B, hS, hB, h⟩ := h
    rw [hB] at hS
    obtain ⟨x4, rfl, h⟩ := h
    show mm_Z l G Y_Mo_lookup (mo_K a0 ad Mb K) _ 0 0 12 [some (.inr (some a0)), some (.inl xa), some (.inl xb), some (.inl xc), none] [.inl x4] M
    refine mr_if_eq 23 dd_Mo_lookup_12 (by decide) (fun hc12 => ?_) (fun hc12 => ?_)
    · have h := h.1 hc12
      refine mr_iconst (-1) dd_Mo_lookup_23 (by decide) ?_
      exact mr_ireturn dd_Mo_lookup_24 rfl ⟨_, hS, h⟩
    · have h := h.2 hc12
      refine mr_aload_n dd_Mo_lookup_15 rfl ?_
      refine mr_iload_n dd_Mo_lookup_16 rfl ?_
      refine mr_callV0 (Yc := Y_Mo_frozen) (M := M) (st := []) (vs := [.inl xb]) (ci := 8) fc_Mo_81 iv_Mo_frozen sv_Mo_frozen dd_Mo_lookup_17 ⟨Nat.le_of_ble_eq_true rfl, Nat.le_of_ble_eq_true rfl⟩ (by decide) rfl rfl (Nat.le_of_ble_eq_true rfl) rfl hS.1 rfl rfl (h M hS) (fun r M _ h => ?_)
      obtain ⟨B, hS, hB, h⟩ := h
      rw [hB] at hS
      obtain ⟨x6, rfl, h⟩ := h
      show mm_Z l G Y_Mo_lookup (mo_K a0 ad Mb K) _ 0 0 20 [some (.inr (some a0)), some (.inl xa), some (.inl xb), some (.inl xc), none] [.inl x6] M
      refine mr_if_ne 25 dd_Mo_lookup_20 (by decide) (fun hc20 => ?_) (fun hc20 => ?_)
      · have h := h.1 hc20
        refine mr_iload_n dd_Mo_lookup_25 rfl ?_
        refine mr_bipush 9 dd_Mo_lookup_26 (by decide) ?_
        refine mr_isub dd_Mo_lookup_28 ?_
        refine mr_istore dd_Mo_lookup_29 (by decide) ?_
        show mm_Z l G Y_Mo_lookup (mo_K a0 ad Mb K) _ 0 0 31 [some (.inr (some a0)), some (.inl xa), some (.inl xb), some (.inl xc), some (.inl (xb - 9))] [] M
        refine mr_aload_n dd_Mo_lookup_31 rfl ?_
        refine mr_getr ff_Mo_59 dd_Mo_lookup_32 rs_8_19 rfl hS.1 ?_
        rw [mo_p hS 19 (by decide) rfl]
        refine mr_iconst 4 dd_Mo_lookup_35 (by decide) ?_
        refine mr_iload_n dd_Mo_lookup_36 rfl ?_
        refine mr_imul dd_Mo_lookup_37 ?_
        refine mr_iload dd_Mo_lookup_38 rfl ?_
        refine mr_iadd dd_Mo_lookup_40 ?_
        obtain ⟨j7, hj8, hb9, h⟩ := h
        refine mr_zald dd_Mo_lookup_41 rfl (mo_k hS 19 (by decide) rfl rfl) hj8 (Nat.lt_trans hb9 (by decide)) (mo_l hS 19 (by decide) rfl rfl hb9) ?_
        rw [mo_i hS 19 (by decide) rfl rfl hb9]
        refine mr_if_ne 104 dd_Mo_lookup_42 (by decide) (fun hc42 => ?_) (fun hc42 => ?_)
        · have h := h.1 hc42
          refine mr_aload_n dd_Mo_lookup_104 rfl ?_
          refine mr_getr ff_Mo_23 dd_Mo_lookup_105 rs_8_5 rfl hS.1 ?_
          rw [mo_p hS 5 (by decide) rfl]
          refine mr_iconst 4 dd_Mo_lookup_108 (by decide) ?_
          refine mr_iload_n dd_Mo_lookup_109 rfl ?_
          refine mr_imul dd_Mo_lookup_110 ?_
          refine mr_iload_n dd_Mo_lookup_111 rfl ?_
          refine mr_iadd dd_Mo_lookup_112 ?_
          refine mr_aload_n dd_Mo_lookup_113 rfl ?_
          refine mr_getr ff_Mo_56 dd_Mo_lookup_114 rs_8_17 rfl hS.1 ?_
          rw [mo_p hS 17 (by decide) rfl]
          refine mr_iload dd_Mo_lookup_117 rfl ?_
          obtain ⟨j10, hj11, hb12, h⟩ := h
          refine mr_iald dd_Mo_lookup_119 rfl (mo_k hS 17 (by decide) rfl rfl) hj11 (Nat.lt_trans hb12 (by decide)) (mo_l hS 17 (by decide) rfl rfl hb12) ?_
          rw [mo_i hS 17 (by decide) rfl rfl hb12]
          refine mr_iconst 1 dd_Mo_lookup_120 (by decide) ?_
          refine mr_iadd dd_Mo_lookup_121 ?_
          obtain ⟨j13, hj14, hb15, h⟩ := h
          refine mr_iast dd_Mo_lookup_122 rfl (mo_k hS 5 (by decide) rfl rfl) hj14 (Nat.lt_trans hb15 (by decide)) (mo_l hS 5 (by decide) rfl rfl hb15) ?_
          have hS := mo_S.up hS 5 (by decide) rfl j13 ((A 17 j10) + 1)
          generalize mm_si M (ad 5) j13 ((A 17 j10) + 1) = M at hS ⊢
          refine mr_iconst 0 dd_Mo_lookup_123 (by decide) ?_
          exact mr_ireturn dd_Mo_lookup_124 rfl ⟨_, hS, h⟩
        · have h := h.2 hc42
          refine mr_aload_n dd_Mo_lookup_45 rfl ?_
          refine mr_iload_n dd_Mo_lookup_46 rfl ?_
          refine mr_callV0 (Yc := Y_Mo_rest) (M := M) (st := []) (vs := [.inl xa]) (ci := 8) fc_Mo_124 iv_Mo_rest sv_Mo_rest dd_Mo_lookup_47 ⟨Nat.le_of_ble_eq_true rfl, Nat.le_of_ble_eq_true rfl⟩ (by decide) rfl rfl (Nat.le_of_ble_eq_true rfl) rfl hS.1 rfl rfl (h M hS) (fun r M _ h => ?_)
          obtain ⟨A16, hS, h⟩ := h
          obtain ⟨x17, rfl, h⟩ := h
          show mm_Z l G Y_Mo_lookup (mo_K a0 ad Mb K) _ 0 0 50 [some (.inr (some a0)), some (.inl xa), some (.inl xb), some (.inl xc), some (.inl (xb - 9))] [.inl x17] M
          refine mr_aload_n dd_Mo_lookup_50 rfl ?_
          refine mr_iload_n dd_Mo_lookup_51 rfl ?_
          refine mr_callV0 (Yc := Y_Mo_pages) (M := M) (st := [.inl x17]) (vs := [.inl xb]) (ci := 8) fc_Mo_85 iv_Mo_pages sv_Mo_pages dd_Mo_lookup_52 ⟨Nat.le_of_ble_eq_true rfl, Nat.le_of_ble_eq_true rfl⟩ (by decide) rfl rfl (Nat.le_of_ble_eq_true rfl) rfl hS.1 rfl rfl (h M hS) (fun r M _ h => ?_)
          obtain ⟨B, hS, hB, h⟩ := h
          rw [hB] at hS
          obtain ⟨x19, rfl, h⟩ := h
          show mm_Z l G Y_Mo_lookup (mo_K a0 ad Mb K) _ 0 0 55 [some (.inr (some a0)), some (.inl xa), some (.inl xb), some (.inl xc), some (.inl (xb - 9))] [.inl x19, .inl x17] M
          refine mr_icmp_ge 64 dd_Mo_lookup_55 (by decide) (fun hc55 => ?_) (fun hc55 => ?_)
          · have h := h.1 hc55
            refine mr_aload_n dd_Mo_lookup_64 rfl ?_
            refine mr_iload_n dd_Mo_lookup_65 rfl ?_
            refine mr_callV0 (Yc := Y_Mo_rest) (M := M) (st := []) (vs := [.inl xa]) (ci := 8) fc_Mo_124 iv_Mo_rest sv_Mo_rest dd_Mo_lookup_66 ⟨Nat.le_of_ble_eq_true rfl, Nat.le_of_ble_eq_true rfl⟩ (by decide) rfl rfl (Nat.le_of_ble_eq_true rfl) rfl hS.1 rfl rfl (h M hS) (fun r M _ h => ?_)
            obtain ⟨A20, hS, h⟩ := h
            obtain ⟨x21, rfl, h⟩ := h
            show mm_Z l G Y_Mo_lookup (mo_K a0 ad Mb K) _ 0 0 69 [some (.inr (some a0)), some (.inl xa), some (.inl xb), some (.inl xc), some (.inl (xb - 9))] [.inl x21] M
            refine mr_aload_n dd_Mo_lookup_69 rfl ?_
            refine mr_iload_n dd_Mo_lookup_70 rfl ?_
            refine mr_callV0 (Yc := Y_Mo_pages) (M := M) (st := [.inl x21]) (vs := [.inl xb]) (ci := 8) fc_Mo_85 iv_Mo_pages sv_Mo_pages dd_Mo_lookup_71 ⟨Nat.le_of_ble_eq_true rfl, Nat.le_of_ble_eq_true rfl⟩ (by decide) rfl rfl (Nat.le_of_ble_eq_true rfl) rfl hS.1 rfl rfl (h M hS) (fun r M _ h => ?_)
            obtain ⟨B, hS, hB, h⟩ := h
            rw [hB] at hS
            obtain ⟨x23, rfl, h⟩ := h
            show mm_Z l G Y_Mo_lookup (mo_K a0 ad Mb K) _ 0 0 74 [some (.inr (some a0)), some (.inl xa), some (.inl xb), some (.inl xc), some (.inl (xb - 9))] [.inl x23, .inl x21] M
            refine mr_icmp_ge 80 dd_Mo_lookup_74 (by decide) (fun hc74 => ?_) (fun hc74 => ?_)
            · have h := h.1 hc74
              refine mr_aload_n dd_Mo_lookup_80 rfl ?_
              refine mr_getr ff_Mo_59 dd_Mo_lookup_81 rs_8_19 rfl hS.1 ?_
              rw [mo_p hS 19 (by decide) rfl]
              refine mr_iconst 4 dd_Mo_lookup_84 (by decide) ?_
              refine mr_iload_n dd_Mo_lookup_85 rfl ?_
              refine mr_imul dd_Mo_lookup_86 ?_
              refine mr_iload dd_Mo_lookup_87 rfl ?_
              refine mr_iadd dd_Mo_lookup_89 ?_
              refine mr_iconst 1 dd_Mo_lookup_90 (by decide) ?_
              refine mr_zast dd_Mo_lookup_91 rfl (mo_k hS 19 (by decide) rfl rfl) hj8 (Nat.lt_trans hb9 (by decide)) (mo_l hS 19 (by decide) rfl rfl hb9) (Or.inr rfl) ?_
              have hS := mo_S.up hS 19 (by decide) rfl j7 1
              generalize mm_si M (ad 19) j7 1 = M at hS ⊢
              refine mr_aload_n dd_Mo_lookup_92 rfl ?_
              refine mr_getr ff_Mo_62 dd_Mo_lookup_93 rs_8_20 rfl hS.1 ?_
              rw [mo_p hS 20 (by decide) rfl]
              refine mr_iconst 4 dd_Mo_lookup_96 (by decide) ?_
              refine mr_iload_n dd_Mo_lookup_97 rfl ?_
              refine mr_imul dd_Mo_lookup_98 ?_
              refine mr_iload dd_Mo_lookup_99 rfl ?_
              refine mr_iadd dd_Mo_lookup_101 ?_
              refine mr_iconst 1 dd_Mo_lookup_102 (by decide) ?_
              refine mr_zast dd_Mo_lookup_103 rfl (mo_k hS 20 (by decide) rfl rfl) hj8 (Nat.lt_trans hb9 (by decide)) (mo_l hS 20 (by decide) rfl rfl hb9) (Or.inr rfl) ?_
              have hS := mo_S.up hS 20 (by decide) rfl j7 1
              generalize mm_si M (ad 20) j7 1 = M at hS ⊢
              refine mr_aload_n dd_Mo_lookup_104 rfl ?_
              refine mr_getr ff_Mo_23 dd_Mo_lookup_105 rs_8_5 rfl hS.1 ?_
              rw [mo_p hS 5 (by decide) rfl]
              refine mr_iconst 4 dd_Mo_lookup_108 (by decide) ?_
              refine mr_iload_n dd_Mo_lookup_109 rfl ?_
              refine mr_imul dd_Mo_lookup_110 ?_
              refine mr_iload_n dd_Mo_lookup_111 rfl ?_
              refine mr_iadd dd_Mo_lookup_112 ?_
              refine mr_aload_n dd_Mo_lookup_113 rfl ?_
              refine mr_getr ff_Mo_56 dd_Mo_lookup_114 rs_8_17 rfl hS.1 ?_
              rw [mo_p hS 17 (by decide) rfl]
              refine mr_iload dd_Mo_lookup_117 rfl ?_
              obtain ⟨j24, hj25, hb26, h⟩ := h
              refine mr_iald dd_Mo_lookup_119 rfl (mo_k hS 17 (by decide) rfl rfl) hj25 (Nat.lt_trans hb26 (by decide)) (mo_l hS 17 (by decide) rfl rfl hb26) ?_
              rw [mo_i hS 17 (by decide) rfl rfl hb26]
              refine mr_iconst 1 dd_Mo_lookup_120 (by decide) ?_
              refine mr_iadd dd_Mo_lookup_121 ?_
              obtain ⟨j27, hj28, hb29, h⟩ := h
              refine mr_iast dd_Mo_lookup_122 rfl (mo_k hS 5 (by decide) rfl rfl) hj28 (Nat.lt_trans hb29 (by decide)) (mo_l hS 5 (by decide) rfl rfl hb29) ?_
              have hS := mo_S.up hS 5 (by decide) rfl j27 (((mo_u (mo_u A20 19 j7 1) 20 j7 1) 17 j24) + 1)
              generalize mm_si M (ad 5) j27 (((mo_u (mo_u A20 19 j7 1) 20 j7 1) 17 j24) + 1) = M at hS ⊢
              refine mr_iconst 0 dd_Mo_lookup_123 (by decide) ?_
              exact mr_ireturn dd_Mo_lookup_124 rfl ⟨_, hS, h⟩
            · have h := h.2 hc74
              refine mr_bipush (-5) dd_Mo_lookup_77 (by decide) ?_
              exact mr_ireturn dd_Mo_lookup_79 rfl ⟨_, hS, h⟩
          · have h := h.2 hc55
            refine mr_aload_n dd_Mo_lookup_58 rfl ?_
            refine mr_iload_n dd_Mo_lookup_59 rfl ?_
            refine mr_callV0 (Yc := Y_Mo_sweep) (M := M) (st := []) (vs := [.inl xa]) (ci := 8) fc_Mo_141 iv_Mo_sweep sv_Mo_sweep dd_Mo_lookup_60 ⟨Nat.le_of_ble_eq_true rfl, Nat.le_of_ble_eq_true rfl⟩ (by decide) rfl rfl (Nat.le_of_ble_eq_true rfl) rfl hS.1 rfl rfl (h M hS) (fun r M _ h => ?_)
            obtain ⟨A30, hS, h⟩ := h
            obtain ⟨x31, rfl, h⟩ := h
            show mm_Z l G Y_Mo_lookup (mo_K a0 ad Mb K) _ 0 0 63 [some (.inr (some a0)), some (.inl xa), some (.inl xb), some (.inl xc), some (.inl (xb - 9))] [.inl x31] M
            refine mr_pop dd_Mo_lookup_63 ?_
            refine mr_aload_n dd_Mo_lookup_64 rfl ?_
            refine mr_iload_n dd_Mo_lookup_65 rfl ?_
            refine mr_callV0 (Yc := Y_Mo_rest) (M := M) (st := []) (vs := [.inl xa]) (ci := 8) fc_Mo_124 iv_Mo_rest sv_Mo_rest dd_Mo_lookup_66 ⟨Nat.le_of_ble_eq_true rfl, Nat.le_of_ble_eq_true rfl⟩ (by decide) rfl rfl (Nat.le_of_ble_eq_true rfl) rfl hS.1 rfl rfl (h M hS) (fun r M _ h => ?_)
            obtain ⟨A32, hS, h⟩ := h
            obtain ⟨x33, rfl, h⟩ := h
            show mm_Z l G Y_Mo_lookup (mo_K a0 ad Mb K) _ 0 0 69 [some (.inr (some a0)), some (.inl xa), some (.inl xb), some (.inl xc), some (.inl (xb - 9))] [.inl x33] M
            refine mr_aload_n dd_Mo_lookup_69 rfl ?_
            refine mr_iload_n dd_Mo_lookup_70 rfl ?_
            refine mr_callV0 (Yc := Y_Mo_pages) (M := M) (st := [.inl x33]) (vs := [.inl xb]) (ci := 8) fc_Mo_85 iv_Mo_pages sv_Mo_pages dd_Mo_lookup_71 ⟨Nat.le_of_ble_eq_true rfl, Nat.le_of_ble_eq_true rfl⟩ (by decide) rfl rfl (Nat.le_of_ble_eq_true rfl) rfl hS.1 rfl rfl (h M hS) (fun r M _ h => ?_)
            obtain ⟨B, hS, hB, h⟩ := h
            rw [hB] at hS
            obtain ⟨x35, rfl, h⟩ := h
            show mm_Z l G Y_Mo_lookup (mo_K a0 ad Mb K) _ 0 0 74 [some (.inr (some a0)), some (.inl xa), some (.inl xb), some (.inl xc), some (.inl (xb - 9))] [.inl x35, .inl x33] M
            refine mr_icmp_ge 80 dd_Mo_lookup_74 (by decide) (fun hc74 => ?_) (fun hc74 => ?_)
            · have h := h.1 hc74
              refine mr_aload_n dd_Mo_lookup_80 rfl ?_
              refine mr_getr ff_Mo_59 dd_Mo_lookup_81 rs_8_19 rfl hS.1 ?_
              rw [mo_p hS 19 (by decide) rfl]
              refine mr_iconst 4 dd_Mo_lookup_84 (by decide) ?_
              refine mr_iload_n dd_Mo_lookup_85 rfl ?_
              refine mr_imul dd_Mo_lookup_86 ?_
              refine mr_iload dd_Mo_lookup_87 rfl ?_
              refine mr_iadd dd_Mo_lookup_89 ?_
              refine mr_iconst 1 dd_Mo_lookup_90 (by decide) ?_
              refine mr_zast dd_Mo_lookup_91 rfl (mo_k hS 19 (by decide) rfl rfl) hj8 (Nat.lt_trans hb9 (by decide)) (mo_l hS 19 (by decide) rfl rfl hb9) (Or.inr rfl) ?_
              have hS := mo_S.up hS 19 (by decide) rfl j7 1
              generalize mm_si M (ad 19) j7 1 = M at hS ⊢
              refine mr_aload_n dd_Mo_lookup_92 rfl ?_
              refine mr_getr ff_Mo_62 dd_Mo_lookup_93 rs_8_20 rfl hS.1 ?_
              rw [mo_p hS 20 (by decide) rfl]
              refine mr_iconst 4 dd_Mo_lookup_96 (by decide) ?_
              refine mr_iload_n dd_Mo_lookup_97 rfl ?_
              refine mr_imul dd_Mo_lookup_98 ?_
              refine mr_iload dd_Mo_lookup_99 rfl ?_
              refine mr_iadd dd_Mo_lookup_101 ?_
              refine mr_iconst 1 dd_Mo_lookup_102 (by decide) ?_
              refine mr_zast dd_Mo_lookup_103 rfl (mo_k hS 20 (by decide) rfl rfl) hj8 (Nat.lt_trans hb9 (by decide)) (mo_l hS 20 (by decide) rfl rfl hb9) (Or.inr rfl) ?_
              have hS := mo_S.up hS 20 (by decide) rfl j7 1
              generalize mm_si M (ad 20) j7 1 = M at hS ⊢
              refine mr_aload_n dd_Mo_lookup_104 rfl ?_
              refine mr_getr ff_Mo_23 dd_Mo_lookup_105 rs_8_5 rfl hS.1 ?_
              rw [mo_p hS 5 (by decide) rfl]
              refine mr_iconst 4 dd_Mo_lookup_108 (by decide) ?_
              refine mr_iload_n dd_Mo_lookup_109 rfl ?_
              refine mr_imul dd_Mo_lookup_110 ?_
              refine mr_iload_n dd_Mo_lookup_111 rfl ?_
              refine mr_iadd dd_Mo_lookup_112 ?_
              refine mr_aload_n dd_Mo_lookup_113 rfl ?_
              refine mr_getr ff_Mo_56 dd_Mo_lookup_114 rs_8_17 rfl hS.1 ?_
              rw [mo_p hS 17 (by decide) rfl]
              refine mr_iload dd_Mo_lookup_117 rfl ?_
              obtain ⟨j36, hj37, hb38, h⟩ := h
              refine mr_iald dd_Mo_lookup_119 rfl (mo_k hS 17 (by decide) rfl rfl) hj37 (Nat.lt_trans hb38 (by decide)) (mo_l hS 17 (by decide) rfl rfl hb38) ?_
              rw [mo_i hS 17 (by decide) rfl rfl hb38]
              refine mr_iconst 1 dd_Mo_lookup_120 (by decide) ?_
              refine mr_iadd dd_Mo_lookup_121 ?_
              obtain ⟨j39, hj40, hb41, h⟩ := h
              refine mr_iast dd_Mo_lookup_122 rfl (mo_k hS 5 (by decide) rfl rfl) hj40 (Nat.lt_trans hb41 (by decide)) (mo_l hS 5 (by decide) rfl rfl hb41) ?_
              have hS := mo_S.up hS 5 (by decide) rfl j39 (((mo_u (mo_u A32 19 j7 1) 20 j7 1) 17 j36) + 1)
              generalize mm_si M (ad 5) j39 (((mo_u (mo_u A32 19 j7 1) 20 j7 1) 17 j36) + 1) = M at hS ⊢
              refine mr_iconst 0 dd_Mo_lookup_123 (by decide) ?_
              exact mr_ireturn dd_Mo_lookup_124 rfl ⟨_, hS, h⟩
            · have h := h.2 hc74
              refine mr_bipush (-5) dd_Mo_lookup_77 (by decide) ?_
              exact mr_ireturn dd_Mo_lookup_79 rfl ⟨_, hS, h⟩
      · have h := h.2 hc20
        refine mr_iconst (-1) dd_Mo_lookup_23 (by decide) ?_
        exact mr_ireturn dd_Mo_lookup_24 rfl ⟨_, hS, h⟩
set_option maxHeartbeats 4000000 in
set_option maxRecDepth 100000 in
theorem mg_collect {l : Launch} {G : mm_G} {K : Option mm_V → mo_A → Prop} {a0 : Nat} {ad : Nat → Nat} {Mb : mm_M} {A : mo_A} {xa : Int32}
    (h : (xa = 8 → mo_Ok l G yy_Mo_sweep Y_Mo_sweep [.inr (some a0), .inl xa] a0 ad Mb A (fun r A1 => ∃ x2 : Int32, r = some (.inl x2) ∧ K (some (.inl x2)) A1)) ∧ (¬ xa = 8 → mo_Ok l G yy_Mo_lives Y_Mo_lives [.inr (some a0), .inl xa] a0 ad Mb A (fun r B => B = A ∧ ∃ x4 : Int32, r = some (.inl x4) ∧ (x4 = 0 → K (some (.inl (-1))) A) ∧ (¬ x4 = 0 → mo_Ok l G yy_Mo_sweep Y_Mo_sweep [.inr (some a0), .inl xa] a0 ad Mb A (fun r A5 => ∃ x6 : Int32, r = some (.inl x6) ∧ K (some (.inl x6)) A5))))) :
    mo_Ok l G yy_Mo_collect Y_Mo_collect [.inr (some a0), .inl xa] a0 ad Mb A K := by
  intro M hS
  refine mm_go (by decide) rfl (fun q => by cases q) (Nat.le_of_ble_eq_true rfl) ?_
  show mm_Z l G Y_Mo_collect (mo_K a0 ad Mb K) _ 0 0 0 [some (.inr (some a0)), some (.inl xa)] [] M
  refine mr_iload_n dd_Mo_collect_0 rfl ?_
  refine mr_bipush 8 dd_Mo_collect_1 (by decide) ?_
  refine mr_icmp_eq 14 dd_Mo_collect_3 (by decide) (fun hc3 => ?_) (fun hc3 => ?_)
  · have h := h.1 hc3
    refine mr_aload_n dd_Mo_collect_14 rfl ?_
    refine mr_iload_n dd_Mo_collect_15 rfl ?_
    refine mr_callV0 (Yc := Y_Mo_sweep) (M := M) (st := []) (vs := [.inl xa]) (ci := 8) fc_Mo_141 iv_Mo_sweep sv_Mo_sweep dd_Mo_collect_16 ⟨Nat.le_of_ble_eq_true rfl, Nat.le_of_ble_eq_true rfl⟩ (by decide) rfl rfl (Nat.le_of_ble_eq_true rfl) rfl hS.1 rfl rfl (h M hS) (fun r M _ h => ?_)
    obtain ⟨A1, hS, h⟩ := h
    obtain ⟨x2, rfl, h⟩ := h
    show mm_Z l G Y_Mo_collect (mo_K a0 ad Mb K) _ 0 0 19 [some (.inr (some a0)), some (.inl xa)] [.inl x2] M
    refine mr_goto 23 dd_Mo_collect_19 (by decide) ?_
    exact mr_ireturn dd_Mo_collect_23 rfl ⟨_, hS, h⟩
  · have h := h.2 hc3
    refine mr_aload_n dd_Mo_collect_6 rfl ?_
    refine mr_iload_n dd_Mo_collect_7 rfl ?_
    refine mr_callV0 (Yc := Y_Mo_lives) (M := M) (st := []) (vs := [.inl xa]) (ci := 8) fc_Mo_89 iv_Mo_lives sv_Mo_lives dd_Mo_collect_8 ⟨Nat.le_of_ble_eq_true rfl, Nat.le_of_ble_eq_true rfl⟩ (by decide) rfl rfl (Nat.le_of_ble_eq_true rfl) rfl hS.1 rfl rfl (h M hS) (fun r M _ h => ?_)
    obtain ⟨B, hS, hB, h⟩ := h
    rw [hB] at hS
    obtain ⟨x4, rfl, h⟩ := h
    show mm_Z l G Y_Mo_collect (mo_K a0 ad Mb K) _ 0 0 11 [some (.inr (some a0)), some (.inl xa)] [.inl x4] M
    refine mr_if_eq 22 dd_Mo_collect_11 (by decide) (fun hc11 => ?_) (fun hc11 => ?_)
    · have h := h.1 hc11
      refine mr_iconst (-1) dd_Mo_collect_22 (by decide) ?_
      exact mr_ireturn dd_Mo_collect_23 rfl ⟨_, hS, h⟩
    · have h := h.2 hc11
      refine mr_aload_n dd_Mo_collect_14 rfl ?_
      refine mr_iload_n dd_Mo_collect_15 rfl ?_
      refine mr_callV0 (Yc := Y_Mo_sweep) (M := M) (st := []) (vs := [.inl xa]) (ci := 8) fc_Mo_141 iv_Mo_sweep sv_Mo_sweep dd_Mo_collect_16 ⟨Nat.le_of_ble_eq_true rfl, Nat.le_of_ble_eq_true rfl⟩ (by decide) rfl rfl (Nat.le_of_ble_eq_true rfl) rfl hS.1 rfl rfl (h M hS) (fun r M _ h => ?_)
      obtain ⟨A5, hS, h⟩ := h
      obtain ⟨x6, rfl, h⟩ := h
      show mm_Z l G Y_Mo_collect (mo_K a0 ad Mb K) _ 0 0 19 [some (.inr (some a0)), some (.inl xa)] [.inl x6] M
      refine mr_goto 23 dd_Mo_collect_19 (by decide) ?_
      exact mr_ireturn dd_Mo_collect_23 rfl ⟨_, hS, h⟩
set_option maxHeartbeats 4000000 in
set_option maxRecDepth 100000 in
theorem mg_state {l : Launch} {G : mm_G} {K : Option mm_V → mo_A → Prop} {a0 : Nat} {ad : Nat → Nat} {Mb : mm_M} {A : mo_A} {xa : Int32}
    (h : (xa < 0 → K (some (.inl 0)) A) ∧ (¬ xa < 0 → (xa ≤ 7 → ∃ j1 : Nat, xa = nI j1 ∧ j1 < 8 ∧ K (some (.inl (A 0 j1))) A) ∧ (¬ xa ≤ 7 → K (some (.inl 0)) A))) :
    mo_Ok l G yy_Mo_state Y_Mo_state [.inr (some a0), .inl xa] a0 ad Mb A K := by
  intro M hS
  refine mm_go (by decide) rfl (fun q => by cases q) (Nat.le_of_ble_eq_true rfl) ?_
  show mm_Z l G Y_Mo_state (mo_K a0 ad Mb K) _ 0 0 0 [some (.inr (some a0)), some (.inl xa)] [] M
  refine mr_iload_n dd_Mo_state_0 rfl ?_
  refine mr_if_lt 10 dd_Mo_state_1 (by decide) (fun hc1 => ?_) (fun hc1 => ?_)
  · have h := h.1 hc1
    refine mr_iconst 0 dd_Mo_state_10 (by decide) ?_
    refine mr_goto 20 dd_Mo_state_11 (by decide) ?_
    exact mr_ireturn dd_Mo_state_20 rfl ⟨_, hS, h⟩
  · have h := h.2 hc1
    refine mr_iload_n dd_Mo_state_4 rfl ?_
    refine mr_bipush 7 dd_Mo_state_5 (by decide) ?_
    refine mr_icmp_le 14 dd_Mo_state_7 (by decide) (fun hc7 => ?_) (fun hc7 => ?_)
    · have h := h.1 hc7
      refine mr_aload_n dd_Mo_state_14 rfl ?_
      refine mr_getr ff_Mo_7 dd_Mo_state_15 rs_8_0 rfl hS.1 ?_
      rw [mo_p hS 0 (by decide) rfl]
      refine mr_iload_n dd_Mo_state_18 rfl ?_
      obtain ⟨j1, hj2, hb3, h⟩ := h
      refine mr_iald dd_Mo_state_19 rfl (mo_k hS 0 (by decide) rfl rfl) hj2 (Nat.lt_trans hb3 (by decide)) (mo_l hS 0 (by decide) rfl rfl hb3) ?_
      rw [mo_i hS 0 (by decide) rfl rfl hb3]
      exact mr_ireturn dd_Mo_state_20 rfl ⟨_, hS, h⟩
    · have h := h.2 hc7
      refine mr_iconst 0 dd_Mo_state_10 (by decide) ?_
      refine mr_goto 20 dd_Mo_state_11 (by decide) ?_
      exact mr_ireturn dd_Mo_state_20 rfl ⟨_, hS, h⟩
set_option maxHeartbeats 4000000 in
set_option maxRecDepth 100000 in
theorem mg_objects {l : Launch} {G : mm_G} {K : Option mm_V → mo_A → Prop} {a0 : Nat} {ad : Nat → Nat} {Mb : mm_M} {A : mo_A} {xa : Int32}
    (h : mo_Z l G Y_Mo_objects K a0 ad Mb 4 [some (.inr (some a0)), some (.inl xa), some (.inl 0), some (.inl 0)] [] A) :
    mo_Ok l G yy_Mo_objects Y_Mo_objects [.inr (some a0), .inl xa] a0 ad Mb A K := by
  intro M hS
  refine mm_go (by decide) rfl (fun q => by cases q) (Nat.le_of_ble_eq_true rfl) ?_
  show mm_Z l G Y_Mo_objects (mo_K a0 ad Mb K) _ 0 0 0 [some (.inr (some a0)), some (.inl xa), none, none] [] M
  refine mr_iconst 0 dd_Mo_objects_0 (by decide) ?_
  refine mr_istore_n dd_Mo_objects_1 (by decide) ?_
  show mm_Z l G Y_Mo_objects (mo_K a0 ad Mb K) _ 0 0 2 [some (.inr (some a0)), some (.inl xa), some (.inl 0), none] [] M
  refine mr_iconst 0 dd_Mo_objects_2 (by decide) ?_
  refine mr_istore_n dd_Mo_objects_3 (by decide) ?_
  show mm_Z l G Y_Mo_objects (mo_K a0 ad Mb K) _ 0 0 4 [some (.inr (some a0)), some (.inl xa), some (.inl 0), some (.inl 0)] [] M
  exact h _ M hS
set_option maxHeartbeats 4000000 in
set_option maxRecDepth 100000 in
theorem mg_objects_4 {l : Launch} {G : mm_G} {K : Option mm_V → mo_A → Prop} {a0 : Nat} {ad : Nat → Nat} {Mb : mm_M} {A : mo_A} {y1 : Int32} {y2 : Int32} {y3 : Int32}
    (h : (60 ≤ y3 → K (some (.inl y2)) A) ∧ (¬ 60 ≤ y3 → (y1 < 0 → mo_Z l G Y_Mo_objects K a0 ad Mb 4 [some (.inr (some a0)), some (.inl y1), some (.inl (y2 + 0)), some (.inl (y3 + 1))] [] A) ∧ (¬ y1 < 0 → (13 ≤ y1 → mo_Z l G Y_Mo_objects K a0 ad Mb 4 [some (.inr (some a0)), some (.inl y1), some (.inl (y2 + 0)), some (.inl (y3 + 1))] [] A) ∧ (¬ 13 ≤ y1 → ∃ j1 : Nat, y3 = nI j1 ∧ j1 < 60 ∧ (¬ (A 6 j1) = (y1 + 1) → mo_Z l G Y_Mo_objects K a0 ad Mb 4 [some (.inr (some a0)), some (.inl y1), some (.inl (y2 + 0)), some (.inl (y3 + 1))] [] A) ∧ ((A 6 j1) = (y1 + 1) → mo_Z l G Y_Mo_objects K a0 ad Mb 4 [some (.inr (some a0)), some (.inl y1), some (.inl (y2 + 1)), some (.inl (y3 + 1))] [] A))))) :
    mo_Z l G Y_Mo_objects K a0 ad Mb 4 [some (.inr (some a0)), some (.inl y1), some (.inl y2), some (.inl y3)] [] A := by
  intro M0 M hS
  refine mr_iload_n dd_Mo_objects_4 rfl ?_
  refine mr_bipush 60 dd_Mo_objects_5 (by decide) ?_
  refine mr_icmp_ge 46 dd_Mo_objects_7 (by decide) (fun hc7 => ?_) (fun hc7 => ?_)
  · have h := h.1 hc7
    refine mr_iload_n dd_Mo_objects_46 rfl ?_
    exact mr_ireturn dd_Mo_objects_47 rfl ⟨_, hS, h⟩
  · have h := h.2 hc7
    refine mr_iload_n dd_Mo_objects_10 rfl ?_
    refine mr_iload_n dd_Mo_objects_11 rfl ?_
    refine mr_if_lt 37 dd_Mo_objects_12 (by decide) (fun hc12 => ?_) (fun hc12 => ?_)
    · have h := h.1 hc12
      refine mr_iconst 0 dd_Mo_objects_37 (by decide) ?_
      refine mr_iadd dd_Mo_objects_38 ?_
      refine mr_istore_n dd_Mo_objects_39 (by decide) ?_
      show mm_Z l G Y_Mo_objects (mo_K a0 ad Mb K) _ 0 0 40 [some (.inr (some a0)), some (.inl y1), some (.inl (y2 + 0)), some (.inl y3)] [] M
      refine mr_iinc 1 dd_Mo_objects_40 rfl (by decide) (by decide) ?_
      show mm_Z l G Y_Mo_objects (mo_K a0 ad Mb K) _ 0 0 43 [some (.inr (some a0)), some (.inl y1), some (.inl (y2 + 0)), some (.inl (y3 + 1))] [] M
      refine mr_goto 4 dd_Mo_objects_43 (by decide) ?_
      exact h _ M hS
    · have h := h.2 hc12
      refine mr_iload_n dd_Mo_objects_15 rfl ?_
      refine mr_bipush 13 dd_Mo_objects_16 (by decide) ?_
      refine mr_icmp_ge 37 dd_Mo_objects_18 (by decide) (fun hc18 => ?_) (fun hc18 => ?_)
      · have h := h.1 hc18
        refine mr_iconst 0 dd_Mo_objects_37 (by decide) ?_
        refine mr_iadd dd_Mo_objects_38 ?_
        refine mr_istore_n dd_Mo_objects_39 (by decide) ?_
        show mm_Z l G Y_Mo_objects (mo_K a0 ad Mb K) _ 0 0 40 [some (.inr (some a0)), some (.inl y1), some (.inl (y2 + 0)), some (.inl y3)] [] M
        refine mr_iinc 1 dd_Mo_objects_40 rfl (by decide) (by decide) ?_
        show mm_Z l G Y_Mo_objects (mo_K a0 ad Mb K) _ 0 0 43 [some (.inr (some a0)), some (.inl y1), some (.inl (y2 + 0)), some (.inl (y3 + 1))] [] M
        refine mr_goto 4 dd_Mo_objects_43 (by decide) ?_
        exact h _ M hS
      · have h := h.2 hc18
        refine mr_aload_n dd_Mo_objects_21 rfl ?_
        refine mr_getr ff_Mo_26 dd_Mo_objects_22 rs_8_6 rfl hS.1 ?_
        rw [mo_p hS 6 (by decide) rfl]
        refine mr_iload_n dd_Mo_objects_25 rfl ?_
        obtain ⟨j1, hj2, hb3, h⟩ := h
        refine mr_iald dd_Mo_objects_26 rfl (mo_k hS 6 (by decide) rfl rfl) hj2 (Nat.lt_trans hb3 (by decide)) (mo_l hS 6 (by decide) rfl rfl hb3) ?_
        rw [mo_i hS 6 (by decide) rfl rfl hb3]
        refine mr_iload_n dd_Mo_objects_27 rfl ?_
        refine mr_iconst 1 dd_Mo_objects_28 (by decide) ?_
        refine mr_iadd dd_Mo_objects_29 ?_
        refine mr_icmp_ne 37 dd_Mo_objects_30 (by decide) (fun hc30 => ?_) (fun hc30 => ?_)
        · have h := h.1 hc30
          refine mr_iconst 0 dd_Mo_objects_37 (by decide) ?_
          refine mr_iadd dd_Mo_objects_38 ?_
          refine mr_istore_n dd_Mo_objects_39 (by decide) ?_
          show mm_Z l G Y_Mo_objects (mo_K a0 ad Mb K) _ 0 0 40 [some (.inr (some a0)), some (.inl y1), some (.inl (y2 + 0)), some (.inl y3)] [] M
          refine mr_iinc 1 dd_Mo_objects_40 rfl (by decide) (by decide) ?_
          show mm_Z l G Y_Mo_objects (mo_K a0 ad Mb K) _ 0 0 43 [some (.inr (some a0)), some (.inl y1), some (.inl (y2 + 0)), some (.inl (y3 + 1))] [] M
          refine mr_goto 4 dd_Mo_objects_43 (by decide) ?_
          exact h _ M hS
        · have h := h.2 hc30
          refine mr_iconst 1 dd_Mo_objects_33 (by decide) ?_
          refine mr_goto 38 dd_Mo_objects_34 (by decide) ?_
          refine mr_iadd dd_Mo_objects_38 ?_
          refine mr_istore_n dd_Mo_objects_39 (by decide) ?_
          show mm_Z l G Y_Mo_objects (mo_K a0 ad Mb K) _ 0 0 40 [some (.inr (some a0)), some (.inl y1), some (.inl (y2 + 1)), some (.inl y3)] [] M
          refine mr_iinc 1 dd_Mo_objects_40 rfl (by decide) (by decide) ?_
          show mm_Z l G Y_Mo_objects (mo_K a0 ad Mb K) _ 0 0 43 [some (.inr (some a0)), some (.inl y1), some (.inl (y2 + 1)), some (.inl (y3 + 1))] [] M
          refine mr_goto 4 dd_Mo_objects_43 (by decide) ?_
          exact h _ M hS
set_option maxHeartbeats 4000000 in
set_option maxRecDepth 100000 in
theorem mg_items {l : Launch} {G : mm_G} {K : Option mm_V → mo_A → Prop} {a0 : Nat} {ad : Nat → Nat} {Mb : mm_M} {A : mo_A} {xa : Int32}
    (h : mo_Z l G Y_Mo_items K a0 ad Mb 4 [some (.inr (some a0)), some (.inl xa), some (.inl 0), some (.inl 0)] [] A) :
    mo_Ok l G yy_Mo_items Y_Mo_items [.inr (some a0), .inl xa] a0 ad Mb A K := by
  intro M hS
  refine mm_go (by decide) rfl (fun q => by cases q) (Nat.le_of_ble_eq_true rfl) ?_
  show mm_Z l G Y_Mo_items (mo_K a0 ad Mb K) _ 0 0 0 [some (.inr (some a0)), some (.inl xa), none, none] [] M
  refine mr_iconst 0 dd_Mo_items_0 (by decide) ?_
  refine mr_istore_n dd_Mo_items_1 (by decide) ?_
  show mm_Z l G Y_Mo_items (mo_K a0 ad Mb K) _ 0 0 2 [some (.inr (some a0)), some (.inl xa), some (.inl 0), none] [] M
  refine mr_iconst 0 dd_Mo_items_2 (by decide) ?_
  refine mr_istore_n dd_Mo_items_3 (by decide) ?_
  show mm_Z l G Y_Mo_items (mo_K a0 ad Mb K) _ 0 0 4 [some (.inr (some a0)), some (.inl xa), some (.inl 0), some (.inl 0)] [] M
  exact h _ M hS
set_option maxHeartbeats 4000000 in
set_option maxRecDepth 100000 in
theorem mg_items_4 {l : Launch} {G : mm_G} {K : Option mm_V → mo_A → Prop} {a0 : Nat} {ad : Nat → Nat} {Mb : mm_M} {A : mo_A} {y1 : Int32} {y2 : Int32} {y3 : Int32}
    (h : (60 ≤ y3 → K (some (.inl y2)) A) ∧ (¬ 60 ≤ y3 → (y1 < 0 → K (some (.inl y2)) A) ∧ (¬ y1 < 0 → (13 ≤ y1 → K (some (.inl y2)) A) ∧ (¬ 13 ≤ y1 → ∃ j1 : Nat, ((60 * y1) + y3) = nI j1 ∧ j1 < 780 ∧ ((A 21 j1) = 0 → mo_Z l G Y_Mo_items K a0 ad Mb 4 [some (.inr (some a0)), some (.inl y1), some (.inl (y2 + 0)), some (.inl (y3 + 1))] [] A) ∧ (¬ (A 21 j1) = 0 → mo_Z l G Y_Mo_items K a0 ad Mb 4 [some (.inr (some a0)), some (.inl y1), some (.inl (y2 + 1)), some (.inl (y3 + 1))] [] A))))) :
    mo_Z l G Y_Mo_items K a0 ad Mb 4 [some (.inr (some a0)), some (.inl y1), some (.inl y2), some (.inl y3)] [] A := by
  intro M0 M hS
  refine mr_iload_n dd_Mo_items_4 rfl ?_
  refine mr_bipush 60 dd_Mo_items_5 (by decide) ?_
  refine mr_icmp_ge 48 dd_Mo_items_7 (by decide) (fun hc7 => ?_) (fun hc7 => ?_)
  · have h := h.1 hc7
    refine mr_iload_n dd_Mo_items_48 rfl ?_
    exact mr_ireturn dd_Mo_items_49 rfl ⟨_, hS, h⟩
  · have h := h.2 hc7
    refine mr_iload_n dd_Mo_items_10 rfl ?_
    refine mr_if_lt 48 dd_Mo_items_11 (by decide) (fun hc11 => ?_) (fun hc11 => ?_)
    · have h := h.1 hc11
      refine mr_iload_n dd_Mo_items_48 rfl ?_
      exact mr_ireturn dd_Mo_items_49 rfl ⟨_, hS, h⟩
    · have h := h.2 hc11
      refine mr_iload_n dd_Mo_items_14 rfl ?_
      refine mr_bipush 13 dd_Mo_items_15 (by decide) ?_
      refine mr_icmp_ge 48 dd_Mo_items_17 (by decide) (fun hc17 => ?_) (fun hc17 => ?_)
      · have h := h.1 hc17
        refine mr_iload_n dd_Mo_items_48 rfl ?_
        exact mr_ireturn dd_Mo_items_49 rfl ⟨_, hS, h⟩
      · have h := h.2 hc17
        refine mr_iload_n dd_Mo_items_20 rfl ?_
        refine mr_aload_n dd_Mo_items_21 rfl ?_
        refine mr_getr ff_Mo_65 dd_Mo_items_22 rs_8_21 rfl hS.1 ?_
        rw [mo_p hS 21 (by decide) rfl]
        refine mr_bipush 60 dd_Mo_items_25 (by decide) ?_
        refine mr_iload_n dd_Mo_items_27 rfl ?_
        refine mr_imul dd_Mo_items_28 ?_
        refine mr_iload_n dd_Mo_items_29 rfl ?_
        refine mr_iadd dd_Mo_items_30 ?_
        obtain ⟨j1, hj2, hb3, h⟩ := h
        refine mr_zald dd_Mo_items_31 rfl (mo_k hS 21 (by decide) rfl rfl) hj2 (Nat.lt_trans hb3 (by decide)) (mo_l hS 21 (by decide) rfl rfl hb3) ?_
        rw [mo_i hS 21 (by decide) rfl rfl hb3]
        refine mr_if_eq 39 dd_Mo_items_32 (by decide) (fun hc32 => ?_) (fun hc32 => ?_)
        · have h := h.1 hc32
          refine mr_iconst 0 dd_Mo_items_39 (by decide) ?_
          refine mr_iadd dd_Mo_items_40 ?_
          refine mr_istore_n dd_Mo_items_41 (by decide) ?_
          show mm_Z l G Y_Mo_items (mo_K a0 ad Mb K) _ 0 0 42 [some (.inr (some a0)), some (.inl y1), some (.inl (y2 + 0)), some (.inl y3)] [] M
          refine mr_iinc 1 dd_Mo_items_42 rfl (by decide) (by decide) ?_
          show mm_Z l G Y_Mo_items (mo_K a0 ad Mb K) _ 0 0 45 [some (.inr (some a0)), some (.inl y1), some (.inl (y2 + 0)), some (.inl (y3 + 1))] [] M
          refine mr_goto 4 dd_Mo_items_45 (by decide) ?_
          exact h _ M hS
        · have h := h.2 hc32
          refine mr_iconst 1 dd_Mo_items_35 (by decide) ?_
          refine mr_goto 40 dd_Mo_items_36 (by decide) ?_
          refine mr_iadd dd_Mo_items_40 ?_
          refine mr_istore_n dd_Mo_items_41 (by decide) ?_
          show mm_Z l G Y_Mo_items (mo_K a0 ad Mb K) _ 0 0 42 [some (.inr (some a0)), some (.inl y1), some (.inl (y2 + 1)), some (.inl y3)] [] M
          refine mr_iinc 1 dd_Mo_items_42 rfl (by decide) (by decide) ?_
          show mm_Z l G Y_Mo_items (mo_K a0 ad Mb K) _ 0 0 45 [some (.inr (some a0)), some (.inl y1), some (.inl (y2 + 1)), some (.inl (y3 + 1))] [] M
          refine mr_goto 4 dd_Mo_items_45 (by decide) ?_
          exact h _ M hS
set_option maxHeartbeats 4000000 in
set_option maxRecDepth 100000 in
theorem mg_use {l : Launch} {G : mm_G} {K : Option mm_V → mo_A → Prop} {a0 : Nat} {ad : Nat → Nat} {Mb : mm_M} {A : mo_A} {xa : Int32}
    (h : mo_Ok l G yy_Mo_exists Y_Mo_exists [.inr (some a0), .inl xa] a0 ad Mb A (fun r A1 => ∃ x2 : Int32, r = some (.inl x2) ∧ (x2 = 0 → K (some (.inl (-1))) A1) ∧ (¬ x2 = 0 → ∃ j3 : Nat, xa = nI j3 ∧ j3 < 8 ∧ K (some (.inl (A1 22 j3))) A1))) :
    mo_Ok l G yy_Mo_use Y_Mo_use [.inr (some a0), .inl xa] a0 ad Mb A K := by
  intro M hS
  refine mm_go (by decide) rfl (fun q => by cases q) (Nat.le_of_ble_eq_true rfl) ?_
  show mm_Z l G Y_Mo_use (mo_K a0 ad Mb K) _ 0 0 0 [some (.inr (some a0)), some (.inl xa)] [] M
  refine mr_aload_n dd_Mo_use_0 rfl ?_
  refine mr_iload_n dd_Mo_use_1 rfl ?_
  refine mr_callV0 (Yc := Y_Mo_exists) (M := M) (st := []) (vs := [.inl xa]) (ci := 8) fc_Mo_147 iv_Mo_exists sv_Mo_exists dd_Mo_use_2 ⟨Nat.le_of_ble_eq_true rfl, Nat.le_of_ble_eq_true rfl⟩ (by decide) rfl rfl (Nat.le_of_ble_eq_true rfl) rfl hS.1 rfl rfl (h M hS) (fun r M _ h => ?_)
  obtain ⟨A1, hS, h⟩ := h
  obtain ⟨x2, rfl, h⟩ := h
  show mm_Z l G Y_Mo_use (mo_K a0 ad Mb K) _ 0 0 5 [some (.inr (some a0)), some (.inl xa)] [.inl x2] M
  refine mr_if_eq 17 dd_Mo_use_5 (by decide) (fun hc5 => ?_) (fun hc5 => ?_)
  · have h := h.1 hc5
    refine mr_iconst (-1) dd_Mo_use_17 (by decide) ?_
    exact mr_ireturn dd_Mo_use_18 rfl ⟨_, hS, h⟩
  · have h := h.2 hc5
    refine mr_aload_n dd_Mo_use_8 rfl ?_
    refine mr_getr ff_Mo_68 dd_Mo_use_9 rs_8_22 rfl hS.1 ?_
    rw [mo_p hS 22 (by decide) rfl]
    refine mr_iload_n dd_Mo_use_12 rfl ?_
    obtain ⟨j3, hj4, hb5, h⟩ := h
    refine mr_iald dd_Mo_use_13 rfl (mo_k hS 22 (by decide) rfl rfl) hj4 (Nat.lt_trans hb5 (by decide)) (mo_l hS 22 (by decide) rfl rfl hb5) ?_
    rw [mo_i hS 22 (by decide) rfl rfl hb5]
    refine mr_goto 18 dd_Mo_use_14 (by decide) ?_
    exact mr_ireturn dd_Mo_use_18 rfl ⟨_, hS, h⟩
set_option maxHeartbeats 4000000 in
set_option maxRecDepth 100000 in
theorem mg_exists {l : Launch} {G : mm_G} {K : Option mm_V → mo_A → Prop} {a0 : Nat} {ad : Nat → Nat} {Mb : mm_M} {A : mo_A} {xa : Int32}
    (h : mo_Ok l G yy_Mo_work Y_Mo_work [.inr (some a0)] a0 ad Mb A (fun r A1 => r = none ∧ (xa < 0 → K (some (.inl 0)) A1) ∧ (¬ xa < 0 → (8 ≤ xa → K (some (.inl 0)) A1) ∧ (¬ 8 ≤ xa → ∃ j2 : Nat, xa = nI j2 ∧ j2 < 8 ∧ ((A1 0 j2) ≤ 0 → K (some (.inl 0)) A1) ∧ (¬ (A1 0 j2) ≤ 0 → ((A1 23 j2) = 0 → K (some (.inl 0)) A1) ∧ (¬ (A1 23 j2) = 0 → K (some (.inl 1)) A1)))))) :
    mo_Ok l G yy_Mo_exists Y_Mo_exists [.inr (some a0), .inl xa] a0 ad Mb A K := by
  intro M hS
  refine mm_go (by decide) rfl (fun q => by cases q) (Nat.le_of_ble_eq_true rfl) ?_
  show mm_Z l G Y_Mo_exists (mo_K a0 ad Mb K) _ 0 0 0 [some (.inr (some a0)), some (.inl xa)] [] M
  refine mr_aload_n dd_Mo_exists_0 rfl ?_
  refine mr_callV0 (Yc := Y_Mo_work) (M := M) (st := []) (vs := []) (ci := 8) fc_Mo_92 iv_Mo_work sv_Mo_work dd_Mo_exists_1 ⟨Nat.le_of_ble_eq_true rfl, Nat.le_of_ble_eq_true rfl⟩ (by decide) rfl rfl (Nat.le_of_ble_eq_true rfl) rfl hS.1 rfl rfl (h M hS) (fun r M _ h => ?_)
  obtain ⟨A1, hS, h⟩ := h
  obtain ⟨rfl, h⟩ := h
  show mm_Z l G Y_Mo_exists (mo_K a0 ad Mb K) _ 0 0 4 [some (.inr (some a0)), some (.inl xa)] [] M
  refine mr_iload_n dd_Mo_exists_4 rfl ?_
  refine mr_if_lt 36 dd_Mo_exists_5 (by decide) (fun hc5 => ?_) (fun hc5 => ?_)
  · have h := h.1 hc5
    refine mr_iconst 0 dd_Mo_exists_36 (by decide) ?_
    exact mr_zreturn dd_Mo_exists_37 rfl (Or.inl rfl) ⟨_, hS, h⟩
  · have h := h.2 hc5
    refine mr_iload_n dd_Mo_exists_8 rfl ?_
    refine mr_bipush 8 dd_Mo_exists_9 (by decide) ?_
    refine mr_icmp_ge 36 dd_Mo_exists_11 (by decide) (fun hc11 => ?_) (fun hc11 => ?_)
    · have h := h.1 hc11
      refine mr_iconst 0 dd_Mo_exists_36 (by decide) ?_
      exact mr_zreturn dd_Mo_exists_37 rfl (Or.inl rfl) ⟨_, hS, h⟩
    · have h := h.2 hc11
      refine mr_aload_n dd_Mo_exists_14 rfl ?_
      refine mr_getr ff_Mo_7 dd_Mo_exists_15 rs_8_0 rfl hS.1 ?_
      rw [mo_p hS 0 (by decide) rfl]
      refine mr_iload_n dd_Mo_exists_18 rfl ?_
      obtain ⟨j2, hj3, hb4, h⟩ := h
      refine mr_iald dd_Mo_exists_19 rfl (mo_k hS 0 (by decide) rfl rfl) hj3 (Nat.lt_trans hb4 (by decide)) (mo_l hS 0 (by decide) rfl rfl hb4) ?_
      rw [mo_i hS 0 (by decide) rfl rfl hb4]
      refine mr_if_le 36 dd_Mo_exists_20 (by decide) (fun hc20 => ?_) (fun hc20 => ?_)
      · have h := h.1 hc20
        refine mr_iconst 0 dd_Mo_exists_36 (by decide) ?_
        exact mr_zreturn dd_Mo_exists_37 rfl (Or.inl rfl) ⟨_, hS, h⟩
      · have h := h.2 hc20
        refine mr_aload_n dd_Mo_exists_23 rfl ?_
        refine mr_getr ff_Mo_71 dd_Mo_exists_24 rs_8_23 rfl hS.1 ?_
        rw [mo_p hS 23 (by decide) rfl]
        refine mr_iload_n dd_Mo_exists_27 rfl ?_
        refine mr_zald dd_Mo_exists_28 rfl (mo_k hS 23 (by decide) rfl rfl) hj3 (Nat.lt_trans hb4 (by decide)) (mo_l hS 23 (by decide) rfl rfl hb4) ?_
        rw [mo_i hS 23 (by decide) rfl rfl hb4]
        refine mr_if_eq 36 dd_Mo_exists_29 (by decide) (fun hc29 => ?_) (fun hc29 => ?_)
        · have h := h.1 hc29
          refine mr_iconst 0 dd_Mo_exists_36 (by decide) ?_
          exact mr_zreturn dd_Mo_exists_37 rfl (Or.inl rfl) ⟨_, hS, h⟩
        · have h := h.2 hc29
          refine mr_iconst 1 dd_Mo_exists_32 (by decide) ?_
          refine mr_goto 37 dd_Mo_exists_33 (by decide) ?_
          exact mr_zreturn dd_Mo_exists_37 rfl (Or.inr rfl) ⟨_, hS, h⟩
set_option maxHeartbeats 4000000 in
set_option maxRecDepth 100000 in
theorem mg_room {l : Launch} {G : mm_G} {K : Option mm_V → mo_A → Prop} {a0 : Nat} {ad : Nat → Nat} {Mb : mm_M} {A : mo_A} {xa : Int32}
    (h : mo_Ok l G yy_Mo_exists Y_Mo_exists [.inr (some a0), .inl xa] a0 ad Mb A (fun r A1 => ∃ x2 : Int32, r = some (.inl x2) ∧ (x2 = 0 → K (some (.inl (-1))) A1) ∧ (¬ x2 = 0 → mo_Ok l G yy_Mo_rest Y_Mo_rest [.inr (some a0), .inl xa] a0 ad Mb A1 (fun r A3 => ∃ x4 : Int32, r = some (.inl x4) ∧ K (some (.inl x4)) A3)))) :
    mo_Ok l G yy_Mo_room Y_Mo_room [.inr (some a0), .inl xa] a0 ad Mb A K := by
  intro M hS
  refine mm_go (by decide) rfl (fun q => by cases q) (Nat.le_of_ble_eq_true rfl) ?_
  show mm_Z l G Y_Mo_room (mo_K a0 ad Mb K) _ 0 0 0 [some (.inr (some a0)), some (.inl xa)] [] M
  refine mr_aload_n dd_Mo_room_0 rfl ?_
  refine mr_iload_n dd_Mo_room_1 rfl ?_
  refine mr_callV0 (Yc := Y_Mo_exists) (M := M) (st := []) (vs := [.inl xa]) (ci := 8) fc_Mo_147 iv_Mo_exists sv_Mo_exists dd_Mo_room_2 ⟨Nat.le_of_ble_eq_true rfl, Nat.le_of_ble_eq_true rfl⟩ (by decide) rfl rfl (Nat.le_of_ble_eq_true rfl) rfl hS.1 rfl rfl (h M hS) (fun r M _ h => ?_)
  obtain ⟨A1, hS, h⟩ := h
  obtain ⟨x2, rfl, h⟩ := h
  show mm_Z l G Y_Mo_room (mo_K a0 ad Mb K) _ 0 0 5 [some (.inr (some a0)), some (.inl xa)] [.inl x2] M
  refine mr_if_eq 16 dd_Mo_room_5 (by decide) (fun hc5 => ?_) (fun hc5 => ?_)
  · have h := h.1 hc5
    refine mr_iconst (-1) dd_Mo_room_16 (by decide) ?_
    exact mr_ireturn dd_Mo_room_17 rfl ⟨_, hS, h⟩
  · have h := h.2 hc5
    refine mr_aload_n dd_Mo_room_8 rfl ?_
    refine mr_iload_n dd_Mo_room_9 rfl ?_
    refine mr_callV0 (Yc := Y_Mo_rest) (M := M) (st := []) (vs := [.inl xa]) (ci := 8) fc_Mo_124 iv_Mo_rest sv_Mo_rest dd_Mo_room_10 ⟨Nat.le_of_ble_eq_true rfl, Nat.le_of_ble_eq_true rfl⟩ (by decide) rfl rfl (Nat.le_of_ble_eq_true rfl) rfl hS.1 rfl rfl (h M hS) (fun r M _ h => ?_)
    obtain ⟨A3, hS, h⟩ := h
    obtain ⟨x4, rfl, h⟩ := h
    show mm_Z l G Y_Mo_room (mo_K a0 ad Mb K) _ 0 0 13 [some (.inr (some a0)), some (.inl xa)] [.inl x4] M
    refine mr_goto 17 dd_Mo_room_13 (by decide) ?_
    exact mr_ireturn dd_Mo_room_17 rfl ⟨_, hS, h⟩
set_option maxHeartbeats 4000000 in
set_option maxRecDepth 100000 in
theorem mg_shares {l : Launch} {G : mm_G} {K : Option mm_V → mo_A → Prop} {a0 : Nat} {ad : Nat → Nat} {Mb : mm_M} {A : mo_A} {xa : Int32} {xb : Int32}
    (h : mo_Ok l G yy_Mo_lives Y_Mo_lives [.inr (some a0), .inl xa] a0 ad Mb A (fun r B => B = A ∧ ∃ x2 : Int32, r = some (.inl x2) ∧ (x2 = 0 → K (some (.inl 0)) A) ∧ (¬ x2 = 0 → mo_Ok l G yy_Mo_frozen Y_Mo_frozen [.inr (some a0), .inl xb] a0 ad Mb A (fun r B => B = A ∧ ∃ x4 : Int32, r = some (.inl x4) ∧ (x4 = 0 → K (some (.inl 0)) A) ∧ (¬ x4 = 0 → ∃ j5 : Nat, (((4 * xa) + xb) - 9) = nI j5 ∧ j5 < 32 ∧ ((A 19 j5) = 0 → K (some (.inl 0)) A) ∧ (¬ (A 19 j5) = 0 → K (some (.inl 1)) A)))))) :
    mo_Ok l G yy_Mo_shares Y_Mo_shares [.inr (some a0), .inl xa, .inl xb] a0 ad Mb A K := by
  intro M hS
  refine mm_go (by decide) rfl (fun q => by cases q) (Nat.le_of_ble_eq_true rfl) ?_
  show mm_Z l G Y_Mo_shares (mo_K a0 ad Mb K) _ 0 0 0 [some (.inr (some a0)), some (.inl xa), some (.inl xb)] [] M
  refine mr_aload_n dd_Mo_shares_0 rfl ?_
  refine mr_iload_n dd_Mo_shares_1 rfl ?_
  refine mr_callV0 (Yc := Y_Mo_lives) (M := M) (st := []) (vs := [.inl xa]) (ci := 8) fc_Mo_89 iv_Mo_lives sv_Mo_lives dd_Mo_shares_2 ⟨Nat.le_of_ble_eq_true rfl, Nat.le_of_ble_eq_true rfl⟩ (by decide) rfl rfl (Nat.le_of_ble_eq_true rfl) rfl hS.1 rfl rfl (h M hS) (fun r M _ h => ?_)
  obtain ⟨B, hS, hB, h⟩ := h
  rw [hB] at hS
  obtain ⟨x2, rfl, h⟩ := h
  show mm_Z l G Y_Mo_shares (mo_K a0 ad Mb K) _ 0 0 5 [some (.inr (some a0)), some (.inl xa), some (.inl xb)] [.inl x2] M
  refine mr_if_eq 36 dd_Mo_shares_5 (by decide) (fun hc5 => ?_) (fun hc5 => ?_)
  · have h := h.1 hc5
    refine mr_iconst 0 dd_Mo_shares_36 (by decide) ?_
    exact mr_zreturn dd_Mo_shares_37 rfl (Or.inl rfl) ⟨_, hS, h⟩
  · have h := h.2 hc5
    refine mr_aload_n dd_Mo_shares_8 rfl ?_
    refine mr_iload_n dd_Mo_shares_9 rfl ?_
    refine mr_callV0 (Yc := Y_Mo_frozen) (M := M) (st := []) (vs := [.inl xb]) (ci := 8) fc_Mo_81 iv_Mo_frozen sv_Mo_frozen dd_Mo_shares_10 ⟨Nat.le_of_ble_eq_true rfl, Nat.le_of_ble_eq_true rfl⟩ (by decide) rfl rfl (Nat.le_of_ble_eq_true rfl) rfl hS.1 rfl rfl (h M hS) (fun r M _ h => ?_)
    obtain ⟨B, hS, hB, h⟩ := h
    rw [hB] at hS
    obtain ⟨x4, rfl, h⟩ := h
    show mm_Z l G Y_Mo_shares (mo_K a0 ad Mb K) _ 0 0 13 [some (.inr (some a0)), some (.inl xa), some (.inl xb)] [.inl x4] M
    refine mr_if_eq 36 dd_Mo_shares_13 (by decide) (fun hc13 => ?_) (fun hc13 => ?_)
    · have h := h.1 hc13
      refine mr_iconst 0 dd_Mo_shares_36 (by decide) ?_
      exact mr_zreturn dd_Mo_shares_37 rfl (Or.inl rfl) ⟨_, hS, h⟩
    · have h := h.2 hc13
      refine mr_aload_n dd_Mo_shares_16 rfl ?_
      refine mr_getr ff_Mo_59 dd_Mo_shares_17 rs_8_19 rfl hS.1 ?_
      rw [mo_p hS 19 (by decide) rfl]
      refine mr_iconst 4 dd_Mo_shares_20 (by decide) ?_
      refine mr_iload_n dd_Mo_shares_21 rfl ?_
      refine mr_imul dd_Mo_shares_22 ?_
      refine mr_iload_n dd_Mo_shares_23 rfl ?_
      refine mr_iadd dd_Mo_shares_24 ?_
      refine mr_bipush 9 dd_Mo_shares_25 (by decide) ?_
      refine mr_isub dd_Mo_shares_27 ?_
      obtain ⟨j5, hj6, hb7, h⟩ := h
      refine mr_zald dd_Mo_shares_28 rfl (mo_k hS 19 (by decide) rfl rfl) hj6 (Nat.lt_trans hb7 (by decide)) (mo_l hS 19 (by decide) rfl rfl hb7) ?_
      rw [mo_i hS 19 (by decide) rfl rfl hb7]
      refine mr_if_eq 36 dd_Mo_shares_29 (by decide) (fun hc29 => ?_) (fun hc29 => ?_)
      · have h := h.1 hc29
        refine mr_iconst 0 dd_Mo_shares_36 (by decide) ?_
        exact mr_zreturn dd_Mo_shares_37 rfl (Or.inl rfl) ⟨_, hS, h⟩
      · have h := h.2 hc29
        refine mr_iconst 1 dd_Mo_shares_32 (by decide) ?_
        refine mr_goto 37 dd_Mo_shares_33 (by decide) ?_
        exact mr_zreturn dd_Mo_shares_37 rfl (Or.inr rfl) ⟨_, hS, h⟩
set_option maxHeartbeats 4000000 in
set_option maxRecDepth 100000 in
theorem mg_where {l : Launch} {G : mm_G} {K : Option mm_V → mo_A → Prop} {a0 : Nat} {ad : Nat → Nat} {Mb : mm_M} {A : mo_A} {xa : Int32} {xb : Int32}
    (h : mo_Ok l G yy_Mo_lives Y_Mo_lives [.inr (some a0), .inl xa] a0 ad Mb A (fun r B => B = A ∧ ∃ x2 : Int32, r = some (.inl x2) ∧ (x2 = 0 → K (some (.inl (-1))) A) ∧ (¬ x2 = 0 → mo_Ok l G yy_Mo_isRegister Y_Mo_isRegister [.inl xb] a0 ad Mb A (fun r B => B = A ∧ ∃ x4 : Int32, r = some (.inl x4) ∧ (¬ x4 = 0 → ∃ j5 : Nat, ((4 * xa) + xb) = nI j5 ∧ j5 < 32 ∧ (0 ≤ ((A 5 j5) - 1) → ∃ j8 : Nat, ((A 5 j5) - 1) = nI j8 ∧ j8 < 60 ∧ K (some (.inl ((A 6 j8) - 1))) A) ∧ (¬ 0 ≤ ((A 5 j5) - 1) → K (some (.inl (-2))) A)) ∧ (x4 = 0 → K (some (.inl (-1))) A))))) :
    mo_Ok l G yy_Mo_where Y_Mo_where [.inr (some a0), .inl xa, .inl xb] a0 ad Mb A K := by
  intro M hS
  refine mm_go (by decide) rfl (fun q => by cases q) (Nat.le_of_ble_eq_true rfl) ?_
  show mm_Z l G Y_Mo_where (mo_K a0 ad Mb K) _ 0 0 0 [some (.inr (some a0)), some (.inl xa), some (.inl xb), none] [] M
  refine mr_aload_n dd_Mo_where_0 rfl ?_
  refine mr_iload_n dd_Mo_where_1 rfl ?_
  refine mr_callV0 (Yc := Y_Mo_lives) (M := M) (st := []) (vs := [.inl xa]) (ci := 8) fc_Mo_89 iv_Mo_lives sv_Mo_lives dd_Mo_where_2 ⟨Nat.le_of_ble_eq_true rfl, Nat.le_of_ble_eq_true rfl⟩ (by decide) rfl rfl (Nat.le_of_ble_eq_true rfl) rfl hS.1 rfl rfl (h M hS) (fun r M _ h => ?_)
  obtain ⟨B, hS, hB, h⟩ := h
  rw [hB] at hS
  obtain ⟨x2, rfl, h⟩ := h
  show mm_Z l G Y_Mo_where (mo_K a0 ad Mb K) _ 0 0 5 [some (.inr (some a0)), some (.inl xa), some (.inl xb), none] [.inl x2] M
  refine mr_if_eq 15 dd_Mo_where_5 (by decide) (fun hc5 => ?_) (fun hc5 => ?_)
  · have h := h.1 hc5
    refine mr_iconst (-1) dd_Mo_where_15 (by decide) ?_
    exact mr_ireturn dd_Mo_where_16 rfl ⟨_, hS, h⟩
  · have h := h.2 hc5
    refine mr_iload_n dd_Mo_where_8 rfl ?_
    refine mr_callS0 (Yc := Y_Mo_isRegister) (M := M) (st := []) (vs := [.inl xb]) fc_Mo_134 si_Mo_isRegister dd_Mo_where_9 ⟨Nat.le_of_ble_eq_true rfl, Nat.le_of_ble_eq_true rfl⟩ rfl (Nat.le_of_ble_eq_true rfl) rfl rfl (h M hS) (fun r M _ h => ?_)
    obtain ⟨B, hS, hB, h⟩ := h
    rw [hB] at hS
    obtain ⟨x4, rfl, h⟩ := h
    show mm_Z l G Y_Mo_where (mo_K a0 ad Mb K) _ 0 0 12 [some (.inr (some a0)), some (.inl xa), some (.inl xb), none] [.inl x4] M
    refine mr_if_ne 17 dd_Mo_where_12 (by decide) (fun hc12 => ?_) (fun hc12 => ?_)
    · have h := h.1 hc12
      refine mr_aload_n dd_Mo_where_17 rfl ?_
      refine mr_getr ff_Mo_23 dd_Mo_where_18 rs_8_5 rfl hS.1 ?_
      rw [mo_p hS 5 (by decide) rfl]
      refine mr_iconst 4 dd_Mo_where_21 (by decide) ?_
      refine mr_iload_n dd_Mo_where_22 rfl ?_
      refine mr_imul dd_Mo_where_23 ?_
      refine mr_iload_n dd_Mo_where_24 rfl ?_
      refine mr_iadd dd_Mo_where_25 ?_
      obtain ⟨j5, hj6, hb7, h⟩ := h
      refine mr_iald dd_Mo_where_26 rfl (mo_k hS 5 (by decide) rfl rfl) hj6 (Nat.lt_trans hb7 (by decide)) (mo_l hS 5 (by decide) rfl rfl hb7) ?_
      rw [mo_i hS 5 (by decide) rfl rfl hb7]
      refine mr_iconst 1 dd_Mo_where_27 (by decide) ?_
      refine mr_isub dd_Mo_where_28 ?_
      refine mr_istore_n dd_Mo_where_29 (by decide) ?_
      show mm_Z l G Y_Mo_where (mo_K a0 ad Mb K) _ 0 0 30 [some (.inr (some a0)), some (.inl xa), some (.inl xb), some (.inl ((A 5 j5) - 1))] [] M
      refine mr_iload_n dd_Mo_where_30 rfl ?_
      refine mr_if_ge 39 dd_Mo_where_31 (by decide) (fun hc31 => ?_) (fun hc31 => ?_)
      · have h := h.1 hc31
        refine mr_aload_n dd_Mo_where_39 rfl ?_
        refine mr_getr ff_Mo_26 dd_Mo_where_40 rs_8_6 rfl hS.1 ?_
        rw [mo_p hS 6 (by decide) rfl]
        refine mr_iload_n dd_Mo_where_43 rfl ?_
        obtain ⟨j8, hj9, hb10, h⟩ := h
        refine mr_iald dd_Mo_where_44 rfl (mo_k hS 6 (by decide) rfl rfl) hj9 (Nat.lt_trans hb10 (by decide)) (mo_l hS 6 (by decide) rfl rfl hb10) ?_
        rw [mo_i hS 6 (by decide) rfl rfl hb10]
        refine mr_iconst 1 dd_Mo_where_45 (by decide) ?_
        refine mr_isub dd_Mo_where_46 ?_
        exact mr_ireturn dd_Mo_where_47 rfl ⟨_, hS, h⟩
      · have h := h.2 hc31
        refine mr_bipush (-2) dd_Mo_where_34 (by decide) ?_
        refine mr_goto 47 dd_Mo_where_36 (by decide) ?_
        exact mr_ireturn dd_Mo_where_47 rfl ⟨_, hS, h⟩
    · have h := h.2 hc12
      refine mr_iconst (-1) dd_Mo_where_15 (by decide) ?_
      exact mr_ireturn dd_Mo_where_16 rfl ⟨_, hS, h⟩
set_option maxHeartbeats 4000000 in
set_option maxRecDepth 100000 in
theorem mg_tag {l : Launch} {G : mm_G} {K : Option mm_V → mo_A → Prop} {a0 : Nat} {ad : Nat → Nat} {Mb : mm_M} {A : mo_A} {xa : Int32} {xb : Int32}
    (h : mo_Ok l G yy_Mo_lives Y_Mo_lives [.inr (some a0), .inl xa] a0 ad Mb A (fun r B => B = A ∧ ∃ x2 : Int32, r = some (.inl x2) ∧ (x2 = 0 → K (some (.inl 0)) A) ∧ (¬ x2 = 0 → mo_Ok l G yy_Mo_isRegister Y_Mo_isRegister [.inl xb] a0 ad Mb A (fun r B => B = A ∧ ∃ x4 : Int32, r = some (.inl x4) ∧ (x4 = 0 → K (some (.inl 0)) A) ∧ (¬ x4 = 0 → ∃ j5 : Nat, ((4 * xa) + xb) = nI j5 ∧ j5 < 32 ∧ ((A 5 j5) ≤ 0 → K (some (.inl 0)) A) ∧ (¬ (A 5 j5) ≤ 0 → ∃ j8 : Nat, ((A 5 j5) - 1) = nI j8 ∧ j8 < 60 ∧ K (some (.inl (A 8 j8))) A)))))) :
    mo_Ok l G yy_Mo_tag Y_Mo_tag [.inr (some a0), .inl xa, .inl xb] a0 ad Mb A K := by
  intro M hS
  refine mm_go (by decide) rfl (fun q => by cases q) (Nat.le_of_ble_eq_true rfl) ?_
  show mm_Z l G Y_Mo_tag (mo_K a0 ad Mb K) _ 0 0 0 [some (.inr (some a0)), some (.inl xa), some (.inl xb), none] [] M
  refine mr_aload_n dd_Mo_tag_0 rfl ?_
  refine mr_iload_n dd_Mo_tag_1 rfl ?_
  refine mr_callV0 (Yc := Y_Mo_lives) (M := M) (st := []) (vs := [.inl xa]) (ci := 8) fc_Mo_89 iv_Mo_lives sv_Mo_lives dd_Mo_tag_2 ⟨Nat.le_of_ble_eq_true rfl, Nat.le_of_ble_eq_true rfl⟩ (by decide) rfl rfl (Nat.le_of_ble_eq_true rfl) rfl hS.1 rfl rfl (h M hS) (fun r M _ h => ?_)
  obtain ⟨B, hS, hB, h⟩ := h
  rw [hB] at hS
  obtain ⟨x2, rfl, h⟩ := h
  show mm_Z l G Y_Mo_tag (mo_K a0 ad Mb K) _ 0 0 5 [some (.inr (some a0)), some (.inl xa), some (.inl xb), none] [.inl x2] M
  refine mr_if_eq 32 dd_Mo_tag_5 (by decide) (fun hc5 => ?_) (fun hc5 => ?_)
  · have h := h.1 hc5
    refine mr_iconst 0 dd_Mo_tag_32 (by decide) ?_
    refine mr_istore_n dd_Mo_tag_33 (by decide) ?_
    show mm_Z l G Y_Mo_tag (mo_K a0 ad Mb K) _ 0 0 34 [some (.inr (some a0)), some (.inl xa), some (.inl xb), some (.inl 0)] [] M
    refine mr_iload_n dd_Mo_tag_34 rfl ?_
    refine mr_if_eq 58 dd_Mo_tag_35 (by decide) (fun _ => ?_) (fun q => absurd q (by decide))
    refine mr_iconst 0 dd_Mo_tag_58 (by decide) ?_
    exact mr_ireturn dd_Mo_tag_59 rfl ⟨_, hS, h⟩
  · have h := h.2 hc5
    refine mr_iload_n dd_Mo_tag_8 rfl ?_
    refine mr_callS0 (Yc := Y_Mo_isRegister) (M := M) (st := []) (vs := [.inl xb]) fc_Mo_134 si_Mo_isRegister dd_Mo_tag_9 ⟨Nat.le_of_ble_eq_true rfl, Nat.le_of_ble_eq_true rfl⟩ rfl (Nat.le_of_ble_eq_true rfl) rfl rfl (h M hS) (fun r M _ h => ?_)
    obtain ⟨B, hS, hB, h⟩ := h
    rw [hB] at hS
    obtain ⟨x4, rfl, h⟩ := h
    show mm_Z l G Y_Mo_tag (mo_K a0 ad Mb K) _ 0 0 12 [some (.inr (some a0)), some (.inl xa), some (.inl xb), none] [.inl x4] M
    refine mr_if_eq 32 dd_Mo_tag_12 (by decide) (fun hc12 => ?_) (fun hc12 => ?_)
    · have h := h.1 hc12
      refine mr_iconst 0 dd_Mo_tag_32 (by decide) ?_
      refine mr_istore_n dd_Mo_tag_33 (by decide) ?_
      show mm_Z l G Y_Mo_tag (mo_K a0 ad Mb K) _ 0 0 34 [some (.inr (some a0)), some (.inl xa), some (.inl xb), some (.inl 0)] [] M
      refine mr_iload_n dd_Mo_tag_34 rfl ?_
      refine mr_if_eq 58 dd_Mo_tag_35 (by decide) (fun _ => ?_) (fun q => absurd q (by decide))
      refine mr_iconst 0 dd_Mo_tag_58 (by decide) ?_
      exact mr_ireturn dd_Mo_tag_59 rfl ⟨_, hS, h⟩
    · have h := h.2 hc12
      refine mr_aload_n dd_Mo_tag_15 rfl ?_
      refine mr_getr ff_Mo_23 dd_Mo_tag_16 rs_8_5 rfl hS.1 ?_
      rw [mo_p hS 5 (by decide) rfl]
      refine mr_iconst 4 dd_Mo_tag_19 (by decide) ?_
      refine mr_iload_n dd_Mo_tag_20 rfl ?_
      refine mr_imul dd_Mo_tag_21 ?_
      refine mr_iload_n dd_Mo_tag_22 rfl ?_
      refine mr_iadd dd_Mo_tag_23 ?_
      obtain ⟨j5, hj6, hb7, h⟩ := h
      refine mr_iald dd_Mo_tag_24 rfl (mo_k hS 5 (by decide) rfl rfl) hj6 (Nat.lt_trans hb7 (by decide)) (mo_l hS 5 (by decide) rfl rfl hb7) ?_
      rw [mo_i hS 5 (by decide) rfl rfl hb7]
      refine mr_if_le 32 dd_Mo_tag_25 (by decide) (fun hc25 => ?_) (fun hc25 => ?_)
      · have h := h.1 hc25
        refine mr_iconst 0 dd_Mo_tag_32 (by decide) ?_
        refine mr_istore_n dd_Mo_tag_33 (by decide) ?_
        show mm_Z l G Y_Mo_tag (mo_K a0 ad Mb K) _ 0 0 34 [some (.inr (some a0)), some (.inl xa), some (.inl xb), some (.inl 0)] [] M
        refine mr_iload_n dd_Mo_tag_34 rfl ?_
        refine mr_if_eq 58 dd_Mo_tag_35 (by decide) (fun _ => ?_) (fun q => absurd q (by decide))
        refine mr_iconst 0 dd_Mo_tag_58 (by decide) ?_
        exact mr_ireturn dd_Mo_tag_59 rfl ⟨_, hS, h⟩
      · have h := h.2 hc25
        refine mr_iconst 1 dd_Mo_tag_28 (by decide) ?_
        refine mr_goto 33 dd_Mo_tag_29 (by decide) ?_
        refine mr_istore_n dd_Mo_tag_33 (by decide) ?_
        show mm_Z l G Y_Mo_tag (mo_K a0 ad Mb K) _ 0 0 34 [some (.inr (some a0)), some (.inl xa), some (.inl xb), some (.inl 1)] [] M
        refine mr_iload_n dd_Mo_tag_34 rfl ?_
        refine mr_if_eq 58 dd_Mo_tag_35 (by decide) (fun q => absurd q (by decide)) (fun _ => ?_)
        refine mr_aload_n dd_Mo_tag_38 rfl ?_
        refine mr_getr ff_Mo_32 dd_Mo_tag_39 rs_8_8 rfl hS.1 ?_
        rw [mo_p hS 8 (by decide) rfl]
        refine mr_aload_n dd_Mo_tag_42 rfl ?_
        refine mr_getr ff_Mo_23 dd_Mo_tag_43 rs_8_5 rfl hS.1 ?_
        rw [mo_p hS 5 (by decide) rfl]
        refine mr_iconst 4 dd_Mo_tag_46 (by decide) ?_
        refine mr_iload_n dd_Mo_tag_47 rfl ?_
        refine mr_imul dd_Mo_tag_48 ?_
        refine mr_iload_n dd_Mo_tag_49 rfl ?_
        refine mr_iadd dd_Mo_tag_50 ?_
        refine mr_iald dd_Mo_tag_51 rfl (mo_k hS 5 (by decide) rfl rfl) hj6 (Nat.lt_trans hb7 (by decide)) (mo_l hS 5 (by decide) rfl rfl hb7) ?_
        rw [mo_i hS 5 (by decide) rfl rfl hb7]
        refine mr_iconst 1 dd_Mo_tag_52 (by decide) ?_
        refine mr_isub dd_Mo_tag_53 ?_
        obtain ⟨j8, hj9, hb10, h⟩ := h
        refine mr_iald dd_Mo_tag_54 rfl (mo_k hS 8 (by decide) rfl rfl) hj9 (Nat.lt_trans hb10 (by decide)) (mo_l hS 8 (by decide) rfl rfl hb10) ?_
        rw [mo_i hS 8 (by decide) rfl rfl hb10]
        refine mr_goto 59 dd_Mo_tag_55 (by decide) ?_
        exact mr_ireturn dd_Mo_tag_59 rfl ⟨_, hS, h⟩
