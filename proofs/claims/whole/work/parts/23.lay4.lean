/-! LAID STRETCHES (by program, wip/tools/walk.py): the reference, small ones -/
set_option maxHeartbeats 4000000 in
set_option maxRecDepth 100000 in
theorem sg_Mo_lives {l : Launch} {G : mm_G} {K : Option mm_V → mm_M → Prop} {M : mm_M} {a0 : Nat} {xa : Int32}
    (h : (xa < 0 → K (some (.inl 0)) M) ∧ (¬ xa < 0 → (8 ≤ xa → K (some (.inl 0)) M) ∧ (¬ 8 ≤ xa → mm_k M a0 = 9 ∧ ∃ a2 : Nat, (mm_p M a0 0) = some a2 ∧ mm_k M a2 = 100 ∧ ∃ j5 : Nat, xa = nI j5 ∧ j5 < 2147483648 ∧ j5 < mm_l M a2 ∧ ((mm_i M a2 j5) ≤ 0 → K (some (.inl 0)) M) ∧ (¬ (mm_i M a2 j5) ≤ 0 → ∃ j9 : Nat, xa = nI j9 ∧ j9 < 2147483648 ∧ j9 < mm_l M a2 ∧ (4 ≤ (mm_i M a2 j9) → K (some (.inl 0)) M) ∧ (¬ 4 ≤ (mm_i M a2 j9) → K (some (.inl 1)) M))))) :
    mm_Ok l G yy_Mo_lives Y_Mo_lives [.inr (some a0), .inl xa] M K := by
  refine mm_go (by decide) rfl (fun q => by cases q) (Nat.le_of_ble_eq_true rfl) ?_
  show mm_Z l G Y_Mo_lives K M 0 0 0 [some (.inr (some a0)), some (.inl xa)] [] M
  refine mr_iload_n dd_Mo_lives_0 rfl ?_
  refine mr_if_lt 33 dd_Mo_lives_1 (by decide) (fun hc1 => ?_) (fun hc1 => ?_)
  · have h := h.1 hc1
    refine mr_iconst 0 dd_Mo_lives_33 (by decide) ?_
    exact mr_zreturn dd_Mo_lives_34 rfl (Or.inl rfl) h
  · have h := h.2 hc1
    refine mr_iload_n dd_Mo_lives_4 rfl ?_
    refine mr_bipush 8 dd_Mo_lives_5 (by decide) ?_
    refine mr_icmp_ge 33 dd_Mo_lives_7 (by decide) (fun hc7 => ?_) (fun hc7 => ?_)
    · have h := h.1 hc7
      refine mr_iconst 0 dd_Mo_lives_33 (by decide) ?_
      exact mr_zreturn dd_Mo_lives_34 rfl (Or.inl rfl) h
    · have h := h.2 hc7
      refine mr_aload_n dd_Mo_lives_10 rfl ?_
      obtain ⟨hk1, h⟩ := h
      refine mr_getr ff_Mo_7 dd_Mo_lives_11 rs_8_0 rfl hk1 ?_
      refine mr_iload_n dd_Mo_lives_14 rfl ?_
      obtain ⟨a2, ho3, h⟩ := h
      obtain ⟨hk4, h⟩ := h
      obtain ⟨j5, hj6, hm7, hl8, h⟩ := h
      refine mr_iald dd_Mo_lives_15 ho3 hk4 hj6 hm7 hl8 ?_
      refine mr_if_le 33 dd_Mo_lives_16 (by decide) (fun hc16 => ?_) (fun hc16 => ?_)
      · have h := h.1 hc16
        refine mr_iconst 0 dd_Mo_lives_33 (by decide) ?_
        exact mr_zreturn dd_Mo_lives_34 rfl (Or.inl rfl) h
      · have h := h.2 hc16
        refine mr_aload_n dd_Mo_lives_19 rfl ?_
        refine mr_getr ff_Mo_7 dd_Mo_lives_20 rs_8_0 rfl hk1 ?_
        refine mr_iload_n dd_Mo_lives_23 rfl ?_
        obtain ⟨j9, hj10, hm11, hl12, h⟩ := h
        refine mr_iald dd_Mo_lives_24 ho3 hk4 hj10 hm11 hl12 ?_
        refine mr_iconst 4 dd_Mo_lives_25 (by decide) ?_
        refine mr_icmp_ge 33 dd_Mo_lives_26 (by decide) (fun hc26 => ?_) (fun hc26 => ?_)
        · have h := h.1 hc26
          refine mr_iconst 0 dd_Mo_lives_33 (by decide) ?_
          exact mr_zreturn dd_Mo_lives_34 rfl (Or.inl rfl) h
        · have h := h.2 hc26
          refine mr_iconst 1 dd_Mo_lives_29 (by decide) ?_
          refine mr_goto 34 dd_Mo_lives_30 (by decide) ?_
          exact mr_zreturn dd_Mo_lives_34 rfl (Or.inr rfl) h
set_option maxHeartbeats 4000000 in
set_option maxRecDepth 100000 in
theorem sg_Mo_isRegister {l : Launch} {G : mm_G} {K : Option mm_V → mm_M → Prop} {M : mm_M} {xa : Int32}
    (h : (xa < 0 → K (some (.inl 0)) M) ∧ (¬ xa < 0 → (4 ≤ xa → K (some (.inl 0)) M) ∧ (¬ 4 ≤ xa → K (some (.inl 1)) M))) :
    mm_Ok l G yy_Mo_isRegister Y_Mo_isRegister [.inl xa] M K := by
  refine mm_go (by decide) rfl (fun q => by cases q) (Nat.le_of_ble_eq_true rfl) ?_
  show mm_Z l G Y_Mo_isRegister K M 0 0 0 [some (.inl xa)] [] M
  refine mr_iload_n dd_Mo_isRegister_0 rfl ?_
  refine mr_if_lt 13 dd_Mo_isRegister_1 (by decide) (fun hc1 => ?_) (fun hc1 => ?_)
  · have h := h.1 hc1
    refine mr_iconst 0 dd_Mo_isRegister_13 (by decide) ?_
    exact mr_zreturn dd_Mo_isRegister_14 rfl (Or.inl rfl) h
  · have h := h.2 hc1
    refine mr_iload_n dd_Mo_isRegister_4 rfl ?_
    refine mr_iconst 4 dd_Mo_isRegister_5 (by decide) ?_
    refine mr_icmp_ge 13 dd_Mo_isRegister_6 (by decide) (fun hc6 => ?_) (fun hc6 => ?_)
    · have h := h.1 hc6
      refine mr_iconst 0 dd_Mo_isRegister_13 (by decide) ?_
      exact mr_zreturn dd_Mo_isRegister_14 rfl (Or.inl rfl) h
    · have h := h.2 hc6
      refine mr_iconst 1 dd_Mo_isRegister_9 (by decide) ?_
      refine mr_goto 14 dd_Mo_isRegister_10 (by decide) ?_
      exact mr_zreturn dd_Mo_isRegister_14 rfl (Or.inr rfl) h
set_option maxHeartbeats 4000000 in
set_option maxRecDepth 100000 in
theorem sg_Mo_frozen {l : Launch} {G : mm_G} {K : Option mm_V → mm_M → Prop} {M : mm_M} {a0 : Nat} {xa : Int32}
    (h : (xa < 9 → K (some (.inl 0)) M) ∧ (¬ xa < 9 → (12 < xa → K (some (.inl 0)) M) ∧ (¬ 12 < xa → mm_k M a0 = 9 ∧ ∃ a2 : Nat, (mm_p M a0 15) = some a2 ∧ mm_k M a2 = 100 ∧ ∃ j5 : Nat, (xa - 9) = nI j5 ∧ j5 < 2147483648 ∧ j5 < mm_l M a2 ∧ (¬ (mm_i M a2 j5) = 2 → K (some (.inl 0)) M) ∧ ((mm_i M a2 j5) = 2 → K (some (.inl 1)) M)))) :
    mm_Ok l G yy_Mo_frozen Y_Mo_frozen [.inr (some a0), .inl xa] M K := by
  refine mm_go (by decide) rfl (fun q => by cases q) (Nat.le_of_ble_eq_true rfl) ?_
  show mm_Z l G Y_Mo_frozen K M 0 0 0 [some (.inr (some a0)), some (.inl xa)] [] M
  refine mr_iload_n dd_Mo_frozen_0 rfl ?_
  refine mr_bipush 9 dd_Mo_frozen_1 (by decide) ?_
  refine mr_icmp_lt 29 dd_Mo_frozen_3 (by decide) (fun hc3 => ?_) (fun hc3 => ?_)
  · have h := h.1 hc3
    refine mr_iconst 0 dd_Mo_frozen_29 (by decide) ?_
    exact mr_zreturn dd_Mo_frozen_30 rfl (Or.inl rfl) h
  · have h := h.2 hc3
    refine mr_iload_n dd_Mo_frozen_6 rfl ?_
    refine mr_bipush 12 dd_Mo_frozen_7 (by decide) ?_
    refine mr_icmp_gt 29 dd_Mo_frozen_9 (by decide) (fun hc9 => ?_) (fun hc9 => ?_)
    · have h := h.1 hc9
      refine mr_iconst 0 dd_Mo_frozen_29 (by decide) ?_
      exact mr_zreturn dd_Mo_frozen_30 rfl (Or.inl rfl) h
    · have h := h.2 hc9
      refine mr_aload_n dd_Mo_frozen_12 rfl ?_
      obtain ⟨hk1, h⟩ := h
      refine mr_getr ff_Mo_50 dd_Mo_frozen_13 rs_8_15 rfl hk1 ?_
      refine mr_iload_n dd_Mo_frozen_16 rfl ?_
      refine mr_bipush 9 dd_Mo_frozen_17 (by decide) ?_
      refine mr_isub dd_Mo_frozen_19 ?_
      obtain ⟨a2, ho3, h⟩ := h
      obtain ⟨hk4, h⟩ := h
      obtain ⟨j5, hj6, hm7, hl8, h⟩ := h
      refine mr_iald dd_Mo_frozen_20 ho3 hk4 hj6 hm7 hl8 ?_
      refine mr_iconst 2 dd_Mo_frozen_21 (by decide) ?_
      refine mr_icmp_ne 29 dd_Mo_frozen_22 (by decide) (fun hc22 => ?_) (fun hc22 => ?_)
      · have h := h.1 hc22
        refine mr_iconst 0 dd_Mo_frozen_29 (by decide) ?_
        exact mr_zreturn dd_Mo_frozen_30 rfl (Or.inl rfl) h
      · have h := h.2 hc22
        refine mr_iconst 1 dd_Mo_frozen_25 (by decide) ?_
        refine mr_goto 30 dd_Mo_frozen_26 (by decide) ?_
        exact mr_zreturn dd_Mo_frozen_30 rfl (Or.inr rfl) h
set_option maxHeartbeats 4000000 in
set_option maxRecDepth 100000 in
theorem sg_Mo_work {l : Launch} {G : mm_G} {K : Option mm_V → mm_M → Prop} {M : mm_M} {a0 : Nat}
    (h : mm_Z l G Y_Mo_work K M 0 0 3 [some (.inr (some a0)), some (.inl 7), none, none, none, none] [] M) :
    mm_Ok l G yy_Mo_work Y_Mo_work [.inr (some a0)] M K := by
  refine mm_go (by decide) rfl (fun q => by cases q) (Nat.le_of_ble_eq_true rfl) ?_
  show mm_Z l G Y_Mo_work K M 0 0 0 [some (.inr (some a0)), none, none, none, none, none] [] M
  refine mr_bipush 7 dd_Mo_work_0 (by decide) ?_
  refine mr_istore_n dd_Mo_work_2 (by decide) ?_
  show mm_Z l G Y_Mo_work K M 0 0 3 [some (.inr (some a0)), some (.inl 7), none, none, none, none] [] M
  exact h
set_option maxHeartbeats 4000000 in
set_option maxRecDepth 100000 in
theorem sg_Mo_work_3 {l : Launch} {G : mm_G} {K : Option mm_V → mm_M → Prop} {M0 M : mm_M} {bc bs : Nat} {a0 : Nat} {y1 : Int32}
    (h : (y1 < 0 → K none M) ∧ (¬ y1 < 0 → mm_Z l G Y_Mo_work K M0 bc bs 11 [some (.inr (some a0)), some (.inl y1), some (.inl 0), some (.inl 0), none, none] [] M)) :
    mm_Z l G Y_Mo_work K M0 bc bs 3 [some (.inr (some a0)), some (.inl y1), none, none, none, none] [] M := by
  refine mr_iload_n dd_Mo_work_3 rfl ?_
  refine mr_if_lt 236 dd_Mo_work_4 (by decide) (fun hc4 => ?_) (fun hc4 => ?_)
  · have h := h.1 hc4
    exact mr_return dd_Mo_work_236 rfl h
  · have h := h.2 hc4
    refine mr_iconst 0 dd_Mo_work_7 (by decide) ?_
    refine mr_istore_n dd_Mo_work_8 (by decide) ?_
    show mm_Z l G Y_Mo_work K M0 bc bs 9 [some (.inr (some a0)), some (.inl y1), some (.inl 0), none, none, none] [] M
    refine mr_iconst 0 dd_Mo_work_9 (by decide) ?_
    refine mr_istore_n dd_Mo_work_10 (by decide) ?_
    show mm_Z l G Y_Mo_work K M0 bc bs 11 [some (.inr (some a0)), some (.inl y1), some (.inl 0), some (.inl 0), none, none] [] M
    exact h
set_option maxHeartbeats 4000000 in
set_option maxRecDepth 100000 in
theorem sg_Mo_work_11 {l : Launch} {G : mm_G} {K : Option mm_V → mm_M → Prop} {M0 M : mm_M} {bc bs : Nat} {a0 : Nat} {y1 : Int32} {y2 : Int32} {y3 : Int32}
    (h : (24 ≤ y3 → mm_Z l G Y_Mo_work K M0 bc bs 62 [some (.inr (some a0)), some (.inl y1), some (.inl y2), some (.inl 0), none, none] [] M) ∧ (¬ 24 ≤ y3 → mm_k M a0 = 9 ∧ ∃ a2 : Nat, (mm_p M a0 11) = some a2 ∧ mm_k M a2 = 100 ∧ ∃ j5 : Nat, y3 = nI j5 ∧ j5 < 2147483648 ∧ j5 < mm_l M a2 ∧ ((mm_i M a2 j5) ≤ 0 → mm_Z l G Y_Mo_work K M0 bc bs 11 [some (.inr (some a0)), some (.inl y1), some (.inl y2), some (.inl (y3 + 1)), none, none] [] M) ∧ (¬ (mm_i M a2 j5) ≤ 0 → ∃ j9 : Nat, y3 = nI j9 ∧ j9 < 2147483648 ∧ j9 < mm_l M a2 ∧ mm_Ok l G yy_Mo_frozen Y_Mo_frozen [.inr (some a0), .inl ((mm_i M a2 j9) - 1)] M (fun r M13 => mm_X M M13 → ∃ x15 : Int32, r = some (.inl x15) ∧ (¬ x15 = 0 → mm_Z l G Y_Mo_work K M0 bc bs 11 [some (.inr (some a0)), some (.inl y1), some (.inl y2), some (.inl (y3 + 1)), none, none] [] M13) ∧ (x15 = 0 → ∃ a16 : Nat, (mm_p M13 a0 12) = some a16 ∧ mm_k M13 a16 = 100 ∧ ∃ j19 : Nat, y3 = nI j19 ∧ j19 < 2147483648 ∧ j19 < mm_l M13 a16 ∧ (¬ (mm_i M13 a16 j19) = y1 → mm_Z l G Y_Mo_work K M0 bc bs 11 [some (.inr (some a0)), some (.inl y1), some (.inl y2), some (.inl (y3 + 1)), none, none] [] M13) ∧ ((mm_i M13 a16 j19) = y1 → mm_Z l G Y_Mo_work K M0 bc bs 11 [some (.inr (some a0)), some (.inl y1), some (.inl (y2 + 1)), some (.inl (y3 + 1)), none, none] [] M13)))))) :
    mm_Z l G Y_Mo_work K M0 bc bs 11 [some (.inr (some a0)), some (.inl y1), some (.inl y2), some (.inl y3), none, none] [] M := by
  refine mr_iload_n dd_Mo_work_11 rfl ?_
  refine mr_bipush 24 dd_Mo_work_12 (by decide) ?_
  refine mr_icmp_ge 60 dd_Mo_work_14 (by decide) (fun hc14 => ?_) (fun hc14 => ?_)
  · have h := h.1 hc14
    refine mr_iconst 0 dd_Mo_work_60 (by decide) ?_
    refine mr_istore_n dd_Mo_work_61 (by decide) ?_
    show mm_Z l G Y_Mo_work K M0 bc bs 62 [some (.inr (some a0)), some (.inl y1), some (.inl y2), some (.inl 0), none, none] [] M
    exact h
  · have h := h.2 hc14
    refine mr_aload_n dd_Mo_work_17 rfl ?_
    obtain ⟨hk1, h⟩ := h
    refine mr_getr ff_Mo_41 dd_Mo_work_18 rs_8_11 rfl hk1 ?_
    refine mr_iload_n dd_Mo_work_21 rfl ?_
    obtain ⟨a2, ho3, h⟩ := h
    obtain ⟨hk4, h⟩ := h
    obtain ⟨j5, hj6, hm7, hl8, h⟩ := h
    refine mr_iald dd_Mo_work_22 ho3 hk4 hj6 hm7 hl8 ?_
    refine mr_if_le 54 dd_Mo_work_23 (by decide) (fun hc23 => ?_) (fun hc23 => ?_)
    · have h := h.1 hc23
      refine mr_iinc 1 dd_Mo_work_54 rfl (by decide) (by decide) ?_
      show mm_Z l G Y_Mo_work K M0 bc bs 57 [some (.inr (some a0)), some (.inl y1), some (.inl y2), some (.inl (y3 + 1)), none, none] [] M
      refine mr_goto 11 dd_Mo_work_57 (by decide) ?_
      exact h
    · have h := h.2 hc23
      refine mr_aload_n dd_Mo_work_26 rfl ?_
      refine mr_aload_n dd_Mo_work_27 rfl ?_
      refine mr_getr ff_Mo_41 dd_Mo_work_28 rs_8_11 rfl hk1 ?_
      refine mr_iload_n dd_Mo_work_31 rfl ?_
      obtain ⟨j9, hj10, hm11, hl12, h⟩ := h
      refine mr_iald dd_Mo_work_32 ho3 hk4 hj10 hm11 hl12 ?_
      refine mr_iconst 1 dd_Mo_work_33 (by decide) ?_
      refine mr_isub dd_Mo_work_34 ?_
      refine mr_callV0 (Yc := Y_Mo_frozen) (M := M) (st := []) (vs := [.inl ((mm_i M a2 j9) - 1)]) (ci := 8) fc_Mo_81 iv_Mo_frozen sv_Mo_frozen dd_Mo_work_35 ⟨Nat.le_of_ble_eq_true rfl, Nat.le_of_ble_eq_true rfl⟩ (by decide) rfl rfl (Nat.le_of_ble_eq_true rfl) rfl hk1 rfl rfl h (fun r M13 hX14 h => ?_)
      replace h := h hX14
      obtain ⟨x15, rfl, h⟩ := h
      show mm_Z l G Y_Mo_work K M0 bc bs 38 [some (.inr (some a0)), some (.inl y1), some (.inl y2), some (.inl y3), none, none] [.inl x15] M13
      refine mr_if_ne 54 dd_Mo_work_38 (by decide) (fun hc38 => ?_) (fun hc38 => ?_)
      · have h := h.1 hc38
        refine mr_iinc 1 dd_Mo_work_54 rfl (by decide) (by decide) ?_
        show mm_Z l G Y_Mo_work K M0 bc bs 57 [some (.inr (some a0)), some (.inl y1), some (.inl y2), some (.inl (y3 + 1)), none, none] [] M13
        refine mr_goto 11 dd_Mo_work_57 (by decide) ?_
        exact h
      · have h := h.2 hc38
        refine mr_aload_n dd_Mo_work_41 rfl ?_
        refine mr_getr ff_Mo_44 dd_Mo_work_42 rs_8_12 rfl (mm_Xk hX14 hk1 (by decide)) ?_
        refine mr_iload_n dd_Mo_work_45 rfl ?_
        obtain ⟨a16, ho17, h⟩ := h
        obtain ⟨hk18, h⟩ := h
        obtain ⟨j19, hj20, hm21, hl22, h⟩ := h
        refine mr_iald dd_Mo_work_46 ho17 hk18 hj20 hm21 hl22 ?_
        refine mr_iload_n dd_Mo_work_47 rfl ?_
        refine mr_icmp_ne 54 dd_Mo_work_48 (by decide) (fun hc48 => ?_) (fun hc48 => ?_)
        · have h := h.1 hc48
          refine mr_iinc 1 dd_Mo_work_54 rfl (by decide) (by decide) ?_
          show mm_Z l G Y_Mo_work K M0 bc bs 57 [some (.inr (some a0)), some (.inl y1), some (.inl y2), some (.inl (y3 + 1)), none, none] [] M13
          refine mr_goto 11 dd_Mo_work_57 (by decide) ?_
          exact h
        · have h := h.2 hc48
          refine mr_iinc 1 dd_Mo_work_51 rfl (by decide) (by decide) ?_
          show mm_Z l G Y_Mo_work K M0 bc bs 54 [some (.inr (some a0)), some (.inl y1), some (.inl (y2 + 1)), some (.inl y3), none, none] [] M13
          refine mr_iinc 1 dd_Mo_work_54 rfl (by decide) (by decide) ?_
          show mm_Z l G Y_Mo_work K M0 bc bs 57 [some (.inr (some a0)), some (.inl y1), some (.inl (y2 + 1)), some (.inl (y3 + 1)), none, none] [] M13
          refine mr_goto 11 dd_Mo_work_57 (by decide) ?_
          exact h
set_option maxHeartbeats 4000000 in
set_option maxRecDepth 100000 in
theorem sg_Mo_work_62 {l : Launch} {G : mm_G} {K : Option mm_V → mm_M → Prop} {M0 M : mm_M} {bc bs : Nat} {a0 : Nat} {y1 : Int32} {y2 : Int32} {y3 : Int32}
    (h : (4 ≤ y3 → mm_Z l G Y_Mo_work K M0 bc bs 111 [some (.inr (some a0)), some (.inl y1), some (.inl y2), some (.inl 0), some (.inl 0), some (.inl (y1 + 1))] [] M) ∧ (¬ 4 ≤ y3 → mm_k M a0 = 9 ∧ ∃ a2 : Nat, (mm_p M a0 20) = some a2 ∧ mm_k M a2 = 101 ∧ ∃ j5 : Nat, ((4 * y1) + y3) = nI j5 ∧ j5 < 2147483648 ∧ j5 < mm_l M a2 ∧ ((mm_i M a2 j5) = 0 → mm_Z l G Y_Mo_work K M0 bc bs 62 [some (.inr (some a0)), some (.inl y1), some (.inl (y2 + 0)), some (.inl (y3 + 1)), none, none] [] M) ∧ (¬ (mm_i M a2 j5) = 0 → mm_Ok l G yy_Mo_pages Y_Mo_pages [.inr (some a0), .inl (9 + y3)] M (fun r M9 => mm_X M M9 → ∃ x11 : Int32, r = some (.inl x11) ∧ mm_Z l G Y_Mo_work K M0 bc bs 62 [some (.inr (some a0)), some (.inl y1), some (.inl (y2 + x11)), some (.inl (y3 + 1)), none, none] [] M9)))) :
    mm_Z l G Y_Mo_work K M0 bc bs 62 [some (.inr (some a0)), some (.inl y1), some (.inl y2), some (.inl y3), none, none] [] M := by
  refine mr_iload_n dd_Mo_work_62 rfl ?_
  refine mr_iconst 4 dd_Mo_work_63 (by decide) ?_
  refine mr_icmp_ge 101 dd_Mo_work_64 (by decide) (fun hc64 => ?_) (fun hc64 => ?_)
  · have h := h.1 hc64
    refine mr_iconst 0 dd_Mo_work_101 (by decide) ?_
    refine mr_istore_n dd_Mo_work_102 (by decide) ?_
    show mm_Z l G Y_Mo_work K M0 bc bs 103 [some (.inr (some a0)), some (.inl y1), some (.inl y2), some (.inl 0), none, none] [] M
    refine mr_iconst 0 dd_Mo_work_103 (by decide) ?_
    refine mr_istore dd_Mo_work_104 (by decide) ?_
    show mm_Z l G Y_Mo_work K M0 bc bs 106 [some (.inr (some a0)), some (.inl y1), some (.inl y2), some (.inl 0), some (.inl 0), none] [] M
    refine mr_iload_n dd_Mo_work_106 rfl ?_
    refine mr_iconst 1 dd_Mo_work_107 (by decide) ?_
    refine mr_iadd dd_Mo_work_108 ?_
    refine mr_istore dd_Mo_work_109 (by decide) ?_
    show mm_Z l G Y_Mo_work K M0 bc bs 111 [some (.inr (some a0)), some (.inl y1), some (.inl y2), some (.inl 0), some (.inl 0), some (.inl (y1 + 1))] [] M
    exact h
  · have h := h.2 hc64
    refine mr_iload_n dd_Mo_work_67 rfl ?_
    refine mr_aload_n dd_Mo_work_68 rfl ?_
    obtain ⟨hk1, h⟩ := h
    refine mr_getr ff_Mo_62 dd_Mo_work_69 rs_8_20 rfl hk1 ?_
    refine mr_iconst 4 dd_Mo_work_72 (by decide) ?_
    refine mr_iload_n dd_Mo_work_73 rfl ?_
    refine mr_imul dd_Mo_work_74 ?_
    refine mr_iload_n dd_Mo_work_75 rfl ?_
    refine mr_iadd dd_Mo_work_76 ?_
    obtain ⟨a2, ho3, h⟩ := h
    obtain ⟨hk4, h⟩ := h
    obtain ⟨j5, hj6, hm7, hl8, h⟩ := h
    refine mr_zald dd_Mo_work_77 ho3 hk4 hj6 hm7 hl8 ?_
    refine mr_if_eq 92 dd_Mo_work_78 (by decide) (fun hc78 => ?_) (fun hc78 => ?_)
    · have h := h.1 hc78
      refine mr_iconst 0 dd_Mo_work_92 (by decide) ?_
      refine mr_iadd dd_Mo_work_93 ?_
      refine mr_istore_n dd_Mo_work_94 (by decide) ?_
      show mm_Z l G Y_Mo_work K M0 bc bs 95 [some (.inr (some a0)), some (.inl y1), some (.inl (y2 + 0)), some (.inl y3), none, none] [] M
      refine mr_iinc 1 dd_Mo_work_95 rfl (by decide) (by decide) ?_
      show mm_Z l G Y_Mo_work K M0 bc bs 98 [some (.inr (some a0)), some (.inl y1), some (.inl (y2 + 0)), some (.inl (y3 + 1)), none, none] [] M
      refine mr_goto 62 dd_Mo_work_98 (by decide) ?_
      exact h
    · have h := h.2 hc78
      refine mr_aload_n dd_Mo_work_81 rfl ?_
      refine mr_bipush 9 dd_Mo_work_82 (by decide) ?_
      refine mr_iload_n dd_Mo_work_84 rfl ?_
      refine mr_iadd dd_Mo_work_85 ?_
      refine mr_callV0 (Yc := Y_Mo_pages) (M := M) (st := [.inl y2]) (vs := [.inl (9 + y3)]) (ci := 8) fc_Mo_85 iv_Mo_pages sv_Mo_pages dd_Mo_work_86 ⟨Nat.le_of_ble_eq_true rfl, Nat.le_of_ble_eq_true rfl⟩ (by decide) rfl rfl (Nat.le_of_ble_eq_true rfl) rfl hk1 rfl rfl h (fun r M9 hX10 h => ?_)
      replace h := h hX10
      obtain ⟨x11, rfl, h⟩ := h
      show mm_Z l G Y_Mo_work K M0 bc bs 89 [some (.inr (some a0)), some (.inl y1), some (.inl y2), some (.inl y3), none, none] [.inl x11, .inl y2] M9
      refine mr_goto 93 dd_Mo_work_89 (by decide) ?_
      refine mr_iadd dd_Mo_work_93 ?_
      refine mr_istore_n dd_Mo_work_94 (by decide) ?_
      show mm_Z l G Y_Mo_work K M0 bc bs 95 [some (.inr (some a0)), some (.inl y1), some (.inl (y2 + x11)), some (.inl y3), none, none] [] M9
      refine mr_iinc 1 dd_Mo_work_95 rfl (by decide) (by decide) ?_
      show mm_Z l G Y_Mo_work K M0 bc bs 98 [some (.inr (some a0)), some (.inl y1), some (.inl (y2 + x11)), some (.inl (y3 + 1)), none, none] [] M9
      refine mr_goto 62 dd_Mo_work_98 (by decide) ?_
      exact h
set_option maxHeartbeats 4000000 in
set_option maxRecDepth 100000 in
theorem sg_Mo_work_111 {l : Launch} {G : mm_G} {K : Option mm_V → mm_M → Prop} {M0 M : mm_M} {bc bs : Nat} {a0 : Nat} {y1 : Int32} {y2 : Int32} {y3 : Int32} {y4 : Int32} {y5 : Int32}
    (h : (8 ≤ y5 → mm_k M a0 = 9 ∧ ∃ a2 : Nat, (mm_p M a0 22) = some a2 ∧ mm_k M a2 = 100 ∧ ∃ j5 : Nat, y1 = nI j5 ∧ j5 < 2147483648 ∧ j5 < mm_l M a2 ∧ (y1 = 0 → ∃ a9 : Nat, (mm_p (mm_si M a2 j5 (y2 + y4)) a0 23) = some a9 ∧ mm_k (mm_si M a2 j5 (y2 + y4)) a9 = 101 ∧ ∃ j12 : Nat, y1 = nI j12 ∧ j12 < 2147483648 ∧ j12 < mm_l (mm_si M a2 j5 (y2 + y4)) a9 ∧ mm_Z l G Y_Mo_work K M0 bc bs 3 [some (.inr (some a0)), some (.inl (y1 + (-1))), none, none, none, none] [] (mm_si (mm_si M a2 j5 (y2 + y4)) a9 j12 1)) ∧ (¬ y1 = 0 → mm_Ok l G yy_Mo_lives Y_Mo_lives [.inr (some a0), .inl y1] (mm_si M a2 j5 (y2 + y4)) (fun r M16 => mm_X (mm_si M a2 j5 (y2 + y4)) M16 → ∃ x18 : Int32, r = some (.inl x18) ∧ (¬ x18 = 0 → ∃ a19 : Nat, (mm_p (mm_si M a2 j5 (y2 + y4)) a0 23) = some a19 ∧ mm_k M16 a19 = 101 ∧ ∃ j22 : Nat, y1 = nI j22 ∧ j22 < 2147483648 ∧ j22 < mm_l M16 a19 ∧ mm_Z l G Y_Mo_work K M0 bc bs 3 [some (.inr (some a0)), some (.inl (y1 + (-1))), none, none, none, none] [] (mm_si M16 a19 j22 1)) ∧ (x18 = 0 → (0 < y2 → ∃ a26 : Nat, (mm_p (mm_si M a2 j5 (y2 + y4)) a0 23) = some a26 ∧ mm_k M16 a26 = 101 ∧ ∃ j29 : Nat, y1 = nI j29 ∧ j29 < 2147483648 ∧ j29 < mm_l M16 a26 ∧ mm_Z l G Y_Mo_work K M0 bc bs 3 [some (.inr (some a0)), some (.inl (y1 + (-1))), none, none, none, none] [] (mm_si M16 a26 j29 1)) ∧ (¬ 0 < y2 → (y3 = 0 → ∃ a33 : Nat, (mm_p (mm_si M a2 j5 (y2 + y4)) a0 23) = some a33 ∧ mm_k M16 a33 = 101 ∧ ∃ j36 : Nat, y1 = nI j36 ∧ j36 < 2147483648 ∧ j36 < mm_l M16 a33 ∧ mm_Z l G Y_Mo_work K M0 bc bs 3 [some (.inr (some a0)), some (.inl (y1 + (-1))), none, none, none, none] [] (mm_si M16 a33 j36 0)) ∧ (¬ y3 = 0 → ∃ a40 : Nat, (mm_p (mm_si M a2 j5 (y2 + y4)) a0 23) = some a40 ∧ mm_k M16 a40 = 101 ∧ ∃ j43 : Nat, y1 = nI j43 ∧ j43 < 2147483648 ∧ j43 < mm_l M16 a40 ∧ mm_Z l G Y_Mo_work K M0 bc bs 3 [some (.inr (some a0)), some (.inl (y1 + (-1))), none, none, none, none] [] (mm_si M16 a40 j43 1))))))) ∧ (¬ 8 ≤ y5 → mm_k M a0 = 9 ∧ ∃ a48 : Nat, (mm_p M a0 0) = some a48 ∧ mm_k M a48 = 100 ∧ ∃ j51 : Nat, y5 = nI j51 ∧ j51 < 2147483648 ∧ j51 < mm_l M a48 ∧ ((mm_i M a48 j51) ≤ 0 → mm_Z l G Y_Mo_work K M0 bc bs 111 [some (.inr (some a0)), some (.inl y1), some (.inl y2), some (.inl y3), some (.inl y4), some (.inl (y5 + 1))] [] M) ∧ (¬ (mm_i M a48 j51) ≤ 0 → ∃ a55 : Nat, (mm_p M a0 1) = some a55 ∧ mm_k M a55 = 100 ∧ ∃ j58 : Nat, y5 = nI j58 ∧ j58 < 2147483648 ∧ j58 < mm_l M a55 ∧ (¬ (mm_i M a55 j58) = y1 → mm_Z l G Y_Mo_work K M0 bc bs 111 [some (.inr (some a0)), some (.inl y1), some (.inl y2), some (.inl y3), some (.inl y4), some (.inl (y5 + 1))] [] M) ∧ ((mm_i M a55 j58) = y1 → ∃ a62 : Nat, (mm_p M a0 23) = some a62 ∧ mm_k M a62 = 101 ∧ ∃ j65 : Nat, y5 = nI j65 ∧ j65 < 2147483648 ∧ j65 < mm_l M a62 ∧ ((mm_i M a62 j65) = 0 → mm_Z l G Y_Mo_work K M0 bc bs 111 [some (.inr (some a0)), some (.inl y1), some (.inl y2), some (.inl y3), some (.inl y4), some (.inl (y5 + 1))] [] M) ∧ (¬ (mm_i M a62 j65) = 0 → ∃ a69 : Nat, (mm_p M a0 3) = some a69 ∧ mm_k M a69 = 101 ∧ ∃ j72 : Nat, y5 = nI j72 ∧ j72 < 2147483648 ∧ j72 < mm_l M a69 ∧ ((mm_i M a69 j72) = 0 → ∃ a76 : Nat, (mm_p M a0 22) = some a76 ∧ mm_k M a76 = 100 ∧ ∃ j79 : Nat, y5 = nI j79 ∧ j79 < 2147483648 ∧ j79 < mm_l M a76 ∧ mm_Z l G Y_Mo_work K M0 bc bs 111 [some (.inr (some a0)), some (.inl y1), some (.inl y2), some (.inl 1), some (.inl (y4 + (mm_i M a76 j79))), some (.inl (y5 + 1))] [] M) ∧ (¬ (mm_i M a69 j72) = 0 → ∃ a83 : Nat, (mm_p M a0 2) = some a83 ∧ mm_k M a83 = 100 ∧ ∃ j86 : Nat, y5 = nI j86 ∧ j86 < 2147483648 ∧ j86 < mm_l M a83 ∧ mm_Z l G Y_Mo_work K M0 bc bs 111 [some (.inr (some a0)), some (.inl y1), some (.inl y2), some (.inl 1), some (.inl (y4 + (mm_i M a83 j86))), some (.inl (y5 + 1))] [] M)))))) :
    mm_Z l G Y_Mo_work K M0 bc bs 111 [some (.inr (some a0)), some (.inl y1), some (.inl y2), some (.inl y3), some (.inl y4), some (.inl y5)] [] M := by
  refine mr_iload dd_Mo_work_111 rfl ?_
  refine mr_bipush 8 dd_Mo_work_113 (by decide) ?_
  refine mr_icmp_ge 189 dd_Mo_work_115 (by decide) (fun hc115 => ?_) (fun hc115 => ?_)
  · have h := h.1 hc115
    refine mr_aload_n dd_Mo_work_189 rfl ?_
    obtain ⟨hk1, h⟩ := h
    refine mr_getr ff_Mo_68 dd_Mo_work_190 rs_8_22 rfl hk1 ?_
    refine mr_iload_n dd_Mo_work_193 rfl ?_
    refine mr_iload_n dd_Mo_work_194 rfl ?_
    refine mr_iload dd_Mo_work_195 rfl ?_
    refine mr_iadd dd_Mo_work_197 ?_
    obtain ⟨a2, ho3, h⟩ := h
    obtain ⟨hk4, h⟩ := h
    obtain ⟨j5, hj6, hm7, hl8, h⟩ := h
    refine mr_iast dd_Mo_work_198 ho3 hk4 hj6 hm7 hl8 ?_
    refine mr_aload_n dd_Mo_work_199 rfl ?_
    refine mr_getr ff_Mo_71 dd_Mo_work_200 rs_8_23 rfl hk1 ?_
    refine mr_iload_n dd_Mo_work_203 rfl ?_
    refine mr_iload_n dd_Mo_work_204 rfl ?_
    refine mr_if_eq 224 dd_Mo_work_205 (by decide) (fun hc205 => ?_) (fun hc205 => ?_)
    · have h := h.1 hc205
      refine mr_iconst 1 dd_Mo_work_224 (by decide) ?_
      refine mr_goto 229 dd_Mo_work_225 (by decide) ?_
      obtain ⟨a9, ho10, h⟩ := h
      obtain ⟨hk11, h⟩ := h
      obtain ⟨j12, hj13, hm14, hl15, h⟩ := h
      refine mr_zast dd_Mo_work_229 ho10 hk11 hj13 hm14 hl15 (Or.inr rfl) ?_
      refine mr_iinc (-1) dd_Mo_work_230 rfl (by decide) (by decide) ?_
      show mm_Z l G Y_Mo_work K M0 bc bs 233 [some (.inr (some a0)), some (.inl (y1 + (-1))), some (.inl y2), some (.inl y3), some (.inl y4), some (.inl y5)] [] (mm_si (mm_si M a2 j5 (y2 + y4)) a9 j12 1)
      refine mr_goto 3 dd_Mo_work_233 (by decide) ?_
      exact mm_fg (mm_leq (mm_le_s (mm_le_s (mm_le_n (mm_le_n (mm_le_n (mm_le_n mm_le_e))))))) h
    · have h := h.2 hc205
      refine mr_aload_n dd_Mo_work_208 rfl ?_
      refine mr_iload_n dd_Mo_work_209 rfl ?_
      refine mr_callV0 (Yc := Y_Mo_lives) (M := (mm_si M a2 j5 (y2 + y4))) (st := [.inl y1, .inr (mm_p (mm_si M a2 j5 (y2 + y4)) a0 23)]) (vs := [.inl y1]) (ci := 8) fc_Mo_89 iv_Mo_lives sv_Mo_lives dd_Mo_work_210 ⟨Nat.le_of_ble_eq_true rfl, Nat.le_of_ble_eq_true rfl⟩ (by decide) rfl rfl (Nat.le_of_ble_eq_true rfl) rfl hk1 rfl rfl h (fun r M16 hX17 h => ?_)
      replace h := h hX17
      obtain ⟨x18, rfl, h⟩ := h
      show mm_Z l G Y_Mo_work K M0 bc bs 213 [some (.inr (some a0)), some (.inl y1), some (.inl y2), some (.inl y3), some (.inl y4), some (.inl y5)] [.inl x18, .inl y1, .inr (mm_p (mm_si M a2 j5 (y2 + y4)) a0 23)] M16
      refine mr_if_ne 224 dd_Mo_work_213 (by decide) (fun hc213 => ?_) (fun hc213 => ?_)
      · have h := h.1 hc213
        refine mr_iconst 1 dd_Mo_work_224 (by decide) ?_
        refine mr_goto 229 dd_Mo_work_225 (by decide) ?_
        obtain ⟨a19, ho20, h⟩ := h
        obtain ⟨hk21, h⟩ := h
        obtain ⟨j22, hj23, hm24, hl25, h⟩ := h
        refine mr_zast dd_Mo_work_229 ho20 hk21 hj23 hm24 hl25 (Or.inr rfl) ?_
        refine mr_iinc (-1) dd_Mo_work_230 rfl (by decide) (by decide) ?_
        show mm_Z l G Y_Mo_work K M0 bc bs 233 [some (.inr (some a0)), some (.inl (y1 + (-1))), some (.inl y2), some (.inl y3), some (.inl y4), some (.inl y5)] [] (mm_si M16 a19 j22 1)
        refine mr_goto 3 dd_Mo_work_233 (by decide) ?_
        exact mm_fg (mm_leq (mm_le_s (mm_le_s (mm_le_n (mm_le_n (mm_le_n (mm_le_n mm_le_e))))))) h
      · have h := h.2 hc213
        refine mr_iload_n dd_Mo_work_216 rfl ?_
        refine mr_if_gt 224 dd_Mo_work_217 (by decide) (fun hc217 => ?_) (fun hc217 => ?_)
        · have h := h.1 hc217
          refine mr_iconst 1 dd_Mo_work_224 (by decide) ?_
          refine mr_goto 229 dd_Mo_work_225 (by decide) ?_
          obtain ⟨a26, ho27, h⟩ := h
          obtain ⟨hk28, h⟩ := h
          obtain ⟨j29, hj30, hm31, hl32, h⟩ := h
          refine mr_zast dd_Mo_work_229 ho27 hk28 hj30 hm31 hl32 (Or.inr rfl) ?_
          refine mr_iinc (-1) dd_Mo_work_230 rfl (by decide) (by decide) ?_
          show mm_Z l G Y_Mo_work K M0 bc bs 233 [some (.inr (some a0)), some (.inl (y1 + (-1))), some (.inl y2), some (.inl y3), some (.inl y4), some (.inl y5)] [] (mm_si M16 a26 j29 1)
          refine mr_goto 3 dd_Mo_work_233 (by decide) ?_
          exact mm_fg (mm_leq (mm_le_s (mm_le_s (mm_le_n (mm_le_n (mm_le_n (mm_le_n mm_le_e))))))) h
        · have h := h.2 hc217
          refine mr_iload_n dd_Mo_work_220 rfl ?_
          refine mr_if_eq 228 dd_Mo_work_221 (by decide) (fun hc221 => ?_) (fun hc221 => ?_)
          · have h := h.1 hc221
            refine mr_iconst 0 dd_Mo_work_228 (by decide) ?_
            obtain ⟨a33, ho34, h⟩ := h
            obtain ⟨hk35, h⟩ := h
            obtain ⟨j36, hj37, hm38, hl39, h⟩ := h
            refine mr_zast dd_Mo_work_229 ho34 hk35 hj37 hm38 hl39 (Or.inl rfl) ?_
            refine mr_iinc (-1) dd_Mo_work_230 rfl (by decide) (by decide) ?_
            show mm_Z l G Y_Mo_work K M0 bc bs 233 [some (.inr (some a0)), some (.inl (y1 + (-1))), some (.inl y2), some (.inl y3), some (.inl y4), some (.inl y5)] [] (mm_si M16 a33 j36 0)
            refine mr_goto 3 dd_Mo_work_233 (by decide) ?_
            exact mm_fg (mm_leq (mm_le_s (mm_le_s (mm_le_n (mm_le_n (mm_le_n (mm_le_n mm_le_e))))))) h
          · have h := h.2 hc221
            refine mr_iconst 1 dd_Mo_work_224 (by decide) ?_
            refine mr_goto 229 dd_Mo_work_225 (by decide) ?_
            obtain ⟨a40, ho41, h⟩ := h
            obtain ⟨hk42, h⟩ := h
            obtain ⟨j43, hj44, hm45, hl46, h⟩ := h
            refine mr_zast dd_Mo_work_229 ho41 hk42 hj44 hm45 hl46 (Or.inr rfl) ?_
            refine mr_iinc (-1) dd_Mo_work_230 rfl (by decide) (by decide) ?_
            show mm_Z l G Y_Mo_work K M0 bc bs 233 [some (.inr (some a0)), some (.inl (y1 + (-1))), some (.inl y2), some (.inl y3), some (.inl y4), some (.inl y5)] [] (mm_si M16 a40 j43 1)
            refine mr_goto 3 dd_Mo_work_233 (by decide) ?_
            exact mm_fg (mm_leq (mm_le_s (mm_le_s (mm_le_n (mm_le_n (mm_le_n (mm_le_n mm_le_e))))))) h
  · have h := h.2 hc115
    refine mr_aload_n dd_Mo_work_118 rfl ?_
    obtain ⟨hk47, h⟩ := h
    refine mr_getr ff_Mo_7 dd_Mo_work_119 rs_8_0 rfl hk47 ?_
    refine mr_iload dd_Mo_work_122 rfl ?_
    obtain ⟨a48, ho49, h⟩ := h
    obtain ⟨hk50, h⟩ := h
    obtain ⟨j51, hj52, hm53, hl54, h⟩ := h
    refine mr_iald dd_Mo_work_124 ho49 hk50 hj52 hm53 hl54 ?_
    refine mr_if_le 183 dd_Mo_work_125 (by decide) (fun hc125 => ?_) (fun hc125 => ?_)
    · have h := h.1 hc125
      refine mr_iinc 1 dd_Mo_work_183 rfl (by decide) (by decide) ?_
      show mm_Z l G Y_Mo_work K M0 bc bs 186 [some (.inr (some a0)), some (.inl y1), some (.inl y2), some (.inl y3), some (.inl y4), some (.inl (y5 + 1))] [] M
      refine mr_goto 111 dd_Mo_work_186 (by decide) ?_
      exact h
    · have h := h.2 hc125
      refine mr_aload_n dd_Mo_work_128 rfl ?_
      refine mr_getr ff_Mo_13 dd_Mo_work_129 rs_8_1 rfl hk47 ?_
      refine mr_iload dd_Mo_work_132 rfl ?_
      obtain ⟨a55, ho56, h⟩ := h
      obtain ⟨hk57, h⟩ := h
      obtain ⟨j58, hj59, hm60, hl61, h⟩ := h
      refine mr_iald dd_Mo_work_134 ho56 hk57 hj59 hm60 hl61 ?_
      refine mr_iload_n dd_Mo_work_135 rfl ?_
      refine mr_icmp_ne 183 dd_Mo_work_136 (by decide) (fun hc136 => ?_) (fun hc136 => ?_)
      · have h := h.1 hc136
        refine mr_iinc 1 dd_Mo_work_183 rfl (by decide) (by decide) ?_
        show mm_Z l G Y_Mo_work K M0 bc bs 186 [some (.inr (some a0)), some (.inl y1), some (.inl y2), some (.inl y3), some (.inl y4), some (.inl (y5 + 1))] [] M
        refine mr_goto 111 dd_Mo_work_186 (by decide) ?_
        exact h
      · have h := h.2 hc136
        refine mr_aload_n dd_Mo_work_139 rfl ?_
        refine mr_getr ff_Mo_71 dd_Mo_work_140 rs_8_23 rfl hk47 ?_
        refine mr_iload dd_Mo_work_143 rfl ?_
        obtain ⟨a62, ho63, h⟩ := h
        obtain ⟨hk64, h⟩ := h
        obtain ⟨j65, hj66, hm67, hl68, h⟩ := h
        refine mr_zald dd_Mo_work_145 ho63 hk64 hj66 hm67 hl68 ?_
        refine mr_if_eq 183 dd_Mo_work_146 (by decide) (fun hc146 => ?_) (fun hc146 => ?_)
        · have h := h.1 hc146
          refine mr_iinc 1 dd_Mo_work_183 rfl (by decide) (by decide) ?_
          show mm_Z l G Y_Mo_work K M0 bc bs 186 [some (.inr (some a0)), some (.inl y1), some (.inl y2), some (.inl y3), some (.inl y4), some (.inl (y5 + 1))] [] M
          refine mr_goto 111 dd_Mo_work_186 (by decide) ?_
          exact h
        · have h := h.2 hc146
          refine mr_iconst 1 dd_Mo_work_149 (by decide) ?_
          refine mr_istore_n dd_Mo_work_150 (by decide) ?_
          show mm_Z l G Y_Mo_work K M0 bc bs 151 [some (.inr (some a0)), some (.inl y1), some (.inl y2), some (.inl 1), some (.inl y4), some (.inl y5)] [] M
          refine mr_iload dd_Mo_work_151 rfl ?_
          refine mr_aload_n dd_Mo_work_153 rfl ?_
          refine mr_getr ff_Mo_19 dd_Mo_work_154 rs_8_3 rfl hk47 ?_
          refine mr_iload dd_Mo_work_157 rfl ?_
          obtain ⟨a69, ho70, h⟩ := h
          obtain ⟨hk71, h⟩ := h
          obtain ⟨j72, hj73, hm74, hl75, h⟩ := h
          refine mr_zald dd_Mo_work_159 ho70 hk71 hj73 hm74 hl75 ?_
          refine mr_if_eq 173 dd_Mo_work_160 (by decide) (fun hc160 => ?_) (fun hc160 => ?_)
          · have h := h.1 hc160
            refine mr_aload_n dd_Mo_work_173 rfl ?_
            refine mr_getr ff_Mo_68 dd_Mo_work_174 rs_8_22 rfl hk47 ?_
            refine mr_iload dd_Mo_work_177 rfl ?_
            obtain ⟨a76, ho77, h⟩ := h
            obtain ⟨hk78, h⟩ := h
            obtain ⟨j79, hj80, hm81, hl82, h⟩ := h
            refine mr_iald dd_Mo_work_179 ho77 hk78 hj80 hm81 hl82 ?_
            refine mr_iadd dd_Mo_work_180 ?_
            refine mr_istore dd_Mo_work_181 (by decide) ?_
            show mm_Z l G Y_Mo_work K M0 bc bs 183 [some (.inr (some a0)), some (.inl y1), some (.inl y2), some (.inl 1), some (.inl (y4 + (mm_i M a76 j79))), some (.inl y5)] [] M
            refine mr_iinc 1 dd_Mo_work_183 rfl (by decide) (by decide) ?_
            show mm_Z l G Y_Mo_work K M0 bc bs 186 [some (.inr (some a0)), some (.inl y1), some (.inl y2), some (.inl 1), some (.inl (y4 + (mm_i M a76 j79))), some (.inl (y5 + 1))] [] M
            refine mr_goto 111 dd_Mo_work_186 (by decide) ?_
            exact h
          · have h := h.2 hc160
            refine mr_aload_n dd_Mo_work_163 rfl ?_
            refine mr_getr ff_Mo_16 dd_Mo_work_164 rs_8_2 rfl hk47 ?_
            refine mr_iload dd_Mo_work_167 rfl ?_
            obtain ⟨a83, ho84, h⟩ := h
            obtain ⟨hk85, h⟩ := h
            obtain ⟨j86, hj87, hm88, hl89, h⟩ := h
            refine mr_iald dd_Mo_work_169 ho84 hk85 hj87 hm88 hl89 ?_
            refine mr_goto 180 dd_Mo_work_170 (by decide) ?_
            refine mr_iadd dd_Mo_work_180 ?_
            refine mr_istore dd_Mo_work_181 (by decide) ?_
            show mm_Z l G Y_Mo_work K M0 bc bs 183 [some (.inr (some a0)), some (.inl y1), some (.inl y2), some (.inl 1), some (.inl (y4 + (mm_i M a83 j86))), some (.inl y5)] [] M
            refine mr_iinc 1 dd_Mo_work_183 rfl (by decide) (by decide) ?_
            show mm_Z l G Y_Mo_work K M0 bc bs 186 [some (.inr (some a0)), some (.inl y1), some (.inl y2), some (.inl 1), some (.inl (y4 + (mm_i M a83 j86))), some (.inl (y5 + 1))] [] M
            refine mr_goto 111 dd_Mo_work_186 (by decide) ?_
            exact h
set_option maxHeartbeats 4000000 in
set_option maxRecDepth 100000 in
theorem sg_Mo_rest {l : Launch} {G : mm_G} {K : Option mm_V → mm_M → Prop} {M : mm_M} {a0 : Nat} {xa : Int32}
    (h : mm_k M a0 = 9 ∧ mm_Ok l G yy_Mo_work Y_Mo_work [.inr (some a0)] M (fun r M1 => mm_X M M1 → r = none ∧ ∃ a4 : Nat, (mm_p M1 a0 2) = some a4 ∧ mm_k M1 a4 = 100 ∧ ∃ j7 : Nat, xa = nI j7 ∧ j7 < 2147483648 ∧ j7 < mm_l M1 a4 ∧ ∃ a11 : Nat, (mm_p M1 a0 22) = some a11 ∧ mm_k M1 a11 = 100 ∧ ∃ j14 : Nat, xa = nI j14 ∧ j14 < 2147483648 ∧ j14 < mm_l M1 a11 ∧ mm_Z l G Y_Mo_rest K M 0 0 23 [some (.inr (some a0)), some (.inl xa), some (.inl ((mm_i M1 a4 j7) - (mm_i M1 a11 j14))), some (.inl xa), some (.inl 0)] [] M1)) :
    mm_Ok l G yy_Mo_rest Y_Mo_rest [.inr (some a0), .inl xa] M K := by
  refine mm_go (by decide) rfl (fun q => by cases q) (Nat.le_of_ble_eq_true rfl) ?_
  show mm_Z l G Y_Mo_rest K M 0 0 0 [some (.inr (some a0)), some (.inl xa), none, none, none] [] M
  refine mr_aload_n dd_Mo_rest_0 rfl ?_
  obtain ⟨hk3, h⟩ := h
  refine mr_callV0 (Yc := Y_Mo_work) (M := M) (st := []) (vs := []) (ci := 8) fc_Mo_92 iv_Mo_work sv_Mo_work dd_Mo_rest_1 ⟨Nat.le_of_ble_eq_true rfl, Nat.le_of_ble_eq_true rfl⟩ (by decide) rfl rfl (Nat.le_of_ble_eq_true rfl) rfl hk3 rfl rfl h (fun r M1 hX2 h => ?_)
  replace h := h hX2
  obtain ⟨rfl, h⟩ := h
  show mm_Z l G Y_Mo_rest K M 0 0 4 [some (.inr (some a0)), some (.inl xa), none, none, none] [] M1
  refine mr_aload_n dd_Mo_rest_4 rfl ?_
  refine mr_getr ff_Mo_16 dd_Mo_rest_5 rs_8_2 rfl (mm_Xk hX2 hk3 (by decide)) ?_
  refine mr_iload_n dd_Mo_rest_8 rfl ?_
  obtain ⟨a4, ho5, h⟩ := h
  obtain ⟨hk6, h⟩ := h
  obtain ⟨j7, hj8, hm9, hl10, h⟩ := h
  refine mr_iald dd_Mo_rest_9 ho5 hk6 hj8 hm9 hl10 ?_
  refine mr_aload_n dd_Mo_rest_10 rfl ?_
  refine mr_getr ff_Mo_68 dd_Mo_rest_11 rs_8_22 rfl (mm_Xk hX2 hk3 (by decide)) ?_
  refine mr_iload_n dd_Mo_rest_14 rfl ?_
  obtain ⟨a11, ho12, h⟩ := h
  obtain ⟨hk13, h⟩ := h
  obtain ⟨j14, hj15, hm16, hl17, h⟩ := h
  refine mr_iald dd_Mo_rest_15 ho12 hk13 hj15 hm16 hl17 ?_
  refine mr_isub dd_Mo_rest_16 ?_
  refine mr_istore_n dd_Mo_rest_17 (by decide) ?_
  show mm_Z l G Y_Mo_rest K M 0 0 18 [some (.inr (some a0)), some (.inl xa), some (.inl ((mm_i M1 a4 j7) - (mm_i M1 a11 j14))), none, none] [] M1
  refine mr_iload_n dd_Mo_rest_18 rfl ?_
  refine mr_istore_n dd_Mo_rest_19 (by decide) ?_
  show mm_Z l G Y_Mo_rest K M 0 0 20 [some (.inr (some a0)), some (.inl xa), some (.inl ((mm_i M1 a4 j7) - (mm_i M1 a11 j14))), some (.inl xa), none] [] M1
  refine mr_iconst 0 dd_Mo_rest_20 (by decide) ?_
  refine mr_istore dd_Mo_rest_21 (by decide) ?_
  show mm_Z l G Y_Mo_rest K M 0 0 23 [some (.inr (some a0)), some (.inl xa), some (.inl ((mm_i M1 a4 j7) - (mm_i M1 a11 j14))), some (.inl xa), some (.inl 0)] [] M1
  exact h
set_option maxHeartbeats 4000000 in
set_option maxRecDepth 100000 in
theorem sg_Mo_rest_23 {l : Launch} {G : mm_G} {K : Option mm_V → mm_M → Prop} {M0 M : mm_M} {bc bs : Nat} {a0 : Nat} {y1 : Int32} {y2 : Int32} {y3 : Int32} {y4 : Int32}
    (h : (8 ≤ y4 → K (some (.inl y2)) M) ∧ (¬ 8 ≤ y4 → (y3 = 0 → K (some (.inl y2)) M) ∧ (¬ y3 = 0 → mm_k M a0 = 9 ∧ ∃ a2 : Nat, (mm_p M a0 3) = some a2 ∧ mm_k M a2 = 101 ∧ ∃ j5 : Nat, y3 = nI j5 ∧ j5 < 2147483648 ∧ j5 < mm_l M a2 ∧ (¬ (mm_i M a2 j5) = 0 → K (some (.inl y2)) M) ∧ ((mm_i M a2 j5) = 0 → ∃ a9 : Nat, (mm_p M a0 1) = some a9 ∧ mm_k M a9 = 100 ∧ ∃ j12 : Nat, y3 = nI j12 ∧ j12 < 2147483648 ∧ j12 < mm_l M a9 ∧ ∃ a16 : Nat, (mm_p M a0 2) = some a16 ∧ mm_k M a16 = 100 ∧ ∃ j19 : Nat, (mm_i M a9 j12) = nI j19 ∧ j19 < 2147483648 ∧ j19 < mm_l M a16 ∧ ∃ a23 : Nat, (mm_p M a0 22) = some a23 ∧ mm_k M a23 = 100 ∧ ∃ j26 : Nat, (mm_i M a9 j12) = nI j26 ∧ j26 < 2147483648 ∧ j26 < mm_l M a23 ∧ (y2 ≤ ((mm_i M a16 j19) - (mm_i M a23 j26)) → mm_Z l G Y_Mo_rest K M0 bc bs 23 [some (.inr (some a0)), some (.inl y1), some (.inl y2), some (.inl (mm_i M a9 j12)), some (.inl (y4 + 1))] [] M) ∧ (¬ y2 ≤ ((mm_i M a16 j19) - (mm_i M a23 j26)) → ∃ j30 : Nat, (mm_i M a9 j12) = nI j30 ∧ j30 < 2147483648 ∧ j30 < mm_l M a16 ∧ ∃ j34 : Nat, (mm_i M a9 j12) = nI j34 ∧ j34 < 2147483648 ∧ j34 < mm_l M a23 ∧ mm_Z l G Y_Mo_rest K M0 bc bs 23 [some (.inr (some a0)), some (.inl y1), some (.inl ((mm_i M a16 j30) - (mm_i M a23 j34))), some (.inl (mm_i M a9 j12)), some (.inl (y4 + 1))] [] M))))) :
    mm_Z l G Y_Mo_rest K M0 bc bs 23 [some (.inr (some a0)), some (.inl y1), some (.inl y2), some (.inl y3), some (.inl y4)] [] M := by
  refine mr_iload dd_Mo_rest_23 rfl ?_
  refine mr_bipush 8 dd_Mo_rest_25 (by decide) ?_
  refine mr_icmp_ge 91 dd_Mo_rest_27 (by decide) (fun hc27 => ?_) (fun hc27 => ?_)
  · have h := h.1 hc27
    refine mr_iload_n dd_Mo_rest_91 rfl ?_
    exact mr_ireturn dd_Mo_rest_92 rfl h
  · have h := h.2 hc27
    refine mr_iload_n dd_Mo_rest_30 rfl ?_
    refine mr_if_eq 91 dd_Mo_rest_31 (by decide) (fun hc31 => ?_) (fun hc31 => ?_)
    · have h := h.1 hc31
      refine mr_iload_n dd_Mo_rest_91 rfl ?_
      exact mr_ireturn dd_Mo_rest_92 rfl h
    · have h := h.2 hc31
      refine mr_aload_n dd_Mo_rest_34 rfl ?_
      obtain ⟨hk1, h⟩ := h
      refine mr_getr ff_Mo_19 dd_Mo_rest_35 rs_8_3 rfl hk1 ?_
      refine mr_iload_n dd_Mo_rest_38 rfl ?_
      obtain ⟨a2, ho3, h⟩ := h
      obtain ⟨hk4, h⟩ := h
      obtain ⟨j5, hj6, hm7, hl8, h⟩ := h
      refine mr_zald dd_Mo_rest_39 ho3 hk4 hj6 hm7 hl8 ?_
      refine mr_if_ne 91 dd_Mo_rest_40 (by decide) (fun hc40 => ?_) (fun hc40 => ?_)
      · have h := h.1 hc40
        refine mr_iload_n dd_Mo_rest_91 rfl ?_
        exact mr_ireturn dd_Mo_rest_92 rfl h
      · have h := h.2 hc40
        refine mr_aload_n dd_Mo_rest_43 rfl ?_
        refine mr_getr ff_Mo_13 dd_Mo_rest_44 rs_8_1 rfl hk1 ?_
        refine mr_iload_n dd_Mo_rest_47 rfl ?_
        obtain ⟨a9, ho10, h⟩ := h
        obtain ⟨hk11, h⟩ := h
        obtain ⟨j12, hj13, hm14, hl15, h⟩ := h
        refine mr_iald dd_Mo_rest_48 ho10 hk11 hj13 hm14 hl15 ?_
        refine mr_istore_n dd_Mo_rest_49 (by decide) ?_
        show mm_Z l G Y_Mo_rest K M0 bc bs 50 [some (.inr (some a0)), some (.inl y1), some (.inl y2), some (.inl (mm_i M a9 j12)), some (.inl y4)] [] M
        refine mr_aload_n dd_Mo_rest_50 rfl ?_
        refine mr_getr ff_Mo_16 dd_Mo_rest_51 rs_8_2 rfl hk1 ?_
        refine mr_iload_n dd_Mo_rest_54 rfl ?_
        obtain ⟨a16, ho17, h⟩ := h
        obtain ⟨hk18, h⟩ := h
        obtain ⟨j19, hj20, hm21, hl22, h⟩ := h
        refine mr_iald dd_Mo_rest_55 ho17 hk18 hj20 hm21 hl22 ?_
        refine mr_aload_n dd_Mo_rest_56 rfl ?_
        refine mr_getr ff_Mo_68 dd_Mo_rest_57 rs_8_22 rfl hk1 ?_
        refine mr_iload_n dd_Mo_rest_60 rfl ?_
        obtain ⟨a23, ho24, h⟩ := h
        obtain ⟨hk25, h⟩ := h
        obtain ⟨j26, hj27, hm28, hl29, h⟩ := h
        refine mr_iald dd_Mo_rest_61 ho24 hk25 hj27 hm28 hl29 ?_
        refine mr_isub dd_Mo_rest_62 ?_
        refine mr_iload_n dd_Mo_rest_63 rfl ?_
        refine mr_icmp_ge 83 dd_Mo_rest_64 (by decide) (fun hc64 => ?_) (fun hc64 => ?_)
        · have h := h.1 hc64
          refine mr_iload_n dd_Mo_rest_83 rfl ?_
          refine mr_istore_n dd_Mo_rest_84 (by decide) ?_
          show mm_Z l G Y_Mo_rest K M0 bc bs 85 [some (.inr (some a0)), some (.inl y1), some (.inl y2), some (.inl (mm_i M a9 j12)), some (.inl y4)] [] M
          refine mr_iinc 1 dd_Mo_rest_85 rfl (by decide) (by decide) ?_
          show mm_Z l G Y_Mo_rest K M0 bc bs 88 [some (.inr (some a0)), some (.inl y1), some (.inl y2), some (.inl (mm_i M a9 j12)), some (.inl (y4 + 1))] [] M
          refine mr_goto 23 dd_Mo_rest_88 (by decide) ?_
          exact h
        · have h := h.2 hc64
          refine mr_aload_n dd_Mo_rest_67 rfl ?_
          refine mr_getr ff_Mo_16 dd_Mo_rest_68 rs_8_2 rfl hk1 ?_
          refine mr_iload_n dd_Mo_rest_71 rfl ?_
          obtain ⟨j30, hj31, hm32, hl33, h⟩ := h
          refine mr_iald dd_Mo_rest_72 ho17 hk18 hj31 hm32 hl33 ?_
          refine mr_aload_n dd_Mo_rest_73 rfl ?_
          refine mr_getr ff_Mo_68 dd_Mo_rest_74 rs_8_22 rfl hk1 ?_
          refine mr_iload_n dd_Mo_rest_77 rfl ?_
          obtain ⟨j34, hj35, hm36, hl37, h⟩ := h
          refine mr_iald dd_Mo_rest_78 ho24 hk25 hj35 hm36 hl37 ?_
          refine mr_isub dd_Mo_rest_79 ?_
          refine mr_goto 84 dd_Mo_rest_80 (by decide) ?_
          refine mr_istore_n dd_Mo_rest_84 (by decide) ?_
          show mm_Z l G Y_Mo_rest K M0 bc bs 85 [some (.inr (some a0)), some (.inl y1), some (.inl ((mm_i M a16 j30) - (mm_i M a23 j34))), some (.inl (mm_i M a9 j12)), some (.inl y4)] [] M
          refine mr_iinc 1 dd_Mo_rest_85 rfl (by decide) (by decide) ?_
          show mm_Z l G Y_Mo_rest K M0 bc bs 88 [some (.inr (some a0)), some (.inl y1), some (.inl ((mm_i M a16 j30) - (mm_i M a23 j34))), some (.inl (mm_i M a9 j12)), some (.inl (y4 + 1))] [] M
          refine mr_goto 23 dd_Mo_rest_88 (by decide) ?_
          exact h
set_option maxHeartbeats 4000000 in
set_option maxRecDepth 100000 in
theorem sg_Mo_free {l : Launch} {G : mm_G} {K : Option mm_V → mm_M → Prop} {M : mm_M} {a0 : Nat} {xa : Int32}
    (h : mm_k M a0 = 9 ∧ ∃ a2 : Nat, (mm_p M a0 9) = some a2 ∧ mm_k M a2 = 100 ∧ ∃ j5 : Nat, xa = nI j5 ∧ j5 < 2147483648 ∧ j5 < mm_l M a2 ∧ ∃ a9 : Nat, (mm_p M a0 6) = some a9 ∧ mm_k M a9 = 100 ∧ ∃ j12 : Nat, xa = nI j12 ∧ j12 < 2147483648 ∧ j12 < mm_l M a9 ∧ mm_Z l G Y_Mo_free K M 0 0 19 [some (.inr (some a0)), some (.inl xa), some (.inl (mm_i M a2 j5)), some (.inl 1), some (.inl 0)] [] (mm_si M a9 j12 0)) :
    mm_Ok l G yy_Mo_free Y_Mo_free [.inr (some a0), .inl xa] M K := by
  refine mm_go (by decide) rfl (fun q => by cases q) (Nat.le_of_ble_eq_true rfl) ?_
  show mm_Z l G Y_Mo_free K M 0 0 0 [some (.inr (some a0)), some (.inl xa), none, none, none] [] M
  refine mr_aload_n dd_Mo_free_0 rfl ?_
  obtain ⟨hk1, h⟩ := h
  refine mr_getr ff_Mo_35 dd_Mo_free_1 rs_8_9 rfl hk1 ?_
  refine mr_iload_n dd_Mo_free_4 rfl ?_
  obtain ⟨a2, ho3, h⟩ := h
  obtain ⟨hk4, h⟩ := h
  obtain ⟨j5, hj6, hm7, hl8, h⟩ := h
  refine mr_iald dd_Mo_free_5 ho3 hk4 hj6 hm7 hl8 ?_
  refine mr_istore_n dd_Mo_free_6 (by decide) ?_
  show mm_Z l G Y_Mo_free K M 0 0 7 [some (.inr (some a0)), some (.inl xa), some (.inl (mm_i M a2 j5)), none, none] [] M
  refine mr_aload_n dd_Mo_free_7 rfl ?_
  refine mr_getr ff_Mo_26 dd_Mo_free_8 rs_8_6 rfl hk1 ?_
  refine mr_iload_n dd_Mo_free_11 rfl ?_
  refine mr_iconst 0 dd_Mo_free_12 (by decide) ?_
  obtain ⟨a9, ho10, h⟩ := h
  obtain ⟨hk11, h⟩ := h
  obtain ⟨j12, hj13, hm14, hl15, h⟩ := h
  refine mr_iast dd_Mo_free_13 ho10 hk11 hj13 hm14 hl15 ?_
  refine mr_iconst 1 dd_Mo_free_14 (by decide) ?_
  refine mr_istore_n dd_Mo_free_15 (by decide) ?_
  show mm_Z l G Y_Mo_free K M 0 0 16 [some (.inr (some a0)), some (.inl xa), some (.inl (mm_i M a2 j5)), some (.inl 1), none] [] (mm_si M a9 j12 0)
  refine mr_iconst 0 dd_Mo_free_16 (by decide) ?_
  refine mr_istore dd_Mo_free_17 (by decide) ?_
  show mm_Z l G Y_Mo_free K M 0 0 19 [some (.inr (some a0)), some (.inl xa), some (.inl (mm_i M a2 j5)), some (.inl 1), some (.inl 0)] [] (mm_si M a9 j12 0)
  exact h
set_option maxHeartbeats 4000000 in
set_option maxRecDepth 100000 in
theorem sg_Mo_free_19 {l : Launch} {G : mm_G} {K : Option mm_V → mm_M → Prop} {M0 M : mm_M} {bc bs : Nat} {a0 : Nat} {y1 : Int32} {y2 : Int32} {y3 : Int32} {y4 : Int32}
    (h : (60 ≤ y4 → (y3 = 0 → mm_Z l G Y_Mo_free K M0 bc bs 77 [some (.inr (some a0)), some (.inl y1), some (.inl y2), some (.inl y3), some (.inl 0)] [] M) ∧ (¬ y3 = 0 → mm_k M a0 = 9 ∧ ∃ a2 : Nat, (mm_p M a0 11) = some a2 ∧ mm_k M a2 = 100 ∧ ∃ j5 : Nat, y2 = nI j5 ∧ j5 < 2147483648 ∧ j5 < mm_l M a2 ∧ mm_Z l G Y_Mo_free K M0 bc bs 77 [some (.inr (some a0)), some (.inl y1), some (.inl y2), some (.inl y3), some (.inl 0)] [] (mm_si M a2 j5 0))) ∧ (¬ 60 ≤ y4 → (y3 = 0 → mm_Z l G Y_Mo_free K M0 bc bs 19 [some (.inr (some a0)), some (.inl y1), some (.inl y2), some (.inl 0), some (.inl (y4 + 1))] [] M) ∧ (¬ y3 = 0 → mm_k M a0 = 9 ∧ ∃ a10 : Nat, (mm_p M a0 6) = some a10 ∧ mm_k M a10 = 100 ∧ ∃ j13 : Nat, y4 = nI j13 ∧ j13 < 2147483648 ∧ j13 < mm_l M a10 ∧ ((mm_i M a10 j13) ≤ 0 → mm_Z l G Y_Mo_free K M0 bc bs 19 [some (.inr (some a0)), some (.inl y1), some (.inl y2), some (.inl 1), some (.inl (y4 + 1))] [] M) ∧ (¬ (mm_i M a10 j13) ≤ 0 → ∃ a17 : Nat, (mm_p M a0 9) = some a17 ∧ mm_k M a17 = 100 ∧ ∃ j20 : Nat, y4 = nI j20 ∧ j20 < 2147483648 ∧ j20 < mm_l M a17 ∧ ((mm_i M a17 j20) = y2 → mm_Z l G Y_Mo_free K M0 bc bs 19 [some (.inr (some a0)), some (.inl y1), some (.inl y2), some (.inl 0), some (.inl (y4 + 1))] [] M) ∧ (¬ (mm_i M a17 j20) = y2 → mm_Z l G Y_Mo_free K M0 bc bs 19 [some (.inr (some a0)), some (.inl y1), some (.inl y2), some (.inl 1), some (.inl (y4 + 1))] [] M))))) :
    mm_Z l G Y_Mo_free K M0 bc bs 19 [some (.inr (some a0)), some (.inl y1), some (.inl y2), some (.inl y3), some (.inl y4)] [] M := by
  refine mr_iload dd_Mo_free_19 rfl ?_
  refine mr_bipush 60 dd_Mo_free_21 (by decide) ?_
  refine mr_icmp_ge 63 dd_Mo_free_23 (by decide) (fun hc23 => ?_) (fun hc23 => ?_)
  · have h := h.1 hc23
    refine mr_iload_n dd_Mo_free_63 rfl ?_
    refine mr_if_eq 74 dd_Mo_free_64 (by decide) (fun hc64 => ?_) (fun hc64 => ?_)
    · have h := h.1 hc64
      refine mr_iconst 0 dd_Mo_free_74 (by decide) ?_
      refine mr_istore dd_Mo_free_75 (by decide) ?_
      show mm_Z l G Y_Mo_free K M0 bc bs 77 [some (.inr (some a0)), some (.inl y1), some (.inl y2), some (.inl y3), some (.inl 0)] [] M
      exact h
    · have h := h.2 hc64
      refine mr_aload_n dd_Mo_free_67 rfl ?_
      obtain ⟨hk1, h⟩ := h
      refine mr_getr ff_Mo_41 dd_Mo_free_68 rs_8_11 rfl hk1 ?_
      refine mr_iload_n dd_Mo_free_71 rfl ?_
      refine mr_iconst 0 dd_Mo_free_72 (by decide) ?_
      obtain ⟨a2, ho3, h⟩ := h
      obtain ⟨hk4, h⟩ := h
      obtain ⟨j5, hj6, hm7, hl8, h⟩ := h
      refine mr_iast dd_Mo_free_73 ho3 hk4 hj6 hm7 hl8 ?_
      refine mr_iconst 0 dd_Mo_free_74 (by decide) ?_
      refine mr_istore dd_Mo_free_75 (by decide) ?_
      show mm_Z l G Y_Mo_free K M0 bc bs 77 [some (.inr (some a0)), some (.inl y1), some (.inl y2), some (.inl y3), some (.inl 0)] [] (mm_si M a2 j5 0)
      exact h
  · have h := h.2 hc23
    refine mr_iload_n dd_Mo_free_26 rfl ?_
    refine mr_if_eq 55 dd_Mo_free_27 (by decide) (fun hc27 => ?_) (fun hc27 => ?_)
    · have h := h.1 hc27
      refine mr_iconst 0 dd_Mo_free_55 (by decide) ?_
      refine mr_istore_n dd_Mo_free_56 (by decide) ?_
      show mm_Z l G Y_Mo_free K M0 bc bs 57 [some (.inr (some a0)), some (.inl y1), some (.inl y2), some (.inl 0), some (.inl y4)] [] M
      refine mr_iinc 1 dd_Mo_free_57 rfl (by decide) (by decide) ?_
      show mm_Z l G Y_Mo_free K M0 bc bs 60 [some (.inr (some a0)), some (.inl y1), some (.inl y2), some (.inl 0), some (.inl (y4 + 1))] [] M
      refine mr_goto 19 dd_Mo_free_60 (by decide) ?_
      exact h
    · have h := h.2 hc27
      refine mr_aload_n dd_Mo_free_30 rfl ?_
      obtain ⟨hk9, h⟩ := h
      refine mr_getr ff_Mo_26 dd_Mo_free_31 rs_8_6 rfl hk9 ?_
      refine mr_iload dd_Mo_free_34 rfl ?_
      obtain ⟨a10, ho11, h⟩ := h
      obtain ⟨hk12, h⟩ := h
      obtain ⟨j13, hj14, hm15, hl16, h⟩ := h
      refine mr_iald dd_Mo_free_36 ho11 hk12 hj14 hm15 hl16 ?_
      refine mr_if_le 51 dd_Mo_free_37 (by decide) (fun hc37 => ?_) (fun hc37 => ?_)
      · have h := h.1 hc37
        refine mr_iconst 1 dd_Mo_free_51 (by decide) ?_
        refine mr_goto 56 dd_Mo_free_52 (by decide) ?_
        refine mr_istore_n dd_Mo_free_56 (by decide) ?_
        show mm_Z l G Y_Mo_free K M0 bc bs 57 [some (.inr (some a0)), some (.inl y1), some (.inl y2), some (.inl 1), some (.inl y4)] [] M
        refine mr_iinc 1 dd_Mo_free_57 rfl (by decide) (by decide) ?_
        show mm_Z l G Y_Mo_free K M0 bc bs 60 [some (.inr (some a0)), some (.inl y1), some (.inl y2), some (.inl 1), some (.inl (y4 + 1))] [] M
        refine mr_goto 19 dd_Mo_free_60 (by decide) ?_
        exact h
      · have h := h.2 hc37
        refine mr_aload_n dd_Mo_free_40 rfl ?_
        refine mr_getr ff_Mo_35 dd_Mo_free_41 rs_8_9 rfl hk9 ?_
        refine mr_iload dd_Mo_free_44 rfl ?_
        obtain ⟨a17, ho18, h⟩ := h
        obtain ⟨hk19, h⟩ := h
        obtain ⟨j20, hj21, hm22, hl23, h⟩ := h
        refine mr_iald dd_Mo_free_46 ho18 hk19 hj21 hm22 hl23 ?_
        refine mr_iload_n dd_Mo_free_47 rfl ?_
        refine mr_icmp_eq 55 dd_Mo_free_48 (by decide) (fun hc48 => ?_) (fun hc48 => ?_)
        · have h := h.1 hc48
          refine mr_iconst 0 dd_Mo_free_55 (by decide) ?_
          refine mr_istore_n dd_Mo_free_56 (by decide) ?_
          show mm_Z l G Y_Mo_free K M0 bc bs 57 [some (.inr (some a0)), some (.inl y1), some (.inl y2), some (.inl 0), some (.inl y4)] [] M
          refine mr_iinc 1 dd_Mo_free_57 rfl (by decide) (by decide) ?_
          show mm_Z l G Y_Mo_free K M0 bc bs 60 [some (.inr (some a0)), some (.inl y1), some (.inl y2), some (.inl 0), some (.inl (y4 + 1))] [] M
          refine mr_goto 19 dd_Mo_free_60 (by decide) ?_
          exact h
        · have h := h.2 hc48
          refine mr_iconst 1 dd_Mo_free_51 (by decide) ?_
          refine mr_goto 56 dd_Mo_free_52 (by decide) ?_
          refine mr_istore_n dd_Mo_free_56 (by decide) ?_
          show mm_Z l G Y_Mo_free K M0 bc bs 57 [some (.inr (some a0)), some (.inl y1), some (.inl y2), some (.inl 1), some (.inl y4)] [] M
          refine mr_iinc 1 dd_Mo_free_57 rfl (by decide) (by decide) ?_
          show mm_Z l G Y_Mo_free K M0 bc bs 60 [some (.inr (some a0)), some (.inl y1), some (.inl y2), some (.inl 1), some (.inl (y4 + 1))] [] M
          refine mr_goto 19 dd_Mo_free_60 (by decide) ?_
          exact h
set_option maxHeartbeats 4000000 in
set_option maxRecDepth 100000 in
theorem sg_Mo_free_77 {l : Launch} {G : mm_G} {K : Option mm_V → mm_M → Prop} {M0 M : mm_M} {bc bs : Nat} {a0 : Nat} {y1 : Int32} {y2 : Int32} {y3 : Int32} {y4 : Int32}
    (h : (13 ≤ y4 → K none M) ∧ (¬ 13 ≤ y4 → mm_k M a0 = 9 ∧ ∃ a2 : Nat, (mm_p M a0 21) = some a2 ∧ mm_k M a2 = 101 ∧ ∃ j5 : Nat, ((60 * y4) + y1) = nI j5 ∧ j5 < 2147483648 ∧ j5 < mm_l M a2 ∧ mm_Z l G Y_Mo_free K M0 bc bs 77 [some (.inr (some a0)), some (.inl y1), some (.inl y2), some (.inl y3), some (.inl (y4 + 1))] [] (mm_si M a2 j5 0))) :
    mm_Z l G Y_Mo_free K M0 bc bs 77 [some (.inr (some a0)), some (.inl y1), some (.inl y2), some (.inl y3), some (.inl y4)] [] M := by
  refine mr_iload dd_Mo_free_77 rfl ?_
  refine mr_bipush 13 dd_Mo_free_79 (by decide) ?_
  refine mr_icmp_ge 103 dd_Mo_free_81 (by decide) (fun hc81 => ?_) (fun hc81 => ?_)
  · have h := h.1 hc81
    exact mr_return dd_Mo_free_103 rfl h
  · have h := h.2 hc81
    refine mr_aload_n dd_Mo_free_84 rfl ?_
    obtain ⟨hk1, h⟩ := h
    refine mr_getr ff_Mo_65 dd_Mo_free_85 rs_8_21 rfl hk1 ?_
    refine mr_bipush 60 dd_Mo_free_88 (by decide) ?_
    refine mr_iload dd_Mo_free_90 rfl ?_
    refine mr_imul dd_Mo_free_92 ?_
    refine mr_iload_n dd_Mo_free_93 rfl ?_
    refine mr_iadd dd_Mo_free_94 ?_
    refine mr_iconst 0 dd_Mo_free_95 (by decide) ?_
    obtain ⟨a2, ho3, h⟩ := h
    obtain ⟨hk4, h⟩ := h
    obtain ⟨j5, hj6, hm7, hl8, h⟩ := h
    refine mr_zast dd_Mo_free_96 ho3 hk4 hj6 hm7 hl8 (Or.inl rfl) ?_
    refine mr_iinc 1 dd_Mo_free_97 rfl (by decide) (by decide) ?_
    show mm_Z l G Y_Mo_free K M0 bc bs 100 [some (.inr (some a0)), some (.inl y1), some (.inl y2), some (.inl y3), some (.inl (y4 + 1))] [] (mm_si M a2 j5 0)
    refine mr_goto 77 dd_Mo_free_100 (by decide) ?_
    exact h
set_option maxHeartbeats 4000000 in
set_option maxRecDepth 100000 in
theorem sg_Mo_names {l : Launch} {G : mm_G} {K : Option mm_V → mm_M → Prop} {M : mm_M} {a0 : Nat} {xa : Int32} {xb : Int32}
    (h : mm_Z l G Y_Mo_names K M 0 0 5 [some (.inr (some a0)), some (.inl xa), some (.inl xb), some (.inl 0), some (.inl 0)] [] M) :
    mm_Ok l G yy_Mo_names Y_Mo_names [.inr (some a0), .inl xa, .inl xb] M K := by
  refine mm_go (by decide) rfl (fun q => by cases q) (Nat.le_of_ble_eq_true rfl) ?_
  show mm_Z l G Y_Mo_names K M 0 0 0 [some (.inr (some a0)), some (.inl xa), some (.inl xb), none, none] [] M
  refine mr_iconst 0 dd_Mo_names_0 (by decide) ?_
  refine mr_istore_n dd_Mo_names_1 (by decide) ?_
  show mm_Z l G Y_Mo_names K M 0 0 2 [some (.inr (some a0)), some (.inl xa), some (.inl xb), some (.inl 0), none] [] M
  refine mr_iconst 0 dd_Mo_names_2 (by decide) ?_
  refine mr_istore dd_Mo_names_3 (by decide) ?_
  show mm_Z l G Y_Mo_names K M 0 0 5 [some (.inr (some a0)), some (.inl xa), some (.inl xb), some (.inl 0), some (.inl 0)] [] M
  exact h
set_option maxHeartbeats 4000000 in
set_option maxRecDepth 100000 in
theorem sg_Mo_names_5 {l : Launch} {G : mm_G} {K : Option mm_V → mm_M → Prop} {M0 M : mm_M} {bc bs : Nat} {a0 : Nat} {y1 : Int32} {y2 : Int32} {y3 : Int32} {y4 : Int32}
    (h : (60 ≤ y4 → (y3 = 0 ∨ y3 = 1) ∧ K (some (.inl y3)) M) ∧ (¬ 60 ≤ y4 → (¬ y3 = 0 → mm_Z l G Y_Mo_names K M0 bc bs 5 [some (.inr (some a0)), some (.inl y1), some (.inl y2), some (.inl 1), some (.inl (y4 + 1))] [] M) ∧ (y3 = 0 → mm_k M a0 = 9 ∧ ∃ a2 : Nat, (mm_p M a0 21) = some a2 ∧ mm_k M a2 = 101 ∧ ∃ j5 : Nat, ((60 * y1) + y4) = nI j5 ∧ j5 < 2147483648 ∧ j5 < mm_l M a2 ∧ ((mm_i M a2 j5) = 0 → mm_Z l G Y_Mo_names K M0 bc bs 5 [some (.inr (some a0)), some (.inl y1), some (.inl y2), some (.inl 0), some (.inl (y4 + 1))] [] M) ∧ (¬ (mm_i M a2 j5) = 0 → ∃ a9 : Nat, (mm_p M a0 6) = some a9 ∧ mm_k M a9 = 100 ∧ ∃ j12 : Nat, y4 = nI j12 ∧ j12 < 2147483648 ∧ j12 < mm_l M a9 ∧ (¬ (mm_i M a9 j12) = (y2 + 1) → mm_Z l G Y_Mo_names K M0 bc bs 5 [some (.inr (some a0)), some (.inl y1), some (.inl y2), some (.inl 0), some (.inl (y4 + 1))] [] M) ∧ ((mm_i M a9 j12) = (y2 + 1) → mm_Z l G Y_Mo_names K M0 bc bs 5 [some (.inr (some a0)), some (.inl y1), some (.inl y2), some (.inl 1), some (.inl (y4 + 1))] [] M))))) :
    mm_Z l G Y_Mo_names K M0 bc bs 5 [some (.inr (some a0)), some (.inl y1), some (.inl y2), some (.inl y3), some (.inl y4)] [] M := by
  refine mr_iload dd_Mo_names_5 rfl ?_
  refine mr_bipush 60 dd_Mo_names_7 (by decide) ?_
  refine mr_icmp_ge 56 dd_Mo_names_9 (by decide) (fun hc9 => ?_) (fun hc9 => ?_)
  · have h := h.1 hc9
    refine mr_iload_n dd_Mo_names_56 rfl ?_
    exact mr_zreturn dd_Mo_names_57 rfl h.1 h.2
  · have h := h.2 hc9
    refine mr_iload_n dd_Mo_names_12 rfl ?_
    refine mr_if_ne 44 dd_Mo_names_13 (by decide) (fun hc13 => ?_) (fun hc13 => ?_)
    · have h := h.1 hc13
      refine mr_iconst 1 dd_Mo_names_44 (by decide) ?_
      refine mr_goto 49 dd_Mo_names_45 (by decide) ?_
      refine mr_istore_n dd_Mo_names_49 (by decide) ?_
      show mm_Z l G Y_Mo_names K M0 bc bs 50 [some (.inr (some a0)), some (.inl y1), some (.inl y2), some (.inl 1), some (.inl y4)] [] M
      refine mr_iinc 1 dd_Mo_names_50 rfl (by decide) (by decide) ?_
      show mm_Z l G Y_Mo_names K M0 bc bs 53 [some (.inr (some a0)), some (.inl y1), some (.inl y2), some (.inl 1), some (.inl (y4 + 1))] [] M
      refine mr_goto 5 dd_Mo_names_53 (by decide) ?_
      exact h
    · have h := h.2 hc13
      refine mr_aload_n dd_Mo_names_16 rfl ?_
      obtain ⟨hk1, h⟩ := h
      refine mr_getr ff_Mo_65 dd_Mo_names_17 rs_8_21 rfl hk1 ?_
      refine mr_bipush 60 dd_Mo_names_20 (by decide) ?_
      refine mr_iload_n dd_Mo_names_22 rfl ?_
      refine mr_imul dd_Mo_names_23 ?_
      refine mr_iload dd_Mo_names_24 rfl ?_
      refine mr_iadd dd_Mo_names_26 ?_
      obtain ⟨a2, ho3, h⟩ := h
      obtain ⟨hk4, h⟩ := h
      obtain ⟨j5, hj6, hm7, hl8, h⟩ := h
      refine mr_zald dd_Mo_names_27 ho3 hk4 hj6 hm7 hl8 ?_
      refine mr_if_eq 48 dd_Mo_names_28 (by decide) (fun hc28 => ?_) (fun hc28 => ?_)
      · have h := h.1 hc28
        refine mr_iconst 0 dd_Mo_names_48 (by decide) ?_
        refine mr_istore_n dd_Mo_names_49 (by decide) ?_
        show mm_Z l G Y_Mo_names K M0 bc bs 50 [some (.inr (some a0)), some (.inl y1), some (.inl y2), some (.inl 0), some (.inl y4)] [] M
        refine mr_iinc 1 dd_Mo_names_50 rfl (by decide) (by decide) ?_
        show mm_Z l G Y_Mo_names K M0 bc bs 53 [some (.inr (some a0)), some (.inl y1), some (.inl y2), some (.inl 0), some (.inl (y4 + 1))] [] M
        refine mr_goto 5 dd_Mo_names_53 (by decide) ?_
        exact h
      · have h := h.2 hc28
        refine mr_aload_n dd_Mo_names_31 rfl ?_
        refine mr_getr ff_Mo_26 dd_Mo_names_32 rs_8_6 rfl hk1 ?_
        refine mr_iload dd_Mo_names_35 rfl ?_
        obtain ⟨a9, ho10, h⟩ := h
        obtain ⟨hk11, h⟩ := h
        obtain ⟨j12, hj13, hm14, hl15, h⟩ := h
        refine mr_iald dd_Mo_names_37 ho10 hk11 hj13 hm14 hl15 ?_
        refine mr_iload_n dd_Mo_names_38 rfl ?_
        refine mr_iconst 1 dd_Mo_names_39 (by decide) ?_
        refine mr_iadd dd_Mo_names_40 ?_
        refine mr_icmp_ne 48 dd_Mo_names_41 (by decide) (fun hc41 => ?_) (fun hc41 => ?_)
        · have h := h.1 hc41
          refine mr_iconst 0 dd_Mo_names_48 (by decide) ?_
          refine mr_istore_n dd_Mo_names_49 (by decide) ?_
          show mm_Z l G Y_Mo_names K M0 bc bs 50 [some (.inr (some a0)), some (.inl y1), some (.inl y2), some (.inl 0), some (.inl y4)] [] M
          refine mr_iinc 1 dd_Mo_names_50 rfl (by decide) (by decide) ?_
          show mm_Z l G Y_Mo_names K M0 bc bs 53 [some (.inr (some a0)), some (.inl y1), some (.inl y2), some (.inl 0), some (.inl (y4 + 1))] [] M
          refine mr_goto 5 dd_Mo_names_53 (by decide) ?_
          exact h
        · have h := h.2 hc41
          refine mr_iconst 1 dd_Mo_names_44 (by decide) ?_
          refine mr_goto 49 dd_Mo_names_45 (by decide) ?_
          refine mr_istore_n dd_Mo_names_49 (by decide) ?_
          show mm_Z l G Y_Mo_names K M0 bc bs 50 [some (.inr (some a0)), some (.inl y1), some (.inl y2), some (.inl 1), some (.inl y4)] [] M
          refine mr_iinc 1 dd_Mo_names_50 rfl (by decide) (by decide) ?_
          show mm_Z l G Y_Mo_names K M0 bc bs 53 [some (.inr (some a0)), some (.inl y1), some (.inl y2), some (.inl 1), some (.inl (y4 + 1))] [] M
          refine mr_goto 5 dd_Mo_names_53 (by decide) ?_
          exact h
set_option maxHeartbeats 4000000 in
set_option maxRecDepth 100000 in
theorem sg_Mo_holds {l : Launch} {G : mm_G} {K : Option mm_V → mm_M → Prop} {M : mm_M} {a0 : Nat} {xa : Int32} {xb : Int32}
    (h : mm_Z l G Y_Mo_holds K M 0 0 5 [some (.inr (some a0)), some (.inl xa), some (.inl xb), some (.inl 0), some (.inl 0), none] [] M) :
    mm_Ok l G yy_Mo_holds Y_Mo_holds [.inr (some a0), .inl xa, .inl xb] M K := by
  refine mm_go (by decide) rfl (fun q => by cases q) (Nat.le_of_ble_eq_true rfl) ?_
  show mm_Z l G Y_Mo_holds K M 0 0 0 [some (.inr (some a0)), some (.inl xa), some (.inl xb), none, none, none] [] M
  refine mr_iconst 0 dd_Mo_holds_0 (by decide) ?_
  refine mr_istore_n dd_Mo_holds_1 (by decide) ?_
  show mm_Z l G Y_Mo_holds K M 0 0 2 [some (.inr (some a0)), some (.inl xa), some (.inl xb), some (.inl 0), none, none] [] M
  refine mr_iconst 0 dd_Mo_holds_2 (by decide) ?_
  refine mr_istore dd_Mo_holds_3 (by decide) ?_
  show mm_Z l G Y_Mo_holds K M 0 0 5 [some (.inr (some a0)), some (.inl xa), some (.inl xb), some (.inl 0), some (.inl 0), none] [] M
  exact h
set_option maxHeartbeats 4000000 in
set_option maxRecDepth 100000 in
theorem sg_Mo_holds_5 {l : Launch} {G : mm_G} {K : Option mm_V → mm_M → Prop} {M0 M : mm_M} {bc bs : Nat} {a0 : Nat} {y1 : Int32} {y2 : Int32} {y3 : Int32} {y4 : Int32}
    (h : (4 ≤ y4 → (y3 = 0 ∨ y3 = 1) ∧ K (some (.inl y3)) M) ∧ (¬ 4 ≤ y4 → mm_k M a0 = 9 ∧ ∃ a2 : Nat, (mm_p M a0 5) = some a2 ∧ mm_k M a2 = 100 ∧ ∃ j5 : Nat, ((4 * y1) + y4) = nI j5 ∧ j5 < 2147483648 ∧ j5 < mm_l M a2 ∧ (¬ y3 = 0 → mm_Z l G Y_Mo_holds K M0 bc bs 5 [some (.inr (some a0)), some (.inl y1), some (.inl y2), some (.inl 1), some (.inl (y4 + 1)), none] [] M) ∧ (y3 = 0 → (((mm_i M a2 j5) - 1) < 0 → mm_Z l G Y_Mo_holds K M0 bc bs 5 [some (.inr (some a0)), some (.inl y1), some (.inl y2), some (.inl 0), some (.inl (y4 + 1)), none] [] M) ∧ (¬ ((mm_i M a2 j5) - 1) < 0 → ∃ a9 : Nat, (mm_p M a0 6) = some a9 ∧ mm_k M a9 = 100 ∧ ∃ j12 : Nat, ((mm_i M a2 j5) - 1) = nI j12 ∧ j12 < 2147483648 ∧ j12 < mm_l M a9 ∧ (¬ (mm_i M a9 j12) = (y2 + 1) → mm_Z l G Y_Mo_holds K M0 bc bs 5 [some (.inr (some a0)), some (.inl y1), some (.inl y2), some (.inl 0), some (.inl (y4 + 1)), none] [] M) ∧ ((mm_i M a9 j12) = (y2 + 1) → mm_Z l G Y_Mo_holds K M0 bc bs 5 [some (.inr (some a0)), some (.inl y1), some (.inl y2), some (.inl 1), some (.inl (y4 + 1)), none] [] M))))) :
    mm_Z l G Y_Mo_holds K M0 bc bs 5 [some (.inr (some a0)), some (.inl y1), some (.inl y2), some (.inl y3), some (.inl y4), none] [] M := by
  refine mr_iload dd_Mo_holds_5 rfl ?_
  refine mr_iconst 4 dd_Mo_holds_7 (by decide) ?_
  refine mr_icmp_ge 60 dd_Mo_holds_8 (by decide) (fun hc8 => ?_) (fun hc8 => ?_)
  · have h := h.1 hc8
    refine mr_iload_n dd_Mo_holds_60 rfl ?_
    exact mr_zreturn dd_Mo_holds_61 rfl h.1 h.2
  · have h := h.2 hc8
    refine mr_aload_n dd_Mo_holds_11 rfl ?_
    obtain ⟨hk1, h⟩ := h
    refine mr_getr ff_Mo_23 dd_Mo_holds_12 rs_8_5 rfl hk1 ?_
    refine mr_iconst 4 dd_Mo_holds_15 (by decide) ?_
    refine mr_iload_n dd_Mo_holds_16 rfl ?_
    refine mr_imul dd_Mo_holds_17 ?_
    refine mr_iload dd_Mo_holds_18 rfl ?_
    refine mr_iadd dd_Mo_holds_20 ?_
    obtain ⟨a2, ho3, h⟩ := h
    obtain ⟨hk4, h⟩ := h
    obtain ⟨j5, hj6, hm7, hl8, h⟩ := h
    refine mr_iald dd_Mo_holds_21 ho3 hk4 hj6 hm7 hl8 ?_
    refine mr_iconst 1 dd_Mo_holds_22 (by decide) ?_
    refine mr_isub dd_Mo_holds_23 ?_
    refine mr_istore dd_Mo_holds_24 (by decide) ?_
    show mm_Z l G Y_Mo_holds K M0 bc bs 26 [some (.inr (some a0)), some (.inl y1), some (.inl y2), some (.inl y3), some (.inl y4), some (.inl ((mm_i M a2 j5) - 1))] [] M
    refine mr_iload_n dd_Mo_holds_26 rfl ?_
    refine mr_if_ne 48 dd_Mo_holds_27 (by decide) (fun hc27 => ?_) (fun hc27 => ?_)
    · have h := h.1 hc27
      refine mr_iconst 1 dd_Mo_holds_48 (by decide) ?_
      refine mr_goto 53 dd_Mo_holds_49 (by decide) ?_
      refine mr_istore_n dd_Mo_holds_53 (by decide) ?_
      show mm_Z l G Y_Mo_holds K M0 bc bs 54 [some (.inr (some a0)), some (.inl y1), some (.inl y2), some (.inl 1), some (.inl y4), some (.inl ((mm_i M a2 j5) - 1))] [] M
      refine mr_iinc 1 dd_Mo_holds_54 rfl (by decide) (by decide) ?_
      show mm_Z l G Y_Mo_holds K M0 bc bs 57 [some (.inr (some a0)), some (.inl y1), some (.inl y2), some (.inl 1), some (.inl (y4 + 1)), some (.inl ((mm_i M a2 j5) - 1))] [] M
      refine mr_goto 5 dd_Mo_holds_57 (by decide) ?_
      exact mm_fg (mm_leq (mm_le_s (mm_le_s (mm_le_s (mm_le_s (mm_le_s (mm_le_n mm_le_e))))))) h
    · have h := h.2 hc27
      refine mr_iload dd_Mo_holds_30 rfl ?_
      refine mr_if_lt 52 dd_Mo_holds_32 (by decide) (fun hc32 => ?_) (fun hc32 => ?_)
      · have h := h.1 hc32
        refine mr_iconst 0 dd_Mo_holds_52 (by decide) ?_
        refine mr_istore_n dd_Mo_holds_53 (by decide) ?_
        show mm_Z l G Y_Mo_holds K M0 bc bs 54 [some (.inr (some a0)), some (.inl y1), some (.inl y2), some (.inl 0), some (.inl y4), some (.inl ((mm_i M a2 j5) - 1))] [] M
        refine mr_iinc 1 dd_Mo_holds_54 rfl (by decide) (by decide) ?_
        show mm_Z l G Y_Mo_holds K M0 bc bs 57 [some (.inr (some a0)), some (.inl y1), some (.inl y2), some (.inl 0), some (.inl (y4 + 1)), some (.inl ((mm_i M a2 j5) - 1))] [] M
        refine mr_goto 5 dd_Mo_holds_57 (by decide) ?_
        exact mm_fg (mm_leq (mm_le_s (mm_le_s (mm_le_s (mm_le_s (mm_le_s (mm_le_n mm_le_e))))))) h
      · have h := h.2 hc32
        refine mr_aload_n dd_Mo_holds_35 rfl ?_
        refine mr_getr ff_Mo_26 dd_Mo_holds_36 rs_8_6 rfl hk1 ?_
        refine mr_iload dd_Mo_holds_39 rfl ?_
        obtain ⟨a9, ho10, h⟩ := h
        obtain ⟨hk11, h⟩ := h
        obtain ⟨j12, hj13, hm14, hl15, h⟩ := h
        refine mr_iald dd_Mo_holds_41 ho10 hk11 hj13 hm14 hl15 ?_
        refine mr_iload_n dd_Mo_holds_42 rfl ?_
        refine mr_iconst 1 dd_Mo_holds_43 (by decide) ?_
        refine mr_iadd dd_Mo_holds_44 ?_
        refine mr_icmp_ne 52 dd_Mo_holds_45 (by decide) (fun hc45 => ?_) (fun hc45 => ?_)
        · have h := h.1 hc45
          refine mr_iconst 0 dd_Mo_holds_52 (by decide) ?_
          refine mr_istore_n dd_Mo_holds_53 (by decide) ?_
          show mm_Z l G Y_Mo_holds K M0 bc bs 54 [some (.inr (some a0)), some (.inl y1), some (.inl y2), some (.inl 0), some (.inl y4), some (.inl ((mm_i M a2 j5) - 1))] [] M
          refine mr_iinc 1 dd_Mo_holds_54 rfl (by decide) (by decide) ?_
          show mm_Z l G Y_Mo_holds K M0 bc bs 57 [some (.inr (some a0)), some (.inl y1), some (.inl y2), some (.inl 0), some (.inl (y4 + 1)), some (.inl ((mm_i M a2 j5) - 1))] [] M
          refine mr_goto 5 dd_Mo_holds_57 (by decide) ?_
          exact mm_fg (mm_leq (mm_le_s (mm_le_s (mm_le_s (mm_le_s (mm_le_s (mm_le_n mm_le_e))))))) h
        · have h := h.2 hc45
          refine mr_iconst 1 dd_Mo_holds_48 (by decide) ?_
          refine mr_goto 53 dd_Mo_holds_49 (by decide) ?_
          refine mr_istore_n dd_Mo_holds_53 (by decide) ?_
          show mm_Z l G Y_Mo_holds K M0 bc bs 54 [some (.inr (some a0)), some (.inl y1), some (.inl y2), some (.inl 1), some (.inl y4), some (.inl ((mm_i M a2 j5) - 1))] [] M
          refine mr_iinc 1 dd_Mo_holds_54 rfl (by decide) (by decide) ?_
          show mm_Z l G Y_Mo_holds K M0 bc bs 57 [some (.inr (some a0)), some (.inl y1), some (.inl y2), some (.inl 1), some (.inl (y4 + 1)), some (.inl ((mm_i M a2 j5) - 1))] [] M
          refine mr_goto 5 dd_Mo_holds_57 (by decide) ?_
          exact mm_fg (mm_leq (mm_le_s (mm_le_s (mm_le_s (mm_le_s (mm_le_s (mm_le_n mm_le_e))))))) h
set_option maxHeartbeats 4000000 in
set_option maxRecDepth 100000 in
theorem sg_Mo_root {l : Launch} {G : mm_G} {K : Option mm_V → mm_M → Prop} {M : mm_M} {a0 : Nat} {xa : Int32} {xb : Int32}
    (h : mm_Z l G Y_Mo_root K M 0 0 5 [some (.inr (some a0)), some (.inl xa), some (.inl xb), some (.inl 0), some (.inl 0)] [] M) :
    mm_Ok l G yy_Mo_root Y_Mo_root [.inr (some a0), .inl xa, .inl xb] M K := by
  refine mm_go (by decide) rfl (fun q => by cases q) (Nat.le_of_ble_eq_true rfl) ?_
  show mm_Z l G Y_Mo_root K M 0 0 0 [some (.inr (some a0)), some (.inl xa), some (.inl xb), none, none] [] M
  refine mr_iconst 0 dd_Mo_root_0 (by decide) ?_
  refine mr_istore_n dd_Mo_root_1 (by decide) ?_
  show mm_Z l G Y_Mo_root K M 0 0 2 [some (.inr (some a0)), some (.inl xa), some (.inl xb), some (.inl 0), none] [] M
  refine mr_iconst 0 dd_Mo_root_2 (by decide) ?_
  refine mr_istore dd_Mo_root_3 (by decide) ?_
  show mm_Z l G Y_Mo_root K M 0 0 5 [some (.inr (some a0)), some (.inl xa), some (.inl xb), some (.inl 0), some (.inl 0)] [] M
  exact h
set_option maxHeartbeats 4000000 in
set_option maxRecDepth 100000 in
theorem sg_Mo_root_5 {l : Launch} {G : mm_G} {K : Option mm_V → mm_M → Prop} {M0 M : mm_M} {bc bs : Nat} {a0 : Nat} {y1 : Int32} {y2 : Int32} {y3 : Int32} {y4 : Int32}
    (h : (32 ≤ y4 → mm_Z l G Y_Mo_root K M0 bc bs 55 [some (.inr (some a0)), some (.inl y1), some (.inl y2), some (.inl y3), some (.inl 0)] [] M) ∧ (¬ 32 ≤ y4 → (¬ y3 = 0 → mm_Z l G Y_Mo_root K M0 bc bs 5 [some (.inr (some a0)), some (.inl y1), some (.inl y2), some (.inl 1), some (.inl (y4 + 1))] [] M) ∧ (y3 = 0 → mm_k M a0 = 9 ∧ mm_Ok l G yy_Mo_lives Y_Mo_lives [.inr (some a0), .inl (y4 / 4)] M (fun r M1 => mm_X M M1 → ∃ x4 : Int32, r = some (.inl x4) ∧ (x4 = 0 → mm_Z l G Y_Mo_root K M0 bc bs 5 [some (.inr (some a0)), some (.inl y1), some (.inl y2), some (.inl 0), some (.inl (y4 + 1))] [] M1) ∧ (¬ x4 = 0 → ∃ a5 : Nat, (mm_p M1 a0 5) = some a5 ∧ mm_k M1 a5 = 100 ∧ ∃ j8 : Nat, y4 = nI j8 ∧ j8 < 2147483648 ∧ j8 < mm_l M1 a5 ∧ (¬ (mm_i M1 a5 j8) = (y2 + 1) → mm_Z l G Y_Mo_root K M0 bc bs 5 [some (.inr (some a0)), some (.inl y1), some (.inl y2), some (.inl 0), some (.inl (y4 + 1))] [] M1) ∧ ((mm_i M1 a5 j8) = (y2 + 1) → mm_Z l G Y_Mo_root K M0 bc bs 5 [some (.inr (some a0)), some (.inl y1), some (.inl y2), some (.inl 1), some (.inl (y4 + 1))] [] M1)))))) :
    mm_Z l G Y_Mo_root K M0 bc bs 5 [some (.inr (some a0)), some (.inl y1), some (.inl y2), some (.inl y3), some (.inl y4)] [] M := by
  refine mr_iload dd_Mo_root_5 rfl ?_
  refine mr_bipush 32 dd_Mo_root_7 (by decide) ?_
  refine mr_icmp_ge 52 dd_Mo_root_9 (by decide) (fun hc9 => ?_) (fun hc9 => ?_)
  · have h := h.1 hc9
    refine mr_iconst 0 dd_Mo_root_52 (by decide) ?_
    refine mr_istore dd_Mo_root_53 (by decide) ?_
    show mm_Z l G Y_Mo_root K M0 bc bs 55 [some (.inr (some a0)), some (.inl y1), some (.inl y2), some (.inl y3), some (.inl 0)] [] M
    exact h
  · have h := h.2 hc9
    refine mr_iload_n dd_Mo_root_12 rfl ?_
    refine mr_if_ne 40 dd_Mo_root_13 (by decide) (fun hc13 => ?_) (fun hc13 => ?_)
    · have h := h.1 hc13
      refine mr_iconst 1 dd_Mo_root_40 (by decide) ?_
      refine mr_goto 45 dd_Mo_root_41 (by decide) ?_
      refine mr_istore_n dd_Mo_root_45 (by decide) ?_
      show mm_Z l G Y_Mo_root K M0 bc bs 46 [some (.inr (some a0)), some (.inl y1), some (.inl y2), some (.inl 1), some (.inl y4)] [] M
      refine mr_iinc 1 dd_Mo_root_46 rfl (by decide) (by decide) ?_
      show mm_Z l G Y_Mo_root K M0 bc bs 49 [some (.inr (some a0)), some (.inl y1), some (.inl y2), some (.inl 1), some (.inl (y4 + 1))] [] M
      refine mr_goto 5 dd_Mo_root_49 (by decide) ?_
      exact h
    · have h := h.2 hc13
      refine mr_aload_n dd_Mo_root_16 rfl ?_
      refine mr_iload dd_Mo_root_17 rfl ?_
      refine mr_iconst 4 dd_Mo_root_19 (by decide) ?_
      refine mr_idiv dd_Mo_root_20 (by decide) ?_
      obtain ⟨hk3, h⟩ := h
      refine mr_callV0 (Yc := Y_Mo_lives) (M := M) (st := []) (vs := [.inl (y4 / 4)]) (ci := 8) fc_Mo_89 iv_Mo_lives sv_Mo_lives dd_Mo_root_21 ⟨Nat.le_of_ble_eq_true rfl, Nat.le_of_ble_eq_true rfl⟩ (by decide) rfl rfl (Nat.le_of_ble_eq_true rfl) rfl hk3 rfl rfl h (fun r M1 hX2 h => ?_)
      replace h := h hX2
      obtain ⟨x4, rfl, h⟩ := h
      show mm_Z l G Y_Mo_root K M0 bc bs 24 [some (.inr (some a0)), some (.inl y1), some (.inl y2), some (.inl y3), some (.inl y4)] [.inl x4] M1
      refine mr_if_eq 44 dd_Mo_root_24 (by decide) (fun hc24 => ?_) (fun hc24 => ?_)
      · have h := h.1 hc24
        refine mr_iconst 0 dd_Mo_root_44 (by decide) ?_
        refine mr_istore_n dd_Mo_root_45 (by decide) ?_
        show mm_Z l G Y_Mo_root K M0 bc bs 46 [some (.inr (some a0)), some (.inl y1), some (.inl y2), some (.inl 0), some (.inl y4)] [] M1
        refine mr_iinc 1 dd_Mo_root_46 rfl (by decide) (by decide) ?_
        show mm_Z l G Y_Mo_root K M0 bc bs 49 [some (.inr (some a0)), some (.inl y1), some (.inl y2), some (.inl 0), some (.inl (y4 + 1))] [] M1
        refine mr_goto 5 dd_Mo_root_49 (by decide) ?_
        exact h
      · have h := h.2 hc24
        refine mr_aload_n dd_Mo_root_27 rfl ?_
        refine mr_getr ff_Mo_23 dd_Mo_root_28 rs_8_5 rfl (mm_Xk hX2 hk3 (by decide)) ?_
        refine mr_iload dd_Mo_root_31 rfl ?_
        obtain ⟨a5, ho6, h⟩ := h
        obtain ⟨hk7, h⟩ := h
        obtain ⟨j8, hj9, hm10, hl11, h⟩ := h
        refine mr_iald dd_Mo_root_33 ho6 hk7 hj9 hm10 hl11 ?_
        refine mr_iload_n dd_Mo_root_34 rfl ?_
        refine mr_iconst 1 dd_Mo_root_35 (by decide) ?_
        refine mr_iadd dd_Mo_root_36 ?_
        refine mr_icmp_ne 44 dd_Mo_root_37 (by decide) (fun hc37 => ?_) (fun hc37 => ?_)
        · have h := h.1 hc37
          refine mr_iconst 0 dd_Mo_root_44 (by decide) ?_
          refine mr_istore_n dd_Mo_root_45 (by decide) ?_
          show mm_Z l G Y_Mo_root K M0 bc bs 46 [some (.inr (some a0)), some (.inl y1), some (.inl y2), some (.inl 0), some (.inl y4)] [] M1
          refine mr_iinc 1 dd_Mo_root_46 rfl (by decide) (by decide) ?_
          show mm_Z l G Y_Mo_root K M0 bc bs 49 [some (.inr (some a0)), some (.inl y1), some (.inl y2), some (.inl 0), some (.inl (y4 + 1))] [] M1
          refine mr_goto 5 dd_Mo_root_49 (by decide) ?_
          exact h
        · have h := h.2 hc37
          refine mr_iconst 1 dd_Mo_root_40 (by decide) ?_
          refine mr_goto 45 dd_Mo_root_41 (by decide) ?_
          refine mr_istore_n dd_Mo_root_45 (by decide) ?_
          show mm_Z l G Y_Mo_root K M0 bc bs 46 [some (.inr (some a0)), some (.inl y1), some (.inl y2), some (.inl 1), some (.inl y4)] [] M1
          refine mr_iinc 1 dd_Mo_root_46 rfl (by decide) (by decide) ?_
          show mm_Z l G Y_Mo_root K M0 bc bs 49 [some (.inr (some a0)), some (.inl y1), some (.inl y2), some (.inl 1), some (.inl (y4 + 1))] [] M1
          refine mr_goto 5 dd_Mo_root_49 (by decide) ?_
          exact h
set_option maxHeartbeats 4000000 in
set_option maxRecDepth 100000 in
theorem sg_Mo_root_55 {l : Launch} {G : mm_G} {K : Option mm_V → mm_M → Prop} {M0 M : mm_M} {bc bs : Nat} {a0 : Nat} {y1 : Int32} {y2 : Int32} {y3 : Int32} {y4 : Int32}
    (h : (13 ≤ y4 → (y3 = 0 ∨ y3 = 1) ∧ K (some (.inl y3)) M) ∧ (¬ 13 ≤ y4 → (¬ y3 = 0 → mm_Z l G Y_Mo_root K M0 bc bs 55 [some (.inr (some a0)), some (.inl y1), some (.inl y2), some (.inl 1), some (.inl (y4 + 1))] [] M) ∧ (y3 = 0 → (y4 = y1 → mm_Z l G Y_Mo_root K M0 bc bs 55 [some (.inr (some a0)), some (.inl y1), some (.inl y2), some (.inl 0), some (.inl (y4 + 1))] [] M) ∧ (¬ y4 = y1 → mm_k M a0 = 9 ∧ ∃ a2 : Nat, (mm_p M a0 21) = some a2 ∧ mm_k M a2 = 101 ∧ ∃ j5 : Nat, ((60 * y4) + y2) = nI j5 ∧ j5 < 2147483648 ∧ j5 < mm_l M a2 ∧ ((mm_i M a2 j5) = 0 → mm_Z l G Y_Mo_root K M0 bc bs 55 [some (.inr (some a0)), some (.inl y1), some (.inl y2), some (.inl 0), some (.inl (y4 + 1))] [] M) ∧ (¬ (mm_i M a2 j5) = 0 → mm_Z l G Y_Mo_root K M0 bc bs 55 [some (.inr (some a0)), some (.inl y1), some (.inl y2), some (.inl 1), some (.inl (y4 + 1))] [] M))))) :
    mm_Z l G Y_Mo_root K M0 bc bs 55 [some (.inr (some a0)), some (.inl y1), some (.inl y2), some (.inl y3), some (.inl y4)] [] M := by
  refine mr_iload dd_Mo_root_55 rfl ?_
  refine mr_bipush 13 dd_Mo_root_57 (by decide) ?_
  refine mr_icmp_ge 99 dd_Mo_root_59 (by decide) (fun hc59 => ?_) (fun hc59 => ?_)
  · have h := h.1 hc59
    refine mr_iload_n dd_Mo_root_99 rfl ?_
    exact mr_zreturn dd_Mo_root_100 rfl h.1 h.2
  · have h := h.2 hc59
    refine mr_iload_n dd_Mo_root_62 rfl ?_
    refine mr_if_ne 87 dd_Mo_root_63 (by decide) (fun hc63 => ?_) (fun hc63 => ?_)
    · have h := h.1 hc63
      refine mr_iconst 1 dd_Mo_root_87 (by decide) ?_
      refine mr_goto 92 dd_Mo_root_88 (by decide) ?_
      refine mr_istore_n dd_Mo_root_92 (by decide) ?_
      show mm_Z l G Y_Mo_root K M0 bc bs 93 [some (.inr (some a0)), some (.inl y1), some (.inl y2), some (.inl 1), some (.inl y4)] [] M
      refine mr_iinc 1 dd_Mo_root_93 rfl (by decide) (by decide) ?_
      show mm_Z l G Y_Mo_root K M0 bc bs 96 [some (.inr (some a0)), some (.inl y1), some (.inl y2), some (.inl 1), some (.inl (y4 + 1))] [] M
      refine mr_goto 55 dd_Mo_root_96 (by decide) ?_
      exact h
    · have h := h.2 hc63
      refine mr_iload dd_Mo_root_66 rfl ?_
      refine mr_iload_n dd_Mo_root_68 rfl ?_
      refine mr_icmp_eq 91 dd_Mo_root_69 (by decide) (fun hc69 => ?_) (fun hc69 => ?_)
      · have h := h.1 hc69
        refine mr_iconst 0 dd_Mo_root_91 (by decide) ?_
        refine mr_istore_n dd_Mo_root_92 (by decide) ?_
        show mm_Z l G Y_Mo_root K M0 bc bs 93 [some (.inr (some a0)), some (.inl y1), some (.inl y2), some (.inl 0), some (.inl y4)] [] M
        refine mr_iinc 1 dd_Mo_root_93 rfl (by decide) (by decide) ?_
        show mm_Z l G Y_Mo_root K M0 bc bs 96 [some (.inr (some a0)), some (.inl y1), some (.inl y2), some (.inl 0), some (.inl (y4 + 1))] [] M
        refine mr_goto 55 dd_Mo_root_96 (by decide) ?_
        exact h
      · have h := h.2 hc69
        refine mr_aload_n dd_Mo_root_72 rfl ?_
        obtain ⟨hk1, h⟩ := h
        refine mr_getr ff_Mo_65 dd_Mo_root_73 rs_8_21 rfl hk1 ?_
        refine mr_bipush 60 dd_Mo_root_76 (by decide) ?_
        refine mr_iload dd_Mo_root_78 rfl ?_
        refine mr_imul dd_Mo_root_80 ?_
        refine mr_iload_n dd_Mo_root_81 rfl ?_
        refine mr_iadd dd_Mo_root_82 ?_
        obtain ⟨a2, ho3, h⟩ := h
        obtain ⟨hk4, h⟩ := h
        obtain ⟨j5, hj6, hm7, hl8, h⟩ := h
        refine mr_zald dd_Mo_root_83 ho3 hk4 hj6 hm7 hl8 ?_
        refine mr_if_eq 91 dd_Mo_root_84 (by decide) (fun hc84 => ?_) (fun hc84 => ?_)
        · have h := h.1 hc84
          refine mr_iconst 0 dd_Mo_root_91 (by decide) ?_
          refine mr_istore_n dd_Mo_root_92 (by decide) ?_
          show mm_Z l G Y_Mo_root K M0 bc bs 93 [some (.inr (some a0)), some (.inl y1), some (.inl y2), some (.inl 0), some (.inl y4)] [] M
          refine mr_iinc 1 dd_Mo_root_93 rfl (by decide) (by decide) ?_
          show mm_Z l G Y_Mo_root K M0 bc bs 96 [some (.inr (some a0)), some (.inl y1), some (.inl y2), some (.inl 0), some (.inl (y4 + 1))] [] M
          refine mr_goto 55 dd_Mo_root_96 (by decide) ?_
          exact h
        · have h := h.2 hc84
          refine mr_iconst 1 dd_Mo_root_87 (by decide) ?_
          refine mr_goto 92 dd_Mo_root_88 (by decide) ?_
          refine mr_istore_n dd_Mo_root_92 (by decide) ?_
          show mm_Z l G Y_Mo_root K M0 bc bs 93 [some (.inr (some a0)), some (.inl y1), some (.inl y2), some (.inl 1), some (.inl y4)] [] M
          refine mr_iinc 1 dd_Mo_root_93 rfl (by decide) (by decide) ?_
          show mm_Z l G Y_Mo_root K M0 bc bs 96 [some (.inr (some a0)), some (.inl y1), some (.inl y2), some (.inl 1), some (.inl (y4 + 1))] [] M
          refine mr_goto 55 dd_Mo_root_96 (by decide) ?_
          exact h
set_option maxHeartbeats 4000000 in
set_option maxRecDepth 100000 in
theorem sg_Mo_reach {l : Launch} {G : mm_G} {K : Option mm_V → mm_M → Prop} {M : mm_M} {a0 : Nat} {xa : Int32}
    (h : mm_Z l G Y_Mo_reach K M 0 0 2 [some (.inr (some a0)), some (.inl xa), some (.inl 0), none, none, none] [] M) :
    mm_Ok l G yy_Mo_reach Y_Mo_reach [.inr (some a0), .inl xa] M K := by
  refine mm_go (by decide) rfl (fun q => by cases q) (Nat.le_of_ble_eq_true rfl) ?_
  show mm_Z l G Y_Mo_reach K M 0 0 0 [some (.inr (some a0)), some (.inl xa), none, none, none, none] [] M
  refine mr_iconst 0 dd_Mo_reach_0 (by decide) ?_
  refine mr_istore_n dd_Mo_reach_1 (by decide) ?_
  show mm_Z l G Y_Mo_reach K M 0 0 2 [some (.inr (some a0)), some (.inl xa), some (.inl 0), none, none, none] [] M
  exact h
set_option maxHeartbeats 4000000 in
set_option maxRecDepth 100000 in
theorem sg_Mo_reach_2 {l : Launch} {G : mm_G} {K : Option mm_V → mm_M → Prop} {M0 M : mm_M} {bc bs : Nat} {a0 : Nat} {y1 : Int32} {y2 : Int32}
    (h : (60 ≤ y2 → mm_Z l G Y_Mo_reach K M0 bc bs 50 [some (.inr (some a0)), some (.inl y1), some (.inl 1), some (.inl 0), none, none] [] M) ∧ (¬ 60 ≤ y2 → mm_k M a0 = 9 ∧ ∃ a2 : Nat, (mm_p M a0 6) = some a2 ∧ mm_k M a2 = 100 ∧ ∃ j5 : Nat, y2 = nI j5 ∧ j5 < 2147483648 ∧ j5 < mm_l M a2 ∧ (¬ (mm_i M a2 j5) = (y1 + 1) → ∃ a9 : Nat, (mm_p M a0 24) = some a9 ∧ mm_k M a9 = 101 ∧ ∃ j12 : Nat, y2 = nI j12 ∧ j12 < 2147483648 ∧ j12 < mm_l M a9 ∧ mm_Z l G Y_Mo_reach K M0 bc bs 2 [some (.inr (some a0)), some (.inl y1), some (.inl (y2 + 1)), none, none, none] [] (mm_si M a9 j12 0)) ∧ ((mm_i M a2 j5) = (y1 + 1) → mm_Ok l G yy_Mo_root Y_Mo_root [.inr (some a0), .inl y1, .inl y2] M (fun r M16 => mm_X M M16 → ∃ x18 : Int32, r = some (.inl x18) ∧ (x18 = 0 → ∃ a19 : Nat, (mm_p M a0 24) = some a19 ∧ mm_k M16 a19 = 101 ∧ ∃ j22 : Nat, y2 = nI j22 ∧ j22 < 2147483648 ∧ j22 < mm_l M16 a19 ∧ mm_Z l G Y_Mo_reach K M0 bc bs 2 [some (.inr (some a0)), some (.inl y1), some (.inl (y2 + 1)), none, none, none] [] (mm_si M16 a19 j22 0)) ∧ (¬ x18 = 0 → ∃ a26 : Nat, (mm_p M a0 24) = some a26 ∧ mm_k M16 a26 = 101 ∧ ∃ j29 : Nat, y2 = nI j29 ∧ j29 < 2147483648 ∧ j29 < mm_l M16 a26 ∧ mm_Z l G Y_Mo_reach K M0 bc bs 2 [some (.inr (some a0)), some (.inl y1), some (.inl (y2 + 1)), none, none, none] [] (mm_si M16 a26 j29 1)))))) :
    mm_Z l G Y_Mo_reach K M0 bc bs 2 [some (.inr (some a0)), some (.inl y1), some (.inl y2), none, none, none] [] M := by
  refine mr_iload_n dd_Mo_reach_2 rfl ?_
  refine mr_bipush 60 dd_Mo_reach_3 (by decide) ?_
  refine mr_icmp_ge 46 dd_Mo_reach_5 (by decide) (fun hc5 => ?_) (fun hc5 => ?_)
  · have h := h.1 hc5
    refine mr_iconst 1 dd_Mo_reach_46 (by decide) ?_
    refine mr_istore_n dd_Mo_reach_47 (by decide) ?_
    show mm_Z l G Y_Mo_reach K M0 bc bs 48 [some (.inr (some a0)), some (.inl y1), some (.inl 1), none, none, none] [] M
    refine mr_iconst 0 dd_Mo_reach_48 (by decide) ?_
    refine mr_istore_n dd_Mo_reach_49 (by decide) ?_
    show mm_Z l G Y_Mo_reach K M0 bc bs 50 [some (.inr (some a0)), some (.inl y1), some (.inl 1), some (.inl 0), none, none] [] M
    exact h
  · have h := h.2 hc5
    refine mr_aload_n dd_Mo_reach_8 rfl ?_
    obtain ⟨hk1, h⟩ := h
    refine mr_getr ff_Mo_74 dd_Mo_reach_9 rs_8_24 rfl hk1 ?_
    refine mr_iload_n dd_Mo_reach_12 rfl ?_
    refine mr_aload_n dd_Mo_reach_13 rfl ?_
    refine mr_getr ff_Mo_26 dd_Mo_reach_14 rs_8_6 rfl hk1 ?_
    refine mr_iload_n dd_Mo_reach_17 rfl ?_
    obtain ⟨a2, ho3, h⟩ := h
    obtain ⟨hk4, h⟩ := h
    obtain ⟨j5, hj6, hm7, hl8, h⟩ := h
    refine mr_iald dd_Mo_reach_18 ho3 hk4 hj6 hm7 hl8 ?_
    refine mr_iload_n dd_Mo_reach_19 rfl ?_
    refine mr_iconst 1 dd_Mo_reach_20 (by decide) ?_
    refine mr_iadd dd_Mo_reach_21 ?_
    refine mr_icmp_ne 38 dd_Mo_reach_22 (by decide) (fun hc22 => ?_) (fun hc22 => ?_)
    · have h := h.1 hc22
      refine mr_iconst 0 dd_Mo_reach_38 (by decide) ?_
      obtain ⟨a9, ho10, h⟩ := h
      obtain ⟨hk11, h⟩ := h
      obtain ⟨j12, hj13, hm14, hl15, h⟩ := h
      refine mr_zast dd_Mo_reach_39 ho10 hk11 hj13 hm14 hl15 (Or.inl rfl) ?_
      refine mr_iinc 1 dd_Mo_reach_40 rfl (by decide) (by decide) ?_
      show mm_Z l G Y_Mo_reach K M0 bc bs 43 [some (.inr (some a0)), some (.inl y1), some (.inl (y2 + 1)), none, none, none] [] (mm_si M a9 j12 0)
      refine mr_goto 2 dd_Mo_reach_43 (by decide) ?_
      exact h
    · have h := h.2 hc22
      refine mr_aload_n dd_Mo_reach_25 rfl ?_
      refine mr_iload_n dd_Mo_reach_26 rfl ?_
      refine mr_iload_n dd_Mo_reach_27 rfl ?_
      refine mr_callV0 (Yc := Y_Mo_root) (M := M) (st := [.inl y2, .inr (mm_p M a0 24)]) (vs := [.inl y1, .inl y2]) (ci := 8) fc_Mo_95 iv_Mo_root sv_Mo_root dd_Mo_reach_28 ⟨Nat.le_of_ble_eq_true rfl, Nat.le_of_ble_eq_true rfl⟩ (by decide) rfl rfl (Nat.le_of_ble_eq_true rfl) rfl hk1 rfl rfl h (fun r M16 hX17 h => ?_)
      replace h := h hX17
      obtain ⟨x18, rfl, h⟩ := h
      show mm_Z l G Y_Mo_reach K M0 bc bs 31 [some (.inr (some a0)), some (.inl y1), some (.inl y2), none, none, none] [.inl x18, .inl y2, .inr (mm_p M a0 24)] M16
      refine mr_if_eq 38 dd_Mo_reach_31 (by decide) (fun hc31 => ?_) (fun hc31 => ?_)
      · have h := h.1 hc31
        refine mr_iconst 0 dd_Mo_reach_38 (by decide) ?_
        obtain ⟨a19, ho20, h⟩ := h
        obtain ⟨hk21, h⟩ := h
        obtain ⟨j22, hj23, hm24, hl25, h⟩ := h
        refine mr_zast dd_Mo_reach_39 ho20 hk21 hj23 hm24 hl25 (Or.inl rfl) ?_
        refine mr_iinc 1 dd_Mo_reach_40 rfl (by decide) (by decide) ?_
        show mm_Z l G Y_Mo_reach K M0 bc bs 43 [some (.inr (some a0)), some (.inl y1), some (.inl (y2 + 1)), none, none, none] [] (mm_si M16 a19 j22 0)
        refine mr_goto 2 dd_Mo_reach_43 (by decide) ?_
        exact h
      · have h := h.2 hc31
        refine mr_iconst 1 dd_Mo_reach_34 (by decide) ?_
        refine mr_goto 39 dd_Mo_reach_35 (by decide) ?_
        obtain ⟨a26, ho27, h⟩ := h
        obtain ⟨hk28, h⟩ := h
        obtain ⟨j29, hj30, hm31, hl32, h⟩ := h
        refine mr_zast dd_Mo_reach_39 ho27 hk28 hj30 hm31 hl32 (Or.inr rfl) ?_
        refine mr_iinc 1 dd_Mo_reach_40 rfl (by decide) (by decide) ?_
        show mm_Z l G Y_Mo_reach K M0 bc bs 43 [some (.inr (some a0)), some (.inl y1), some (.inl (y2 + 1)), none, none, none] [] (mm_si M16 a26 j29 1)
        refine mr_goto 2 dd_Mo_reach_43 (by decide) ?_
        exact h
set_option maxHeartbeats 4000000 in
set_option maxRecDepth 100000 in
theorem sg_Mo_reach_50 {l : Launch} {G : mm_G} {K : Option mm_V → mm_M → Prop} {M0 M : mm_M} {bc bs : Nat} {a0 : Nat} {y1 : Int32} {y2 : Int32} {y3 : Int32}
    (h : (61 ≤ y3 → K none M) ∧ (¬ 61 ≤ y3 → (y2 = 0 → K none M) ∧ (¬ y2 = 0 → mm_Z l G Y_Mo_reach K M0 bc bs 65 [some (.inr (some a0)), some (.inl y1), some (.inl 0), some (.inl y3), some (.inl 0), none] [] M))) :
    mm_Z l G Y_Mo_reach K M0 bc bs 50 [some (.inr (some a0)), some (.inl y1), some (.inl y2), some (.inl y3), none, none] [] M := by
  refine mr_iload_n dd_Mo_reach_50 rfl ?_
  refine mr_bipush 61 dd_Mo_reach_51 (by decide) ?_
  refine mr_icmp_ge 146 dd_Mo_reach_53 (by decide) (fun hc53 => ?_) (fun hc53 => ?_)
  · have h := h.1 hc53
    exact mr_return dd_Mo_reach_146 rfl h
  · have h := h.2 hc53
    refine mr_iload_n dd_Mo_reach_56 rfl ?_
    refine mr_if_eq 146 dd_Mo_reach_57 (by decide) (fun hc57 => ?_) (fun hc57 => ?_)
    · have h := h.1 hc57
      exact mr_return dd_Mo_reach_146 rfl h
    · have h := h.2 hc57
      refine mr_iconst 0 dd_Mo_reach_60 (by decide) ?_
      refine mr_istore_n dd_Mo_reach_61 (by decide) ?_
      show mm_Z l G Y_Mo_reach K M0 bc bs 62 [some (.inr (some a0)), some (.inl y1), some (.inl 0), some (.inl y3), none, none] [] M
      refine mr_iconst 0 dd_Mo_reach_62 (by decide) ?_
      refine mr_istore dd_Mo_reach_63 (by decide) ?_
      show mm_Z l G Y_Mo_reach K M0 bc bs 65 [some (.inr (some a0)), some (.inl y1), some (.inl 0), some (.inl y3), some (.inl 0), none] [] M
      exact h
set_option maxHeartbeats 4000000 in
set_option maxRecDepth 100000 in
theorem sg_Mo_reach_65 {l : Launch} {G : mm_G} {K : Option mm_V → mm_M → Prop} {M0 M : mm_M} {bc bs : Nat} {a0 : Nat} {y1 : Int32} {y2 : Int32} {y3 : Int32} {y4 : Int32}
    (h : (180 ≤ y4 → mm_Z l G Y_Mo_reach K M0 bc bs 50 [some (.inr (some a0)), some (.inl y1), some (.inl y2), some (.inl (y3 + 1)), none, none] [] M) ∧ (¬ 180 ≤ y4 → mm_k M a0 = 9 ∧ ∃ a2 : Nat, (mm_p M a0 10) = some a2 ∧ mm_k M a2 = 100 ∧ ∃ j5 : Nat, y4 = nI j5 ∧ j5 < 2147483648 ∧ j5 < mm_l M a2 ∧ ∃ a9 : Nat, (mm_p M a0 24) = some a9 ∧ mm_k M a9 = 101 ∧ ∃ j12 : Nat, (y4 / 3) = nI j12 ∧ j12 < 2147483648 ∧ j12 < mm_l M a9 ∧ ((mm_i M a9 j12) = 0 → mm_Z l G Y_Mo_reach K M0 bc bs 65 [some (.inr (some a0)), some (.inl y1), some (.inl y2), some (.inl y3), some (.inl (y4 + 1)), none] [] M) ∧ (¬ (mm_i M a9 j12) = 0 → (((mm_i M a2 j5) - 1) < 0 → mm_Z l G Y_Mo_reach K M0 bc bs 65 [some (.inr (some a0)), some (.inl y1), some (.inl y2), some (.inl y3), some (.inl (y4 + 1)), none] [] M) ∧ (¬ ((mm_i M a2 j5) - 1) < 0 → ∃ a16 : Nat, (mm_p M a0 6) = some a16 ∧ mm_k M a16 = 100 ∧ ∃ j19 : Nat, ((mm_i M a2 j5) - 1) = nI j19 ∧ j19 < 2147483648 ∧ j19 < mm_l M a16 ∧ (¬ (mm_i M a16 j19) = (y1 + 1) → mm_Z l G Y_Mo_reach K M0 bc bs 65 [some (.inr (some a0)), some (.inl y1), some (.inl y2), some (.inl y3), some (.inl (y4 + 1)), none] [] M) ∧ ((mm_i M a16 j19) = (y1 + 1) → ∃ j23 : Nat, ((mm_i M a2 j5) - 1) = nI j23 ∧ j23 < 2147483648 ∧ j23 < mm_l M a9 ∧ (¬ (mm_i M a9 j23) = 0 → mm_Z l G Y_Mo_reach K M0 bc bs 65 [some (.inr (some a0)), some (.inl y1), some (.inl y2), some (.inl y3), some (.inl (y4 + 1)), none] [] M) ∧ ((mm_i M a9 j23) = 0 → ∃ j27 : Nat, ((mm_i M a2 j5) - 1) = nI j27 ∧ j27 < 2147483648 ∧ j27 < mm_l M a9 ∧ mm_Z l G Y_Mo_reach K M0 bc bs 65 [some (.inr (some a0)), some (.inl y1), some (.inl 1), some (.inl y3), some (.inl (y4 + 1)), none] [] (mm_si M a9 j27 1))))))) :
    mm_Z l G Y_Mo_reach K M0 bc bs 65 [some (.inr (some a0)), some (.inl y1), some (.inl y2), some (.inl y3), some (.inl y4), none] [] M := by
  refine mr_iload dd_Mo_reach_65 rfl ?_
  refine mr_sipush 180 dd_Mo_reach_67 (by decide) ?_
  refine mr_icmp_ge 140 dd_Mo_reach_70 (by decide) (fun hc70 => ?_) (fun hc70 => ?_)
  · have h := h.1 hc70
    refine mr_iinc 1 dd_Mo_reach_140 rfl (by decide) (by decide) ?_
    show mm_Z l G Y_Mo_reach K M0 bc bs 143 [some (.inr (some a0)), some (.inl y1), some (.inl y2), some (.inl (y3 + 1)), some (.inl y4), none] [] M
    refine mr_goto 50 dd_Mo_reach_143 (by decide) ?_
    exact mm_fg (mm_leq (mm_le_s (mm_le_s (mm_le_s (mm_le_s (mm_le_n (mm_le_n mm_le_e))))))) h
  · have h := h.2 hc70
    refine mr_aload_n dd_Mo_reach_73 rfl ?_
    obtain ⟨hk1, h⟩ := h
    refine mr_getr ff_Mo_38 dd_Mo_reach_74 rs_8_10 rfl hk1 ?_
    refine mr_iload dd_Mo_reach_77 rfl ?_
    obtain ⟨a2, ho3, h⟩ := h
    obtain ⟨hk4, h⟩ := h
    obtain ⟨j5, hj6, hm7, hl8, h⟩ := h
    refine mr_iald dd_Mo_reach_79 ho3 hk4 hj6 hm7 hl8 ?_
    refine mr_iconst 1 dd_Mo_reach_80 (by decide) ?_
    refine mr_isub dd_Mo_reach_81 ?_
    refine mr_istore dd_Mo_reach_82 (by decide) ?_
    show mm_Z l G Y_Mo_reach K M0 bc bs 84 [some (.inr (some a0)), some (.inl y1), some (.inl y2), some (.inl y3), some (.inl y4), some (.inl ((mm_i M a2 j5) - 1))] [] M
    refine mr_aload_n dd_Mo_reach_84 rfl ?_
    refine mr_getr ff_Mo_74 dd_Mo_reach_85 rs_8_24 rfl hk1 ?_
    refine mr_iload dd_Mo_reach_88 rfl ?_
    refine mr_iconst 3 dd_Mo_reach_90 (by decide) ?_
    refine mr_idiv dd_Mo_reach_91 (by decide) ?_
    obtain ⟨a9, ho10, h⟩ := h
    obtain ⟨hk11, h⟩ := h
    obtain ⟨j12, hj13, hm14, hl15, h⟩ := h
    refine mr_zald dd_Mo_reach_92 ho10 hk11 hj13 hm14 hl15 ?_
    refine mr_if_eq 134 dd_Mo_reach_93 (by decide) (fun hc93 => ?_) (fun hc93 => ?_)
    · have h := h.1 hc93
      refine mr_iinc 1 dd_Mo_reach_134 rfl (by decide) (by decide) ?_
      show mm_Z l G Y_Mo_reach K M0 bc bs 137 [some (.inr (some a0)), some (.inl y1), some (.inl y2), some (.inl y3), some (.inl (y4 + 1)), some (.inl ((mm_i M a2 j5) - 1))] [] M
      refine mr_goto 65 dd_Mo_reach_137 (by decide) ?_
      exact mm_fg (mm_leq (mm_le_s (mm_le_s (mm_le_s (mm_le_s (mm_le_s (mm_le_n mm_le_e))))))) h
    · have h := h.2 hc93
      refine mr_iload dd_Mo_reach_96 rfl ?_
      refine mr_if_lt 134 dd_Mo_reach_98 (by decide) (fun hc98 => ?_) (fun hc98 => ?_)
      · have h := h.1 hc98
        refine mr_iinc 1 dd_Mo_reach_134 rfl (by decide) (by decide) ?_
        show mm_Z l G Y_Mo_reach K M0 bc bs 137 [some (.inr (some a0)), some (.inl y1), some (.inl y2), some (.inl y3), some (.inl (y4 + 1)), some (.inl ((mm_i M a2 j5) - 1))] [] M
        refine mr_goto 65 dd_Mo_reach_137 (by decide) ?_
        exact mm_fg (mm_leq (mm_le_s (mm_le_s (mm_le_s (mm_le_s (mm_le_s (mm_le_n mm_le_e))))))) h
      · have h := h.2 hc98
        refine mr_aload_n dd_Mo_reach_101 rfl ?_
        refine mr_getr ff_Mo_26 dd_Mo_reach_102 rs_8_6 rfl hk1 ?_
        refine mr_iload dd_Mo_reach_105 rfl ?_
        obtain ⟨a16, ho17, h⟩ := h
        obtain ⟨hk18, h⟩ := h
        obtain ⟨j19, hj20, hm21, hl22, h⟩ := h
        refine mr_iald dd_Mo_reach_107 ho17 hk18 hj20 hm21 hl22 ?_
        refine mr_iload_n dd_Mo_reach_108 rfl ?_
        refine mr_iconst 1 dd_Mo_reach_109 (by decide) ?_
        refine mr_iadd dd_Mo_reach_110 ?_
        refine mr_icmp_ne 134 dd_Mo_reach_111 (by decide) (fun hc111 => ?_) (fun hc111 => ?_)
        · have h := h.1 hc111
          refine mr_iinc 1 dd_Mo_reach_134 rfl (by decide) (by decide) ?_
          show mm_Z l G Y_Mo_reach K M0 bc bs 137 [some (.inr (some a0)), some (.inl y1), some (.inl y2), some (.inl y3), some (.inl (y4 + 1)), some (.inl ((mm_i M a2 j5) - 1))] [] M
          refine mr_goto 65 dd_Mo_reach_137 (by decide) ?_
          exact mm_fg (mm_leq (mm_le_s (mm_le_s (mm_le_s (mm_le_s (mm_le_s (mm_le_n mm_le_e))))))) h
        · have h := h.2 hc111
          refine mr_aload_n dd_Mo_reach_114 rfl ?_
          refine mr_getr ff_Mo_74 dd_Mo_reach_115 rs_8_24 rfl hk1 ?_
          refine mr_iload dd_Mo_reach_118 rfl ?_
          obtain ⟨j23, hj24, hm25, hl26, h⟩ := h
          refine mr_zald dd_Mo_reach_120 ho10 hk11 hj24 hm25 hl26 ?_
          refine mr_if_ne 134 dd_Mo_reach_121 (by decide) (fun hc121 => ?_) (fun hc121 => ?_)
          · have h := h.1 hc121
            refine mr_iinc 1 dd_Mo_reach_134 rfl (by decide) (by decide) ?_
            show mm_Z l G Y_Mo_reach K M0 bc bs 137 [some (.inr (some a0)), some (.inl y1), some (.inl y2), some (.inl y3), some (.inl (y4 + 1)), some (.inl ((mm_i M a2 j5) - 1))] [] M
            refine mr_goto 65 dd_Mo_reach_137 (by decide) ?_
            exact mm_fg (mm_leq (mm_le_s (mm_le_s (mm_le_s (mm_le_s (mm_le_s (mm_le_n mm_le_e))))))) h
          · have h := h.2 hc121
            refine mr_aload_n dd_Mo_reach_124 rfl ?_
            refine mr_getr ff_Mo_74 dd_Mo_reach_125 rs_8_24 rfl hk1 ?_
            refine mr_iload dd_Mo_reach_128 rfl ?_
            refine mr_iconst 1 dd_Mo_reach_130 (by decide) ?_
            obtain ⟨j27, hj28, hm29, hl30, h⟩ := h
            refine mr_zast dd_Mo_reach_131 ho10 hk11 hj28 hm29 hl30 (Or.inr rfl) ?_
            refine mr_iconst 1 dd_Mo_reach_132 (by decide) ?_
            refine mr_istore_n dd_Mo_reach_133 (by decide) ?_
            show mm_Z l G Y_Mo_reach K M0 bc bs 134 [some (.inr (some a0)), some (.inl y1), some (.inl 1), some (.inl y3), some (.inl y4), some (.inl ((mm_i M a2 j5) - 1))] [] (mm_si M a9 j27 1)
            refine mr_iinc 1 dd_Mo_reach_134 rfl (by decide) (by decide) ?_
            show mm_Z l G Y_Mo_reach K M0 bc bs 137 [some (.inr (some a0)), some (.inl y1), some (.inl 1), some (.inl y3), some (.inl (y4 + 1)), some (.inl ((mm_i M a2 j5) - 1))] [] (mm_si M a9 j27 1)
            refine mr_goto 65 dd_Mo_reach_137 (by decide) ?_
            exact mm_fg (mm_leq (mm_le_s (mm_le_s (mm_le_s (mm_le_s (mm_le_s (mm_le_n mm_le_e))))))) h
set_option maxHeartbeats 4000000 in
set_option maxRecDepth 100000 in
theorem sg_Mo_inField {l : Launch} {G : mm_G} {K : Option mm_V → mm_M → Prop} {M : mm_M} {a0 : Nat} {xa : Int32} {xb : Int32}
    (h : mm_Z l G Y_Mo_inField K M 0 0 5 [some (.inr (some a0)), some (.inl xa), some (.inl xb), some (.inl 0), some (.inl 0)] [] M) :
    mm_Ok l G yy_Mo_inField Y_Mo_inField [.inr (some a0), .inl xa, .inl xb] M K := by
  refine mm_go (by decide) rfl (fun q => by cases q) (Nat.le_of_ble_eq_true rfl) ?_
  show mm_Z l G Y_Mo_inField K M 0 0 0 [some (.inr (some a0)), some (.inl xa), some (.inl xb), none, none] [] M
  refine mr_iconst 0 dd_Mo_inField_0 (by decide) ?_
  refine mr_istore_n dd_Mo_inField_1 (by decide) ?_
  show mm_Z l G Y_Mo_inField K M 0 0 2 [some (.inr (some a0)), some (.inl xa), some (.inl xb), some (.inl 0), none] [] M
  refine mr_iconst 0 dd_Mo_inField_2 (by decide) ?_
  refine mr_istore dd_Mo_inField_3 (by decide) ?_
  show mm_Z l G Y_Mo_inField K M 0 0 5 [some (.inr (some a0)), some (.inl xa), some (.inl xb), some (.inl 0), some (.inl 0)] [] M
  exact h
set_option maxHeartbeats 4000000 in
set_option maxRecDepth 100000 in
theorem sg_Mo_inField_5 {l : Launch} {G : mm_G} {K : Option mm_V → mm_M → Prop} {M0 M : mm_M} {bc bs : Nat} {a0 : Nat} {y1 : Int32} {y2 : Int32} {y3 : Int32} {y4 : Int32}
    (h : (180 ≤ y4 → (y3 = 0 ∨ y3 = 1) ∧ K (some (.inl y3)) M) ∧ (¬ 180 ≤ y4 → (¬ y3 = 0 → mm_Z l G Y_Mo_inField K M0 bc bs 5 [some (.inr (some a0)), some (.inl y1), some (.inl y2), some (.inl 1), some (.inl (y4 + 1))] [] M) ∧ (y3 = 0 → mm_k M a0 = 9 ∧ ∃ a2 : Nat, (mm_p M a0 6) = some a2 ∧ mm_k M a2 = 100 ∧ ∃ j5 : Nat, (y4 / 3) = nI j5 ∧ j5 < 2147483648 ∧ j5 < mm_l M a2 ∧ (¬ (mm_i M a2 j5) = (y1 + 1) → mm_Z l G Y_Mo_inField K M0 bc bs 5 [some (.inr (some a0)), some (.inl y1), some (.inl y2), some (.inl 0), some (.inl (y4 + 1))] [] M) ∧ ((mm_i M a2 j5) = (y1 + 1) → ∃ a9 : Nat, (mm_p M a0 10) = some a9 ∧ mm_k M a9 = 100 ∧ ∃ j12 : Nat, y4 = nI j12 ∧ j12 < 2147483648 ∧ j12 < mm_l M a9 ∧ (¬ (mm_i M a9 j12) = (y2 + 1) → mm_Z l G Y_Mo_inField K M0 bc bs 5 [some (.inr (some a0)), some (.inl y1), some (.inl y2), some (.inl 0), some (.inl (y4 + 1))] [] M) ∧ ((mm_i M a9 j12) = (y2 + 1) → mm_Z l G Y_Mo_inField K M0 bc bs 5 [some (.inr (some a0)), some (.inl y1), some (.inl y2), some (.inl 1), some (.inl (y4 + 1))] [] M))))) :
    mm_Z l G Y_Mo_inField K M0 bc bs 5 [some (.inr (some a0)), some (.inl y1), some (.inl y2), some (.inl y3), some (.inl y4)] [] M := by
  refine mr_iload dd_Mo_inField_5 rfl ?_
  refine mr_sipush 180 dd_Mo_inField_7 (by decide) ?_
  refine mr_icmp_ge 57 dd_Mo_inField_10 (by decide) (fun hc10 => ?_) (fun hc10 => ?_)
  · have h := h.1 hc10
    refine mr_iload_n dd_Mo_inField_57 rfl ?_
    exact mr_zreturn dd_Mo_inField_58 rfl h.1 h.2
  · have h := h.2 hc10
    refine mr_iload_n dd_Mo_inField_13 rfl ?_
    refine mr_if_ne 45 dd_Mo_inField_14 (by decide) (fun hc14 => ?_) (fun hc14 => ?_)
    · have h := h.1 hc14
      refine mr_iconst 1 dd_Mo_inField_45 (by decide) ?_
      refine mr_goto 50 dd_Mo_inField_46 (by decide) ?_
      refine mr_istore_n dd_Mo_inField_50 (by decide) ?_
      show mm_Z l G Y_Mo_inField K M0 bc bs 51 [some (.inr (some a0)), some (.inl y1), some (.inl y2), some (.inl 1), some (.inl y4)] [] M
      refine mr_iinc 1 dd_Mo_inField_51 rfl (by decide) (by decide) ?_
      show mm_Z l G Y_Mo_inField K M0 bc bs 54 [some (.inr (some a0)), some (.inl y1), some (.inl y2), some (.inl 1), some (.inl (y4 + 1))] [] M
      refine mr_goto 5 dd_Mo_inField_54 (by decide) ?_
      exact h
    · have h := h.2 hc14
      refine mr_aload_n dd_Mo_inField_17 rfl ?_
      obtain ⟨hk1, h⟩ := h
      refine mr_getr ff_Mo_26 dd_Mo_inField_18 rs_8_6 rfl hk1 ?_
      refine mr_iload dd_Mo_inField_21 rfl ?_
      refine mr_iconst 3 dd_Mo_inField_23 (by decide) ?_
      refine mr_idiv dd_Mo_inField_24 (by decide) ?_
      obtain ⟨a2, ho3, h⟩ := h
      obtain ⟨hk4, h⟩ := h
      obtain ⟨j5, hj6, hm7, hl8, h⟩ := h
      refine mr_iald dd_Mo_inField_25 ho3 hk4 hj6 hm7 hl8 ?_
      refine mr_iload_n dd_Mo_inField_26 rfl ?_
      refine mr_iconst 1 dd_Mo_inField_27 (by decide) ?_
      refine mr_iadd dd_Mo_inField_28 ?_
      refine mr_icmp_ne 49 dd_Mo_inField_29 (by decide) (fun hc29 => ?_) (fun hc29 => ?_)
      · have h := h.1 hc29
        refine mr_iconst 0 dd_Mo_inField_49 (by decide) ?_
        refine mr_istore_n dd_Mo_inField_50 (by decide) ?_
        show mm_Z l G Y_Mo_inField K M0 bc bs 51 [some (.inr (some a0)), some (.inl y1), some (.inl y2), some (.inl 0), some (.inl y4)] [] M
        refine mr_iinc 1 dd_Mo_inField_51 rfl (by decide) (by decide) ?_
        show mm_Z l G Y_Mo_inField K M0 bc bs 54 [some (.inr (some a0)), some (.inl y1), some (.inl y2), some (.inl 0), some (.inl (y4 + 1))] [] M
        refine mr_goto 5 dd_Mo_inField_54 (by decide) ?_
        exact h
      · have h := h.2 hc29
        refine mr_aload_n dd_Mo_inField_32 rfl ?_
        refine mr_getr ff_Mo_38 dd_Mo_inField_33 rs_8_10 rfl hk1 ?_
        refine mr_iload dd_Mo_inField_36 rfl ?_
        obtain ⟨a9, ho10, h⟩ := h
        obtain ⟨hk11, h⟩ := h
        obtain ⟨j12, hj13, hm14, hl15, h⟩ := h
        refine mr_iald dd_Mo_inField_38 ho10 hk11 hj13 hm14 hl15 ?_
        refine mr_iload_n dd_Mo_inField_39 rfl ?_
        refine mr_iconst 1 dd_Mo_inField_40 (by decide) ?_
        refine mr_iadd dd_Mo_inField_41 ?_
        refine mr_icmp_ne 49 dd_Mo_inField_42 (by decide) (fun hc42 => ?_) (fun hc42 => ?_)
        · have h := h.1 hc42
          refine mr_iconst 0 dd_Mo_inField_49 (by decide) ?_
          refine mr_istore_n dd_Mo_inField_50 (by decide) ?_
          show mm_Z l G Y_Mo_inField K M0 bc bs 51 [some (.inr (some a0)), some (.inl y1), some (.inl y2), some (.inl 0), some (.inl y4)] [] M
          refine mr_iinc 1 dd_Mo_inField_51 rfl (by decide) (by decide) ?_
          show mm_Z l G Y_Mo_inField K M0 bc bs 54 [some (.inr (some a0)), some (.inl y1), some (.inl y2), some (.inl 0), some (.inl (y4 + 1))] [] M
          refine mr_goto 5 dd_Mo_inField_54 (by decide) ?_
          exact h
        · have h := h.2 hc42
          refine mr_iconst 1 dd_Mo_inField_45 (by decide) ?_
          refine mr_goto 50 dd_Mo_inField_46 (by decide) ?_
          refine mr_istore_n dd_Mo_inField_50 (by decide) ?_
          show mm_Z l G Y_Mo_inField K M0 bc bs 51 [some (.inr (some a0)), some (.inl y1), some (.inl y2), some (.inl 1), some (.inl y4)] [] M
          refine mr_iinc 1 dd_Mo_inField_51 rfl (by decide) (by decide) ?_
          show mm_Z l G Y_Mo_inField K M0 bc bs 54 [some (.inr (some a0)), some (.inl y1), some (.inl y2), some (.inl 1), some (.inl (y4 + 1))] [] M
          refine mr_goto 5 dd_Mo_inField_54 (by decide) ?_
          exact h
set_option maxHeartbeats 4000000 in
set_option maxRecDepth 100000 in
theorem sg_Mo_sweep {l : Launch} {G : mm_G} {K : Option mm_V → mm_M → Prop} {M : mm_M} {a0 : Nat} {xa : Int32}
    (h : mm_k M a0 = 9 ∧ mm_Ok l G yy_Mo_reach Y_Mo_reach [.inr (some a0), .inl xa] M (fun r M1 => mm_X M M1 → r = none ∧ mm_Z l G Y_Mo_sweep K M 0 0 9 [some (.inr (some a0)), some (.inl xa), some (.inl 0), some (.inl 0), none, none] [] M1)) :
    mm_Ok l G yy_Mo_sweep Y_Mo_sweep [.inr (some a0), .inl xa] M K := by
  refine mm_go (by decide) rfl (fun q => by cases q) (Nat.le_of_ble_eq_true rfl) ?_
  show mm_Z l G Y_Mo_sweep K M 0 0 0 [some (.inr (some a0)), some (.inl xa), none, none, none, none] [] M
  refine mr_aload_n dd_Mo_sweep_0 rfl ?_
  refine mr_iload_n dd_Mo_sweep_1 rfl ?_
  obtain ⟨hk3, h⟩ := h
  refine mr_callV0 (Yc := Y_Mo_reach) (M := M) (st := []) (vs := [.inl xa]) (ci := 8) fc_Mo_99 iv_Mo_reach sv_Mo_reach dd_Mo_sweep_2 ⟨Nat.le_of_ble_eq_true rfl, Nat.le_of_ble_eq_true rfl⟩ (by decide) rfl rfl (Nat.le_of_ble_eq_true rfl) rfl hk3 rfl rfl h (fun r M1 hX2 h => ?_)
  replace h := h hX2
  obtain ⟨rfl, h⟩ := h
  show mm_Z l G Y_Mo_sweep K M 0 0 5 [some (.inr (some a0)), some (.inl xa), none, none, none, none] [] M1
  refine mr_iconst 0 dd_Mo_sweep_5 (by decide) ?_
  refine mr_istore_n dd_Mo_sweep_6 (by decide) ?_
  show mm_Z l G Y_Mo_sweep K M 0 0 7 [some (.inr (some a0)), some (.inl xa), some (.inl 0), none, none, none] [] M1
  refine mr_iconst 0 dd_Mo_sweep_7 (by decide) ?_
  refine mr_istore_n dd_Mo_sweep_8 (by decide) ?_
  show mm_Z l G Y_Mo_sweep K M 0 0 9 [some (.inr (some a0)), some (.inl xa), some (.inl 0), some (.inl 0), none, none] [] M1
  exact h
set_option maxHeartbeats 4000000 in
set_option maxRecDepth 100000 in
theorem sg_Mo_sweep_9 {l : Launch} {G : mm_G} {K : Option mm_V → mm_M → Prop} {M0 M : mm_M} {bc bs : Nat} {a0 : Nat} {y1 : Int32} {y2 : Int32} {y3 : Int32}
    (h : (60 ≤ y3 → mm_Z l G Y_Mo_sweep K M0 bc bs 52 [some (.inr (some a0)), some (.inl y1), some (.inl y2), some (.inl 0), none, none] [] M) ∧ (¬ 60 ≤ y3 → mm_k M a0 = 9 ∧ ∃ a2 : Nat, (mm_p M a0 6) = some a2 ∧ mm_k M a2 = 100 ∧ ∃ j5 : Nat, y3 = nI j5 ∧ j5 < 2147483648 ∧ j5 < mm_l M a2 ∧ (¬ (mm_i M a2 j5) = (y1 + 1) → mm_Z l G Y_Mo_sweep K M0 bc bs 9 [some (.inr (some a0)), some (.inl y1), some (.inl y2), some (.inl (y3 + 1)), none, none] [] M) ∧ ((mm_i M a2 j5) = (y1 + 1) → ∃ a9 : Nat, (mm_p M a0 24) = some a9 ∧ mm_k M a9 = 101 ∧ ∃ j12 : Nat, y3 = nI j12 ∧ j12 < 2147483648 ∧ j12 < mm_l M a9 ∧ (¬ (mm_i M a9 j12) = 0 → mm_Z l G Y_Mo_sweep K M0 bc bs 9 [some (.inr (some a0)), some (.inl y1), some (.inl y2), some (.inl (y3 + 1)), none, none] [] M) ∧ ((mm_i M a9 j12) = 0 → mm_Ok l G yy_Mo_free Y_Mo_free [.inr (some a0), .inl y3] M (fun r M16 => mm_X M M16 → r = none ∧ mm_Z l G Y_Mo_sweep K M0 bc bs 9 [some (.inr (some a0)), some (.inl y1), some (.inl (y2 + 1)), some (.inl (y3 + 1)), none, none] [] M16))))) :
    mm_Z l G Y_Mo_sweep K M0 bc bs 9 [some (.inr (some a0)), some (.inl y1), some (.inl y2), some (.inl y3), none, none] [] M := by
  refine mr_iload_n dd_Mo_sweep_9 rfl ?_
  refine mr_bipush 60 dd_Mo_sweep_10 (by decide) ?_
  refine mr_icmp_ge 50 dd_Mo_sweep_12 (by decide) (fun hc12 => ?_) (fun hc12 => ?_)
  · have h := h.1 hc12
    refine mr_iconst 0 dd_Mo_sweep_50 (by decide) ?_
    refine mr_istore_n dd_Mo_sweep_51 (by decide) ?_
    show mm_Z l G Y_Mo_sweep K M0 bc bs 52 [some (.inr (some a0)), some (.inl y1), some (.inl y2), some (.inl 0), none, none] [] M
    exact h
  · have h := h.2 hc12
    refine mr_aload_n dd_Mo_sweep_15 rfl ?_
    obtain ⟨hk1, h⟩ := h
    refine mr_getr ff_Mo_26 dd_Mo_sweep_16 rs_8_6 rfl hk1 ?_
    refine mr_iload_n dd_Mo_sweep_19 rfl ?_
    obtain ⟨a2, ho3, h⟩ := h
    obtain ⟨hk4, h⟩ := h
    obtain ⟨j5, hj6, hm7, hl8, h⟩ := h
    refine mr_iald dd_Mo_sweep_20 ho3 hk4 hj6 hm7 hl8 ?_
    refine mr_iload_n dd_Mo_sweep_21 rfl ?_
    refine mr_iconst 1 dd_Mo_sweep_22 (by decide) ?_
    refine mr_iadd dd_Mo_sweep_23 ?_
    refine mr_icmp_ne 44 dd_Mo_sweep_24 (by decide) (fun hc24 => ?_) (fun hc24 => ?_)
    · have h := h.1 hc24
      refine mr_iinc 1 dd_Mo_sweep_44 rfl (by decide) (by decide) ?_
      show mm_Z l G Y_Mo_sweep K M0 bc bs 47 [some (.inr (some a0)), some (.inl y1), some (.inl y2), some (.inl (y3 + 1)), none, none] [] M
      refine mr_goto 9 dd_Mo_sweep_47 (by decide) ?_
      exact h
    · have h := h.2 hc24
      refine mr_aload_n dd_Mo_sweep_27 rfl ?_
      refine mr_getr ff_Mo_74 dd_Mo_sweep_28 rs_8_24 rfl hk1 ?_
      refine mr_iload_n dd_Mo_sweep_31 rfl ?_
      obtain ⟨a9, ho10, h⟩ := h
      obtain ⟨hk11, h⟩ := h
      obtain ⟨j12, hj13, hm14, hl15, h⟩ := h
      refine mr_zald dd_Mo_sweep_32 ho10 hk11 hj13 hm14 hl15 ?_
      refine mr_if_ne 44 dd_Mo_sweep_33 (by decide) (fun hc33 => ?_) (fun hc33 => ?_)
      · have h := h.1 hc33
        refine mr_iinc 1 dd_Mo_sweep_44 rfl (by decide) (by decide) ?_
        show mm_Z l G Y_Mo_sweep K M0 bc bs 47 [some (.inr (some a0)), some (.inl y1), some (.inl y2), some (.inl (y3 + 1)), none, none] [] M
        refine mr_goto 9 dd_Mo_sweep_47 (by decide) ?_
        exact h
      · have h := h.2 hc33
        refine mr_aload_n dd_Mo_sweep_36 rfl ?_
        refine mr_iload_n dd_Mo_sweep_37 rfl ?_
        refine mr_callV0 (Yc := Y_Mo_free) (M := M) (st := []) (vs := [.inl y3]) (ci := 8) fc_Mo_103 iv_Mo_free sv_Mo_free dd_Mo_sweep_38 ⟨Nat.le_of_ble_eq_true rfl, Nat.le_of_ble_eq_true rfl⟩ (by decide) rfl rfl (Nat.le_of_ble_eq_true rfl) rfl hk1 rfl rfl h (fun r M16 hX17 h => ?_)
        replace h := h hX17
        obtain ⟨rfl, h⟩ := h
        show mm_Z l G Y_Mo_sweep K M0 bc bs 41 [some (.inr (some a0)), some (.inl y1), some (.inl y2), some (.inl y3), none, none] [] M16
        refine mr_iinc 1 dd_Mo_sweep_41 rfl (by decide) (by decide) ?_
        show mm_Z l G Y_Mo_sweep K M0 bc bs 44 [some (.inr (some a0)), some (.inl y1), some (.inl (y2 + 1)), some (.inl y3), none, none] [] M16
        refine mr_iinc 1 dd_Mo_sweep_44 rfl (by decide) (by decide) ?_
        show mm_Z l G Y_Mo_sweep K M0 bc bs 47 [some (.inr (some a0)), some (.inl y1), some (.inl (y2 + 1)), some (.inl (y3 + 1)), none, none] [] M16
        refine mr_goto 9 dd_Mo_sweep_47 (by decide) ?_
        exact h
set_option maxHeartbeats 4000000 in
set_option maxRecDepth 100000 in
theorem sg_Mo_sweep_52 {l : Launch} {G : mm_G} {K : Option mm_V → mm_M → Prop} {M0 M : mm_M} {bc bs : Nat} {a0 : Nat} {y1 : Int32} {y2 : Int32} {y3 : Int32}
    (h : (60 ≤ y3 → mm_Z l G Y_Mo_sweep K M0 bc bs 105 [some (.inr (some a0)), some (.inl y1), some (.inl y2), some (.inl 0), none, none] [] M) ∧ (¬ 60 ≤ y3 → mm_k M a0 = 9 ∧ ∃ a2 : Nat, (mm_p M a0 21) = some a2 ∧ mm_k M a2 = 101 ∧ ∃ j5 : Nat, ((60 * y1) + y3) = nI j5 ∧ j5 < 2147483648 ∧ j5 < mm_l M a2 ∧ ((mm_i M a2 j5) = 0 → ∃ j9 : Nat, ((60 * y1) + y3) = nI j9 ∧ j9 < 2147483648 ∧ j9 < mm_l M a2 ∧ mm_Z l G Y_Mo_sweep K M0 bc bs 52 [some (.inr (some a0)), some (.inl y1), some (.inl y2), some (.inl (y3 + 1)), none, none] [] (mm_si M a2 j9 0)) ∧ (¬ (mm_i M a2 j5) = 0 → mm_Ok l G yy_Mo_inField Y_Mo_inField [.inr (some a0), .inl y1, .inl y3] M (fun r M13 => mm_X M M13 → ∃ x15 : Int32, r = some (.inl x15) ∧ (x15 = 0 → ∃ j16 : Nat, ((60 * y1) + y3) = nI j16 ∧ j16 < 2147483648 ∧ j16 < mm_l M13 a2 ∧ mm_Z l G Y_Mo_sweep K M0 bc bs 52 [some (.inr (some a0)), some (.inl y1), some (.inl y2), some (.inl (y3 + 1)), none, none] [] (mm_si M13 a2 j16 0)) ∧ (¬ x15 = 0 → ∃ j20 : Nat, ((60 * y1) + y3) = nI j20 ∧ j20 < 2147483648 ∧ j20 < mm_l M13 a2 ∧ mm_Z l G Y_Mo_sweep K M0 bc bs 52 [some (.inr (some a0)), some (.inl y1), some (.inl y2), some (.inl (y3 + 1)), none, none] [] (mm_si M13 a2 j20 1)))))) :
    mm_Z l G Y_Mo_sweep K M0 bc bs 52 [some (.inr (some a0)), some (.inl y1), some (.inl y2), some (.inl y3), none, none] [] M := by
  refine mr_iload_n dd_Mo_sweep_52 rfl ?_
  refine mr_bipush 60 dd_Mo_sweep_53 (by decide) ?_
  refine mr_icmp_ge 103 dd_Mo_sweep_55 (by decide) (fun hc55 => ?_) (fun hc55 => ?_)
  · have h := h.1 hc55
    refine mr_iconst 0 dd_Mo_sweep_103 (by decide) ?_
    refine mr_istore_n dd_Mo_sweep_104 (by decide) ?_
    show mm_Z l G Y_Mo_sweep K M0 bc bs 105 [some (.inr (some a0)), some (.inl y1), some (.inl y2), some (.inl 0), none, none] [] M
    exact h
  · have h := h.2 hc55
    refine mr_aload_n dd_Mo_sweep_58 rfl ?_
    obtain ⟨hk1, h⟩ := h
    refine mr_getr ff_Mo_65 dd_Mo_sweep_59 rs_8_21 rfl hk1 ?_
    refine mr_bipush 60 dd_Mo_sweep_62 (by decide) ?_
    refine mr_iload_n dd_Mo_sweep_64 rfl ?_
    refine mr_imul dd_Mo_sweep_65 ?_
    refine mr_iload_n dd_Mo_sweep_66 rfl ?_
    refine mr_iadd dd_Mo_sweep_67 ?_
    refine mr_aload_n dd_Mo_sweep_68 rfl ?_
    refine mr_getr ff_Mo_65 dd_Mo_sweep_69 rs_8_21 rfl hk1 ?_
    refine mr_bipush 60 dd_Mo_sweep_72 (by decide) ?_
    refine mr_iload_n dd_Mo_sweep_74 rfl ?_
    refine mr_imul dd_Mo_sweep_75 ?_
    refine mr_iload_n dd_Mo_sweep_76 rfl ?_
    refine mr_iadd dd_Mo_sweep_77 ?_
    obtain ⟨a2, ho3, h⟩ := h
    obtain ⟨hk4, h⟩ := h
    obtain ⟨j5, hj6, hm7, hl8, h⟩ := h
    refine mr_zald dd_Mo_sweep_78 ho3 hk4 hj6 hm7 hl8 ?_
    refine mr_if_eq 95 dd_Mo_sweep_79 (by decide) (fun hc79 => ?_) (fun hc79 => ?_)
    · have h := h.1 hc79
      refine mr_iconst 0 dd_Mo_sweep_95 (by decide) ?_
      obtain ⟨j9, hj10, hm11, hl12, h⟩ := h
      refine mr_zast dd_Mo_sweep_96 ho3 hk4 hj10 hm11 hl12 (Or.inl rfl) ?_
      refine mr_iinc 1 dd_Mo_sweep_97 rfl (by decide) (by decide) ?_
      show mm_Z l G Y_Mo_sweep K M0 bc bs 100 [some (.inr (some a0)), some (.inl y1), some (.inl y2), some (.inl (y3 + 1)), none, none] [] (mm_si M a2 j9 0)
      refine mr_goto 52 dd_Mo_sweep_100 (by decide) ?_
      exact h
    · have h := h.2 hc79
      refine mr_aload_n dd_Mo_sweep_82 rfl ?_
      refine mr_iload_n dd_Mo_sweep_83 rfl ?_
      refine mr_iload_n dd_Mo_sweep_84 rfl ?_
      refine mr_callV0 (Yc := Y_Mo_inField) (M := M) (st := [.inl ((60 * y1) + y3), .inr (mm_p M a0 21)]) (vs := [.inl y1, .inl y3]) (ci := 8) fc_Mo_106 iv_Mo_inField sv_Mo_inField dd_Mo_sweep_85 ⟨Nat.le_of_ble_eq_true rfl, Nat.le_of_ble_eq_true rfl⟩ (by decide) rfl rfl (Nat.le_of_ble_eq_true rfl) rfl hk1 rfl rfl h (fun r M13 hX14 h => ?_)
      replace h := h hX14
      obtain ⟨x15, rfl, h⟩ := h
      show mm_Z l G Y_Mo_sweep K M0 bc bs 88 [some (.inr (some a0)), some (.inl y1), some (.inl y2), some (.inl y3), none, none] [.inl x15, .inl ((60 * y1) + y3), .inr (mm_p M a0 21)] M13
      refine mr_if_eq 95 dd_Mo_sweep_88 (by decide) (fun hc88 => ?_) (fun hc88 => ?_)
      · have h := h.1 hc88
        refine mr_iconst 0 dd_Mo_sweep_95 (by decide) ?_
        obtain ⟨j16, hj17, hm18, hl19, h⟩ := h
        refine mr_zast dd_Mo_sweep_96 ho3 (mm_Xk hX14 hk4 (by decide)) hj17 hm18 hl19 (Or.inl rfl) ?_
        refine mr_iinc 1 dd_Mo_sweep_97 rfl (by decide) (by decide) ?_
        show mm_Z l G Y_Mo_sweep K M0 bc bs 100 [some (.inr (some a0)), some (.inl y1), some (.inl y2), some (.inl (y3 + 1)), none, none] [] (mm_si M13 a2 j16 0)
        refine mr_goto 52 dd_Mo_sweep_100 (by decide) ?_
        exact h
      · have h := h.2 hc88
        refine mr_iconst 1 dd_Mo_sweep_91 (by decide) ?_
        refine mr_goto 96 dd_Mo_sweep_92 (by decide) ?_
        obtain ⟨j20, hj21, hm22, hl23, h⟩ := h
        refine mr_zast dd_Mo_sweep_96 ho3 (mm_Xk hX14 hk4 (by decide)) hj21 hm22 hl23 (Or.inr rfl) ?_
        refine mr_iinc 1 dd_Mo_sweep_97 rfl (by decide) (by decide) ?_
        show mm_Z l G Y_Mo_sweep K M0 bc bs 100 [some (.inr (some a0)), some (.inl y1), some (.inl y2), some (.inl (y3 + 1)), none, none] [] (mm_si M13 a2 j20 1)
        refine mr_goto 52 dd_Mo_sweep_100 (by decide) ?_
        exact h
set_option maxHeartbeats 4000000 in
set_option maxRecDepth 100000 in
theorem sg_Mo_sweep_105 {l : Launch} {G : mm_G} {K : Option mm_V → mm_M → Prop} {M0 M : mm_M} {bc bs : Nat} {a0 : Nat} {y1 : Int32} {y2 : Int32} {y3 : Int32}
    (h : (4 ≤ y3 → mm_k M a0 = 9 ∧ mm_Ok l G yy_Mo_vanish Y_Mo_vanish [.inr (some a0)] M (fun r M1 => mm_X M M1 → r = none ∧ K (some (.inl y2)) M1)) ∧ (¬ 4 ≤ y3 → (8 ≤ y1 → mm_Z l G Y_Mo_sweep K M0 bc bs 180 [some (.inr (some a0)), some (.inl y1), some (.inl y2), some (.inl y3), some (.inl (9 + y3)), some (.inl 0)] [] M) ∧ (¬ 8 ≤ y1 → mm_k M a0 = 9 ∧ ∃ a5 : Nat, (mm_p M a0 19) = some a5 ∧ mm_k M a5 = 101 ∧ ∃ j8 : Nat, ((4 * y1) + y3) = nI j8 ∧ j8 < 2147483648 ∧ j8 < mm_l M a5 ∧ ((mm_i M a5 j8) = 0 → mm_Z l G Y_Mo_sweep K M0 bc bs 180 [some (.inr (some a0)), some (.inl y1), some (.inl y2), some (.inl y3), some (.inl (9 + y3)), some (.inl 0)] [] M) ∧ (¬ (mm_i M a5 j8) = 0 → mm_Ok l G yy_Mo_names Y_Mo_names [.inr (some a0), .inl y1, .inl (9 + y3)] M (fun r M12 => mm_X M M12 → ∃ x14 : Int32, r = some (.inl x14) ∧ (¬ x14 = 0 → mm_Z l G Y_Mo_sweep K M0 bc bs 180 [some (.inr (some a0)), some (.inl y1), some (.inl y2), some (.inl y3), some (.inl (9 + y3)), some (.inl 0)] [] M12) ∧ (x14 = 0 → mm_Ok l G yy_Mo_holds Y_Mo_holds [.inr (some a0), .inl y1, .inl (9 + y3)] M12 (fun r M15 => mm_X M12 M15 → ∃ x17 : Int32, r = some (.inl x17) ∧ (¬ x17 = 0 → mm_Z l G Y_Mo_sweep K M0 bc bs 180 [some (.inr (some a0)), some (.inl y1), some (.inl y2), some (.inl y3), some (.inl (9 + y3)), some (.inl 0)] [] M15) ∧ (x17 = 0 → ∃ a18 : Nat, (mm_p M15 a0 19) = some a18 ∧ mm_k M15 a18 = 101 ∧ ∃ j21 : Nat, ((4 * y1) + y3) = nI j21 ∧ j21 < 2147483648 ∧ j21 < mm_l M15 a18 ∧ ∃ a25 : Nat, (mm_p (mm_si M15 a18 j21 0) a0 20) = some a25 ∧ mm_k (mm_si M15 a18 j21 0) a25 = 101 ∧ ∃ j28 : Nat, ((4 * y1) + y3) = nI j28 ∧ j28 < 2147483648 ∧ j28 < mm_l (mm_si M15 a18 j21 0) a25 ∧ mm_Z l G Y_Mo_sweep K M0 bc bs 180 [some (.inr (some a0)), some (.inl y1), some (.inl y2), some (.inl y3), some (.inl (9 + y3)), some (.inl 0)] [] (mm_si (mm_si M15 a18 j21 0) a25 j28 0))))))))) :
    mm_Z l G Y_Mo_sweep K M0 bc bs 105 [some (.inr (some a0)), some (.inl y1), some (.inl y2), some (.inl y3), none, none] [] M := by
  refine mr_iload_n dd_Mo_sweep_105 rfl ?_
  refine mr_iconst 4 dd_Mo_sweep_106 (by decide) ?_
  refine mr_icmp_ge 239 dd_Mo_sweep_107 (by decide) (fun hc107 => ?_) (fun hc107 => ?_)
  · have h := h.1 hc107
    refine mr_aload_n dd_Mo_sweep_239 rfl ?_
    obtain ⟨hk3, h⟩ := h
    refine mr_callV0 (Yc := Y_Mo_vanish) (M := M) (st := []) (vs := []) (ci := 8) fc_Mo_115 iv_Mo_vanish sv_Mo_vanish dd_Mo_sweep_240 ⟨Nat.le_of_ble_eq_true rfl, Nat.le_of_ble_eq_true rfl⟩ (by decide) rfl rfl (Nat.le_of_ble_eq_true rfl) rfl hk3 rfl rfl h (fun r M1 hX2 h => ?_)
    replace h := h hX2
    obtain ⟨rfl, h⟩ := h
    show mm_Z l G Y_Mo_sweep K M0 bc bs 243 [some (.inr (some a0)), some (.inl y1), some (.inl y2), some (.inl y3), none, none] [] M1
    refine mr_iload_n dd_Mo_sweep_243 rfl ?_
    exact mr_ireturn dd_Mo_sweep_244 rfl h
  · have h := h.2 hc107
    refine mr_bipush 9 dd_Mo_sweep_110 (by decide) ?_
    refine mr_iload_n dd_Mo_sweep_112 rfl ?_
    refine mr_iadd dd_Mo_sweep_113 ?_
    refine mr_istore dd_Mo_sweep_114 (by decide) ?_
    show mm_Z l G Y_Mo_sweep K M0 bc bs 116 [some (.inr (some a0)), some (.inl y1), some (.inl y2), some (.inl y3), some (.inl (9 + y3)), none] [] M
    refine mr_iload_n dd_Mo_sweep_116 rfl ?_
    refine mr_bipush 8 dd_Mo_sweep_117 (by decide) ?_
    refine mr_icmp_ge 177 dd_Mo_sweep_119 (by decide) (fun hc119 => ?_) (fun hc119 => ?_)
    · have h := h.1 hc119
      refine mr_iconst 0 dd_Mo_sweep_177 (by decide) ?_
      refine mr_istore dd_Mo_sweep_178 (by decide) ?_
      show mm_Z l G Y_Mo_sweep K M0 bc bs 180 [some (.inr (some a0)), some (.inl y1), some (.inl y2), some (.inl y3), some (.inl (9 + y3)), some (.inl 0)] [] M
      exact h
    · have h := h.2 hc119
      refine mr_aload_n dd_Mo_sweep_122 rfl ?_
      obtain ⟨hk4, h⟩ := h
      refine mr_getr ff_Mo_59 dd_Mo_sweep_123 rs_8_19 rfl hk4 ?_
      refine mr_iconst 4 dd_Mo_sweep_126 (by decide) ?_
      refine mr_iload_n dd_Mo_sweep_127 rfl ?_
      refine mr_imul dd_Mo_sweep_128 ?_
      refine mr_iload_n dd_Mo_sweep_129 rfl ?_
      refine mr_iadd dd_Mo_sweep_130 ?_
      obtain ⟨a5, ho6, h⟩ := h
      obtain ⟨hk7, h⟩ := h
      obtain ⟨j8, hj9, hm10, hl11, h⟩ := h
      refine mr_zald dd_Mo_sweep_131 ho6 hk7 hj9 hm10 hl11 ?_
      refine mr_if_eq 177 dd_Mo_sweep_132 (by decide) (fun hc132 => ?_) (fun hc132 => ?_)
      · have h := h.1 hc132
        refine mr_iconst 0 dd_Mo_sweep_177 (by decide) ?_
        refine mr_istore dd_Mo_sweep_178 (by decide) ?_
        show mm_Z l G Y_Mo_sweep K M0 bc bs 180 [some (.inr (some a0)), some (.inl y1), some (.inl y2), some (.inl y3), some (.inl (9 + y3)), some (.inl 0)] [] M
        exact h
      · have h := h.2 hc132
        refine mr_aload_n dd_Mo_sweep_135 rfl ?_
        refine mr_iload_n dd_Mo_sweep_136 rfl ?_
        refine mr_iload dd_Mo_sweep_137 rfl ?_
        refine mr_callV0 (Yc := Y_Mo_names) (M := M) (st := []) (vs := [.inl y1, .inl (9 + y3)]) (ci := 8) fc_Mo_109 iv_Mo_names sv_Mo_names dd_Mo_sweep_139 ⟨Nat.le_of_ble_eq_true rfl, Nat.le_of_ble_eq_true rfl⟩ (by decide) rfl rfl (Nat.le_of_ble_eq_true rfl) rfl hk4 rfl rfl h (fun r M12 hX13 h => ?_)
        replace h := h hX13
        obtain ⟨x14, rfl, h⟩ := h
        show mm_Z l G Y_Mo_sweep K M0 bc bs 142 [some (.inr (some a0)), some (.inl y1), some (.inl y2), some (.inl y3), some (.inl (9 + y3)), none] [.inl x14] M12
        refine mr_if_ne 177 dd_Mo_sweep_142 (by decide) (fun hc142 => ?_) (fun hc142 => ?_)
        · have h := h.1 hc142
          refine mr_iconst 0 dd_Mo_sweep_177 (by decide) ?_
          refine mr_istore dd_Mo_sweep_178 (by decide) ?_
          show mm_Z l G Y_Mo_sweep K M0 bc bs 180 [some (.inr (some a0)), some (.inl y1), some (.inl y2), some (.inl y3), some (.inl (9 + y3)), some (.inl 0)] [] M12
          exact h
        · have h := h.2 hc142
          refine mr_aload_n dd_Mo_sweep_145 rfl ?_
          refine mr_iload_n dd_Mo_sweep_146 rfl ?_
          refine mr_iload dd_Mo_sweep_147 rfl ?_
          refine mr_callV0 (Yc := Y_Mo_holds) (M := M12) (st := []) (vs := [.inl y1, .inl (9 + y3)]) (ci := 8) fc_Mo_112 iv_Mo_holds sv_Mo_holds dd_Mo_sweep_149 ⟨Nat.le_of_ble_eq_true rfl, Nat.le_of_ble_eq_true rfl⟩ (by decide) rfl rfl (Nat.le_of_ble_eq_true rfl) rfl (mm_Xk hX13 hk4 (by decide)) rfl rfl h (fun r M15 hX16 h => ?_)
          replace h := h hX16
          obtain ⟨x17, rfl, h⟩ := h
          show mm_Z l G Y_Mo_sweep K M0 bc bs 152 [some (.inr (some a0)), some (.inl y1), some (.inl y2), some (.inl y3), some (.inl (9 + y3)), none] [.inl x17] M15
          refine mr_if_ne 177 dd_Mo_sweep_152 (by decide) (fun hc152 => ?_) (fun hc152 => ?_)
          · have h := h.1 hc152
            refine mr_iconst 0 dd_Mo_sweep_177 (by decide) ?_
            refine mr_istore dd_Mo_sweep_178 (by decide) ?_
            show mm_Z l G Y_Mo_sweep K M0 bc bs 180 [some (.inr (some a0)), some (.inl y1), some (.inl y2), some (.inl y3), some (.inl (9 + y3)), some (.inl 0)] [] M15
            exact h
          · have h := h.2 hc152
            refine mr_aload_n dd_Mo_sweep_155 rfl ?_
            refine mr_getr ff_Mo_59 dd_Mo_sweep_156 rs_8_19 rfl (mm_Xk hX16 (mm_Xk hX13 hk4 (by decide)) (by decide)) ?_
            refine mr_iconst 4 dd_Mo_sweep_159 (by decide) ?_
            refine mr_iload_n dd_Mo_sweep_160 rfl ?_
            refine mr_imul dd_Mo_sweep_161 ?_
            refine mr_iload_n dd_Mo_sweep_162 rfl ?_
            refine mr_iadd dd_Mo_sweep_163 ?_
            refine mr_iconst 0 dd_Mo_sweep_164 (by decide) ?_
            obtain ⟨a18, ho19, h⟩ := h
            obtain ⟨hk20, h⟩ := h
            obtain ⟨j21, hj22, hm23, hl24, h⟩ := h
            refine mr_zast dd_Mo_sweep_165 ho19 hk20 hj22 hm23 hl24 (Or.inl rfl) ?_
            refine mr_aload_n dd_Mo_sweep_166 rfl ?_
            refine mr_getr ff_Mo_62 dd_Mo_sweep_167 rs_8_20 rfl (mm_Xk hX16 (mm_Xk hX13 hk4 (by decide)) (by decide)) ?_
            refine mr_iconst 4 dd_Mo_sweep_170 (by decide) ?_
            refine mr_iload_n dd_Mo_sweep_171 rfl ?_
            refine mr_imul dd_Mo_sweep_172 ?_
            refine mr_iload_n dd_Mo_sweep_173 rfl ?_
            refine mr_iadd dd_Mo_sweep_174 ?_
            refine mr_iconst 0 dd_Mo_sweep_175 (by decide) ?_
            obtain ⟨a25, ho26, h⟩ := h
            obtain ⟨hk27, h⟩ := h
            obtain ⟨j28, hj29, hm30, hl31, h⟩ := h
            refine mr_zast dd_Mo_sweep_176 ho26 hk27 hj29 hm30 hl31 (Or.inl rfl) ?_
            refine mr_iconst 0 dd_Mo_sweep_177 (by decide) ?_
            refine mr_istore dd_Mo_sweep_178 (by decide) ?_
            show mm_Z l G Y_Mo_sweep K M0 bc bs 180 [some (.inr (some a0)), some (.inl y1), some (.inl y2), some (.inl y3), some (.inl (9 + y3)), some (.inl 0)] [] (mm_si (mm_si M15 a18 j21 0) a25 j28 0)
            exact h
set_option maxHeartbeats 4000000 in
set_option maxRecDepth 100000 in
theorem sg_Mo_sweep_180 {l : Launch} {G : mm_G} {K : Option mm_V → mm_M → Prop} {M0 M : mm_M} {bc bs : Nat} {a0 : Nat} {y1 : Int32} {y2 : Int32} {y3 : Int32} {y4 : Int32} {y5 : Int32}
    (h : (8 ≤ y5 → mm_Z l G Y_Mo_sweep K M0 bc bs 105 [some (.inr (some a0)), some (.inl y1), some (.inl y2), some (.inl (y3 + 1)), none, none] [] M) ∧ (¬ 8 ≤ y5 → (¬ y1 = 8 → mm_Z l G Y_Mo_sweep K M0 bc bs 180 [some (.inr (some a0)), some (.inl y1), some (.inl y2), some (.inl y3), some (.inl y4), some (.inl (y5 + 1))] [] M) ∧ (y1 = 8 → mm_k M a0 = 9 ∧ ∃ a2 : Nat, (mm_p M a0 0) = some a2 ∧ mm_k M a2 = 100 ∧ ∃ j5 : Nat, y5 = nI j5 ∧ j5 < 2147483648 ∧ j5 < mm_l M a2 ∧ (¬ (mm_i M a2 j5) = 4 → mm_Z l G Y_Mo_sweep K M0 bc bs 180 [some (.inr (some a0)), some (.inl y1), some (.inl y2), some (.inl y3), some (.inl y4), some (.inl (y5 + 1))] [] M) ∧ ((mm_i M a2 j5) = 4 → mm_Ok l G yy_Mo_names Y_Mo_names [.inr (some a0), .inl 8, .inl y4] M (fun r M9 => mm_X M M9 → ∃ x11 : Int32, r = some (.inl x11) ∧ (¬ x11 = 0 → mm_Z l G Y_Mo_sweep K M0 bc bs 180 [some (.inr (some a0)), some (.inl y1), some (.inl y2), some (.inl y3), some (.inl y4), some (.inl (y5 + 1))] [] M9) ∧ (x11 = 0 → ∃ a12 : Nat, (mm_p M9 a0 20) = some a12 ∧ mm_k M9 a12 = 101 ∧ ∃ j15 : Nat, ((4 * y5) + y3) = nI j15 ∧ j15 < 2147483648 ∧ j15 < mm_l M9 a12 ∧ mm_Z l G Y_Mo_sweep K M0 bc bs 180 [some (.inr (some a0)), some (.inl y1), some (.inl y2), some (.inl y3), some (.inl y4), some (.inl (y5 + 1))] [] (mm_si M9 a12 j15 0))))))) :
    mm_Z l G Y_Mo_sweep K M0 bc bs 180 [some (.inr (some a0)), some (.inl y1), some (.inl y2), some (.inl y3), some (.inl y4), some (.inl y5)] [] M := by
  refine mr_iload dd_Mo_sweep_180 rfl ?_
  refine mr_bipush 8 dd_Mo_sweep_182 (by decide) ?_
  refine mr_icmp_ge 233 dd_Mo_sweep_184 (by decide) (fun hc184 => ?_) (fun hc184 => ?_)
  · have h := h.1 hc184
    refine mr_iinc 1 dd_Mo_sweep_233 rfl (by decide) (by decide) ?_
    show mm_Z l G Y_Mo_sweep K M0 bc bs 236 [some (.inr (some a0)), some (.inl y1), some (.inl y2), some (.inl (y3 + 1)), some (.inl y4), some (.inl y5)] [] M
    refine mr_goto 105 dd_Mo_sweep_236 (by decide) ?_
    exact mm_fg (mm_leq (mm_le_s (mm_le_s (mm_le_s (mm_le_s (mm_le_n (mm_le_n mm_le_e))))))) h
  · have h := h.2 hc184
    refine mr_iload_n dd_Mo_sweep_187 rfl ?_
    refine mr_bipush 8 dd_Mo_sweep_188 (by decide) ?_
    refine mr_icmp_ne 227 dd_Mo_sweep_190 (by decide) (fun hc190 => ?_) (fun hc190 => ?_)
    · have h := h.1 hc190
      refine mr_iinc 1 dd_Mo_sweep_227 rfl (by decide) (by decide) ?_
      show mm_Z l G Y_Mo_sweep K M0 bc bs 230 [some (.inr (some a0)), some (.inl y1), some (.inl y2), some (.inl y3), some (.inl y4), some (.inl (y5 + 1))] [] M
      refine mr_goto 180 dd_Mo_sweep_230 (by decide) ?_
      exact h
    · have h := h.2 hc190
      refine mr_aload_n dd_Mo_sweep_193 rfl ?_
      obtain ⟨hk1, h⟩ := h
      refine mr_getr ff_Mo_7 dd_Mo_sweep_194 rs_8_0 rfl hk1 ?_
      refine mr_iload dd_Mo_sweep_197 rfl ?_
      obtain ⟨a2, ho3, h⟩ := h
      obtain ⟨hk4, h⟩ := h
      obtain ⟨j5, hj6, hm7, hl8, h⟩ := h
      refine mr_iald dd_Mo_sweep_199 ho3 hk4 hj6 hm7 hl8 ?_
      refine mr_iconst 4 dd_Mo_sweep_200 (by decide) ?_
      refine mr_icmp_ne 227 dd_Mo_sweep_201 (by decide) (fun hc201 => ?_) (fun hc201 => ?_)
      · have h := h.1 hc201
        refine mr_iinc 1 dd_Mo_sweep_227 rfl (by decide) (by decide) ?_
        show mm_Z l G Y_Mo_sweep K M0 bc bs 230 [some (.inr (some a0)), some (.inl y1), some (.inl y2), some (.inl y3), some (.inl y4), some (.inl (y5 + 1))] [] M
        refine mr_goto 180 dd_Mo_sweep_230 (by decide) ?_
        exact h
      · have h := h.2 hc201
        refine mr_aload_n dd_Mo_sweep_204 rfl ?_
        refine mr_bipush 8 dd_Mo_sweep_205 (by decide) ?_
        refine mr_iload dd_Mo_sweep_207 rfl ?_
        refine mr_callV0 (Yc := Y_Mo_names) (M := M) (st := []) (vs := [.inl 8, .inl y4]) (ci := 8) fc_Mo_109 iv_Mo_names sv_Mo_names dd_Mo_sweep_209 ⟨Nat.le_of_ble_eq_true rfl, Nat.le_of_ble_eq_true rfl⟩ (by decide) rfl rfl (Nat.le_of_ble_eq_true rfl) rfl hk1 rfl rfl h (fun r M9 hX10 h => ?_)
        replace h := h hX10
        obtain ⟨x11, rfl, h⟩ := h
        show mm_Z l G Y_Mo_sweep K M0 bc bs 212 [some (.inr (some a0)), some (.inl y1), some (.inl y2), some (.inl y3), some (.inl y4), some (.inl y5)] [.inl x11] M9
        refine mr_if_ne 227 dd_Mo_sweep_212 (by decide) (fun hc212 => ?_) (fun hc212 => ?_)
        · have h := h.1 hc212
          refine mr_iinc 1 dd_Mo_sweep_227 rfl (by decide) (by decide) ?_
          show mm_Z l G Y_Mo_sweep K M0 bc bs 230 [some (.inr (some a0)), some (.inl y1), some (.inl y2), some (.inl y3), some (.inl y4), some (.inl (y5 + 1))] [] M9
          refine mr_goto 180 dd_Mo_sweep_230 (by decide) ?_
          exact h
        · have h := h.2 hc212
          refine mr_aload_n dd_Mo_sweep_215 rfl ?_
          refine mr_getr ff_Mo_62 dd_Mo_sweep_216 rs_8_20 rfl (mm_Xk hX10 hk1 (by decide)) ?_
          refine mr_iconst 4 dd_Mo_sweep_219 (by decide) ?_
          refine mr_iload dd_Mo_sweep_220 rfl ?_
          refine mr_imul dd_Mo_sweep_222 ?_
          refine mr_iload_n dd_Mo_sweep_223 rfl ?_
          refine mr_iadd dd_Mo_sweep_224 ?_
          refine mr_iconst 0 dd_Mo_sweep_225 (by decide) ?_
          obtain ⟨a12, ho13, h⟩ := h
          obtain ⟨hk14, h⟩ := h
          obtain ⟨j15, hj16, hm17, hl18, h⟩ := h
          refine mr_zast dd_Mo_sweep_226 ho13 hk14 hj16 hm17 hl18 (Or.inl rfl) ?_
          refine mr_iinc 1 dd_Mo_sweep_227 rfl (by decide) (by decide) ?_
          show mm_Z l G Y_Mo_sweep K M0 bc bs 230 [some (.inr (some a0)), some (.inl y1), some (.inl y2), some (.inl y3), some (.inl y4), some (.inl (y5 + 1))] [] (mm_si M9 a12 j15 0)
          refine mr_goto 180 dd_Mo_sweep_230 (by decide) ?_
          exact h
set_option maxHeartbeats 4000000 in
set_option maxRecDepth 100000 in
theorem sg_Mo_vanish {l : Launch} {G : mm_G} {K : Option mm_V → mm_M → Prop} {M : mm_M} {a0 : Nat}
    (h : mm_Z l G Y_Mo_vanish K M 0 0 2 [some (.inr (some a0)), some (.inl 0), none, none] [] M) :
    mm_Ok l G yy_Mo_vanish Y_Mo_vanish [.inr (some a0)] M K := by
  refine mm_go (by decide) rfl (fun q => by cases q) (Nat.le_of_ble_eq_true rfl) ?_
  show mm_Z l G Y_Mo_vanish K M 0 0 0 [some (.inr (some a0)), none, none, none] [] M
  refine mr_iconst 0 dd_Mo_vanish_0 (by decide) ?_
  refine mr_istore_n dd_Mo_vanish_1 (by decide) ?_
  show mm_Z l G Y_Mo_vanish K M 0 0 2 [some (.inr (some a0)), some (.inl 0), none, none] [] M
  exact h
set_option maxHeartbeats 4000000 in
set_option maxRecDepth 100000 in
theorem sg_Mo_vanish_2 {l : Launch} {G : mm_G} {K : Option mm_V → mm_M → Prop} {M0 M : mm_M} {bc bs : Nat} {a0 : Nat} {y1 : Int32}
    (h : (4 ≤ y1 → K none M) ∧ (¬ 4 ≤ y1 → mm_k M a0 = 9 ∧ mm_Ok l G yy_Mo_names Y_Mo_names [.inr (some a0), .inl 8, .inl (9 + y1)] M (fun r M1 => mm_X M M1 → ∃ x4 : Int32, r = some (.inl x4) ∧ mm_Z l G Y_Mo_vanish K M0 bc bs 20 [some (.inr (some a0)), some (.inl y1), some (.inl x4), some (.inl 0)] [] M1))) :
    mm_Z l G Y_Mo_vanish K M0 bc bs 2 [some (.inr (some a0)), some (.inl y1), none, none] [] M := by
  refine mr_iload_n dd_Mo_vanish_2 rfl ?_
  refine mr_iconst 4 dd_Mo_vanish_3 (by decide) ?_
  refine mr_icmp_ge 147 dd_Mo_vanish_4 (by decide) (fun hc4 => ?_) (fun hc4 => ?_)
  · have h := h.1 hc4
    exact mr_return dd_Mo_vanish_147 rfl h
  · have h := h.2 hc4
    refine mr_aload_n dd_Mo_vanish_7 rfl ?_
    refine mr_bipush 8 dd_Mo_vanish_8 (by decide) ?_
    refine mr_bipush 9 dd_Mo_vanish_10 (by decide) ?_
    refine mr_iload_n dd_Mo_vanish_12 rfl ?_
    refine mr_iadd dd_Mo_vanish_13 ?_
    obtain ⟨hk3, h⟩ := h
    refine mr_callV0 (Yc := Y_Mo_names) (M := M) (st := []) (vs := [.inl 8, .inl (9 + y1)]) (ci := 8) fc_Mo_109 iv_Mo_names sv_Mo_names dd_Mo_vanish_14 ⟨Nat.le_of_ble_eq_true rfl, Nat.le_of_ble_eq_true rfl⟩ (by decide) rfl rfl (Nat.le_of_ble_eq_true rfl) rfl hk3 rfl rfl h (fun r M1 hX2 h => ?_)
    replace h := h hX2
    obtain ⟨x4, rfl, h⟩ := h
    show mm_Z l G Y_Mo_vanish K M0 bc bs 17 [some (.inr (some a0)), some (.inl y1), none, none] [.inl x4] M1
    refine mr_istore_n dd_Mo_vanish_17 (by decide) ?_
    show mm_Z l G Y_Mo_vanish K M0 bc bs 18 [some (.inr (some a0)), some (.inl y1), some (.inl x4), none] [] M1
    refine mr_iconst 0 dd_Mo_vanish_18 (by decide) ?_
    refine mr_istore_n dd_Mo_vanish_19 (by decide) ?_
    show mm_Z l G Y_Mo_vanish K M0 bc bs 20 [some (.inr (some a0)), some (.inl y1), some (.inl x4), some (.inl 0)] [] M1
    exact h
set_option maxHeartbeats 4000000 in
set_option maxRecDepth 100000 in
theorem sg_Mo_vanish_20 {l : Launch} {G : mm_G} {K : Option mm_V → mm_M → Prop} {M0 M : mm_M} {bc bs : Nat} {a0 : Nat} {y1 : Int32} {y2 : Int32} {y3 : Int32}
    (h : (8 ≤ y3 → mm_k M a0 = 9 ∧ ∃ a2 : Nat, (mm_p M a0 15) = some a2 ∧ mm_k M a2 = 100 ∧ ∃ j5 : Nat, y1 = nI j5 ∧ j5 < 2147483648 ∧ j5 < mm_l M a2 ∧ (¬ (mm_i M a2 j5) = 2 → mm_Z l G Y_Mo_vanish K M0 bc bs 2 [some (.inr (some a0)), some (.inl (y1 + 1)), none, none] [] M) ∧ ((mm_i M a2 j5) = 2 → (¬ y2 = 0 → mm_Z l G Y_Mo_vanish K M0 bc bs 2 [some (.inr (some a0)), some (.inl (y1 + 1)), none, none] [] M) ∧ (y2 = 0 → mm_Z l G Y_Mo_vanish K M0 bc bs 79 [some (.inr (some a0)), some (.inl y1), some (.inl y2), some (.inl 0)] [] M))) ∧ (¬ 8 ≤ y3 → (¬ y2 = 0 → mm_Z l G Y_Mo_vanish K M0 bc bs 20 [some (.inr (some a0)), some (.inl y1), some (.inl 1), some (.inl (y3 + 1))] [] M) ∧ (y2 = 0 → mm_k M a0 = 9 ∧ mm_Ok l G yy_Mo_lives Y_Mo_lives [.inr (some a0), .inl y3] M (fun r M9 => mm_X M M9 → ∃ x12 : Int32, r = some (.inl x12) ∧ (x12 = 0 → mm_Z l G Y_Mo_vanish K M0 bc bs 20 [some (.inr (some a0)), some (.inl y1), some (.inl 0), some (.inl (y3 + 1))] [] M9) ∧ (¬ x12 = 0 → ∃ a13 : Nat, (mm_p M9 a0 19) = some a13 ∧ mm_k M9 a13 = 101 ∧ ∃ j16 : Nat, ((4 * y3) + y1) = nI j16 ∧ j16 < 2147483648 ∧ j16 < mm_l M9 a13 ∧ ((mm_i M9 a13 j16) = 0 → mm_Z l G Y_Mo_vanish K M0 bc bs 20 [some (.inr (some a0)), some (.inl y1), some (.inl 0), some (.inl (y3 + 1))] [] M9) ∧ (¬ (mm_i M9 a13 j16) = 0 → mm_Z l G Y_Mo_vanish K M0 bc bs 20 [some (.inr (some a0)), some (.inl y1), some (.inl 1), some (.inl (y3 + 1))] [] M9)))))) :
    mm_Z l G Y_Mo_vanish K M0 bc bs 20 [some (.inr (some a0)), some (.inl y1), some (.inl y2), some (.inl y3)] [] M := by
  refine mr_iload_n dd_Mo_vanish_20 rfl ?_
  refine mr_bipush 8 dd_Mo_vanish_21 (by decide) ?_
  refine mr_icmp_ge 63 dd_Mo_vanish_23 (by decide) (fun hc23 => ?_) (fun hc23 => ?_)
  · have h := h.1 hc23
    refine mr_aload_n dd_Mo_vanish_63 rfl ?_
    obtain ⟨hk1, h⟩ := h
    refine mr_getr ff_Mo_50 dd_Mo_vanish_64 rs_8_15 rfl hk1 ?_
    refine mr_iload_n dd_Mo_vanish_67 rfl ?_
    obtain ⟨a2, ho3, h⟩ := h
    obtain ⟨hk4, h⟩ := h
    obtain ⟨j5, hj6, hm7, hl8, h⟩ := h
    refine mr_iald dd_Mo_vanish_68 ho3 hk4 hj6 hm7 hl8 ?_
    refine mr_iconst 2 dd_Mo_vanish_69 (by decide) ?_
    refine mr_icmp_ne 141 dd_Mo_vanish_70 (by decide) (fun hc70 => ?_) (fun hc70 => ?_)
    · have h := h.1 hc70
      refine mr_iinc 1 dd_Mo_vanish_141 rfl (by decide) (by decide) ?_
      show mm_Z l G Y_Mo_vanish K M0 bc bs 144 [some (.inr (some a0)), some (.inl (y1 + 1)), some (.inl y2), some (.inl y3)] [] M
      refine mr_goto 2 dd_Mo_vanish_144 (by decide) ?_
      exact mm_fg (mm_leq (mm_le_s (mm_le_s (mm_le_n (mm_le_n mm_le_e))))) h
    · have h := h.2 hc70
      refine mr_iload_n dd_Mo_vanish_73 rfl ?_
      refine mr_if_ne 141 dd_Mo_vanish_74 (by decide) (fun hc74 => ?_) (fun hc74 => ?_)
      · have h := h.1 hc74
        refine mr_iinc 1 dd_Mo_vanish_141 rfl (by decide) (by decide) ?_
        show mm_Z l G Y_Mo_vanish K M0 bc bs 144 [some (.inr (some a0)), some (.inl (y1 + 1)), some (.inl y2), some (.inl y3)] [] M
        refine mr_goto 2 dd_Mo_vanish_144 (by decide) ?_
        exact mm_fg (mm_leq (mm_le_s (mm_le_s (mm_le_n (mm_le_n mm_le_e))))) h
      · have h := h.2 hc74
        refine mr_iconst 0 dd_Mo_vanish_77 (by decide) ?_
        refine mr_istore_n dd_Mo_vanish_78 (by decide) ?_
        show mm_Z l G Y_Mo_vanish K M0 bc bs 79 [some (.inr (some a0)), some (.inl y1), some (.inl y2), some (.inl 0)] [] M
        exact h
  · have h := h.2 hc23
    refine mr_iload_n dd_Mo_vanish_26 rfl ?_
    refine mr_if_ne 51 dd_Mo_vanish_27 (by decide) (fun hc27 => ?_) (fun hc27 => ?_)
    · have h := h.1 hc27
      refine mr_iconst 1 dd_Mo_vanish_51 (by decide) ?_
      refine mr_goto 56 dd_Mo_vanish_52 (by decide) ?_
      refine mr_istore_n dd_Mo_vanish_56 (by decide) ?_
      show mm_Z l G Y_Mo_vanish K M0 bc bs 57 [some (.inr (some a0)), some (.inl y1), some (.inl 1), some (.inl y3)] [] M
      refine mr_iinc 1 dd_Mo_vanish_57 rfl (by decide) (by decide) ?_
      show mm_Z l G Y_Mo_vanish K M0 bc bs 60 [some (.inr (some a0)), some (.inl y1), some (.inl 1), some (.inl (y3 + 1))] [] M
      refine mr_goto 20 dd_Mo_vanish_60 (by decide) ?_
      exact h
    · have h := h.2 hc27
      refine mr_aload_n dd_Mo_vanish_30 rfl ?_
      refine mr_iload_n dd_Mo_vanish_31 rfl ?_
      obtain ⟨hk11, h⟩ := h
      refine mr_callV0 (Yc := Y_Mo_lives) (M := M) (st := []) (vs := [.inl y3]) (ci := 8) fc_Mo_89 iv_Mo_lives sv_Mo_lives dd_Mo_vanish_32 ⟨Nat.le_of_ble_eq_true rfl, Nat.le_of_ble_eq_true rfl⟩ (by decide) rfl rfl (Nat.le_of_ble_eq_true rfl) rfl hk11 rfl rfl h (fun r M9 hX10 h => ?_)
      replace h := h hX10
      obtain ⟨x12, rfl, h⟩ := h
      show mm_Z l G Y_Mo_vanish K M0 bc bs 35 [some (.inr (some a0)), some (.inl y1), some (.inl y2), some (.inl y3)] [.inl x12] M9
      refine mr_if_eq 55 dd_Mo_vanish_35 (by decide) (fun hc35 => ?_) (fun hc35 => ?_)
      · have h := h.1 hc35
        refine mr_iconst 0 dd_Mo_vanish_55 (by decide) ?_
        refine mr_istore_n dd_Mo_vanish_56 (by decide) ?_
        show mm_Z l G Y_Mo_vanish K M0 bc bs 57 [some (.inr (some a0)), some (.inl y1), some (.inl 0), some (.inl y3)] [] M9
        refine mr_iinc 1 dd_Mo_vanish_57 rfl (by decide) (by decide) ?_
        show mm_Z l G Y_Mo_vanish K M0 bc bs 60 [some (.inr (some a0)), some (.inl y1), some (.inl 0), some (.inl (y3 + 1))] [] M9
        refine mr_goto 20 dd_Mo_vanish_60 (by decide) ?_
        exact h
      · have h := h.2 hc35
        refine mr_aload_n dd_Mo_vanish_38 rfl ?_
        refine mr_getr ff_Mo_59 dd_Mo_vanish_39 rs_8_19 rfl (mm_Xk hX10 hk11 (by decide)) ?_
        refine mr_iconst 4 dd_Mo_vanish_42 (by decide) ?_
        refine mr_iload_n dd_Mo_vanish_43 rfl ?_
        refine mr_imul dd_Mo_vanish_44 ?_
        refine mr_iload_n dd_Mo_vanish_45 rfl ?_
        refine mr_iadd dd_Mo_vanish_46 ?_
        obtain ⟨a13, ho14, h⟩ := h
        obtain ⟨hk15, h⟩ := h
        obtain ⟨j16, hj17, hm18, hl19, h⟩ := h
        refine mr_zald dd_Mo_vanish_47 ho14 hk15 hj17 hm18 hl19 ?_
        refine mr_if_eq 55 dd_Mo_vanish_48 (by decide) (fun hc48 => ?_) (fun hc48 => ?_)
        · have h := h.1 hc48
          refine mr_iconst 0 dd_Mo_vanish_55 (by decide) ?_
          refine mr_istore_n dd_Mo_vanish_56 (by decide) ?_
          show mm_Z l G Y_Mo_vanish K M0 bc bs 57 [some (.inr (some a0)), some (.inl y1), some (.inl 0), some (.inl y3)] [] M9
          refine mr_iinc 1 dd_Mo_vanish_57 rfl (by decide) (by decide) ?_
          show mm_Z l G Y_Mo_vanish K M0 bc bs 60 [some (.inr (some a0)), some (.inl y1), some (.inl 0), some (.inl (y3 + 1))] [] M9
          refine mr_goto 20 dd_Mo_vanish_60 (by decide) ?_
          exact h
        · have h := h.2 hc48
          refine mr_iconst 1 dd_Mo_vanish_51 (by decide) ?_
          refine mr_goto 56 dd_Mo_vanish_52 (by decide) ?_
          refine mr_istore_n dd_Mo_vanish_56 (by decide) ?_
          show mm_Z l G Y_Mo_vanish K M0 bc bs 57 [some (.inr (some a0)), some (.inl y1), some (.inl 1), some (.inl y3)] [] M9
          refine mr_iinc 1 dd_Mo_vanish_57 rfl (by decide) (by decide) ?_
          show mm_Z l G Y_Mo_vanish K M0 bc bs 60 [some (.inr (some a0)), some (.inl y1), some (.inl 1), some (.inl (y3 + 1))] [] M9
          refine mr_goto 20 dd_Mo_vanish_60 (by decide) ?_
          exact h
set_option maxHeartbeats 4000000 in
set_option maxRecDepth 100000 in
theorem sg_Mo_vanish_79 {l : Launch} {G : mm_G} {K : Option mm_V → mm_M → Prop} {M0 M : mm_M} {bc bs : Nat} {a0 : Nat} {y1 : Int32} {y2 : Int32} {y3 : Int32}
    (h : (60 ≤ y3 → mm_Z l G Y_Mo_vanish K M0 bc bs 111 [some (.inr (some a0)), some (.inl y1), some (.inl y2), some (.inl 0)] [] M) ∧ (¬ 60 ≤ y3 → mm_k M a0 = 9 ∧ ∃ a2 : Nat, (mm_p M a0 6) = some a2 ∧ mm_k M a2 = 100 ∧ ∃ j5 : Nat, y3 = nI j5 ∧ j5 < 2147483648 ∧ j5 < mm_l M a2 ∧ (¬ (mm_i M a2 j5) = (10 + y1) → mm_Z l G Y_Mo_vanish K M0 bc bs 79 [some (.inr (some a0)), some (.inl y1), some (.inl y2), some (.inl (y3 + 1))] [] M) ∧ ((mm_i M a2 j5) = (10 + y1) → mm_Ok l G yy_Mo_free Y_Mo_free [.inr (some a0), .inl y3] M (fun r M9 => mm_X M M9 → r = none ∧ mm_Z l G Y_Mo_vanish K M0 bc bs 79 [some (.inr (some a0)), some (.inl y1), some (.inl y2), some (.inl (y3 + 1))] [] M9)))) :
    mm_Z l G Y_Mo_vanish K M0 bc bs 79 [some (.inr (some a0)), some (.inl y1), some (.inl y2), some (.inl y3)] [] M := by
  refine mr_iload_n dd_Mo_vanish_79 rfl ?_
  refine mr_bipush 60 dd_Mo_vanish_80 (by decide) ?_
  refine mr_icmp_ge 109 dd_Mo_vanish_82 (by decide) (fun hc82 => ?_) (fun hc82 => ?_)
  · have h := h.1 hc82
    refine mr_iconst 0 dd_Mo_vanish_109 (by decide) ?_
    refine mr_istore_n dd_Mo_vanish_110 (by decide) ?_
    show mm_Z l G Y_Mo_vanish K M0 bc bs 111 [some (.inr (some a0)), some (.inl y1), some (.inl y2), some (.inl 0)] [] M
    exact h
  · have h := h.2 hc82
    refine mr_aload_n dd_Mo_vanish_85 rfl ?_
    obtain ⟨hk1, h⟩ := h
    refine mr_getr ff_Mo_26 dd_Mo_vanish_86 rs_8_6 rfl hk1 ?_
    refine mr_iload_n dd_Mo_vanish_89 rfl ?_
    obtain ⟨a2, ho3, h⟩ := h
    obtain ⟨hk4, h⟩ := h
    obtain ⟨j5, hj6, hm7, hl8, h⟩ := h
    refine mr_iald dd_Mo_vanish_90 ho3 hk4 hj6 hm7 hl8 ?_
    refine mr_bipush 10 dd_Mo_vanish_91 (by decide) ?_
    refine mr_iload_n dd_Mo_vanish_93 rfl ?_
    refine mr_iadd dd_Mo_vanish_94 ?_
    refine mr_icmp_ne 103 dd_Mo_vanish_95 (by decide) (fun hc95 => ?_) (fun hc95 => ?_)
    · have h := h.1 hc95
      refine mr_iinc 1 dd_Mo_vanish_103 rfl (by decide) (by decide) ?_
      show mm_Z l G Y_Mo_vanish K M0 bc bs 106 [some (.inr (some a0)), some (.inl y1), some (.inl y2), some (.inl (y3 + 1))] [] M
      refine mr_goto 79 dd_Mo_vanish_106 (by decide) ?_
      exact h
    · have h := h.2 hc95
      refine mr_aload_n dd_Mo_vanish_98 rfl ?_
      refine mr_iload_n dd_Mo_vanish_99 rfl ?_
      refine mr_callV0 (Yc := Y_Mo_free) (M := M) (st := []) (vs := [.inl y3]) (ci := 8) fc_Mo_103 iv_Mo_free sv_Mo_free dd_Mo_vanish_100 ⟨Nat.le_of_ble_eq_true rfl, Nat.le_of_ble_eq_true rfl⟩ (by decide) rfl rfl (Nat.le_of_ble_eq_true rfl) rfl hk1 rfl rfl h (fun r M9 hX10 h => ?_)
      replace h := h hX10
      obtain ⟨rfl, h⟩ := h
      show mm_Z l G Y_Mo_vanish K M0 bc bs 103 [some (.inr (some a0)), some (.inl y1), some (.inl y2), some (.inl y3)] [] M9
      refine mr_iinc 1 dd_Mo_vanish_103 rfl (by decide) (by decide) ?_
      show mm_Z l G Y_Mo_vanish K M0 bc bs 106 [some (.inr (some a0)), some (.inl y1), some (.inl y2), some (.inl (y3 + 1))] [] M9
      refine mr_goto 79 dd_Mo_vanish_106 (by decide) ?_
      exact h
set_option maxHeartbeats 4000000 in
set_option maxRecDepth 100000 in
theorem sg_Mo_vanish_111 {l : Launch} {G : mm_G} {K : Option mm_V → mm_M → Prop} {M0 M : mm_M} {bc bs : Nat} {a0 : Nat} {y1 : Int32} {y2 : Int32} {y3 : Int32}
    (h : (8 ≤ y3 → mm_k M a0 = 9 ∧ ∃ a2 : Nat, (mm_p M a0 15) = some a2 ∧ mm_k M a2 = 100 ∧ ∃ j5 : Nat, y1 = nI j5 ∧ j5 < 2147483648 ∧ j5 < mm_l M a2 ∧ mm_Z l G Y_Mo_vanish K M0 bc bs 2 [some (.inr (some a0)), some (.inl (y1 + 1)), none, none] [] (mm_si M a2 j5 3)) ∧ (¬ 8 ≤ y3 → mm_k M a0 = 9 ∧ ∃ a10 : Nat, (mm_p M a0 20) = some a10 ∧ mm_k M a10 = 101 ∧ ∃ j13 : Nat, ((4 * y3) + y1) = nI j13 ∧ j13 < 2147483648 ∧ j13 < mm_l M a10 ∧ mm_Z l G Y_Mo_vanish K M0 bc bs 111 [some (.inr (some a0)), some (.inl y1), some (.inl y2), some (.inl (y3 + 1))] [] (mm_si M a10 j13 0))) :
    mm_Z l G Y_Mo_vanish K M0 bc bs 111 [some (.inr (some a0)), some (.inl y1), some (.inl y2), some (.inl y3)] [] M := by
  refine mr_iload_n dd_Mo_vanish_111 rfl ?_
  refine mr_bipush 8 dd_Mo_vanish_112 (by decide) ?_
  refine mr_icmp_ge 134 dd_Mo_vanish_114 (by decide) (fun hc114 => ?_) (fun hc114 => ?_)
  · have h := h.1 hc114
    refine mr_aload_n dd_Mo_vanish_134 rfl ?_
    obtain ⟨hk1, h⟩ := h
    refine mr_getr ff_Mo_50 dd_Mo_vanish_135 rs_8_15 rfl hk1 ?_
    refine mr_iload_n dd_Mo_vanish_138 rfl ?_
    refine mr_iconst 3 dd_Mo_vanish_139 (by decide) ?_
    obtain ⟨a2, ho3, h⟩ := h
    obtain ⟨hk4, h⟩ := h
    obtain ⟨j5, hj6, hm7, hl8, h⟩ := h
    refine mr_iast dd_Mo_vanish_140 ho3 hk4 hj6 hm7 hl8 ?_
    refine mr_iinc 1 dd_Mo_vanish_141 rfl (by decide) (by decide) ?_
    show mm_Z l G Y_Mo_vanish K M0 bc bs 144 [some (.inr (some a0)), some (.inl (y1 + 1)), some (.inl y2), some (.inl y3)] [] (mm_si M a2 j5 3)
    refine mr_goto 2 dd_Mo_vanish_144 (by decide) ?_
    exact mm_fg (mm_leq (mm_le_s (mm_le_s (mm_le_n (mm_le_n mm_le_e))))) h
  · have h := h.2 hc114
    refine mr_aload_n dd_Mo_vanish_117 rfl ?_
    obtain ⟨hk9, h⟩ := h
    refine mr_getr ff_Mo_62 dd_Mo_vanish_118 rs_8_20 rfl hk9 ?_
    refine mr_iconst 4 dd_Mo_vanish_121 (by decide) ?_
    refine mr_iload_n dd_Mo_vanish_122 rfl ?_
    refine mr_imul dd_Mo_vanish_123 ?_
    refine mr_iload_n dd_Mo_vanish_124 rfl ?_
    refine mr_iadd dd_Mo_vanish_125 ?_
    refine mr_iconst 0 dd_Mo_vanish_126 (by decide) ?_
    obtain ⟨a10, ho11, h⟩ := h
    obtain ⟨hk12, h⟩ := h
    obtain ⟨j13, hj14, hm15, hl16, h⟩ := h
    refine mr_zast dd_Mo_vanish_127 ho11 hk12 hj14 hm15 hl16 (Or.inl rfl) ?_
    refine mr_iinc 1 dd_Mo_vanish_128 rfl (by decide) (by decide) ?_
    show mm_Z l G Y_Mo_vanish K M0 bc bs 131 [some (.inr (some a0)), some (.inl y1), some (.inl y2), some (.inl (y3 + 1))] [] (mm_si M a10 j13 0)
    refine mr_goto 111 dd_Mo_vanish_131 (by decide) ?_
    exact h
set_option maxHeartbeats 4000000 in
set_option maxRecDepth 100000 in
theorem sg_Mo_merge {l : Launch} {G : mm_G} {K : Option mm_V → mm_M → Prop} {M : mm_M} {a0 : Nat} {xa : Int32}
    (h : mm_Z l G Y_Mo_merge K M 0 0 2 [some (.inr (some a0)), some (.inl xa), some (.inl 0), none, none] [] M) :
    mm_Ok l G yy_Mo_merge Y_Mo_merge [.inr (some a0), .inl xa] M K := by
  refine mm_go (by decide) rfl (fun q => by cases q) (Nat.le_of_ble_eq_true rfl) ?_
  show mm_Z l G Y_Mo_merge K M 0 0 0 [some (.inr (some a0)), some (.inl xa), none, none, none] [] M
  refine mr_iconst 0 dd_Mo_merge_0 (by decide) ?_
  refine mr_istore_n dd_Mo_merge_1 (by decide) ?_
  show mm_Z l G Y_Mo_merge K M 0 0 2 [some (.inr (some a0)), some (.inl xa), some (.inl 0), none, none] [] M
  exact h
set_option maxHeartbeats 4000000 in
set_option maxRecDepth 100000 in
theorem sg_Mo_merge_2 {l : Launch} {G : mm_G} {K : Option mm_V → mm_M → Prop} {M0 M : mm_M} {bc bs : Nat} {a0 : Nat} {y1 : Int32} {y2 : Int32}
    (h : (24 ≤ y2 → mm_Z l G Y_Mo_merge K M0 bc bs 102 [some (.inr (some a0)), some (.inl y1), some (.inl 0), none, none] [] M) ∧ (¬ 24 ≤ y2 → mm_Z l G Y_Mo_merge K M0 bc bs 13 [some (.inr (some a0)), some (.inl y1), some (.inl y2), some (.inl (-1)), some (.inl 0)] [] M)) :
    mm_Z l G Y_Mo_merge K M0 bc bs 2 [some (.inr (some a0)), some (.inl y1), some (.inl y2), none, none] [] M := by
  refine mr_iload_n dd_Mo_merge_2 rfl ?_
  refine mr_bipush 24 dd_Mo_merge_3 (by decide) ?_
  refine mr_icmp_ge 100 dd_Mo_merge_5 (by decide) (fun hc5 => ?_) (fun hc5 => ?_)
  · have h := h.1 hc5
    refine mr_iconst 0 dd_Mo_merge_100 (by decide) ?_
    refine mr_istore_n dd_Mo_merge_101 (by decide) ?_
    show mm_Z l G Y_Mo_merge K M0 bc bs 102 [some (.inr (some a0)), some (.inl y1), some (.inl 0), none, none] [] M
    exact h
  · have h := h.2 hc5
    refine mr_iconst (-1) dd_Mo_merge_8 (by decide) ?_
    refine mr_istore_n dd_Mo_merge_9 (by decide) ?_
    show mm_Z l G Y_Mo_merge K M0 bc bs 10 [some (.inr (some a0)), some (.inl y1), some (.inl y2), some (.inl (-1)), none] [] M
    refine mr_iconst 0 dd_Mo_merge_10 (by decide) ?_
    refine mr_istore dd_Mo_merge_11 (by decide) ?_
    show mm_Z l G Y_Mo_merge K M0 bc bs 13 [some (.inr (some a0)), some (.inl y1), some (.inl y2), some (.inl (-1)), some (.inl 0)] [] M
    exact h
set_option maxHeartbeats 4000000 in
set_option maxRecDepth 100000 in
theorem sg_Mo_merge_13 {l : Launch} {G : mm_G} {K : Option mm_V → mm_M → Prop} {M0 M : mm_M} {bc bs : Nat} {a0 : Nat} {y1 : Int32} {y2 : Int32} {y3 : Int32} {y4 : Int32}
    (h : (24 ≤ y4 → (y3 < 0 → mm_Z l G Y_Mo_merge K M0 bc bs 2 [some (.inr (some a0)), some (.inl y1), some (.inl (y2 + 1)), none, none] [] M) ∧ (¬ y3 < 0 → mm_k M a0 = 9 ∧ ∃ a2 : Nat, (mm_p M a0 11) = some a2 ∧ mm_k M a2 = 100 ∧ ∃ j5 : Nat, y3 = nI j5 ∧ j5 < 2147483648 ∧ j5 < mm_l M a2 ∧ ∃ a9 : Nat, (mm_p (mm_si (mm_si M a2 j5 9) a0 14 ((mm_i (mm_si M a2 j5 9) a0 14) + 1)) a0 13) = some a9 ∧ mm_k (mm_si (mm_si M a2 j5 9) a0 14 ((mm_i (mm_si M a2 j5 9) a0 14) + 1)) a9 = 100 ∧ ∃ j12 : Nat, y3 = nI j12 ∧ j12 < 2147483648 ∧ j12 < mm_l (mm_si (mm_si M a2 j5 9) a0 14 ((mm_i (mm_si M a2 j5 9) a0 14) + 1)) a9 ∧ mm_Z l G Y_Mo_merge K M0 bc bs 2 [some (.inr (some a0)), some (.inl y1), some (.inl (y2 + 1)), none, none] [] (mm_si (mm_si (mm_si M a2 j5 9) a0 14 ((mm_i (mm_si M a2 j5 9) a0 14) + 1)) a9 j12 (mm_i (mm_si (mm_si M a2 j5 9) a0 14 ((mm_i (mm_si M a2 j5 9) a0 14) + 1)) a0 14)))) ∧ (¬ 24 ≤ y4 → mm_k M a0 = 9 ∧ ∃ a17 : Nat, (mm_p M a0 11) = some a17 ∧ mm_k M a17 = 100 ∧ ∃ j20 : Nat, y4 = nI j20 ∧ j20 < 2147483648 ∧ j20 < mm_l M a17 ∧ (¬ (mm_i M a17 j20) = (y1 + 1) → mm_Z l G Y_Mo_merge K M0 bc bs 13 [some (.inr (some a0)), some (.inl y1), some (.inl y2), some (.inl y3), some (.inl (y4 + 1))] [] M) ∧ ((mm_i M a17 j20) = (y1 + 1) → (y3 < 0 → mm_Z l G Y_Mo_merge K M0 bc bs 13 [some (.inr (some a0)), some (.inl y1), some (.inl y2), some (.inl y4), some (.inl (y4 + 1))] [] M) ∧ (¬ y3 < 0 → ∃ a24 : Nat, (mm_p M a0 13) = some a24 ∧ mm_k M a24 = 100 ∧ ∃ j27 : Nat, y4 = nI j27 ∧ j27 < 2147483648 ∧ j27 < mm_l M a24 ∧ ∃ j31 : Nat, y3 = nI j31 ∧ j31 < 2147483648 ∧ j31 < mm_l M a24 ∧ ((mm_i M a24 j31) ≤ (mm_i M a24 j27) → mm_Z l G Y_Mo_merge K M0 bc bs 13 [some (.inr (some a0)), some (.inl y1), some (.inl y2), some (.inl y3), some (.inl (y4 + 1))] [] M) ∧ (¬ (mm_i M a24 j31) ≤ (mm_i M a24 j27) → mm_Z l G Y_Mo_merge K M0 bc bs 13 [some (.inr (some a0)), some (.inl y1), some (.inl y2), some (.inl y4), some (.inl (y4 + 1))] [] M))))) :
    mm_Z l G Y_Mo_merge K M0 bc bs 13 [some (.inr (some a0)), some (.inl y1), some (.inl y2), some (.inl y3), some (.inl y4)] [] M := by
  refine mr_iload dd_Mo_merge_13 rfl ?_
  refine mr_bipush 24 dd_Mo_merge_15 (by decide) ?_
  refine mr_icmp_ge 62 dd_Mo_merge_17 (by decide) (fun hc17 => ?_) (fun hc17 => ?_)
  · have h := h.1 hc17
    refine mr_iload_n dd_Mo_merge_62 rfl ?_
    refine mr_if_lt 94 dd_Mo_merge_63 (by decide) (fun hc63 => ?_) (fun hc63 => ?_)
    · have h := h.1 hc63
      refine mr_iinc 1 dd_Mo_merge_94 rfl (by decide) (by decide) ?_
      show mm_Z l G Y_Mo_merge K M0 bc bs 97 [some (.inr (some a0)), some (.inl y1), some (.inl (y2 + 1)), some (.inl y3), some (.inl y4)] [] M
      refine mr_goto 2 dd_Mo_merge_97 (by decide) ?_
      exact mm_fg (mm_leq (mm_le_s (mm_le_s (mm_le_s (mm_le_n (mm_le_n mm_le_e)))))) h
    · have h := h.2 hc63
      refine mr_aload_n dd_Mo_merge_66 rfl ?_
      obtain ⟨hk1, h⟩ := h
      refine mr_getr ff_Mo_41 dd_Mo_merge_67 rs_8_11 rfl hk1 ?_
      refine mr_iload_n dd_Mo_merge_70 rfl ?_
      refine mr_bipush 9 dd_Mo_merge_71 (by decide) ?_
      obtain ⟨a2, ho3, h⟩ := h
      obtain ⟨hk4, h⟩ := h
      obtain ⟨j5, hj6, hm7, hl8, h⟩ := h
      refine mr_iast dd_Mo_merge_73 ho3 hk4 hj6 hm7 hl8 ?_
      refine mr_aload_n dd_Mo_merge_74 rfl ?_
      refine mr_dup dd_Mo_merge_75 ?_
      refine mr_geti ff_Mo_118 dd_Mo_merge_76 rs_8_14 rfl hk1 ?_
      refine mr_iconst 1 dd_Mo_merge_79 (by decide) ?_
      refine mr_iadd dd_Mo_merge_80 ?_
      refine mr_puti ff_Mo_118 fp_8 (Or.inl rfl) dd_Mo_merge_81 (Or.inl (by decide +kernel)) rs_8_14 rfl hk1 ?_
      refine mr_aload_n dd_Mo_merge_84 rfl ?_
      refine mr_getr ff_Mo_47 dd_Mo_merge_85 rs_8_13 rfl hk1 ?_
      refine mr_iload_n dd_Mo_merge_88 rfl ?_
      refine mr_aload_n dd_Mo_merge_89 rfl ?_
      refine mr_geti ff_Mo_118 dd_Mo_merge_90 rs_8_14 rfl hk1 ?_
      obtain ⟨a9, ho10, h⟩ := h
      obtain ⟨hk11, h⟩ := h
      obtain ⟨j12, hj13, hm14, hl15, h⟩ := h
      refine mr_iast dd_Mo_merge_93 ho10 hk11 hj13 hm14 hl15 ?_
      refine mr_iinc 1 dd_Mo_merge_94 rfl (by decide) (by decide) ?_
      show mm_Z l G Y_Mo_merge K M0 bc bs 97 [some (.inr (some a0)), some (.inl y1), some (.inl (y2 + 1)), some (.inl y3), some (.inl y4)] [] (mm_si (mm_si (mm_si M a2 j5 9) a0 14 ((mm_i (mm_si M a2 j5 9) a0 14) + 1)) a9 j12 (mm_i (mm_si (mm_si M a2 j5 9) a0 14 ((mm_i (mm_si M a2 j5 9) a0 14) + 1)) a0 14))
      refine mr_goto 2 dd_Mo_merge_97 (by decide) ?_
      exact mm_fg (mm_leq (mm_le_s (mm_le_s (mm_le_s (mm_le_n (mm_le_n mm_le_e)))))) h
  · have h := h.2 hc17
    refine mr_aload_n dd_Mo_merge_20 rfl ?_
    obtain ⟨hk16, h⟩ := h
    refine mr_getr ff_Mo_41 dd_Mo_merge_21 rs_8_11 rfl hk16 ?_
    refine mr_iload dd_Mo_merge_24 rfl ?_
    obtain ⟨a17, ho18, h⟩ := h
    obtain ⟨hk19, h⟩ := h
    obtain ⟨j20, hj21, hm22, hl23, h⟩ := h
    refine mr_iald dd_Mo_merge_26 ho18 hk19 hj21 hm22 hl23 ?_
    refine mr_iload_n dd_Mo_merge_27 rfl ?_
    refine mr_iconst 1 dd_Mo_merge_28 (by decide) ?_
    refine mr_iadd dd_Mo_merge_29 ?_
    refine mr_icmp_ne 56 dd_Mo_merge_30 (by decide) (fun hc30 => ?_) (fun hc30 => ?_)
    · have h := h.1 hc30
      refine mr_iinc 1 dd_Mo_merge_56 rfl (by decide) (by decide) ?_
      show mm_Z l G Y_Mo_merge K M0 bc bs 59 [some (.inr (some a0)), some (.inl y1), some (.inl y2), some (.inl y3), some (.inl (y4 + 1))] [] M
      refine mr_goto 13 dd_Mo_merge_59 (by decide) ?_
      exact h
    · have h := h.2 hc30
      refine mr_iload_n dd_Mo_merge_33 rfl ?_
      refine mr_if_lt 53 dd_Mo_merge_34 (by decide) (fun hc34 => ?_) (fun hc34 => ?_)
      · have h := h.1 hc34
        refine mr_iload dd_Mo_merge_53 rfl ?_
        refine mr_istore_n dd_Mo_merge_55 (by decide) ?_
        show mm_Z l G Y_Mo_merge K M0 bc bs 56 [some (.inr (some a0)), some (.inl y1), some (.inl y2), some (.inl y4), some (.inl y4)] [] M
        refine mr_iinc 1 dd_Mo_merge_56 rfl (by decide) (by decide) ?_
        show mm_Z l G Y_Mo_merge K M0 bc bs 59 [some (.inr (some a0)), some (.inl y1), some (.inl y2), some (.inl y4), some (.inl (y4 + 1))] [] M
        refine mr_goto 13 dd_Mo_merge_59 (by decide) ?_
        exact h
      · have h := h.2 hc34
        refine mr_aload_n dd_Mo_merge_37 rfl ?_
        refine mr_getr ff_Mo_47 dd_Mo_merge_38 rs_8_13 rfl hk16 ?_
        refine mr_iload dd_Mo_merge_41 rfl ?_
        obtain ⟨a24, ho25, h⟩ := h
        obtain ⟨hk26, h⟩ := h
        obtain ⟨j27, hj28, hm29, hl30, h⟩ := h
        refine mr_iald dd_Mo_merge_43 ho25 hk26 hj28 hm29 hl30 ?_
        refine mr_aload_n dd_Mo_merge_44 rfl ?_
        refine mr_getr ff_Mo_47 dd_Mo_merge_45 rs_8_13 rfl hk16 ?_
        refine mr_iload_n dd_Mo_merge_48 rfl ?_
        obtain ⟨j31, hj32, hm33, hl34, h⟩ := h
        refine mr_iald dd_Mo_merge_49 ho25 hk26 hj32 hm33 hl34 ?_
        refine mr_icmp_ge 56 dd_Mo_merge_50 (by decide) (fun hc50 => ?_) (fun hc50 => ?_)
        · have h := h.1 hc50
          refine mr_iinc 1 dd_Mo_merge_56 rfl (by decide) (by decide) ?_
          show mm_Z l G Y_Mo_merge K M0 bc bs 59 [some (.inr (some a0)), some (.inl y1), some (.inl y2), some (.inl y3), some (.inl (y4 + 1))] [] M
          refine mr_goto 13 dd_Mo_merge_59 (by decide) ?_
          exact h
        · have h := h.2 hc50
          refine mr_iload dd_Mo_merge_53 rfl ?_
          refine mr_istore_n dd_Mo_merge_55 (by decide) ?_
          show mm_Z l G Y_Mo_merge K M0 bc bs 56 [some (.inr (some a0)), some (.inl y1), some (.inl y2), some (.inl y4), some (.inl y4)] [] M
          refine mr_iinc 1 dd_Mo_merge_56 rfl (by decide) (by decide) ?_
          show mm_Z l G Y_Mo_merge K M0 bc bs 59 [some (.inr (some a0)), some (.inl y1), some (.inl y2), some (.inl y4), some (.inl (y4 + 1))] [] M
          refine mr_goto 13 dd_Mo_merge_59 (by decide) ?_
          exact h
set_option maxHeartbeats 4000000 in
set_option maxRecDepth 100000 in
theorem sg_Mo_merge_102 {l : Launch} {G : mm_G} {K : Option mm_V → mm_M → Prop} {M0 M : mm_M} {bc bs : Nat} {a0 : Nat} {y1 : Int32} {y2 : Int32}
    (h : (60 ≤ y2 → K none M) ∧ (¬ 60 ≤ y2 → mm_k M a0 = 9 ∧ ∃ a2 : Nat, (mm_p M a0 6) = some a2 ∧ mm_k M a2 = 100 ∧ ∃ j5 : Nat, y2 = nI j5 ∧ j5 < 2147483648 ∧ j5 < mm_l M a2 ∧ (¬ (mm_i M a2 j5) = (y1 + 1) → ∃ j9 : Nat, y2 = nI j9 ∧ j9 < 2147483648 ∧ j9 < mm_l M a2 ∧ ∃ j13 : Nat, y2 = nI j13 ∧ j13 < 2147483648 ∧ j13 < mm_l M a2 ∧ mm_Z l G Y_Mo_merge K M0 bc bs 102 [some (.inr (some a0)), some (.inl y1), some (.inl (y2 + 1)), none, none] [] (mm_si M a2 j13 (mm_i M a2 j9))) ∧ ((mm_i M a2 j5) = (y1 + 1) → ∃ j17 : Nat, y2 = nI j17 ∧ j17 < 2147483648 ∧ j17 < mm_l M a2 ∧ mm_Z l G Y_Mo_merge K M0 bc bs 102 [some (.inr (some a0)), some (.inl y1), some (.inl (y2 + 1)), none, none] [] (mm_si M a2 j17 9)))) :
    mm_Z l G Y_Mo_merge K M0 bc bs 102 [some (.inr (some a0)), some (.inl y1), some (.inl y2), none, none] [] M := by
  refine mr_iload_n dd_Mo_merge_102 rfl ?_
  refine mr_bipush 60 dd_Mo_merge_103 (by decide) ?_
  refine mr_icmp_ge 143 dd_Mo_merge_105 (by decide) (fun hc105 => ?_) (fun hc105 => ?_)
  · have h := h.1 hc105
    exact mr_return dd_Mo_merge_143 rfl h
  · have h := h.2 hc105
    refine mr_aload_n dd_Mo_merge_108 rfl ?_
    obtain ⟨hk1, h⟩ := h
    refine mr_getr ff_Mo_26 dd_Mo_merge_109 rs_8_6 rfl hk1 ?_
    refine mr_iload_n dd_Mo_merge_112 rfl ?_
    refine mr_aload_n dd_Mo_merge_113 rfl ?_
    refine mr_getr ff_Mo_26 dd_Mo_merge_114 rs_8_6 rfl hk1 ?_
    refine mr_iload_n dd_Mo_merge_117 rfl ?_
    obtain ⟨a2, ho3, h⟩ := h
    obtain ⟨hk4, h⟩ := h
    obtain ⟨j5, hj6, hm7, hl8, h⟩ := h
    refine mr_iald dd_Mo_merge_118 ho3 hk4 hj6 hm7 hl8 ?_
    refine mr_iload_n dd_Mo_merge_119 rfl ?_
    refine mr_iconst 1 dd_Mo_merge_120 (by decide) ?_
    refine mr_iadd dd_Mo_merge_121 ?_
    refine mr_icmp_ne 130 dd_Mo_merge_122 (by decide) (fun hc122 => ?_) (fun hc122 => ?_)
    · have h := h.1 hc122
      refine mr_aload_n dd_Mo_merge_130 rfl ?_
      refine mr_getr ff_Mo_26 dd_Mo_merge_131 rs_8_6 rfl hk1 ?_
      refine mr_iload_n dd_Mo_merge_134 rfl ?_
      obtain ⟨j9, hj10, hm11, hl12, h⟩ := h
      refine mr_iald dd_Mo_merge_135 ho3 hk4 hj10 hm11 hl12 ?_
      obtain ⟨j13, hj14, hm15, hl16, h⟩ := h
      refine mr_iast dd_Mo_merge_136 ho3 hk4 hj14 hm15 hl16 ?_
      refine mr_iinc 1 dd_Mo_merge_137 rfl (by decide) (by decide) ?_
      show mm_Z l G Y_Mo_merge K M0 bc bs 140 [some (.inr (some a0)), some (.inl y1), some (.inl (y2 + 1)), none, none] [] (mm_si M a2 j13 (mm_i M a2 j9))
      refine mr_goto 102 dd_Mo_merge_140 (by decide) ?_
      exact h
    · have h := h.2 hc122
      refine mr_bipush 9 dd_Mo_merge_125 (by decide) ?_
      refine mr_goto 136 dd_Mo_merge_127 (by decide) ?_
      obtain ⟨j17, hj18, hm19, hl20, h⟩ := h
      refine mr_iast dd_Mo_merge_136 ho3 hk4 hj18 hm19 hl20 ?_
      refine mr_iinc 1 dd_Mo_merge_137 rfl (by decide) (by decide) ?_
      show mm_Z l G Y_Mo_merge K M0 bc bs 140 [some (.inr (some a0)), some (.inl y1), some (.inl (y2 + 1)), none, none] [] (mm_si M a2 j17 9)
      refine mr_goto 102 dd_Mo_merge_140 (by decide) ?_
      exact h
set_option maxHeartbeats 4000000 in
set_option maxRecDepth 100000 in
theorem sg_Mo_fitting {l : Launch} {G : mm_G} {K : Option mm_V → mm_M → Prop} {M : mm_M} {a0 : Nat} {xa : Int32} {xb : Int32}
    (h : mm_Z l G Y_Mo_fitting K M 0 0 5 [some (.inr (some a0)), some (.inl xa), some (.inl xb), some (.inl (-1)), some (.inl 0), none, none] [] M) :
    mm_Ok l G yy_Mo_fitting Y_Mo_fitting [.inr (some a0), .inl xa, .inl xb] M K := by
  refine mm_go (by decide) rfl (fun q => by cases q) (Nat.le_of_ble_eq_true rfl) ?_
  show mm_Z l G Y_Mo_fitting K M 0 0 0 [some (.inr (some a0)), some (.inl xa), some (.inl xb), none, none, none, none] [] M
  refine mr_iconst (-1) dd_Mo_fitting_0 (by decide) ?_
  refine mr_istore_n dd_Mo_fitting_1 (by decide) ?_
  show mm_Z l G Y_Mo_fitting K M 0 0 2 [some (.inr (some a0)), some (.inl xa), some (.inl xb), some (.inl (-1)), none, none, none] [] M
  refine mr_iconst 0 dd_Mo_fitting_2 (by decide) ?_
  refine mr_istore dd_Mo_fitting_3 (by decide) ?_
  show mm_Z l G Y_Mo_fitting K M 0 0 5 [some (.inr (some a0)), some (.inl xa), some (.inl xb), some (.inl (-1)), some (.inl 0), none, none] [] M
  exact h
set_option maxHeartbeats 4000000 in
set_option maxRecDepth 100000 in
theorem sg_Mo_fitting_5 {l : Launch} {G : mm_G} {K : Option mm_V → mm_M → Prop} {M0 M : mm_M} {bc bs : Nat} {a0 : Nat} {y1 : Int32} {y2 : Int32} {y3 : Int32} {y4 : Int32}
    (h : (24 ≤ y4 → K (some (.inl y3)) M) ∧ (¬ 24 ≤ y4 → mm_Z l G Y_Mo_fitting K M0 bc bs 18 [some (.inr (some a0)), some (.inl y1), some (.inl y2), some (.inl y3), some (.inl y4), some (.inl 0), some (.inl 0)] [] M)) :
    mm_Z l G Y_Mo_fitting K M0 bc bs 5 [some (.inr (some a0)), some (.inl y1), some (.inl y2), some (.inl y3), some (.inl y4), none, none] [] M := by
  refine mr_iload dd_Mo_fitting_5 rfl ?_
  refine mr_bipush 24 dd_Mo_fitting_7 (by decide) ?_
  refine mr_icmp_ge 120 dd_Mo_fitting_9 (by decide) (fun hc9 => ?_) (fun hc9 => ?_)
  · have h := h.1 hc9
    refine mr_iload_n dd_Mo_fitting_120 rfl ?_
    exact mr_ireturn dd_Mo_fitting_121 rfl h
  · have h := h.2 hc9
    refine mr_iconst 0 dd_Mo_fitting_12 (by decide) ?_
    refine mr_istore dd_Mo_fitting_13 (by decide) ?_
    show mm_Z l G Y_Mo_fitting K M0 bc bs 15 [some (.inr (some a0)), some (.inl y1), some (.inl y2), some (.inl y3), some (.inl y4), some (.inl 0), none] [] M
    refine mr_iconst 0 dd_Mo_fitting_15 (by decide) ?_
    refine mr_istore dd_Mo_fitting_16 (by decide) ?_
    show mm_Z l G Y_Mo_fitting K M0 bc bs 18 [some (.inr (some a0)), some (.inl y1), some (.inl y2), some (.inl y3), some (.inl y4), some (.inl 0), some (.inl 0)] [] M
    exact h
set_option maxHeartbeats 4000000 in
set_option maxRecDepth 100000 in
theorem sg_Mo_fitting_18 {l : Launch} {G : mm_G} {K : Option mm_V → mm_M → Prop} {M0 M : mm_M} {bc bs : Nat} {a0 : Nat} {y1 : Int32} {y2 : Int32} {y3 : Int32} {y4 : Int32} {y5 : Int32} {y6 : Int32}
    (h : (60 ≤ y6 → mm_k M a0 = 9 ∧ ∃ a2 : Nat, (mm_p M a0 11) = some a2 ∧ mm_k M a2 = 100 ∧ ∃ j5 : Nat, y4 = nI j5 ∧ j5 < 2147483648 ∧ j5 < mm_l M a2 ∧ (¬ (mm_i M a2 j5) = (y1 + 1) → mm_Z l G Y_Mo_fitting K M0 bc bs 5 [some (.inr (some a0)), some (.inl y1), some (.inl y2), some (.inl y3), some (.inl (y4 + 1)), none, none] [] M) ∧ ((mm_i M a2 j5) = (y1 + 1) → (16 < (y5 + y2) → mm_Z l G Y_Mo_fitting K M0 bc bs 5 [some (.inr (some a0)), some (.inl y1), some (.inl y2), some (.inl y3), some (.inl (y4 + 1)), none, none] [] M) ∧ (¬ 16 < (y5 + y2) → (y3 < 0 → mm_Z l G Y_Mo_fitting K M0 bc bs 5 [some (.inr (some a0)), some (.inl y1), some (.inl y2), some (.inl y4), some (.inl (y4 + 1)), none, none] [] M) ∧ (¬ y3 < 0 → ∃ a9 : Nat, (mm_p M a0 13) = some a9 ∧ mm_k M a9 = 100 ∧ ∃ j12 : Nat, y4 = nI j12 ∧ j12 < 2147483648 ∧ j12 < mm_l M a9 ∧ ∃ j16 : Nat, y3 = nI j16 ∧ j16 < 2147483648 ∧ j16 < mm_l M a9 ∧ ((mm_i M a9 j16) ≤ (mm_i M a9 j12) → mm_Z l G Y_Mo_fitting K M0 bc bs 5 [some (.inr (some a0)), some (.inl y1), some (.inl y2), some (.inl y3), some (.inl (y4 + 1)), none, none] [] M) ∧ (¬ (mm_i M a9 j16) ≤ (mm_i M a9 j12) → mm_Z l G Y_Mo_fitting K M0 bc bs 5 [some (.inr (some a0)), some (.inl y1), some (.inl y2), some (.inl y4), some (.inl (y4 + 1)), none, none] [] M))))) ∧ (¬ 60 ≤ y6 → mm_k M a0 = 9 ∧ ∃ a21 : Nat, (mm_p M a0 6) = some a21 ∧ mm_k M a21 = 100 ∧ ∃ j24 : Nat, y6 = nI j24 ∧ j24 < 2147483648 ∧ j24 < mm_l M a21 ∧ ((mm_i M a21 j24) ≤ 0 → mm_Z l G Y_Mo_fitting K M0 bc bs 18 [some (.inr (some a0)), some (.inl y1), some (.inl y2), some (.inl y3), some (.inl y4), some (.inl (y5 + 0)), some (.inl (y6 + 1))] [] M) ∧ (¬ (mm_i M a21 j24) ≤ 0 → ∃ a28 : Nat, (mm_p M a0 9) = some a28 ∧ mm_k M a28 = 100 ∧ ∃ j31 : Nat, y6 = nI j31 ∧ j31 < 2147483648 ∧ j31 < mm_l M a28 ∧ (¬ (mm_i M a28 j31) = y4 → mm_Z l G Y_Mo_fitting K M0 bc bs 18 [some (.inr (some a0)), some (.inl y1), some (.inl y2), some (.inl y3), some (.inl y4), some (.inl (y5 + 0)), some (.inl (y6 + 1))] [] M) ∧ ((mm_i M a28 j31) = y4 → ∃ a35 : Nat, (mm_p M a0 7) = some a35 ∧ mm_k M a35 = 100 ∧ ∃ j38 : Nat, y6 = nI j38 ∧ j38 < 2147483648 ∧ j38 < mm_l M a35 ∧ mm_Z l G Y_Mo_fitting K M0 bc bs 18 [some (.inr (some a0)), some (.inl y1), some (.inl y2), some (.inl y3), some (.inl y4), some (.inl (y5 + (mm_i M a35 j38))), some (.inl (y6 + 1))] [] M)))) :
    mm_Z l G Y_Mo_fitting K M0 bc bs 18 [some (.inr (some a0)), some (.inl y1), some (.inl y2), some (.inl y3), some (.inl y4), some (.inl y5), some (.inl y6)] [] M := by
  refine mr_iload dd_Mo_fitting_18 rfl ?_
  refine mr_bipush 60 dd_Mo_fitting_20 (by decide) ?_
  refine mr_icmp_ge 69 dd_Mo_fitting_22 (by decide) (fun hc22 => ?_) (fun hc22 => ?_)
  · have h := h.1 hc22
    refine mr_aload_n dd_Mo_fitting_69 rfl ?_
    obtain ⟨hk1, h⟩ := h
    refine mr_getr ff_Mo_41 dd_Mo_fitting_70 rs_8_11 rfl hk1 ?_
    refine mr_iload dd_Mo_fitting_73 rfl ?_
    obtain ⟨a2, ho3, h⟩ := h
    obtain ⟨hk4, h⟩ := h
    obtain ⟨j5, hj6, hm7, hl8, h⟩ := h
    refine mr_iald dd_Mo_fitting_75 ho3 hk4 hj6 hm7 hl8 ?_
    refine mr_iload_n dd_Mo_fitting_76 rfl ?_
    refine mr_iconst 1 dd_Mo_fitting_77 (by decide) ?_
    refine mr_iadd dd_Mo_fitting_78 ?_
    refine mr_icmp_ne 114 dd_Mo_fitting_79 (by decide) (fun hc79 => ?_) (fun hc79 => ?_)
    · have h := h.1 hc79
      refine mr_iinc 1 dd_Mo_fitting_114 rfl (by decide) (by decide) ?_
      show mm_Z l G Y_Mo_fitting K M0 bc bs 117 [some (.inr (some a0)), some (.inl y1), some (.inl y2), some (.inl y3), some (.inl (y4 + 1)), some (.inl y5), some (.inl y6)] [] M
      refine mr_goto 5 dd_Mo_fitting_117 (by decide) ?_
      exact mm_fg (mm_leq (mm_le_s (mm_le_s (mm_le_s (mm_le_s (mm_le_s (mm_le_n (mm_le_n mm_le_e)))))))) h
    · have h := h.2 hc79
      refine mr_iload dd_Mo_fitting_82 rfl ?_
      refine mr_iload_n dd_Mo_fitting_84 rfl ?_
      refine mr_iadd dd_Mo_fitting_85 ?_
      refine mr_bipush 16 dd_Mo_fitting_86 (by decide) ?_
      refine mr_icmp_gt 114 dd_Mo_fitting_88 (by decide) (fun hc88 => ?_) (fun hc88 => ?_)
      · have h := h.1 hc88
        refine mr_iinc 1 dd_Mo_fitting_114 rfl (by decide) (by decide) ?_
        show mm_Z l G Y_Mo_fitting K M0 bc bs 117 [some (.inr (some a0)), some (.inl y1), some (.inl y2), some (.inl y3), some (.inl (y4 + 1)), some (.inl y5), some (.inl y6)] [] M
        refine mr_goto 5 dd_Mo_fitting_117 (by decide) ?_
        exact mm_fg (mm_leq (mm_le_s (mm_le_s (mm_le_s (mm_le_s (mm_le_s (mm_le_n (mm_le_n mm_le_e)))))))) h
      · have h := h.2 hc88
        refine mr_iload_n dd_Mo_fitting_91 rfl ?_
        refine mr_if_lt 111 dd_Mo_fitting_92 (by decide) (fun hc92 => ?_) (fun hc92 => ?_)
        · have h := h.1 hc92
          refine mr_iload dd_Mo_fitting_111 rfl ?_
          refine mr_istore_n dd_Mo_fitting_113 (by decide) ?_
          show mm_Z l G Y_Mo_fitting K M0 bc bs 114 [some (.inr (some a0)), some (.inl y1), some (.inl y2), some (.inl y4), some (.inl y4), some (.inl y5), some (.inl y6)] [] M
          refine mr_iinc 1 dd_Mo_fitting_114 rfl (by decide) (by decide) ?_
          show mm_Z l G Y_Mo_fitting K M0 bc bs 117 [some (.inr (some a0)), some (.inl y1), some (.inl y2), some (.inl y4), some (.inl (y4 + 1)), some (.inl y5), some (.inl y6)] [] M
          refine mr_goto 5 dd_Mo_fitting_117 (by decide) ?_
          exact mm_fg (mm_leq (mm_le_s (mm_le_s (mm_le_s (mm_le_s (mm_le_s (mm_le_n (mm_le_n mm_le_e)))))))) h
        · have h := h.2 hc92
          refine mr_aload_n dd_Mo_fitting_95 rfl ?_
          refine mr_getr ff_Mo_47 dd_Mo_fitting_96 rs_8_13 rfl hk1 ?_
          refine mr_iload dd_Mo_fitting_99 rfl ?_
          obtain ⟨a9, ho10, h⟩ := h
          obtain ⟨hk11, h⟩ := h
          obtain ⟨j12, hj13, hm14, hl15, h⟩ := h
          refine mr_iald dd_Mo_fitting_101 ho10 hk11 hj13 hm14 hl15 ?_
          refine mr_aload_n dd_Mo_fitting_102 rfl ?_
          refine mr_getr ff_Mo_47 dd_Mo_fitting_103 rs_8_13 rfl hk1 ?_
          refine mr_iload_n dd_Mo_fitting_106 rfl ?_
          obtain ⟨j16, hj17, hm18, hl19, h⟩ := h
          refine mr_iald dd_Mo_fitting_107 ho10 hk11 hj17 hm18 hl19 ?_
          refine mr_icmp_ge 114 dd_Mo_fitting_108 (by decide) (fun hc108 => ?_) (fun hc108 => ?_)
          · have h := h.1 hc108
            refine mr_iinc 1 dd_Mo_fitting_114 rfl (by decide) (by decide) ?_
            show mm_Z l G Y_Mo_fitting K M0 bc bs 117 [some (.inr (some a0)), some (.inl y1), some (.inl y2), some (.inl y3), some (.inl (y4 + 1)), some (.inl y5), some (.inl y6)] [] M
            refine mr_goto 5 dd_Mo_fitting_117 (by decide) ?_
            exact mm_fg (mm_leq (mm_le_s (mm_le_s (mm_le_s (mm_le_s (mm_le_s (mm_le_n (mm_le_n mm_le_e)))))))) h
          · have h := h.2 hc108
            refine mr_iload dd_Mo_fitting_111 rfl ?_
            refine mr_istore_n dd_Mo_fitting_113 (by decide) ?_
            show mm_Z l G Y_Mo_fitting K M0 bc bs 114 [some (.inr (some a0)), some (.inl y1), some (.inl y2), some (.inl y4), some (.inl y4), some (.inl y5), some (.inl y6)] [] M
            refine mr_iinc 1 dd_Mo_fitting_114 rfl (by decide) (by decide) ?_
            show mm_Z l G Y_Mo_fitting K M0 bc bs 117 [some (.inr (some a0)), some (.inl y1), some (.inl y2), some (.inl y4), some (.inl (y4 + 1)), some (.inl y5), some (.inl y6)] [] M
            refine mr_goto 5 dd_Mo_fitting_117 (by decide) ?_
            exact mm_fg (mm_leq (mm_le_s (mm_le_s (mm_le_s (mm_le_s (mm_le_s (mm_le_n (mm_le_n mm_le_e)))))))) h
  · have h := h.2 hc22
    refine mr_iload dd_Mo_fitting_25 rfl ?_
    refine mr_aload_n dd_Mo_fitting_27 rfl ?_
    obtain ⟨hk20, h⟩ := h
    refine mr_getr ff_Mo_26 dd_Mo_fitting_28 rs_8_6 rfl hk20 ?_
    refine mr_iload dd_Mo_fitting_31 rfl ?_
    obtain ⟨a21, ho22, h⟩ := h
    obtain ⟨hk23, h⟩ := h
    obtain ⟨j24, hj25, hm26, hl27, h⟩ := h
    refine mr_iald dd_Mo_fitting_33 ho22 hk23 hj25 hm26 hl27 ?_
    refine mr_if_le 59 dd_Mo_fitting_34 (by decide) (fun hc34 => ?_) (fun hc34 => ?_)
    · have h := h.1 hc34
      refine mr_iconst 0 dd_Mo_fitting_59 (by decide) ?_
      refine mr_iadd dd_Mo_fitting_60 ?_
      refine mr_istore dd_Mo_fitting_61 (by decide) ?_
      show mm_Z l G Y_Mo_fitting K M0 bc bs 63 [some (.inr (some a0)), some (.inl y1), some (.inl y2), some (.inl y3), some (.inl y4), some (.inl (y5 + 0)), some (.inl y6)] [] M
      refine mr_iinc 1 dd_Mo_fitting_63 rfl (by decide) (by decide) ?_
      show mm_Z l G Y_Mo_fitting K M0 bc bs 66 [some (.inr (some a0)), some (.inl y1), some (.inl y2), some (.inl y3), some (.inl y4), some (.inl (y5 + 0)), some (.inl (y6 + 1))] [] M
      refine mr_goto 18 dd_Mo_fitting_66 (by decide) ?_
      exact h
    · have h := h.2 hc34
      refine mr_aload_n dd_Mo_fitting_37 rfl ?_
      refine mr_getr ff_Mo_35 dd_Mo_fitting_38 rs_8_9 rfl hk20 ?_
      refine mr_iload dd_Mo_fitting_41 rfl ?_
      obtain ⟨a28, ho29, h⟩ := h
      obtain ⟨hk30, h⟩ := h
      obtain ⟨j31, hj32, hm33, hl34, h⟩ := h
      refine mr_iald dd_Mo_fitting_43 ho29 hk30 hj32 hm33 hl34 ?_
      refine mr_iload dd_Mo_fitting_44 rfl ?_
      refine mr_icmp_ne 59 dd_Mo_fitting_46 (by decide) (fun hc46 => ?_) (fun hc46 => ?_)
      · have h := h.1 hc46
        refine mr_iconst 0 dd_Mo_fitting_59 (by decide) ?_
        refine mr_iadd dd_Mo_fitting_60 ?_
        refine mr_istore dd_Mo_fitting_61 (by decide) ?_
        show mm_Z l G Y_Mo_fitting K M0 bc bs 63 [some (.inr (some a0)), some (.inl y1), some (.inl y2), some (.inl y3), some (.inl y4), some (.inl (y5 + 0)), some (.inl y6)] [] M
        refine mr_iinc 1 dd_Mo_fitting_63 rfl (by decide) (by decide) ?_
        show mm_Z l G Y_Mo_fitting K M0 bc bs 66 [some (.inr (some a0)), some (.inl y1), some (.inl y2), some (.inl y3), some (.inl y4), some (.inl (y5 + 0)), some (.inl (y6 + 1))] [] M
        refine mr_goto 18 dd_Mo_fitting_66 (by decide) ?_
        exact h
      · have h := h.2 hc46
        refine mr_aload_n dd_Mo_fitting_49 rfl ?_
        refine mr_getr ff_Mo_29 dd_Mo_fitting_50 rs_8_7 rfl hk20 ?_
        refine mr_iload dd_Mo_fitting_53 rfl ?_
        obtain ⟨a35, ho36, h⟩ := h
        obtain ⟨hk37, h⟩ := h
        obtain ⟨j38, hj39, hm40, hl41, h⟩ := h
        refine mr_iald dd_Mo_fitting_55 ho36 hk37 hj39 hm40 hl41 ?_
        refine mr_goto 60 dd_Mo_fitting_56 (by decide) ?_
        refine mr_iadd dd_Mo_fitting_60 ?_
        refine mr_istore dd_Mo_fitting_61 (by decide) ?_
        show mm_Z l G Y_Mo_fitting K M0 bc bs 63 [some (.inr (some a0)), some (.inl y1), some (.inl y2), some (.inl y3), some (.inl y4), some (.inl (y5 + (mm_i M a35 j38))), some (.inl y6)] [] M
        refine mr_iinc 1 dd_Mo_fitting_63 rfl (by decide) (by decide) ?_
        show mm_Z l G Y_Mo_fitting K M0 bc bs 66 [some (.inr (some a0)), some (.inl y1), some (.inl y2), some (.inl y3), some (.inl y4), some (.inl (y5 + (mm_i M a35 j38))), some (.inl (y6 + 1))] [] M
        refine mr_goto 18 dd_Mo_fitting_66 (by decide) ?_
        exact h
set_option maxHeartbeats 4000000 in
set_option maxRecDepth 100000 in
theorem sg_Mo_find {l : Launch} {G : mm_G} {K : Option mm_V → mm_M → Prop} {M : mm_M} {a0 : Nat} {xa : Int32} {xb : Int32} {xc : Int32}
    (h : mm_k M a0 = 9 ∧ mm_Ok l G yy_Mo_fitting Y_Mo_fitting [.inr (some a0), .inl xa, .inl xc] M (fun r M1 => mm_X M M1 → ∃ x4 : Int32, r = some (.inl x4) ∧ (0 ≤ x4 → K (some (.inl x4)) M1) ∧ (¬ 0 ≤ x4 → mm_Ok l G yy_Mo_rest Y_Mo_rest [.inr (some a0), .inl xb] M1 (fun r M5 => mm_X M1 M5 → ∃ x7 : Int32, r = some (.inl x7) ∧ (1 ≤ x7 → mm_Z l G Y_Mo_find K M 0 0 28 [some (.inr (some a0)), some (.inl xa), some (.inl xb), some (.inl xc), some (.inl 0)] [] M5) ∧ (¬ 1 ≤ x7 → K (some (.inl x4)) M5))))) :
    mm_Ok l G yy_Mo_find Y_Mo_find [.inr (some a0), .inl xa, .inl xb, .inl xc] M K := by
  refine mm_go (by decide) rfl (fun q => by cases q) (Nat.le_of_ble_eq_true rfl) ?_
  show mm_Z l G Y_Mo_find K M 0 0 0 [some (.inr (some a0)), some (.inl xa), some (.inl xb), some (.inl xc), none] [] M
  refine mr_aload_n dd_Mo_find_0 rfl ?_
  refine mr_iload_n dd_Mo_find_1 rfl ?_
  refine mr_iload_n dd_Mo_find_2 rfl ?_
  obtain ⟨hk3, h⟩ := h
  refine mr_callV0 (Yc := Y_Mo_fitting) (M := M) (st := []) (vs := [.inl xa, .inl xc]) (ci := 8) fc_Mo_130 iv_Mo_fitting sv_Mo_fitting dd_Mo_find_3 ⟨Nat.le_of_ble_eq_true rfl, Nat.le_of_ble_eq_true rfl⟩ (by decide) rfl rfl (Nat.le_of_ble_eq_true rfl) rfl hk3 rfl rfl h (fun r M1 hX2 h => ?_)
  replace h := h hX2
  obtain ⟨x4, rfl, h⟩ := h
  show mm_Z l G Y_Mo_find K M 0 0 6 [some (.inr (some a0)), some (.inl xa), some (.inl xb), some (.inl xc), none] [.inl x4] M1
  refine mr_istore dd_Mo_find_6 (by decide) ?_
  show mm_Z l G Y_Mo_find K M 0 0 8 [some (.inr (some a0)), some (.inl xa), some (.inl xb), some (.inl xc), some (.inl x4)] [] M1
  refine mr_iload dd_Mo_find_8 rfl ?_
  refine mr_if_ge 22 dd_Mo_find_10 (by decide) (fun hc10 => ?_) (fun hc10 => ?_)
  · have h := h.1 hc10
    refine mr_iload dd_Mo_find_22 rfl ?_
    exact mr_ireturn dd_Mo_find_24 rfl h
  · have h := h.2 hc10
    refine mr_aload_n dd_Mo_find_13 rfl ?_
    refine mr_iload_n dd_Mo_find_14 rfl ?_
    refine mr_callV0 (Yc := Y_Mo_rest) (M := M1) (st := []) (vs := [.inl xb]) (ci := 8) fc_Mo_124 iv_Mo_rest sv_Mo_rest dd_Mo_find_15 ⟨Nat.le_of_ble_eq_true rfl, Nat.le_of_ble_eq_true rfl⟩ (by decide) rfl rfl (Nat.le_of_ble_eq_true rfl) rfl (mm_Xk hX2 hk3 (by decide)) rfl rfl h (fun r M5 hX6 h => ?_)
    replace h := h hX6
    obtain ⟨x7, rfl, h⟩ := h
    show mm_Z l G Y_Mo_find K M 0 0 18 [some (.inr (some a0)), some (.inl xa), some (.inl xb), some (.inl xc), some (.inl x4)] [.inl x7] M5
    refine mr_iconst 1 dd_Mo_find_18 (by decide) ?_
    refine mr_icmp_ge 25 dd_Mo_find_19 (by decide) (fun hc19 => ?_) (fun hc19 => ?_)
    · have h := h.1 hc19
      refine mr_iconst 0 dd_Mo_find_25 (by decide) ?_
      refine mr_istore dd_Mo_find_26 (by decide) ?_
      show mm_Z l G Y_Mo_find K M 0 0 28 [some (.inr (some a0)), some (.inl xa), some (.inl xb), some (.inl xc), some (.inl 0)] [] M5
      exact h
    · have h := h.2 hc19
      refine mr_iload dd_Mo_find_22 rfl ?_
      exact mr_ireturn dd_Mo_find_24 rfl h
set_option maxHeartbeats 4000000 in
set_option maxRecDepth 100000 in
theorem sg_Mo_find_28 {l : Launch} {G : mm_G} {K : Option mm_V → mm_M → Prop} {M0 M : mm_M} {bc bs : Nat} {a0 : Nat} {y1 : Int32} {y2 : Int32} {y3 : Int32} {y4 : Int32}
    (h : (24 ≤ y4 → mm_k M a0 = 9 ∧ ∃ a2 : Nat, (mm_p M a0 11) = some a2 ∧ mm_k M a2 = 100 ∧ ∃ j5 : Nat, y4 = nI j5 ∧ j5 < 2147483648 ∧ j5 < mm_l M a2 ∧ ∃ a9 : Nat, (mm_p (mm_si M a2 j5 (y1 + 1)) a0 12) = some a9 ∧ mm_k (mm_si M a2 j5 (y1 + 1)) a9 = 100 ∧ ∃ j12 : Nat, y4 = nI j12 ∧ j12 < 2147483648 ∧ j12 < mm_l (mm_si M a2 j5 (y1 + 1)) a9 ∧ ∃ a16 : Nat, (mm_p (mm_si (mm_si (mm_si M a2 j5 (y1 + 1)) a9 j12 y2) a0 14 ((mm_i (mm_si (mm_si M a2 j5 (y1 + 1)) a9 j12 y2) a0 14) + 1)) a0 13) = some a16 ∧ mm_k (mm_si (mm_si (mm_si M a2 j5 (y1 + 1)) a9 j12 y2) a0 14 ((mm_i (mm_si (mm_si M a2 j5 (y1 + 1)) a9 j12 y2) a0 14) + 1)) a16 = 100 ∧ ∃ j19 : Nat, y4 = nI j19 ∧ j19 < 2147483648 ∧ j19 < mm_l (mm_si (mm_si (mm_si M a2 j5 (y1 + 1)) a9 j12 y2) a0 14 ((mm_i (mm_si (mm_si M a2 j5 (y1 + 1)) a9 j12 y2) a0 14) + 1)) a16 ∧ K (some (.inl y4)) (mm_si (mm_si (mm_si (mm_si M a2 j5 (y1 + 1)) a9 j12 y2) a0 14 ((mm_i (mm_si (mm_si M a2 j5 (y1 + 1)) a9 j12 y2) a0 14) + 1)) a16 j19 (mm_i (mm_si (mm_si (mm_si M a2 j5 (y1 + 1)) a9 j12 y2) a0 14 ((mm_i (mm_si (mm_si M a2 j5 (y1 + 1)) a9 j12 y2) a0 14) + 1)) a0 14))) ∧ (¬ 24 ≤ y4 → mm_k M a0 = 9 ∧ ∃ a24 : Nat, (mm_p M a0 11) = some a24 ∧ mm_k M a24 = 100 ∧ ∃ j27 : Nat, y4 = nI j27 ∧ j27 < 2147483648 ∧ j27 < mm_l M a24 ∧ ((mm_i M a24 j27) ≤ 0 → ∃ j31 : Nat, y4 = nI j31 ∧ j31 < 2147483648 ∧ j31 < mm_l M a24 ∧ ∃ a35 : Nat, (mm_p (mm_si M a24 j31 (y1 + 1)) a0 12) = some a35 ∧ mm_k (mm_si M a24 j31 (y1 + 1)) a35 = 100 ∧ ∃ j38 : Nat, y4 = nI j38 ∧ j38 < 2147483648 ∧ j38 < mm_l (mm_si M a24 j31 (y1 + 1)) a35 ∧ ∃ a42 : Nat, (mm_p (mm_si (mm_si (mm_si M a24 j31 (y1 + 1)) a35 j38 y2) a0 14 ((mm_i (mm_si (mm_si M a24 j31 (y1 + 1)) a35 j38 y2) a0 14) + 1)) a0 13) = some a42 ∧ mm_k (mm_si (mm_si (mm_si M a24 j31 (y1 + 1)) a35 j38 y2) a0 14 ((mm_i (mm_si (mm_si M a24 j31 (y1 + 1)) a35 j38 y2) a0 14) + 1)) a42 = 100 ∧ ∃ j45 : Nat, y4 = nI j45 ∧ j45 < 2147483648 ∧ j45 < mm_l (mm_si (mm_si (mm_si M a24 j31 (y1 + 1)) a35 j38 y2) a0 14 ((mm_i (mm_si (mm_si M a24 j31 (y1 + 1)) a35 j38 y2) a0 14) + 1)) a42 ∧ K (some (.inl y4)) (mm_si (mm_si (mm_si (mm_si M a24 j31 (y1 + 1)) a35 j38 y2) a0 14 ((mm_i (mm_si (mm_si M a24 j31 (y1 + 1)) a35 j38 y2) a0 14) + 1)) a42 j45 (mm_i (mm_si (mm_si (mm_si M a24 j31 (y1 + 1)) a35 j38 y2) a0 14 ((mm_i (mm_si (mm_si M a24 j31 (y1 + 1)) a35 j38 y2) a0 14) + 1)) a0 14))) ∧ (¬ (mm_i M a24 j27) ≤ 0 → mm_Z l G Y_Mo_find K M0 bc bs 28 [some (.inr (some a0)), some (.inl y1), some (.inl y2), some (.inl y3), some (.inl (y4 + 1))] [] M))) :
    mm_Z l G Y_Mo_find K M0 bc bs 28 [some (.inr (some a0)), some (.inl y1), some (.inl y2), some (.inl y3), some (.inl y4)] [] M := by
  refine mr_iload dd_Mo_find_28 rfl ?_
  refine mr_bipush 24 dd_Mo_find_30 (by decide) ?_
  refine mr_icmp_ge 51 dd_Mo_find_32 (by decide) (fun hc32 => ?_) (fun hc32 => ?_)
  · have h := h.1 hc32
    refine mr_aload_n dd_Mo_find_51 rfl ?_
    obtain ⟨hk1, h⟩ := h
    refine mr_getr ff_Mo_41 dd_Mo_find_52 rs_8_11 rfl hk1 ?_
    refine mr_iload dd_Mo_find_55 rfl ?_
    refine mr_iload_n dd_Mo_find_57 rfl ?_
    refine mr_iconst 1 dd_Mo_find_58 (by decide) ?_
    refine mr_iadd dd_Mo_find_59 ?_
    obtain ⟨a2, ho3, h⟩ := h
    obtain ⟨hk4, h⟩ := h
    obtain ⟨j5, hj6, hm7, hl8, h⟩ := h
    refine mr_iast dd_Mo_find_60 ho3 hk4 hj6 hm7 hl8 ?_
    refine mr_aload_n dd_Mo_find_61 rfl ?_
    refine mr_getr ff_Mo_44 dd_Mo_find_62 rs_8_12 rfl hk1 ?_
    refine mr_iload dd_Mo_find_65 rfl ?_
    refine mr_iload_n dd_Mo_find_67 rfl ?_
    obtain ⟨a9, ho10, h⟩ := h
    obtain ⟨hk11, h⟩ := h
    obtain ⟨j12, hj13, hm14, hl15, h⟩ := h
    refine mr_iast dd_Mo_find_68 ho10 hk11 hj13 hm14 hl15 ?_
    refine mr_aload_n dd_Mo_find_69 rfl ?_
    refine mr_dup dd_Mo_find_70 ?_
    refine mr_geti ff_Mo_118 dd_Mo_find_71 rs_8_14 rfl hk1 ?_
    refine mr_iconst 1 dd_Mo_find_74 (by decide) ?_
    refine mr_iadd dd_Mo_find_75 ?_
    refine mr_puti ff_Mo_118 fp_8 (Or.inl rfl) dd_Mo_find_76 (Or.inl (by decide +kernel)) rs_8_14 rfl hk1 ?_
    refine mr_aload_n dd_Mo_find_79 rfl ?_
    refine mr_getr ff_Mo_47 dd_Mo_find_80 rs_8_13 rfl hk1 ?_
    refine mr_iload dd_Mo_find_83 rfl ?_
    refine mr_aload_n dd_Mo_find_85 rfl ?_
    refine mr_geti ff_Mo_118 dd_Mo_find_86 rs_8_14 rfl hk1 ?_
    obtain ⟨a16, ho17, h⟩ := h
    obtain ⟨hk18, h⟩ := h
    obtain ⟨j19, hj20, hm21, hl22, h⟩ := h
    refine mr_iast dd_Mo_find_89 ho17 hk18 hj20 hm21 hl22 ?_
    refine mr_iload dd_Mo_find_90 rfl ?_
    exact mr_ireturn dd_Mo_find_92 rfl h
  · have h := h.2 hc32
    refine mr_aload_n dd_Mo_find_35 rfl ?_
    obtain ⟨hk23, h⟩ := h
    refine mr_getr ff_Mo_41 dd_Mo_find_36 rs_8_11 rfl hk23 ?_
    refine mr_iload dd_Mo_find_39 rfl ?_
    obtain ⟨a24, ho25, h⟩ := h
    obtain ⟨hk26, h⟩ := h
    obtain ⟨j27, hj28, hm29, hl30, h⟩ := h
    refine mr_iald dd_Mo_find_41 ho25 hk26 hj28 hm29 hl30 ?_
    refine mr_if_le 51 dd_Mo_find_42 (by decide) (fun hc42 => ?_) (fun hc42 => ?_)
    · have h := h.1 hc42
      refine mr_aload_n dd_Mo_find_51 rfl ?_
      refine mr_getr ff_Mo_41 dd_Mo_find_52 rs_8_11 rfl hk23 ?_
      refine mr_iload dd_Mo_find_55 rfl ?_
      refine mr_iload_n dd_Mo_find_57 rfl ?_
      refine mr_iconst 1 dd_Mo_find_58 (by decide) ?_
      refine mr_iadd dd_Mo_find_59 ?_
      obtain ⟨j31, hj32, hm33, hl34, h⟩ := h
      refine mr_iast dd_Mo_find_60 ho25 hk26 hj32 hm33 hl34 ?_
      refine mr_aload_n dd_Mo_find_61 rfl ?_
      refine mr_getr ff_Mo_44 dd_Mo_find_62 rs_8_12 rfl hk23 ?_
      refine mr_iload dd_Mo_find_65 rfl ?_
      refine mr_iload_n dd_Mo_find_67 rfl ?_
      obtain ⟨a35, ho36, h⟩ := h
      obtain ⟨hk37, h⟩ := h
      obtain ⟨j38, hj39, hm40, hl41, h⟩ := h
      refine mr_iast dd_Mo_find_68 ho36 hk37 hj39 hm40 hl41 ?_
      refine mr_aload_n dd_Mo_find_69 rfl ?_
      refine mr_dup dd_Mo_find_70 ?_
      refine mr_geti ff_Mo_118 dd_Mo_find_71 rs_8_14 rfl hk23 ?_
      refine mr_iconst 1 dd_Mo_find_74 (by decide) ?_
      refine mr_iadd dd_Mo_find_75 ?_
      refine mr_puti ff_Mo_118 fp_8 (Or.inl rfl) dd_Mo_find_76 (Or.inl (by decide +kernel)) rs_8_14 rfl hk23 ?_
      refine mr_aload_n dd_Mo_find_79 rfl ?_
      refine mr_getr ff_Mo_47 dd_Mo_find_80 rs_8_13 rfl hk23 ?_
      refine mr_iload dd_Mo_find_83 rfl ?_
      refine mr_aload_n dd_Mo_find_85 rfl ?_
      refine mr_geti ff_Mo_118 dd_Mo_find_86 rs_8_14 rfl hk23 ?_
      obtain ⟨a42, ho43, h⟩ := h
      obtain ⟨hk44, h⟩ := h
      obtain ⟨j45, hj46, hm47, hl48, h⟩ := h
      refine mr_iast dd_Mo_find_89 ho43 hk44 hj46 hm47 hl48 ?_
      refine mr_iload dd_Mo_find_90 rfl ?_
      exact mr_ireturn dd_Mo_find_92 rfl h
    · have h := h.2 hc42
      refine mr_iinc 1 dd_Mo_find_45 rfl (by decide) (by decide) ?_
      show mm_Z l G Y_Mo_find K M0 bc bs 48 [some (.inr (some a0)), some (.inl y1), some (.inl y2), some (.inl y3), some (.inl (y4 + 1))] [] M
      refine mr_goto 28 dd_Mo_find_48 (by decide) ?_
      exact h
set_option maxHeartbeats 4000000 in
set_option maxRecDepth 100000 in
theorem sg_Mo_pages {l : Launch} {G : mm_G} {K : Option mm_V → mm_M → Prop} {M : mm_M} {a0 : Nat} {xa : Int32}
    (h : mm_Z l G Y_Mo_pages K M 0 0 4 [some (.inr (some a0)), some (.inl xa), some (.inl 0), some (.inl 0)] [] M) :
    mm_Ok l G yy_Mo_pages Y_Mo_pages [.inr (some a0), .inl xa] M K := by
  refine mm_go (by decide) rfl (fun q => by cases q) (Nat.le_of_ble_eq_true rfl) ?_
  show mm_Z l G Y_Mo_pages K M 0 0 0 [some (.inr (some a0)), some (.inl xa), none, none] [] M
  refine mr_iconst 0 dd_Mo_pages_0 (by decide) ?_
  refine mr_istore_n dd_Mo_pages_1 (by decide) ?_
  show mm_Z l G Y_Mo_pages K M 0 0 2 [some (.inr (some a0)), some (.inl xa), some (.inl 0), none] [] M
  refine mr_iconst 0 dd_Mo_pages_2 (by decide) ?_
  refine mr_istore_n dd_Mo_pages_3 (by decide) ?_
  show mm_Z l G Y_Mo_pages K M 0 0 4 [some (.inr (some a0)), some (.inl xa), some (.inl 0), some (.inl 0)] [] M
  exact h
set_option maxHeartbeats 4000000 in
set_option maxRecDepth 100000 in
theorem sg_Mo_pages_4 {l : Launch} {G : mm_G} {K : Option mm_V → mm_M → Prop} {M0 M : mm_M} {bc bs : Nat} {a0 : Nat} {y1 : Int32} {y2 : Int32} {y3 : Int32}
    (h : (24 ≤ y3 → K (some (.inl y2)) M) ∧ (¬ 24 ≤ y3 → (y1 < 0 → mm_Z l G Y_Mo_pages K M0 bc bs 4 [some (.inr (some a0)), some (.inl y1), some (.inl (y2 + 0)), some (.inl (y3 + 1))] [] M) ∧ (¬ y1 < 0 → (13 ≤ y1 → mm_Z l G Y_Mo_pages K M0 bc bs 4 [some (.inr (some a0)), some (.inl y1), some (.inl (y2 + 0)), some (.inl (y3 + 1))] [] M) ∧ (¬ 13 ≤ y1 → mm_k M a0 = 9 ∧ ∃ a2 : Nat, (mm_p M a0 11) = some a2 ∧ mm_k M a2 = 100 ∧ ∃ j5 : Nat, y3 = nI j5 ∧ j5 < 2147483648 ∧ j5 < mm_l M a2 ∧ (¬ (mm_i M a2 j5) = (y1 + 1) → mm_Z l G Y_Mo_pages K M0 bc bs 4 [some (.inr (some a0)), some (.inl y1), some (.inl (y2 + 0)), some (.inl (y3 + 1))] [] M) ∧ ((mm_i M a2 j5) = (y1 + 1) → mm_Z l G Y_Mo_pages K M0 bc bs 4 [some (.inr (some a0)), some (.inl y1), some (.inl (y2 + 1)), some (.inl (y3 + 1))] [] M))))) :
    mm_Z l G Y_Mo_pages K M0 bc bs 4 [some (.inr (some a0)), some (.inl y1), some (.inl y2), some (.inl y3)] [] M := by
  refine mr_iload_n dd_Mo_pages_4 rfl ?_
  refine mr_bipush 24 dd_Mo_pages_5 (by decide) ?_
  refine mr_icmp_ge 46 dd_Mo_pages_7 (by decide) (fun hc7 => ?_) (fun hc7 => ?_)
  · have h := h.1 hc7
    refine mr_iload_n dd_Mo_pages_46 rfl ?_
    exact mr_ireturn dd_Mo_pages_47 rfl h
  · have h := h.2 hc7
    refine mr_iload_n dd_Mo_pages_10 rfl ?_
    refine mr_iload_n dd_Mo_pages_11 rfl ?_
    refine mr_if_lt 37 dd_Mo_pages_12 (by decide) (fun hc12 => ?_) (fun hc12 => ?_)
    · have h := h.1 hc12
      refine mr_iconst 0 dd_Mo_pages_37 (by decide) ?_
      refine mr_iadd dd_Mo_pages_38 ?_
      refine mr_istore_n dd_Mo_pages_39 (by decide) ?_
      show mm_Z l G Y_Mo_pages K M0 bc bs 40 [some (.inr (some a0)), some (.inl y1), some (.inl (y2 + 0)), some (.inl y3)] [] M
      refine mr_iinc 1 dd_Mo_pages_40 rfl (by decide) (by decide) ?_
      show mm_Z l G Y_Mo_pages K M0 bc bs 43 [some (.inr (some a0)), some (.inl y1), some (.inl (y2 + 0)), some (.inl (y3 + 1))] [] M
      refine mr_goto 4 dd_Mo_pages_43 (by decide) ?_
      exact h
    · have h := h.2 hc12
      refine mr_iload_n dd_Mo_pages_15 rfl ?_
      refine mr_bipush 13 dd_Mo_pages_16 (by decide) ?_
      refine mr_icmp_ge 37 dd_Mo_pages_18 (by decide) (fun hc18 => ?_) (fun hc18 => ?_)
      · have h := h.1 hc18
        refine mr_iconst 0 dd_Mo_pages_37 (by decide) ?_
        refine mr_iadd dd_Mo_pages_38 ?_
        refine mr_istore_n dd_Mo_pages_39 (by decide) ?_
        show mm_Z l G Y_Mo_pages K M0 bc bs 40 [some (.inr (some a0)), some (.inl y1), some (.inl (y2 + 0)), some (.inl y3)] [] M
        refine mr_iinc 1 dd_Mo_pages_40 rfl (by decide) (by decide) ?_
        show mm_Z l G Y_Mo_pages K M0 bc bs 43 [some (.inr (some a0)), some (.inl y1), some (.inl (y2 + 0)), some (.inl (y3 + 1))] [] M
        refine mr_goto 4 dd_Mo_pages_43 (by decide) ?_
        exact h
      · have h := h.2 hc18
        refine mr_aload_n dd_Mo_pages_21 rfl ?_
        obtain ⟨hk1, h⟩ := h
        refine mr_getr ff_Mo_41 dd_Mo_pages_22 rs_8_11 rfl hk1 ?_
        refine mr_iload_n dd_Mo_pages_25 rfl ?_
        obtain ⟨a2, ho3, h⟩ := h
        obtain ⟨hk4, h⟩ := h
        obtain ⟨j5, hj6, hm7, hl8, h⟩ := h
        refine mr_iald dd_Mo_pages_26 ho3 hk4 hj6 hm7 hl8 ?_
        refine mr_iload_n dd_Mo_pages_27 rfl ?_
        refine mr_iconst 1 dd_Mo_pages_28 (by decide) ?_
        refine mr_iadd dd_Mo_pages_29 ?_
        refine mr_icmp_ne 37 dd_Mo_pages_30 (by decide) (fun hc30 => ?_) (fun hc30 => ?_)
        · have h := h.1 hc30
          refine mr_iconst 0 dd_Mo_pages_37 (by decide) ?_
          refine mr_iadd dd_Mo_pages_38 ?_
          refine mr_istore_n dd_Mo_pages_39 (by decide) ?_
          show mm_Z l G Y_Mo_pages K M0 bc bs 40 [some (.inr (some a0)), some (.inl y1), some (.inl (y2 + 0)), some (.inl y3)] [] M
          refine mr_iinc 1 dd_Mo_pages_40 rfl (by decide) (by decide) ?_
          show mm_Z l G Y_Mo_pages K M0 bc bs 43 [some (.inr (some a0)), some (.inl y1), some (.inl (y2 + 0)), some (.inl (y3 + 1))] [] M
          refine mr_goto 4 dd_Mo_pages_43 (by decide) ?_
          exact h
        · have h := h.2 hc30
          refine mr_iconst 1 dd_Mo_pages_33 (by decide) ?_
          refine mr_goto 38 dd_Mo_pages_34 (by decide) ?_
          refine mr_iadd dd_Mo_pages_38 ?_
          refine mr_istore_n dd_Mo_pages_39 (by decide) ?_
          show mm_Z l G Y_Mo_pages K M0 bc bs 40 [some (.inr (some a0)), some (.inl y1), some (.inl (y2 + 1)), some (.inl y3)] [] M
          refine mr_iinc 1 dd_Mo_pages_40 rfl (by decide) (by decide) ?_
          show mm_Z l G Y_Mo_pages K M0 bc bs 43 [some (.inr (some a0)), some (.inl y1), some (.inl (y2 + 1)), some (.inl (y3 + 1))] [] M
          refine mr_goto 4 dd_Mo_pages_43 (by decide) ?_
          exact h
set_option maxHeartbeats 4000000 in
set_option maxRecDepth 100000 in
theorem sg_Mo_objects {l : Launch} {G : mm_G} {K : Option mm_V → mm_M → Prop} {M : mm_M} {a0 : Nat} {xa : Int32}
    (h : mm_Z l G Y_Mo_objects K M 0 0 4 [some (.inr (some a0)), some (.inl xa), some (.inl 0), some (.inl 0)] [] M) :
    mm_Ok l G yy_Mo_objects Y_Mo_objects [.inr (some a0), .inl xa] M K := by
  refine mm_go (by decide) rfl (fun q => by cases q) (Nat.le_of_ble_eq_true rfl) ?_
  show mm_Z l G Y_Mo_objects K M 0 0 0 [some (.inr (some a0)), some (.inl xa), none, none] [] M
  refine mr_iconst 0 dd_Mo_objects_0 (by decide) ?_
  refine mr_istore_n dd_Mo_objects_1 (by decide) ?_
  show mm_Z l G Y_Mo_objects K M 0 0 2 [some (.inr (some a0)), some (.inl xa), some (.inl 0), none] [] M
  refine mr_iconst 0 dd_Mo_objects_2 (by decide) ?_
  refine mr_istore_n dd_Mo_objects_3 (by decide) ?_
  show mm_Z l G Y_Mo_objects K M 0 0 4 [some (.inr (some a0)), some (.inl xa), some (.inl 0), some (.inl 0)] [] M
  exact h
set_option maxHeartbeats 4000000 in
set_option maxRecDepth 100000 in
theorem sg_Mo_objects_4 {l : Launch} {G : mm_G} {K : Option mm_V → mm_M → Prop} {M0 M : mm_M} {bc bs : Nat} {a0 : Nat} {y1 : Int32} {y2 : Int32} {y3 : Int32}
    (h : (60 ≤ y3 → K (some (.inl y2)) M) ∧ (¬ 60 ≤ y3 → (y1 < 0 → mm_Z l G Y_Mo_objects K M0 bc bs 4 [some (.inr (some a0)), some (.inl y1), some (.inl (y2 + 0)), some (.inl (y3 + 1))] [] M) ∧ (¬ y1 < 0 → (13 ≤ y1 → mm_Z l G Y_Mo_objects K M0 bc bs 4 [some (.inr (some a0)), some (.inl y1), some (.inl (y2 + 0)), some (.inl (y3 + 1))] [] M) ∧ (¬ 13 ≤ y1 → mm_k M a0 = 9 ∧ ∃ a2 : Nat, (mm_p M a0 6) = some a2 ∧ mm_k M a2 = 100 ∧ ∃ j5 : Nat, y3 = nI j5 ∧ j5 < 2147483648 ∧ j5 < mm_l M a2 ∧ (¬ (mm_i M a2 j5) = (y1 + 1) → mm_Z l G Y_Mo_objects K M0 bc bs 4 [some (.inr (some a0)), some (.inl y1), some (.inl (y2 + 0)), some (.inl (y3 + 1))] [] M) ∧ ((mm_i M a2 j5) = (y1 + 1) → mm_Z l G Y_Mo_objects K M0 bc bs 4 [some (.inr (some a0)), some (.inl y1), some (.inl (y2 + 1)), some (.inl (y3 + 1))] [] M))))) :
    mm_Z l G Y_Mo_objects K M0 bc bs 4 [some (.inr (some a0)), some (.inl y1), some (.inl y2), some (.inl y3)] [] M := by
  refine mr_iload_n dd_Mo_objects_4 rfl ?_
  refine mr_bipush 60 dd_Mo_objects_5 (by decide) ?_
  refine mr_icmp_ge 46 dd_Mo_objects_7 (by decide) (fun hc7 => ?_) (fun hc7 => ?_)
  · have h := h.1 hc7
    refine mr_iload_n dd_Mo_objects_46 rfl ?_
    exact mr_ireturn dd_Mo_objects_47 rfl h
  · have h := h.2 hc7
    refine mr_iload_n dd_Mo_objects_10 rfl ?_
    refine mr_iload_n dd_Mo_objects_11 rfl ?_
    refine mr_if_lt 37 dd_Mo_objects_12 (by decide) (fun hc12 => ?_) (fun hc12 => ?_)
    · have h := h.1 hc12
      refine mr_iconst 0 dd_Mo_objects_37 (by decide) ?_
      refine mr_iadd dd_Mo_objects_38 ?_
      refine mr_istore_n dd_Mo_objects_39 (by decide) ?_
      show mm_Z l G Y_Mo_objects K M0 bc bs 40 [some (.inr (some a0)), some (.inl y1), some (.inl (y2 + 0)), some (.inl y3)] [] M
      refine mr_iinc 1 dd_Mo_objects_40 rfl (by decide) (by decide) ?_
      show mm_Z l G Y_Mo_objects K M0 bc bs 43 [some (.inr (some a0)), some (.inl y1), some (.inl (y2 + 0)), some (.inl (y3 + 1))] [] M
      refine mr_goto 4 dd_Mo_objects_43 (by decide) ?_
      exact h
    · have h := h.2 hc12
      refine mr_iload_n dd_Mo_objects_15 rfl ?_
      refine mr_bipush 13 dd_Mo_objects_16 (by decide) ?_
      refine mr_icmp_ge 37 dd_Mo_objects_18 (by decide) (fun hc18 => ?_) (fun hc18 => ?_)
      · have h := h.1 hc18
        refine mr_iconst 0 dd_Mo_objects_37 (by decide) ?_
        refine mr_iadd dd_Mo_objects_38 ?_
        refine mr_istore_n dd_Mo_objects_39 (by decide) ?_
        show mm_Z l G Y_Mo_objects K M0 bc bs 40 [some (.inr (some a0)), some (.inl y1), some (.inl (y2 + 0)), some (.inl y3)] [] M
        refine mr_iinc 1 dd_Mo_objects_40 rfl (by decide) (by decide) ?_
        show mm_Z l G Y_Mo_objects K M0 bc bs 43 [some (.inr (some a0)), some (.inl y1), some (.inl (y2 + 0)), some (.inl (y3 + 1))] [] M
        refine mr_goto 4 dd_Mo_objects_43 (by decide) ?_
        exact h
      · have h := h.2 hc18
        refine mr_aload_n dd_Mo_objects_21 rfl ?_
        obtain ⟨hk1, h⟩ := h
        refine mr_getr ff_Mo_26 dd_Mo_objects_22 rs_8_6 rfl hk1 ?_
        refine mr_iload_n dd_Mo_objects_25 rfl ?_
        obtain ⟨a2, ho3, h⟩ := h
        obtain ⟨hk4, h⟩ := h
        obtain ⟨j5, hj6, hm7, hl8, h⟩ := h
        refine mr_iald dd_Mo_objects_26 ho3 hk4 hj6 hm7 hl8 ?_
        refine mr_iload_n dd_Mo_objects_27 rfl ?_
        refine mr_iconst 1 dd_Mo_objects_28 (by decide) ?_
        refine mr_iadd dd_Mo_objects_29 ?_
        refine mr_icmp_ne 37 dd_Mo_objects_30 (by decide) (fun hc30 => ?_) (fun hc30 => ?_)
        · have h := h.1 hc30
          refine mr_iconst 0 dd_Mo_objects_37 (by decide) ?_
          refine mr_iadd dd_Mo_objects_38 ?_
          refine mr_istore_n dd_Mo_objects_39 (by decide) ?_
          show mm_Z l G Y_Mo_objects K M0 bc bs 40 [some (.inr (some a0)), some (.inl y1), some (.inl (y2 + 0)), some (.inl y3)] [] M
          refine mr_iinc 1 dd_Mo_objects_40 rfl (by decide) (by decide) ?_
          show mm_Z l G Y_Mo_objects K M0 bc bs 43 [some (.inr (some a0)), some (.inl y1), some (.inl (y2 + 0)), some (.inl (y3 + 1))] [] M
          refine mr_goto 4 dd_Mo_objects_43 (by decide) ?_
          exact h
        · have h := h.2 hc30
          refine mr_iconst 1 dd_Mo_objects_33 (by decide) ?_
          refine mr_goto 38 dd_Mo_objects_34 (by decide) ?_
          refine mr_iadd dd_Mo_objects_38 ?_
          refine mr_istore_n dd_Mo_objects_39 (by decide) ?_
          show mm_Z l G Y_Mo_objects K M0 bc bs 40 [some (.inr (some a0)), some (.inl y1), some (.inl (y2 + 1)), some (.inl y3)] [] M
          refine mr_iinc 1 dd_Mo_objects_40 rfl (by decide) (by decide) ?_
          show mm_Z l G Y_Mo_objects K M0 bc bs 43 [some (.inr (some a0)), some (.inl y1), some (.inl (y2 + 1)), some (.inl (y3 + 1))] [] M
          refine mr_goto 4 dd_Mo_objects_43 (by decide) ?_
          exact h
set_option maxHeartbeats 4000000 in
set_option maxRecDepth 100000 in
theorem sg_Mo_items {l : Launch} {G : mm_G} {K : Option mm_V → mm_M → Prop} {M : mm_M} {a0 : Nat} {xa : Int32}
    (h : mm_Z l G Y_Mo_items K M 0 0 4 [some (.inr (some a0)), some (.inl xa), some (.inl 0), some (.inl 0)] [] M) :
    mm_Ok l G yy_Mo_items Y_Mo_items [.inr (some a0), .inl xa] M K := by
  refine mm_go (by decide) rfl (fun q => by cases q) (Nat.le_of_ble_eq_true rfl) ?_
  show mm_Z l G Y_Mo_items K M 0 0 0 [some (.inr (some a0)), some (.inl xa), none, none] [] M
  refine mr_iconst 0 dd_Mo_items_0 (by decide) ?_
  refine mr_istore_n dd_Mo_items_1 (by decide) ?_
  show mm_Z l G Y_Mo_items K M 0 0 2 [some (.inr (some a0)), some (.inl xa), some (.inl 0), none] [] M
  refine mr_iconst 0 dd_Mo_items_2 (by decide) ?_
  refine mr_istore_n dd_Mo_items_3 (by decide) ?_
  show mm_Z l G Y_Mo_items K M 0 0 4 [some (.inr (some a0)), some (.inl xa), some (.inl 0), some (.inl 0)] [] M
  exact h
set_option maxHeartbeats 4000000 in
set_option maxRecDepth 100000 in
theorem sg_Mo_items_4 {l : Launch} {G : mm_G} {K : Option mm_V → mm_M → Prop} {M0 M : mm_M} {bc bs : Nat} {a0 : Nat} {y1 : Int32} {y2 : Int32} {y3 : Int32}
    (h : (60 ≤ y3 → K (some (.inl y2)) M) ∧ (¬ 60 ≤ y3 → (y1 < 0 → K (some (.inl y2)) M) ∧ (¬ y1 < 0 → (13 ≤ y1 → K (some (.inl y2)) M) ∧ (¬ 13 ≤ y1 → mm_k M a0 = 9 ∧ ∃ a2 : Nat, (mm_p M a0 21) = some a2 ∧ mm_k M a2 = 101 ∧ ∃ j5 : Nat, ((60 * y1) + y3) = nI j5 ∧ j5 < 2147483648 ∧ j5 < mm_l M a2 ∧ ((mm_i M a2 j5) = 0 → mm_Z l G Y_Mo_items K M0 bc bs 4 [some (.inr (some a0)), some (.inl y1), some (.inl (y2 + 0)), some (.inl (y3 + 1))] [] M) ∧ (¬ (mm_i M a2 j5) = 0 → mm_Z l G Y_Mo_items K M0 bc bs 4 [some (.inr (some a0)), some (.inl y1), some (.inl (y2 + 1)), some (.inl (y3 + 1))] [] M))))) :
    mm_Z l G Y_Mo_items K M0 bc bs 4 [some (.inr (some a0)), some (.inl y1), some (.inl y2), some (.inl y3)] [] M := by
  refine mr_iload_n dd_Mo_items_4 rfl ?_
  refine mr_bipush 60 dd_Mo_items_5 (by decide) ?_
  refine mr_icmp_ge 48 dd_Mo_items_7 (by decide) (fun hc7 => ?_) (fun hc7 => ?_)
  · have h := h.1 hc7
    refine mr_iload_n dd_Mo_items_48 rfl ?_
    exact mr_ireturn dd_Mo_items_49 rfl h
  · have h := h.2 hc7
    refine mr_iload_n dd_Mo_items_10 rfl ?_
    refine mr_if_lt 48 dd_Mo_items_11 (by decide) (fun hc11 => ?_) (fun hc11 => ?_)
    · have h := h.1 hc11
      refine mr_iload_n dd_Mo_items_48 rfl ?_
      exact mr_ireturn dd_Mo_items_49 rfl h
    · have h := h.2 hc11
      refine mr_iload_n dd_Mo_items_14 rfl ?_
      refine mr_bipush 13 dd_Mo_items_15 (by decide) ?_
      refine mr_icmp_ge 48 dd_Mo_items_17 (by decide) (fun hc17 => ?_) (fun hc17 => ?_)
      · have h := h.1 hc17
        refine mr_iload_n dd_Mo_items_48 rfl ?_
        exact mr_ireturn dd_Mo_items_49 rfl h
      · have h := h.2 hc17
        refine mr_iload_n dd_Mo_items_20 rfl ?_
        refine mr_aload_n dd_Mo_items_21 rfl ?_
        obtain ⟨hk1, h⟩ := h
        refine mr_getr ff_Mo_65 dd_Mo_items_22 rs_8_21 rfl hk1 ?_
        refine mr_bipush 60 dd_Mo_items_25 (by decide) ?_
        refine mr_iload_n dd_Mo_items_27 rfl ?_
        refine mr_imul dd_Mo_items_28 ?_
        refine mr_iload_n dd_Mo_items_29 rfl ?_
        refine mr_iadd dd_Mo_items_30 ?_
        obtain ⟨a2, ho3, h⟩ := h
        obtain ⟨hk4, h⟩ := h
        obtain ⟨j5, hj6, hm7, hl8, h⟩ := h
        refine mr_zald dd_Mo_items_31 ho3 hk4 hj6 hm7 hl8 ?_
        refine mr_if_eq 39 dd_Mo_items_32 (by decide) (fun hc32 => ?_) (fun hc32 => ?_)
        · have h := h.1 hc32
          refine mr_iconst 0 dd_Mo_items_39 (by decide) ?_
          refine mr_iadd dd_Mo_items_40 ?_
          refine mr_istore_n dd_Mo_items_41 (by decide) ?_
          show mm_Z l G Y_Mo_items K M0 bc bs 42 [some (.inr (some a0)), some (.inl y1), some (.inl (y2 + 0)), some (.inl y3)] [] M
          refine mr_iinc 1 dd_Mo_items_42 rfl (by decide) (by decide) ?_
          show mm_Z l G Y_Mo_items K M0 bc bs 45 [some (.inr (some a0)), some (.inl y1), some (.inl (y2 + 0)), some (.inl (y3 + 1))] [] M
          refine mr_goto 4 dd_Mo_items_45 (by decide) ?_
          exact h
        · have h := h.2 hc32
          refine mr_iconst 1 dd_Mo_items_35 (by decide) ?_
          refine mr_goto 40 dd_Mo_items_36 (by decide) ?_
          refine mr_iadd dd_Mo_items_40 ?_
          refine mr_istore_n dd_Mo_items_41 (by decide) ?_
          show mm_Z l G Y_Mo_items K M0 bc bs 42 [some (.inr (some a0)), some (.inl y1), some (.inl (y2 + 1)), some (.inl y3)] [] M
          refine mr_iinc 1 dd_Mo_items_42 rfl (by decide) (by decide) ?_
          show mm_Z l G Y_Mo_items K M0 bc bs 45 [some (.inr (some a0)), some (.inl y1), some (.inl (y2 + 1)), some (.inl (y3 + 1))] [] M
          refine mr_goto 4 dd_Mo_items_45 (by decide) ?_
          exact h
set_option maxHeartbeats 4000000 in
set_option maxRecDepth 100000 in
theorem sg_Mo_exists {l : Launch} {G : mm_G} {K : Option mm_V → mm_M → Prop} {M : mm_M} {a0 : Nat} {xa : Int32}
    (h : mm_k M a0 = 9 ∧ mm_Ok l G yy_Mo_work Y_Mo_work [.inr (some a0)] M (fun r M1 => mm_X M M1 → r = none ∧ (xa < 0 → K (some (.inl 0)) M1) ∧ (¬ xa < 0 → (8 ≤ xa → K (some (.inl 0)) M1) ∧ (¬ 8 ≤ xa → ∃ a4 : Nat, (mm_p M1 a0 0) = some a4 ∧ mm_k M1 a4 = 100 ∧ ∃ j7 : Nat, xa = nI j7 ∧ j7 < 2147483648 ∧ j7 < mm_l M1 a4 ∧ ((mm_i M1 a4 j7) ≤ 0 → K (some (.inl 0)) M1) ∧ (¬ (mm_i M1 a4 j7) ≤ 0 → ∃ a11 : Nat, (mm_p M1 a0 23) = some a11 ∧ mm_k M1 a11 = 101 ∧ ∃ j14 : Nat, xa = nI j14 ∧ j14 < 2147483648 ∧ j14 < mm_l M1 a11 ∧ ((mm_i M1 a11 j14) = 0 → K (some (.inl 0)) M1) ∧ (¬ (mm_i M1 a11 j14) = 0 → K (some (.inl 1)) M1)))))) :
    mm_Ok l G yy_Mo_exists Y_Mo_exists [.inr (some a0), .inl xa] M K := by
  refine mm_go (by decide) rfl (fun q => by cases q) (Nat.le_of_ble_eq_true rfl) ?_
  show mm_Z l G Y_Mo_exists K M 0 0 0 [some (.inr (some a0)), some (.inl xa)] [] M
  refine mr_aload_n dd_Mo_exists_0 rfl ?_
  obtain ⟨hk3, h⟩ := h
  refine mr_callV0 (Yc := Y_Mo_work) (M := M) (st := []) (vs := []) (ci := 8) fc_Mo_92 iv_Mo_work sv_Mo_work dd_Mo_exists_1 ⟨Nat.le_of_ble_eq_true rfl, Nat.le_of_ble_eq_true rfl⟩ (by decide) rfl rfl (Nat.le_of_ble_eq_true rfl) rfl hk3 rfl rfl h (fun r M1 hX2 h => ?_)
  replace h := h hX2
  obtain ⟨rfl, h⟩ := h
  show mm_Z l G Y_Mo_exists K M 0 0 4 [some (.inr (some a0)), some (.inl xa)] [] M1
  refine mr_iload_n dd_Mo_exists_4 rfl ?_
  refine mr_if_lt 36 dd_Mo_exists_5 (by decide) (fun hc5 => ?_) (fun hc5 => ?_)
  · have h := h.1 hc5
    refine mr_iconst 0 dd_Mo_exists_36 (by decide) ?_
    exact mr_zreturn dd_Mo_exists_37 rfl (Or.inl rfl) h
  · have h := h.2 hc5
    refine mr_iload_n dd_Mo_exists_8 rfl ?_
    refine mr_bipush 8 dd_Mo_exists_9 (by decide) ?_
    refine mr_icmp_ge 36 dd_Mo_exists_11 (by decide) (fun hc11 => ?_) (fun hc11 => ?_)
    · have h := h.1 hc11
      refine mr_iconst 0 dd_Mo_exists_36 (by decide) ?_
      exact mr_zreturn dd_Mo_exists_37 rfl (Or.inl rfl) h
    · have h := h.2 hc11
      refine mr_aload_n dd_Mo_exists_14 rfl ?_
      refine mr_getr ff_Mo_7 dd_Mo_exists_15 rs_8_0 rfl (mm_Xk hX2 hk3 (by decide)) ?_
      refine mr_iload_n dd_Mo_exists_18 rfl ?_
      obtain ⟨a4, ho5, h⟩ := h
      obtain ⟨hk6, h⟩ := h
      obtain ⟨j7, hj8, hm9, hl10, h⟩ := h
      refine mr_iald dd_Mo_exists_19 ho5 hk6 hj8 hm9 hl10 ?_
      refine mr_if_le 36 dd_Mo_exists_20 (by decide) (fun hc20 => ?_) (fun hc20 => ?_)
      · have h := h.1 hc20
        refine mr_iconst 0 dd_Mo_exists_36 (by decide) ?_
        exact mr_zreturn dd_Mo_exists_37 rfl (Or.inl rfl) h
      · have h := h.2 hc20
        refine mr_aload_n dd_Mo_exists_23 rfl ?_
        refine mr_getr ff_Mo_71 dd_Mo_exists_24 rs_8_23 rfl (mm_Xk hX2 hk3 (by decide)) ?_
        refine mr_iload_n dd_Mo_exists_27 rfl ?_
        obtain ⟨a11, ho12, h⟩ := h
        obtain ⟨hk13, h⟩ := h
        obtain ⟨j14, hj15, hm16, hl17, h⟩ := h
        refine mr_zald dd_Mo_exists_28 ho12 hk13 hj15 hm16 hl17 ?_
        refine mr_if_eq 36 dd_Mo_exists_29 (by decide) (fun hc29 => ?_) (fun hc29 => ?_)
        · have h := h.1 hc29
          refine mr_iconst 0 dd_Mo_exists_36 (by decide) ?_
          exact mr_zreturn dd_Mo_exists_37 rfl (Or.inl rfl) h
        · have h := h.2 hc29
          refine mr_iconst 1 dd_Mo_exists_32 (by decide) ?_
          refine mr_goto 37 dd_Mo_exists_33 (by decide) ?_
          exact mr_zreturn dd_Mo_exists_37 rfl (Or.inr rfl) h
set_option maxHeartbeats 4000000 in
set_option maxRecDepth 100000 in
theorem sg_Mo_use {l : Launch} {G : mm_G} {K : Option mm_V → mm_M → Prop} {M : mm_M} {a0 : Nat} {xa : Int32}
    (h : mm_k M a0 = 9 ∧ mm_Ok l G yy_Mo_exists Y_Mo_exists [.inr (some a0), .inl xa] M (fun r M1 => mm_X M M1 → ∃ x4 : Int32, r = some (.inl x4) ∧ (x4 = 0 → K (some (.inl (-1))) M1) ∧ (¬ x4 = 0 → ∃ a5 : Nat, (mm_p M1 a0 22) = some a5 ∧ mm_k M1 a5 = 100 ∧ ∃ j8 : Nat, xa = nI j8 ∧ j8 < 2147483648 ∧ j8 < mm_l M1 a5 ∧ K (some (.inl (mm_i M1 a5 j8))) M1))) :
    mm_Ok l G yy_Mo_use Y_Mo_use [.inr (some a0), .inl xa] M K := by
  refine mm_go (by decide) rfl (fun q => by cases q) (Nat.le_of_ble_eq_true rfl) ?_
  show mm_Z l G Y_Mo_use K M 0 0 0 [some (.inr (some a0)), some (.inl xa)] [] M
  refine mr_aload_n dd_Mo_use_0 rfl ?_
  refine mr_iload_n dd_Mo_use_1 rfl ?_
  obtain ⟨hk3, h⟩ := h
  refine mr_callV0 (Yc := Y_Mo_exists) (M := M) (st := []) (vs := [.inl xa]) (ci := 8) fc_Mo_147 iv_Mo_exists sv_Mo_exists dd_Mo_use_2 ⟨Nat.le_of_ble_eq_true rfl, Nat.le_of_ble_eq_true rfl⟩ (by decide) rfl rfl (Nat.le_of_ble_eq_true rfl) rfl hk3 rfl rfl h (fun r M1 hX2 h => ?_)
  replace h := h hX2
  obtain ⟨x4, rfl, h⟩ := h
  show mm_Z l G Y_Mo_use K M 0 0 5 [some (.inr (some a0)), some (.inl xa)] [.inl x4] M1
  refine mr_if_eq 17 dd_Mo_use_5 (by decide) (fun hc5 => ?_) (fun hc5 => ?_)
  · have h := h.1 hc5
    refine mr_iconst (-1) dd_Mo_use_17 (by decide) ?_
    exact mr_ireturn dd_Mo_use_18 rfl h
  · have h := h.2 hc5
    refine mr_aload_n dd_Mo_use_8 rfl ?_
    refine mr_getr ff_Mo_68 dd_Mo_use_9 rs_8_22 rfl (mm_Xk hX2 hk3 (by decide)) ?_
    refine mr_iload_n dd_Mo_use_12 rfl ?_
    obtain ⟨a5, ho6, h⟩ := h
    obtain ⟨hk7, h⟩ := h
    obtain ⟨j8, hj9, hm10, hl11, h⟩ := h
    refine mr_iald dd_Mo_use_13 ho6 hk7 hj9 hm10 hl11 ?_
    refine mr_goto 18 dd_Mo_use_14 (by decide) ?_
    exact mr_ireturn dd_Mo_use_18 rfl h
set_option maxHeartbeats 4000000 in
set_option maxRecDepth 100000 in
theorem sg_Mo_room {l : Launch} {G : mm_G} {K : Option mm_V → mm_M → Prop} {M : mm_M} {a0 : Nat} {xa : Int32}
    (h : mm_k M a0 = 9 ∧ mm_Ok l G yy_Mo_exists Y_Mo_exists [.inr (some a0), .inl xa] M (fun r M1 => mm_X M M1 → ∃ x4 : Int32, r = some (.inl x4) ∧ (x4 = 0 → K (some (.inl (-1))) M1) ∧ (¬ x4 = 0 → mm_Ok l G yy_Mo_rest Y_Mo_rest [.inr (some a0), .inl xa] M1 (fun r M5 => mm_X M1 M5 → ∃ x7 : Int32, r = some (.inl x7) ∧ K (some (.inl x7)) M5)))) :
    mm_Ok l G yy_Mo_room Y_Mo_room [.inr (some a0), .inl xa] M K := by
  refine mm_go (by decide) rfl (fun q => by cases q) (Nat.le_of_ble_eq_true rfl) ?_
  show mm_Z l G Y_Mo_room K M 0 0 0 [some (.inr (some a0)), some (.inl xa)] [] M
  refine mr_aload_n dd_Mo_room_0 rfl ?_
  refine mr_iload_n dd_Mo_room_1 rfl ?_
  obtain ⟨hk3, h⟩ := h
  refine mr_callV0 (Yc := Y_Mo_exists) (M := M) (st := []) (vs := [.inl xa]) (ci := 8) fc_Mo_147 iv_Mo_exists sv_Mo_exists dd_Mo_room_2 ⟨Nat.le_of_ble_eq_true rfl, Nat.le_of_ble_eq_true rfl⟩ (by decide) rfl rfl (Nat.le_of_ble_eq_true rfl) rfl hk3 rfl rfl h (fun r M1 hX2 h => ?_)
  replace h := h hX2
  obtain ⟨x4, rfl, h⟩ := h
  show mm_Z l G Y_Mo_room K M 0 0 5 [some (.inr (some a0)), some (.inl xa)] [.inl x4] M1
  refine mr_if_eq 16 dd_Mo_room_5 (by decide) (fun hc5 => ?_) (fun hc5 => ?_)
  · have h := h.1 hc5
    refine mr_iconst (-1) dd_Mo_room_16 (by decide) ?_
    exact mr_ireturn dd_Mo_room_17 rfl h
  · have h := h.2 hc5
    refine mr_aload_n dd_Mo_room_8 rfl ?_
    refine mr_iload_n dd_Mo_room_9 rfl ?_
    refine mr_callV0 (Yc := Y_Mo_rest) (M := M1) (st := []) (vs := [.inl xa]) (ci := 8) fc_Mo_124 iv_Mo_rest sv_Mo_rest dd_Mo_room_10 ⟨Nat.le_of_ble_eq_true rfl, Nat.le_of_ble_eq_true rfl⟩ (by decide) rfl rfl (Nat.le_of_ble_eq_true rfl) rfl (mm_Xk hX2 hk3 (by decide)) rfl rfl h (fun r M5 hX6 h => ?_)
    replace h := h hX6
    obtain ⟨x7, rfl, h⟩ := h
    show mm_Z l G Y_Mo_room K M 0 0 13 [some (.inr (some a0)), some (.inl xa)] [.inl x7] M5
    refine mr_goto 17 dd_Mo_room_13 (by decide) ?_
    exact mr_ireturn dd_Mo_room_17 rfl h
set_option maxHeartbeats 4000000 in
set_option maxRecDepth 100000 in
theorem sg_Mo_shares {l : Launch} {G : mm_G} {K : Option mm_V → mm_M → Prop} {M : mm_M} {a0 : Nat} {xa : Int32} {xb : Int32}
    (h : mm_k M a0 = 9 ∧ mm_Ok l G yy_Mo_lives Y_Mo_lives [.inr (some a0), .inl xa] M (fun r M1 => mm_X M M1 → ∃ x4 : Int32, r = some (.inl x4) ∧ (x4 = 0 → K (some (.inl 0)) M1) ∧ (¬ x4 = 0 → mm_Ok l G yy_Mo_frozen Y_Mo_frozen [.inr (some a0), .inl xb] M1 (fun r M5 => mm_X M1 M5 → ∃ x7 : Int32, r = some (.inl x7) ∧ (x7 = 0 → K (some (.inl 0)) M5) ∧ (¬ x7 = 0 → ∃ a8 : Nat, (mm_p M5 a0 19) = some a8 ∧ mm_k M5 a8 = 101 ∧ ∃ j11 : Nat, (((4 * xa) + xb) - 9) = nI j11 ∧ j11 < 2147483648 ∧ j11 < mm_l M5 a8 ∧ ((mm_i M5 a8 j11) = 0 → K (some (.inl 0)) M5) ∧ (¬ (mm_i M5 a8 j11) = 0 → K (some (.inl 1)) M5)))))) :
    mm_Ok l G yy_Mo_shares Y_Mo_shares [.inr (some a0), .inl xa, .inl xb] M K := by
  refine mm_go (by decide) rfl (fun q => by cases q) (Nat.le_of_ble_eq_true rfl) ?_
  show mm_Z l G Y_Mo_shares K M 0 0 0 [some (.inr (some a0)), some (.inl xa), some (.inl xb)] [] M
  refine mr_aload_n dd_Mo_shares_0 rfl ?_
  refine mr_iload_n dd_Mo_shares_1 rfl ?_
  obtain ⟨hk3, h⟩ := h
  refine mr_callV0 (Yc := Y_Mo_lives) (M := M) (st := []) (vs := [.inl xa]) (ci := 8) fc_Mo_89 iv_Mo_lives sv_Mo_lives dd_Mo_shares_2 ⟨Nat.le_of_ble_eq_true rfl, Nat.le_of_ble_eq_true rfl⟩ (by decide) rfl rfl (Nat.le_of_ble_eq_true rfl) rfl hk3 rfl rfl h (fun r M1 hX2 h => ?_)
  replace h := h hX2
  obtain ⟨x4, rfl, h⟩ := h
  show mm_Z l G Y_Mo_shares K M 0 0 5 [some (.inr (some a0)), some (.inl xa), some (.inl xb)] [.inl x4] M1
  refine mr_if_eq 36 dd_Mo_shares_5 (by decide) (fun hc5 => ?_) (fun hc5 => ?_)
  · have h := h.1 hc5
    refine mr_iconst 0 dd_Mo_shares_36 (by decide) ?_
    exact mr_zreturn dd_Mo_shares_37 rfl (Or.inl rfl) h
  · have h := h.2 hc5
    refine mr_aload_n dd_Mo_shares_8 rfl ?_
    refine mr_iload_n dd_Mo_shares_9 rfl ?_
    refine mr_callV0 (Yc := Y_Mo_frozen) (M := M1) (st := []) (vs := [.inl xb]) (ci := 8) fc_Mo_81 iv_Mo_frozen sv_Mo_frozen dd_Mo_shares_10 ⟨Nat.le_of_ble_eq_true rfl, Nat.le_of_ble_eq_true rfl⟩ (by decide) rfl rfl (Nat.le_of_ble_eq_true rfl) rfl (mm_Xk hX2 hk3 (by decide)) rfl rfl h (fun r M5 hX6 h => ?_)
    replace h := h hX6
    obtain ⟨x7, rfl, h⟩ := h
    show mm_Z l G Y_Mo_shares K M 0 0 13 [some (.inr (some a0)), some (.inl xa), some (.inl xb)] [.inl x7] M5
    refine mr_if_eq 36 dd_Mo_shares_13 (by decide) (fun hc13 => ?_) (fun hc13 => ?_)
    · have h := h.1 hc13
      refine mr_iconst 0 dd_Mo_shares_36 (by decide) ?_
      exact mr_zreturn dd_Mo_shares_37 rfl (Or.inl rfl) h
    · have h := h.2 hc13
      refine mr_aload_n dd_Mo_shares_16 rfl ?_
      refine mr_getr ff_Mo_59 dd_Mo_shares_17 rs_8_19 rfl (mm_Xk hX6 (mm_Xk hX2 hk3 (by decide)) (by decide)) ?_
      refine mr_iconst 4 dd_Mo_shares_20 (by decide) ?_
      refine mr_iload_n dd_Mo_shares_21 rfl ?_
      refine mr_imul dd_Mo_shares_22 ?_
      refine mr_iload_n dd_Mo_shares_23 rfl ?_
      refine mr_iadd dd_Mo_shares_24 ?_
      refine mr_bipush 9 dd_Mo_shares_25 (by decide) ?_
      refine mr_isub dd_Mo_shares_27 ?_
      obtain ⟨a8, ho9, h⟩ := h
      obtain ⟨hk10, h⟩ := h
      obtain ⟨j11, hj12, hm13, hl14, h⟩ := h
      refine mr_zald dd_Mo_shares_28 ho9 hk10 hj12 hm13 hl14 ?_
      refine mr_if_eq 36 dd_Mo_shares_29 (by decide) (fun hc29 => ?_) (fun hc29 => ?_)
      · have h := h.1 hc29
        refine mr_iconst 0 dd_Mo_shares_36 (by decide) ?_
        exact mr_zreturn dd_Mo_shares_37 rfl (Or.inl rfl) h
      · have h := h.2 hc29
        refine mr_iconst 1 dd_Mo_shares_32 (by decide) ?_
        refine mr_goto 37 dd_Mo_shares_33 (by decide) ?_
        exact mr_zreturn dd_Mo_shares_37 rfl (Or.inr rfl) h
set_option maxHeartbeats 4000000 in
set_option maxRecDepth 100000 in
theorem sg_Mo_where {l : Launch} {G : mm_G} {K : Option mm_V → mm_M → Prop} {M : mm_M} {a0 : Nat} {xa : Int32} {xb : Int32}
    (h : mm_k M a0 = 9 ∧ mm_Ok l G yy_Mo_lives Y_Mo_lives [.inr (some a0), .inl xa] M (fun r M1 => mm_X M M1 → ∃ x4 : Int32, r = some (.inl x4) ∧ (x4 = 0 → K (some (.inl (-1))) M1) ∧ (¬ x4 = 0 → mm_Ok l G yy_Mo_isRegister Y_Mo_isRegister [.inl xb] M1 (fun r M5 => mm_X M1 M5 → ∃ x7 : Int32, r = some (.inl x7) ∧ (¬ x7 = 0 → ∃ a8 : Nat, (mm_p M5 a0 5) = some a8 ∧ mm_k M5 a8 = 100 ∧ ∃ j11 : Nat, ((4 * xa) + xb) = nI j11 ∧ j11 < 2147483648 ∧ j11 < mm_l M5 a8 ∧ (0 ≤ ((mm_i M5 a8 j11) - 1) → ∃ a15 : Nat, (mm_p M5 a0 6) = some a15 ∧ mm_k M5 a15 = 100 ∧ ∃ j18 : Nat, ((mm_i M5 a8 j11) - 1) = nI j18 ∧ j18 < 2147483648 ∧ j18 < mm_l M5 a15 ∧ K (some (.inl ((mm_i M5 a15 j18) - 1))) M5) ∧ (¬ 0 ≤ ((mm_i M5 a8 j11) - 1) → K (some (.inl (-2))) M5)) ∧ (x7 = 0 → K (some (.inl (-1))) M5))))) :
    mm_Ok l G yy_Mo_where Y_Mo_where [.inr (some a0), .inl xa, .inl xb] M K := by
  refine mm_go (by decide) rfl (fun q => by cases q) (Nat.le_of_ble_eq_true rfl) ?_
  show mm_Z l G Y_Mo_where K M 0 0 0 [some (.inr (some a0)), some (.inl xa), some (.inl xb), none] [] M
  refine mr_aload_n dd_Mo_where_0 rfl ?_
  refine mr_iload_n dd_Mo_where_1 rfl ?_
  obtain ⟨hk3, h⟩ := h
  refine mr_callV0 (Yc := Y_Mo_lives) (M := M) (st := []) (vs := [.inl xa]) (ci := 8) fc_Mo_89 iv_Mo_lives sv_Mo_lives dd_Mo_where_2 ⟨Nat.le_of_ble_eq_true rfl, Nat.le_of_ble_eq_true rfl⟩ (by decide) rfl rfl (Nat.le_of_ble_eq_true rfl) rfl hk3 rfl rfl h (fun r M1 hX2 h => ?_)
  replace h := h hX2
  obtain ⟨x4, rfl, h⟩ := h
  show mm_Z l G Y_Mo_where K M 0 0 5 [some (.inr (some a0)), some (.inl xa), some (.inl xb), none] [.inl x4] M1
  refine mr_if_eq 15 dd_Mo_where_5 (by decide) (fun hc5 => ?_) (fun hc5 => ?_)
  · have h := h.1 hc5
    refine mr_iconst (-1) dd_Mo_where_15 (by decide) ?_
    exact mr_ireturn dd_Mo_where_16 rfl h
  · have h := h.2 hc5
    refine mr_iload_n dd_Mo_where_8 rfl ?_
    refine mr_callS0 (Yc := Y_Mo_isRegister) (M := M1) (st := []) (vs := [.inl xb]) fc_Mo_134 si_Mo_isRegister dd_Mo_where_9 ⟨Nat.le_of_ble_eq_true rfl, Nat.le_of_ble_eq_true rfl⟩ rfl (Nat.le_of_ble_eq_true rfl) rfl rfl h (fun r M5 hX6 h => ?_)
    replace h := h hX6
    obtain ⟨x7, rfl, h⟩ := h
    show mm_Z l G Y_Mo_where K M 0 0 12 [some (.inr (some a0)), some (.inl xa), some (.inl xb), none] [.inl x7] M5
    refine mr_if_ne 17 dd_Mo_where_12 (by decide) (fun hc12 => ?_) (fun hc12 => ?_)
    · have h := h.1 hc12
      refine mr_aload_n dd_Mo_where_17 rfl ?_
      refine mr_getr ff_Mo_23 dd_Mo_where_18 rs_8_5 rfl (mm_Xk hX6 (mm_Xk hX2 hk3 (by decide)) (by decide)) ?_
      refine mr_iconst 4 dd_Mo_where_21 (by decide) ?_
      refine mr_iload_n dd_Mo_where_22 rfl ?_
      refine mr_imul dd_Mo_where_23 ?_
      refine mr_iload_n dd_Mo_where_24 rfl ?_
      refine mr_iadd dd_Mo_where_25 ?_
      obtain ⟨a8, ho9, h⟩ := h
      obtain ⟨hk10, h⟩ := h
      obtain ⟨j11, hj12, hm13, hl14, h⟩ := h
      refine mr_iald dd_Mo_where_26 ho9 hk10 hj12 hm13 hl14 ?_
      refine mr_iconst 1 dd_Mo_where_27 (by decide) ?_
      refine mr_isub dd_Mo_where_28 ?_
      refine mr_istore_n dd_Mo_where_29 (by decide) ?_
      show mm_Z l G Y_Mo_where K M 0 0 30 [some (.inr (some a0)), some (.inl xa), some (.inl xb), some (.inl ((mm_i M5 a8 j11) - 1))] [] M5
      refine mr_iload_n dd_Mo_where_30 rfl ?_
      refine mr_if_ge 39 dd_Mo_where_31 (by decide) (fun hc31 => ?_) (fun hc31 => ?_)
      · have h := h.1 hc31
        refine mr_aload_n dd_Mo_where_39 rfl ?_
        refine mr_getr ff_Mo_26 dd_Mo_where_40 rs_8_6 rfl (mm_Xk hX6 (mm_Xk hX2 hk3 (by decide)) (by decide)) ?_
        refine mr_iload_n dd_Mo_where_43 rfl ?_
        obtain ⟨a15, ho16, h⟩ := h
        obtain ⟨hk17, h⟩ := h
        obtain ⟨j18, hj19, hm20, hl21, h⟩ := h
        refine mr_iald dd_Mo_where_44 ho16 hk17 hj19 hm20 hl21 ?_
        refine mr_iconst 1 dd_Mo_where_45 (by decide) ?_
        refine mr_isub dd_Mo_where_46 ?_
        exact mr_ireturn dd_Mo_where_47 rfl h
      · have h := h.2 hc31
        refine mr_bipush (-2) dd_Mo_where_34 (by decide) ?_
        refine mr_goto 47 dd_Mo_where_36 (by decide) ?_
        exact mr_ireturn dd_Mo_where_47 rfl h
    · have h := h.2 hc12
      refine mr_iconst (-1) dd_Mo_where_15 (by decide) ?_
      exact mr_ireturn dd_Mo_where_16 rfl h
set_option maxHeartbeats 4000000 in
set_option maxRecDepth 100000 in
theorem sg_Mo_state {l : Launch} {G : mm_G} {K : Option mm_V → mm_M → Prop} {M : mm_M} {a0 : Nat} {xa : Int32}
    (h : (xa < 0 → K (some (.inl 0)) M) ∧ (¬ xa < 0 → (xa ≤ 7 → mm_k M a0 = 9 ∧ ∃ a2 : Nat, (mm_p M a0 0) = some a2 ∧ mm_k M a2 = 100 ∧ ∃ j5 : Nat, xa = nI j5 ∧ j5 < 2147483648 ∧ j5 < mm_l M a2 ∧ K (some (.inl (mm_i M a2 j5))) M) ∧ (¬ xa ≤ 7 → K (some (.inl 0)) M))) :
    mm_Ok l G yy_Mo_state Y_Mo_state [.inr (some a0), .inl xa] M K := by
  refine mm_go (by decide) rfl (fun q => by cases q) (Nat.le_of_ble_eq_true rfl) ?_
  show mm_Z l G Y_Mo_state K M 0 0 0 [some (.inr (some a0)), some (.inl xa)] [] M
  refine mr_iload_n dd_Mo_state_0 rfl ?_
  refine mr_if_lt 10 dd_Mo_state_1 (by decide) (fun hc1 => ?_) (fun hc1 => ?_)
  · have h := h.1 hc1
    refine mr_iconst 0 dd_Mo_state_10 (by decide) ?_
    refine mr_goto 20 dd_Mo_state_11 (by decide) ?_
    exact mr_ireturn dd_Mo_state_20 rfl h
  · have h := h.2 hc1
    refine mr_iload_n dd_Mo_state_4 rfl ?_
    refine mr_bipush 7 dd_Mo_state_5 (by decide) ?_
    refine mr_icmp_le 14 dd_Mo_state_7 (by decide) (fun hc7 => ?_) (fun hc7 => ?_)
    · have h := h.1 hc7
      refine mr_aload_n dd_Mo_state_14 rfl ?_
      obtain ⟨hk1, h⟩ := h
      refine mr_getr ff_Mo_7 dd_Mo_state_15 rs_8_0 rfl hk1 ?_
      refine mr_iload_n dd_Mo_state_18 rfl ?_
      obtain ⟨a2, ho3, h⟩ := h
      obtain ⟨hk4, h⟩ := h
      obtain ⟨j5, hj6, hm7, hl8, h⟩ := h
      refine mr_iald dd_Mo_state_19 ho3 hk4 hj6 hm7 hl8 ?_
      exact mr_ireturn dd_Mo_state_20 rfl h
    · have h := h.2 hc7
      refine mr_iconst 0 dd_Mo_state_10 (by decide) ?_
      refine mr_goto 20 dd_Mo_state_11 (by decide) ?_
      exact mr_ireturn dd_Mo_state_20 rfl h
set_option maxHeartbeats 4000000 in
set_option maxRecDepth 100000 in
theorem sg_Mo_collect {l : Launch} {G : mm_G} {K : Option mm_V → mm_M → Prop} {M : mm_M} {a0 : Nat} {xa : Int32}
    (h : (xa = 8 → mm_k M a0 = 9 ∧ mm_Ok l G yy_Mo_sweep Y_Mo_sweep [.inr (some a0), .inl xa] M (fun r M1 => mm_X M M1 → ∃ x4 : Int32, r = some (.inl x4) ∧ K (some (.inl x4)) M1)) ∧ (¬ xa = 8 → mm_k M a0 = 9 ∧ mm_Ok l G yy_Mo_lives Y_Mo_lives [.inr (some a0), .inl xa] M (fun r M5 => mm_X M M5 → ∃ x8 : Int32, r = some (.inl x8) ∧ (x8 = 0 → K (some (.inl (-1))) M5) ∧ (¬ x8 = 0 → mm_Ok l G yy_Mo_sweep Y_Mo_sweep [.inr (some a0), .inl xa] M5 (fun r M9 => mm_X M5 M9 → ∃ x11 : Int32, r = some (.inl x11) ∧ K (some (.inl x11)) M9))))) :
    mm_Ok l G yy_Mo_collect Y_Mo_collect [.inr (some a0), .inl xa] M K := by
  refine mm_go (by decide) rfl (fun q => by cases q) (Nat.le_of_ble_eq_true rfl) ?_
  show mm_Z l G Y_Mo_collect K M 0 0 0 [some (.inr (some a0)), some (.inl xa)] [] M
  refine mr_iload_n dd_Mo_collect_0 rfl ?_
  refine mr_bipush 8 dd_Mo_collect_1 (by decide) ?_
  refine mr_icmp_eq 14 dd_Mo_collect_3 (by decide) (fun hc3 => ?_) (fun hc3 => ?_)
  · have h := h.1 hc3
    refine mr_aload_n dd_Mo_collect_14 rfl ?_
    refine mr_iload_n dd_Mo_collect_15 rfl ?_
    obtain ⟨hk3, h⟩ := h
    refine mr_callV0 (Yc := Y_Mo_sweep) (M := M) (st := []) (vs := [.inl xa]) (ci := 8) fc_Mo_141 iv_Mo_sweep sv_Mo_sweep dd_Mo_collect_16 ⟨Nat.le_of_ble_eq_true rfl, Nat.le_of_ble_eq_true rfl⟩ (by decide) rfl rfl (Nat.le_of_ble_eq_true rfl) rfl hk3 rfl rfl h (fun r M1 hX2 h => ?_)
    replace h := h hX2
    obtain ⟨x4, rfl, h⟩ := h
    show mm_Z l G Y_Mo_collect K M 0 0 19 [some (.inr (some a0)), some (.inl xa)] [.inl x4] M1
    refine mr_goto 23 dd_Mo_collect_19 (by decide) ?_
    exact mr_ireturn dd_Mo_collect_23 rfl h
  · have h := h.2 hc3
    refine mr_aload_n dd_Mo_collect_6 rfl ?_
    refine mr_iload_n dd_Mo_collect_7 rfl ?_
    obtain ⟨hk7, h⟩ := h
    refine mr_callV0 (Yc := Y_Mo_lives) (M := M) (st := []) (vs := [.inl xa]) (ci := 8) fc_Mo_89 iv_Mo_lives sv_Mo_lives dd_Mo_collect_8 ⟨Nat.le_of_ble_eq_true rfl, Nat.le_of_ble_eq_true rfl⟩ (by decide) rfl rfl (Nat.le_of_ble_eq_true rfl) rfl hk7 rfl rfl h (fun r M5 hX6 h => ?_)
    replace h := h hX6
    obtain ⟨x8, rfl, h⟩ := h
    show mm_Z l G Y_Mo_collect K M 0 0 11 [some (.inr (some a0)), some (.inl xa)] [.inl x8] M5
    refine mr_if_eq 22 dd_Mo_collect_11 (by decide) (fun hc11 => ?_) (fun hc11 => ?_)
    · have h := h.1 hc11
      refine mr_iconst (-1) dd_Mo_collect_22 (by decide) ?_
      exact mr_ireturn dd_Mo_collect_23 rfl h
    · have h := h.2 hc11
      refine mr_aload_n dd_Mo_collect_14 rfl ?_
      refine mr_iload_n dd_Mo_collect_15 rfl ?_
      refine mr_callV0 (Yc := Y_Mo_sweep) (M := M5) (st := []) (vs := [.inl xa]) (ci := 8) fc_Mo_141 iv_Mo_sweep sv_Mo_sweep dd_Mo_collect_16 ⟨Nat.le_of_ble_eq_true rfl, Nat.le_of_ble_eq_true rfl⟩ (by decide) rfl rfl (Nat.le_of_ble_eq_true rfl) rfl (mm_Xk hX6 hk7 (by decide)) rfl rfl h (fun r M9 hX10 h => ?_)
      replace h := h hX10
      obtain ⟨x11, rfl, h⟩ := h
      show mm_Z l G Y_Mo_collect K M 0 0 19 [some (.inr (some a0)), some (.inl xa)] [.inl x11] M9
      refine mr_goto 23 dd_Mo_collect_19 (by decide) ?_
      exact mr_ireturn dd_Mo_collect_23 rfl h
set_option maxHeartbeats 4000000 in
set_option maxRecDepth 100000 in
theorem sg_Mo_kill {l : Launch} {G : mm_G} {K : Option mm_V → mm_M → Prop} {M : mm_M} {a0 : Nat} {xa : Int32}
    (h : mm_k M a0 = 9 ∧ mm_Ok l G yy_Mo_lives Y_Mo_lives [.inr (some a0), .inl xa] M (fun r M1 => mm_X M M1 → ∃ x4 : Int32, r = some (.inl x4) ∧ (x4 = 0 → K (some (.inl 0)) M1) ∧ (¬ x4 = 0 → (xa = 0 → K (some (.inl 0)) M1) ∧ (¬ xa = 0 → ∃ a5 : Nat, (mm_p M1 a0 0) = some a5 ∧ mm_k M1 a5 = 100 ∧ ∃ j8 : Nat, xa = nI j8 ∧ j8 < 2147483648 ∧ j8 < mm_l M1 a5 ∧ (¬ (mm_i M1 a5 j8) = 3 → ∃ j12 : Nat, xa = nI j12 ∧ j12 < 2147483648 ∧ j12 < mm_l M1 a5 ∧ (¬ (mm_i M1 a5 j12) = 1 → ∃ j16 : Nat, xa = nI j16 ∧ j16 < 2147483648 ∧ j16 < mm_l M1 a5 ∧ K (some (.inl 1)) (mm_si M1 a5 j16 3)) ∧ ((mm_i M1 a5 j12) = 1 → mm_Ok l G yy_Mo_die Y_Mo_die [.inr (some a0), .inl xa] M1 (fun r M20 => mm_X M1 M20 → r = none ∧ K (some (.inl 1)) M20))) ∧ ((mm_i M1 a5 j8) = 3 → K (some (.inl 0)) M1))))) :
    mm_Ok l G yy_Mo_kill Y_Mo_kill [.inr (some a0), .inl xa] M K := by
  refine mm_go (by decide) rfl (fun q => by cases q) (Nat.le_of_ble_eq_true rfl) ?_
  show mm_Z l G Y_Mo_kill K M 0 0 0 [some (.inr (some a0)), some (.inl xa)] [] M
  refine mr_aload_n dd_Mo_kill_0 rfl ?_
  refine mr_iload_n dd_Mo_kill_1 rfl ?_
  obtain ⟨hk3, h⟩ := h
  refine mr_callV0 (Yc := Y_Mo_lives) (M := M) (st := []) (vs := [.inl xa]) (ci := 8) fc_Mo_89 iv_Mo_lives sv_Mo_lives dd_Mo_kill_2 ⟨Nat.le_of_ble_eq_true rfl, Nat.le_of_ble_eq_true rfl⟩ (by decide) rfl rfl (Nat.le_of_ble_eq_true rfl) rfl hk3 rfl rfl h (fun r M1 hX2 h => ?_)
  replace h := h hX2
  obtain ⟨x4, rfl, h⟩ := h
  show mm_Z l G Y_Mo_kill K M 0 0 5 [some (.inr (some a0)), some (.inl xa)] [.inl x4] M1
  refine mr_if_eq 22 dd_Mo_kill_5 (by decide) (fun hc5 => ?_) (fun hc5 => ?_)
  · have h := h.1 hc5
    refine mr_iconst 0 dd_Mo_kill_22 (by decide) ?_
    exact mr_zreturn dd_Mo_kill_23 rfl (Or.inl rfl) h
  · have h := h.2 hc5
    refine mr_iload_n dd_Mo_kill_8 rfl ?_
    refine mr_if_eq 22 dd_Mo_kill_9 (by decide) (fun hc9 => ?_) (fun hc9 => ?_)
    · have h := h.1 hc9
      refine mr_iconst 0 dd_Mo_kill_22 (by decide) ?_
      exact mr_zreturn dd_Mo_kill_23 rfl (Or.inl rfl) h
    · have h := h.2 hc9
      refine mr_aload_n dd_Mo_kill_12 rfl ?_
      refine mr_getr ff_Mo_7 dd_Mo_kill_13 rs_8_0 rfl (mm_Xk hX2 hk3 (by decide)) ?_
      refine mr_iload_n dd_Mo_kill_16 rfl ?_
      obtain ⟨a5, ho6, h⟩ := h
      obtain ⟨hk7, h⟩ := h
      obtain ⟨j8, hj9, hm10, hl11, h⟩ := h
      refine mr_iald dd_Mo_kill_17 ho6 hk7 hj9 hm10 hl11 ?_
      refine mr_iconst 3 dd_Mo_kill_18 (by decide) ?_
      refine mr_icmp_ne 24 dd_Mo_kill_19 (by decide) (fun hc19 => ?_) (fun hc19 => ?_)
      · have h := h.1 hc19
        refine mr_aload_n dd_Mo_kill_24 rfl ?_
        refine mr_getr ff_Mo_7 dd_Mo_kill_25 rs_8_0 rfl (mm_Xk hX2 hk3 (by decide)) ?_
        refine mr_iload_n dd_Mo_kill_28 rfl ?_
        obtain ⟨j12, hj13, hm14, hl15, h⟩ := h
        refine mr_iald dd_Mo_kill_29 ho6 hk7 hj13 hm14 hl15 ?_
        refine mr_iconst 1 dd_Mo_kill_30 (by decide) ?_
        refine mr_icmp_ne 42 dd_Mo_kill_31 (by decide) (fun hc31 => ?_) (fun hc31 => ?_)
        · have h := h.1 hc31
          refine mr_aload_n dd_Mo_kill_42 rfl ?_
          refine mr_getr ff_Mo_7 dd_Mo_kill_43 rs_8_0 rfl (mm_Xk hX2 hk3 (by decide)) ?_
          refine mr_iload_n dd_Mo_kill_46 rfl ?_
          refine mr_iconst 3 dd_Mo_kill_47 (by decide) ?_
          obtain ⟨j16, hj17, hm18, hl19, h⟩ := h
          refine mr_iast dd_Mo_kill_48 ho6 hk7 hj17 hm18 hl19 ?_
          refine mr_iconst 1 dd_Mo_kill_49 (by decide) ?_
          exact mr_zreturn dd_Mo_kill_50 rfl (Or.inr rfl) h
        · have h := h.2 hc31
          refine mr_aload_n dd_Mo_kill_34 rfl ?_
          refine mr_iload_n dd_Mo_kill_35 rfl ?_
          refine mr_callV0 (Yc := Y_Mo_die) (M := M1) (st := []) (vs := [.inl xa]) (ci := 8) fc_Mo_127 iv_Mo_die sv_Mo_die dd_Mo_kill_36 ⟨Nat.le_of_ble_eq_true rfl, Nat.le_of_ble_eq_true rfl⟩ (by decide) rfl rfl (Nat.le_of_ble_eq_true rfl) rfl (mm_Xk hX2 hk3 (by decide)) rfl rfl h (fun r M20 hX21 h => ?_)
          replace h := h hX21
          obtain ⟨rfl, h⟩ := h
          show mm_Z l G Y_Mo_kill K M 0 0 39 [some (.inr (some a0)), some (.inl xa)] [] M20
          refine mr_goto 49 dd_Mo_kill_39 (by decide) ?_
          refine mr_iconst 1 dd_Mo_kill_49 (by decide) ?_
          exact mr_zreturn dd_Mo_kill_50 rfl (Or.inr rfl) h
      · have h := h.2 hc19
        refine mr_iconst 0 dd_Mo_kill_22 (by decide) ?_
        exact mr_zreturn dd_Mo_kill_23 rfl (Or.inl rfl) h
set_option maxHeartbeats 4000000 in
set_option maxRecDepth 100000 in
theorem sg_Mo_mode {l : Launch} {G : mm_G} {K : Option mm_V → mm_M → Prop} {M : mm_M} {a0 : Nat} {xa : Int32} {xb : Int32}
    (h : mm_k M a0 = 9 ∧ mm_Ok l G yy_Mo_lives Y_Mo_lives [.inr (some a0), .inl xa] M (fun r M1 => mm_X M M1 → ∃ x4 : Int32, r = some (.inl x4) ∧ (x4 = 0 → K (some (.inl 0)) M1) ∧ (¬ x4 = 0 → ∃ a5 : Nat, (mm_p M1 a0 0) = some a5 ∧ mm_k M1 a5 = 100 ∧ ∃ j8 : Nat, xa = nI j8 ∧ j8 < 2147483648 ∧ j8 < mm_l M1 a5 ∧ ((mm_i M1 a5 j8) < 2 → (¬ xb = 0 → ∃ j12 : Nat, xa = nI j12 ∧ j12 < 2147483648 ∧ j12 < mm_l M1 a5 ∧ (¬ (mm_i M1 a5 j12) = 3 → (xb = 0 → ∃ j16 : Nat, xa = nI j16 ∧ j16 < 2147483648 ∧ j16 < mm_l M1 a5 ∧ K (some (.inl 1)) (mm_si M1 a5 j16 1)) ∧ (¬ xb = 0 → ∃ j20 : Nat, xa = nI j20 ∧ j20 < 2147483648 ∧ j20 < mm_l M1 a5 ∧ K (some (.inl 1)) (mm_si M1 a5 j20 2))) ∧ ((mm_i M1 a5 j12) = 3 → mm_Ok l G yy_Mo_die Y_Mo_die [.inr (some a0), .inl xa] M1 (fun r M24 => mm_X M1 M24 → r = none ∧ K (some (.inl 1)) M24))) ∧ (xb = 0 → K (some (.inl 0)) M1)) ∧ (¬ (mm_i M1 a5 j8) < 2 → (¬ xb = 1 → ∃ j26 : Nat, xa = nI j26 ∧ j26 < 2147483648 ∧ j26 < mm_l M1 a5 ∧ (¬ (mm_i M1 a5 j26) = 3 → (xb = 0 → ∃ j30 : Nat, xa = nI j30 ∧ j30 < 2147483648 ∧ j30 < mm_l M1 a5 ∧ K (some (.inl 1)) (mm_si M1 a5 j30 1)) ∧ (¬ xb = 0 → ∃ j34 : Nat, xa = nI j34 ∧ j34 < 2147483648 ∧ j34 < mm_l M1 a5 ∧ K (some (.inl 1)) (mm_si M1 a5 j34 2))) ∧ ((mm_i M1 a5 j26) = 3 → mm_Ok l G yy_Mo_die Y_Mo_die [.inr (some a0), .inl xa] M1 (fun r M38 => mm_X M1 M38 → r = none ∧ K (some (.inl 1)) M38))) ∧ (xb = 1 → K (some (.inl 0)) M1))))) :
    mm_Ok l G yy_Mo_mode Y_Mo_mode [.inr (some a0), .inl xa, .inl xb] M K := by
  refine mm_go (by decide) rfl (fun q => by cases q) (Nat.le_of_ble_eq_true rfl) ?_
  show mm_Z l G Y_Mo_mode K M 0 0 0 [some (.inr (some a0)), some (.inl xa), some (.inl xb)] [] M
  refine mr_aload_n dd_Mo_mode_0 rfl ?_
  refine mr_iload_n dd_Mo_mode_1 rfl ?_
  obtain ⟨hk3, h⟩ := h
  refine mr_callV0 (Yc := Y_Mo_lives) (M := M) (st := []) (vs := [.inl xa]) (ci := 8) fc_Mo_89 iv_Mo_lives sv_Mo_lives dd_Mo_mode_2 ⟨Nat.le_of_ble_eq_true rfl, Nat.le_of_ble_eq_true rfl⟩ (by decide) rfl rfl (Nat.le_of_ble_eq_true rfl) rfl hk3 rfl rfl h (fun r M1 hX2 h => ?_)
  replace h := h hX2
  obtain ⟨x4, rfl, h⟩ := h
  show mm_Z l G Y_Mo_mode K M 0 0 5 [some (.inr (some a0)), some (.inl xa), some (.inl xb)] [.inl x4] M1
  refine mr_if_eq 27 dd_Mo_mode_5 (by decide) (fun hc5 => ?_) (fun hc5 => ?_)
  · have h := h.1 hc5
    refine mr_iconst 0 dd_Mo_mode_27 (by decide) ?_
    exact mr_zreturn dd_Mo_mode_28 rfl (Or.inl rfl) h
  · have h := h.2 hc5
    refine mr_iload_n dd_Mo_mode_8 rfl ?_
    refine mr_aload_n dd_Mo_mode_9 rfl ?_
    refine mr_getr ff_Mo_7 dd_Mo_mode_10 rs_8_0 rfl (mm_Xk hX2 hk3 (by decide)) ?_
    refine mr_iload_n dd_Mo_mode_13 rfl ?_
    obtain ⟨a5, ho6, h⟩ := h
    obtain ⟨hk7, h⟩ := h
    obtain ⟨j8, hj9, hm10, hl11, h⟩ := h
    refine mr_iald dd_Mo_mode_14 ho6 hk7 hj9 hm10 hl11 ?_
    refine mr_iconst 2 dd_Mo_mode_15 (by decide) ?_
    refine mr_icmp_lt 23 dd_Mo_mode_16 (by decide) (fun hc16 => ?_) (fun hc16 => ?_)
    · have h := h.1 hc16
      refine mr_iconst 0 dd_Mo_mode_23 (by decide) ?_
      refine mr_icmp_ne 29 dd_Mo_mode_24 (by decide) (fun hc24 => ?_) (fun hc24 => ?_)
      · have h := h.1 hc24
        refine mr_aload_n dd_Mo_mode_29 rfl ?_
        refine mr_getr ff_Mo_7 dd_Mo_mode_30 rs_8_0 rfl (mm_Xk hX2 hk3 (by decide)) ?_
        refine mr_iload_n dd_Mo_mode_33 rfl ?_
        obtain ⟨j12, hj13, hm14, hl15, h⟩ := h
        refine mr_iald dd_Mo_mode_34 ho6 hk7 hj13 hm14 hl15 ?_
        refine mr_iconst 3 dd_Mo_mode_35 (by decide) ?_
        refine mr_icmp_ne 47 dd_Mo_mode_36 (by decide) (fun hc36 => ?_) (fun hc36 => ?_)
        · have h := h.1 hc36
          refine mr_aload_n dd_Mo_mode_47 rfl ?_
          refine mr_getr ff_Mo_7 dd_Mo_mode_48 rs_8_0 rfl (mm_Xk hX2 hk3 (by decide)) ?_
          refine mr_iload_n dd_Mo_mode_51 rfl ?_
          refine mr_iload_n dd_Mo_mode_52 rfl ?_
          refine mr_if_eq 60 dd_Mo_mode_53 (by decide) (fun hc53 => ?_) (fun hc53 => ?_)
          · have h := h.1 hc53
            refine mr_iconst 1 dd_Mo_mode_60 (by decide) ?_
            obtain ⟨j16, hj17, hm18, hl19, h⟩ := h
            refine mr_iast dd_Mo_mode_61 ho6 hk7 hj17 hm18 hl19 ?_
            refine mr_iconst 1 dd_Mo_mode_62 (by decide) ?_
            exact mr_zreturn dd_Mo_mode_63 rfl (Or.inr rfl) h
          · have h := h.2 hc53
            refine mr_iconst 2 dd_Mo_mode_56 (by decide) ?_
            refine mr_goto 61 dd_Mo_mode_57 (by decide) ?_
            obtain ⟨j20, hj21, hm22, hl23, h⟩ := h
            refine mr_iast dd_Mo_mode_61 ho6 hk7 hj21 hm22 hl23 ?_
            refine mr_iconst 1 dd_Mo_mode_62 (by decide) ?_
            exact mr_zreturn dd_Mo_mode_63 rfl (Or.inr rfl) h
        · have h := h.2 hc36
          refine mr_aload_n dd_Mo_mode_39 rfl ?_
          refine mr_iload_n dd_Mo_mode_40 rfl ?_
          refine mr_callV0 (Yc := Y_Mo_die) (M := M1) (st := []) (vs := [.inl xa]) (ci := 8) fc_Mo_127 iv_Mo_die sv_Mo_die dd_Mo_mode_41 ⟨Nat.le_of_ble_eq_true rfl, Nat.le_of_ble_eq_true rfl⟩ (by decide) rfl rfl (Nat.le_of_ble_eq_true rfl) rfl (mm_Xk hX2 hk3 (by decide)) rfl rfl h (fun r M24 hX25 h => ?_)
          replace h := h hX25
          obtain ⟨rfl, h⟩ := h
          show mm_Z l G Y_Mo_mode K M 0 0 44 [some (.inr (some a0)), some (.inl xa), some (.inl xb)] [] M24
          refine mr_goto 62 dd_Mo_mode_44 (by decide) ?_
          refine mr_iconst 1 dd_Mo_mode_62 (by decide) ?_
          exact mr_zreturn dd_Mo_mode_63 rfl (Or.inr rfl) h
      · have h := h.2 hc24
        refine mr_iconst 0 dd_Mo_mode_27 (by decide) ?_
        exact mr_zreturn dd_Mo_mode_28 rfl (Or.inl rfl) h
    · have h := h.2 hc16
      refine mr_iconst 1 dd_Mo_mode_19 (by decide) ?_
      refine mr_goto 24 dd_Mo_mode_20 (by decide) ?_
      refine mr_icmp_ne 29 dd_Mo_mode_24 (by decide) (fun hc24 => ?_) (fun hc24 => ?_)
      · have h := h.1 hc24
        refine mr_aload_n dd_Mo_mode_29 rfl ?_
        refine mr_getr ff_Mo_7 dd_Mo_mode_30 rs_8_0 rfl (mm_Xk hX2 hk3 (by decide)) ?_
        refine mr_iload_n dd_Mo_mode_33 rfl ?_
        obtain ⟨j26, hj27, hm28, hl29, h⟩ := h
        refine mr_iald dd_Mo_mode_34 ho6 hk7 hj27 hm28 hl29 ?_
        refine mr_iconst 3 dd_Mo_mode_35 (by decide) ?_
        refine mr_icmp_ne 47 dd_Mo_mode_36 (by decide) (fun hc36 => ?_) (fun hc36 => ?_)
        · have h := h.1 hc36
          refine mr_aload_n dd_Mo_mode_47 rfl ?_
          refine mr_getr ff_Mo_7 dd_Mo_mode_48 rs_8_0 rfl (mm_Xk hX2 hk3 (by decide)) ?_
          refine mr_iload_n dd_Mo_mode_51 rfl ?_
          refine mr_iload_n dd_Mo_mode_52 rfl ?_
          refine mr_if_eq 60 dd_Mo_mode_53 (by decide) (fun hc53 => ?_) (fun hc53 => ?_)
          · have h := h.1 hc53
            refine mr_iconst 1 dd_Mo_mode_60 (by decide) ?_
            obtain ⟨j30, hj31, hm32, hl33, h⟩ := h
            refine mr_iast dd_Mo_mode_61 ho6 hk7 hj31 hm32 hl33 ?_
            refine mr_iconst 1 dd_Mo_mode_62 (by decide) ?_
            exact mr_zreturn dd_Mo_mode_63 rfl (Or.inr rfl) h
          · have h := h.2 hc53
            refine mr_iconst 2 dd_Mo_mode_56 (by decide) ?_
            refine mr_goto 61 dd_Mo_mode_57 (by decide) ?_
            obtain ⟨j34, hj35, hm36, hl37, h⟩ := h
            refine mr_iast dd_Mo_mode_61 ho6 hk7 hj35 hm36 hl37 ?_
            refine mr_iconst 1 dd_Mo_mode_62 (by decide) ?_
            exact mr_zreturn dd_Mo_mode_63 rfl (Or.inr rfl) h
        · have h := h.2 hc36
          refine mr_aload_n dd_Mo_mode_39 rfl ?_
          refine mr_iload_n dd_Mo_mode_40 rfl ?_
          refine mr_callV0 (Yc := Y_Mo_die) (M := M1) (st := []) (vs := [.inl xa]) (ci := 8) fc_Mo_127 iv_Mo_die sv_Mo_die dd_Mo_mode_41 ⟨Nat.le_of_ble_eq_true rfl, Nat.le_of_ble_eq_true rfl⟩ (by decide) rfl rfl (Nat.le_of_ble_eq_true rfl) rfl (mm_Xk hX2 hk3 (by decide)) rfl rfl h (fun r M38 hX39 h => ?_)
          replace h := h hX39
          obtain ⟨rfl, h⟩ := h
          show mm_Z l G Y_Mo_mode K M 0 0 44 [some (.inr (some a0)), some (.inl xa), some (.inl xb)] [] M38
          refine mr_goto 62 dd_Mo_mode_44 (by decide) ?_
          refine mr_iconst 1 dd_Mo_mode_62 (by decide) ?_
          exact mr_zreturn dd_Mo_mode_63 rfl (Or.inr rfl) h
      · have h := h.2 hc24
        refine mr_iconst 0 dd_Mo_mode_27 (by decide) ?_
        exact mr_zreturn dd_Mo_mode_28 rfl (Or.inl rfl) h
set_option maxHeartbeats 4000000 in
set_option maxRecDepth 100000 in
theorem sg_Mo_begin {l : Launch} {G : mm_G} {K : Option mm_V → mm_M → Prop} {M : mm_M} {a0 : Nat} {xa : Int32}
    (h : mm_k M a0 = 9 ∧ mm_Ok l G yy_Mo_lives Y_Mo_lives [.inr (some a0), .inl xa] M (fun r M1 => mm_X M M1 → ∃ x4 : Int32, r = some (.inl x4) ∧ (¬ x4 = 0 → mm_Z l G Y_Mo_begin K M 0 0 12 [some (.inr (some a0)), some (.inl xa), some (.inl 0)] [] M1) ∧ (x4 = 0 → K (some (.inl (-1))) M1))) :
    mm_Ok l G yy_Mo_begin Y_Mo_begin [.inr (some a0), .inl xa] M K := by
  refine mm_go (by decide) rfl (fun q => by cases q) (Nat.le_of_ble_eq_true rfl) ?_
  show mm_Z l G Y_Mo_begin K M 0 0 0 [some (.inr (some a0)), some (.inl xa), none] [] M
  refine mr_aload_n dd_Mo_begin_0 rfl ?_
  refine mr_iload_n dd_Mo_begin_1 rfl ?_
  obtain ⟨hk3, h⟩ := h
  refine mr_callV0 (Yc := Y_Mo_lives) (M := M) (st := []) (vs := [.inl xa]) (ci := 8) fc_Mo_89 iv_Mo_lives sv_Mo_lives dd_Mo_begin_2 ⟨Nat.le_of_ble_eq_true rfl, Nat.le_of_ble_eq_true rfl⟩ (by decide) rfl rfl (Nat.le_of_ble_eq_true rfl) rfl hk3 rfl rfl h (fun r M1 hX2 h => ?_)
  replace h := h hX2
  obtain ⟨x4, rfl, h⟩ := h
  show mm_Z l G Y_Mo_begin K M 0 0 5 [some (.inr (some a0)), some (.inl xa), none] [.inl x4] M1
  refine mr_if_ne 10 dd_Mo_begin_5 (by decide) (fun hc5 => ?_) (fun hc5 => ?_)
  · have h := h.1 hc5
    refine mr_iconst 0 dd_Mo_begin_10 (by decide) ?_
    refine mr_istore_n dd_Mo_begin_11 (by decide) ?_
    show mm_Z l G Y_Mo_begin K M 0 0 12 [some (.inr (some a0)), some (.inl xa), some (.inl 0)] [] M1
    exact h
  · have h := h.2 hc5
    refine mr_iconst (-1) dd_Mo_begin_8 (by decide) ?_
    exact mr_ireturn dd_Mo_begin_9 rfl h
set_option maxHeartbeats 4000000 in
set_option maxRecDepth 100000 in
theorem sg_Mo_begin_12 {l : Launch} {G : mm_G} {K : Option mm_V → mm_M → Prop} {M0 M : mm_M} {bc bs : Nat} {a0 : Nat} {y1 : Int32} {y2 : Int32}
    (h : (4 ≤ y2 → mm_k M a0 = 9 ∧ ((mm_i M a0 18) < 4 → ∃ a2 : Nat, (mm_p M a0 15) = some a2 ∧ mm_k M a2 = 100 ∧ ∃ j5 : Nat, (mm_i M a0 18) = nI j5 ∧ j5 < 2147483648 ∧ j5 < mm_l M a2 ∧ ∃ a9 : Nat, (mm_p (mm_si M a2 j5 1) a0 16) = some a9 ∧ mm_k (mm_si M a2 j5 1) a9 = 100 ∧ ∃ j12 : Nat, (mm_i (mm_si M a2 j5 1) a0 18) = nI j12 ∧ j12 < 2147483648 ∧ j12 < mm_l (mm_si M a2 j5 1) a9 ∧ K (some (.inl (8 + (mm_i (mm_si (mm_si (mm_si M a2 j5 1) a9 j12 y1) a0 18 ((mm_i (mm_si (mm_si M a2 j5 1) a9 j12 y1) a0 18) + 1)) a0 18)))) (mm_si (mm_si (mm_si M a2 j5 1) a9 j12 y1) a0 18 ((mm_i (mm_si (mm_si M a2 j5 1) a9 j12 y1) a0 18) + 1))) ∧ (¬ (mm_i M a0 18) < 4 → K (some (.inl (-4))) M)) ∧ (¬ 4 ≤ y2 → mm_k M a0 = 9 ∧ ∃ a17 : Nat, (mm_p M a0 15) = some a17 ∧ mm_k M a17 = 100 ∧ ∃ j20 : Nat, y2 = nI j20 ∧ j20 < 2147483648 ∧ j20 < mm_l M a17 ∧ (¬ (mm_i M a17 j20) = 1 → mm_Z l G Y_Mo_begin K M0 bc bs 12 [some (.inr (some a0)), some (.inl y1), some (.inl (y2 + 1))] [] M) ∧ ((mm_i M a17 j20) = 1 → ∃ a24 : Nat, (mm_p M a0 16) = some a24 ∧ mm_k M a24 = 100 ∧ ∃ j27 : Nat, y2 = nI j27 ∧ j27 < 2147483648 ∧ j27 < mm_l M a24 ∧ (¬ (mm_i M a24 j27) = y1 → mm_Z l G Y_Mo_begin K M0 bc bs 12 [some (.inr (some a0)), some (.inl y1), some (.inl (y2 + 1))] [] M) ∧ ((mm_i M a24 j27) = y1 → K (some (.inl (-1))) M)))) :
    mm_Z l G Y_Mo_begin K M0 bc bs 12 [some (.inr (some a0)), some (.inl y1), some (.inl y2)] [] M := by
  refine mr_iload_n dd_Mo_begin_12 rfl ?_
  refine mr_iconst 4 dd_Mo_begin_13 (by decide) ?_
  refine mr_icmp_ge 45 dd_Mo_begin_14 (by decide) (fun hc14 => ?_) (fun hc14 => ?_)
  · have h := h.1 hc14
    refine mr_aload_n dd_Mo_begin_45 rfl ?_
    obtain ⟨hk1, h⟩ := h
    refine mr_geti ff_Mo_144 dd_Mo_begin_46 rs_8_18 rfl hk1 ?_
    refine mr_iconst 4 dd_Mo_begin_49 (by decide) ?_
    refine mr_icmp_lt 56 dd_Mo_begin_50 (by decide) (fun hc50 => ?_) (fun hc50 => ?_)
    · have h := h.1 hc50
      refine mr_aload_n dd_Mo_begin_56 rfl ?_
      refine mr_getr ff_Mo_50 dd_Mo_begin_57 rs_8_15 rfl hk1 ?_
      refine mr_aload_n dd_Mo_begin_60 rfl ?_
      refine mr_geti ff_Mo_144 dd_Mo_begin_61 rs_8_18 rfl hk1 ?_
      refine mr_iconst 1 dd_Mo_begin_64 (by decide) ?_
      obtain ⟨a2, ho3, h⟩ := h
      obtain ⟨hk4, h⟩ := h
      obtain ⟨j5, hj6, hm7, hl8, h⟩ := h
      refine mr_iast dd_Mo_begin_65 ho3 hk4 hj6 hm7 hl8 ?_
      refine mr_aload_n dd_Mo_begin_66 rfl ?_
      refine mr_getr ff_Mo_53 dd_Mo_begin_67 rs_8_16 rfl hk1 ?_
      refine mr_aload_n dd_Mo_begin_70 rfl ?_
      refine mr_geti ff_Mo_144 dd_Mo_begin_71 rs_8_18 rfl hk1 ?_
      refine mr_iload_n dd_Mo_begin_74 rfl ?_
      obtain ⟨a9, ho10, h⟩ := h
      obtain ⟨hk11, h⟩ := h
      obtain ⟨j12, hj13, hm14, hl15, h⟩ := h
      refine mr_iast dd_Mo_begin_75 ho10 hk11 hj13 hm14 hl15 ?_
      refine mr_aload_n dd_Mo_begin_76 rfl ?_
      refine mr_dup dd_Mo_begin_77 ?_
      refine mr_geti ff_Mo_144 dd_Mo_begin_78 rs_8_18 rfl hk1 ?_
      refine mr_iconst 1 dd_Mo_begin_81 (by decide) ?_
      refine mr_iadd dd_Mo_begin_82 ?_
      refine mr_puti ff_Mo_144 fp_8 (Or.inl rfl) dd_Mo_begin_83 (Or.inl (by decide +kernel)) rs_8_18 rfl hk1 ?_
      refine mr_bipush 8 dd_Mo_begin_86 (by decide) ?_
      refine mr_aload_n dd_Mo_begin_88 rfl ?_
      refine mr_geti ff_Mo_144 dd_Mo_begin_89 rs_8_18 rfl hk1 ?_
      refine mr_iadd dd_Mo_begin_92 ?_
      exact mr_ireturn dd_Mo_begin_93 rfl h
    · have h := h.2 hc50
      refine mr_bipush (-4) dd_Mo_begin_53 (by decide) ?_
      exact mr_ireturn dd_Mo_begin_55 rfl h
  · have h := h.2 hc14
    refine mr_aload_n dd_Mo_begin_17 rfl ?_
    obtain ⟨hk16, h⟩ := h
    refine mr_getr ff_Mo_50 dd_Mo_begin_18 rs_8_15 rfl hk16 ?_
    refine mr_iload_n dd_Mo_begin_21 rfl ?_
    obtain ⟨a17, ho18, h⟩ := h
    obtain ⟨hk19, h⟩ := h
    obtain ⟨j20, hj21, hm22, hl23, h⟩ := h
    refine mr_iald dd_Mo_begin_22 ho18 hk19 hj21 hm22 hl23 ?_
    refine mr_iconst 1 dd_Mo_begin_23 (by decide) ?_
    refine mr_icmp_ne 39 dd_Mo_begin_24 (by decide) (fun hc24 => ?_) (fun hc24 => ?_)
    · have h := h.1 hc24
      refine mr_iinc 1 dd_Mo_begin_39 rfl (by decide) (by decide) ?_
      show mm_Z l G Y_Mo_begin K M0 bc bs 42 [some (.inr (some a0)), some (.inl y1), some (.inl (y2 + 1))] [] M
      refine mr_goto 12 dd_Mo_begin_42 (by decide) ?_
      exact h
    · have h := h.2 hc24
      refine mr_aload_n dd_Mo_begin_27 rfl ?_
      refine mr_getr ff_Mo_53 dd_Mo_begin_28 rs_8_16 rfl hk16 ?_
      refine mr_iload_n dd_Mo_begin_31 rfl ?_
      obtain ⟨a24, ho25, h⟩ := h
      obtain ⟨hk26, h⟩ := h
      obtain ⟨j27, hj28, hm29, hl30, h⟩ := h
      refine mr_iald dd_Mo_begin_32 ho25 hk26 hj28 hm29 hl30 ?_
      refine mr_iload_n dd_Mo_begin_33 rfl ?_
      refine mr_icmp_ne 39 dd_Mo_begin_34 (by decide) (fun hc34 => ?_) (fun hc34 => ?_)
      · have h := h.1 hc34
        refine mr_iinc 1 dd_Mo_begin_39 rfl (by decide) (by decide) ?_
        show mm_Z l G Y_Mo_begin K M0 bc bs 42 [some (.inr (some a0)), some (.inl y1), some (.inl (y2 + 1))] [] M
        refine mr_goto 12 dd_Mo_begin_42 (by decide) ?_
        exact h
      · have h := h.2 hc34
        refine mr_iconst (-1) dd_Mo_begin_37 (by decide) ?_
        exact mr_ireturn dd_Mo_begin_38 rfl h
set_option maxHeartbeats 4000000 in
set_option maxRecDepth 100000 in
theorem sg_Mo_freeze {l : Launch} {G : mm_G} {K : Option mm_V → mm_M → Prop} {M : mm_M} {a0 : Nat} {xa : Int32} {xb : Int32}
    (h : mm_k M a0 = 9 ∧ mm_Ok l G yy_Mo_lives Y_Mo_lives [.inr (some a0), .inl xa] M (fun r M1 => mm_X M M1 → ∃ x4 : Int32, r = some (.inl x4) ∧ (x4 = 0 → K (some (.inl (-1))) M1) ∧ (¬ x4 = 0 → mm_Ok l G yy_Mo_isRegister Y_Mo_isRegister [.inl xb] M1 (fun r M5 => mm_X M1 M5 → ∃ x7 : Int32, r = some (.inl x7) ∧ (¬ x7 = 0 → ∃ a8 : Nat, (mm_p M5 a0 5) = some a8 ∧ mm_k M5 a8 = 100 ∧ ∃ j11 : Nat, ((4 * xa) + xb) = nI j11 ∧ j11 < 2147483648 ∧ j11 < mm_l M5 a8 ∧ mm_Z l G Y_Mo_freeze K M 0 0 33 [some (.inr (some a0)), some (.inl xa), some (.inl xb), some (.inl ((mm_i M5 a8 j11) - 1)), some (.inl 0)] [] M5) ∧ (x7 = 0 → K (some (.inl (-1))) M5))))) :
    mm_Ok l G yy_Mo_freeze Y_Mo_freeze [.inr (some a0), .inl xa, .inl xb] M K := by
  refine mm_go (by decide) rfl (fun q => by cases q) (Nat.le_of_ble_eq_true rfl) ?_
  show mm_Z l G Y_Mo_freeze K M 0 0 0 [some (.inr (some a0)), some (.inl xa), some (.inl xb), none, none] [] M
  refine mr_aload_n dd_Mo_freeze_0 rfl ?_
  refine mr_iload_n dd_Mo_freeze_1 rfl ?_
  obtain ⟨hk3, h⟩ := h
  refine mr_callV0 (Yc := Y_Mo_lives) (M := M) (st := []) (vs := [.inl xa]) (ci := 8) fc_Mo_89 iv_Mo_lives sv_Mo_lives dd_Mo_freeze_2 ⟨Nat.le_of_ble_eq_true rfl, Nat.le_of_ble_eq_true rfl⟩ (by decide) rfl rfl (Nat.le_of_ble_eq_true rfl) rfl hk3 rfl rfl h (fun r M1 hX2 h => ?_)
  replace h := h hX2
  obtain ⟨x4, rfl, h⟩ := h
  show mm_Z l G Y_Mo_freeze K M 0 0 5 [some (.inr (some a0)), some (.inl xa), some (.inl xb), none, none] [.inl x4] M1
  refine mr_if_eq 15 dd_Mo_freeze_5 (by decide) (fun hc5 => ?_) (fun hc5 => ?_)
  · have h := h.1 hc5
    refine mr_iconst (-1) dd_Mo_freeze_15 (by decide) ?_
    exact mr_ireturn dd_Mo_freeze_16 rfl h
  · have h := h.2 hc5
    refine mr_iload_n dd_Mo_freeze_8 rfl ?_
    refine mr_callS0 (Yc := Y_Mo_isRegister) (M := M1) (st := []) (vs := [.inl xb]) fc_Mo_134 si_Mo_isRegister dd_Mo_freeze_9 ⟨Nat.le_of_ble_eq_true rfl, Nat.le_of_ble_eq_true rfl⟩ rfl (Nat.le_of_ble_eq_true rfl) rfl rfl h (fun r M5 hX6 h => ?_)
    replace h := h hX6
    obtain ⟨x7, rfl, h⟩ := h
    show mm_Z l G Y_Mo_freeze K M 0 0 12 [some (.inr (some a0)), some (.inl xa), some (.inl xb), none, none] [.inl x7] M5
    refine mr_if_ne 17 dd_Mo_freeze_12 (by decide) (fun hc12 => ?_) (fun hc12 => ?_)
    · have h := h.1 hc12
      refine mr_aload_n dd_Mo_freeze_17 rfl ?_
      refine mr_getr ff_Mo_23 dd_Mo_freeze_18 rs_8_5 rfl (mm_Xk hX6 (mm_Xk hX2 hk3 (by decide)) (by decide)) ?_
      refine mr_iconst 4 dd_Mo_freeze_21 (by decide) ?_
      refine mr_iload_n dd_Mo_freeze_22 rfl ?_
      refine mr_imul dd_Mo_freeze_23 ?_
      refine mr_iload_n dd_Mo_freeze_24 rfl ?_
      refine mr_iadd dd_Mo_freeze_25 ?_
      obtain ⟨a8, ho9, h⟩ := h
      obtain ⟨hk10, h⟩ := h
      obtain ⟨j11, hj12, hm13, hl14, h⟩ := h
      refine mr_iald dd_Mo_freeze_26 ho9 hk10 hj12 hm13 hl14 ?_
      refine mr_iconst 1 dd_Mo_freeze_27 (by decide) ?_
      refine mr_isub dd_Mo_freeze_28 ?_
      refine mr_istore_n dd_Mo_freeze_29 (by decide) ?_
      show mm_Z l G Y_Mo_freeze K M 0 0 30 [some (.inr (some a0)), some (.inl xa), some (.inl xb), some (.inl ((mm_i M5 a8 j11) - 1)), none] [] M5
      refine mr_iconst 0 dd_Mo_freeze_30 (by decide) ?_
      refine mr_istore dd_Mo_freeze_31 (by decide) ?_
      show mm_Z l G Y_Mo_freeze K M 0 0 33 [some (.inr (some a0)), some (.inl xa), some (.inl xb), some (.inl ((mm_i M5 a8 j11) - 1)), some (.inl 0)] [] M5
      exact h
    · have h := h.2 hc12
      refine mr_iconst (-1) dd_Mo_freeze_15 (by decide) ?_
      exact mr_ireturn dd_Mo_freeze_16 rfl h
set_option maxHeartbeats 4000000 in
set_option maxRecDepth 100000 in
theorem sg_Mo_freeze_33 {l : Launch} {G : mm_G} {K : Option mm_V → mm_M → Prop} {M0 M : mm_M} {bc bs : Nat} {a0 : Nat} {y1 : Int32} {y2 : Int32} {y3 : Int32} {y4 : Int32}
    (h : (4 ≤ y4 → K (some (.inl (-1))) M) ∧ (¬ 4 ≤ y4 → mm_k M a0 = 9 ∧ ∃ a2 : Nat, (mm_p M a0 15) = some a2 ∧ mm_k M a2 = 100 ∧ ∃ j5 : Nat, y4 = nI j5 ∧ j5 < 2147483648 ∧ j5 < mm_l M a2 ∧ (¬ (mm_i M a2 j5) = 1 → mm_Z l G Y_Mo_freeze K M0 bc bs 33 [some (.inr (some a0)), some (.inl y1), some (.inl y2), some (.inl y3), some (.inl (y4 + 1))] [] M) ∧ ((mm_i M a2 j5) = 1 → ∃ a9 : Nat, (mm_p M a0 16) = some a9 ∧ mm_k M a9 = 100 ∧ ∃ j12 : Nat, y4 = nI j12 ∧ j12 < 2147483648 ∧ j12 < mm_l M a9 ∧ (¬ (mm_i M a9 j12) = y1 → mm_Z l G Y_Mo_freeze K M0 bc bs 33 [some (.inr (some a0)), some (.inl y1), some (.inl y2), some (.inl y3), some (.inl (y4 + 1))] [] M) ∧ ((mm_i M a9 j12) = y1 → (y3 < 0 → mm_Z l G Y_Mo_freeze K M0 bc bs 33 [some (.inr (some a0)), some (.inl y1), some (.inl y2), some (.inl y3), some (.inl (y4 + 1))] [] M) ∧ (¬ y3 < 0 → ∃ a16 : Nat, (mm_p M a0 6) = some a16 ∧ mm_k M a16 = 100 ∧ ∃ j19 : Nat, y3 = nI j19 ∧ j19 < 2147483648 ∧ j19 < mm_l M a16 ∧ (¬ (mm_i M a16 j19) = (10 + y4) → mm_Z l G Y_Mo_freeze K M0 bc bs 33 [some (.inr (some a0)), some (.inl y1), some (.inl y2), some (.inl y3), some (.inl (y4 + 1))] [] M) ∧ ((mm_i M a16 j19) = (10 + y4) → ∃ j23 : Nat, y4 = nI j23 ∧ j23 < 2147483648 ∧ j23 < mm_l M a2 ∧ ∃ a27 : Nat, (mm_p (mm_si M a2 j23 2) a0 17) = some a27 ∧ mm_k (mm_si M a2 j23 2) a27 = 100 ∧ ∃ j30 : Nat, y4 = nI j30 ∧ j30 < 2147483648 ∧ j30 < mm_l (mm_si M a2 j23 2) a27 ∧ ∃ a34 : Nat, (mm_p (mm_si (mm_si M a2 j23 2) a27 j30 y3) a0 19) = some a34 ∧ mm_k (mm_si (mm_si M a2 j23 2) a27 j30 y3) a34 = 101 ∧ ∃ j37 : Nat, ((4 * y1) + y4) = nI j37 ∧ j37 < 2147483648 ∧ j37 < mm_l (mm_si (mm_si M a2 j23 2) a27 j30 y3) a34 ∧ ∃ a41 : Nat, (mm_p (mm_si (mm_si (mm_si M a2 j23 2) a27 j30 y3) a34 j37 1) a0 20) = some a41 ∧ mm_k (mm_si (mm_si (mm_si M a2 j23 2) a27 j30 y3) a34 j37 1) a41 = 101 ∧ ∃ j44 : Nat, ((4 * y1) + y4) = nI j44 ∧ j44 < 2147483648 ∧ j44 < mm_l (mm_si (mm_si (mm_si M a2 j23 2) a27 j30 y3) a34 j37 1) a41 ∧ K (some (.inl (9 + y4))) (mm_si (mm_si (mm_si (mm_si M a2 j23 2) a27 j30 y3) a34 j37 1) a41 j44 1))))))) :
    mm_Z l G Y_Mo_freeze K M0 bc bs 33 [some (.inr (some a0)), some (.inl y1), some (.inl y2), some (.inl y3), some (.inl y4)] [] M := by
  refine mr_iload dd_Mo_freeze_33 rfl ?_
  refine mr_iconst 4 dd_Mo_freeze_35 (by decide) ?_
  refine mr_icmp_ge 131 dd_Mo_freeze_36 (by decide) (fun hc36 => ?_) (fun hc36 => ?_)
  · have h := h.1 hc36
    refine mr_iconst (-1) dd_Mo_freeze_131 (by decide) ?_
    exact mr_ireturn dd_Mo_freeze_132 rfl h
  · have h := h.2 hc36
    refine mr_aload_n dd_Mo_freeze_39 rfl ?_
    obtain ⟨hk1, h⟩ := h
    refine mr_getr ff_Mo_50 dd_Mo_freeze_40 rs_8_15 rfl hk1 ?_
    refine mr_iload dd_Mo_freeze_43 rfl ?_
    obtain ⟨a2, ho3, h⟩ := h
    obtain ⟨hk4, h⟩ := h
    obtain ⟨j5, hj6, hm7, hl8, h⟩ := h
    refine mr_iald dd_Mo_freeze_45 ho3 hk4 hj6 hm7 hl8 ?_
    refine mr_iconst 1 dd_Mo_freeze_46 (by decide) ?_
    refine mr_icmp_ne 125 dd_Mo_freeze_47 (by decide) (fun hc47 => ?_) (fun hc47 => ?_)
    · have h := h.1 hc47
      refine mr_iinc 1 dd_Mo_freeze_125 rfl (by decide) (by decide) ?_
      show mm_Z l G Y_Mo_freeze K M0 bc bs 128 [some (.inr (some a0)), some (.inl y1), some (.inl y2), some (.inl y3), some (.inl (y4 + 1))] [] M
      refine mr_goto 33 dd_Mo_freeze_128 (by decide) ?_
      exact h
    · have h := h.2 hc47
      refine mr_aload_n dd_Mo_freeze_50 rfl ?_
      refine mr_getr ff_Mo_53 dd_Mo_freeze_51 rs_8_16 rfl hk1 ?_
      refine mr_iload dd_Mo_freeze_54 rfl ?_
      obtain ⟨a9, ho10, h⟩ := h
      obtain ⟨hk11, h⟩ := h
      obtain ⟨j12, hj13, hm14, hl15, h⟩ := h
      refine mr_iald dd_Mo_freeze_56 ho10 hk11 hj13 hm14 hl15 ?_
      refine mr_iload_n dd_Mo_freeze_57 rfl ?_
      refine mr_icmp_ne 125 dd_Mo_freeze_58 (by decide) (fun hc58 => ?_) (fun hc58 => ?_)
      · have h := h.1 hc58
        refine mr_iinc 1 dd_Mo_freeze_125 rfl (by decide) (by decide) ?_
        show mm_Z l G Y_Mo_freeze K M0 bc bs 128 [some (.inr (some a0)), some (.inl y1), some (.inl y2), some (.inl y3), some (.inl (y4 + 1))] [] M
        refine mr_goto 33 dd_Mo_freeze_128 (by decide) ?_
        exact h
      · have h := h.2 hc58
        refine mr_iload_n dd_Mo_freeze_61 rfl ?_
        refine mr_if_lt 125 dd_Mo_freeze_62 (by decide) (fun hc62 => ?_) (fun hc62 => ?_)
        · have h := h.1 hc62
          refine mr_iinc 1 dd_Mo_freeze_125 rfl (by decide) (by decide) ?_
          show mm_Z l G Y_Mo_freeze K M0 bc bs 128 [some (.inr (some a0)), some (.inl y1), some (.inl y2), some (.inl y3), some (.inl (y4 + 1))] [] M
          refine mr_goto 33 dd_Mo_freeze_128 (by decide) ?_
          exact h
        · have h := h.2 hc62
          refine mr_aload_n dd_Mo_freeze_65 rfl ?_
          refine mr_getr ff_Mo_26 dd_Mo_freeze_66 rs_8_6 rfl hk1 ?_
          refine mr_iload_n dd_Mo_freeze_69 rfl ?_
          obtain ⟨a16, ho17, h⟩ := h
          obtain ⟨hk18, h⟩ := h
          obtain ⟨j19, hj20, hm21, hl22, h⟩ := h
          refine mr_iald dd_Mo_freeze_70 ho17 hk18 hj20 hm21 hl22 ?_
          refine mr_bipush 10 dd_Mo_freeze_71 (by decide) ?_
          refine mr_iload dd_Mo_freeze_73 rfl ?_
          refine mr_iadd dd_Mo_freeze_75 ?_
          refine mr_icmp_ne 125 dd_Mo_freeze_76 (by decide) (fun hc76 => ?_) (fun hc76 => ?_)
          · have h := h.1 hc76
            refine mr_iinc 1 dd_Mo_freeze_125 rfl (by decide) (by decide) ?_
            show mm_Z l G Y_Mo_freeze K M0 bc bs 128 [some (.inr (some a0)), some (.inl y1), some (.inl y2), some (.inl y3), some (.inl (y4 + 1))] [] M
            refine mr_goto 33 dd_Mo_freeze_128 (by decide) ?_
            exact h
          · have h := h.2 hc76
            refine mr_aload_n dd_Mo_freeze_79 rfl ?_
            refine mr_getr ff_Mo_50 dd_Mo_freeze_80 rs_8_15 rfl hk1 ?_
            refine mr_iload dd_Mo_freeze_83 rfl ?_
            refine mr_iconst 2 dd_Mo_freeze_85 (by decide) ?_
            obtain ⟨j23, hj24, hm25, hl26, h⟩ := h
            refine mr_iast dd_Mo_freeze_86 ho3 hk4 hj24 hm25 hl26 ?_
            refine mr_aload_n dd_Mo_freeze_87 rfl ?_
            refine mr_getr ff_Mo_56 dd_Mo_freeze_88 rs_8_17 rfl hk1 ?_
            refine mr_iload dd_Mo_freeze_91 rfl ?_
            refine mr_iload_n dd_Mo_freeze_93 rfl ?_
            obtain ⟨a27, ho28, h⟩ := h
            obtain ⟨hk29, h⟩ := h
            obtain ⟨j30, hj31, hm32, hl33, h⟩ := h
            refine mr_iast dd_Mo_freeze_94 ho28 hk29 hj31 hm32 hl33 ?_
            refine mr_aload_n dd_Mo_freeze_95 rfl ?_
            refine mr_getr ff_Mo_59 dd_Mo_freeze_96 rs_8_19 rfl hk1 ?_
            refine mr_iconst 4 dd_Mo_freeze_99 (by decide) ?_
            refine mr_iload_n dd_Mo_freeze_100 rfl ?_
            refine mr_imul dd_Mo_freeze_101 ?_
            refine mr_iload dd_Mo_freeze_102 rfl ?_
            refine mr_iadd dd_Mo_freeze_104 ?_
            refine mr_iconst 1 dd_Mo_freeze_105 (by decide) ?_
            obtain ⟨a34, ho35, h⟩ := h
            obtain ⟨hk36, h⟩ := h
            obtain ⟨j37, hj38, hm39, hl40, h⟩ := h
            refine mr_zast dd_Mo_freeze_106 ho35 hk36 hj38 hm39 hl40 (Or.inr rfl) ?_
            refine mr_aload_n dd_Mo_freeze_107 rfl ?_
            refine mr_getr ff_Mo_62 dd_Mo_freeze_108 rs_8_20 rfl hk1 ?_
            refine mr_iconst 4 dd_Mo_freeze_111 (by decide) ?_
            refine mr_iload_n dd_Mo_freeze_112 rfl ?_
            refine mr_imul dd_Mo_freeze_113 ?_
            refine mr_iload dd_Mo_freeze_114 rfl ?_
            refine mr_iadd dd_Mo_freeze_116 ?_
            refine mr_iconst 1 dd_Mo_freeze_117 (by decide) ?_
            obtain ⟨a41, ho42, h⟩ := h
            obtain ⟨hk43, h⟩ := h
            obtain ⟨j44, hj45, hm46, hl47, h⟩ := h
            refine mr_zast dd_Mo_freeze_118 ho42 hk43 hj45 hm46 hl47 (Or.inr rfl) ?_
            refine mr_bipush 9 dd_Mo_freeze_119 (by decide) ?_
            refine mr_iload dd_Mo_freeze_121 rfl ?_
            refine mr_iadd dd_Mo_freeze_123 ?_
            exact mr_ireturn dd_Mo_freeze_124 rfl h
set_option maxHeartbeats 4000000 in
set_option maxRecDepth 100000 in
theorem sg_Mo_move {l : Launch} {G : mm_G} {K : Option mm_V → mm_M → Prop} {M : mm_M} {a0 : Nat} {xa : Int32} {xb : Int32} {xc : Int32}
    (h : mm_k M a0 = 9 ∧ mm_Ok l G yy_Mo_lives Y_Mo_lives [.inr (some a0), .inl xa] M (fun r M1 => mm_X M M1 → ∃ x4 : Int32, r = some (.inl x4) ∧ (x4 = 0 → K (some (.inl 0)) M1) ∧ (¬ x4 = 0 → mm_Ok l G yy_Mo_isRegister Y_Mo_isRegister [.inl xb] M1 (fun r M5 => mm_X M1 M5 → ∃ x7 : Int32, r = some (.inl x7) ∧ (x7 = 0 → K (some (.inl 0)) M5) ∧ (¬ x7 = 0 → (xc < (-1) → K (some (.inl 0)) M5) ∧ (¬ xc < (-1) → (xc ≤ 3 → (0 ≤ xc → ∃ a8 : Nat, (mm_p M5 a0 5) = some a8 ∧ mm_k M5 a8 = 100 ∧ ∃ j11 : Nat, ((4 * xa) + xc) = nI j11 ∧ j11 < 2147483648 ∧ j11 < mm_l M5 a8 ∧ ∃ j15 : Nat, ((4 * xa) + xb) = nI j15 ∧ j15 < 2147483648 ∧ j15 < mm_l M5 a8 ∧ K (some (.inl 1)) (mm_si M5 a8 j15 (mm_i M5 a8 j11))) ∧ (¬ 0 ≤ xc → ∃ a19 : Nat, (mm_p M5 a0 5) = some a19 ∧ mm_k M5 a19 = 100 ∧ ∃ j22 : Nat, ((4 * xa) + xb) = nI j22 ∧ j22 < 2147483648 ∧ j22 < mm_l M5 a19 ∧ K (some (.inl 1)) (mm_si M5 a19 j22 0))) ∧ (¬ xc ≤ 3 → K (some (.inl 0)) M5))))))) :
    mm_Ok l G yy_Mo_move Y_Mo_move [.inr (some a0), .inl xa, .inl xb, .inl xc] M K := by
  refine mm_go (by decide) rfl (fun q => by cases q) (Nat.le_of_ble_eq_true rfl) ?_
  show mm_Z l G Y_Mo_move K M 0 0 0 [some (.inr (some a0)), some (.inl xa), some (.inl xb), some (.inl xc)] [] M
  refine mr_aload_n dd_Mo_move_0 rfl ?_
  refine mr_iload_n dd_Mo_move_1 rfl ?_
  obtain ⟨hk3, h⟩ := h
  refine mr_callV0 (Yc := Y_Mo_lives) (M := M) (st := []) (vs := [.inl xa]) (ci := 8) fc_Mo_89 iv_Mo_lives sv_Mo_lives dd_Mo_move_2 ⟨Nat.le_of_ble_eq_true rfl, Nat.le_of_ble_eq_true rfl⟩ (by decide) rfl rfl (Nat.le_of_ble_eq_true rfl) rfl hk3 rfl rfl h (fun r M1 hX2 h => ?_)
  replace h := h hX2
  obtain ⟨x4, rfl, h⟩ := h
  show mm_Z l G Y_Mo_move K M 0 0 5 [some (.inr (some a0)), some (.inl xa), some (.inl xb), some (.inl xc)] [.inl x4] M1
  refine mr_if_eq 25 dd_Mo_move_5 (by decide) (fun hc5 => ?_) (fun hc5 => ?_)
  · have h := h.1 hc5
    refine mr_iconst 0 dd_Mo_move_25 (by decide) ?_
    exact mr_zreturn dd_Mo_move_26 rfl (Or.inl rfl) h
  · have h := h.2 hc5
    refine mr_iload_n dd_Mo_move_8 rfl ?_
    refine mr_callS0 (Yc := Y_Mo_isRegister) (M := M1) (st := []) (vs := [.inl xb]) fc_Mo_134 si_Mo_isRegister dd_Mo_move_9 ⟨Nat.le_of_ble_eq_true rfl, Nat.le_of_ble_eq_true rfl⟩ rfl (Nat.le_of_ble_eq_true rfl) rfl rfl h (fun r M5 hX6 h => ?_)
    replace h := h hX6
    obtain ⟨x7, rfl, h⟩ := h
    show mm_Z l G Y_Mo_move K M 0 0 12 [some (.inr (some a0)), some (.inl xa), some (.inl xb), some (.inl xc)] [.inl x7] M5
    refine mr_if_eq 25 dd_Mo_move_12 (by decide) (fun hc12 => ?_) (fun hc12 => ?_)
    · have h := h.1 hc12
      refine mr_iconst 0 dd_Mo_move_25 (by decide) ?_
      exact mr_zreturn dd_Mo_move_26 rfl (Or.inl rfl) h
    · have h := h.2 hc12
      refine mr_iload_n dd_Mo_move_15 rfl ?_
      refine mr_iconst (-1) dd_Mo_move_16 (by decide) ?_
      refine mr_icmp_lt 25 dd_Mo_move_17 (by decide) (fun hc17 => ?_) (fun hc17 => ?_)
      · have h := h.1 hc17
        refine mr_iconst 0 dd_Mo_move_25 (by decide) ?_
        exact mr_zreturn dd_Mo_move_26 rfl (Or.inl rfl) h
      · have h := h.2 hc17
        refine mr_iload_n dd_Mo_move_20 rfl ?_
        refine mr_iconst 3 dd_Mo_move_21 (by decide) ?_
        refine mr_icmp_le 27 dd_Mo_move_22 (by decide) (fun hc22 => ?_) (fun hc22 => ?_)
        · have h := h.1 hc22
          refine mr_aload_n dd_Mo_move_27 rfl ?_
          refine mr_getr ff_Mo_23 dd_Mo_move_28 rs_8_5 rfl (mm_Xk hX6 (mm_Xk hX2 hk3 (by decide)) (by decide)) ?_
          refine mr_iconst 4 dd_Mo_move_31 (by decide) ?_
          refine mr_iload_n dd_Mo_move_32 rfl ?_
          refine mr_imul dd_Mo_move_33 ?_
          refine mr_iload_n dd_Mo_move_34 rfl ?_
          refine mr_iadd dd_Mo_move_35 ?_
          refine mr_iload_n dd_Mo_move_36 rfl ?_
          refine mr_if_ge 44 dd_Mo_move_37 (by decide) (fun hc37 => ?_) (fun hc37 => ?_)
          · have h := h.1 hc37
            refine mr_aload_n dd_Mo_move_44 rfl ?_
            refine mr_getr ff_Mo_23 dd_Mo_move_45 rs_8_5 rfl (mm_Xk hX6 (mm_Xk hX2 hk3 (by decide)) (by decide)) ?_
            refine mr_iconst 4 dd_Mo_move_48 (by decide) ?_
            refine mr_iload_n dd_Mo_move_49 rfl ?_
            refine mr_imul dd_Mo_move_50 ?_
            refine mr_iload_n dd_Mo_move_51 rfl ?_
            refine mr_iadd dd_Mo_move_52 ?_
            obtain ⟨a8, ho9, h⟩ := h
            obtain ⟨hk10, h⟩ := h
            obtain ⟨j11, hj12, hm13, hl14, h⟩ := h
            refine mr_iald dd_Mo_move_53 ho9 hk10 hj12 hm13 hl14 ?_
            obtain ⟨j15, hj16, hm17, hl18, h⟩ := h
            refine mr_iast dd_Mo_move_54 ho9 hk10 hj16 hm17 hl18 ?_
            refine mr_iconst 1 dd_Mo_move_55 (by decide) ?_
            exact mr_zreturn dd_Mo_move_56 rfl (Or.inr rfl) h
          · have h := h.2 hc37
            refine mr_iconst 0 dd_Mo_move_40 (by decide) ?_
            refine mr_goto 54 dd_Mo_move_41 (by decide) ?_
            obtain ⟨a19, ho20, h⟩ := h
            obtain ⟨hk21, h⟩ := h
            obtain ⟨j22, hj23, hm24, hl25, h⟩ := h
            refine mr_iast dd_Mo_move_54 ho20 hk21 hj23 hm24 hl25 ?_
            refine mr_iconst 1 dd_Mo_move_55 (by decide) ?_
            exact mr_zreturn dd_Mo_move_56 rfl (Or.inr rfl) h
        · have h := h.2 hc22
          refine mr_iconst 0 dd_Mo_move_25 (by decide) ?_
          exact mr_zreturn dd_Mo_move_26 rfl (Or.inl rfl) h
