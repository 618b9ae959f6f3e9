/-! THE LAW, laid (by program, wip/tools/laylaw.py) -/
set_option maxHeartbeats 4000000 in
set_option maxRecDepth 100000 in
theorem sg_La_cell {l : Launch} {G : mm_G} {K : Option mm_V → mm_M → Prop} {M : mm_M} {oa : Option Nat} {xb : Int32}
    (h : ∃ a1 : Nat, oa = some a1 ∧ mm_k M a1 = 106 ∧ ((nI (mm_l M a1)) ≤ xb → K (some (.inl 0)) M) ∧ (¬ (nI (mm_l M a1)) ≤ xb → ∃ j4 : Nat, xb = nI j4 ∧ j4 < 2147483648 ∧ j4 < mm_l M a1 ∧ K (some (.inl (mm_i M a1 j4))) M)) :
    mm_Ok l G yy_La_cell Y_La_cell [.inr oa, .inl xb] M K := by
  refine mm_go (by decide) rfl (fun q => by cases q) (Nat.le_of_ble_eq_true rfl) ?_
  show mm_Z l G Y_La_cell K M 0 0 0 [some (.inr oa), some (.inl xb)] [] M
  refine mr_iload_n dd_La_cell_0 rfl ?_
  refine mr_aload_n dd_La_cell_1 rfl ?_
  obtain ⟨a1, ho2, h⟩ := h
  obtain ⟨hk3, h⟩ := h
  refine mr_alens dd_La_cell_2 ho2 hk3 ?_
  refine mr_icmp_ge 12 dd_La_cell_3 (by decide) (fun hc3 => ?_) (fun hc3 => ?_)
  · have h := h.1 hc3
    refine mr_iconst 0 dd_La_cell_12 (by decide) ?_
    exact mr_ireturn dd_La_cell_13 rfl h
  · have h := h.2 hc3
    refine mr_aload_n dd_La_cell_6 rfl ?_
    refine mr_iload_n dd_La_cell_7 rfl ?_
    obtain ⟨j4, hj5, hm6, hl7, h⟩ := h
    refine mr_ialds dd_La_cell_8 ho2 hk3 hj5 hm6 hl7 ?_
    refine mr_goto 13 dd_La_cell_9 (by decide) ?_
    exact mr_ireturn dd_La_cell_13 rfl h
set_option maxHeartbeats 4000000 in
set_option maxRecDepth 100000 in
theorem sg_La_law_0 {l : Launch} {G : mm_G} {M0 M : mm_M} {bc bs : Nat} {b : Nat}
    (h : ∀ q1, q1 = mm_z M → mm_Ok l G yy_La_cell Y_La_cell [.inr (some b), .inl 0] (mm_nw M 1 7) (fun r M4 => mm_X (mm_nw M 1 7) M4 → ∃ x6 : Int32, r = some (.inl x6) ∧ mm_Ok l G yy_PH_init Y_PH_init [.inr (some q1), .inl x6] M4 (fun r M7 => mm_X M4 M7 → r = none ∧ ∀ q9, q9 = mm_z M7 → mm_Ok l G yy_La_cell Y_La_cell [.inr (some b), .inl 0] (mm_nw M7 9 25) (fun r M12 => mm_X (mm_nw M7 9 25) M12 → ∃ x14 : Int32, r = some (.inl x14) ∧ mm_Ok l G yy_Mo_init Y_Mo_init [.inr (some q9), .inl x14] M12 (fun r M15 => mm_X M12 M15 → r = none ∧ mm_Zq l G Y_La_law (lx_E G b) lx_Qf M0 bc (bs + 47) 28 [some (.inr (some b)), some (.inr (some q1)), some (.inr (some q9)), some (.inl 1)] [] M15))))) :
    mm_Zq l G Y_La_law (lx_E G b) lx_Qf M0 (bc + 38) (bs + 1779) 0 [some (.inr (some b)), none, none, none] [] M := by
  refine mr_new (Y := Y_La_law) (bc := bc + 37) (bs := bs + 1772) fn_La_7 dd_La_law_0 ?_
  generalize hq2 : mm_z M = q1
  have h := h q1 hq2.symm
  refine mr_dup dd_La_law_3 ?_
  refine mr_aload_n dd_La_law_4 rfl ?_
  refine mr_iconst 0 dd_La_law_5 (by decide) ?_
  refine mr_callS0 (Yc := Y_La_cell) (M := (mm_nw M 1 7)) (st := [.inr (some q1), .inr (some q1)]) (vs := [.inr (some b), .inl 0]) fc_La_9 si_La_cell dd_La_law_6 ⟨Nat.le_of_ble_eq_true rfl, Nat.le_of_ble_eq_true rfl⟩ rfl (Nat.le_of_ble_eq_true rfl) rfl rfl h (fun r M4 hX5 h => ?_)
  replace h := h hX5
  obtain ⟨x6, rfl, h⟩ := h
  show mm_Zq l G Y_La_law (lx_E G b) lx_Qf M0 (bc + 37) (bs + 1772) 9 [some (.inr (some b)), none, none, none] [.inl x6, .inr (some q1), .inr (some q1)] M4
  refine mr_callI (Yc := Y_PH_init) (M := M4) (bc := bc + 23) (bs := bs + 1640) (st := [.inr (some q1)]) (vs := [.inl x6]) fc_La_15 iv_PH_init ⟨rfl, rfl⟩ dd_La_law_9 ⟨Nat.le_of_ble_eq_true rfl, Nat.le_of_ble_eq_true rfl⟩ rfl (Nat.le_of_ble_eq_true rfl) rfl h (fun r M7 hX8 h => ?_)
  replace h := h hX8
  obtain ⟨rfl, h⟩ := h
  show mm_Zq l G Y_La_law (lx_E G b) lx_Qf M0 (bc + 23) (bs + 1640) 12 [some (.inr (some b)), none, none, none] [.inr (some q1)] M7
  refine mr_astore_n dd_La_law_12 (by decide) ?_
  show mm_Zq l G Y_La_law (lx_E G b) lx_Qf M0 (bc + 23) (bs + 1640) 13 [some (.inr (some b)), some (.inr (some q1)), none, none] [] M7
  refine mr_new (Y := Y_La_law) (bc := bc + 22) (bs := bs + 1615) fn_La_18 dd_La_law_13 ?_
  generalize hq10 : mm_z M7 = q9
  have h := h q9 hq10.symm
  refine mr_dup dd_La_law_16 ?_
  refine mr_aload_n dd_La_law_17 rfl ?_
  refine mr_iconst 0 dd_La_law_18 (by decide) ?_
  refine mr_callS0 (Yc := Y_La_cell) (M := (mm_nw M7 9 25)) (st := [.inr (some q9), .inr (some q9)]) (vs := [.inr (some b), .inl 0]) fc_La_9 si_La_cell dd_La_law_19 ⟨Nat.le_of_ble_eq_true rfl, Nat.le_of_ble_eq_true rfl⟩ rfl (Nat.le_of_ble_eq_true rfl) rfl rfl h (fun r M12 hX13 h => ?_)
  replace h := h hX13
  obtain ⟨x14, rfl, h⟩ := h
  show mm_Zq l G Y_La_law (lx_E G b) lx_Qf M0 (bc + 22) (bs + 1615) 22 [some (.inr (some b)), some (.inr (some q1)), none, none] [.inl x14, .inr (some q9), .inr (some q9)] M12
  refine mr_callI (Yc := Y_Mo_init) (M := M12) (bc := bc) (bs := bs + 47) (st := [.inr (some q9)]) (vs := [.inl x14]) fc_La_20 iv_Mo_init ⟨rfl, rfl⟩ dd_La_law_22 ⟨Nat.le_of_ble_eq_true rfl, Nat.le_of_ble_eq_true rfl⟩ rfl (Nat.le_of_ble_eq_true rfl) rfl h (fun r M15 hX16 h => ?_)
  replace h := h hX16
  obtain ⟨rfl, h⟩ := h
  show mm_Zq l G Y_La_law (lx_E G b) lx_Qf M0 bc (bs + 47) 25 [some (.inr (some b)), some (.inr (some q1)), none, none] [.inr (some q9)] M15
  refine mr_astore_n dd_La_law_25 (by decide) ?_
  show mm_Zq l G Y_La_law (lx_E G b) lx_Qf M0 bc (bs + 47) 26 [some (.inr (some b)), some (.inr (some q1)), some (.inr (some q9)), none] [] M15
  refine mr_iconst 1 dd_La_law_26 (by decide) ?_
  refine mr_istore_n dd_La_law_27 (by decide) ?_
  show mm_Zq l G Y_La_law (lx_E G b) lx_Qf M0 bc (bs + 47) 28 [some (.inr (some b)), some (.inr (some q1)), some (.inr (some q9)), some (.inl 1)] [] M15
  exact h
set_option maxHeartbeats 4000000 in
set_option maxRecDepth 100000 in
theorem sg_La_law_28 {l : Launch} {G : mm_G} {M0 M : mm_M} {bc bs : Nat} {b : Nat} {x : Nat} {m : Nat} {y3 : Int32}
    (h : mm_k M b = 106 ∧ (((nI (mm_l M b)) - 5) < y3 → True) ∧ (¬ ((nI (mm_l M b)) - 5) < y3 → mm_Zq l G Y_La_law (lx_E G b) lx_Qf M0 bc bs 36 [some (.inr (some b)), some (.inr (some x)), some (.inr (some m)), some (.inl y3)] [] M)) :
    mm_Zq l G Y_La_law (lx_E G b) lx_Qf M0 bc bs 28 [some (.inr (some b)), some (.inr (some x)), some (.inr (some m)), some (.inl y3)] [] M := by
  refine mr_iload_n dd_La_law_28 rfl ?_
  refine mr_aload_n dd_La_law_29 rfl ?_
  obtain ⟨hk1, h⟩ := h
  refine mr_alens dd_La_law_30 rfl hk1 ?_
  refine mr_iconst 5 dd_La_law_31 (by decide) ?_
  refine mr_isub dd_La_law_32 ?_
  refine mr_icmp_gt 834 dd_La_law_33 (by decide) (fun hc33 => ?_) (fun hc33 => ?_)
  · have h := h.1 hc33
    refine mr_iconst 1 dd_La_law_834 (by decide) ?_
    exact mr_lawret dd_La_law_835
  · have h := h.2 hc33
    exact h
set_option maxHeartbeats 4000000 in
set_option maxRecDepth 100000 in
theorem sg_La_law_36 {l : Launch} {G : mm_G} {M0 M : mm_M} {bc bs : Nat} {b : Nat} {x : Nat} {m : Nat} {y3 : Int32}
    (h : mm_k M b = 106 ∧ ∃ j2 : Nat, y3 = nI j2 ∧ j2 < 2147483648 ∧ j2 < mm_l M b ∧ ∃ j6 : Nat, ((mm_i M b j2) &&& 31) = nI j6 ∧ j6 < 32 ∧ (20 ≤ j6 → mm_Zq l G Y_La_law (lx_E G b) lx_Qf M0 bc bs 828 [some (.inr (some b)), some (.inr (some x)), some (.inr (some m)), some (.inl y3)] [] M) ∧ (j6 = 0 → mm_Zq l G Y_La_law (lx_E G b) lx_Qf M0 bc bs 136 [some (.inr (some b)), some (.inr (some x)), some (.inr (some m)), some (.inl y3)] [] M) ∧ (j6 = 1 → mm_Zq l G Y_La_law (lx_E G b) lx_Qf M0 bc bs 195 [some (.inr (some b)), some (.inr (some x)), some (.inr (some m)), some (.inl y3)] [] M) ∧ (j6 = 2 → mm_Zq l G Y_La_law (lx_E G b) lx_Qf M0 bc bs 218 [some (.inr (some b)), some (.inr (some x)), some (.inr (some m)), some (.inl y3)] [] M) ∧ (j6 = 3 → mm_Zq l G Y_La_law (lx_E G b) lx_Qf M0 bc bs 267 [some (.inr (some b)), some (.inr (some x)), some (.inr (some m)), some (.inl y3)] [] M) ∧ (j6 = 4 → mm_Zq l G Y_La_law (lx_E G b) lx_Qf M0 bc bs 320 [some (.inr (some b)), some (.inr (some x)), some (.inr (some m)), some (.inl y3)] [] M) ∧ (j6 = 5 → mm_Zq l G Y_La_law (lx_E G b) lx_Qf M0 bc bs 373 [some (.inr (some b)), some (.inr (some x)), some (.inr (some m)), some (.inl y3)] [] M) ∧ (j6 = 6 → mm_Zq l G Y_La_law (lx_E G b) lx_Qf M0 bc bs 426 [some (.inr (some b)), some (.inr (some x)), some (.inr (some m)), some (.inl y3)] [] M) ∧ (j6 = 7 → mm_Zq l G Y_La_law (lx_E G b) lx_Qf M0 bc bs 469 [some (.inr (some b)), some (.inr (some x)), some (.inr (some m)), some (.inl y3)] [] M) ∧ (j6 = 8 → mm_Zq l G Y_La_law (lx_E G b) lx_Qf M0 bc bs 492 [some (.inr (some b)), some (.inr (some x)), some (.inr (some m)), some (.inl y3)] [] M) ∧ (j6 = 9 → mm_Zq l G Y_La_law (lx_E G b) lx_Qf M0 bc bs 525 [some (.inr (some b)), some (.inr (some x)), some (.inr (some m)), some (.inl y3)] [] M) ∧ (j6 = 10 → mm_Zq l G Y_La_law (lx_E G b) lx_Qf M0 bc bs 568 [some (.inr (some b)), some (.inr (some x)), some (.inr (some m)), some (.inl y3)] [] M) ∧ (j6 = 11 → mm_Zq l G Y_La_law (lx_E G b) lx_Qf M0 bc bs 591 [some (.inr (some b)), some (.inr (some x)), some (.inr (some m)), some (.inl y3)] [] M) ∧ (j6 = 12 → mm_Zq l G Y_La_law (lx_E G b) lx_Qf M0 bc bs 614 [some (.inr (some b)), some (.inr (some x)), some (.inr (some m)), some (.inl y3)] [] M) ∧ (j6 = 13 → mm_Zq l G Y_La_law (lx_E G b) lx_Qf M0 bc bs 637 [some (.inr (some b)), some (.inr (some x)), some (.inr (some m)), some (.inl y3)] [] M) ∧ (j6 = 14 → mm_Zq l G Y_La_law (lx_E G b) lx_Qf M0 bc bs 660 [some (.inr (some b)), some (.inr (some x)), some (.inr (some m)), some (.inl y3)] [] M) ∧ (j6 = 15 → mm_Zq l G Y_La_law (lx_E G b) lx_Qf M0 bc bs 683 [some (.inr (some b)), some (.inr (some x)), some (.inr (some m)), some (.inl y3)] [] M) ∧ (j6 = 16 → mm_Zq l G Y_La_law (lx_E G b) lx_Qf M0 bc bs 706 [some (.inr (some b)), some (.inr (some x)), some (.inr (some m)), some (.inl y3)] [] M) ∧ (j6 = 17 → mm_Zq l G Y_La_law (lx_E G b) lx_Qf M0 bc bs 729 [some (.inr (some b)), some (.inr (some x)), some (.inr (some m)), some (.inl y3)] [] M) ∧ (j6 = 18 → mm_Zq l G Y_La_law (lx_E G b) lx_Qf M0 bc bs 762 [some (.inr (some b)), some (.inr (some x)), some (.inr (some m)), some (.inl y3)] [] M) ∧ (j6 = 19 → mm_Zq l G Y_La_law (lx_E G b) lx_Qf M0 bc bs 795 [some (.inr (some b)), some (.inr (some x)), some (.inr (some m)), some (.inl y3)] [] M)) :
    mm_Zq l G Y_La_law (lx_E G b) lx_Qf M0 bc bs 36 [some (.inr (some b)), some (.inr (some x)), some (.inr (some m)), some (.inl y3)] [] M := by
  refine mr_aload_n dd_La_law_36 rfl ?_
  refine mr_iload_n dd_La_law_37 rfl ?_
  obtain ⟨hk1, h⟩ := h
  obtain ⟨j2, hj3, hm4, hl5, h⟩ := h
  refine mr_ialds dd_La_law_38 rfl hk1 hj3 hm4 hl5 ?_
  refine mr_bipush 31 dd_La_law_39 (by decide) ?_
  refine mr_iand dd_La_law_41 ?_
  obtain ⟨j6, hj7, hb8, h⟩ := h
  obtain ⟨hd, h⟩ := h
  refine mr_tab dd_La_law_42 hj7 hb8 (fun q => ?_) (fun off q ho => ?_)
  · refine ⟨828, rfl, ?_⟩
    have h := hd q
    exact h
  · match j6, q, ho, h with
    | 0, _, ho, h =>
      cases ho
      refine ⟨136, rfl, ?_⟩
      have h := h.1 rfl
      exact h
    | 1, _, ho, h =>
      cases ho
      refine ⟨195, rfl, ?_⟩
      have h := h.2.1 rfl
      exact h
    | 2, _, ho, h =>
      cases ho
      refine ⟨218, rfl, ?_⟩
      have h := h.2.2.1 rfl
      exact h
    | 3, _, ho, h =>
      cases ho
      refine ⟨267, rfl, ?_⟩
      have h := h.2.2.2.1 rfl
      exact h
    | 4, _, ho, h =>
      cases ho
      refine ⟨320, rfl, ?_⟩
      have h := h.2.2.2.2.1 rfl
      exact h
    | 5, _, ho, h =>
      cases ho
      refine ⟨373, rfl, ?_⟩
      have h := h.2.2.2.2.2.1 rfl
      exact h
    | 6, _, ho, h =>
      cases ho
      refine ⟨426, rfl, ?_⟩
      have h := h.2.2.2.2.2.2.1 rfl
      exact h
    | 7, _, ho, h =>
      cases ho
      refine ⟨469, rfl, ?_⟩
      have h := h.2.2.2.2.2.2.2.1 rfl
      exact h
    | 8, _, ho, h =>
      cases ho
      refine ⟨492, rfl, ?_⟩
      have h := h.2.2.2.2.2.2.2.2.1 rfl
      exact h
    | 9, _, ho, h =>
      cases ho
      refine ⟨525, rfl, ?_⟩
      have h := h.2.2.2.2.2.2.2.2.2.1 rfl
      exact h
    | 10, _, ho, h =>
      cases ho
      refine ⟨568, rfl, ?_⟩
      have h := h.2.2.2.2.2.2.2.2.2.2.1 rfl
      exact h
    | 11, _, ho, h =>
      cases ho
      refine ⟨591, rfl, ?_⟩
      have h := h.2.2.2.2.2.2.2.2.2.2.2.1 rfl
      exact h
    | 12, _, ho, h =>
      cases ho
      refine ⟨614, rfl, ?_⟩
      have h := h.2.2.2.2.2.2.2.2.2.2.2.2.1 rfl
      exact h
    | 13, _, ho, h =>
      cases ho
      refine ⟨637, rfl, ?_⟩
      have h := h.2.2.2.2.2.2.2.2.2.2.2.2.2.1 rfl
      exact h
    | 14, _, ho, h =>
      cases ho
      refine ⟨660, rfl, ?_⟩
      have h := h.2.2.2.2.2.2.2.2.2.2.2.2.2.2.1 rfl
      exact h
    | 15, _, ho, h =>
      cases ho
      refine ⟨683, rfl, ?_⟩
      have h := h.2.2.2.2.2.2.2.2.2.2.2.2.2.2.2.1 rfl
      exact h
    | 16, _, ho, h =>
      cases ho
      refine ⟨706, rfl, ?_⟩
      have h := h.2.2.2.2.2.2.2.2.2.2.2.2.2.2.2.2.1 rfl
      exact h
    | 17, _, ho, h =>
      cases ho
      refine ⟨729, rfl, ?_⟩
      have h := h.2.2.2.2.2.2.2.2.2.2.2.2.2.2.2.2.2.1 rfl
      exact h
    | 18, _, ho, h =>
      cases ho
      refine ⟨762, rfl, ?_⟩
      have h := h.2.2.2.2.2.2.2.2.2.2.2.2.2.2.2.2.2.2.1 rfl
      exact h
    | 19, _, ho, h =>
      cases ho
      refine ⟨795, rfl, ?_⟩
      have h := h.2.2.2.2.2.2.2.2.2.2.2.2.2.2.2.2.2.2.2 rfl
      exact h
    | n + 20, q, _, _ => omega
set_option maxHeartbeats 4000000 in
set_option maxRecDepth 100000 in
theorem sg_La_law_136 {l : Launch} {G : mm_G} {M0 M : mm_M} {bc bs : Nat} {b : Nat} {x : Nat} {m : Nat} {y3 : Int32}
    (h : mm_k M b = 106 ∧ ∃ j2 : Nat, (y3 + 1) = nI j2 ∧ j2 < 2147483648 ∧ j2 < mm_l M b ∧ ∃ j6 : Nat, (y3 + 2) = nI j6 ∧ j6 < 2147483648 ∧ j6 < mm_l M b ∧ ∃ j10 : Nat, (y3 + 3) = nI j10 ∧ j10 < 2147483648 ∧ j10 < mm_l M b ∧ ((mm_i M b j10) = 0 → mm_k M x = 1 ∧ mm_Ok l G yy_PH_spawn Y_PH_spawn [.inr (some x), .inl (mm_i M b j2), .inl (mm_i M b j6), .inl 0] M (fun r M14 => mm_X M M14 → ∃ x17 : Int32, r = some (.inl x17) ∧ ∃ j18 : Nat, (y3 + 1) = nI j18 ∧ j18 < 2147483648 ∧ j18 < mm_l M14 b ∧ ∃ j22 : Nat, (y3 + 2) = nI j22 ∧ j22 < 2147483648 ∧ j22 < mm_l M14 b ∧ ∃ j26 : Nat, (y3 + 3) = nI j26 ∧ j26 < 2147483648 ∧ j26 < mm_l M14 b ∧ ((mm_i M14 b j26) = 0 → mm_k M14 m = 9 ∧ mm_Ok l G yy_Mo_spawn Y_Mo_spawn [.inr (some m), .inl (mm_i M14 b j18), .inl (mm_i M14 b j22), .inl 0] M14 (fun r M30 => mm_X M14 M30 → ∃ x33 : Int32, r = some (.inl x33) ∧ (x17 = x33 → mm_Zq l G Y_La_law (lx_E G b) lx_Qf M0 bc bs 828 [some (.inr (some b)), some (.inr (some x)), some (.inr (some m)), some (.inl y3)] [] M30) ∧ (¬ x17 = x33 → False))) ∧ (¬ (mm_i M14 b j26) = 0 → mm_k M14 m = 9 ∧ mm_Ok l G yy_Mo_spawn Y_Mo_spawn [.inr (some m), .inl (mm_i M14 b j18), .inl (mm_i M14 b j22), .inl 1] M14 (fun r M34 => mm_X M14 M34 → ∃ x37 : Int32, r = some (.inl x37) ∧ (x17 = x37 → mm_Zq l G Y_La_law (lx_E G b) lx_Qf M0 bc bs 828 [some (.inr (some b)), some (.inr (some x)), some (.inr (some m)), some (.inl y3)] [] M34) ∧ (¬ x17 = x37 → False))))) ∧ (¬ (mm_i M b j10) = 0 → mm_k M x = 1 ∧ mm_Ok l G yy_PH_spawn Y_PH_spawn [.inr (some x), .inl (mm_i M b j2), .inl (mm_i M b j6), .inl 1] M (fun r M38 => mm_X M M38 → ∃ x41 : Int32, r = some (.inl x41) ∧ ∃ j42 : Nat, (y3 + 1) = nI j42 ∧ j42 < 2147483648 ∧ j42 < mm_l M38 b ∧ ∃ j46 : Nat, (y3 + 2) = nI j46 ∧ j46 < 2147483648 ∧ j46 < mm_l M38 b ∧ ∃ j50 : Nat, (y3 + 3) = nI j50 ∧ j50 < 2147483648 ∧ j50 < mm_l M38 b ∧ ((mm_i M38 b j50) = 0 → mm_k M38 m = 9 ∧ mm_Ok l G yy_Mo_spawn Y_Mo_spawn [.inr (some m), .inl (mm_i M38 b j42), .inl (mm_i M38 b j46), .inl 0] M38 (fun r M54 => mm_X M38 M54 → ∃ x57 : Int32, r = some (.inl x57) ∧ (x41 = x57 → mm_Zq l G Y_La_law (lx_E G b) lx_Qf M0 bc bs 828 [some (.inr (some b)), some (.inr (some x)), some (.inr (some m)), some (.inl y3)] [] M54) ∧ (¬ x41 = x57 → False))) ∧ (¬ (mm_i M38 b j50) = 0 → mm_k M38 m = 9 ∧ mm_Ok l G yy_Mo_spawn Y_Mo_spawn [.inr (some m), .inl (mm_i M38 b j42), .inl (mm_i M38 b j46), .inl 1] M38 (fun r M58 => mm_X M38 M58 → ∃ x61 : Int32, r = some (.inl x61) ∧ (x41 = x61 → mm_Zq l G Y_La_law (lx_E G b) lx_Qf M0 bc bs 828 [some (.inr (some b)), some (.inr (some x)), some (.inr (some m)), some (.inl y3)] [] M58) ∧ (¬ x41 = x61 → False)))))) :
    mm_Zq l G Y_La_law (lx_E G b) lx_Qf M0 (bc + 2) (bs + 12) 136 [some (.inr (some b)), some (.inr (some x)), some (.inr (some m)), some (.inl y3)] [] M := by
  refine mr_aload_n dd_La_law_136 rfl ?_
  refine mr_aload_n dd_La_law_137 rfl ?_
  refine mr_iload_n dd_La_law_138 rfl ?_
  refine mr_iconst 1 dd_La_law_139 (by decide) ?_
  refine mr_iadd dd_La_law_140 ?_
  obtain ⟨hk1, h⟩ := h
  obtain ⟨j2, hj3, hm4, hl5, h⟩ := h
  refine mr_ialds dd_La_law_141 rfl hk1 hj3 hm4 hl5 ?_
  refine mr_aload_n dd_La_law_142 rfl ?_
  refine mr_iload_n dd_La_law_143 rfl ?_
  refine mr_iconst 2 dd_La_law_144 (by decide) ?_
  refine mr_iadd dd_La_law_145 ?_
  obtain ⟨j6, hj7, hm8, hl9, h⟩ := h
  refine mr_ialds dd_La_law_146 rfl hk1 hj7 hm8 hl9 ?_
  refine mr_aload_n dd_La_law_147 rfl ?_
  refine mr_iload_n dd_La_law_148 rfl ?_
  refine mr_iconst 3 dd_La_law_149 (by decide) ?_
  refine mr_iadd dd_La_law_150 ?_
  obtain ⟨j10, hj11, hm12, hl13, h⟩ := h
  refine mr_ialds dd_La_law_151 rfl hk1 hj11 hm12 hl13 ?_
  refine mr_if_eq 159 dd_La_law_152 (by decide) (fun hc152 => ?_) (fun hc152 => ?_)
  · have h := h.1 hc152
    refine mr_iconst 0 dd_La_law_159 (by decide) ?_
    obtain ⟨hk16, h⟩ := h
    refine mr_callV (Yc := Y_PH_spawn) (M := M) (bc := bc) (bs := bs) (st := []) (vs := [.inl (mm_i M b j2), .inl (mm_i M b j6), .inl 0]) (ci := 0) fc_La_21 iv_PH_spawn sv_PH_spawn dd_La_law_160 ⟨Nat.le_of_ble_eq_true rfl, Nat.le_of_ble_eq_true rfl⟩ (by decide) rfl rfl (Nat.le_of_ble_eq_true rfl) rfl hk16 h (fun r M14 hX15 h => ?_)
    replace h := h hX15
    obtain ⟨x17, rfl, h⟩ := h
    show mm_Zq l G Y_La_law (lx_E G b) lx_Qf M0 bc bs 163 [some (.inr (some b)), some (.inr (some x)), some (.inr (some m)), some (.inl y3)] [.inl x17] M14
    refine mr_aload_n dd_La_law_163 rfl ?_
    refine mr_aload_n dd_La_law_164 rfl ?_
    refine mr_iload_n dd_La_law_165 rfl ?_
    refine mr_iconst 1 dd_La_law_166 (by decide) ?_
    refine mr_iadd dd_La_law_167 ?_
    obtain ⟨j18, hj19, hm20, hl21, h⟩ := h
    refine mr_ialds dd_La_law_168 rfl (mm_Xk hX15 hk1 (by decide)) hj19 hm20 hl21 ?_
    refine mr_aload_n dd_La_law_169 rfl ?_
    refine mr_iload_n dd_La_law_170 rfl ?_
    refine mr_iconst 2 dd_La_law_171 (by decide) ?_
    refine mr_iadd dd_La_law_172 ?_
    obtain ⟨j22, hj23, hm24, hl25, h⟩ := h
    refine mr_ialds dd_La_law_173 rfl (mm_Xk hX15 hk1 (by decide)) hj23 hm24 hl25 ?_
    refine mr_aload_n dd_La_law_174 rfl ?_
    refine mr_iload_n dd_La_law_175 rfl ?_
    refine mr_iconst 3 dd_La_law_176 (by decide) ?_
    refine mr_iadd dd_La_law_177 ?_
    obtain ⟨j26, hj27, hm28, hl29, h⟩ := h
    refine mr_ialds dd_La_law_178 rfl (mm_Xk hX15 hk1 (by decide)) hj27 hm28 hl29 ?_
    refine mr_if_eq 186 dd_La_law_179 (by decide) (fun hc179 => ?_) (fun hc179 => ?_)
    · have h := h.1 hc179
      refine mr_iconst 0 dd_La_law_186 (by decide) ?_
      obtain ⟨hk32, h⟩ := h
      refine mr_callV0 (Yc := Y_Mo_spawn) (M := M14) (st := [.inl x17]) (vs := [.inl (mm_i M14 b j18), .inl (mm_i M14 b j22), .inl 0]) (ci := 8) fc_La_25 iv_Mo_spawn sv_Mo_spawn dd_La_law_187 ⟨Nat.le_of_ble_eq_true rfl, Nat.le_of_ble_eq_true rfl⟩ (by decide) rfl rfl (Nat.le_of_ble_eq_true rfl) rfl hk32 rfl rfl h (fun r M30 hX31 h => ?_)
      replace h := h hX31
      obtain ⟨x33, rfl, h⟩ := h
      show mm_Zq l G Y_La_law (lx_E G b) lx_Qf M0 bc bs 190 [some (.inr (some b)), some (.inr (some x)), some (.inr (some m)), some (.inl y3)] [.inl x33, .inl x17] M30
      refine mr_icmp_eq 828 dd_La_law_190 (by decide) (fun hc190 => ?_) (fun hc190 => ?_)
      · have h := h.1 hc190
        exact h
      · have h := h.2 hc190
        refine mr_iconst 0 dd_La_law_193 (by decide) ?_
        exact h.elim
    · have h := h.2 hc179
      refine mr_iconst 1 dd_La_law_182 (by decide) ?_
      refine mr_goto 187 dd_La_law_183 (by decide) ?_
      obtain ⟨hk36, h⟩ := h
      refine mr_callV0 (Yc := Y_Mo_spawn) (M := M14) (st := [.inl x17]) (vs := [.inl (mm_i M14 b j18), .inl (mm_i M14 b j22), .inl 1]) (ci := 8) fc_La_25 iv_Mo_spawn sv_Mo_spawn dd_La_law_187 ⟨Nat.le_of_ble_eq_true rfl, Nat.le_of_ble_eq_true rfl⟩ (by decide) rfl rfl (Nat.le_of_ble_eq_true rfl) rfl hk36 rfl rfl h (fun r M34 hX35 h => ?_)
      replace h := h hX35
      obtain ⟨x37, rfl, h⟩ := h
      show mm_Zq l G Y_La_law (lx_E G b) lx_Qf M0 bc bs 190 [some (.inr (some b)), some (.inr (some x)), some (.inr (some m)), some (.inl y3)] [.inl x37, .inl x17] M34
      refine mr_icmp_eq 828 dd_La_law_190 (by decide) (fun hc190 => ?_) (fun hc190 => ?_)
      · have h := h.1 hc190
        exact h
      · have h := h.2 hc190
        refine mr_iconst 0 dd_La_law_193 (by decide) ?_
        exact h.elim
  · have h := h.2 hc152
    refine mr_iconst 1 dd_La_law_155 (by decide) ?_
    refine mr_goto 160 dd_La_law_156 (by decide) ?_
    obtain ⟨hk40, h⟩ := h
    refine mr_callV (Yc := Y_PH_spawn) (M := M) (bc := bc) (bs := bs) (st := []) (vs := [.inl (mm_i M b j2), .inl (mm_i M b j6), .inl 1]) (ci := 0) fc_La_21 iv_PH_spawn sv_PH_spawn dd_La_law_160 ⟨Nat.le_of_ble_eq_true rfl, Nat.le_of_ble_eq_true rfl⟩ (by decide) rfl rfl (Nat.le_of_ble_eq_true rfl) rfl hk40 h (fun r M38 hX39 h => ?_)
    replace h := h hX39
    obtain ⟨x41, rfl, h⟩ := h
    show mm_Zq l G Y_La_law (lx_E G b) lx_Qf M0 bc bs 163 [some (.inr (some b)), some (.inr (some x)), some (.inr (some m)), some (.inl y3)] [.inl x41] M38
    refine mr_aload_n dd_La_law_163 rfl ?_
    refine mr_aload_n dd_La_law_164 rfl ?_
    refine mr_iload_n dd_La_law_165 rfl ?_
    refine mr_iconst 1 dd_La_law_166 (by decide) ?_
    refine mr_iadd dd_La_law_167 ?_
    obtain ⟨j42, hj43, hm44, hl45, h⟩ := h
    refine mr_ialds dd_La_law_168 rfl (mm_Xk hX39 hk1 (by decide)) hj43 hm44 hl45 ?_
    refine mr_aload_n dd_La_law_169 rfl ?_
    refine mr_iload_n dd_La_law_170 rfl ?_
    refine mr_iconst 2 dd_La_law_171 (by decide) ?_
    refine mr_iadd dd_La_law_172 ?_
    obtain ⟨j46, hj47, hm48, hl49, h⟩ := h
    refine mr_ialds dd_La_law_173 rfl (mm_Xk hX39 hk1 (by decide)) hj47 hm48 hl49 ?_
    refine mr_aload_n dd_La_law_174 rfl ?_
    refine mr_iload_n dd_La_law_175 rfl ?_
    refine mr_iconst 3 dd_La_law_176 (by decide) ?_
    refine mr_iadd dd_La_law_177 ?_
    obtain ⟨j50, hj51, hm52, hl53, h⟩ := h
    refine mr_ialds dd_La_law_178 rfl (mm_Xk hX39 hk1 (by decide)) hj51 hm52 hl53 ?_
    refine mr_if_eq 186 dd_La_law_179 (by decide) (fun hc179 => ?_) (fun hc179 => ?_)
    · have h := h.1 hc179
      refine mr_iconst 0 dd_La_law_186 (by decide) ?_
      obtain ⟨hk56, h⟩ := h
      refine mr_callV0 (Yc := Y_Mo_spawn) (M := M38) (st := [.inl x41]) (vs := [.inl (mm_i M38 b j42), .inl (mm_i M38 b j46), .inl 0]) (ci := 8) fc_La_25 iv_Mo_spawn sv_Mo_spawn dd_La_law_187 ⟨Nat.le_of_ble_eq_true rfl, Nat.le_of_ble_eq_true rfl⟩ (by decide) rfl rfl (Nat.le_of_ble_eq_true rfl) rfl hk56 rfl rfl h (fun r M54 hX55 h => ?_)
      replace h := h hX55
      obtain ⟨x57, rfl, h⟩ := h
      show mm_Zq l G Y_La_law (lx_E G b) lx_Qf M0 bc bs 190 [some (.inr (some b)), some (.inr (some x)), some (.inr (some m)), some (.inl y3)] [.inl x57, .inl x41] M54
      refine mr_icmp_eq 828 dd_La_law_190 (by decide) (fun hc190 => ?_) (fun hc190 => ?_)
      · have h := h.1 hc190
        exact h
      · have h := h.2 hc190
        refine mr_iconst 0 dd_La_law_193 (by decide) ?_
        exact h.elim
    · have h := h.2 hc179
      refine mr_iconst 1 dd_La_law_182 (by decide) ?_
      refine mr_goto 187 dd_La_law_183 (by decide) ?_
      obtain ⟨hk60, h⟩ := h
      refine mr_callV0 (Yc := Y_Mo_spawn) (M := M38) (st := [.inl x41]) (vs := [.inl (mm_i M38 b j42), .inl (mm_i M38 b j46), .inl 1]) (ci := 8) fc_La_25 iv_Mo_spawn sv_Mo_spawn dd_La_law_187 ⟨Nat.le_of_ble_eq_true rfl, Nat.le_of_ble_eq_true rfl⟩ (by decide) rfl rfl (Nat.le_of_ble_eq_true rfl) rfl hk60 rfl rfl h (fun r M58 hX59 h => ?_)
      replace h := h hX59
      obtain ⟨x61, rfl, h⟩ := h
      show mm_Zq l G Y_La_law (lx_E G b) lx_Qf M0 bc bs 190 [some (.inr (some b)), some (.inr (some x)), some (.inr (some m)), some (.inl y3)] [.inl x61, .inl x41] M58
      refine mr_icmp_eq 828 dd_La_law_190 (by decide) (fun hc190 => ?_) (fun hc190 => ?_)
      · have h := h.1 hc190
        exact h
      · have h := h.2 hc190
        refine mr_iconst 0 dd_La_law_193 (by decide) ?_
        exact h.elim
set_option maxHeartbeats 4000000 in
set_option maxRecDepth 100000 in
theorem sg_La_law_195 {l : Launch} {G : mm_G} {M0 M : mm_M} {bc bs : Nat} {b : Nat} {x : Nat} {m : Nat} {y3 : Int32}
    (h : mm_k M b = 106 ∧ ∃ j2 : Nat, (y3 + 1) = nI j2 ∧ j2 < 2147483648 ∧ j2 < mm_l M b ∧ mm_k M x = 1 ∧ mm_Ok l G yy_PH_kill Y_PH_kill [.inr (some x), .inl (mm_i M b j2)] M (fun r M6 => mm_X M M6 → ∃ x9 : Int32, r = some (.inl x9) ∧ ∃ j10 : Nat, (y3 + 1) = nI j10 ∧ j10 < 2147483648 ∧ j10 < mm_l M6 b ∧ mm_k M6 m = 9 ∧ mm_Ok l G yy_Mo_kill Y_Mo_kill [.inr (some m), .inl (mm_i M6 b j10)] M6 (fun r M14 => mm_X M6 M14 → ∃ x17 : Int32, r = some (.inl x17) ∧ (x9 = x17 → mm_Zq l G Y_La_law (lx_E G b) lx_Qf M0 bc bs 828 [some (.inr (some b)), some (.inr (some x)), some (.inr (some m)), some (.inl y3)] [] M14) ∧ (¬ x9 = x17 → False)))) :
    mm_Zq l G Y_La_law (lx_E G b) lx_Qf M0 bc bs 195 [some (.inr (some b)), some (.inr (some x)), some (.inr (some m)), some (.inl y3)] [] M := by
  refine mr_aload_n dd_La_law_195 rfl ?_
  refine mr_aload_n dd_La_law_196 rfl ?_
  refine mr_iload_n dd_La_law_197 rfl ?_
  refine mr_iconst 1 dd_La_law_198 (by decide) ?_
  refine mr_iadd dd_La_law_199 ?_
  obtain ⟨hk1, h⟩ := h
  obtain ⟨j2, hj3, hm4, hl5, h⟩ := h
  refine mr_ialds dd_La_law_200 rfl hk1 hj3 hm4 hl5 ?_
  obtain ⟨hk8, h⟩ := h
  refine mr_callV0 (Yc := Y_PH_kill) (M := M) (st := []) (vs := [.inl (mm_i M b j2)]) (ci := 0) fc_La_26 iv_PH_kill sv_PH_kill dd_La_law_201 ⟨Nat.le_of_ble_eq_true rfl, Nat.le_of_ble_eq_true rfl⟩ (by decide) rfl rfl (Nat.le_of_ble_eq_true rfl) rfl hk8 rfl rfl h (fun r M6 hX7 h => ?_)
  replace h := h hX7
  obtain ⟨x9, rfl, h⟩ := h
  show mm_Zq l G Y_La_law (lx_E G b) lx_Qf M0 bc bs 204 [some (.inr (some b)), some (.inr (some x)), some (.inr (some m)), some (.inl y3)] [.inl x9] M6
  refine mr_aload_n dd_La_law_204 rfl ?_
  refine mr_aload_n dd_La_law_205 rfl ?_
  refine mr_iload_n dd_La_law_206 rfl ?_
  refine mr_iconst 1 dd_La_law_207 (by decide) ?_
  refine mr_iadd dd_La_law_208 ?_
  obtain ⟨j10, hj11, hm12, hl13, h⟩ := h
  refine mr_ialds dd_La_law_209 rfl (mm_Xk hX7 hk1 (by decide)) hj11 hm12 hl13 ?_
  obtain ⟨hk16, h⟩ := h
  refine mr_callV0 (Yc := Y_Mo_kill) (M := M6) (st := [.inl x9]) (vs := [.inl (mm_i M6 b j10)]) (ci := 8) fc_La_30 iv_Mo_kill sv_Mo_kill dd_La_law_210 ⟨Nat.le_of_ble_eq_true rfl, Nat.le_of_ble_eq_true rfl⟩ (by decide) rfl rfl (Nat.le_of_ble_eq_true rfl) rfl hk16 rfl rfl h (fun r M14 hX15 h => ?_)
  replace h := h hX15
  obtain ⟨x17, rfl, h⟩ := h
  show mm_Zq l G Y_La_law (lx_E G b) lx_Qf M0 bc bs 213 [some (.inr (some b)), some (.inr (some x)), some (.inr (some m)), some (.inl y3)] [.inl x17, .inl x9] M14
  refine mr_icmp_eq 828 dd_La_law_213 (by decide) (fun hc213 => ?_) (fun hc213 => ?_)
  · have h := h.1 hc213
    exact h
  · have h := h.2 hc213
    refine mr_iconst 0 dd_La_law_216 (by decide) ?_
    exact h.elim
set_option maxHeartbeats 4000000 in
set_option maxRecDepth 100000 in
theorem sg_La_law_218 {l : Launch} {G : mm_G} {M0 M : mm_M} {bc bs : Nat} {b : Nat} {x : Nat} {m : Nat} {y3 : Int32}
    (h : mm_k M b = 106 ∧ ∃ j2 : Nat, (y3 + 1) = nI j2 ∧ j2 < 2147483648 ∧ j2 < mm_l M b ∧ ∃ j6 : Nat, (y3 + 2) = nI j6 ∧ j6 < 2147483648 ∧ j6 < mm_l M b ∧ ((mm_i M b j6) = 0 → mm_k M x = 1 ∧ mm_Ok l G yy_PH_mode Y_PH_mode [.inr (some x), .inl (mm_i M b j2), .inl 0] M (fun r M10 => mm_X M M10 → ∃ x13 : Int32, r = some (.inl x13) ∧ ∃ j14 : Nat, (y3 + 1) = nI j14 ∧ j14 < 2147483648 ∧ j14 < mm_l M10 b ∧ ∃ j18 : Nat, (y3 + 2) = nI j18 ∧ j18 < 2147483648 ∧ j18 < mm_l M10 b ∧ ((mm_i M10 b j18) = 0 → mm_k M10 m = 9 ∧ mm_Ok l G yy_Mo_mode Y_Mo_mode [.inr (some m), .inl (mm_i M10 b j14), .inl 0] M10 (fun r M22 => mm_X M10 M22 → ∃ x25 : Int32, r = some (.inl x25) ∧ (x13 = x25 → mm_Zq l G Y_La_law (lx_E G b) lx_Qf M0 bc bs 828 [some (.inr (some b)), some (.inr (some x)), some (.inr (some m)), some (.inl y3)] [] M22) ∧ (¬ x13 = x25 → False))) ∧ (¬ (mm_i M10 b j18) = 0 → mm_k M10 m = 9 ∧ mm_Ok l G yy_Mo_mode Y_Mo_mode [.inr (some m), .inl (mm_i M10 b j14), .inl 1] M10 (fun r M26 => mm_X M10 M26 → ∃ x29 : Int32, r = some (.inl x29) ∧ (x13 = x29 → mm_Zq l G Y_La_law (lx_E G b) lx_Qf M0 bc bs 828 [some (.inr (some b)), some (.inr (some x)), some (.inr (some m)), some (.inl y3)] [] M26) ∧ (¬ x13 = x29 → False))))) ∧ (¬ (mm_i M b j6) = 0 → mm_k M x = 1 ∧ mm_Ok l G yy_PH_mode Y_PH_mode [.inr (some x), .inl (mm_i M b j2), .inl 1] M (fun r M30 => mm_X M M30 → ∃ x33 : Int32, r = some (.inl x33) ∧ ∃ j34 : Nat, (y3 + 1) = nI j34 ∧ j34 < 2147483648 ∧ j34 < mm_l M30 b ∧ ∃ j38 : Nat, (y3 + 2) = nI j38 ∧ j38 < 2147483648 ∧ j38 < mm_l M30 b ∧ ((mm_i M30 b j38) = 0 → mm_k M30 m = 9 ∧ mm_Ok l G yy_Mo_mode Y_Mo_mode [.inr (some m), .inl (mm_i M30 b j34), .inl 0] M30 (fun r M42 => mm_X M30 M42 → ∃ x45 : Int32, r = some (.inl x45) ∧ (x33 = x45 → mm_Zq l G Y_La_law (lx_E G b) lx_Qf M0 bc bs 828 [some (.inr (some b)), some (.inr (some x)), some (.inr (some m)), some (.inl y3)] [] M42) ∧ (¬ x33 = x45 → False))) ∧ (¬ (mm_i M30 b j38) = 0 → mm_k M30 m = 9 ∧ mm_Ok l G yy_Mo_mode Y_Mo_mode [.inr (some m), .inl (mm_i M30 b j34), .inl 1] M30 (fun r M46 => mm_X M30 M46 → ∃ x49 : Int32, r = some (.inl x49) ∧ (x33 = x49 → mm_Zq l G Y_La_law (lx_E G b) lx_Qf M0 bc bs 828 [some (.inr (some b)), some (.inr (some x)), some (.inr (some m)), some (.inl y3)] [] M46) ∧ (¬ x33 = x49 → False)))))) :
    mm_Zq l G Y_La_law (lx_E G b) lx_Qf M0 bc bs 218 [some (.inr (some b)), some (.inr (some x)), some (.inr (some m)), some (.inl y3)] [] M := by
  refine mr_aload_n dd_La_law_218 rfl ?_
  refine mr_aload_n dd_La_law_219 rfl ?_
  refine mr_iload_n dd_La_law_220 rfl ?_
  refine mr_iconst 1 dd_La_law_221 (by decide) ?_
  refine mr_iadd dd_La_law_222 ?_
  obtain ⟨hk1, h⟩ := h
  obtain ⟨j2, hj3, hm4, hl5, h⟩ := h
  refine mr_ialds dd_La_law_223 rfl hk1 hj3 hm4 hl5 ?_
  refine mr_aload_n dd_La_law_224 rfl ?_
  refine mr_iload_n dd_La_law_225 rfl ?_
  refine mr_iconst 2 dd_La_law_226 (by decide) ?_
  refine mr_iadd dd_La_law_227 ?_
  obtain ⟨j6, hj7, hm8, hl9, h⟩ := h
  refine mr_ialds dd_La_law_228 rfl hk1 hj7 hm8 hl9 ?_
  refine mr_if_eq 236 dd_La_law_229 (by decide) (fun hc229 => ?_) (fun hc229 => ?_)
  · have h := h.1 hc229
    refine mr_iconst 0 dd_La_law_236 (by decide) ?_
    obtain ⟨hk12, h⟩ := h
    refine mr_callV0 (Yc := Y_PH_mode) (M := M) (st := []) (vs := [.inl (mm_i M b j2), .inl 0]) (ci := 0) fc_La_31 iv_PH_mode sv_PH_mode dd_La_law_237 ⟨Nat.le_of_ble_eq_true rfl, Nat.le_of_ble_eq_true rfl⟩ (by decide) rfl rfl (Nat.le_of_ble_eq_true rfl) rfl hk12 rfl rfl h (fun r M10 hX11 h => ?_)
    replace h := h hX11
    obtain ⟨x13, rfl, h⟩ := h
    show mm_Zq l G Y_La_law (lx_E G b) lx_Qf M0 bc bs 240 [some (.inr (some b)), some (.inr (some x)), some (.inr (some m)), some (.inl y3)] [.inl x13] M10
    refine mr_aload_n dd_La_law_240 rfl ?_
    refine mr_aload_n dd_La_law_241 rfl ?_
    refine mr_iload_n dd_La_law_242 rfl ?_
    refine mr_iconst 1 dd_La_law_243 (by decide) ?_
    refine mr_iadd dd_La_law_244 ?_
    obtain ⟨j14, hj15, hm16, hl17, h⟩ := h
    refine mr_ialds dd_La_law_245 rfl (mm_Xk hX11 hk1 (by decide)) hj15 hm16 hl17 ?_
    refine mr_aload_n dd_La_law_246 rfl ?_
    refine mr_iload_n dd_La_law_247 rfl ?_
    refine mr_iconst 2 dd_La_law_248 (by decide) ?_
    refine mr_iadd dd_La_law_249 ?_
    obtain ⟨j18, hj19, hm20, hl21, h⟩ := h
    refine mr_ialds dd_La_law_250 rfl (mm_Xk hX11 hk1 (by decide)) hj19 hm20 hl21 ?_
    refine mr_if_eq 258 dd_La_law_251 (by decide) (fun hc251 => ?_) (fun hc251 => ?_)
    · have h := h.1 hc251
      refine mr_iconst 0 dd_La_law_258 (by decide) ?_
      obtain ⟨hk24, h⟩ := h
      refine mr_callV0 (Yc := Y_Mo_mode) (M := M10) (st := [.inl x13]) (vs := [.inl (mm_i M10 b j14), .inl 0]) (ci := 8) fc_La_35 iv_Mo_mode sv_Mo_mode dd_La_law_259 ⟨Nat.le_of_ble_eq_true rfl, Nat.le_of_ble_eq_true rfl⟩ (by decide) rfl rfl (Nat.le_of_ble_eq_true rfl) rfl hk24 rfl rfl h (fun r M22 hX23 h => ?_)
      replace h := h hX23
      obtain ⟨x25, rfl, h⟩ := h
      show mm_Zq l G Y_La_law (lx_E G b) lx_Qf M0 bc bs 262 [some (.inr (some b)), some (.inr (some x)), some (.inr (some m)), some (.inl y3)] [.inl x25, .inl x13] M22
      refine mr_icmp_eq 828 dd_La_law_262 (by decide) (fun hc262 => ?_) (fun hc262 => ?_)
      · have h := h.1 hc262
        exact h
      · have h := h.2 hc262
        refine mr_iconst 0 dd_La_law_265 (by decide) ?_
        exact h.elim
    · have h := h.2 hc251
      refine mr_iconst 1 dd_La_law_254 (by decide) ?_
      refine mr_goto 259 dd_La_law_255 (by decide) ?_
      obtain ⟨hk28, h⟩ := h
      refine mr_callV0 (Yc := Y_Mo_mode) (M := M10) (st := [.inl x13]) (vs := [.inl (mm_i M10 b j14), .inl 1]) (ci := 8) fc_La_35 iv_Mo_mode sv_Mo_mode dd_La_law_259 ⟨Nat.le_of_ble_eq_true rfl, Nat.le_of_ble_eq_true rfl⟩ (by decide) rfl rfl (Nat.le_of_ble_eq_true rfl) rfl hk28 rfl rfl h (fun r M26 hX27 h => ?_)
      replace h := h hX27
      obtain ⟨x29, rfl, h⟩ := h
      show mm_Zq l G Y_La_law (lx_E G b) lx_Qf M0 bc bs 262 [some (.inr (some b)), some (.inr (some x)), some (.inr (some m)), some (.inl y3)] [.inl x29, .inl x13] M26
      refine mr_icmp_eq 828 dd_La_law_262 (by decide) (fun hc262 => ?_) (fun hc262 => ?_)
      · have h := h.1 hc262
        exact h
      · have h := h.2 hc262
        refine mr_iconst 0 dd_La_law_265 (by decide) ?_
        exact h.elim
  · have h := h.2 hc229
    refine mr_iconst 1 dd_La_law_232 (by decide) ?_
    refine mr_goto 237 dd_La_law_233 (by decide) ?_
    obtain ⟨hk32, h⟩ := h
    refine mr_callV0 (Yc := Y_PH_mode) (M := M) (st := []) (vs := [.inl (mm_i M b j2), .inl 1]) (ci := 0) fc_La_31 iv_PH_mode sv_PH_mode dd_La_law_237 ⟨Nat.le_of_ble_eq_true rfl, Nat.le_of_ble_eq_true rfl⟩ (by decide) rfl rfl (Nat.le_of_ble_eq_true rfl) rfl hk32 rfl rfl h (fun r M30 hX31 h => ?_)
    replace h := h hX31
    obtain ⟨x33, rfl, h⟩ := h
    show mm_Zq l G Y_La_law (lx_E G b) lx_Qf M0 bc bs 240 [some (.inr (some b)), some (.inr (some x)), some (.inr (some m)), some (.inl y3)] [.inl x33] M30
    refine mr_aload_n dd_La_law_240 rfl ?_
    refine mr_aload_n dd_La_law_241 rfl ?_
    refine mr_iload_n dd_La_law_242 rfl ?_
    refine mr_iconst 1 dd_La_law_243 (by decide) ?_
    refine mr_iadd dd_La_law_244 ?_
    obtain ⟨j34, hj35, hm36, hl37, h⟩ := h
    refine mr_ialds dd_La_law_245 rfl (mm_Xk hX31 hk1 (by decide)) hj35 hm36 hl37 ?_
    refine mr_aload_n dd_La_law_246 rfl ?_
    refine mr_iload_n dd_La_law_247 rfl ?_
    refine mr_iconst 2 dd_La_law_248 (by decide) ?_
    refine mr_iadd dd_La_law_249 ?_
    obtain ⟨j38, hj39, hm40, hl41, h⟩ := h
    refine mr_ialds dd_La_law_250 rfl (mm_Xk hX31 hk1 (by decide)) hj39 hm40 hl41 ?_
    refine mr_if_eq 258 dd_La_law_251 (by decide) (fun hc251 => ?_) (fun hc251 => ?_)
    · have h := h.1 hc251
      refine mr_iconst 0 dd_La_law_258 (by decide) ?_
      obtain ⟨hk44, h⟩ := h
      refine mr_callV0 (Yc := Y_Mo_mode) (M := M30) (st := [.inl x33]) (vs := [.inl (mm_i M30 b j34), .inl 0]) (ci := 8) fc_La_35 iv_Mo_mode sv_Mo_mode dd_La_law_259 ⟨Nat.le_of_ble_eq_true rfl, Nat.le_of_ble_eq_true rfl⟩ (by decide) rfl rfl (Nat.le_of_ble_eq_true rfl) rfl hk44 rfl rfl h (fun r M42 hX43 h => ?_)
      replace h := h hX43
      obtain ⟨x45, rfl, h⟩ := h
      show mm_Zq l G Y_La_law (lx_E G b) lx_Qf M0 bc bs 262 [some (.inr (some b)), some (.inr (some x)), some (.inr (some m)), some (.inl y3)] [.inl x45, .inl x33] M42
      refine mr_icmp_eq 828 dd_La_law_262 (by decide) (fun hc262 => ?_) (fun hc262 => ?_)
      · have h := h.1 hc262
        exact h
      · have h := h.2 hc262
        refine mr_iconst 0 dd_La_law_265 (by decide) ?_
        exact h.elim
    · have h := h.2 hc251
      refine mr_iconst 1 dd_La_law_254 (by decide) ?_
      refine mr_goto 259 dd_La_law_255 (by decide) ?_
      obtain ⟨hk48, h⟩ := h
      refine mr_callV0 (Yc := Y_Mo_mode) (M := M30) (st := [.inl x33]) (vs := [.inl (mm_i M30 b j34), .inl 1]) (ci := 8) fc_La_35 iv_Mo_mode sv_Mo_mode dd_La_law_259 ⟨Nat.le_of_ble_eq_true rfl, Nat.le_of_ble_eq_true rfl⟩ (by decide) rfl rfl (Nat.le_of_ble_eq_true rfl) rfl hk48 rfl rfl h (fun r M46 hX47 h => ?_)
      replace h := h hX47
      obtain ⟨x49, rfl, h⟩ := h
      show mm_Zq l G Y_La_law (lx_E G b) lx_Qf M0 bc bs 262 [some (.inr (some b)), some (.inr (some x)), some (.inr (some m)), some (.inl y3)] [.inl x49, .inl x33] M46
      refine mr_icmp_eq 828 dd_La_law_262 (by decide) (fun hc262 => ?_) (fun hc262 => ?_)
      · have h := h.1 hc262
        exact h
      · have h := h.2 hc262
        refine mr_iconst 0 dd_La_law_265 (by decide) ?_
        exact h.elim
set_option maxHeartbeats 4000000 in
set_option maxRecDepth 100000 in
theorem sg_La_law_267 {l : Launch} {G : mm_G} {M0 M : mm_M} {bc bs : Nat} {b : Nat} {x : Nat} {m : Nat} {y3 : Int32}
    (h : mm_k M b = 106 ∧ ∃ j2 : Nat, (y3 + 1) = nI j2 ∧ j2 < 2147483648 ∧ j2 < mm_l M b ∧ ∃ j6 : Nat, (y3 + 2) = nI j6 ∧ j6 < 2147483648 ∧ j6 < mm_l M b ∧ ∃ j10 : Nat, (y3 + 3) = nI j10 ∧ j10 < 2147483648 ∧ j10 < mm_l M b ∧ ∃ j14 : Nat, (y3 + 4) = nI j14 ∧ j14 < 2147483648 ∧ j14 < mm_l M b ∧ mm_k M x = 1 ∧ mm_Ok l G yy_PH_make Y_PH_make [.inr (some x), .inl (mm_i M b j2), .inl (mm_i M b j6), .inl (mm_i M b j10), .inl (mm_i M b j14)] M (fun r M18 => mm_X M M18 → ∃ x21 : Int32, r = some (.inl x21) ∧ ∃ j22 : Nat, (y3 + 1) = nI j22 ∧ j22 < 2147483648 ∧ j22 < mm_l M18 b ∧ ∃ j26 : Nat, (y3 + 2) = nI j26 ∧ j26 < 2147483648 ∧ j26 < mm_l M18 b ∧ ∃ j30 : Nat, (y3 + 3) = nI j30 ∧ j30 < 2147483648 ∧ j30 < mm_l M18 b ∧ ∃ j34 : Nat, (y3 + 4) = nI j34 ∧ j34 < 2147483648 ∧ j34 < mm_l M18 b ∧ mm_k M18 m = 9 ∧ mm_Ok l G yy_Mo_make Y_Mo_make [.inr (some m), .inl (mm_i M18 b j22), .inl (mm_i M18 b j26), .inl (mm_i M18 b j30), .inl (mm_i M18 b j34)] M18 (fun r M38 => mm_X M18 M38 → ∃ x41 : Int32, r = some (.inl x41) ∧ (x21 = x41 → mm_Zq l G Y_La_law (lx_E G b) lx_Qf M0 bc bs 828 [some (.inr (some b)), some (.inr (some x)), some (.inr (some m)), some (.inl y3)] [] M38) ∧ (¬ x21 = x41 → False)))) :
    mm_Zq l G Y_La_law (lx_E G b) lx_Qf M0 (bc + 7) (bs + 315) 267 [some (.inr (some b)), some (.inr (some x)), some (.inr (some m)), some (.inl y3)] [] M := by
  refine mr_aload_n dd_La_law_267 rfl ?_
  refine mr_aload_n dd_La_law_268 rfl ?_
  refine mr_iload_n dd_La_law_269 rfl ?_
  refine mr_iconst 1 dd_La_law_270 (by decide) ?_
  refine mr_iadd dd_La_law_271 ?_
  obtain ⟨hk1, h⟩ := h
  obtain ⟨j2, hj3, hm4, hl5, h⟩ := h
  refine mr_ialds dd_La_law_272 rfl hk1 hj3 hm4 hl5 ?_
  refine mr_aload_n dd_La_law_273 rfl ?_
  refine mr_iload_n dd_La_law_274 rfl ?_
  refine mr_iconst 2 dd_La_law_275 (by decide) ?_
  refine mr_iadd dd_La_law_276 ?_
  obtain ⟨j6, hj7, hm8, hl9, h⟩ := h
  refine mr_ialds dd_La_law_277 rfl hk1 hj7 hm8 hl9 ?_
  refine mr_aload_n dd_La_law_278 rfl ?_
  refine mr_iload_n dd_La_law_279 rfl ?_
  refine mr_iconst 3 dd_La_law_280 (by decide) ?_
  refine mr_iadd dd_La_law_281 ?_
  obtain ⟨j10, hj11, hm12, hl13, h⟩ := h
  refine mr_ialds dd_La_law_282 rfl hk1 hj11 hm12 hl13 ?_
  refine mr_aload_n dd_La_law_283 rfl ?_
  refine mr_iload_n dd_La_law_284 rfl ?_
  refine mr_iconst 4 dd_La_law_285 (by decide) ?_
  refine mr_iadd dd_La_law_286 ?_
  obtain ⟨j14, hj15, hm16, hl17, h⟩ := h
  refine mr_ialds dd_La_law_287 rfl hk1 hj15 hm16 hl17 ?_
  obtain ⟨hk20, h⟩ := h
  refine mr_callV (Yc := Y_PH_make) (M := M) (bc := bc) (bs := bs) (st := []) (vs := [.inl (mm_i M b j2), .inl (mm_i M b j6), .inl (mm_i M b j10), .inl (mm_i M b j14)]) (ci := 0) fc_La_36 iv_PH_make sv_PH_make dd_La_law_288 ⟨Nat.le_of_ble_eq_true rfl, Nat.le_of_ble_eq_true rfl⟩ (by decide) rfl rfl (Nat.le_of_ble_eq_true rfl) rfl hk20 h (fun r M18 hX19 h => ?_)
  replace h := h hX19
  obtain ⟨x21, rfl, h⟩ := h
  show mm_Zq l G Y_La_law (lx_E G b) lx_Qf M0 bc bs 291 [some (.inr (some b)), some (.inr (some x)), some (.inr (some m)), some (.inl y3)] [.inl x21] M18
  refine mr_aload_n dd_La_law_291 rfl ?_
  refine mr_aload_n dd_La_law_292 rfl ?_
  refine mr_iload_n dd_La_law_293 rfl ?_
  refine mr_iconst 1 dd_La_law_294 (by decide) ?_
  refine mr_iadd dd_La_law_295 ?_
  obtain ⟨j22, hj23, hm24, hl25, h⟩ := h
  refine mr_ialds dd_La_law_296 rfl (mm_Xk hX19 hk1 (by decide)) hj23 hm24 hl25 ?_
  refine mr_aload_n dd_La_law_297 rfl ?_
  refine mr_iload_n dd_La_law_298 rfl ?_
  refine mr_iconst 2 dd_La_law_299 (by decide) ?_
  refine mr_iadd dd_La_law_300 ?_
  obtain ⟨j26, hj27, hm28, hl29, h⟩ := h
  refine mr_ialds dd_La_law_301 rfl (mm_Xk hX19 hk1 (by decide)) hj27 hm28 hl29 ?_
  refine mr_aload_n dd_La_law_302 rfl ?_
  refine mr_iload_n dd_La_law_303 rfl ?_
  refine mr_iconst 3 dd_La_law_304 (by decide) ?_
  refine mr_iadd dd_La_law_305 ?_
  obtain ⟨j30, hj31, hm32, hl33, h⟩ := h
  refine mr_ialds dd_La_law_306 rfl (mm_Xk hX19 hk1 (by decide)) hj31 hm32 hl33 ?_
  refine mr_aload_n dd_La_law_307 rfl ?_
  refine mr_iload_n dd_La_law_308 rfl ?_
  refine mr_iconst 4 dd_La_law_309 (by decide) ?_
  refine mr_iadd dd_La_law_310 ?_
  obtain ⟨j34, hj35, hm36, hl37, h⟩ := h
  refine mr_ialds dd_La_law_311 rfl (mm_Xk hX19 hk1 (by decide)) hj35 hm36 hl37 ?_
  obtain ⟨hk40, h⟩ := h
  refine mr_callV0 (Yc := Y_Mo_make) (M := M18) (st := [.inl x21]) (vs := [.inl (mm_i M18 b j22), .inl (mm_i M18 b j26), .inl (mm_i M18 b j30), .inl (mm_i M18 b j34)]) (ci := 8) fc_La_40 iv_Mo_make sv_Mo_make dd_La_law_312 ⟨Nat.le_of_ble_eq_true rfl, Nat.le_of_ble_eq_true rfl⟩ (by decide) rfl rfl (Nat.le_of_ble_eq_true rfl) rfl hk40 rfl rfl h (fun r M38 hX39 h => ?_)
  replace h := h hX39
  obtain ⟨x41, rfl, h⟩ := h
  show mm_Zq l G Y_La_law (lx_E G b) lx_Qf M0 bc bs 315 [some (.inr (some b)), some (.inr (some x)), some (.inr (some m)), some (.inl y3)] [.inl x41, .inl x21] M38
  refine mr_icmp_eq 828 dd_La_law_315 (by decide) (fun hc315 => ?_) (fun hc315 => ?_)
  · have h := h.1 hc315
    exact h
  · have h := h.2 hc315
    refine mr_iconst 0 dd_La_law_318 (by decide) ?_
    exact h.elim
set_option maxHeartbeats 4000000 in
set_option maxRecDepth 100000 in
theorem sg_La_law_320 {l : Launch} {G : mm_G} {M0 M : mm_M} {bc bs : Nat} {b : Nat} {x : Nat} {m : Nat} {y3 : Int32}
    (h : mm_k M b = 106 ∧ ∃ j2 : Nat, (y3 + 1) = nI j2 ∧ j2 < 2147483648 ∧ j2 < mm_l M b ∧ ∃ j6 : Nat, (y3 + 2) = nI j6 ∧ j6 < 2147483648 ∧ j6 < mm_l M b ∧ ∃ j10 : Nat, (y3 + 3) = nI j10 ∧ j10 < 2147483648 ∧ j10 < mm_l M b ∧ ∃ j14 : Nat, (y3 + 4) = nI j14 ∧ j14 < 2147483648 ∧ j14 < mm_l M b ∧ mm_k M x = 1 ∧ mm_Ok l G yy_PH_store Y_PH_store [.inr (some x), .inl (mm_i M b j2), .inl (mm_i M b j6), .inl (mm_i M b j10), .inl (mm_i M b j14)] M (fun r M18 => mm_X M M18 → ∃ x21 : Int32, r = some (.inl x21) ∧ ∃ j22 : Nat, (y3 + 1) = nI j22 ∧ j22 < 2147483648 ∧ j22 < mm_l M18 b ∧ ∃ j26 : Nat, (y3 + 2) = nI j26 ∧ j26 < 2147483648 ∧ j26 < mm_l M18 b ∧ ∃ j30 : Nat, (y3 + 3) = nI j30 ∧ j30 < 2147483648 ∧ j30 < mm_l M18 b ∧ ∃ j34 : Nat, (y3 + 4) = nI j34 ∧ j34 < 2147483648 ∧ j34 < mm_l M18 b ∧ mm_k M18 m = 9 ∧ mm_Ok l G yy_Mo_store Y_Mo_store [.inr (some m), .inl (mm_i M18 b j22), .inl (mm_i M18 b j26), .inl (mm_i M18 b j30), .inl (mm_i M18 b j34)] M18 (fun r M38 => mm_X M18 M38 → ∃ x41 : Int32, r = some (.inl x41) ∧ (x21 = x41 → mm_Zq l G Y_La_law (lx_E G b) lx_Qf M0 bc bs 828 [some (.inr (some b)), some (.inr (some x)), some (.inr (some m)), some (.inl y3)] [] M38) ∧ (¬ x21 = x41 → False)))) :
    mm_Zq l G Y_La_law (lx_E G b) lx_Qf M0 bc bs 320 [some (.inr (some b)), some (.inr (some x)), some (.inr (some m)), some (.inl y3)] [] M := by
  refine mr_aload_n dd_La_law_320 rfl ?_
  refine mr_aload_n dd_La_law_321 rfl ?_
  refine mr_iload_n dd_La_law_322 rfl ?_
  refine mr_iconst 1 dd_La_law_323 (by decide) ?_
  refine mr_iadd dd_La_law_324 ?_
  obtain ⟨hk1, h⟩ := h
  obtain ⟨j2, hj3, hm4, hl5, h⟩ := h
  refine mr_ialds dd_La_law_325 rfl hk1 hj3 hm4 hl5 ?_
  refine mr_aload_n dd_La_law_326 rfl ?_
  refine mr_iload_n dd_La_law_327 rfl ?_
  refine mr_iconst 2 dd_La_law_328 (by decide) ?_
  refine mr_iadd dd_La_law_329 ?_
  obtain ⟨j6, hj7, hm8, hl9, h⟩ := h
  refine mr_ialds dd_La_law_330 rfl hk1 hj7 hm8 hl9 ?_
  refine mr_aload_n dd_La_law_331 rfl ?_
  refine mr_iload_n dd_La_law_332 rfl ?_
  refine mr_iconst 3 dd_La_law_333 (by decide) ?_
  refine mr_iadd dd_La_law_334 ?_
  obtain ⟨j10, hj11, hm12, hl13, h⟩ := h
  refine mr_ialds dd_La_law_335 rfl hk1 hj11 hm12 hl13 ?_
  refine mr_aload_n dd_La_law_336 rfl ?_
  refine mr_iload_n dd_La_law_337 rfl ?_
  refine mr_iconst 4 dd_La_law_338 (by decide) ?_
  refine mr_iadd dd_La_law_339 ?_
  obtain ⟨j14, hj15, hm16, hl17, h⟩ := h
  refine mr_ialds dd_La_law_340 rfl hk1 hj15 hm16 hl17 ?_
  obtain ⟨hk20, h⟩ := h
  refine mr_callV0 (Yc := Y_PH_store) (M := M) (st := []) (vs := [.inl (mm_i M b j2), .inl (mm_i M b j6), .inl (mm_i M b j10), .inl (mm_i M b j14)]) (ci := 0) fc_La_41 iv_PH_store sv_PH_store dd_La_law_341 ⟨Nat.le_of_ble_eq_true rfl, Nat.le_of_ble_eq_true rfl⟩ (by decide) rfl rfl (Nat.le_of_ble_eq_true rfl) rfl hk20 rfl rfl h (fun r M18 hX19 h => ?_)
  replace h := h hX19
  obtain ⟨x21, rfl, h⟩ := h
  show mm_Zq l G Y_La_law (lx_E G b) lx_Qf M0 bc bs 344 [some (.inr (some b)), some (.inr (some x)), some (.inr (some m)), some (.inl y3)] [.inl x21] M18
  refine mr_aload_n dd_La_law_344 rfl ?_
  refine mr_aload_n dd_La_law_345 rfl ?_
  refine mr_iload_n dd_La_law_346 rfl ?_
  refine mr_iconst 1 dd_La_law_347 (by decide) ?_
  refine mr_iadd dd_La_law_348 ?_
  obtain ⟨j22, hj23, hm24, hl25, h⟩ := h
  refine mr_ialds dd_La_law_349 rfl (mm_Xk hX19 hk1 (by decide)) hj23 hm24 hl25 ?_
  refine mr_aload_n dd_La_law_350 rfl ?_
  refine mr_iload_n dd_La_law_351 rfl ?_
  refine mr_iconst 2 dd_La_law_352 (by decide) ?_
  refine mr_iadd dd_La_law_353 ?_
  obtain ⟨j26, hj27, hm28, hl29, h⟩ := h
  refine mr_ialds dd_La_law_354 rfl (mm_Xk hX19 hk1 (by decide)) hj27 hm28 hl29 ?_
  refine mr_aload_n dd_La_law_355 rfl ?_
  refine mr_iload_n dd_La_law_356 rfl ?_
  refine mr_iconst 3 dd_La_law_357 (by decide) ?_
  refine mr_iadd dd_La_law_358 ?_
  obtain ⟨j30, hj31, hm32, hl33, h⟩ := h
  refine mr_ialds dd_La_law_359 rfl (mm_Xk hX19 hk1 (by decide)) hj31 hm32 hl33 ?_
  refine mr_aload_n dd_La_law_360 rfl ?_
  refine mr_iload_n dd_La_law_361 rfl ?_
  refine mr_iconst 4 dd_La_law_362 (by decide) ?_
  refine mr_iadd dd_La_law_363 ?_
  obtain ⟨j34, hj35, hm36, hl37, h⟩ := h
  refine mr_ialds dd_La_law_364 rfl (mm_Xk hX19 hk1 (by decide)) hj35 hm36 hl37 ?_
  obtain ⟨hk40, h⟩ := h
  refine mr_callV0 (Yc := Y_Mo_store) (M := M18) (st := [.inl x21]) (vs := [.inl (mm_i M18 b j22), .inl (mm_i M18 b j26), .inl (mm_i M18 b j30), .inl (mm_i M18 b j34)]) (ci := 8) fc_La_44 iv_Mo_store sv_Mo_store dd_La_law_365 ⟨Nat.le_of_ble_eq_true rfl, Nat.le_of_ble_eq_true rfl⟩ (by decide) rfl rfl (Nat.le_of_ble_eq_true rfl) rfl hk40 rfl rfl h (fun r M38 hX39 h => ?_)
  replace h := h hX39
  obtain ⟨x41, rfl, h⟩ := h
  show mm_Zq l G Y_La_law (lx_E G b) lx_Qf M0 bc bs 368 [some (.inr (some b)), some (.inr (some x)), some (.inr (some m)), some (.inl y3)] [.inl x41, .inl x21] M38
  refine mr_icmp_eq 828 dd_La_law_368 (by decide) (fun hc368 => ?_) (fun hc368 => ?_)
  · have h := h.1 hc368
    exact h
  · have h := h.2 hc368
    refine mr_iconst 0 dd_La_law_371 (by decide) ?_
    exact h.elim
set_option maxHeartbeats 4000000 in
set_option maxRecDepth 100000 in
theorem sg_La_law_373 {l : Launch} {G : mm_G} {M0 M : mm_M} {bc bs : Nat} {b : Nat} {x : Nat} {m : Nat} {y3 : Int32}
    (h : mm_k M b = 106 ∧ ∃ j2 : Nat, (y3 + 1) = nI j2 ∧ j2 < 2147483648 ∧ j2 < mm_l M b ∧ ∃ j6 : Nat, (y3 + 2) = nI j6 ∧ j6 < 2147483648 ∧ j6 < mm_l M b ∧ ∃ j10 : Nat, (y3 + 3) = nI j10 ∧ j10 < 2147483648 ∧ j10 < mm_l M b ∧ ∃ j14 : Nat, (y3 + 4) = nI j14 ∧ j14 < 2147483648 ∧ j14 < mm_l M b ∧ mm_k M x = 1 ∧ mm_Ok l G yy_PH_load Y_PH_load [.inr (some x), .inl (mm_i M b j2), .inl (mm_i M b j6), .inl (mm_i M b j10), .inl (mm_i M b j14)] M (fun r M18 => mm_X M M18 → ∃ x21 : Int32, r = some (.inl x21) ∧ ∃ j22 : Nat, (y3 + 1) = nI j22 ∧ j22 < 2147483648 ∧ j22 < mm_l M18 b ∧ ∃ j26 : Nat, (y3 + 2) = nI j26 ∧ j26 < 2147483648 ∧ j26 < mm_l M18 b ∧ ∃ j30 : Nat, (y3 + 3) = nI j30 ∧ j30 < 2147483648 ∧ j30 < mm_l M18 b ∧ ∃ j34 : Nat, (y3 + 4) = nI j34 ∧ j34 < 2147483648 ∧ j34 < mm_l M18 b ∧ mm_k M18 m = 9 ∧ mm_Ok l G yy_Mo_load Y_Mo_load [.inr (some m), .inl (mm_i M18 b j22), .inl (mm_i M18 b j26), .inl (mm_i M18 b j30), .inl (mm_i M18 b j34)] M18 (fun r M38 => mm_X M18 M38 → ∃ x41 : Int32, r = some (.inl x41) ∧ (x21 = x41 → mm_Zq l G Y_La_law (lx_E G b) lx_Qf M0 bc bs 828 [some (.inr (some b)), some (.inr (some x)), some (.inr (some m)), some (.inl y3)] [] M38) ∧ (¬ x21 = x41 → False)))) :
    mm_Zq l G Y_La_law (lx_E G b) lx_Qf M0 bc bs 373 [some (.inr (some b)), some (.inr (some x)), some (.inr (some m)), some (.inl y3)] [] M := by
  refine mr_aload_n dd_La_law_373 rfl ?_
  refine mr_aload_n dd_La_law_374 rfl ?_
  refine mr_iload_n dd_La_law_375 rfl ?_
  refine mr_iconst 1 dd_La_law_376 (by decide) ?_
  refine mr_iadd dd_La_law_377 ?_
  obtain ⟨hk1, h⟩ := h
  obtain ⟨j2, hj3, hm4, hl5, h⟩ := h
  refine mr_ialds dd_La_law_378 rfl hk1 hj3 hm4 hl5 ?_
  refine mr_aload_n dd_La_law_379 rfl ?_
  refine mr_iload_n dd_La_law_380 rfl ?_
  refine mr_iconst 2 dd_La_law_381 (by decide) ?_
  refine mr_iadd dd_La_law_382 ?_
  obtain ⟨j6, hj7, hm8, hl9, h⟩ := h
  refine mr_ialds dd_La_law_383 rfl hk1 hj7 hm8 hl9 ?_
  refine mr_aload_n dd_La_law_384 rfl ?_
  refine mr_iload_n dd_La_law_385 rfl ?_
  refine mr_iconst 3 dd_La_law_386 (by decide) ?_
  refine mr_iadd dd_La_law_387 ?_
  obtain ⟨j10, hj11, hm12, hl13, h⟩ := h
  refine mr_ialds dd_La_law_388 rfl hk1 hj11 hm12 hl13 ?_
  refine mr_aload_n dd_La_law_389 rfl ?_
  refine mr_iload_n dd_La_law_390 rfl ?_
  refine mr_iconst 4 dd_La_law_391 (by decide) ?_
  refine mr_iadd dd_La_law_392 ?_
  obtain ⟨j14, hj15, hm16, hl17, h⟩ := h
  refine mr_ialds dd_La_law_393 rfl hk1 hj15 hm16 hl17 ?_
  obtain ⟨hk20, h⟩ := h
  refine mr_callV0 (Yc := Y_PH_load) (M := M) (st := []) (vs := [.inl (mm_i M b j2), .inl (mm_i M b j6), .inl (mm_i M b j10), .inl (mm_i M b j14)]) (ci := 0) fc_La_45 iv_PH_load sv_PH_load dd_La_law_394 ⟨Nat.le_of_ble_eq_true rfl, Nat.le_of_ble_eq_true rfl⟩ (by decide) rfl rfl (Nat.le_of_ble_eq_true rfl) rfl hk20 rfl rfl h (fun r M18 hX19 h => ?_)
  replace h := h hX19
  obtain ⟨x21, rfl, h⟩ := h
  show mm_Zq l G Y_La_law (lx_E G b) lx_Qf M0 bc bs 397 [some (.inr (some b)), some (.inr (some x)), some (.inr (some m)), some (.inl y3)] [.inl x21] M18
  refine mr_aload_n dd_La_law_397 rfl ?_
  refine mr_aload_n dd_La_law_398 rfl ?_
  refine mr_iload_n dd_La_law_399 rfl ?_
  refine mr_iconst 1 dd_La_law_400 (by decide) ?_
  refine mr_iadd dd_La_law_401 ?_
  obtain ⟨j22, hj23, hm24, hl25, h⟩ := h
  refine mr_ialds dd_La_law_402 rfl (mm_Xk hX19 hk1 (by decide)) hj23 hm24 hl25 ?_
  refine mr_aload_n dd_La_law_403 rfl ?_
  refine mr_iload_n dd_La_law_404 rfl ?_
  refine mr_iconst 2 dd_La_law_405 (by decide) ?_
  refine mr_iadd dd_La_law_406 ?_
  obtain ⟨j26, hj27, hm28, hl29, h⟩ := h
  refine mr_ialds dd_La_law_407 rfl (mm_Xk hX19 hk1 (by decide)) hj27 hm28 hl29 ?_
  refine mr_aload_n dd_La_law_408 rfl ?_
  refine mr_iload_n dd_La_law_409 rfl ?_
  refine mr_iconst 3 dd_La_law_410 (by decide) ?_
  refine mr_iadd dd_La_law_411 ?_
  obtain ⟨j30, hj31, hm32, hl33, h⟩ := h
  refine mr_ialds dd_La_law_412 rfl (mm_Xk hX19 hk1 (by decide)) hj31 hm32 hl33 ?_
  refine mr_aload_n dd_La_law_413 rfl ?_
  refine mr_iload_n dd_La_law_414 rfl ?_
  refine mr_iconst 4 dd_La_law_415 (by decide) ?_
  refine mr_iadd dd_La_law_416 ?_
  obtain ⟨j34, hj35, hm36, hl37, h⟩ := h
  refine mr_ialds dd_La_law_417 rfl (mm_Xk hX19 hk1 (by decide)) hj35 hm36 hl37 ?_
  obtain ⟨hk40, h⟩ := h
  refine mr_callV0 (Yc := Y_Mo_load) (M := M18) (st := [.inl x21]) (vs := [.inl (mm_i M18 b j22), .inl (mm_i M18 b j26), .inl (mm_i M18 b j30), .inl (mm_i M18 b j34)]) (ci := 8) fc_La_48 iv_Mo_load sv_Mo_load dd_La_law_418 ⟨Nat.le_of_ble_eq_true rfl, Nat.le_of_ble_eq_true rfl⟩ (by decide) rfl rfl (Nat.le_of_ble_eq_true rfl) rfl hk40 rfl rfl h (fun r M38 hX39 h => ?_)
  replace h := h hX39
  obtain ⟨x41, rfl, h⟩ := h
  show mm_Zq l G Y_La_law (lx_E G b) lx_Qf M0 bc bs 421 [some (.inr (some b)), some (.inr (some x)), some (.inr (some m)), some (.inl y3)] [.inl x41, .inl x21] M38
  refine mr_icmp_eq 828 dd_La_law_421 (by decide) (fun hc421 => ?_) (fun hc421 => ?_)
  · have h := h.1 hc421
    exact h
  · have h := h.2 hc421
    refine mr_iconst 0 dd_La_law_424 (by decide) ?_
    exact h.elim
set_option maxHeartbeats 4000000 in
set_option maxRecDepth 100000 in
theorem sg_La_law_426 {l : Launch} {G : mm_G} {M0 M : mm_M} {bc bs : Nat} {b : Nat} {x : Nat} {m : Nat} {y3 : Int32}
    (h : mm_k M b = 106 ∧ ∃ j2 : Nat, (y3 + 1) = nI j2 ∧ j2 < 2147483648 ∧ j2 < mm_l M b ∧ ∃ j6 : Nat, (y3 + 2) = nI j6 ∧ j6 < 2147483648 ∧ j6 < mm_l M b ∧ ∃ j10 : Nat, (y3 + 3) = nI j10 ∧ j10 < 2147483648 ∧ j10 < mm_l M b ∧ mm_k M x = 1 ∧ mm_Ok l G yy_PH_move Y_PH_move [.inr (some x), .inl (mm_i M b j2), .inl (mm_i M b j6), .inl (mm_i M b j10)] M (fun r M14 => mm_X M M14 → ∃ x17 : Int32, r = some (.inl x17) ∧ ∃ j18 : Nat, (y3 + 1) = nI j18 ∧ j18 < 2147483648 ∧ j18 < mm_l M14 b ∧ ∃ j22 : Nat, (y3 + 2) = nI j22 ∧ j22 < 2147483648 ∧ j22 < mm_l M14 b ∧ ∃ j26 : Nat, (y3 + 3) = nI j26 ∧ j26 < 2147483648 ∧ j26 < mm_l M14 b ∧ mm_k M14 m = 9 ∧ mm_Ok l G yy_Mo_move Y_Mo_move [.inr (some m), .inl (mm_i M14 b j18), .inl (mm_i M14 b j22), .inl (mm_i M14 b j26)] M14 (fun r M30 => mm_X M14 M30 → ∃ x33 : Int32, r = some (.inl x33) ∧ (x17 = x33 → mm_Zq l G Y_La_law (lx_E G b) lx_Qf M0 bc bs 828 [some (.inr (some b)), some (.inr (some x)), some (.inr (some m)), some (.inl y3)] [] M30) ∧ (¬ x17 = x33 → False)))) :
    mm_Zq l G Y_La_law (lx_E G b) lx_Qf M0 bc bs 426 [some (.inr (some b)), some (.inr (some x)), some (.inr (some m)), some (.inl y3)] [] M := by
  refine mr_aload_n dd_La_law_426 rfl ?_
  refine mr_aload_n dd_La_law_427 rfl ?_
  refine mr_iload_n dd_La_law_428 rfl ?_
  refine mr_iconst 1 dd_La_law_429 (by decide) ?_
  refine mr_iadd dd_La_law_430 ?_
  obtain ⟨hk1, h⟩ := h
  obtain ⟨j2, hj3, hm4, hl5, h⟩ := h
  refine mr_ialds dd_La_law_431 rfl hk1 hj3 hm4 hl5 ?_
  refine mr_aload_n dd_La_law_432 rfl ?_
  refine mr_iload_n dd_La_law_433 rfl ?_
  refine mr_iconst 2 dd_La_law_434 (by decide) ?_
  refine mr_iadd dd_La_law_435 ?_
  obtain ⟨j6, hj7, hm8, hl9, h⟩ := h
  refine mr_ialds dd_La_law_436 rfl hk1 hj7 hm8 hl9 ?_
  refine mr_aload_n dd_La_law_437 rfl ?_
  refine mr_iload_n dd_La_law_438 rfl ?_
  refine mr_iconst 3 dd_La_law_439 (by decide) ?_
  refine mr_iadd dd_La_law_440 ?_
  obtain ⟨j10, hj11, hm12, hl13, h⟩ := h
  refine mr_ialds dd_La_law_441 rfl hk1 hj11 hm12 hl13 ?_
  obtain ⟨hk16, h⟩ := h
  refine mr_callV0 (Yc := Y_PH_move) (M := M) (st := []) (vs := [.inl (mm_i M b j2), .inl (mm_i M b j6), .inl (mm_i M b j10)]) (ci := 0) fc_La_49 iv_PH_move sv_PH_move dd_La_law_442 ⟨Nat.le_of_ble_eq_true rfl, Nat.le_of_ble_eq_true rfl⟩ (by decide) rfl rfl (Nat.le_of_ble_eq_true rfl) rfl hk16 rfl rfl h (fun r M14 hX15 h => ?_)
  replace h := h hX15
  obtain ⟨x17, rfl, h⟩ := h
  show mm_Zq l G Y_La_law (lx_E G b) lx_Qf M0 bc bs 445 [some (.inr (some b)), some (.inr (some x)), some (.inr (some m)), some (.inl y3)] [.inl x17] M14
  refine mr_aload_n dd_La_law_445 rfl ?_
  refine mr_aload_n dd_La_law_446 rfl ?_
  refine mr_iload_n dd_La_law_447 rfl ?_
  refine mr_iconst 1 dd_La_law_448 (by decide) ?_
  refine mr_iadd dd_La_law_449 ?_
  obtain ⟨j18, hj19, hm20, hl21, h⟩ := h
  refine mr_ialds dd_La_law_450 rfl (mm_Xk hX15 hk1 (by decide)) hj19 hm20 hl21 ?_
  refine mr_aload_n dd_La_law_451 rfl ?_
  refine mr_iload_n dd_La_law_452 rfl ?_
  refine mr_iconst 2 dd_La_law_453 (by decide) ?_
  refine mr_iadd dd_La_law_454 ?_
  obtain ⟨j22, hj23, hm24, hl25, h⟩ := h
  refine mr_ialds dd_La_law_455 rfl (mm_Xk hX15 hk1 (by decide)) hj23 hm24 hl25 ?_
  refine mr_aload_n dd_La_law_456 rfl ?_
  refine mr_iload_n dd_La_law_457 rfl ?_
  refine mr_iconst 3 dd_La_law_458 (by decide) ?_
  refine mr_iadd dd_La_law_459 ?_
  obtain ⟨j26, hj27, hm28, hl29, h⟩ := h
  refine mr_ialds dd_La_law_460 rfl (mm_Xk hX15 hk1 (by decide)) hj27 hm28 hl29 ?_
  obtain ⟨hk32, h⟩ := h
  refine mr_callV0 (Yc := Y_Mo_move) (M := M14) (st := [.inl x17]) (vs := [.inl (mm_i M14 b j18), .inl (mm_i M14 b j22), .inl (mm_i M14 b j26)]) (ci := 8) fc_La_53 iv_Mo_move sv_Mo_move dd_La_law_461 ⟨Nat.le_of_ble_eq_true rfl, Nat.le_of_ble_eq_true rfl⟩ (by decide) rfl rfl (Nat.le_of_ble_eq_true rfl) rfl hk32 rfl rfl h (fun r M30 hX31 h => ?_)
  replace h := h hX31
  obtain ⟨x33, rfl, h⟩ := h
  show mm_Zq l G Y_La_law (lx_E G b) lx_Qf M0 bc bs 464 [some (.inr (some b)), some (.inr (some x)), some (.inr (some m)), some (.inl y3)] [.inl x33, .inl x17] M30
  refine mr_icmp_eq 828 dd_La_law_464 (by decide) (fun hc464 => ?_) (fun hc464 => ?_)
  · have h := h.1 hc464
    exact h
  · have h := h.2 hc464
    refine mr_iconst 0 dd_La_law_467 (by decide) ?_
    exact h.elim
set_option maxHeartbeats 4000000 in
set_option maxRecDepth 100000 in
theorem sg_La_law_469 {l : Launch} {G : mm_G} {M0 M : mm_M} {bc bs : Nat} {b : Nat} {x : Nat} {m : Nat} {y3 : Int32}
    (h : mm_k M b = 106 ∧ ∃ j2 : Nat, (y3 + 1) = nI j2 ∧ j2 < 2147483648 ∧ j2 < mm_l M b ∧ mm_k M x = 1 ∧ mm_Ok l G yy_PH_begin Y_PH_begin [.inr (some x), .inl (mm_i M b j2)] M (fun r M6 => mm_X M M6 → ∃ x9 : Int32, r = some (.inl x9) ∧ ∃ j10 : Nat, (y3 + 1) = nI j10 ∧ j10 < 2147483648 ∧ j10 < mm_l M6 b ∧ mm_k M6 m = 9 ∧ mm_Ok l G yy_Mo_begin Y_Mo_begin [.inr (some m), .inl (mm_i M6 b j10)] M6 (fun r M14 => mm_X M6 M14 → ∃ x17 : Int32, r = some (.inl x17) ∧ (x9 = x17 → mm_Zq l G Y_La_law (lx_E G b) lx_Qf M0 bc bs 828 [some (.inr (some b)), some (.inr (some x)), some (.inr (some m)), some (.inl y3)] [] M14) ∧ (¬ x9 = x17 → False)))) :
    mm_Zq l G Y_La_law (lx_E G b) lx_Qf M0 bc bs 469 [some (.inr (some b)), some (.inr (some x)), some (.inr (some m)), some (.inl y3)] [] M := by
  refine mr_aload_n dd_La_law_469 rfl ?_
  refine mr_aload_n dd_La_law_470 rfl ?_
  refine mr_iload_n dd_La_law_471 rfl ?_
  refine mr_iconst 1 dd_La_law_472 (by decide) ?_
  refine mr_iadd dd_La_law_473 ?_
  obtain ⟨hk1, h⟩ := h
  obtain ⟨j2, hj3, hm4, hl5, h⟩ := h
  refine mr_ialds dd_La_law_474 rfl hk1 hj3 hm4 hl5 ?_
  obtain ⟨hk8, h⟩ := h
  refine mr_callV0 (Yc := Y_PH_begin) (M := M) (st := []) (vs := [.inl (mm_i M b j2)]) (ci := 0) fc_La_54 iv_PH_begin sv_PH_begin dd_La_law_475 ⟨Nat.le_of_ble_eq_true rfl, Nat.le_of_ble_eq_true rfl⟩ (by decide) rfl rfl (Nat.le_of_ble_eq_true rfl) rfl hk8 rfl rfl h (fun r M6 hX7 h => ?_)
  replace h := h hX7
  obtain ⟨x9, rfl, h⟩ := h
  show mm_Zq l G Y_La_law (lx_E G b) lx_Qf M0 bc bs 478 [some (.inr (some b)), some (.inr (some x)), some (.inr (some m)), some (.inl y3)] [.inl x9] M6
  refine mr_aload_n dd_La_law_478 rfl ?_
  refine mr_aload_n dd_La_law_479 rfl ?_
  refine mr_iload_n dd_La_law_480 rfl ?_
  refine mr_iconst 1 dd_La_law_481 (by decide) ?_
  refine mr_iadd dd_La_law_482 ?_
  obtain ⟨j10, hj11, hm12, hl13, h⟩ := h
  refine mr_ialds dd_La_law_483 rfl (mm_Xk hX7 hk1 (by decide)) hj11 hm12 hl13 ?_
  obtain ⟨hk16, h⟩ := h
  refine mr_callV0 (Yc := Y_Mo_begin) (M := M6) (st := [.inl x9]) (vs := [.inl (mm_i M6 b j10)]) (ci := 8) fc_La_58 iv_Mo_begin sv_Mo_begin dd_La_law_484 ⟨Nat.le_of_ble_eq_true rfl, Nat.le_of_ble_eq_true rfl⟩ (by decide) rfl rfl (Nat.le_of_ble_eq_true rfl) rfl hk16 rfl rfl h (fun r M14 hX15 h => ?_)
  replace h := h hX15
  obtain ⟨x17, rfl, h⟩ := h
  show mm_Zq l G Y_La_law (lx_E G b) lx_Qf M0 bc bs 487 [some (.inr (some b)), some (.inr (some x)), some (.inr (some m)), some (.inl y3)] [.inl x17, .inl x9] M14
  refine mr_icmp_eq 828 dd_La_law_487 (by decide) (fun hc487 => ?_) (fun hc487 => ?_)
  · have h := h.1 hc487
    exact h
  · have h := h.2 hc487
    refine mr_iconst 0 dd_La_law_490 (by decide) ?_
    exact h.elim
set_option maxHeartbeats 4000000 in
set_option maxRecDepth 100000 in
theorem sg_La_law_492 {l : Launch} {G : mm_G} {M0 M : mm_M} {bc bs : Nat} {b : Nat} {x : Nat} {m : Nat} {y3 : Int32}
    (h : mm_k M b = 106 ∧ ∃ j2 : Nat, (y3 + 1) = nI j2 ∧ j2 < 2147483648 ∧ j2 < mm_l M b ∧ ∃ j6 : Nat, (y3 + 2) = nI j6 ∧ j6 < 2147483648 ∧ j6 < mm_l M b ∧ mm_k M x = 1 ∧ mm_Ok l G yy_PH_freeze Y_PH_freeze [.inr (some x), .inl (mm_i M b j2), .inl (mm_i M b j6)] M (fun r M10 => mm_X M M10 → ∃ x13 : Int32, r = some (.inl x13) ∧ ∃ j14 : Nat, (y3 + 1) = nI j14 ∧ j14 < 2147483648 ∧ j14 < mm_l M10 b ∧ ∃ j18 : Nat, (y3 + 2) = nI j18 ∧ j18 < 2147483648 ∧ j18 < mm_l M10 b ∧ mm_k M10 m = 9 ∧ mm_Ok l G yy_Mo_freeze Y_Mo_freeze [.inr (some m), .inl (mm_i M10 b j14), .inl (mm_i M10 b j18)] M10 (fun r M22 => mm_X M10 M22 → ∃ x25 : Int32, r = some (.inl x25) ∧ (x13 = x25 → mm_Zq l G Y_La_law (lx_E G b) lx_Qf M0 bc bs 828 [some (.inr (some b)), some (.inr (some x)), some (.inr (some m)), some (.inl y3)] [] M22) ∧ (¬ x13 = x25 → False)))) :
    mm_Zq l G Y_La_law (lx_E G b) lx_Qf M0 bc bs 492 [some (.inr (some b)), some (.inr (some x)), some (.inr (some m)), some (.inl y3)] [] M := by
  refine mr_aload_n dd_La_law_492 rfl ?_
  refine mr_aload_n dd_La_law_493 rfl ?_
  refine mr_iload_n dd_La_law_494 rfl ?_
  refine mr_iconst 1 dd_La_law_495 (by decide) ?_
  refine mr_iadd dd_La_law_496 ?_
  obtain ⟨hk1, h⟩ := h
  obtain ⟨j2, hj3, hm4, hl5, h⟩ := h
  refine mr_ialds dd_La_law_497 rfl hk1 hj3 hm4 hl5 ?_
  refine mr_aload_n dd_La_law_498 rfl ?_
  refine mr_iload_n dd_La_law_499 rfl ?_
  refine mr_iconst 2 dd_La_law_500 (by decide) ?_
  refine mr_iadd dd_La_law_501 ?_
  obtain ⟨j6, hj7, hm8, hl9, h⟩ := h
  refine mr_ialds dd_La_law_502 rfl hk1 hj7 hm8 hl9 ?_
  obtain ⟨hk12, h⟩ := h
  refine mr_callV0 (Yc := Y_PH_freeze) (M := M) (st := []) (vs := [.inl (mm_i M b j2), .inl (mm_i M b j6)]) (ci := 0) fc_La_59 iv_PH_freeze sv_PH_freeze dd_La_law_503 ⟨Nat.le_of_ble_eq_true rfl, Nat.le_of_ble_eq_true rfl⟩ (by decide) rfl rfl (Nat.le_of_ble_eq_true rfl) rfl hk12 rfl rfl h (fun r M10 hX11 h => ?_)
  replace h := h hX11
  obtain ⟨x13, rfl, h⟩ := h
  show mm_Zq l G Y_La_law (lx_E G b) lx_Qf M0 bc bs 506 [some (.inr (some b)), some (.inr (some x)), some (.inr (some m)), some (.inl y3)] [.inl x13] M10
  refine mr_aload_n dd_La_law_506 rfl ?_
  refine mr_aload_n dd_La_law_507 rfl ?_
  refine mr_iload_n dd_La_law_508 rfl ?_
  refine mr_iconst 1 dd_La_law_509 (by decide) ?_
  refine mr_iadd dd_La_law_510 ?_
  obtain ⟨j14, hj15, hm16, hl17, h⟩ := h
  refine mr_ialds dd_La_law_511 rfl (mm_Xk hX11 hk1 (by decide)) hj15 hm16 hl17 ?_
  refine mr_aload_n dd_La_law_512 rfl ?_
  refine mr_iload_n dd_La_law_513 rfl ?_
  refine mr_iconst 2 dd_La_law_514 (by decide) ?_
  refine mr_iadd dd_La_law_515 ?_
  obtain ⟨j18, hj19, hm20, hl21, h⟩ := h
  refine mr_ialds dd_La_law_516 rfl (mm_Xk hX11 hk1 (by decide)) hj19 hm20 hl21 ?_
  obtain ⟨hk24, h⟩ := h
  refine mr_callV0 (Yc := Y_Mo_freeze) (M := M10) (st := [.inl x13]) (vs := [.inl (mm_i M10 b j14), .inl (mm_i M10 b j18)]) (ci := 8) fc_La_63 iv_Mo_freeze sv_Mo_freeze dd_La_law_517 ⟨Nat.le_of_ble_eq_true rfl, Nat.le_of_ble_eq_true rfl⟩ (by decide) rfl rfl (Nat.le_of_ble_eq_true rfl) rfl hk24 rfl rfl h (fun r M22 hX23 h => ?_)
  replace h := h hX23
  obtain ⟨x25, rfl, h⟩ := h
  show mm_Zq l G Y_La_law (lx_E G b) lx_Qf M0 bc bs 520 [some (.inr (some b)), some (.inr (some x)), some (.inr (some m)), some (.inl y3)] [.inl x25, .inl x13] M22
  refine mr_icmp_eq 828 dd_La_law_520 (by decide) (fun hc520 => ?_) (fun hc520 => ?_)
  · have h := h.1 hc520
    exact h
  · have h := h.2 hc520
    refine mr_iconst 0 dd_La_law_523 (by decide) ?_
    exact h.elim
set_option maxHeartbeats 4000000 in
set_option maxRecDepth 100000 in
theorem sg_La_law_525 {l : Launch} {G : mm_G} {M0 M : mm_M} {bc bs : Nat} {b : Nat} {x : Nat} {m : Nat} {y3 : Int32}
    (h : mm_k M b = 106 ∧ ∃ j2 : Nat, (y3 + 1) = nI j2 ∧ j2 < 2147483648 ∧ j2 < mm_l M b ∧ ∃ j6 : Nat, (y3 + 2) = nI j6 ∧ j6 < 2147483648 ∧ j6 < mm_l M b ∧ ∃ j10 : Nat, (y3 + 3) = nI j10 ∧ j10 < 2147483648 ∧ j10 < mm_l M b ∧ mm_k M x = 1 ∧ mm_Ok l G yy_PH_lookup Y_PH_lookup [.inr (some x), .inl (mm_i M b j2), .inl (mm_i M b j6), .inl (mm_i M b j10)] M (fun r M14 => mm_X M M14 → ∃ x17 : Int32, r = some (.inl x17) ∧ ∃ j18 : Nat, (y3 + 1) = nI j18 ∧ j18 < 2147483648 ∧ j18 < mm_l M14 b ∧ ∃ j22 : Nat, (y3 + 2) = nI j22 ∧ j22 < 2147483648 ∧ j22 < mm_l M14 b ∧ ∃ j26 : Nat, (y3 + 3) = nI j26 ∧ j26 < 2147483648 ∧ j26 < mm_l M14 b ∧ mm_k M14 m = 9 ∧ mm_Ok l G yy_Mo_lookup Y_Mo_lookup [.inr (some m), .inl (mm_i M14 b j18), .inl (mm_i M14 b j22), .inl (mm_i M14 b j26)] M14 (fun r M30 => mm_X M14 M30 → ∃ x33 : Int32, r = some (.inl x33) ∧ (x17 = x33 → mm_Zq l G Y_La_law (lx_E G b) lx_Qf M0 bc bs 828 [some (.inr (some b)), some (.inr (some x)), some (.inr (some m)), some (.inl y3)] [] M30) ∧ (¬ x17 = x33 → False)))) :
    mm_Zq l G Y_La_law (lx_E G b) lx_Qf M0 bc bs 525 [some (.inr (some b)), some (.inr (some x)), some (.inr (some m)), some (.inl y3)] [] M := by
  refine mr_aload_n dd_La_law_525 rfl ?_
  refine mr_aload_n dd_La_law_526 rfl ?_
  refine mr_iload_n dd_La_law_527 rfl ?_
  refine mr_iconst 1 dd_La_law_528 (by decide) ?_
  refine mr_iadd dd_La_law_529 ?_
  obtain ⟨hk1, h⟩ := h
  obtain ⟨j2, hj3, hm4, hl5, h⟩ := h
  refine mr_ialds dd_La_law_530 rfl hk1 hj3 hm4 hl5 ?_
  refine mr_aload_n dd_La_law_531 rfl ?_
  refine mr_iload_n dd_La_law_532 rfl ?_
  refine mr_iconst 2 dd_La_law_533 (by decide) ?_
  refine mr_iadd dd_La_law_534 ?_
  obtain ⟨j6, hj7, hm8, hl9, h⟩ := h
  refine mr_ialds dd_La_law_535 rfl hk1 hj7 hm8 hl9 ?_
  refine mr_aload_n dd_La_law_536 rfl ?_
  refine mr_iload_n dd_La_law_537 rfl ?_
  refine mr_iconst 3 dd_La_law_538 (by decide) ?_
  refine mr_iadd dd_La_law_539 ?_
  obtain ⟨j10, hj11, hm12, hl13, h⟩ := h
  refine mr_ialds dd_La_law_540 rfl hk1 hj11 hm12 hl13 ?_
  obtain ⟨hk16, h⟩ := h
  refine mr_callV0 (Yc := Y_PH_lookup) (M := M) (st := []) (vs := [.inl (mm_i M b j2), .inl (mm_i M b j6), .inl (mm_i M b j10)]) (ci := 0) fc_La_64 iv_PH_lookup sv_PH_lookup dd_La_law_541 ⟨Nat.le_of_ble_eq_true rfl, Nat.le_of_ble_eq_true rfl⟩ (by decide) rfl rfl (Nat.le_of_ble_eq_true rfl) rfl hk16 rfl rfl h (fun r M14 hX15 h => ?_)
  replace h := h hX15
  obtain ⟨x17, rfl, h⟩ := h
  show mm_Zq l G Y_La_law (lx_E G b) lx_Qf M0 bc bs 544 [some (.inr (some b)), some (.inr (some x)), some (.inr (some m)), some (.inl y3)] [.inl x17] M14
  refine mr_aload_n dd_La_law_544 rfl ?_
  refine mr_aload_n dd_La_law_545 rfl ?_
  refine mr_iload_n dd_La_law_546 rfl ?_
  refine mr_iconst 1 dd_La_law_547 (by decide) ?_
  refine mr_iadd dd_La_law_548 ?_
  obtain ⟨j18, hj19, hm20, hl21, h⟩ := h
  refine mr_ialds dd_La_law_549 rfl (mm_Xk hX15 hk1 (by decide)) hj19 hm20 hl21 ?_
  refine mr_aload_n dd_La_law_550 rfl ?_
  refine mr_iload_n dd_La_law_551 rfl ?_
  refine mr_iconst 2 dd_La_law_552 (by decide) ?_
  refine mr_iadd dd_La_law_553 ?_
  obtain ⟨j22, hj23, hm24, hl25, h⟩ := h
  refine mr_ialds dd_La_law_554 rfl (mm_Xk hX15 hk1 (by decide)) hj23 hm24 hl25 ?_
  refine mr_aload_n dd_La_law_555 rfl ?_
  refine mr_iload_n dd_La_law_556 rfl ?_
  refine mr_iconst 3 dd_La_law_557 (by decide) ?_
  refine mr_iadd dd_La_law_558 ?_
  obtain ⟨j26, hj27, hm28, hl29, h⟩ := h
  refine mr_ialds dd_La_law_559 rfl (mm_Xk hX15 hk1 (by decide)) hj27 hm28 hl29 ?_
  obtain ⟨hk32, h⟩ := h
  refine mr_callV0 (Yc := Y_Mo_lookup) (M := M14) (st := [.inl x17]) (vs := [.inl (mm_i M14 b j18), .inl (mm_i M14 b j22), .inl (mm_i M14 b j26)]) (ci := 8) fc_La_68 iv_Mo_lookup sv_Mo_lookup dd_La_law_560 ⟨Nat.le_of_ble_eq_true rfl, Nat.le_of_ble_eq_true rfl⟩ (by decide) rfl rfl (Nat.le_of_ble_eq_true rfl) rfl hk32 rfl rfl h (fun r M30 hX31 h => ?_)
  replace h := h hX31
  obtain ⟨x33, rfl, h⟩ := h
  show mm_Zq l G Y_La_law (lx_E G b) lx_Qf M0 bc bs 563 [some (.inr (some b)), some (.inr (some x)), some (.inr (some m)), some (.inl y3)] [.inl x33, .inl x17] M30
  refine mr_icmp_eq 828 dd_La_law_563 (by decide) (fun hc563 => ?_) (fun hc563 => ?_)
  · have h := h.1 hc563
    exact h
  · have h := h.2 hc563
    refine mr_iconst 0 dd_La_law_566 (by decide) ?_
    exact h.elim
set_option maxHeartbeats 4000000 in
set_option maxRecDepth 100000 in
theorem sg_La_law_568 {l : Launch} {G : mm_G} {M0 M : mm_M} {bc bs : Nat} {b : Nat} {x : Nat} {m : Nat} {y3 : Int32}
    (h : mm_k M b = 106 ∧ ∃ j2 : Nat, (y3 + 1) = nI j2 ∧ j2 < 2147483648 ∧ j2 < mm_l M b ∧ mm_k M x = 1 ∧ mm_Ok l G yy_PH_collect Y_PH_collect [.inr (some x), .inl (mm_i M b j2)] M (fun r M6 => mm_X M M6 → ∃ x9 : Int32, r = some (.inl x9) ∧ ∃ j10 : Nat, (y3 + 1) = nI j10 ∧ j10 < 2147483648 ∧ j10 < mm_l M6 b ∧ mm_k M6 m = 9 ∧ mm_Ok l G yy_Mo_collect Y_Mo_collect [.inr (some m), .inl (mm_i M6 b j10)] M6 (fun r M14 => mm_X M6 M14 → ∃ x17 : Int32, r = some (.inl x17) ∧ (x9 = x17 → mm_Zq l G Y_La_law (lx_E G b) lx_Qf M0 bc bs 828 [some (.inr (some b)), some (.inr (some x)), some (.inr (some m)), some (.inl y3)] [] M14) ∧ (¬ x9 = x17 → False)))) :
    mm_Zq l G Y_La_law (lx_E G b) lx_Qf M0 bc bs 568 [some (.inr (some b)), some (.inr (some x)), some (.inr (some m)), some (.inl y3)] [] M := by
  refine mr_aload_n dd_La_law_568 rfl ?_
  refine mr_aload_n dd_La_law_569 rfl ?_
  refine mr_iload_n dd_La_law_570 rfl ?_
  refine mr_iconst 1 dd_La_law_571 (by decide) ?_
  refine mr_iadd dd_La_law_572 ?_
  obtain ⟨hk1, h⟩ := h
  obtain ⟨j2, hj3, hm4, hl5, h⟩ := h
  refine mr_ialds dd_La_law_573 rfl hk1 hj3 hm4 hl5 ?_
  obtain ⟨hk8, h⟩ := h
  refine mr_callV0 (Yc := Y_PH_collect) (M := M) (st := []) (vs := [.inl (mm_i M b j2)]) (ci := 0) fc_La_69 iv_PH_collect sv_PH_collect dd_La_law_574 ⟨Nat.le_of_ble_eq_true rfl, Nat.le_of_ble_eq_true rfl⟩ (by decide) rfl rfl (Nat.le_of_ble_eq_true rfl) rfl hk8 rfl rfl h (fun r M6 hX7 h => ?_)
  replace h := h hX7
  obtain ⟨x9, rfl, h⟩ := h
  show mm_Zq l G Y_La_law (lx_E G b) lx_Qf M0 bc bs 577 [some (.inr (some b)), some (.inr (some x)), some (.inr (some m)), some (.inl y3)] [.inl x9] M6
  refine mr_aload_n dd_La_law_577 rfl ?_
  refine mr_aload_n dd_La_law_578 rfl ?_
  refine mr_iload_n dd_La_law_579 rfl ?_
  refine mr_iconst 1 dd_La_law_580 (by decide) ?_
  refine mr_iadd dd_La_law_581 ?_
  obtain ⟨j10, hj11, hm12, hl13, h⟩ := h
  refine mr_ialds dd_La_law_582 rfl (mm_Xk hX7 hk1 (by decide)) hj11 hm12 hl13 ?_
  obtain ⟨hk16, h⟩ := h
  refine mr_callV0 (Yc := Y_Mo_collect) (M := M6) (st := [.inl x9]) (vs := [.inl (mm_i M6 b j10)]) (ci := 8) fc_La_72 iv_Mo_collect sv_Mo_collect dd_La_law_583 ⟨Nat.le_of_ble_eq_true rfl, Nat.le_of_ble_eq_true rfl⟩ (by decide) rfl rfl (Nat.le_of_ble_eq_true rfl) rfl hk16 rfl rfl h (fun r M14 hX15 h => ?_)
  replace h := h hX15
  obtain ⟨x17, rfl, h⟩ := h
  show mm_Zq l G Y_La_law (lx_E G b) lx_Qf M0 bc bs 586 [some (.inr (some b)), some (.inr (some x)), some (.inr (some m)), some (.inl y3)] [.inl x17, .inl x9] M14
  refine mr_icmp_eq 828 dd_La_law_586 (by decide) (fun hc586 => ?_) (fun hc586 => ?_)
  · have h := h.1 hc586
    exact h
  · have h := h.2 hc586
    refine mr_iconst 0 dd_La_law_589 (by decide) ?_
    exact h.elim
set_option maxHeartbeats 4000000 in
set_option maxRecDepth 100000 in
theorem sg_La_law_591 {l : Launch} {G : mm_G} {M0 M : mm_M} {bc bs : Nat} {b : Nat} {x : Nat} {m : Nat} {y3 : Int32}
    (h : mm_k M b = 106 ∧ ∃ j2 : Nat, (y3 + 1) = nI j2 ∧ j2 < 2147483648 ∧ j2 < mm_l M b ∧ mm_k M x = 1 ∧ mm_Ok l G yy_PH_state Y_PH_state [.inr (some x), .inl (mm_i M b j2)] M (fun r M6 => mm_X M M6 → ∃ x9 : Int32, r = some (.inl x9) ∧ ∃ j10 : Nat, (y3 + 1) = nI j10 ∧ j10 < 2147483648 ∧ j10 < mm_l M6 b ∧ mm_k M6 m = 9 ∧ mm_Ok l G yy_Mo_state Y_Mo_state [.inr (some m), .inl (mm_i M6 b j10)] M6 (fun r M14 => mm_X M6 M14 → ∃ x17 : Int32, r = some (.inl x17) ∧ (x9 = x17 → mm_Zq l G Y_La_law (lx_E G b) lx_Qf M0 bc bs 828 [some (.inr (some b)), some (.inr (some x)), some (.inr (some m)), some (.inl y3)] [] M14) ∧ (¬ x9 = x17 → False)))) :
    mm_Zq l G Y_La_law (lx_E G b) lx_Qf M0 bc bs 591 [some (.inr (some b)), some (.inr (some x)), some (.inr (some m)), some (.inl y3)] [] M := by
  refine mr_aload_n dd_La_law_591 rfl ?_
  refine mr_aload_n dd_La_law_592 rfl ?_
  refine mr_iload_n dd_La_law_593 rfl ?_
  refine mr_iconst 1 dd_La_law_594 (by decide) ?_
  refine mr_iadd dd_La_law_595 ?_
  obtain ⟨hk1, h⟩ := h
  obtain ⟨j2, hj3, hm4, hl5, h⟩ := h
  refine mr_ialds dd_La_law_596 rfl hk1 hj3 hm4 hl5 ?_
  obtain ⟨hk8, h⟩ := h
  refine mr_callV0 (Yc := Y_PH_state) (M := M) (st := []) (vs := [.inl (mm_i M b j2)]) (ci := 0) fc_La_73 iv_PH_state sv_PH_state dd_La_law_597 ⟨Nat.le_of_ble_eq_true rfl, Nat.le_of_ble_eq_true rfl⟩ (by decide) rfl rfl (Nat.le_of_ble_eq_true rfl) rfl hk8 rfl rfl h (fun r M6 hX7 h => ?_)
  replace h := h hX7
  obtain ⟨x9, rfl, h⟩ := h
  show mm_Zq l G Y_La_law (lx_E G b) lx_Qf M0 bc bs 600 [some (.inr (some b)), some (.inr (some x)), some (.inr (some m)), some (.inl y3)] [.inl x9] M6
  refine mr_aload_n dd_La_law_600 rfl ?_
  refine mr_aload_n dd_La_law_601 rfl ?_
  refine mr_iload_n dd_La_law_602 rfl ?_
  refine mr_iconst 1 dd_La_law_603 (by decide) ?_
  refine mr_iadd dd_La_law_604 ?_
  obtain ⟨j10, hj11, hm12, hl13, h⟩ := h
  refine mr_ialds dd_La_law_605 rfl (mm_Xk hX7 hk1 (by decide)) hj11 hm12 hl13 ?_
  obtain ⟨hk16, h⟩ := h
  refine mr_callV0 (Yc := Y_Mo_state) (M := M6) (st := [.inl x9]) (vs := [.inl (mm_i M6 b j10)]) (ci := 8) fc_La_76 iv_Mo_state sv_Mo_state dd_La_law_606 ⟨Nat.le_of_ble_eq_true rfl, Nat.le_of_ble_eq_true rfl⟩ (by decide) rfl rfl (Nat.le_of_ble_eq_true rfl) rfl hk16 rfl rfl h (fun r M14 hX15 h => ?_)
  replace h := h hX15
  obtain ⟨x17, rfl, h⟩ := h
  show mm_Zq l G Y_La_law (lx_E G b) lx_Qf M0 bc bs 609 [some (.inr (some b)), some (.inr (some x)), some (.inr (some m)), some (.inl y3)] [.inl x17, .inl x9] M14
  refine mr_icmp_eq 828 dd_La_law_609 (by decide) (fun hc609 => ?_) (fun hc609 => ?_)
  · have h := h.1 hc609
    exact h
  · have h := h.2 hc609
    refine mr_iconst 0 dd_La_law_612 (by decide) ?_
    exact h.elim
set_option maxHeartbeats 4000000 in
set_option maxRecDepth 100000 in
theorem sg_La_law_614 {l : Launch} {G : mm_G} {M0 M : mm_M} {bc bs : Nat} {b : Nat} {x : Nat} {m : Nat} {y3 : Int32}
    (h : mm_k M b = 106 ∧ ∃ j2 : Nat, (y3 + 1) = nI j2 ∧ j2 < 2147483648 ∧ j2 < mm_l M b ∧ mm_k M x = 1 ∧ mm_Ok l G yy_PH_pages Y_PH_pages [.inr (some x), .inl (mm_i M b j2)] M (fun r M6 => mm_X M M6 → ∃ x9 : Int32, r = some (.inl x9) ∧ ∃ j10 : Nat, (y3 + 1) = nI j10 ∧ j10 < 2147483648 ∧ j10 < mm_l M6 b ∧ mm_k M6 m = 9 ∧ mm_Ok l G yy_Mo_pages Y_Mo_pages [.inr (some m), .inl (mm_i M6 b j10)] M6 (fun r M14 => mm_X M6 M14 → ∃ x17 : Int32, r = some (.inl x17) ∧ (x9 = x17 → mm_Zq l G Y_La_law (lx_E G b) lx_Qf M0 bc bs 828 [some (.inr (some b)), some (.inr (some x)), some (.inr (some m)), some (.inl y3)] [] M14) ∧ (¬ x9 = x17 → False)))) :
    mm_Zq l G Y_La_law (lx_E G b) lx_Qf M0 bc bs 614 [some (.inr (some b)), some (.inr (some x)), some (.inr (some m)), some (.inl y3)] [] M := by
  refine mr_aload_n dd_La_law_614 rfl ?_
  refine mr_aload_n dd_La_law_615 rfl ?_
  refine mr_iload_n dd_La_law_616 rfl ?_
  refine mr_iconst 1 dd_La_law_617 (by decide) ?_
  refine mr_iadd dd_La_law_618 ?_
  obtain ⟨hk1, h⟩ := h
  obtain ⟨j2, hj3, hm4, hl5, h⟩ := h
  refine mr_ialds dd_La_law_619 rfl hk1 hj3 hm4 hl5 ?_
  obtain ⟨hk8, h⟩ := h
  refine mr_callV0 (Yc := Y_PH_pages) (M := M) (st := []) (vs := [.inl (mm_i M b j2)]) (ci := 0) fc_La_77 iv_PH_pages sv_PH_pages dd_La_law_620 ⟨Nat.le_of_ble_eq_true rfl, Nat.le_of_ble_eq_true rfl⟩ (by decide) rfl rfl (Nat.le_of_ble_eq_true rfl) rfl hk8 rfl rfl h (fun r M6 hX7 h => ?_)
  replace h := h hX7
  obtain ⟨x9, rfl, h⟩ := h
  show mm_Zq l G Y_La_law (lx_E G b) lx_Qf M0 bc bs 623 [some (.inr (some b)), some (.inr (some x)), some (.inr (some m)), some (.inl y3)] [.inl x9] M6
  refine mr_aload_n dd_La_law_623 rfl ?_
  refine mr_aload_n dd_La_law_624 rfl ?_
  refine mr_iload_n dd_La_law_625 rfl ?_
  refine mr_iconst 1 dd_La_law_626 (by decide) ?_
  refine mr_iadd dd_La_law_627 ?_
  obtain ⟨j10, hj11, hm12, hl13, h⟩ := h
  refine mr_ialds dd_La_law_628 rfl (mm_Xk hX7 hk1 (by decide)) hj11 hm12 hl13 ?_
  obtain ⟨hk16, h⟩ := h
  refine mr_callV0 (Yc := Y_Mo_pages) (M := M6) (st := [.inl x9]) (vs := [.inl (mm_i M6 b j10)]) (ci := 8) fc_La_80 iv_Mo_pages sv_Mo_pages dd_La_law_629 ⟨Nat.le_of_ble_eq_true rfl, Nat.le_of_ble_eq_true rfl⟩ (by decide) rfl rfl (Nat.le_of_ble_eq_true rfl) rfl hk16 rfl rfl h (fun r M14 hX15 h => ?_)
  replace h := h hX15
  obtain ⟨x17, rfl, h⟩ := h
  show mm_Zq l G Y_La_law (lx_E G b) lx_Qf M0 bc bs 632 [some (.inr (some b)), some (.inr (some x)), some (.inr (some m)), some (.inl y3)] [.inl x17, .inl x9] M14
  refine mr_icmp_eq 828 dd_La_law_632 (by decide) (fun hc632 => ?_) (fun hc632 => ?_)
  · have h := h.1 hc632
    exact h
  · have h := h.2 hc632
    refine mr_iconst 0 dd_La_law_635 (by decide) ?_
    exact h.elim
set_option maxHeartbeats 4000000 in
set_option maxRecDepth 100000 in
theorem sg_La_law_637 {l : Launch} {G : mm_G} {M0 M : mm_M} {bc bs : Nat} {b : Nat} {x : Nat} {m : Nat} {y3 : Int32}
    (h : mm_k M b = 106 ∧ ∃ j2 : Nat, (y3 + 1) = nI j2 ∧ j2 < 2147483648 ∧ j2 < mm_l M b ∧ mm_k M x = 1 ∧ mm_Ok l G yy_PH_objects Y_PH_objects [.inr (some x), .inl (mm_i M b j2)] M (fun r M6 => mm_X M M6 → ∃ x9 : Int32, r = some (.inl x9) ∧ ∃ j10 : Nat, (y3 + 1) = nI j10 ∧ j10 < 2147483648 ∧ j10 < mm_l M6 b ∧ mm_k M6 m = 9 ∧ mm_Ok l G yy_Mo_objects Y_Mo_objects [.inr (some m), .inl (mm_i M6 b j10)] M6 (fun r M14 => mm_X M6 M14 → ∃ x17 : Int32, r = some (.inl x17) ∧ (x9 = x17 → mm_Zq l G Y_La_law (lx_E G b) lx_Qf M0 bc bs 828 [some (.inr (some b)), some (.inr (some x)), some (.inr (some m)), some (.inl y3)] [] M14) ∧ (¬ x9 = x17 → False)))) :
    mm_Zq l G Y_La_law (lx_E G b) lx_Qf M0 bc bs 637 [some (.inr (some b)), some (.inr (some x)), some (.inr (some m)), some (.inl y3)] [] M := by
  refine mr_aload_n dd_La_law_637 rfl ?_
  refine mr_aload_n dd_La_law_638 rfl ?_
  refine mr_iload_n dd_La_law_639 rfl ?_
  refine mr_iconst 1 dd_La_law_640 (by decide) ?_
  refine mr_iadd dd_La_law_641 ?_
  obtain ⟨hk1, h⟩ := h
  obtain ⟨j2, hj3, hm4, hl5, h⟩ := h
  refine mr_ialds dd_La_law_642 rfl hk1 hj3 hm4 hl5 ?_
  obtain ⟨hk8, h⟩ := h
  refine mr_callV0 (Yc := Y_PH_objects) (M := M) (st := []) (vs := [.inl (mm_i M b j2)]) (ci := 0) fc_La_81 iv_PH_objects sv_PH_objects dd_La_law_643 ⟨Nat.le_of_ble_eq_true rfl, Nat.le_of_ble_eq_true rfl⟩ (by decide) rfl rfl (Nat.le_of_ble_eq_true rfl) rfl hk8 rfl rfl h (fun r M6 hX7 h => ?_)
  replace h := h hX7
  obtain ⟨x9, rfl, h⟩ := h
  show mm_Zq l G Y_La_law (lx_E G b) lx_Qf M0 bc bs 646 [some (.inr (some b)), some (.inr (some x)), some (.inr (some m)), some (.inl y3)] [.inl x9] M6
  refine mr_aload_n dd_La_law_646 rfl ?_
  refine mr_aload_n dd_La_law_647 rfl ?_
  refine mr_iload_n dd_La_law_648 rfl ?_
  refine mr_iconst 1 dd_La_law_649 (by decide) ?_
  refine mr_iadd dd_La_law_650 ?_
  obtain ⟨j10, hj11, hm12, hl13, h⟩ := h
  refine mr_ialds dd_La_law_651 rfl (mm_Xk hX7 hk1 (by decide)) hj11 hm12 hl13 ?_
  obtain ⟨hk16, h⟩ := h
  refine mr_callV0 (Yc := Y_Mo_objects) (M := M6) (st := [.inl x9]) (vs := [.inl (mm_i M6 b j10)]) (ci := 8) fc_La_84 iv_Mo_objects sv_Mo_objects dd_La_law_652 ⟨Nat.le_of_ble_eq_true rfl, Nat.le_of_ble_eq_true rfl⟩ (by decide) rfl rfl (Nat.le_of_ble_eq_true rfl) rfl hk16 rfl rfl h (fun r M14 hX15 h => ?_)
  replace h := h hX15
  obtain ⟨x17, rfl, h⟩ := h
  show mm_Zq l G Y_La_law (lx_E G b) lx_Qf M0 bc bs 655 [some (.inr (some b)), some (.inr (some x)), some (.inr (some m)), some (.inl y3)] [.inl x17, .inl x9] M14
  refine mr_icmp_eq 828 dd_La_law_655 (by decide) (fun hc655 => ?_) (fun hc655 => ?_)
  · have h := h.1 hc655
    exact h
  · have h := h.2 hc655
    refine mr_iconst 0 dd_La_law_658 (by decide) ?_
    exact h.elim
set_option maxHeartbeats 4000000 in
set_option maxRecDepth 100000 in
theorem sg_La_law_660 {l : Launch} {G : mm_G} {M0 M : mm_M} {bc bs : Nat} {b : Nat} {x : Nat} {m : Nat} {y3 : Int32}
    (h : mm_k M b = 106 ∧ ∃ j2 : Nat, (y3 + 1) = nI j2 ∧ j2 < 2147483648 ∧ j2 < mm_l M b ∧ mm_k M x = 1 ∧ mm_Ok l G yy_PH_items Y_PH_items [.inr (some x), .inl (mm_i M b j2)] M (fun r M6 => mm_X M M6 → ∃ x9 : Int32, r = some (.inl x9) ∧ ∃ j10 : Nat, (y3 + 1) = nI j10 ∧ j10 < 2147483648 ∧ j10 < mm_l M6 b ∧ mm_k M6 m = 9 ∧ mm_Ok l G yy_Mo_items Y_Mo_items [.inr (some m), .inl (mm_i M6 b j10)] M6 (fun r M14 => mm_X M6 M14 → ∃ x17 : Int32, r = some (.inl x17) ∧ (x9 = x17 → mm_Zq l G Y_La_law (lx_E G b) lx_Qf M0 bc bs 828 [some (.inr (some b)), some (.inr (some x)), some (.inr (some m)), some (.inl y3)] [] M14) ∧ (¬ x9 = x17 → False)))) :
    mm_Zq l G Y_La_law (lx_E G b) lx_Qf M0 bc bs 660 [some (.inr (some b)), some (.inr (some x)), some (.inr (some m)), some (.inl y3)] [] M := by
  refine mr_aload_n dd_La_law_660 rfl ?_
  refine mr_aload_n dd_La_law_661 rfl ?_
  refine mr_iload_n dd_La_law_662 rfl ?_
  refine mr_iconst 1 dd_La_law_663 (by decide) ?_
  refine mr_iadd dd_La_law_664 ?_
  obtain ⟨hk1, h⟩ := h
  obtain ⟨j2, hj3, hm4, hl5, h⟩ := h
  refine mr_ialds dd_La_law_665 rfl hk1 hj3 hm4 hl5 ?_
  obtain ⟨hk8, h⟩ := h
  refine mr_callV0 (Yc := Y_PH_items) (M := M) (st := []) (vs := [.inl (mm_i M b j2)]) (ci := 0) fc_La_85 iv_PH_items sv_PH_items dd_La_law_666 ⟨Nat.le_of_ble_eq_true rfl, Nat.le_of_ble_eq_true rfl⟩ (by decide) rfl rfl (Nat.le_of_ble_eq_true rfl) rfl hk8 rfl rfl h (fun r M6 hX7 h => ?_)
  replace h := h hX7
  obtain ⟨x9, rfl, h⟩ := h
  show mm_Zq l G Y_La_law (lx_E G b) lx_Qf M0 bc bs 669 [some (.inr (some b)), some (.inr (some x)), some (.inr (some m)), some (.inl y3)] [.inl x9] M6
  refine mr_aload_n dd_La_law_669 rfl ?_
  refine mr_aload_n dd_La_law_670 rfl ?_
  refine mr_iload_n dd_La_law_671 rfl ?_
  refine mr_iconst 1 dd_La_law_672 (by decide) ?_
  refine mr_iadd dd_La_law_673 ?_
  obtain ⟨j10, hj11, hm12, hl13, h⟩ := h
  refine mr_ialds dd_La_law_674 rfl (mm_Xk hX7 hk1 (by decide)) hj11 hm12 hl13 ?_
  obtain ⟨hk16, h⟩ := h
  refine mr_callV0 (Yc := Y_Mo_items) (M := M6) (st := [.inl x9]) (vs := [.inl (mm_i M6 b j10)]) (ci := 8) fc_La_88 iv_Mo_items sv_Mo_items dd_La_law_675 ⟨Nat.le_of_ble_eq_true rfl, Nat.le_of_ble_eq_true rfl⟩ (by decide) rfl rfl (Nat.le_of_ble_eq_true rfl) rfl hk16 rfl rfl h (fun r M14 hX15 h => ?_)
  replace h := h hX15
  obtain ⟨x17, rfl, h⟩ := h
  show mm_Zq l G Y_La_law (lx_E G b) lx_Qf M0 bc bs 678 [some (.inr (some b)), some (.inr (some x)), some (.inr (some m)), some (.inl y3)] [.inl x17, .inl x9] M14
  refine mr_icmp_eq 828 dd_La_law_678 (by decide) (fun hc678 => ?_) (fun hc678 => ?_)
  · have h := h.1 hc678
    exact h
  · have h := h.2 hc678
    refine mr_iconst 0 dd_La_law_681 (by decide) ?_
    exact h.elim
set_option maxHeartbeats 4000000 in
set_option maxRecDepth 100000 in
theorem sg_La_law_683 {l : Launch} {G : mm_G} {M0 M : mm_M} {bc bs : Nat} {b : Nat} {x : Nat} {m : Nat} {y3 : Int32}
    (h : mm_k M b = 106 ∧ ∃ j2 : Nat, (y3 + 1) = nI j2 ∧ j2 < 2147483648 ∧ j2 < mm_l M b ∧ mm_k M x = 1 ∧ mm_Ok l G yy_PH_use Y_PH_use [.inr (some x), .inl (mm_i M b j2)] M (fun r M6 => mm_X M M6 → ∃ x9 : Int32, r = some (.inl x9) ∧ ∃ j10 : Nat, (y3 + 1) = nI j10 ∧ j10 < 2147483648 ∧ j10 < mm_l M6 b ∧ mm_k M6 m = 9 ∧ mm_Ok l G yy_Mo_use Y_Mo_use [.inr (some m), .inl (mm_i M6 b j10)] M6 (fun r M14 => mm_X M6 M14 → ∃ x17 : Int32, r = some (.inl x17) ∧ (x9 = x17 → mm_Zq l G Y_La_law (lx_E G b) lx_Qf M0 bc bs 828 [some (.inr (some b)), some (.inr (some x)), some (.inr (some m)), some (.inl y3)] [] M14) ∧ (¬ x9 = x17 → False)))) :
    mm_Zq l G Y_La_law (lx_E G b) lx_Qf M0 bc bs 683 [some (.inr (some b)), some (.inr (some x)), some (.inr (some m)), some (.inl y3)] [] M := by
  refine mr_aload_n dd_La_law_683 rfl ?_
  refine mr_aload_n dd_La_law_684 rfl ?_
  refine mr_iload_n dd_La_law_685 rfl ?_
  refine mr_iconst 1 dd_La_law_686 (by decide) ?_
  refine mr_iadd dd_La_law_687 ?_
  obtain ⟨hk1, h⟩ := h
  obtain ⟨j2, hj3, hm4, hl5, h⟩ := h
  refine mr_ialds dd_La_law_688 rfl hk1 hj3 hm4 hl5 ?_
  obtain ⟨hk8, h⟩ := h
  refine mr_callV0 (Yc := Y_PH_use) (M := M) (st := []) (vs := [.inl (mm_i M b j2)]) (ci := 0) fc_La_89 iv_PH_use sv_PH_use dd_La_law_689 ⟨Nat.le_of_ble_eq_true rfl, Nat.le_of_ble_eq_true rfl⟩ (by decide) rfl rfl (Nat.le_of_ble_eq_true rfl) rfl hk8 rfl rfl h (fun r M6 hX7 h => ?_)
  replace h := h hX7
  obtain ⟨x9, rfl, h⟩ := h
  show mm_Zq l G Y_La_law (lx_E G b) lx_Qf M0 bc bs 692 [some (.inr (some b)), some (.inr (some x)), some (.inr (some m)), some (.inl y3)] [.inl x9] M6
  refine mr_aload_n dd_La_law_692 rfl ?_
  refine mr_aload_n dd_La_law_693 rfl ?_
  refine mr_iload_n dd_La_law_694 rfl ?_
  refine mr_iconst 1 dd_La_law_695 (by decide) ?_
  refine mr_iadd dd_La_law_696 ?_
  obtain ⟨j10, hj11, hm12, hl13, h⟩ := h
  refine mr_ialds dd_La_law_697 rfl (mm_Xk hX7 hk1 (by decide)) hj11 hm12 hl13 ?_
  obtain ⟨hk16, h⟩ := h
  refine mr_callV0 (Yc := Y_Mo_use) (M := M6) (st := [.inl x9]) (vs := [.inl (mm_i M6 b j10)]) (ci := 8) fc_La_92 iv_Mo_use sv_Mo_use dd_La_law_698 ⟨Nat.le_of_ble_eq_true rfl, Nat.le_of_ble_eq_true rfl⟩ (by decide) rfl rfl (Nat.le_of_ble_eq_true rfl) rfl hk16 rfl rfl h (fun r M14 hX15 h => ?_)
  replace h := h hX15
  obtain ⟨x17, rfl, h⟩ := h
  show mm_Zq l G Y_La_law (lx_E G b) lx_Qf M0 bc bs 701 [some (.inr (some b)), some (.inr (some x)), some (.inr (some m)), some (.inl y3)] [.inl x17, .inl x9] M14
  refine mr_icmp_eq 828 dd_La_law_701 (by decide) (fun hc701 => ?_) (fun hc701 => ?_)
  · have h := h.1 hc701
    exact h
  · have h := h.2 hc701
    refine mr_iconst 0 dd_La_law_704 (by decide) ?_
    exact h.elim
set_option maxHeartbeats 4000000 in
set_option maxRecDepth 100000 in
theorem sg_La_law_706 {l : Launch} {G : mm_G} {M0 M : mm_M} {bc bs : Nat} {b : Nat} {x : Nat} {m : Nat} {y3 : Int32}
    (h : mm_k M b = 106 ∧ ∃ j2 : Nat, (y3 + 1) = nI j2 ∧ j2 < 2147483648 ∧ j2 < mm_l M b ∧ mm_k M x = 1 ∧ mm_Ok l G yy_PH_room Y_PH_room [.inr (some x), .inl (mm_i M b j2)] M (fun r M6 => mm_X M M6 → ∃ x9 : Int32, r = some (.inl x9) ∧ ∃ j10 : Nat, (y3 + 1) = nI j10 ∧ j10 < 2147483648 ∧ j10 < mm_l M6 b ∧ mm_k M6 m = 9 ∧ mm_Ok l G yy_Mo_room Y_Mo_room [.inr (some m), .inl (mm_i M6 b j10)] M6 (fun r M14 => mm_X M6 M14 → ∃ x17 : Int32, r = some (.inl x17) ∧ (x9 = x17 → mm_Zq l G Y_La_law (lx_E G b) lx_Qf M0 bc bs 828 [some (.inr (some b)), some (.inr (some x)), some (.inr (some m)), some (.inl y3)] [] M14) ∧ (¬ x9 = x17 → False)))) :
    mm_Zq l G Y_La_law (lx_E G b) lx_Qf M0 bc bs 706 [some (.inr (some b)), some (.inr (some x)), some (.inr (some m)), some (.inl y3)] [] M := by
  refine mr_aload_n dd_La_law_706 rfl ?_
  refine mr_aload_n dd_La_law_707 rfl ?_
  refine mr_iload_n dd_La_law_708 rfl ?_
  refine mr_iconst 1 dd_La_law_709 (by decide) ?_
  refine mr_iadd dd_La_law_710 ?_
  obtain ⟨hk1, h⟩ := h
  obtain ⟨j2, hj3, hm4, hl5, h⟩ := h
  refine mr_ialds dd_La_law_711 rfl hk1 hj3 hm4 hl5 ?_
  obtain ⟨hk8, h⟩ := h
  refine mr_callV0 (Yc := Y_PH_room) (M := M) (st := []) (vs := [.inl (mm_i M b j2)]) (ci := 0) fc_La_93 iv_PH_room sv_PH_room dd_La_law_712 ⟨Nat.le_of_ble_eq_true rfl, Nat.le_of_ble_eq_true rfl⟩ (by decide) rfl rfl (Nat.le_of_ble_eq_true rfl) rfl hk8 rfl rfl h (fun r M6 hX7 h => ?_)
  replace h := h hX7
  obtain ⟨x9, rfl, h⟩ := h
  show mm_Zq l G Y_La_law (lx_E G b) lx_Qf M0 bc bs 715 [some (.inr (some b)), some (.inr (some x)), some (.inr (some m)), some (.inl y3)] [.inl x9] M6
  refine mr_aload_n dd_La_law_715 rfl ?_
  refine mr_aload_n dd_La_law_716 rfl ?_
  refine mr_iload_n dd_La_law_717 rfl ?_
  refine mr_iconst 1 dd_La_law_718 (by decide) ?_
  refine mr_iadd dd_La_law_719 ?_
  obtain ⟨j10, hj11, hm12, hl13, h⟩ := h
  refine mr_ialds dd_La_law_720 rfl (mm_Xk hX7 hk1 (by decide)) hj11 hm12 hl13 ?_
  obtain ⟨hk16, h⟩ := h
  refine mr_callV0 (Yc := Y_Mo_room) (M := M6) (st := [.inl x9]) (vs := [.inl (mm_i M6 b j10)]) (ci := 8) fc_La_96 iv_Mo_room sv_Mo_room dd_La_law_721 ⟨Nat.le_of_ble_eq_true rfl, Nat.le_of_ble_eq_true rfl⟩ (by decide) rfl rfl (Nat.le_of_ble_eq_true rfl) rfl hk16 rfl rfl h (fun r M14 hX15 h => ?_)
  replace h := h hX15
  obtain ⟨x17, rfl, h⟩ := h
  show mm_Zq l G Y_La_law (lx_E G b) lx_Qf M0 bc bs 724 [some (.inr (some b)), some (.inr (some x)), some (.inr (some m)), some (.inl y3)] [.inl x17, .inl x9] M14
  refine mr_icmp_eq 828 dd_La_law_724 (by decide) (fun hc724 => ?_) (fun hc724 => ?_)
  · have h := h.1 hc724
    exact h
  · have h := h.2 hc724
    refine mr_iconst 0 dd_La_law_727 (by decide) ?_
    exact h.elim
set_option maxHeartbeats 4000000 in
set_option maxRecDepth 100000 in
theorem sg_La_law_729 {l : Launch} {G : mm_G} {M0 M : mm_M} {bc bs : Nat} {b : Nat} {x : Nat} {m : Nat} {y3 : Int32}
    (h : mm_k M b = 106 ∧ ∃ j2 : Nat, (y3 + 1) = nI j2 ∧ j2 < 2147483648 ∧ j2 < mm_l M b ∧ ∃ j6 : Nat, (y3 + 2) = nI j6 ∧ j6 < 2147483648 ∧ j6 < mm_l M b ∧ mm_k M x = 1 ∧ mm_Ok l G yy_PH_shares Y_PH_shares [.inr (some x), .inl (mm_i M b j2), .inl (mm_i M b j6)] M (fun r M10 => mm_X M M10 → ∃ x13 : Int32, r = some (.inl x13) ∧ ∃ j14 : Nat, (y3 + 1) = nI j14 ∧ j14 < 2147483648 ∧ j14 < mm_l M10 b ∧ ∃ j18 : Nat, (y3 + 2) = nI j18 ∧ j18 < 2147483648 ∧ j18 < mm_l M10 b ∧ mm_k M10 m = 9 ∧ mm_Ok l G yy_Mo_shares Y_Mo_shares [.inr (some m), .inl (mm_i M10 b j14), .inl (mm_i M10 b j18)] M10 (fun r M22 => mm_X M10 M22 → ∃ x25 : Int32, r = some (.inl x25) ∧ (x13 = x25 → mm_Zq l G Y_La_law (lx_E G b) lx_Qf M0 bc bs 828 [some (.inr (some b)), some (.inr (some x)), some (.inr (some m)), some (.inl y3)] [] M22) ∧ (¬ x13 = x25 → False)))) :
    mm_Zq l G Y_La_law (lx_E G b) lx_Qf M0 bc bs 729 [some (.inr (some b)), some (.inr (some x)), some (.inr (some m)), some (.inl y3)] [] M := by
  refine mr_aload_n dd_La_law_729 rfl ?_
  refine mr_aload_n dd_La_law_730 rfl ?_
  refine mr_iload_n dd_La_law_731 rfl ?_
  refine mr_iconst 1 dd_La_law_732 (by decide) ?_
  refine mr_iadd dd_La_law_733 ?_
  obtain ⟨hk1, h⟩ := h
  obtain ⟨j2, hj3, hm4, hl5, h⟩ := h
  refine mr_ialds dd_La_law_734 rfl hk1 hj3 hm4 hl5 ?_
  refine mr_aload_n dd_La_law_735 rfl ?_
  refine mr_iload_n dd_La_law_736 rfl ?_
  refine mr_iconst 2 dd_La_law_737 (by decide) ?_
  refine mr_iadd dd_La_law_738 ?_
  obtain ⟨j6, hj7, hm8, hl9, h⟩ := h
  refine mr_ialds dd_La_law_739 rfl hk1 hj7 hm8 hl9 ?_
  obtain ⟨hk12, h⟩ := h
  refine mr_callV0 (Yc := Y_PH_shares) (M := M) (st := []) (vs := [.inl (mm_i M b j2), .inl (mm_i M b j6)]) (ci := 0) fc_La_97 iv_PH_shares sv_PH_shares dd_La_law_740 ⟨Nat.le_of_ble_eq_true rfl, Nat.le_of_ble_eq_true rfl⟩ (by decide) rfl rfl (Nat.le_of_ble_eq_true rfl) rfl hk12 rfl rfl h (fun r M10 hX11 h => ?_)
  replace h := h hX11
  obtain ⟨x13, rfl, h⟩ := h
  show mm_Zq l G Y_La_law (lx_E G b) lx_Qf M0 bc bs 743 [some (.inr (some b)), some (.inr (some x)), some (.inr (some m)), some (.inl y3)] [.inl x13] M10
  refine mr_aload_n dd_La_law_743 rfl ?_
  refine mr_aload_n dd_La_law_744 rfl ?_
  refine mr_iload_n dd_La_law_745 rfl ?_
  refine mr_iconst 1 dd_La_law_746 (by decide) ?_
  refine mr_iadd dd_La_law_747 ?_
  obtain ⟨j14, hj15, hm16, hl17, h⟩ := h
  refine mr_ialds dd_La_law_748 rfl (mm_Xk hX11 hk1 (by decide)) hj15 hm16 hl17 ?_
  refine mr_aload_n dd_La_law_749 rfl ?_
  refine mr_iload_n dd_La_law_750 rfl ?_
  refine mr_iconst 2 dd_La_law_751 (by decide) ?_
  refine mr_iadd dd_La_law_752 ?_
  obtain ⟨j18, hj19, hm20, hl21, h⟩ := h
  refine mr_ialds dd_La_law_753 rfl (mm_Xk hX11 hk1 (by decide)) hj19 hm20 hl21 ?_
  obtain ⟨hk24, h⟩ := h
  refine mr_callV0 (Yc := Y_Mo_shares) (M := M10) (st := [.inl x13]) (vs := [.inl (mm_i M10 b j14), .inl (mm_i M10 b j18)]) (ci := 8) fc_La_101 iv_Mo_shares sv_Mo_shares dd_La_law_754 ⟨Nat.le_of_ble_eq_true rfl, Nat.le_of_ble_eq_true rfl⟩ (by decide) rfl rfl (Nat.le_of_ble_eq_true rfl) rfl hk24 rfl rfl h (fun r M22 hX23 h => ?_)
  replace h := h hX23
  obtain ⟨x25, rfl, h⟩ := h
  show mm_Zq l G Y_La_law (lx_E G b) lx_Qf M0 bc bs 757 [some (.inr (some b)), some (.inr (some x)), some (.inr (some m)), some (.inl y3)] [.inl x25, .inl x13] M22
  refine mr_icmp_eq 828 dd_La_law_757 (by decide) (fun hc757 => ?_) (fun hc757 => ?_)
  · have h := h.1 hc757
    exact h
  · have h := h.2 hc757
    refine mr_iconst 0 dd_La_law_760 (by decide) ?_
    exact h.elim
set_option maxHeartbeats 4000000 in
set_option maxRecDepth 100000 in
theorem sg_La_law_762 {l : Launch} {G : mm_G} {M0 M : mm_M} {bc bs : Nat} {b : Nat} {x : Nat} {m : Nat} {y3 : Int32}
    (h : mm_k M b = 106 ∧ ∃ j2 : Nat, (y3 + 1) = nI j2 ∧ j2 < 2147483648 ∧ j2 < mm_l M b ∧ ∃ j6 : Nat, (y3 + 2) = nI j6 ∧ j6 < 2147483648 ∧ j6 < mm_l M b ∧ mm_k M x = 1 ∧ mm_Ok l G yy_PH_where Y_PH_where [.inr (some x), .inl (mm_i M b j2), .inl (mm_i M b j6)] M (fun r M10 => mm_X M M10 → ∃ x13 : Int32, r = some (.inl x13) ∧ ∃ j14 : Nat, (y3 + 1) = nI j14 ∧ j14 < 2147483648 ∧ j14 < mm_l M10 b ∧ ∃ j18 : Nat, (y3 + 2) = nI j18 ∧ j18 < 2147483648 ∧ j18 < mm_l M10 b ∧ mm_k M10 m = 9 ∧ mm_Ok l G yy_Mo_where Y_Mo_where [.inr (some m), .inl (mm_i M10 b j14), .inl (mm_i M10 b j18)] M10 (fun r M22 => mm_X M10 M22 → ∃ x25 : Int32, r = some (.inl x25) ∧ (x13 = x25 → mm_Zq l G Y_La_law (lx_E G b) lx_Qf M0 bc bs 828 [some (.inr (some b)), some (.inr (some x)), some (.inr (some m)), some (.inl y3)] [] M22) ∧ (¬ x13 = x25 → False)))) :
    mm_Zq l G Y_La_law (lx_E G b) lx_Qf M0 bc bs 762 [some (.inr (some b)), some (.inr (some x)), some (.inr (some m)), some (.inl y3)] [] M := by
  refine mr_aload_n dd_La_law_762 rfl ?_
  refine mr_aload_n dd_La_law_763 rfl ?_
  refine mr_iload_n dd_La_law_764 rfl ?_
  refine mr_iconst 1 dd_La_law_765 (by decide) ?_
  refine mr_iadd dd_La_law_766 ?_
  obtain ⟨hk1, h⟩ := h
  obtain ⟨j2, hj3, hm4, hl5, h⟩ := h
  refine mr_ialds dd_La_law_767 rfl hk1 hj3 hm4 hl5 ?_
  refine mr_aload_n dd_La_law_768 rfl ?_
  refine mr_iload_n dd_La_law_769 rfl ?_
  refine mr_iconst 2 dd_La_law_770 (by decide) ?_
  refine mr_iadd dd_La_law_771 ?_
  obtain ⟨j6, hj7, hm8, hl9, h⟩ := h
  refine mr_ialds dd_La_law_772 rfl hk1 hj7 hm8 hl9 ?_
  obtain ⟨hk12, h⟩ := h
  refine mr_callV0 (Yc := Y_PH_where) (M := M) (st := []) (vs := [.inl (mm_i M b j2), .inl (mm_i M b j6)]) (ci := 0) fc_La_102 iv_PH_where sv_PH_where dd_La_law_773 ⟨Nat.le_of_ble_eq_true rfl, Nat.le_of_ble_eq_true rfl⟩ (by decide) rfl rfl (Nat.le_of_ble_eq_true rfl) rfl hk12 rfl rfl h (fun r M10 hX11 h => ?_)
  replace h := h hX11
  obtain ⟨x13, rfl, h⟩ := h
  show mm_Zq l G Y_La_law (lx_E G b) lx_Qf M0 bc bs 776 [some (.inr (some b)), some (.inr (some x)), some (.inr (some m)), some (.inl y3)] [.inl x13] M10
  refine mr_aload_n dd_La_law_776 rfl ?_
  refine mr_aload_n dd_La_law_777 rfl ?_
  refine mr_iload_n dd_La_law_778 rfl ?_
  refine mr_iconst 1 dd_La_law_779 (by decide) ?_
  refine mr_iadd dd_La_law_780 ?_
  obtain ⟨j14, hj15, hm16, hl17, h⟩ := h
  refine mr_ialds dd_La_law_781 rfl (mm_Xk hX11 hk1 (by decide)) hj15 hm16 hl17 ?_
  refine mr_aload_n dd_La_law_782 rfl ?_
  refine mr_iload_n dd_La_law_783 rfl ?_
  refine mr_iconst 2 dd_La_law_784 (by decide) ?_
  refine mr_iadd dd_La_law_785 ?_
  obtain ⟨j18, hj19, hm20, hl21, h⟩ := h
  refine mr_ialds dd_La_law_786 rfl (mm_Xk hX11 hk1 (by decide)) hj19 hm20 hl21 ?_
  obtain ⟨hk24, h⟩ := h
  refine mr_callV0 (Yc := Y_Mo_where) (M := M10) (st := [.inl x13]) (vs := [.inl (mm_i M10 b j14), .inl (mm_i M10 b j18)]) (ci := 8) fc_La_105 iv_Mo_where sv_Mo_where dd_La_law_787 ⟨Nat.le_of_ble_eq_true rfl, Nat.le_of_ble_eq_true rfl⟩ (by decide) rfl rfl (Nat.le_of_ble_eq_true rfl) rfl hk24 rfl rfl h (fun r M22 hX23 h => ?_)
  replace h := h hX23
  obtain ⟨x25, rfl, h⟩ := h
  show mm_Zq l G Y_La_law (lx_E G b) lx_Qf M0 bc bs 790 [some (.inr (some b)), some (.inr (some x)), some (.inr (some m)), some (.inl y3)] [.inl x25, .inl x13] M22
  refine mr_icmp_eq 828 dd_La_law_790 (by decide) (fun hc790 => ?_) (fun hc790 => ?_)
  · have h := h.1 hc790
    exact h
  · have h := h.2 hc790
    refine mr_iconst 0 dd_La_law_793 (by decide) ?_
    exact h.elim
set_option maxHeartbeats 4000000 in
set_option maxRecDepth 100000 in
theorem sg_La_law_795 {l : Launch} {G : mm_G} {M0 M : mm_M} {bc bs : Nat} {b : Nat} {x : Nat} {m : Nat} {y3 : Int32}
    (h : mm_k M b = 106 ∧ ∃ j2 : Nat, (y3 + 1) = nI j2 ∧ j2 < 2147483648 ∧ j2 < mm_l M b ∧ ∃ j6 : Nat, (y3 + 2) = nI j6 ∧ j6 < 2147483648 ∧ j6 < mm_l M b ∧ mm_k M x = 1 ∧ mm_Ok l G yy_PH_tag Y_PH_tag [.inr (some x), .inl (mm_i M b j2), .inl (mm_i M b j6)] M (fun r M10 => mm_X M M10 → ∃ x13 : Int32, r = some (.inl x13) ∧ ∃ j14 : Nat, (y3 + 1) = nI j14 ∧ j14 < 2147483648 ∧ j14 < mm_l M10 b ∧ ∃ j18 : Nat, (y3 + 2) = nI j18 ∧ j18 < 2147483648 ∧ j18 < mm_l M10 b ∧ mm_k M10 m = 9 ∧ mm_Ok l G yy_Mo_tag Y_Mo_tag [.inr (some m), .inl (mm_i M10 b j14), .inl (mm_i M10 b j18)] M10 (fun r M22 => mm_X M10 M22 → ∃ x25 : Int32, r = some (.inl x25) ∧ (x13 = x25 → mm_Zq l G Y_La_law (lx_E G b) lx_Qf M0 bc bs 828 [some (.inr (some b)), some (.inr (some x)), some (.inr (some m)), some (.inl y3)] [] M22) ∧ (¬ x13 = x25 → False)))) :
    mm_Zq l G Y_La_law (lx_E G b) lx_Qf M0 bc bs 795 [some (.inr (some b)), some (.inr (some x)), some (.inr (some m)), some (.inl y3)] [] M := by
  refine mr_aload_n dd_La_law_795 rfl ?_
  refine mr_aload_n dd_La_law_796 rfl ?_
  refine mr_iload_n dd_La_law_797 rfl ?_
  refine mr_iconst 1 dd_La_law_798 (by decide) ?_
  refine mr_iadd dd_La_law_799 ?_
  obtain ⟨hk1, h⟩ := h
  obtain ⟨j2, hj3, hm4, hl5, h⟩ := h
  refine mr_ialds dd_La_law_800 rfl hk1 hj3 hm4 hl5 ?_
  refine mr_aload_n dd_La_law_801 rfl ?_
  refine mr_iload_n dd_La_law_802 rfl ?_
  refine mr_iconst 2 dd_La_law_803 (by decide) ?_
  refine mr_iadd dd_La_law_804 ?_
  obtain ⟨j6, hj7, hm8, hl9, h⟩ := h
  refine mr_ialds dd_La_law_805 rfl hk1 hj7 hm8 hl9 ?_
  obtain ⟨hk12, h⟩ := h
  refine mr_callV0 (Yc := Y_PH_tag) (M := M) (st := []) (vs := [.inl (mm_i M b j2), .inl (mm_i M b j6)]) (ci := 0) fc_La_106 iv_PH_tag sv_PH_tag dd_La_law_806 ⟨Nat.le_of_ble_eq_true rfl, Nat.le_of_ble_eq_true rfl⟩ (by decide) rfl rfl (Nat.le_of_ble_eq_true rfl) rfl hk12 rfl rfl h (fun r M10 hX11 h => ?_)
  replace h := h hX11
  obtain ⟨x13, rfl, h⟩ := h
  show mm_Zq l G Y_La_law (lx_E G b) lx_Qf M0 bc bs 809 [some (.inr (some b)), some (.inr (some x)), some (.inr (some m)), some (.inl y3)] [.inl x13] M10
  refine mr_aload_n dd_La_law_809 rfl ?_
  refine mr_aload_n dd_La_law_810 rfl ?_
  refine mr_iload_n dd_La_law_811 rfl ?_
  refine mr_iconst 1 dd_La_law_812 (by decide) ?_
  refine mr_iadd dd_La_law_813 ?_
  obtain ⟨j14, hj15, hm16, hl17, h⟩ := h
  refine mr_ialds dd_La_law_814 rfl (mm_Xk hX11 hk1 (by decide)) hj15 hm16 hl17 ?_
  refine mr_aload_n dd_La_law_815 rfl ?_
  refine mr_iload_n dd_La_law_816 rfl ?_
  refine mr_iconst 2 dd_La_law_817 (by decide) ?_
  refine mr_iadd dd_La_law_818 ?_
  obtain ⟨j18, hj19, hm20, hl21, h⟩ := h
  refine mr_ialds dd_La_law_819 rfl (mm_Xk hX11 hk1 (by decide)) hj19 hm20 hl21 ?_
  obtain ⟨hk24, h⟩ := h
  refine mr_callV0 (Yc := Y_Mo_tag) (M := M10) (st := [.inl x13]) (vs := [.inl (mm_i M10 b j14), .inl (mm_i M10 b j18)]) (ci := 8) fc_La_109 iv_Mo_tag sv_Mo_tag dd_La_law_820 ⟨Nat.le_of_ble_eq_true rfl, Nat.le_of_ble_eq_true rfl⟩ (by decide) rfl rfl (Nat.le_of_ble_eq_true rfl) rfl hk24 rfl rfl h (fun r M22 hX23 h => ?_)
  replace h := h hX23
  obtain ⟨x25, rfl, h⟩ := h
  show mm_Zq l G Y_La_law (lx_E G b) lx_Qf M0 bc bs 823 [some (.inr (some b)), some (.inr (some x)), some (.inr (some m)), some (.inl y3)] [.inl x25, .inl x13] M22
  refine mr_icmp_eq 828 dd_La_law_823 (by decide) (fun hc823 => ?_) (fun hc823 => ?_)
  · have h := h.1 hc823
    exact h
  · have h := h.2 hc823
    refine mr_iconst 0 dd_La_law_826 (by decide) ?_
    exact h.elim
set_option maxHeartbeats 4000000 in
set_option maxRecDepth 100000 in
theorem sg_La_law_828 {l : Launch} {G : mm_G} {M0 M : mm_M} {bc bs : Nat} {b : Nat} {x : Nat} {m : Nat} {y3 : Int32}
    (h : mm_Zq l G Y_La_law (lx_E G b) lx_Qf M0 bc bs 28 [some (.inr (some b)), some (.inr (some x)), some (.inr (some m)), some (.inl (y3 + 5))] [] M) :
    mm_Zq l G Y_La_law (lx_E G b) lx_Qf M0 bc bs 828 [some (.inr (some b)), some (.inr (some x)), some (.inr (some m)), some (.inl y3)] [] M := by
  refine mr_iinc 5 dd_La_law_828 rfl (by decide) (by decide) ?_
  show mm_Zq l G Y_La_law (lx_E G b) lx_Qf M0 bc bs 831 [some (.inr (some b)), some (.inr (some x)), some (.inr (some m)), some (.inl (y3 + 5))] [] M
  refine mr_goto 28 dd_La_law_831 (by decide) ?_
  exact h
