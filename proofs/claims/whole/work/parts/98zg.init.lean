/-! THE CONSTRUCTORS: the reference -/
section SZG
variable {l : Launch} {G : mm_G} {K : Option mm_V → mm_M → Prop} {M M0 M1 : mm_M} {a0 z n k kd ln q t : Nat} {xa : Int32}
/-- the place of an array among the reference's arrays -/
def rk (k : Nat) : Nat := if k < 4 then k else if k < 14 then k - 1 else if k < 18 then k - 2 else k - 3
def bi (M0 : mm_M) (a0 z n : Nat) (M : mm_M) : Prop := mm_z M = z + n ∧ a0 < z ∧ mm_k M a0 = 9 ∧ mm_fr M ∧ (∀ a, a < z → mm_k M a = mm_k M0 a ∧ mm_l M a = mm_l M0 a ∧ ∀ j, mm_i M a j = mm_i M0 a j ∧ (a ≠ a0 → mm_p M a j = mm_p M0 a j)) ∧ ∀ k, k < 25 → mo_sc k = false → rk k < n → mm_p M a0 k = some (z + rk k) ∧ mm_k M (z + rk k) = mo_kd k ∧ mm_l M (z + rk k) = mo_ln k ∧ ∀ j, mm_i M (z + rk k) j = 0
theorem rk_inj {i j : Nat} (hi : mo_sc i = false) (hj : mo_sc j = false) (h : rk i = rk j) : i = j := by
  have e : ∀ k, mo_sc k = false → k ≠ 4 ∧ k ≠ 14 ∧ k ≠ 18 := fun k hk => by
    refine ⟨fun w => ?_, fun w => ?_, fun w => ?_⟩ <;> (subst w; cases hk)
  have h1 := e i hi
  have h2 := e j hj
  unfold rk at h
  split at h <;> split at h <;> first | omega | (split at h <;> first | omega | (split at h <;> first | omega | (split at h <;> first | omega | (split at h <;> omega))))
theorem bi.k9 (h : bi M0 a0 z n M) : mm_k (mm_nw M kd ln) a0 = 9 := by
  rw [mm_k_nw, if_neg (by rw [h.1]; have := h.2.1; omega)]
  exact h.2.2.1
theorem bi.s (h : bi M0 a0 z n M) (k kd ln : Nat) (hq : q = mm_z M) (hs : mo_sc k = false) (hr : rk k = n) (hkd : mo_kd k = kd) (hln : mo_ln k = ln) : bi M0 a0 z (n + 1) (mm_sp (mm_nw M kd ln) a0 k (some q)) := by
  have h9 := h.k9 (kd := kd) (ln := ln)
  obtain ⟨h1, h2, h3, h4, h5, h6⟩ := h
  have hne : ∀ a, a < z → a ≠ mm_z M := fun a ha => by rw [h1]; omega
  refine ⟨by rw [mm_z_sp, mm_z_nw, h1]; omega, h2, h9, (mm_gr.nw (kd := kd) (n := ln) (S := fun _ => False) h4).2.1, fun a ha => ⟨?_, ?_, fun j => ⟨?_, fun w => ?_⟩⟩, fun i hi hsi hri => ?_⟩
  · rw [mm_k_sp, mm_k_nw, if_neg (hne a ha)]
    exact (h5 a ha).1
  · rw [mm_l_sp, mm_l_nw, if_neg (hne a ha)]
    exact (h5 a ha).2.1
  · rw [mm_i_sp, mm_i_nw, if_neg (hne a ha)]
    exact ((h5 a ha).2.2 j).1
  · rw [mm_p_sp, if_neg (fun w2 => w w2.1), mm_p_nw, if_neg (hne a ha)]
    exact ((h5 a ha).2.2 j).2 w
  · by_cases e : i = k
    · subst e
      refine ⟨?_, ?_, ?_, fun j => ?_⟩
      · rw [mm_p_sp, if_pos ⟨rfl, rfl⟩, hq, h1, hr]
      · rw [mm_k_sp, mm_k_nw, if_pos (by rw [hr, h1]), hkd]
      · rw [mm_l_sp, mm_l_nw, if_pos (by rw [hr, h1]), hln]
      · rw [mm_i_sp, mm_i_nw, if_pos (by rw [hr, h1])]
    · have hlt : rk i < n := by
        rcases Nat.lt_or_ge (rk i) n with w | w
        · exact w
        · exact absurd (rk_inj hsi hs (by omega)) e
      obtain ⟨w1, w2, w3, w4⟩ := h6 i hi hsi hlt
      have hz : z + rk i ≠ mm_z M := by rw [h1]; omega
      refine ⟨?_, ?_, ?_, fun j => ?_⟩
      · rw [mm_p_sp, if_neg (fun w => e w.2), mm_p_nw, if_neg (hne a0 h2)]
        exact w1
      · rw [mm_k_sp, mm_k_nw, if_neg hz]
        exact w2
      · rw [mm_l_sp, mm_l_nw, if_neg hz]
        exact w3
      · rw [mm_i_sp, mm_i_nw, if_neg hz]
        exact w4 j
def ad0 (z k : Nat) : Nat := if mo_sc k = true then z + 100 + k else z + rk k
theorem ad0_f (h : mo_sc k = false) : ad0 z k = z + rk k := if_neg (by rw [h]; decide)
theorem rk_lt (h : k < 25) : rk k < 25 := by
  unfold rk
  split
  · omega
  · split
    · omega
    · split <;> omega
theorem ad0_inj {i j : Nat} (hi : i < 25) (hj : j < 25) (h : ad0 z i = ad0 z j) : i = j := by
  have r1 := rk_lt hi
  have r2 := rk_lt hj
  unfold ad0 at h
  by_cases e1 : mo_sc i = true
  · rw [if_pos e1] at h
    by_cases e2 : mo_sc j = true
    · rw [if_pos e2] at h
      omega
    · rw [if_neg e2] at h
      omega
  · rw [if_neg e1] at h
    by_cases e2 : mo_sc j = true
    · rw [if_pos e2] at h
      omega
    · rw [if_neg e2] at h
      exact rk_inj (by rw [Bool.not_eq_true] at e1; exact e1) (by rw [Bool.not_eq_true] at e2; exact e2) (by omega)
/-- the reference's first table -/
def b0 (t : Nat) : rB := fun k j => if (k = 0 ∨ k = 3 ∨ k = 4) ∧ j = 0 then 1 else if k = 2 ∧ j = 0 then t else 0
/-- what a constructor of the reference leaves -/
def mi_N (M : mm_M) (a0 t : Nat) (N : mm_M) : Prop := mm_fr N ∧ mo_S a0 (ad0 (mm_z M)) N N (ra (fun _ => 0) (b0 t)) ∧ (∀ a, a < mm_z M → mm_k N a = mm_k M a ∧ mm_l N a = mm_l M a ∧ (a ≠ a0 → ∀ j, mm_i N a j = mm_i M a j ∧ mm_p N a j = mm_p M a j)) ∧ ∀ a, mm_z M ≤ a → mm_k N a = 0 ∨ mm_k N a = 100 ∨ mm_k N a = 101
theorem lim4 (xa : Int32) : ∃ t : Nat, 4 ≤ t ∧ t ≤ 24 ∧ (if 4 < (if xa < 24 then xa else 24) then (if xa < 24 then xa else 24) else 4) = nI t ∧ (4 ≤ xa → xa ≤ 24 → xa = nI t) ∧ (4 ≤ xa → ¬ xa ≤ 24 → (24 : Int32) = nI t) ∧ (¬ 4 ≤ xa → (4 : Int32) = nI t) := by
  have e4 : (4 : Int32).toInt = 4 := by decide
  have e24 : (24 : Int32).toInt = 24 := by decide
  have l1 : (xa < 24) ↔ xa.toInt < 24 := by rw [Int32.lt_iff_toInt_lt, e24]
  have l2 : (4 < xa) ↔ 4 < xa.toInt := by rw [Int32.lt_iff_toInt_lt, e4]
  have l3 : (4 ≤ xa) ↔ 4 ≤ xa.toInt := by rw [Int32.le_iff_toInt_le, e4]
  have l4 : (xa ≤ 24) ↔ xa.toInt ≤ 24 := by rw [Int32.le_iff_toInt_le, e24]
  by_cases h1 : 4 ≤ xa
  · by_cases h2 : xa ≤ 24
    · have h0 : ¬ xa < 0 := by
        rw [Int32.lt_iff_toInt_lt, show (0 : Int32).toInt = 0 from by decide]
        have := l3.mp h1
        omega
      obtain ⟨j, hj, e⟩ := nI_of h0
      have ej : xa.toInt = (j : Int) := by rw [e]; exact nI_toInt hj
      have a1 := l3.mp h1
      have a2 := l4.mp h2
      refine ⟨j, by omega, by omega, ?_, fun _ _ => e, fun _ w => absurd h2 w, fun w => absurd h1 w⟩
      by_cases h3 : xa < 24
      · rw [if_pos h3]
        by_cases h4 : 4 < xa
        · rw [if_pos h4, e]
        · rw [if_neg h4]
          have : ¬ 4 < xa.toInt := fun w => h4 (l2.mpr w)
          have : j = 4 := by omega
          rw [this]
          rfl
      · rw [if_neg h3, if_pos (by decide)]
        have : ¬ xa.toInt < 24 := fun w => h3 (l1.mpr w)
        have : j = 24 := by omega
        rw [this]
        rfl
    · have h3 : ¬ xa < 24 := fun w => h2 (by rw [l4]; have := l1.mp w; omega)
      refine ⟨24, by omega, by omega, ?_, fun _ w => absurd w h2, fun _ _ => rfl, fun w => absurd h1 w⟩
      rw [if_neg h3, if_pos (by decide)]
      rfl
  · have h3 : xa < 24 := by
      rw [l1]
      have : ¬ 4 ≤ xa.toInt := fun w => h1 (l3.mpr w)
      omega
    have h4 : ¬ 4 < xa := fun w => h1 (by rw [l3]; have := l2.mp w; omega)
    refine ⟨4, by omega, by omega, ?_, fun w => absurd w h1, fun w => absurd w h1, fun _ => rfl⟩
    rw [if_pos h3, if_neg h4]
    rfl
theorem mi_end (h : bi M0 a0 (mm_z M0) 22 M) (hi : ∀ j, mm_i M0 a0 j = 0) (k : ∀ N, mi_N M0 a0 t N → K none N) : ∃ a67 : Nat, (mm_p M a0 2) = some a67 ∧ mm_k M a67 = 100 ∧ ∃ j70 : Nat, 0 = nI j70 ∧ j70 < 2147483648 ∧ j70 < mm_l M a67 ∧ ∃ a74 : Nat, (mm_p (mm_si M a67 j70 (nI t)) a0 3) = some a74 ∧ mm_k (mm_si M a67 j70 (nI t)) a74 = 101 ∧ ∃ j77 : Nat, 0 = nI j77 ∧ j77 < 2147483648 ∧ j77 < mm_l (mm_si M a67 j70 (nI t)) a74 ∧ ∃ a81 : Nat, (mm_p (mm_si (mm_si M a67 j70 (nI t)) a74 j77 1) a0 0) = some a81 ∧ mm_k (mm_si (mm_si M a67 j70 (nI t)) a74 j77 1) a81 = 100 ∧ ∃ j84 : Nat, 0 = nI j84 ∧ j84 < 2147483648 ∧ j84 < mm_l (mm_si (mm_si M a67 j70 (nI t)) a74 j77 1) a81 ∧ K none (mm_si (mm_si (mm_si (mm_si M a67 j70 (nI t)) a74 j77 1) a81 j84 1) a0 4 1) := by
  obtain ⟨h1, h2, h3, h4, h5, h6⟩ := h
  obtain ⟨u1, u2, u3, u4⟩ := h6 2 (by decide) rfl (by decide)
  obtain ⟨v1, v2, v3, v4⟩ := h6 3 (by decide) rfl (by decide)
  obtain ⟨w1, w2, w3, w4⟩ := h6 0 (by decide) rfl (by decide)
  refine ⟨_, u1, u2, 0, rfl, by decide, by rw [u3]; decide, _, v1, v2, 0, rfl, by decide, by rw [mm_l_si, v3]; decide, _, w1, w2, 0, rfl, by decide, by rw [mm_l_si, mm_l_si, w3]; decide, ?_⟩
  refine k _ ⟨h4, ⟨h3, fun i hi' hs => ?_, fun i hi' hs => ?_, fun i j a b => ad0_inj a b, mm_sm.rf _ _⟩, fun a ha => ⟨(h5 a ha).1, (h5 a ha).2.1, fun hne j => ⟨?_, ((h5 a ha).2.2 j).2 hne⟩⟩, fun a ha => ?_⟩
  · have hr : rk i < 22 := by
      unfold rk
      split
      · omega
      · split
        · omega
        · split <;> omega
    obtain ⟨x1, x2, x3, x4⟩ := h6 i hi' hs hr
    rw [ad0_f hs]
    refine ⟨x1, x2, x3, fun j hj => ?_⟩
    have e0 : ∀ i', mo_sc i' = false → (mm_z M0 + rk i = mm_z M0 + rk i' ↔ i = i') := fun i' hs' => ⟨fun w => rk_inj hs hs' (by omega), fun w => by rw [w]⟩
    rw [mm_i_si, if_neg (fun w => by omega), mm_i_si, mm_i_si, mm_i_si, x4]
    simp only [e0 0 rfl, e0 3 rfl, e0 2 rfl]
    unfold ra b0
    by_cases e8 : i = 8
    · subst e8
      rw [if_pos rfl, if_neg (by omega), if_neg (by omega), if_neg (by omega)]
    · rw [if_neg e8]
      by_cases ej : j = 0
      · subst ej
        by_cases c0 : i = 0
        · subst c0
          rfl
        · by_cases c3 : i = 3
          · subst c3
            rfl
          · by_cases c2 : i = 2
            · subst c2
              rfl
            · have c4 : i ≠ 4 := fun w => by subst w; cases hs
              rw [if_neg (by omega), if_neg (by omega), if_neg (by omega), if_neg (by omega), if_neg (by omega)]
              rfl
      · rw [if_neg (by omega), if_neg (by omega), if_neg (by omega), if_neg (by omega), if_neg (by omega)]
        rfl
  · have hne : ∀ i', a0 ≠ mm_z M0 + rk i' := fun i' => by omega
    rw [mm_i_si, mm_i_si, if_neg (show ¬ (a0 = mm_z M0 + rk 0 ∧ i = 0) from fun w => hne 0 w.1), mm_i_si, if_neg (show ¬ (a0 = mm_z M0 + rk 3 ∧ i = 0) from fun w => hne 3 w.1), mm_i_si, if_neg (show ¬ (a0 = mm_z M0 + rk 2 ∧ i = 0) from fun w => hne 2 w.1), ((h5 a0 h2).2.2 i).1, hi]
    unfold ra b0
    by_cases c4 : i = 4
    · subst c4
      rw [if_pos ⟨rfl, rfl⟩]
      rfl
    · have c8 : i ≠ 8 := fun w => by subst w; cases hs
      have c0 : i ≠ 0 := fun w => by subst w; cases hs
      have c2 : i ≠ 2 := fun w => by subst w; cases hs
      have c3 : i ≠ 3 := fun w => by subst w; cases hs
      rw [if_neg (by omega), if_neg c8, if_neg (by omega), if_neg (by omega)]
      rfl
  · rw [mm_i_si, if_neg (fun w => hne w.1), mm_i_si, if_neg (fun w => by omega), mm_i_si, if_neg (fun w => by omega), mm_i_si, if_neg (fun w => by omega)]
    exact ((h5 a ha).2.2 j).1
  · rcases Nat.lt_or_ge a (mm_z M) with w | w
    · have hex : ∃ i, i < 25 ∧ mo_sc i = false ∧ a = mm_z M0 + rk i := by
        have hd : ∀ d, d < 22 → ∃ i, i < 25 ∧ mo_sc i = false ∧ d = rk i := by
          intro d hd
          refine ⟨if d < 4 then d else if d < 13 then d + 1 else if d < 16 then d + 2 else d + 3, ?_⟩
          revert d
          decide
        obtain ⟨i, i1, i2, i3⟩ := hd (a - mm_z M0) (by omega)
        exact ⟨i, i1, i2, by omega⟩
      obtain ⟨i, i1, i2, i3⟩ := hex
      have hr : rk i < 22 := by omega
      rw [i3]
      show mm_k M _ = 0 ∨ mm_k M _ = 100 ∨ mm_k M _ = 101
      rw [(h6 i i1 i2 hr).2.1]
      unfold mo_kd
      split
      · exact Or.inr (Or.inr rfl)
      · exact Or.inr (Or.inl rfl)
    · refine Or.inl ?_
      show mm_k M a = 0
      rcases Nat.eq_zero_or_pos (mm_k M a) with e | e
      · exact e
      · have := h4 a (by omega)
        omega
set_option maxHeartbeats 4000000 in
set_option maxRecDepth 100000 in
theorem cm_init (hf : mm_fr M) (h9 : mm_k M a0 = 9) (hi : ∀ j, mm_i M a0 j = 0) (e1 : 4 ≤ xa → xa ≤ 24 → xa = nI t) (e2 : 4 ≤ xa → ¬ xa ≤ 24 → (24 : Int32) = nI t) (e3 : ¬ 4 ≤ xa → (4 : Int32) = nI t) (k : ∀ N, mi_N M a0 t N → K none N) : mm_Ok l G yy_Mo_init Y_Mo_init [.inr (some a0), .inl xa] M K := by
  have ha : a0 < mm_z M := hf a0 (by rw [h9]; decide)
  have h : bi M a0 (mm_z M) 0 M := ⟨rfl, ha, h9, hf, fun a _ => ⟨rfl, rfl, fun j => ⟨rfl, fun _ => rfl⟩⟩, fun i _ _ w => absurd w (Nat.not_lt_zero _)⟩
  refine sg_Mo_init ?_
  intro q0 hq0
  refine ⟨h.k9, ?_⟩
  replace h := h.s 0 100 8 hq0 rfl rfl rfl rfl
  generalize mm_sp (mm_nw M 100 8) a0 0 (some q0) = M100 at h ⊢
  clear hq0
  intro q1 hq1
  refine ⟨h.k9, ?_⟩
  replace h := h.s 1 100 8 hq1 rfl rfl rfl rfl
  generalize mm_sp (mm_nw M100 100 8) a0 1 (some q1) = M101 at h ⊢
  clear hq1
  intro q2 hq2
  refine ⟨h.k9, ?_⟩
  replace h := h.s 2 100 8 hq2 rfl rfl rfl rfl
  generalize mm_sp (mm_nw M101 100 8) a0 2 (some q2) = M102 at h ⊢
  clear hq2
  intro q3 hq3
  refine ⟨h.k9, ?_⟩
  replace h := h.s 3 101 8 hq3 rfl rfl rfl rfl
  generalize mm_sp (mm_nw M102 101 8) a0 3 (some q3) = M103 at h ⊢
  clear hq3
  intro q4 hq4
  refine ⟨h.k9, ?_⟩
  replace h := h.s 5 100 32 hq4 rfl rfl rfl rfl
  generalize mm_sp (mm_nw M103 100 32) a0 5 (some q4) = M104 at h ⊢
  clear hq4
  intro q5 hq5
  refine ⟨h.k9, ?_⟩
  replace h := h.s 6 100 60 hq5 rfl rfl rfl rfl
  generalize mm_sp (mm_nw M104 100 60) a0 6 (some q5) = M105 at h ⊢
  clear hq5
  intro q6 hq6
  refine ⟨h.k9, ?_⟩
  replace h := h.s 7 100 60 hq6 rfl rfl rfl rfl
  generalize mm_sp (mm_nw M105 100 60) a0 7 (some q6) = M106 at h ⊢
  clear hq6
  intro q7 hq7
  refine ⟨h.k9, ?_⟩
  replace h := h.s 8 100 60 hq7 rfl rfl rfl rfl
  generalize mm_sp (mm_nw M106 100 60) a0 8 (some q7) = M107 at h ⊢
  clear hq7
  intro q8 hq8
  refine ⟨h.k9, ?_⟩
  replace h := h.s 9 100 60 hq8 rfl rfl rfl rfl
  generalize mm_sp (mm_nw M107 100 60) a0 9 (some q8) = M108 at h ⊢
  clear hq8
  intro q9 hq9
  refine ⟨h.k9, ?_⟩
  replace h := h.s 10 100 180 hq9 rfl rfl rfl rfl
  generalize mm_sp (mm_nw M108 100 180) a0 10 (some q9) = M109 at h ⊢
  clear hq9
  intro q10 hq10
  refine ⟨h.k9, ?_⟩
  replace h := h.s 11 100 24 hq10 rfl rfl rfl rfl
  generalize mm_sp (mm_nw M109 100 24) a0 11 (some q10) = M110 at h ⊢
  clear hq10
  intro q11 hq11
  refine ⟨h.k9, ?_⟩
  replace h := h.s 12 100 24 hq11 rfl rfl rfl rfl
  generalize mm_sp (mm_nw M110 100 24) a0 12 (some q11) = M111 at h ⊢
  clear hq11
  intro q12 hq12
  refine ⟨h.k9, ?_⟩
  replace h := h.s 13 100 24 hq12 rfl rfl rfl rfl
  generalize mm_sp (mm_nw M111 100 24) a0 13 (some q12) = M112 at h ⊢
  clear hq12
  intro q13 hq13
  refine ⟨h.k9, ?_⟩
  replace h := h.s 15 100 4 hq13 rfl rfl rfl rfl
  generalize mm_sp (mm_nw M112 100 4) a0 15 (some q13) = M113 at h ⊢
  clear hq13
  intro q14 hq14
  refine ⟨h.k9, ?_⟩
  replace h := h.s 16 100 4 hq14 rfl rfl rfl rfl
  generalize mm_sp (mm_nw M113 100 4) a0 16 (some q14) = M114 at h ⊢
  clear hq14
  intro q15 hq15
  refine ⟨h.k9, ?_⟩
  replace h := h.s 17 100 4 hq15 rfl rfl rfl rfl
  generalize mm_sp (mm_nw M114 100 4) a0 17 (some q15) = M115 at h ⊢
  clear hq15
  intro q16 hq16
  refine ⟨h.k9, ?_⟩
  replace h := h.s 19 101 32 hq16 rfl rfl rfl rfl
  generalize mm_sp (mm_nw M115 101 32) a0 19 (some q16) = M116 at h ⊢
  clear hq16
  intro q17 hq17
  refine ⟨h.k9, ?_⟩
  replace h := h.s 20 101 32 hq17 rfl rfl rfl rfl
  generalize mm_sp (mm_nw M116 101 32) a0 20 (some q17) = M117 at h ⊢
  clear hq17
  intro q18 hq18
  refine ⟨h.k9, ?_⟩
  replace h := h.s 21 101 780 hq18 rfl rfl rfl rfl
  generalize mm_sp (mm_nw M117 101 780) a0 21 (some q18) = M118 at h ⊢
  clear hq18
  intro q19 hq19
  refine ⟨h.k9, ?_⟩
  replace h := h.s 22 100 8 hq19 rfl rfl rfl rfl
  generalize mm_sp (mm_nw M118 100 8) a0 22 (some q19) = M119 at h ⊢
  clear hq19
  intro q20 hq20
  refine ⟨h.k9, ?_⟩
  replace h := h.s 23 101 8 hq20 rfl rfl rfl rfl
  generalize mm_sp (mm_nw M119 101 8) a0 23 (some q20) = M120 at h ⊢
  clear hq20
  intro q21 hq21
  refine ⟨h.k9, ?_⟩
  replace h := h.s 24 101 60 hq21 rfl rfl rfl rfl
  generalize mm_sp (mm_nw M120 101 60) a0 24 (some q21) = M121 at h ⊢
  clear hq21
  refine ⟨fun c1 => ⟨fun c2 => ?_, fun c2 => ?_⟩, fun c1 => ?_⟩
  · rw [e1 c1 c2]
    exact mi_end h hi k
  · rw [e2 c1 c2]
    exact mi_end h hi k
  · rw [e3 c1]
    exact mi_end h hi k
end SZG
