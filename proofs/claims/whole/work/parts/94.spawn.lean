/-! THE CLASS AS A WHOLE: spawn -/
section QU
variable {l : Launch} {G : mm_G} {K : Option mm_V → mm_M → Prop} {M M1 Mb N : mm_M} {c : Nat → Nat} {F : Nat → Prop} {D D1 : ph_D} {eP eO eP1 eO1 : Nat} {p q a b i j : Nat} {x y z w : Int32}
theorem cp_spawn (hz : z = 0 ∨ z = 1) (ht : d_tr D) (hgh : d_gh D) (h : ph_R G c F Mb M D eP eO) (k0 : (∀ p, d_lv D p → x = nI p → y < 1 ∨ ¬ y ≤ 24) → K (some (.inl (-1))) M) (k1 : ∀ p, d_lv D p → x = nI p → ¬ y < 1 → y ≤ 24 → d_m D = 8 → K (some (.inl (-4))) M)
    (k2 : ∀ p M1, d_lv D p → x = nI p → ¬ y < 1 → y ≤ 24 → d_m D < 8 → ¬ z = 0 → d_S D p < y → ph_R G c F Mb M1 D eP eO → K (some (.inl (-5))) M1)
    (k3 : ∀ p q M1, d_lv D p → x = nI p → ¬ y < 1 → y ≤ 24 → d_m D < 8 → (z = 0 ∨ ¬ d_S D p < y) → ph_R G c F Mb M1 (d_sp D (d_m D) q x y z) eP eO → K (some (.inl (nI (d_m D)))) M1) : mm_Ok l G yy_PH_spawn Y_PH_spawn [.inr (some (c 0)), .inl x, .inl y, .inl z] M K := by
  have hX := h.2.1
  have hm := h.m
  refine sg_PH_spawn ⟨hX.1, cw_living h (fun hn _ => ⟨_, rfl, fun _ => k0 (fun p hp e => absurd e (hn p hp)), fun a u => by cases u⟩) (fun p q hp hp8 e hq h6 hQ _ => ⟨_, rfl, fun u => (by cases u), fun a ha => ?_⟩)⟩
  refine ⟨fun h1 => k0 (fun _ _ _ => Or.inl h1), fun h1 => ⟨fun h24 => ⟨fun h8 => ?_, fun h8 => k1 p hp e h1 h24 ?_⟩, fun h24 => k0 (fun _ _ _ => Or.inr h24)⟩⟩
  · have hm8 : d_m D < 8 := by
      rw [hm.2.2.2.1] at h8
      rcases Nat.lt_or_ge (d_m D) 8 with u | u
      · exact u
      · exact absurd (show nI (d_m D) < nI 8 from h8) (nI_nlt u (by omega))
    have go : ∀ M2, ph_R G c F Mb M2 D eP eO → (z = 0 ∨ ¬ d_S D p < y) → ∀ q6, q6 = mm_z M2 → mm_Ok l G yy_Pr_init Y_Pr_init [.inr (some q6), .inl (mm_i M2 (c 0) 5), .inl x, .inl y, .inl z] (mm_nw M2 6 8) (fun r M9 => mm_X (mm_nw M2 6 8) M9 → r = none ∧ ∃ a11 : Nat, (mm_p M2 (c 0) 3) = some a11 ∧ mm_k M9 a11 = 104 ∧ ∃ j14 : Nat, (mm_i M2 (c 0) 5) = nI j14 ∧ j14 < 2147483648 ∧ j14 < mm_l M9 a11 ∧ (∀ q, (some q6) = some q → mm_k M9 q = 6) ∧ mm_k (mm_sp M9 a11 j14 (some q6)) (c 0) = 1 ∧ K (some (.inl (mm_i M2 (c 0) 5))) (mm_si (mm_sp M9 a11 j14 (some q6)) (c 0) 5 ((mm_i (mm_sp M9 a11 j14 (some q6)) (c 0) 5) + 1))) := by
      intro M2 g2 hS q6 hq6
      have hm2 := g2.m
      rw [hm2.2.2.2.1]
      refine ct_prInit g2.1.1 hq6 hz (fun N q' hN _ => ⟨rfl, c 8, g2.2.1.2.2.2.2.1, ?_, d_m D, rfl, by omega, ?_, fun u hu => ?_, ?_, ?_⟩)
      · rw [(hN.1.1.2.1 (c 8) (by rw [g2.kar]; decide)).1]
        exact g2.kar
      · rw [(hN.1.1.2.1 (c 8) (by rw [g2.kar]; decide)).2, g2.lar]
        exact hm8
      · cases hu
        rw [hN.2.2.2.2.1, if_neg hN.2.2.2.1, if_pos rfl]
      · show mm_k N (c 0) = 1
        rw [(hN.1.1.2.1 (c 0) (by rw [g2.2.1.1]; decide)).1]
        exact g2.2.1.1
      · have e5 : mm_i (mm_sp N (c 8) (d_m D) (some q6)) (c 0) 5 = nI (d_m D) := by
          rw [mm_i_sp, (hN.1.2.2 (c 0) (by rw [g2.2.1.1]; decide) id 5).1]
          exact hm2.2.2.2.1
        rw [e5]
        exact k3 p q6 _ hp e h1 h24 hm8 hS (g2.spawn hm2.2.2.2.1 hm8 hN)
    refine ⟨fun hz0 => go M h (Or.inl hz0), fun hz0 => ?_⟩
    rw [e]
    refine cw_canPay h ht hgh hp8 (fun M1 g1 _ => ⟨_, rfl, fun hc => ?_, fun hc => ?_⟩)
    · have hS : ¬ d_S D p < y := fun u => by
        rw [if_pos u] at hc
        exact hc rfl
      have t := go M1 g1 (Or.inr hS)
      rw [e] at t
      exact t
    · have hS : d_S D p < y := by
        apply Decidable.byContradiction
        intro u
        rw [if_neg u] at hc
        exact absurd hc (by decide)
      exact k2 p M1 hp e h1 h24 hm8 hz0 hS g1
  · rw [hm.2.2.2.1] at h8
    rcases Nat.lt_or_ge (d_m D) 8 with u | u
    · exact absurd (show nI (d_m D) < nI 8 from nI_lt u (by decide)) h8
    · have := hm.2.1
      omega
end QU
