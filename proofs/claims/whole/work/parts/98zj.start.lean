/-! THE LAW FROM ITS START -/
section SZJ
variable {l : Launch} {G : mm_G} {K : Option mm_V → mm_M → Prop} {M M0 N N2 : mm_M} {a0 t scr L bc bs : Nat} {xs : Nat → Int32}
theorem ci_W.of (h : ci_N G scr a0 t M N) (hm : mi_N (mm_nw N 9 25) (a0 + 14) t N2) : ci_W G scr a0 t M N2 := by
  obtain ⟨m1, m2, m3, m4⟩ := hm
  have hz : mm_z N = a0 + 14 := h.1.2
  rw [mm_z_nw, hz] at m3 m4
  refine ⟨fun a ha => ?_, fun a ha => ?_, m1, N, h, fun a ha => ⟨?_, fun j => ?_⟩⟩
  · rw [(m3 a (by omega)).1, mm_k_nw, hz, if_neg (by omega)]
    exact h.1.1 a
  · by_cases e : a = a0 + 14
    · subst e
      exact Or.inr (Or.inl m2.1)
    · rcases m4 a (by omega) with w | w | w
      · exact Or.inl w
      · exact Or.inr (Or.inr (Or.inl w))
      · exact Or.inr (Or.inr (Or.inr w))
  · rw [(m3 a (by omega)).2.1, mm_l_nw, hz, if_neg (by omega)]
  · have := (m3 a (by omega)).2.2 (by omega) j
    rw [this.1, this.2, mm_i_nw, mm_p_nw, hz, if_neg (by omega), if_neg (by omega)]
    exact ⟨rfl, rfl⟩
theorem Tot0 (h4 : 4 ≤ t) (h24 : t ≤ 24) (hs : st_M G scr a0 M) (h : ci_N G scr a0 t M N) (hm : mi_N (mm_nw N 9 25) (a0 + 14) t N2) (hl : mm_l M scr = L) (hi : ∀ j, j < L → mm_i M scr j = xs j) :
    Tot G (c0 a0) (fun a => mo_C (a0 + 14) (ad0 (a0 + 15)) a ∨ a = scr) (a0 + 14) (ad0 (a0 + 15)) scr L xs 0 N2 := by
  have hW := ci_W.of h hm
  obtain ⟨m1, m2, m3, m4⟩ := hm
  have hz : mm_z N = a0 + 14 := h.1.2
  rw [mm_z_nw, hz] at m2
  have hE := hs.2.2.2.1
  have hsc := hs.2.2.2.2.1
  have hEs := hs.2.2.2.2.2.1
  have hne : ¬ mo_C (a0 + 14) (ad0 (a0 + 15)) scr := by
    rintro (w | ⟨k, _, w2, w⟩)
    · omega
    · rw [ad0_f w2] at w
      omega
  have ks : mm_k N2 scr = 106 := by rw [hW.1 scr (by omega)]; exact cv_s hsc hEs
  obtain ⟨N1, hN1, he⟩ := hW.2.2.2
  refine ⟨fun a ha => Or.inl ha, ⟨Or.inr rfl, hne⟩, ⟨ks, ?_, fun j hj => ?_⟩, m2.1, ?_, D0 (a0 + 12) t, b0 t, fun _ => 0, fun _ => 0, fun _ => 0, G.2.2.2.1, G.2.2.2.1, ci_R hW hE (fun a ha => ?_), m2, Rel0 h4 h24 _⟩
  · rw [(he scr (by omega)).1, hN1.2.1.2.2.2.2.2.2.2.2]
    exact hl
  · rw [((he scr (by omega)).2 j).1, hN1.2.2.2.2.2.2.2 j]
    exact hi j hj
  · show mm_k N2 a0 = 1
    rw [hW.1 a0 (by omega)]
    exact cv_0
  · rcases ha with (w | ⟨k, w1, w2, w⟩) | w
    · subst w
      exact ⟨Or.inl m2.1, by omega, by omega, by omega⟩
    · have hk := (m2.2.1 k w1 w2).2.1
      rw [← w] at hk
      rw [ad0_f w2] at w
      refine ⟨?_, by omega, by omega, by omega⟩
      rw [hk]
      unfold mo_kd
      split
      · exact Or.inr (Or.inr (Or.inl rfl))
      · exact Or.inr (Or.inl rfl)
    · subst w
      exact ⟨Or.inr (Or.inr (Or.inr ks)), by omega, by omega, by omega⟩
theorem cell0 (hk : mm_k M scr = 106) (hl : mm_l M scr = L) (hi : ∀ j, j < L → mm_i M scr j = xs j) (hL : L ≤ 2561) (k : K (some (.inl (if L = 0 then 0 else xs 0))) M) : mm_Ok l G yy_La_cell Y_La_cell [.inr (some scr), .inl 0] M K := by
  refine sg_La_cell ⟨scr, rfl, hk, fun w => ?_, fun w => ?_⟩
  · rw [hl] at w
    have e : L = 0 := Nat.le_zero.mp (leN L 0 w)
    rw [if_pos e] at k
    exact k
  · rw [hl] at w
    have e : 0 < L := nleN L 0 w
    rw [if_neg (by omega)] at k
    refine ⟨0, rfl, by decide, by rw [hl]; exact e, ?_⟩
    rw [hi 0 e]
    exact k
/-- what the memory is at the law's entry -/
def st_0 (G : mm_G) (scr L : Nat) (xs : Nat → Int32) (M : mm_M) : Prop := (∀ a, mm_k M a = if a = G.2.2.2.1 then 105 else if a = scr then 106 else 0) ∧ mm_l M G.2.2.2.1 = 0 ∧ G.2.2.2.1 < mm_z M ∧ scr < mm_z M ∧ G.2.2.2.1 ≠ scr ∧ mm_l M scr = L ∧ ∀ j, j < L → mm_i M scr j = xs j
theorem law_start (hs : st_0 G scr L xs M) (hL : L ≤ 2561) : mm_Zq l G Y_La_law (lx_E G scr) lx_Qf M0 (7 * 513 + 38) (315 * 513 + 1779) 0 [some (.inr (some scr)), none, none, none] [] M := by
  obtain ⟨hk, hlE, hE, hsc, hEs, hl, hi⟩ := hs
  have ks : mm_k M scr = 106 := by rw [hk, if_neg (fun w => hEs w.symm), if_pos rfl]
  refine sg_La_law_0 (bc := 7 * 513) (bs := 315 * 513) (fun q1 hq1 => ?_)
  have hs1 : st_M G scr q1 (mm_nw M 1 7) := by
    subst hq1
    refine ⟨mm_z_nw _ _ _, fun a => ?_, ?_, hE, hsc, hEs, fun j => ?_, fun j => ?_⟩
    · rw [mm_k_nw, hk]
    · rw [mm_l_nw, if_neg (by omega)]
      exact hlE
    · rw [mm_i_nw, if_pos rfl]
    · rw [mm_p_nw, if_pos rfl]
  have hsl : scr < q1 := hs1.2.2.2.2.1
  have hz1 : mm_z M = q1 := hq1.symm
  have ks1 : mm_k (mm_nw M 1 7) scr = 106 := by rw [mm_k_nw, if_neg (by omega)]; exact ks
  have hl1 : mm_l (mm_nw M 1 7) scr = L := by rw [mm_l_nw, if_neg (by omega)]; exact hl
  have hi1 : ∀ j, j < L → mm_i (mm_nw M 1 7) scr j = xs j := fun j hj => by rw [mm_i_nw, if_neg (by omega)]; exact hi j hj
  generalize mm_nw M 1 7 = Ms at hs1 ks1 hl1 hi1 ⊢
  refine cell0 ks1 hl1 hi1 hL (fun _ => ⟨_, rfl, ?_⟩)
  obtain ⟨t, t4, t24, e0, e1, e2, e3⟩ := lim4 (if L = 0 then 0 else xs 0)
  refine cp_init hs1 e0 (fun N hN _ => ⟨rfl, fun q9 hq9 => ?_⟩)
  have hz : mm_z N = q1 + 14 := hN.1.2
  have hq9 : q9 = q1 + 14 := by rw [hq9, hz]
  subst hq9
  have hEs1 := hs1.2.2.2.2.2.1
  have ksN : mm_k N scr = 106 := by rw [hN.1.1]; exact cv_s hsl hEs1
  have ks2 : mm_k (mm_nw N 9 25) scr = 106 := by rw [mm_k_nw, if_neg (by omega)]; exact ksN
  have hl2 : mm_l (mm_nw N 9 25) scr = L := by rw [mm_l_nw, if_neg (by omega), hN.2.1.2.2.2.2.2.2.2.2]; exact hl1
  have hi2 : ∀ j, j < L → mm_i (mm_nw N 9 25) scr j = xs j := fun j hj => by rw [mm_i_nw, if_neg (by omega), hN.2.2.2.2.2.2.2 j]; exact hi1 j hj
  refine cell0 ks2 hl2 hi2 hL (fun _ => ⟨_, rfl, ?_⟩)
  have hfN : mm_fr N := fun a ha => by
    rw [hN.1.1] at ha
    rw [hz]
    have hE1 := hs1.2.2.2.1
    by_cases w : a < q1 + 14
    · exact w
    · exfalso
      apply ha
      unfold ci_K
      rw [if_neg (by omega), if_neg (by omega), if_neg (by omega), if_neg (by omega), if_neg (by omega), if_neg (by omega), if_neg (by omega), if_neg (by omega), if_neg (by omega), if_neg (by omega), if_neg (by omega), if_neg (by omega), if_neg (by omega), if_neg (by omega), if_neg (by omega), if_neg (by omega)]
  refine cm_init (mm_gr.nw (kd := 9) (n := 25) (S := fun _ => False) hfN).2.1 (by rw [mm_k_nw, if_pos hz.symm]) (fun j => by rw [mm_i_nw, if_pos hz.symm]) e1 e2 e3 (fun N2 hm _ => ⟨rfl, ?_⟩)
  have hT := Tot0 t4 t24 hs1 hN hm hl1 hi1
  have hq := law_loop (l := l) (M0 := M0) (bc := 0) (bs := 0) hL 513 1 0 N2 hT (by omega) (by omega) (by omega)
  exact hq.up (by omega) (by omega)
end SZJ
