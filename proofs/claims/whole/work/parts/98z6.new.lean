/-! CLASS AND REFERENCE: the page for an object -/
section SZ6
variable {D D1 : ph_D} {b b1 b2 c f : rB} {L : Nat → Int32} {pg ob U T : Nat → Nat} {N n p h x y g k r v u s q m a d : Nat} {t : Int32}
theorem bump2 (hb : rb N b) (hT : vT b) (hu : vU b) (hE : ∀ n, n < 8 → wkE b U T n) (hn : n < 8) (hl : n = 0 ∨ lv b n) (hd : d ≤ 24) (hr : nI d ≤ rsn b U n) : vUo b (fup (ow b) n (ow b n + d)) := by
  have hm : n < b 4 0 := hl.elim (fun w => by have := hT.1; omega) (fun w => lv_made hT hn w)
  refine (vUo_bump (o := ow b) (d := d) hT hu n 8 (by omega) hm (fun U1 T1 hE1 => ?_)).1
  have hTn : T1 n ≠ 0 := (wkO_T (hE1 n hn)).mpr (hl.elim Or.inl (fun w => Or.inr (Or.inl w)))
  have hq := wkO_u (k := 0) (o := ow b) (o1 := ow b) (fun m _ hm => hE m hm) (fun m _ hm => hE1 m hm) (fun _ _ _ => rfl)
  refine ⟨hTn, room_chn hb hT hu hE1 hm hTn hd ?_⟩
  rw [rsn_c hb (fun m hm => (hq m (by omega) hm).1) hn]
  exact hr
theorem page_left2 (hb : rb N b) (hv : iV b) (hF : vF b) (hE : ∀ n, n < 8 → wkE b U T n) (hn : n < 8) (hl : n = 0 ∨ lv b n) (hr : (1 : Int32) ≤ rsn b U n) : ∃ g, g < 24 ∧ b 11 g = 0 := by
  obtain ⟨hO, hG, hS, hB, hT, hu⟩ := hv
  apply Decidable.byContradiction
  intro hno
  have h24 := all_paid hb hF (fun g hg => Nat.pos_of_ne_zero (fun u => hno ⟨g, hg, u⟩)) (fun g => by
    have : b 12 g ≤ 7 := hb.2 12 g (by decide)
    omega)
  have hbp := bump2 (d := 1) hb hT hu hE hn hl (by omega) hr
  obtain ⟨U1, T1, _, hE1⟩ := wkO_ex b (fup (ow b) n (ow b n + 1))
  have hs := sum_le hT hbp hE1 (fun m hm h0 => by
    unfold fup at h0
    split at h0
    · rename_i e
      rw [e]
      rcases hl with w | w
      · rw [w]
        exact (hT.2.2.1 0 (by omega)).mpr hT.1
      · exact w.1
    · exact ow_made hG hS hm h0)
  have h1 : sm (fup (ow b) n (ow b n + 1)) 8 = sm (ow b) 8 + 1 := sm_one hn (fun i _ hi => if_neg hi) (if_pos rfl)
  have h2 := hbp U1 T1 hE1 0 (by omega) ((hT.2.2.1 0 (by omega)).mpr hT.1) ((wkO_T (hE1 0 (by omega))).mpr (Or.inl rfl))
  have h3 : b 2 0 ≤ 24 := hb.2 2 0 (by decide)
  omega
theorem rhm_or (b : rB) (p : Nat) : (2 ≤ b 0 p ∧ rhm b p = 8 ∧ rnm b p = 0) ∨ (¬ 2 ≤ b 0 p ∧ rnm b p = p ∧ (rhm b p = p ∨ ∃ k, k < 4 ∧ rhm b p = 9 + k ∧ b 15 k = 1 ∧ b 16 k = p)) := by
  by_cases c : 2 ≤ b 0 p
  · exact Or.inl ⟨c, if_pos c, if_pos c⟩
  · refine Or.inr ⟨c, if_neg c, ?_⟩
    rw [show rhm b p = rbk b p 4 from if_neg c]
    rcases rbk_or b p 4 with w | ⟨i, w1, w2, w3, w4⟩
    · exact Or.inl w
    · exact Or.inr ⟨i, w1, w2, w3, w4⟩
theorem iV_new (hv : iV b) (hR : vR b) (hb : rb N b) (hp : p < 8) (hl : lv b p) (hr4 : r < 4) (hx : x < 60) (h0 : b 6 x = 0) (hs1 : 1 ≤ s) (hg : g < 24) (hgo : b 11 g = 0 ∨ b 11 g = h + 1) (hh : h = 8 ∨ h = p ∨ ∃ k, k < 4 ∧ h = 9 + k ∧ b 15 k = 1 ∧ b 16 k = p)
    (fk : ∀ k, k = 0 ∨ k = 1 ∨ k = 2 ∨ k = 3 ∨ k = 4 ∨ k = 15 ∨ k = 16 ∨ k = 17 ∨ k = 18 ∨ k = 19 ∨ k = 20 ∨ k = 21 → ∀ j, f k j = b k j) (f5 : ∀ j, f 5 j = if j = 4 * p + r then x + 1 else b 5 j) (f6 : ∀ j, f 6 j = if j = x then h + 1 else b 6 j) (f7 : ∀ j, f 7 j = if j = x then s else b 7 j) (f9 : ∀ j, f 9 j = if j = x then g else b 9 j) (f10 : ∀ y i, i < 3 → f 10 (3 * y + i) = if y = x then 0 else b 10 (3 * y + i))
    (f11 : ∀ j, f 11 j = if j = g then h + 1 else b 11 j) (f12 : ∀ j, j ≠ g → f 12 j = b 12 j) (f12g : 0 < b 0 (f 12 g)) (f12b : ∀ k, k < 4 → h = 9 + k → f 12 g = b 16 k) (f13 : ∀ j, j ≠ g → f 13 j = b 13 j) (f13g : (b 11 g ≠ 0 ∧ f 13 g = b 13 g ∧ f 14 0 = b 14 0) ∨ (f 13 g = b 14 0 + 1 ∧ f 14 0 = b 14 0 + 1)) (hU : vU f) : iV f ∧ vR f := by
  obtain ⟨⟨o1, o2, o3, o4, o5⟩, ⟨g1, g2, g3, g4⟩, ⟨s1, s2, s3, s4, s5⟩, ⟨w1, w2, w3, w4, w5⟩, hT, _⟩ := hv
  have hlf : ∀ q, lv f q ↔ lv b q := fun q => lv_c (fk 0 (by omega) q)
  have pos : ∀ y, 0 < b 6 y → y ≠ x := fun y hy w => by rw [w] at hy; omega
  have keep : ∀ y, y ≠ x → f 6 y = b 6 y := fun y hy => by rw [f6, if_neg hy]
  have i21 : ∀ i y, i < 13 → y < 60 → b 21 (60 * i + y) ≠ 0 → y ≠ x := fun i y hi hy w => pos y (o4 i y hi hy w).1
  have stg : ∀ k, k < 4 → h + 1 = 10 + k → b 15 k = 1 ∧ b 16 k = p := fun k hk e => by
    rcases hh with w | w | ⟨i, i1, i2, i3, i4⟩
    · omega
    · omega
    · rw [show k = i by omega]
      exact ⟨i3, i4⟩
  have gpos : ∀ j, 0 < f 11 j ↔ j = g ∨ 0 < b 11 j := fun j => by
    rw [f11]
    by_cases e : j = g
    · rw [if_pos e]
      exact ⟨fun _ => Or.inl e, fun _ => by omega⟩
    · rw [if_neg e]
      exact ⟨fun w => Or.inr w, fun w => w.resolve_left e⟩
  have hle : ∀ j, j < 24 → 0 < b 11 j → b 13 j ≤ b 14 0 := fun j hj w => (g3 j hj w).2
  refine ⟨⟨⟨fun q i hq hi w => ?_, fun y i hy hy0 hi w => ?_, fun y i hy hy0 hi w hne => ?_, fun i y hi hy w => ?_, fun q i hq hi hn => ?_⟩, ⟨fun y hy hy0 => ?_, fun j hj0 => ?_, fun j hj hj0 => ?_, fun i j hi hj h1 h2 e => ?_⟩, ⟨fun q k hq hk => ?_, fun q k hq hk w => ?_, fun q i k hq hi hk w e e2 => ?_, fun q y k hq hy hk w e => ?_, fun y k hy hk w e => ?_⟩, ⟨fun j k hj hk e => ?_, fun k hk e => ?_, fun k q hk hq e1 e2 e3 => ?_, fun k hk e => ?_, fun k hk => ?_⟩, hT.cong (fun k hk j => fk k (by omega) j), hU⟩, fun q i k hq hi hk w e e2 => ?_⟩
  · rw [f5] at w ⊢
    by_cases e : 4 * q + i = 4 * p + r
    · rw [if_pos e, f6, if_pos (by omega)]
      omega
    · rw [if_neg e] at w ⊢
      have z := o1 q i hq hi w
      rw [keep _ (pos _ z)]
      exact z
  · rw [f10 y i hi] at w ⊢
    by_cases e : y = x
    · rw [if_pos e] at w
      omega
    · rw [if_neg e] at w ⊢
      rw [keep y e] at hy0
      have z := o2 y i hy hy0 hi w
      rw [keep _ (pos _ z)]
      exact z
  · rw [f10 y i hi] at w hne ⊢
    by_cases e : y = x
    · rw [if_pos e] at w
      omega
    · rw [if_neg e] at w hne ⊢
      rw [keep y e] at hy0 hne ⊢
      have z := o2 y i hy hy0 hi w
      rw [keep _ (pos _ z)] at hne
      rw [fk 21 (by omega)]
      exact o3 y i hy hy0 hi w hne
  · rw [fk 21 (by omega)] at w
    obtain ⟨q1, q2, q3, q4⟩ := o4 i y hi hy w
    rw [keep y (pos y q1)]
    exact ⟨q1, q2, q3, fun z => (hlf i).mpr (q4 z)⟩
  · rw [f5, if_neg (fun z => hn ((hlf q).mpr (by rw [show q = p by omega]; exact hl)))]
    exact o5 q i hq hi (fun z => hn ((hlf q).mpr z))
  · rw [f9, f7, f11]
    by_cases e : y = x
    · rw [if_pos e, if_pos e, if_pos rfl, f6, if_pos e]
      exact ⟨rfl, hs1⟩
    · rw [keep y e] at hy0 ⊢
      rw [if_neg e, if_neg e]
      obtain ⟨q1, q2⟩ := g1 y hy hy0
      refine ⟨?_, q2⟩
      by_cases e9 : b 9 y = g
      · rw [if_pos e9]
        rw [e9] at q1
        clear hh f13g
        omega
      · rw [if_neg e9]
        exact q1
  · rw [gpos] at hj0
    by_cases e : j = g
    · rw [e]
      exact ⟨hg, x, hx, by rw [f6, if_pos rfl]; omega, by rw [f9, if_pos rfl]⟩
    · obtain ⟨q1, y, y1, y2, y3⟩ := g2 j (hj0.resolve_left e)
      have z := pos y y2
      exact ⟨q1, y, y1, by rw [keep y z]; exact y2, by rw [f9, if_neg z]; exact y3⟩
  · rw [gpos] at hj0
    rw [fk 0 (by omega)]
    by_cases e : j = g
    · rw [e]
      refine ⟨f12g, ?_⟩
      rcases f13g with ⟨q1, q2, q3⟩ | ⟨q1, q2⟩
      · rw [q2, q3]
        exact hle g hg (by omega)
      · omega
    · rw [f12 j e, f13 j e]
      have z := g3 j hj (hj0.resolve_left e)
      refine ⟨z.1, ?_⟩
      rcases f13g with ⟨q1, q2, q3⟩ | ⟨q1, q2⟩ <;> omega
  · rw [gpos] at h1 h2
    by_cases ei : i = g
    · by_cases ej : j = g
      · omega
      · rw [ei, f13 j ej] at e
        have z := hle j hj (h2.resolve_left ej)
        rcases f13g with ⟨q1, q2, q3⟩ | ⟨q1, q2⟩
        · rw [q2] at e
          rw [ei]
          exact g4 g j hg hj (by omega) (h2.resolve_left ej) e
        · omega
    · by_cases ej : j = g
      · rw [ej, f13 i ei] at e
        have z := hle i hi (h1.resolve_left ei)
        rcases f13g with ⟨q1, q2, q3⟩ | ⟨q1, q2⟩
        · rw [q2] at e
          rw [ej]
          exact g4 i g hi hg (h1.resolve_left ei) (by omega) e
        · omega
      · rw [f13 i ei, f13 j ej] at e
        exact g4 i j hi hj (h1.resolve_left ei) (h2.resolve_left ej) e
  · rw [fk 19 (by omega), fk 20 (by omega), hlf]
    exact s1 q k hq hk
  · rw [fk 20 (by omega)] at w
    rw [fk 15 (by omega), fk 0 (by omega)]
    exact s2 q k hq hk w
  · rw [f5] at w e
    rw [fk 15 (by omega)] at e2
    rw [fk 20 (by omega)]
    by_cases e3 : 4 * q + i = 4 * p + r
    · rw [if_pos e3, f6, if_pos (by omega)] at e
      have := (stg k hk e).1
      omega
    · rw [if_neg e3] at w e
      rw [keep _ (pos _ (o1 q i hq hi w))] at e
      exact s3 q i k hq hi hk w e e2
  · rw [fk 21 (by omega)] at w
    rw [keep y (i21 q y (by omega) hy w)] at e
    rw [fk 20 (by omega)]
    exact s4 q y k hq hy hk w e
  · rw [fk 21 (by omega)] at w
    rw [keep y (i21 8 y (by omega) hy w)] at e
    obtain ⟨q, q1, q2, q3⟩ := s5 y k hy hk w e
    exact ⟨q, q1, by rw [fk 0 (by omega)]; exact q2, by rw [fk 20 (by omega)]; exact q3⟩
  · rw [f11] at e
    rw [fk 15 (by omega), fk 16 (by omega)]
    by_cases ej : j = g
    · rw [if_pos ej] at e
      rw [ej]
      exact Or.inr ⟨(stg k hk e).1, f12b k hk (by omega)⟩
    · rw [if_neg ej] at e
      rw [f12 j ej]
      exact w1 j k hj hk e
  · rw [fk 15 (by omega)] at e
    rw [fk 16 (by omega)]
    exact (hlf _).mpr (w2 k hk e)
  · rw [fk 15 (by omega)] at e1 e2
    rw [fk 16 (by omega), fk 16 (by omega)] at e3
    exact w3 k q hk hq e1 e2 e3
  · rw [fk 15 (by omega)] at e
    rw [fk 17 (by omega)]
    have z := w4 k hk e
    rw [keep _ (pos _ (by omega))]
    exact z
  · rw [fk 18 (by omega), fk 15 (by omega)]
    exact w5 k hk
  · rw [f5] at w e
    rw [fk 15 (by omega)] at e2
    rw [fk 16 (by omega)]
    by_cases e3 : 4 * q + i = 4 * p + r
    · rw [if_pos e3, f6, if_pos (by omega)] at e
      rw [show q = p by omega]
      exact (stg k hk e).2
    · rw [if_neg e3] at w e
      rw [keep _ (pos _ (o1 q i hq hi w))] at e
      exact hR q i k hq hi hk w e e2
theorem ow_npg (h0 : b 11 g = 0) (hg : g < 24) (hf : fzb b h = false) (h20 : ∀ q k, q < 8 → k < 4 → b 20 (4 * q + k) ≠ 0 → b 15 k = 2) (f11 : ∀ j, f 11 j = if j = g then h + 1 else b 11 j) (f12 : ∀ j, f 12 j = if j = g then n else b 12 j) (f15 : ∀ k, f 15 k = b 15 k) (f20 : ∀ j, f 20 j = b 20 j) (i : Nat) (hi : i < 8) : ow f i = fup (ow b) n (ow b n + 1) i := by
  have hfz : ∀ j, fzb f j = fzb b j := fzb_c (fun k _ => f15 k)
  have e1 : ∀ j, j ≠ g → opg f i j = opg b i j := fun j hj => by
    unfold opg
    rw [f11, f12, if_neg hj, if_neg hj, hfz]
  have hbg : opg b i g = false := Bool.eq_false_iff.mpr (fun w => by have := (opg_t.mp w).1; omega)
  have hfg : opg f i g = true ↔ i = n := by
    rw [opg_t, f11, f12, if_pos rfl, if_pos rfl, hfz, show h + 1 - 1 = h by omega]
    exact ⟨fun w => w.2.2.symm, fun w => ⟨by omega, hf, w.symm⟩⟩
  have hk : ∀ k, k < 4 → opk f i k = opk b i k := fun k hk => by
    unfold opk
    rw [f20]
    by_cases c : b 20 (4 * i + k) = 0
    · rw [if_pos c, if_pos c]
    · rw [if_neg c, if_neg c]
      have h2 := h20 i k hi hk c
      unfold pc
      refine List.countP_congr (fun j _ => ?_)
      rw [f11, decide_eq_true_eq, decide_eq_true_eq]
      by_cases e : j = g
      · rw [if_pos e, e, h0]
        constructor
        · intro w
          have : fzb b h = true := fzb_t.mpr ⟨by omega, by omega, by rw [show h - 9 = k by omega]; exact h2⟩
          rw [hf] at this
          cases this
        · intro w
          omega
      · rw [if_neg e]
  unfold ow
  rw [sm_c hk]
  have hc : (List.range 24).countP (opg f i) = (List.range 24).countP (opg b i) + if i = n then 1 else 0 := by
    by_cases e : i = n
    · rw [if_pos e]
      have hu := cnt_up (opg b i) g hbg 24
      rw [if_pos hg] at hu
      rw [← hu]
      refine List.countP_congr (fun j _ => ?_)
      by_cases ej : j = g
      · rw [ej, hfg.mpr e]
        simp
      · rw [e1 j ej, decide_eq_false ej, Bool.or_false]
    · rw [if_neg e, Nat.add_zero]
      refine List.countP_congr (fun j _ => ?_)
      by_cases ej : j = g
      · rw [ej, hbg]
        exact ⟨fun w => absurd (hfg.mp w) e, fun w => by cases w⟩
      · rw [e1 j ej]
  rw [hc]
  unfold fup
  by_cases e : i = n
  · rw [if_pos e, if_pos e, e]
    omega
  · rw [if_neg e, if_neg e, Nat.add_zero]
end SZ6
