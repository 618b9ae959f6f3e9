/-! CLASS AND REFERENCE: a heap is merged into the kernel's -/
/-- c comes of b when some of the pages of h are moved -/
def mgI (b : rB) (h t : Nat) (c : rB) : Prop :=
  (∀ g, ¬ (g < 24 ∧ b 11 g = h + 1) → c 11 g = b 11 g ∧ c 13 g = b 13 g) ∧ (∀ g, g < 24 → b 11 g = h + 1 → (c 11 g = h + 1 ∧ c 13 g = b 13 g) ∨ (c 11 g = 9 ∧ b 14 0 < c 13 g ∧ c 13 g ≤ c 14 0)) ∧
  (∀ g q, g < 24 → q < 24 → b 11 g = h + 1 → b 11 q = h + 1 → c 11 g = 9 → c 11 q = h + 1 → b 13 g ≤ b 13 q) ∧ (∀ g q, g < 24 → q < 24 → b 11 g = h + 1 → b 11 q = h + 1 → c 11 g = 9 → c 11 q = 9 → b 13 g < b 13 q → c 13 g < c 13 q) ∧
  b 14 0 ≤ c 14 0 ∧ (List.range 24).countP (fun g => decide (c 11 g = h + 1)) ≤ 24 - t ∧ ∀ k j, k ≠ 11 → k ≠ 13 → k ≠ 14 → c k j = b k j
section SY1
variable {D D1 : ph_D} {b b1 c : rB} {L : Nat → Int32} {pg ob : Nat → Nat} {N n p h x y g k t : Nat}
theorem mgI_s (hh : h ≠ 8) (hi : mgI b h t c) : mgI b h (t + 1) (mg1 c h) := by
  obtain ⟨i1, i2, i3, i4, i5, i6, i7⟩ := hi
  unfold mg1
  split
  · rename_i hn
    refine ⟨i1, i2, i3, i4, i5, ?_, i7⟩
    have : (List.range 24).countP (fun g => decide (c 11 g = h + 1)) = 0 := by
      rw [List.countP_eq_zero]
      intro g hg u
      have := mnP_none hn g (List.mem_range.mp hg)
      rw [this] at u
      cases u
    omega
  · rename_i g0 hs
    obtain ⟨h1, h2, h3⟩ := mnP_some hs
    have h2 := of_decide_eq_true h2
    have hb0 : b 11 g0 = h + 1 := Classical.byContradiction (fun u => by
      have := (i1 g0 (fun w => u w.2)).1
      omega)
    have e11 : ∀ g, bu (bu (bu c 11 g0 9) 14 0 (c 14 0 + 1)) 13 g0 (c 14 0 + 1) 11 g = if g = g0 then 9 else c 11 g := fun g => by
      rw [bu_n (by decide), bu_n (by decide)]
      unfold bu
      by_cases e : g = g0
      · rw [if_pos ⟨rfl, e⟩, if_pos e]
      · rw [if_neg (fun u => e u.2), if_neg e]
    have e13 : ∀ g, bu (bu (bu c 11 g0 9) 14 0 (c 14 0 + 1)) 13 g0 (c 14 0 + 1) 13 g = if g = g0 then c 14 0 + 1 else c 13 g := fun g => by
      by_cases e : g = g0
      · rw [if_pos e, e, bu_s]
      · rw [if_neg e, bu_m e, bu_n (by decide), bu_n (by decide)]
    have e14 : bu (bu (bu c 11 g0 9) 14 0 (c 14 0 + 1)) 13 g0 (c 14 0 + 1) 14 0 = c 14 0 + 1 := by
      rw [bu_n (by decide), bu_s]
    refine ⟨fun g hg => ?_, fun g hg hb => ?_, fun g q hg hq hbg hbq c1 c2 => ?_, fun g q hg hq hbg hbq c1 c2 hlt => ?_, ?_, ?_, fun k j k1 k2 k3 => ?_⟩
    · have e : g ≠ g0 := fun u => hg ⟨by omega, by rw [u]; exact hb0⟩
      rw [e11, e13, if_neg e, if_neg e]
      exact i1 g hg
    · rw [e11, e13, e14]
      by_cases e : g = g0
      · rw [if_pos e, if_pos e]
        exact Or.inr ⟨rfl, by omega, Nat.le_refl _⟩
      · rw [if_neg e, if_neg e]
        rcases i2 g hg hb with u | u
        · exact Or.inl u
        · exact Or.inr ⟨u.1, u.2.1, by omega⟩
    · rw [e11] at c1 c2
      by_cases e2 : q = g0
      · rw [if_pos e2] at c2
        omega
      · rw [if_neg e2] at c2
        have hq13 : c 13 q = b 13 q := by
          rcases i2 q hq hbq with u | u
          · exact u.2
          · omega
        by_cases e : g = g0
        · rw [e]
          have := h3 q hq (decide_eq_true c2)
          have : c 13 g0 = b 13 g0 := by
            rcases i2 g0 h1 hb0 with u | u
            · exact u.2
            · omega
          omega
        · rw [if_neg e] at c1
          exact i3 g q hg hq hbg hbq c1 c2
    · rw [e11] at c1 c2
      rw [e13, e13]
      by_cases e : g = g0
      · by_cases e2 : q = g0
        · rw [e, e2] at hlt
          omega
        · rw [if_neg e2] at c2
          have := i3 q g0 hq h1 hbq hb0 c2 h2
          rw [e] at hlt
          omega
      · rw [if_neg e] at c1 ⊢
        by_cases e2 : q = g0
        · rw [if_pos e2]
          rcases i2 g hg hbg with u | u
          · omega
          · omega
        · rw [if_neg e2] at c2 ⊢
          exact i4 g q hg hq hbg hbq c1 c2 hlt
    · rw [e14]
      omega
    · have hcnt : (List.range 24).countP (fun g => decide (c 11 g = h + 1)) = (List.range 24).countP (fun g => decide (bu (bu (bu c 11 g0 9) 14 0 (c 14 0 + 1)) 13 g0 (c 14 0 + 1) 11 g = h + 1)) + 1 := by
        have hu := cnt_up (fun g => decide (bu (bu (bu c 11 g0 9) 14 0 (c 14 0 + 1)) 13 g0 (c 14 0 + 1) 11 g = h + 1)) g0 (by
          rw [e11, if_pos rfl]
          exact decide_eq_false (by omega)) 24
        rw [if_pos h1] at hu
        rw [← hu]
        refine List.countP_congr (fun g _ => ?_)
        rw [e11, Bool.or_eq_true, decide_eq_true_eq, decide_eq_true_eq, decide_eq_true_eq]
        by_cases e : g = g0
        · rw [if_pos e, e]
          exact ⟨fun _ => Or.inr rfl, fun _ => h2⟩
        · rw [if_neg e]
          exact ⟨fun u => Or.inl u, fun u => u.elim id (fun w => absurd w e)⟩
      omega
    · rw [bu_n k2, bu_n k3, bu_n k1]
      exact i7 k j k1 k2 k3
theorem mgI_T (hh : h ≠ 8) (t : Nat) : mgI b h t (mgT b h t) := by
  induction t with
  | zero =>
    refine ⟨fun g _ => ⟨rfl, rfl⟩, fun g _ e => Or.inl ⟨e, rfl⟩, fun g q _ _ e1 e2 e3 _ => ?_, fun g q _ _ e1 e2 e3 _ _ => ?_, Nat.le_refl _, ?_, fun _ _ _ _ _ => rfl⟩
    · have e3 : b 11 g = 9 := e3
      omega
    · have e3 : b 11 g = 9 := e3
      omega
    · exact Nat.le_trans List.countP_le_length (by rw [List.length_range]; omega)
  | succ t ih => exact mgI_s hh ih
theorem mgh_n {c : rB} {k : Nat} (i j : Nat) (h6 : k ≠ 6) : mgh c h i k j = c k j := if_neg (fun u => h6 u.1)
theorem mrg_n {k : Nat} (j : Nat) (h6 : k ≠ 6) : mrg b h k j = mgT b h 24 k j := by
  unfold mrg
  exact mgh_n 60 j h6
/-- c comes of b when h is merged -/
theorem mrg_6 (hh : h ≠ 8) : mrg b h 6 x = if x < 60 ∧ b 6 x = h + 1 then 9 else b 6 x := by
  have e : mgT b h 24 6 x = b 6 x := (mgI_T hh 24).2.2.2.2.2.2 6 x (by decide) (by decide) (by decide)
  show (if 6 = 6 ∧ x < 60 ∧ mgT b h 24 6 x = h + 1 then 9 else mgT b h 24 6 x) = _
  rw [e]
  by_cases c : x < 60 ∧ b 6 x = h + 1
  · rw [if_pos ⟨rfl, c⟩, if_pos c]
  · rw [if_neg (fun u => c u.2), if_neg c]
theorem mrg_k (hh : h ≠ 8) {k : Nat} (h6 : k ≠ 6) (h11 : k ≠ 11) (h13 : k ≠ 13) (h14 : k ≠ 14) (j : Nat) : mrg b h k j = b k j := by
  rw [mrg_n j h6]
  exact (mgI_T hh 24).2.2.2.2.2.2 k j h11 h13 h14
theorem mrg_11 (hh : h ≠ 8) : mrg b h 11 g = if g < 24 ∧ b 11 g = h + 1 then 9 else b 11 g := by
  rw [mrg_n g (by decide)]
  have hi := mgI_T (b := b) hh 24
  by_cases c : g < 24 ∧ b 11 g = h + 1
  · rw [if_pos c]
    rcases hi.2.1 g c.1 c.2 with u | u
    · exfalso
      have h0 : (List.range 24).countP (fun g => decide (mgT b h 24 11 g = h + 1)) = 0 := by
        have := hi.2.2.2.2.2.1
        omega
      rw [List.countP_eq_zero] at h0
      exact h0 g (List.mem_range.mpr c.1) (decide_eq_true u.1)
    · exact u.1
  · rw [if_neg c]
    exact (hi.1 g c).1
theorem mrg_13 (hh : h ≠ 8) : (¬ (g < 24 ∧ b 11 g = h + 1) → mrg b h 13 g = b 13 g) ∧ ((g < 24 ∧ b 11 g = h + 1) → b 14 0 < mrg b h 13 g ∧ mrg b h 13 g ≤ mrg b h 14 0) ∧ b 14 0 ≤ mrg b h 14 0 := by
  have hi := mgI_T (b := b) hh 24
  have e13 : mrg b h 13 g = mgT b h 24 13 g := mrg_n g (by decide)
  have e14 : mrg b h 14 0 = mgT b h 24 14 0 := mrg_n 0 (by decide)
  have e11 : mrg b h 11 g = mgT b h 24 11 g := mrg_n g (by decide)
  rw [e13, e14]
  refine ⟨fun c => (hi.1 g c).2, fun c => ?_, hi.2.2.2.2.1⟩
  have h9 := mrg_11 (b := b) (g := g) hh
  rw [if_pos c, e11] at h9
  rcases hi.2.1 g c.1 c.2 with u | u
  · omega
  · exact u.2
theorem mrg_13o (hh : h ≠ 8) {q : Nat} (hg : g < 24) (hq : q < 24) (h1 : b 11 g = h + 1) (h2 : b 11 q = h + 1) (hlt : b 13 g < b 13 q) : mrg b h 13 g < mrg b h 13 q := by
  have hi := mgI_T (b := b) hh 24
  have e13 : ∀ g, mrg b h 13 g = mgT b h 24 13 g := fun g => mrg_n g (by decide)
  have e11 : ∀ g, mrg b h 11 g = mgT b h 24 11 g := fun g => mrg_n g (by decide)
  rw [e13, e13]
  refine hi.2.2.2.1 g q hg hq h1 h2 ?_ ?_ hlt
  · rw [← e11, mrg_11 hh, if_pos ⟨hg, h1⟩]
  · rw [← e11, mrg_11 hh, if_pos ⟨hq, h2⟩]
theorem vG.mg (hG : vG b) (hb : rb N b) (hh : h ≠ 8) : vG (mrg b h) := by
  obtain ⟨g1, g2, g3, g4⟩ := hG
  have hpos : ∀ g, 0 < mrg b h 11 g ↔ 0 < b 11 g := fun g => by
    rw [mrg_11 hh]
    split
    · rename_i c
      exact ⟨fun _ => by omega, fun _ => by omega⟩
    · exact Iff.rfl
  refine ⟨fun x hx h0 => ?_, fun g h0 => ?_, fun g hg h0 => ?_, fun g q hg hq h1 h2 e => ?_⟩
  · rw [mrg_6 hh] at h0 ⊢
    have h00 : 0 < b 6 x := by
      split at h0
      · rename_i c
        omega
      · exact h0
    have h9 : b 9 x ≤ 23 := hb.2 9 x (by decide)
    obtain ⟨w1, w2⟩ := g1 x hx h00
    rw [mrg_k (k := 9) hh (by decide) (by decide) (by decide) (by decide), mrg_k (k := 7) hh (by decide) (by decide) (by decide) (by decide), mrg_11 hh, w1]
    refine ⟨?_, w2⟩
    by_cases c : b 6 x = h + 1
    · rw [if_pos ⟨by omega, c⟩, if_pos ⟨hx, c⟩]
    · rw [if_neg (fun u => c u.2), if_neg (fun u => c u.2)]
  · rw [hpos] at h0
    obtain ⟨w1, y, y1, y2, y3⟩ := g2 g h0
    refine ⟨w1, y, y1, ?_, by rw [mrg_k hh (by decide) (by decide) (by decide) (by decide)]; exact y3⟩
    rw [mrg_6 hh]
    split
    · omega
    · exact y2
  · rw [hpos] at h0
    obtain ⟨w1, w2⟩ := g3 g hg h0
    rw [mrg_k (k := 12) hh (by decide) (by decide) (by decide) (by decide), mrg_k (k := 0) hh (by decide) (by decide) (by decide) (by decide)]
    refine ⟨w1, ?_⟩
    obtain ⟨o1, o2, o3⟩ := mrg_13 (b := b) (g := g) hh
    by_cases c : g < 24 ∧ b 11 g = h + 1
    · exact (o2 c).2
    · rw [o1 c]
      omega
  · rw [hpos] at h1 h2
    obtain ⟨o1, o2, o3⟩ := mrg_13 (b := b) (g := g) hh
    obtain ⟨q1, q2, q3⟩ := mrg_13 (b := b) (g := q) hh
    have b1 := (g3 g hg h1).2
    have b2 := (g3 q hq h2).2
    by_cases c : g < 24 ∧ b 11 g = h + 1
    · by_cases d : q < 24 ∧ b 11 q = h + 1
      · refine g4 g q hg hq h1 h2 ?_
        rcases Nat.lt_trichotomy (b 13 g) (b 13 q) with u | u | u
        · have := mrg_13o hh hg hq c.2 d.2 u
          omega
        · exact u
        · have := mrg_13o hh hq hg d.2 c.2 u
          omega
      · have := (o2 c).1
        rw [q1 d] at e
        omega
    · by_cases d : q < 24 ∧ b 11 q = h + 1
      · have := (q2 d).1
        rw [o1 c] at e
        omega
      · rw [o1 c, q1 d] at e
        exact g4 g q hg hq h1 h2 e
theorem sR.mg (hs : sR D b L pg ob) (hG : vG b) (hb : rb N b) (hh : h ≠ 8) (h13 : h < 13) (hf : fzb b h = false) : sR (d_mg D (nI h)) (mrg b h) L pg ob := by
  obtain ⟨sx, so, sg, sp, sq, sh⟩ := hs
  have hk : ∀ k j, k ≠ 6 → k ≠ 11 → k ≠ 13 → k ≠ 14 → mrg b h k j = b k j := fun k j h1 h2 h3 h4 => mrg_k hh h1 h2 h3 h4 j
  have hi : ∀ k j, k ≠ 0 → (d_mg D (nI h)).2.1 k j = D.2.1 k j := fun k j h0 => (d_mg_n h0).symm
  have hl : ∀ x, 0 < mrg b h 6 x ↔ 0 < b 6 x := fun x => by
    rw [mrg_6 hh]
    split
    · rename_i c
      exact ⟨fun _ => by omega, fun _ => by omega⟩
    · exact Iff.rfl
  have hpos : ∀ g, 0 < mrg b h 11 g ↔ 0 < b 11 g := fun g => by
    rw [mrg_11 hh]
    split
    · rename_i c
      exact ⟨fun _ => by omega, fun _ => by omega⟩
    · exact Iff.rfl
  have hhp : ∀ g, g < 24 → 0 < b 11 g → (D.2.1 0 (pg g) = nI h ↔ b 11 g = h + 1) := fun g hg h0 => by
    rw [(sp g hg h0).1]
    have w : b 11 g ≤ 13 := hb.2 11 g (by decide)
    rw [nI_eq (by omega) (by omega)]
    omega
  have hfz : ∀ i, fzb (mrg b h) i = fzb b i := fzb_c (fun k _ => hk 15 k (by decide) (by decide) (by decide) (by decide))
  refine ⟨⟨?_, fun x y hx hy h1 h2 e => sx.2 x y hx hy ((hl x).mp h1) ((hl y).mp h2) e⟩, fun x hx h0 => ?_, ⟨?_, fun g q hg hq h1 h2 e => sg.2 g q hg hq ((hpos g).mp h1) ((hpos q).mp h2) e⟩, fun g hg h0 => ?_, sq.cong (fun k hk' j _ => hi k j (by omega)) (fun _ _ _ => rfl) (fun k hk' j => hk k j (by omega) (by omega) (by omega) (by omega)), sh.cong (hi 12 1 (by decide)) (fun _ => rfl) (fun k hk' j => hk k j (by omega) (by omega) (by omega) (by omega))⟩
  · have e : lvs (mrg b h) = lvs b := by
      unfold lvs
      refine List.filter_congr (fun x _ => ?_)
      rw [Bool.eq_iff_iff, decide_eq_true_eq, decide_eq_true_eq]
      exact hl x
    rw [e]
    exact sx.1
  · exact (so x hx ((hl x).mp h0)).cong (fun k hk' j => hi k j (by omega)) (fun _ _ _ => rfl) (fun k hk' j => hk k j (by omega) (by omega) (by omega) (by omega))
  · obtain ⟨⟨sl, l1, l2, l3⟩, l4⟩ := sg
    have hmem : ∀ g, g ∈ sl → (decide (D.2.1 0 (pg g) = nI h) = decide (b 11 g = h + 1)) := fun g hg => by
      have := (l3 g).mp hg
      rw [Bool.eq_iff_iff, decide_eq_true_eq, decide_eq_true_eq]
      exact hhp g this.1 this.2
    refine ⟨sl.filter (fun g => !decide (b 11 g = h + 1)) ++ sl.filter (fun g => decide (b 11 g = h + 1)), ?_, ?_, fun g => ?_⟩
    · show D.1.1.filter (fun g => !decide (D.2.1 0 g = nI h)) ++ D.1.1.filter (fun g => decide (D.2.1 0 g = nI h)) = _
      rw [l1, List.filter_map, List.filter_map, List.map_append]
      congr 1
      · congr 1
        refine List.filter_congr (fun g hg => ?_)
        show (!decide (D.2.1 0 (pg g) = nI h)) = _
        rw [hmem g hg]
      · congr 1
        exact List.filter_congr (fun g hg => hmem g hg)
    · have lt14 : ∀ g, g < 24 → 0 < b 11 g → b 13 g ≤ b 14 0 := fun g hg h0 => (hG.2.2.1 g hg h0).2
      rw [List.pairwise_append]
      refine ⟨?_, ?_, fun g hg q hq => ?_⟩
      · refine (l2.filter _).imp_of_mem (fun {a c} ha hc hlt => ?_)
        rw [List.mem_filter, Bool.not_eq_true', decide_eq_false_iff_not] at ha hc
        rw [(mrg_13 hh).1 (fun u => ha.2 u.2), (mrg_13 hh).1 (fun u => hc.2 u.2)]
        exact hlt
      · refine (l2.filter _).imp_of_mem (fun {a c} ha hc hlt => ?_)
        rw [List.mem_filter, decide_eq_true_eq] at ha hc
        exact mrg_13o hh ((l3 a).mp ha.1).1 ((l3 c).mp hc.1).1 ha.2 hc.2 hlt
      · rw [List.mem_filter, Bool.not_eq_true', decide_eq_false_iff_not] at hg
        rw [List.mem_filter, decide_eq_true_eq] at hq
        have g1 := (l3 g).mp hg.1
        have q1 := (l3 q).mp hq.1
        have := lt14 g g1.1 g1.2
        have := ((mrg_13 (b := b) (g := q) hh).2.1 ⟨q1.1, hq.2⟩).1
        rw [(mrg_13 hh).1 (fun u => hg.2 u.2)]
        omega
    · rw [List.mem_append, List.mem_filter, List.mem_filter, l3 g, hpos, Bool.not_eq_true', decide_eq_false_iff_not, decide_eq_true_eq]
      constructor
      · rintro (u | u)
        · exact u.1
        · exact u.1
      · intro u
        by_cases c : b 11 g = h + 1
        · exact Or.inr ⟨u, c⟩
        · exact Or.inl ⟨u, c⟩
  · have h00 := (hpos g).mp h0
    have hgm : pg g ∈ D.1.1 := sg.mem.mpr ⟨g, hg, h00, rfl⟩
    obtain ⟨q1, q2⟩ := sp g hg h00
    rw [hi 1 _ (by decide), hk 12 g (by decide) (by decide) (by decide) (by decide), hfz]
    show (if 0 = 0 ∧ pg g ∈ D.1.1 ∧ D.2.1 0 (pg g) = nI h then 8 else D.2.1 0 (pg g)) = _ ∧ _
    rw [mrg_11 hh]
    by_cases c : b 11 g = h + 1
    · rw [if_pos ⟨rfl, hgm, (hhp g hg h00).mpr c⟩, if_pos ⟨hg, c⟩]
      refine ⟨rfl, ?_⟩
      rw [q2, c, show h + 1 - 1 = h by omega, hf, show fzb b (9 - 1) = false from rfl]
    · rw [if_neg (fun u => c ((hhp g hg h00).mp u.2.2)), if_neg (fun u => c u.2)]
      exact ⟨q1, q2⟩
end SY1
