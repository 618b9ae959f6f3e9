/-! CLASS AND REFERENCE: a page, an object -/
section SZ5
variable {D D1 : ph_D} {b b1 b2 c : rB} {L : Nat → Int32} {pg ob U T : Nat → Nat} {N n p h x y g k r v u f s q m a : Nat} {t : Int32}
theorem d_s_app (a : Nat) : ∀ l1 l2 : List Nat, d_s D a (l1 ++ l2) = d_s D a l1 + d_s D a l2
  | [], l2 => (Int32.zero_add _).symm
  | z :: l1, l2 => by
    show (if D.2.2 0 z = some a then D.2.1 3 z + d_s D a (l1 ++ l2) else d_s D a (l1 ++ l2)) = (if D.2.2 0 z = some a then D.2.1 3 z + d_s D a l1 else d_s D a l1) + d_s D a l2
    rw [d_s_app a l1 l2]
    split
    · rw [Int32.add_assoc]
    · rfl
theorem d_s_perm (a : Nat) {l1 l2 : List Nat} (h : l1.Perm l2) : d_s D a l1 = d_s D a l2 := by
  induction h with
  | nil => rfl
  | cons z _ ih =>
    show (if D.2.2 0 z = some a then D.2.1 3 z + d_s D a _ else d_s D a _) = (if D.2.2 0 z = some a then D.2.1 3 z + d_s D a _ else d_s D a _)
    rw [ih]
  | swap z w l =>
    show (if D.2.2 0 w = some a then D.2.1 3 w + (if D.2.2 0 z = some a then D.2.1 3 z + d_s D a l else d_s D a l) else (if D.2.2 0 z = some a then D.2.1 3 z + d_s D a l else d_s D a l)) = (if D.2.2 0 z = some a then D.2.1 3 z + (if D.2.2 0 w = some a then D.2.1 3 w + d_s D a l else d_s D a l) else (if D.2.2 0 w = some a then D.2.1 3 w + d_s D a l else d_s D a l))
    split
    · split
      · rw [← Int32.add_assoc, ← Int32.add_assoc, Int32.add_comm (D.2.1 3 w)]
      · rfl
    · rfl
  | trans _ _ h1 h2 => exact h1.trans h2
theorem d_A.ap (hA : d_A D) (hq : q ∉ D.1.1) (hn pn : Int32) : d_A (d_ap D q hn pn) := by
  obtain ⟨a1, a2, a3, a4⟩ := hA
  have hs : ∀ g ys, d_s (d_ap D q hn pn) g ys = d_s D g ys := fun g ys => d_s_cong g ys (fun a _ => ⟨rfl, by
    show (if a = q ∧ 3 = 0 then hn else if a = q ∧ 3 = 1 then pn else if a = q ∧ 3 = 2 then 16 else D.2.1 3 a) = _
    rw [if_neg (fun w => by cases w.2), if_neg (fun w => by cases w.2), if_neg (fun w => by cases w.2)]⟩)
  refine ⟨fun a ha => ?_, fun g hg => ?_, fun a ha => ?_, a4⟩
  · obtain ⟨g, g1, g2⟩ := a1 a ha
    exact ⟨g, List.mem_append_left _ g1, g2⟩
  · show (d_ap D q hn pn).2.1 2 g + d_s (d_ap D q hn pn) g D.1.2 = 16
    rw [hs]
    by_cases e : g = q
    · rw [e, d_s_zero q D.1.2 (fun a ha w => by
        obtain ⟨g2, g3, g4⟩ := a1 a ha
        rw [g4] at w
        exact hq (by rw [← Option.some.inj w]; exact g3)), Int32.add_zero]
      show (if q = q ∧ 2 = 0 then hn else if q = q ∧ 2 = 1 then pn else if q = q ∧ 2 = 2 then 16 else D.2.1 2 q) = 16
      rw [if_neg (fun w => by cases w.2), if_neg (fun w => by cases w.2), if_pos ⟨rfl, rfl⟩]
    · have hg : g ∈ D.1.1 := by
        rcases List.mem_append.mp hg with w | w
        · exact w
        · exact absurd (List.mem_singleton.mp w) e
      have e2 : (d_ap D q hn pn).2.1 2 g = D.2.1 2 g := by
        show (if g = q ∧ 2 = 0 then hn else if g = q ∧ 2 = 1 then pn else if g = q ∧ 2 = 2 then 16 else D.2.1 2 g) = _
        rw [if_neg (fun w => e w.1), if_neg (fun w => e w.1), if_neg (fun w => e w.1)]
      rw [e2]
      exact a2 g hg
  · obtain ⟨s, s1, s2, s3⟩ := a3 a ha
    refine ⟨s, s1, s2, ?_⟩
    show (if a = q ∧ 3 = 0 then hn else if a = q ∧ 3 = 1 then pn else if a = q ∧ 3 = 2 then 16 else D.2.1 3 a) = _
    rw [if_neg (fun w => by cases w.2), if_neg (fun w => by cases w.2), if_neg (fun w => by cases w.2)]
    exact s3
theorem d_A.ao (hA : d_A D) (hg : g ∈ D.1.1) (hq : q ∉ D.1.2) (h1 : 1 ≤ s) (h16 : s ≤ 16) (hlen : D.1.2.length < 60) (t : Int32) : d_A (d_ao D g q (nI s) t) := by
  obtain ⟨a1, a2, a3, a4⟩ := hA
  have hr0 : ∀ a, a ≠ q → (d_ao D g q (nI s) t).2.2 0 a = D.2.2 0 a := fun a ha => by
    show (if 0 = 0 ∧ a = q then some g else if (0 = 1 ∨ 0 = 2 ∨ 0 = 3) ∧ a = q then none else D.2.2 0 a) = _
    rw [if_neg (fun w => ha w.2), if_neg (fun w => ha w.2)]
  have hrq : (d_ao D g q (nI s) t).2.2 0 q = some g := if_pos ⟨rfl, rfl⟩
  have h3 : ∀ a, (d_ao D g q (nI s) t).2.1 3 a = if a = q then nI s else D.2.1 3 a := fun a => by
    show (if 3 = 2 ∧ a = g then D.2.1 2 g - nI s else if 3 = 3 ∧ a = q then nI s else if 3 = 4 ∧ a = q then t else if 3 = 5 ∧ a = q then 0 else D.2.1 3 a) = _
    rw [if_neg (fun w => by cases w.1)]
    by_cases e : a = q
    · rw [if_pos ⟨rfl, e⟩, if_pos e]
    · rw [if_neg (fun w => e w.2), if_neg e, if_neg (fun w => by cases w.1), if_neg (fun w => by cases w.1)]
  have hs : ∀ g', d_s (d_ao D g q (nI s) t) g' (D.1.2 ++ [q]) = d_s D g' D.1.2 + if g' = g then nI s else 0 := fun g' => by
    rw [d_s_app, d_s_cong (D := D) g' D.1.2 (fun a ha => ⟨hr0 a (fun w => hq (by rw [← w]; exact ha)), by rw [h3, if_neg (fun w => hq (by rw [← w]; exact ha))]⟩)]
    congr 1
    show (if (d_ao D g q (nI s) t).2.2 0 q = some g' then (d_ao D g q (nI s) t).2.1 3 q + 0 else 0) = _
    rw [hrq, h3, if_pos rfl, Int32.add_zero]
    by_cases e : g' = g
    · rw [if_pos (by rw [e]), if_pos e]
    · rw [if_neg (fun w => e (Option.some.inj w).symm), if_neg e]
  refine ⟨fun a ha => ?_, fun g' hg' => ?_, fun a ha => ?_, ?_⟩
  · rcases List.mem_append.mp ha with w | w
    · obtain ⟨g2, g3, g4⟩ := a1 a w
      exact ⟨g2, g3, by rw [hr0 a (fun z => hq (by rw [← z]; exact w))]; exact g4⟩
    · rw [List.mem_singleton.mp w]
      exact ⟨g, hg, hrq⟩
  · show (d_ao D g q (nI s) t).2.1 2 g' + d_s (d_ao D g q (nI s) t) g' (D.1.2 ++ [q]) = 16
    rw [hs]
    have h2 : (d_ao D g q (nI s) t).2.1 2 g' = if g' = g then D.2.1 2 g - nI s else D.2.1 2 g' := by
      show (if 2 = 2 ∧ g' = g then D.2.1 2 g - nI s else if 2 = 3 ∧ g' = q then nI s else if 2 = 4 ∧ g' = q then t else if 2 = 5 ∧ g' = q then 0 else D.2.1 2 g') = _
      by_cases e : g' = g
      · rw [if_pos ⟨rfl, e⟩, if_pos e]
      · rw [if_neg (fun w => e w.2), if_neg e, if_neg (fun w => by cases w.1), if_neg (fun w => by cases w.1), if_neg (fun w => by cases w.1)]
    have hac := a2 g' hg'
    rw [h2]
    by_cases e : g' = g
    · rw [if_pos e, if_pos e]
      rw [e] at hac ⊢
      rw [Int32.sub_eq_add_neg, Int32.add_comm (d_s D g D.1.2), ← Int32.add_assoc, Int32.add_assoc (D.2.1 2 g), Int32.add_comm (-nI s), show nI s + -nI s = 0 from by rw [← Int32.sub_eq_add_neg, Int32.sub_self], Int32.add_zero]
      exact hac
    · rw [if_neg e, if_neg e, Int32.add_zero]
      exact hac
  · rcases List.mem_append.mp ha with w | w
    · rw [h3, if_neg (fun z => hq (by rw [← z]; exact w))]
      exact a3 a w
    · rw [h3, if_pos (List.mem_singleton.mp w)]
      exact ⟨s, h1, h16, rfl⟩
  · show (D.1.2 ++ [q]).length ≤ 60
    rw [List.length_append]
    show D.1.2.length + 1 ≤ 60
    omega
theorem npg_11 (j : Nat) : npg b g h n 11 j = if j = g then h + 1 else b 11 j := by
  unfold npg
  rw [bu_n (by decide), bu_n (by decide), bu_n (by decide)]
  unfold bu
  by_cases e : j = g
  · rw [if_pos ⟨rfl, e⟩, if_pos e]
  · rw [if_neg (fun w => e w.2), if_neg e]
theorem npg_12 (j : Nat) : npg b g h n 12 j = if j = g then n else b 12 j := by
  unfold npg
  rw [bu_n (by decide), bu_n (by decide)]
  by_cases e : j = g
  · rw [if_pos e, e, bu_s]
  · rw [if_neg e, bu_m e, bu_n (by decide)]
theorem npg_13 (j : Nat) : npg b g h n 13 j = if j = g then b 14 0 + 1 else b 13 j := by
  unfold npg
  by_cases e : j = g
  · rw [if_pos e, e, bu_s]
  · rw [if_neg e, bu_m e, bu_n (by decide), bu_n (by decide), bu_n (by decide)]
theorem npg_14 : npg b g h n 14 0 = b 14 0 + 1 := by
  unfold npg
  rw [bu_n (by decide), bu_s]
theorem npg_n {i j : Nat} (h11 : i ≠ 11) (h12 : i ≠ 12) (h13 : i ≠ 13) (h14 : i ≠ 14) : npg b g h n i j = b i j := by
  unfold npg
  rw [bu_n h13, bu_n h14, bu_n h12, bu_n h11]
theorem sR.nwp (hs : sR D b L pg ob) (hG : vG b) (hb : rb N b) (hg : g < 24) (h0 : b 11 g = 0) (hf : fzb b h = false) (hq : q ∉ D.1.1) : sR (d_ap D q (nI h) (nI n)) (npg b g h n) L (fup pg g q) ob := by
  obtain ⟨sx, so, sg, sp, sq, sh⟩ := hs
  have hi : ∀ k j, 2 < k → (d_ap D q (nI h) (nI n)).2.1 k j = D.2.1 k j := fun k j hk => by
    show (if j = q ∧ k = 0 then nI h else if j = q ∧ k = 1 then nI n else if j = q ∧ k = 2 then 16 else D.2.1 k j) = _
    rw [if_neg (fun w => by omega), if_neg (fun w => by omega), if_neg (fun w => by omega)]
  have hi2 : ∀ k j, j ≠ q → (d_ap D q (nI h) (nI n)).2.1 k j = D.2.1 k j := fun k j hk => by
    show (if j = q ∧ k = 0 then nI h else if j = q ∧ k = 1 then nI n else if j = q ∧ k = 2 then 16 else D.2.1 k j) = _
    rw [if_neg (fun w => hk w.1), if_neg (fun w => hk w.1), if_neg (fun w => hk w.1)]
  have hnq : ∀ j, j < 24 → 0 < b 11 j → pg j ≠ q := fun j hj hj0 w => hq (by rw [← w]; exact sg.mem.mpr ⟨j, hj, hj0, rfl⟩)
  have hfz : ∀ i, fzb (npg b g h n) i = fzb b i := fun i => fzb_c (fun k _ => npg_n (by decide) (by decide) (by decide) (by decide)) i
  have hn : ∀ i, i ≠ 11 → i ≠ 12 → i ≠ 13 → i ≠ 14 → ∀ j, npg b g h n i j = b i j := fun i a1 a2 a3 a4 j => npg_n a1 a2 a3 a4
  have hpos : ∀ j, 0 < npg b g h n 11 j ↔ j = g ∨ 0 < b 11 j := fun j => by
    rw [npg_11]
    by_cases e : j = g
    · rw [if_pos e]
      exact ⟨fun _ => Or.inl e, fun _ => by omega⟩
    · rw [if_neg e]
      exact ⟨fun w => Or.inr w, fun w => w.resolve_left e⟩
  refine ⟨sx.cong rfl (fun x => hn 6 (by decide) (by decide) (by decide) (by decide) x), fun x hx hx0 => ?_, ⟨?_, fun i j hi' hj h1 h2 e => ?_⟩, fun j hj hj0 => ?_, sq.cong (fun k hk j _ => hi k j (by omega)) (fun _ _ _ => rfl) (fun k hk j => hn k (by omega) (by omega) (by omega) (by omega) j), sh.cong (hi 12 1 (by omega)) (fun _ => rfl) (fun k hk j => hn k (by omega) (by omega) (by omega) (by omega) j)⟩
  · rw [hn 6 (by decide) (by decide) (by decide) (by decide)] at hx0
    obtain ⟨q1, q2, q3, q4, q5⟩ := so x hx hx0
    have hne : b 9 x ≠ g := fun w => by
      have := (hG.1 x hx hx0).1
      rw [w, h0] at this
      omega
    refine ⟨?_, by rw [hi 3 _ (by omega), hn 7 (by decide) (by decide) (by decide) (by decide)]; exact q2, by rw [hi 4 _ (by omega)]; exact q3, fun i => by rw [hi 5 _ (by omega), hn 21 (by decide) (by decide) (by decide) (by decide)]; exact q4 i, fun f hf => by rw [hn 10 (by decide) (by decide) (by decide) (by decide)]; exact q5 f hf⟩
    rw [hn 9 (by decide) (by decide) (by decide) (by decide), show fup pg g q (b 9 x) = pg (b 9 x) from if_neg hne]
    exact q1
  · obtain ⟨⟨sl, l1, l2, l3⟩, l4⟩ := sg
    have hgn : g ∉ sl := fun w => by
      have := ((l3 g).mp w).2
      omega
    refine ⟨sl ++ [g], ?_, ?_, fun j => ?_⟩
    · show D.1.1 ++ [q] = _
      rw [l1, List.map_append]
      congr 1
      · refine List.map_congr_left (fun j hj => ?_)
        exact (if_neg (fun w => hgn (by rw [← w]; exact hj))).symm
      · show [q] = [fup pg g q g]
        rw [show fup pg g q g = q from if_pos rfl]
    · rw [List.pairwise_append]
      refine ⟨l2.imp_of_mem (fun {i j} hi' hj hlt => ?_), List.pairwise_singleton _ _, fun i hi' j hj => ?_⟩
      · rw [npg_13, npg_13, if_neg (fun w => hgn (by rw [← w]; exact hi')), if_neg (fun w => hgn (by rw [← w]; exact hj))]
        exact hlt
      · rw [List.mem_singleton.mp hj, npg_13, npg_13, if_pos rfl, if_neg (fun w => hgn (by rw [← w]; exact hi'))]
        have := (l3 i).mp hi'
        have := (hG.2.2.1 i this.1 this.2).2
        omega
    · rw [List.mem_append, l3 j, List.mem_singleton, hpos]
      constructor
      · rintro (w | w)
        · exact ⟨w.1, Or.inr w.2⟩
        · exact ⟨by omega, Or.inl w⟩
      · rintro ⟨w1, w2 | w2⟩
        · exact Or.inr w2
        · exact Or.inl ⟨w1, w2⟩
  · rw [hpos] at h1 h2
    unfold fup at e
    by_cases ei : i = g
    · by_cases ej : j = g
      · omega
      · rw [if_pos ei, if_neg ej] at e
        exact absurd e.symm (hnq j hj (h2.resolve_left ej))
    · by_cases ej : j = g
      · rw [if_neg ei, if_pos ej] at e
        exact absurd e (hnq i hi' (h1.resolve_left ei))
      · rw [if_neg ei, if_neg ej] at e
        exact sg.2 i j hi' hj (h1.resolve_left ei) (h2.resolve_left ej) e
  · rw [hpos] at hj0
    rw [npg_11, npg_12]
    by_cases ej : j = g
    · rw [if_pos ej, if_pos ej, show fup pg g q j = q from if_pos ej, hfz, show h + 1 - 1 = h by omega, hf, if_neg (by decide)]
      refine ⟨if_pos ⟨rfl, rfl⟩, ?_⟩
      show (if q = q ∧ 1 = 0 then nI h else if q = q ∧ 1 = 1 then nI n else if q = q ∧ 1 = 2 then 16 else D.2.1 1 q) = _
      rw [if_neg (fun w => by cases w.2), if_pos ⟨rfl, rfl⟩]
    · have hj1 := hj0.resolve_left ej
      have hne := hnq j hj hj1
      rw [if_neg ej, if_neg ej, show fup pg g q j = pg j from if_neg ej, hfz, hi2 0 _ hne, hi2 1 _ hne]
      exact sp j hj hj1
theorem rnw_n {i j : Nat} (h5 : i ≠ 5) (h6 : i ≠ 6) (h7 : i ≠ 7) (h9 : i ≠ 9) (h10 : i ≠ 10) : rnw c x p r h s g i j = c i j := by
  unfold rnw zfd
  rw [bu_n h5]
  show (if i = 10 ∧ _ then 0 else bu (bu (bu c 6 x (h + 1)) 7 x s) 9 x g i j) = _
  rw [if_neg (fun w => h10 w.1), bu_n h9, bu_n h7, bu_n h6]
theorem rnw_5 (j : Nat) : rnw c x p r h s g 5 j = if j = 4 * p + r then x + 1 else c 5 j := by
  unfold rnw
  by_cases e : j = 4 * p + r
  · rw [if_pos e, e, bu_s]
  · rw [if_neg e, bu_m e]
    rfl
theorem rnw_6 (j : Nat) : rnw c x p r h s g 6 j = if j = x then h + 1 else c 6 j := by
  show (if 6 = 6 ∧ j = x then h + 1 else c 6 j) = _
  by_cases e : j = x
  · rw [if_pos ⟨rfl, e⟩, if_pos e]
  · rw [if_neg (fun w => e w.2), if_neg e]
theorem rnw_7 (j : Nat) : rnw c x p r h s g 7 j = if j = x then s else c 7 j := by
  show (if 7 = 7 ∧ j = x then s else c 7 j) = _
  by_cases e : j = x
  · rw [if_pos ⟨rfl, e⟩, if_pos e]
  · rw [if_neg (fun w => e w.2), if_neg e]
theorem rnw_9 (j : Nat) : rnw c x p r h s g 9 j = if j = x then g else c 9 j := by
  show (if 9 = 9 ∧ j = x then g else c 9 j) = _
  by_cases e : j = x
  · rw [if_pos ⟨rfl, e⟩, if_pos e]
  · rw [if_neg (fun w => e w.2), if_neg e]
theorem rnw_10 (y f : Nat) (hf : f < 3) : rnw c x p r h s g 10 (3 * y + f) = if y = x then 0 else c 10 (3 * y + f) := by
  show (if 10 = 10 ∧ 3 * x ≤ 3 * y + f ∧ 3 * y + f < 3 * x + 3 then 0 else c 10 (3 * y + f)) = _
  by_cases e : y = x
  · rw [if_pos ⟨rfl, by omega, by omega⟩, if_pos e]
  · rw [if_neg (fun w => by omega), if_neg e]
theorem lvs_new (hx : x < 60) (h0 : c 6 x = 0) (h6 : ∀ j, b1 6 j = if j = x then h + 1 else c 6 j) : (lvs b1).Perm (x :: lvs c) := by
  refine (List.perm_ext_iff_of_nodup (List.nodup_range.filter _) ?_).mpr (fun y => ?_)
  · rw [List.nodup_cons]
    exact ⟨fun w => by have := (lvs_m.mp w).2; omega, List.nodup_range.filter _⟩
  · rw [List.mem_cons]
    show y ∈ lvs b1 ↔ _
    rw [lvs_m, lvs_m, h6]
    by_cases e : y = x
    · rw [if_pos e]
      exact ⟨fun _ => Or.inl e, fun _ => ⟨by omega, by omega⟩⟩
    · rw [if_neg e]
      exact ⟨fun w => Or.inr w, fun w => w.resolve_left e⟩
/-- an object q is put at x -/
theorem sR.nwo (hs : sR D c L pg ob) (hb : rb N c) (h48 : c 4 0 ≤ 8) (hp : p < 8) (hr : r < 4) (hx : x < 60) (h0 : c 6 x = 0) (hq : q ∉ D.1.2) (o1 : ∀ p r, p < 8 → r < 4 → 0 < c 5 (4 * p + r) → 0 < c 6 (c 5 (4 * p + r) - 1)) (o2 : ∀ x f, x < 60 → 0 < c 6 x → f < 3 → 0 < c 10 (3 * x + f) → 0 < c 6 (c 10 (3 * x + f) - 1)) (o4 : ∀ i, i < 13 → c 21 (60 * i + x) = 0) (o5 : ∀ k, k < 4 → c 15 k = 2 → 0 < c 6 (c 17 k)) (t : Int32) :
    sR (d_new D p r (pg g) q (nI s) t) (rnw c x p r h s g) (lu L x t) pg (fup ob x q) := by
  obtain ⟨sx, so, sg, sp, sq, sh⟩ := hs
  have hoq : ∀ y, y < 60 → 0 < c 6 y → ob y ≠ q := fun y hy hy0 w => hq (by rw [← w]; exact sx.obm hy hy0)
  have hob : ∀ y, 0 < c 6 y → fup ob x q y = ob y := fun y hy0 => if_neg (fun w => by rw [w] at hy0; omega)
  have hrf : ∀ v, (0 < v → 0 < c 6 (v - 1)) → rf (fup ob x q) v = rf ob v := fun v hv => by
    cases v with
    | zero => rfl
    | succ y =>
      show some (fup ob x q y) = some (ob y)
      rw [hob y (hv (Nat.succ_pos y))]
  have hi : ∀ k j, 5 < k ∨ k < 2 → (d_new D p r (pg g) q (nI s) t).2.1 k j = D.2.1 k j := fun k j hk => by
    show (if k = 2 ∧ j = pg g then D.2.1 2 (pg g) - nI s else if k = 3 ∧ j = q then nI s else if k = 4 ∧ j = q then t else if k = 5 ∧ j = q then 0 else D.2.1 k j) = _
    rw [if_neg (fun w => by omega), if_neg (fun w => by omega), if_neg (fun w => by omega), if_neg (fun w => by omega)]
  have hi2 : ∀ k j, k ≠ 2 → j ≠ q → (d_new D p r (pg g) q (nI s) t).2.1 k j = D.2.1 k j := fun k j hk hj => by
    show (if k = 2 ∧ j = pg g then D.2.1 2 (pg g) - nI s else if k = 3 ∧ j = q then nI s else if k = 4 ∧ j = q then t else if k = 5 ∧ j = q then 0 else D.2.1 k j) = _
    rw [if_neg (fun w => hk w.1), if_neg (fun w => hj w.2), if_neg (fun w => hj w.2), if_neg (fun w => hj w.2)]
  have hr1 : ∀ k j, k < 4 → (d_new D p r (pg g) q (nI s) t).2.2 k j = if k = 0 ∧ j = q then some (pg g) else if (k = 1 ∨ k = 2 ∨ k = 3) ∧ j = q then none else D.2.2 k j := fun k j hk => by
    show (if k = 4 + r ∧ j = p then some q else if k = 0 ∧ j = q then some (pg g) else if (k = 1 ∨ k = 2 ∨ k = 3) ∧ j = q then none else D.2.2 k j) = _
    rw [if_neg (fun w => by omega)]
  have hr2 : ∀ k j, 4 ≤ k → (d_new D p r (pg g) q (nI s) t).2.2 k j = if k = 4 + r ∧ j = p then some q else D.2.2 k j := fun k j hk => by
    show (if k = 4 + r ∧ j = p then some q else if k = 0 ∧ j = q then some (pg g) else if (k = 1 ∨ k = 2 ∨ k = 3) ∧ j = q then none else D.2.2 k j) = _
    rw [if_neg (show ¬ (k = 0 ∧ j = q) from fun w => by omega), if_neg (show ¬ ((k = 1 ∨ k = 2 ∨ k = 3) ∧ j = q) from fun w => by omega)]
  have hn : ∀ i, i ≠ 5 → i ≠ 6 → i ≠ 7 → i ≠ 9 → i ≠ 10 → ∀ j, rnw c x p r h s g i j = c i j := fun i a1 a2 a3 a4 a5 j => rnw_n a1 a2 a3 a4 a5
  have hl : ∀ y, 0 < rnw c x p r h s g 6 y ↔ y = x ∨ 0 < c 6 y := fun y => by
    rw [rnw_6]
    by_cases e : y = x
    · rw [if_pos e]
      exact ⟨fun _ => Or.inl e, fun _ => by omega⟩
    · rw [if_neg e]
      exact ⟨fun w => Or.inr w, fun w => w.resolve_left e⟩
  have hrb : ∀ j, rbk (rnw c x p r h s g) j 4 = rbk c j 4 := fun j => rbk_c (fun k _ => ⟨hn 15 (by decide) (by decide) (by decide) (by decide) (by decide) k, hn 16 (by decide) (by decide) (by decide) (by decide) (by decide) k⟩) j 4 (by omega)
  refine ⟨⟨?_, fun y z hy hz h1 h2 e => ?_⟩, fun y hy h1 => ?_, sg.cong rfl (fun g => hn 11 (by decide) (by decide) (by decide) (by decide) (by decide) g) (fun g => hn 13 (by decide) (by decide) (by decide) (by decide) (by decide) g), sp.cong (fun j => hi 0 j (by omega)) (fun j => hi 1 j (by omega)) (fun k hk j => hn k (by omega) (by omega) (by omega) (by omega) (by omega) j), ⟨?_, fun j hj => ?_, fun j hj => ?_⟩, fun i h13 => ?_, ?_⟩
  · show (D.1.2 ++ [q]).Perm _
    have p1 := (lvs_new (b1 := rnw c x p r h s g) hx h0 (fun j => rnw_6 j)).map (fup ob x q)
    rw [List.map_cons, show fup ob x q x = q from if_pos rfl] at p1
    have e : (lvs c).map (fup ob x q) = (lvs c).map ob := List.map_congr_left (fun y hy => hob y (lvs_m.mp hy).2)
    rw [e] at p1
    exact (List.perm_append_singleton q D.1.2).trans ((sx.1.cons q).trans p1.symm)
  · rw [hl] at h1 h2
    unfold fup at e
    by_cases ey : y = x
    · by_cases ez : z = x
      · omega
      · rw [if_pos ey, if_neg ez] at e
        exact absurd e.symm (hoq z hz (h2.resolve_left ez))
    · by_cases ez : z = x
      · rw [if_neg ey, if_pos ez] at e
        exact absurd e (hoq y hy (h1.resolve_left ey))
      · rw [if_neg ey, if_neg ez] at e
        exact sx.2 y z hy hz (h1.resolve_left ey) (h2.resolve_left ez) e
  · rw [hl] at h1
    by_cases ey : y = x
    · subst ey
      have eq : fup ob y q y = q := if_pos rfl
      refine ⟨?_, ?_, ?_, fun i => ?_, fun f hf => ?_⟩
      · rw [eq, hr1 0 q (by omega), if_pos ⟨rfl, rfl⟩, rnw_9, if_pos rfl]
      · rw [eq, rnw_7, if_pos rfl]
        show (if 3 = 2 ∧ q = pg g then D.2.1 2 (pg g) - nI s else if 3 = 3 ∧ q = q then nI s else if 3 = 4 ∧ q = q then t else if 3 = 5 ∧ q = q then 0 else D.2.1 3 q) = _
        rw [if_neg (fun w => by cases w.1), if_pos ⟨rfl, rfl⟩]
      · rw [eq, show lu L y t y = t from if_pos rfl]
        show (if 4 = 2 ∧ q = pg g then D.2.1 2 (pg g) - nI s else if 4 = 3 ∧ q = q then nI s else if 4 = 4 ∧ q = q then t else if 4 = 5 ∧ q = q then 0 else D.2.1 4 q) = _
        rw [if_neg (fun w => by cases w.1), if_neg (fun w => by cases w.1), if_pos ⟨rfl, rfl⟩]
      · have e5 : (d_new D p r (pg g) q (nI s) t).2.1 5 q = 0 := by
          show (if 5 = 2 ∧ q = pg g then D.2.1 2 (pg g) - nI s else if 5 = 3 ∧ q = q then nI s else if 5 = 4 ∧ q = q then t else if 5 = 5 ∧ q = q then 0 else D.2.1 5 q) = _
          rw [if_neg (fun w => by cases w.1), if_neg (fun w => by cases w.1), if_neg (fun w => by cases w.1), if_pos ⟨rfl, rfl⟩]
        rw [eq, e5, bb_0, hn 21 (by decide) (by decide) (by decide) (by decide) (by decide)]
        by_cases hi13 : i < 13
        · rw [o4 i hi13]
          simp
        · rw [decide_eq_false hi13, Bool.false_and]
      · rw [eq, hr1 (1 + f) q (by omega), if_neg (fun w => by omega), if_pos ⟨by omega, rfl⟩, rnw_10 y f hf, if_pos rfl]
        rfl
    · have hy0 := h1.resolve_left ey
      obtain ⟨q1, q2, q3, q4, q5⟩ := so y hy hy0
      have hne := hoq y hy hy0
      have eo := hob y hy0
      refine ⟨?_, ?_, ?_, fun i => ?_, fun f hf => ?_⟩
      · rw [eo, hr1 0 _ (by omega), if_neg (fun w => hne w.2), if_neg (fun w => hne w.2), rnw_9, if_neg ey]
        exact q1
      · rw [eo, hi2 3 _ (by decide) hne, rnw_7, if_neg ey]
        exact q2
      · rw [eo, hi2 4 _ (by decide) hne, show lu L x t y = L y from if_neg ey]
        exact q3
      · rw [eo, hi2 5 _ (by decide) hne, hn 21 (by decide) (by decide) (by decide) (by decide) (by decide)]
        exact q4 i
      · rw [eo, hr1 (1 + f) _ (by omega), if_neg (fun w => hne w.2), if_neg (fun w => hne w.2), rnw_10 y f hf, if_neg ey, hrf _ (fun w => o2 y f hy hy0 hf w)]
        exact q5 f hf
  · rw [hi 12 0 (by omega), hn 4 (by decide) (by decide) (by decide) (by decide) (by decide)]
    exact sq.1
  · rw [hi 6 j (by omega), hn 0 (by decide) (by decide) (by decide) (by decide) (by decide)]
    exact sq.2.1 j hj
  · rw [hn 4 (by decide) (by decide) (by decide) (by decide) (by decide)] at hj
    obtain ⟨q1, q2, q3, q4, q5, q6⟩ := sq.2.2 j hj
    refine ⟨fun w => by rw [hi 7 _ (by omega), hn 1 (by decide) (by decide) (by decide) (by decide) (by decide)]; exact q1 w, by rw [hi 8 _ (by omega), hn 2 (by decide) (by decide) (by decide) (by decide) (by decide)]; exact q2, by rw [hi 9 _ (by omega), hn 3 (by decide) (by decide) (by decide) (by decide) (by decide)]; exact q3, by rw [hi 10 _ (by omega), hrb]; exact q4, fun i => by rw [hi 11 _ (by omega), hn 20 (by decide) (by decide) (by decide) (by decide) (by decide)]; exact q5 i, fun r' h4 => ?_⟩
    rw [hr2 (4 + r') j (by omega), rnw_5]
    by_cases e : j = p ∧ r' = r
    · rw [if_pos ⟨by omega, e.1⟩, if_pos (by omega)]
      show some q = some (fup ob x q x)
      rw [show fup ob x q x = q from if_pos rfl]
    · rw [if_neg (fun w => e ⟨w.2, by omega⟩), if_neg (fun w => e (by omega)), hrf _ (fun w => o1 j r' (by omega) h4 w)]
      exact q6 r' h4
  · have hfz : fzb (rnw c x p r h s g) i = fzb c i := fzb_c (fun k _ => hn 15 (by decide) (by decide) (by decide) (by decide) (by decide) k) i
    rw [hr2 8 i (by omega), if_neg (fun w => by omega), hfz, hn 17 (by decide) (by decide) (by decide) (by decide) (by decide), sh.1 i h13]
    by_cases cz : fzb c i = true
    · have hz := fzb_t.mp cz
      rw [if_pos cz, if_pos cz, hob _ (o5 (i - 9) (by omega) hz.2.2)]
    · rw [if_neg cz, if_neg cz]
  · rw [hi 12 1 (by omega), hn 18 (by decide) (by decide) (by decide) (by decide) (by decide)]
    exact sh.2
end SZ5
