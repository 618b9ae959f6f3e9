/-! CLASS AND REFERENCE: objects are freed -/
section ST
variable {D : ph_D} {b b1 : rB} {L : Nat → Int32} {pg ob : Nat → Nat} {N n p h x y g k : Nat} {F : Nat → Bool} {kp : Nat → Bool}
theorem rbk_c (h : ∀ k, k < 4 → b1 15 k = b 15 k ∧ b1 16 k = b 16 k) (p : Nat) : ∀ n, n ≤ 4 → rbk b1 p n = rbk b p n := by
  intro n
  induction n with
  | zero => intro _; rfl
  | succ n ih =>
    intro hn
    show (if b1 15 n = 1 ∧ b1 16 n = p then 9 + n else rbk b1 p n) = (if b 15 n = 1 ∧ b 16 n = p then 9 + n else rbk b p n)
    rw [ih (by omega), (h n (by omega)).1, (h n (by omega)).2]
theorem fzb_c (h : ∀ k, k < 4 → b1 15 k = b 15 k) (i : Nat) : fzb b1 i = fzb b i := by
  unfold fzb
  by_cases h9 : 9 ≤ i
  · by_cases h12 : i ≤ 12
    · rw [h (i - 9) (by omega)]
    · rw [decide_eq_false h12, Bool.and_false, Bool.false_and, Bool.false_and]
  · rw [decide_eq_false h9, Bool.false_and, Bool.false_and, Bool.false_and]
theorem d_s_zero (g : Nat) : ∀ ys : List Nat, (∀ a, a ∈ ys → D.2.2 0 a ≠ some g) → d_s D g ys = 0
  | [], _ => rfl
  | a :: t, h => by
    show (if D.2.2 0 a = some g then D.2.1 3 a + d_s D g t else d_s D g t) = 0
    rw [if_neg (h a List.mem_cons_self)]
    exact d_s_zero g t (fun a ha => h a (List.mem_cons_of_mem _ ha))
theorem fzR.live (hz : fzR b F b1) (hx : x < 60) : 0 < b1 6 x ↔ 0 < b 6 x ∧ F x = false := by
  rw [hz.1 x]
  by_cases c : F x = true
  · rw [if_pos ⟨hx, c⟩, c]
    exact ⟨fun u => absurd u (by omega), fun u => by cases u.2⟩
  · rw [if_neg (fun u => c u.2)]
    exact ⟨fun u => ⟨u, Bool.eq_false_iff.mpr c⟩, fun u => u.1⟩
theorem fzR.six (hz : fzR b F b1) (h : F x = false) : b1 6 x = b 6 x := by
  rw [hz.1 x, if_neg (fun u => by rw [h] at u; cases u.2)]
theorem fzR.six2 (hz : fzR b F b1) (h : 0 < b1 6 x) : b1 6 x = b 6 x := by
  have e := hz.1 x
  by_cases c : x < 60 ∧ F x = true
  · rw [if_pos c] at e
    omega
  · rw [if_neg c] at e
    exact e
theorem fzR.F0 (hz : fzR b F b1) (hx : x < 60) (h : 0 < b1 6 x) : F x = false := (hz.live hx |>.mp h).2
theorem lv_c (h : b1 0 p = b 0 p) : lv b1 p ↔ lv b p := by
  unfold lv
  rw [h]
theorem fzR.lvc (hz : fzR b F b1) (p : Nat) : lv b1 p ↔ lv b p := lv_c (hz.2.1 0 p (by decide) (by decide) (by decide))
theorem sR.fr (hs : sR D b L pg ob) (hG : vG b) (hb : rb N b) (hA : d_A D) (hz : fzR b F b1) (hkp : ∀ x, x < 60 → 0 < b 6 x → kp (ob x) = !F x) : sR (d_fr D kp) b1 L pg ob := by
  obtain ⟨sx, so, sg, sp, sq, sh⟩ := hs
  have hk : ∀ k j, k ≠ 6 → k ≠ 11 → k ≠ 21 → b1 k j = b k j := hz.2.1
  have hf : ∀ i, fzb b1 i = fzb b i := fzb_c (fun k _ => hk 15 k (by decide) (by decide) (by decide))
  have hi : ∀ k j, k ≠ 2 → (d_fr D kp).2.1 k j = D.2.1 k j := fun k j h => (d_fr_n h).symm
  have hr : ∀ k j, (d_fr D kp).2.2 k j = D.2.2 k j := fun _ _ => rfl
  have hown : ∀ g, 0 < b1 11 g → b1 11 g = b 11 g := fun g h0 => (hz.2.2.2.2.2 g).resolve_left (by omega)
  have hkept : ∀ a, a ∈ D.1.2.filter kp ↔ ∃ x, x < 60 ∧ 0 < b1 6 x ∧ ob x = a := by
    intro a
    rw [List.mem_filter, sx.mem]
    constructor
    · rintro ⟨⟨x, h1, h2, h3⟩, h4⟩
      subst h3
      rw [hkp x h1 h2] at h4
      exact ⟨x, h1, (hz.live h1).mpr ⟨h2, by cases t : F x with | true => (rw [t] at h4; cases h4) | false => rfl⟩, rfl⟩
    · rintro ⟨x, h1, h2, h3⟩
      subst h3
      have h4 := (hz.live h1).mp h2
      exact ⟨⟨x, h1, h4.1, rfl⟩, by rw [hkp x h1 h4.1, h4.2]; rfl⟩
  refine ⟨⟨?_, fun x y hx hy h1 h2 e => sx.2 x y hx hy ((hz.live hx).mp h1).1 ((hz.live hy).mp h2).1 e⟩, fun x hx h0 => ?_, ⟨?_, fun g q hg hq h1 h2 e => ?_⟩, fun g hg h0 => ?_, ⟨?_, fun p hp => ?_, fun p hp => ?_⟩, fun i h13 => ?_, ?_⟩
  · show (D.1.2.filter kp).Perm ((lvs b1).map ob)
    refine (sx.1.filter kp).trans ?_
    rw [List.filter_map]
    have e : (lvs b).filter (kp ∘ ob) = lvs b1 := by
      unfold lvs
      rw [List.filter_filter]
      refine List.filter_congr (fun x hx => ?_)
      have hx := List.mem_range.mp hx
      show (kp (ob x) && decide (0 < b 6 x)) = decide (0 < b1 6 x)
      rcases Nat.eq_zero_or_pos (b 6 x) with e | e
      · rw [decide_eq_false (show ¬ 0 < b 6 x by omega), Bool.and_false, decide_eq_false (fun u => by have := ((hz.live hx).mp u).1; omega)]
      · rw [decide_eq_true e, Bool.and_true, hkp x hx e]
        cases t : F x with
        | true => rw [decide_eq_false (fun u => by have := ((hz.live hx).mp u).2; rw [t] at this; cases this)]; rfl
        | false => rw [decide_eq_true ((hz.live hx).mpr ⟨e, t⟩)]; rfl
    rw [e]
  · have h1 := (hz.live hx).mp h0
    obtain ⟨q1, q2, q3, q4, q5⟩ := so x hx h1.1
    refine ⟨by rw [hr, hk 9 x (by decide) (by decide) (by decide)]; exact q1, by rw [hi 3 _ (by decide), hk 7 x (by decide) (by decide) (by decide)]; exact q2, by rw [hi 4 _ (by decide)]; exact q3, fun i => ?_, fun f hf => by rw [hr, hk 10 _ (by decide) (by decide) (by decide)]; exact q5 f hf⟩
    rw [hi 5 _ (by decide), q4 i]
    by_cases h13 : i < 13
    · rw [hz.2.2.1 i x h13 hx, h1.2, if_neg (by decide)]
    · rw [decide_eq_false h13, Bool.false_and, Bool.false_and]
  · obtain ⟨⟨sl, l1, l2, l3⟩, l4⟩ := sg
    refine ⟨sl.filter (fun g => !decide (D.2.1 2 (pg g) + d_s D (pg g) (D.1.2.filter (fun b => !kp b)) = 16)), ?_, ?_, fun g => ?_⟩
    · show D.1.1.filter _ = _
      rw [l1, List.filter_map]
      rfl
    · refine (l2.filter _).imp (fun {a c} h => ?_)
      rw [hk 13 a (by decide) (by decide) (by decide), hk 13 c (by decide) (by decide) (by decide)]
      exact h
    · rw [List.mem_filter, l3 g, Bool.not_eq_true', decide_eq_false_iff_not]
      have key : g < 24 → 0 < b 11 g → (D.2.1 2 (pg g) + d_s D (pg g) (D.1.2.filter (fun b => !kp b)) = 16 ↔ ¬ ∃ y, y < 60 ∧ 0 < b1 6 y ∧ b 9 y = g) := by
        intro hg h0
        have hgm : pg g ∈ D.1.1 := by
          rw [l1]
          exact List.mem_map.mpr ⟨g, (l3 g).mpr ⟨hg, h0⟩, rfl⟩
        have hac := hA.2.1 (pg g) hgm
        rw [d_s_split (pg g) kp D.1.2] at hac
        have hon : ∀ y, y < 60 → 0 < b1 6 y → (D.2.2 0 (ob y) = some (pg g) ↔ b 9 y = g) := by
          intro y hy hy1
          have hy0 := ((hz.live hy).mp hy1).1
          rw [(so y hy hy0).1]
          have h9 : b 9 y ≤ 23 := hb.2 9 y (by decide)
          constructor
          · intro e
            exact l4 (b 9 y) g (by omega) hg (by rw [(hG.1 y hy hy0).1]; exact hy0) h0 (Option.some.inj e)
          · intro e
            rw [e]
        obtain ⟨m, m1, m2, m3⟩ := d_s_nat (D := D) (pg g) (D.1.2.filter kp) (fun a ha => hA.2.2.1 a (List.mem_filter.mp ha).1)
        have hlen : (D.1.2.filter kp).length ≤ 60 := Nat.le_trans (List.length_filter_le _ _) hA.2.2.2
        constructor
        · rintro e ⟨y, h1, h2, h3⟩
          have h4 := m3 (ob y) ((hkept (ob y)).mpr ⟨y, h1, h2, rfl⟩) ((hon y h1 h2).mpr h3)
          rw [m1, ← Int32.add_assoc, Int32.add_comm (D.2.1 2 (pg g)), Int32.add_assoc, e] at hac
          have h5 : nI (m + 16) = nI 16 := by
            rw [← nI_add]
            exact hac
          have := eqN (m + 16) 16 h5
          omega
        · intro hn
          rw [d_s_zero (pg g) (D.1.2.filter kp) (fun a ha hp => ?_), Int32.zero_add] at hac
          · exact hac
          · obtain ⟨y, h1, h2, h3⟩ := (hkept a).mp ha
            subst h3
            exact hn ⟨y, h1, h2, (hon y h1 h2).mp hp⟩
      constructor
      · rintro ⟨⟨hg, h0⟩, h2⟩
        refine ⟨hg, ?_⟩
        have hex : ∃ y, y < 60 ∧ 0 < b1 6 y ∧ b 9 y = g := Decidable.byContradiction (fun u => h2 ((key hg h0).mpr u))
        rw [hz.2.2.2.1 g hex]
        exact h0
      · rintro ⟨hg, h0⟩
        have h1 := hown g h0
        refine ⟨⟨hg, by omega⟩, fun e => ?_⟩
        have hno := (key hg (by omega)).mp e
        have := hz.2.2.2.2.1 (fun g h => (hG.2.1 g h).2) g (fun y h1 h2 h3 => hno ⟨y, h1, h2, h3⟩)
        omega
  · exact sg.2 g q hg hq (by rw [← hown g h1]; exact h1) (by rw [← hown q h2]; exact h2) e
  · have e := hown g h0
    obtain ⟨q1, q2⟩ := sp g hg (by omega)
    rw [hi 0 _ (by decide), hi 1 _ (by decide), e, hf, hk 12 g (by decide) (by decide) (by decide)]
    exact ⟨q1, q2⟩
  · rw [hi 12 _ (by decide), hk 4 0 (by decide) (by decide) (by decide)]
    exact sq.1
  · rw [hi 6 _ (by decide), hk 0 p (by decide) (by decide) (by decide)]
    exact sq.2.1 p hp
  · rw [hk 4 0 (by decide) (by decide) (by decide)] at hp
    obtain ⟨q1, q2, q3, q4, q5, q6⟩ := sq.2.2 p hp
    refine ⟨fun h0 => by rw [hi 7 _ (by decide), hk 1 p (by decide) (by decide) (by decide)]; exact q1 h0, by rw [hi 8 _ (by decide), hk 2 p (by decide) (by decide) (by decide)]; exact q2, by rw [hi 9 _ (by decide), hk 3 p (by decide) (by decide) (by decide)]; exact q3, ?_, fun i => by rw [hi 11 _ (by decide), hk 20 _ (by decide) (by decide) (by decide)]; exact q5 i, fun r h4 => by rw [hr, hk 5 _ (by decide) (by decide) (by decide)]; exact q6 r h4⟩
    rw [hi 10 _ (by decide), rbk_c (fun k _ => ⟨hk 15 k (by decide) (by decide) (by decide), hk 16 k (by decide) (by decide) (by decide)⟩) p 4 (by omega)]
    exact q4
  · rw [hr, hf, hk 17 _ (by decide) (by decide) (by decide)]
    exact sh.1 i h13
  · rw [hi 12 _ (by decide), hk 18 0 (by decide) (by decide) (by decide)]
    exact sh.2
theorem vO.fr (hO : vO b) (hz : fzR b F b1) (hb : rb N b) (c1 : ∀ p r, p < 8 → r < 4 → 0 < b 5 (4 * p + r) → F (b 5 (4 * p + r) - 1) = false) (c2 : ∀ x f, x < 60 → 0 < b 6 x → F x = false → f < 3 → 0 < b 10 (3 * x + f) → F (b 10 (3 * x + f) - 1) = false) : vO b1 := by
  have h5 : ∀ j, b1 5 j = b 5 j := fun j => hz.2.1 5 j (by decide) (by decide) (by decide)
  have h10 : ∀ j, b1 10 j = b 10 j := fun j => hz.2.1 10 j (by decide) (by decide) (by decide)
  obtain ⟨o1, o2, o3, o4, o5⟩ := hO
  refine ⟨fun p r hp hr h0 => ?_, fun x f hx h0 hf hf0 => ?_, fun x f hx h0 hf hf0 hne => ?_, fun h y hh hy h0 => ?_, fun p r hp hr hn => ?_⟩
  · rw [h5] at h0 ⊢
    rw [hz.six (c1 p r hp hr h0)]
    exact o1 p r hp hr h0
  · rw [h10] at hf0 ⊢
    have hl := (hz.live hx).mp h0
    rw [hz.six (c2 x f hx hl.1 hl.2 hf hf0)]
    exact o2 x f hx hl.1 hf hf0
  · rw [h10] at hf0 hne ⊢
    have hl := (hz.live hx).mp h0
    have hF := c2 x f hx hl.1 hl.2 hf hf0
    rw [hz.six hF, hz.six hl.2] at hne
    have h6 : b 6 x ≤ 13 := hb.2 6 x (by decide)
    have hfl : b 10 (3 * x + f) ≤ 60 := hb.2 10 _ (by decide)
    rw [hz.six hl.2, hz.2.2.1 (b 6 x - 1) _ (by omega) (by omega), hF, if_neg (by decide)]
    exact o3 x f hx hl.1 hf hf0 hne
  · rw [hz.2.2.1 h y hh hy] at h0
    by_cases c : F y = true
    · rw [if_pos c] at h0
      exact absurd rfl h0
    · rw [if_neg c] at h0
      obtain ⟨g1, g2, g3, g4⟩ := o4 h y hh hy h0
      rw [hz.six (Bool.eq_false_iff.mpr c)]
      exact ⟨g1, g2, g3, fun u => (hz.lvc h).mpr (g4 u)⟩
  · rw [h5]
    exact o5 p r hp hr (fun u => hn ((hz.lvc p).mpr u))
theorem vG.fr (hG : vG b) (hz : fzR b F b1) : vG b1 := by
  obtain ⟨g1, g2, g3, g4⟩ := hG
  have hk : ∀ k j, k ≠ 6 → k ≠ 11 → k ≠ 21 → b1 k j = b k j := hz.2.1
  have hown : ∀ g, 0 < b1 11 g → b1 11 g = b 11 g := fun g h0 => (hz.2.2.2.2.2 g).resolve_left (by omega)
  refine ⟨fun x hx h0 => ?_, fun g h0 => ?_, fun g hg h0 => ?_, fun g q hg hq h1 h2 e => ?_⟩
  · have hl := (hz.live hx).mp h0
    rw [hk 9 x (by decide) (by decide) (by decide), hk 7 x (by decide) (by decide) (by decide), hz.six hl.2, hz.2.2.2.1 (b 9 x) ⟨x, hx, h0, rfl⟩]
    exact g1 x hx hl.1
  · have e := hown g h0
    refine ⟨(g2 g (by omega)).1, ?_⟩
    have : ∃ y, y < 60 ∧ 0 < b1 6 y ∧ b 9 y = g := Decidable.byContradiction (fun u => by
      have := hz.2.2.2.2.1 (fun g h => (g2 g h).2) g (fun y h1 h2 h3 => u ⟨y, h1, h2, h3⟩)
      omega)
    obtain ⟨y, h1, h2, h3⟩ := this
    exact ⟨y, h1, h2, by rw [hk 9 y (by decide) (by decide) (by decide)]; exact h3⟩
  · have e := hown g h0
    rw [hk 12 g (by decide) (by decide) (by decide), hk 0 _ (by decide) (by decide) (by decide), hk 13 g (by decide) (by decide) (by decide), hk 14 0 (by decide) (by decide) (by decide)]
    exact g3 g hg (by omega)
  · rw [hk 13 g (by decide) (by decide) (by decide), hk 13 q (by decide) (by decide) (by decide)] at e
    have e1 := hown g h1
    have e2 := hown q h2
    exact g4 g q hg hq (by omega) (by omega) e
theorem vS.fr (hS : vS b) (hz : fzR b F b1) (hb : rb N b) : vS b1 := by
  obtain ⟨s1, s2, s3, s4, s5⟩ := hS
  have hk : ∀ k j, k ≠ 6 → k ≠ 11 → k ≠ 21 → b1 k j = b k j := hz.2.1
  refine ⟨fun p k hp hk4 => ?_, fun p k hp hk4 h0 => ?_, fun p r k hp hr hk4 h0 e h2 => ?_, fun p y k hp hy hk4 h0 e => ?_, fun y k hy hk4 h0 e => ?_⟩
  · rw [hk 19 _ (by decide) (by decide) (by decide), hk 20 _ (by decide) (by decide) (by decide), hz.lvc p]
    exact s1 p k hp hk4
  · rw [hk 20 _ (by decide) (by decide) (by decide)] at h0
    rw [hk 15 _ (by decide) (by decide) (by decide), hk 0 _ (by decide) (by decide) (by decide)]
    exact s2 p k hp hk4 h0
  · rw [hk 5 _ (by decide) (by decide) (by decide)] at h0 e
    rw [hk 15 _ (by decide) (by decide) (by decide)] at h2
    rw [hk 20 _ (by decide) (by decide) (by decide)]
    rw [hz.six2 (by omega)] at e
    exact s3 p r k hp hr hk4 h0 e h2
  · rw [hk 20 _ (by decide) (by decide) (by decide)]
    rw [hz.six2 (by omega)] at e
    rw [hz.2.2.1 p y (by omega) hy] at h0
    split at h0
    · exact absurd rfl h0
    · exact s4 p y k hp hy hk4 h0 e
  · rw [hz.six2 (by omega)] at e
    have h0 : b1 21 (60 * 8 + y) ≠ 0 := h0
    rw [hz.2.2.1 8 y (by omega) hy] at h0
    split at h0
    · exact absurd rfl h0
    · obtain ⟨p, h1, h2, h3⟩ := s5 y k hy hk4 h0 e
      exact ⟨p, h1, by rw [hk 0 _ (by decide) (by decide) (by decide)]; exact h2, by rw [hk 20 _ (by decide) (by decide) (by decide)]; exact h3⟩
theorem vT.fr (hT : vT b) (hz : fzR b F b1) : vT b1 := by
  have hk : ∀ k j, k ≠ 6 → k ≠ 11 → k ≠ 21 → b1 k j = b k j := hz.2.1
  unfold vT
  rw [hk 4 0 (by decide) (by decide) (by decide), hk 3 0 (by decide) (by decide) (by decide)]
  refine ⟨hT.1, hT.2.1, fun p hp => by rw [hk 0 p (by decide) (by decide) (by decide)]; exact hT.2.2.1 p hp, fun p h0 hp => by rw [hk 1 p (by decide) (by decide) (by decide)]; exact hT.2.2.2.1 p h0 hp, hT.2.2.2.2⟩
theorem vB.fr (hB : vB b) (hz : fzR b F b1) (c3 : ∀ k, k < 4 → b 15 k = 2 → F (b 17 k) = false) : vB b1 := by
  obtain ⟨w1, w2, w3, w4, w5⟩ := hB
  have hk : ∀ k j, k ≠ 6 → k ≠ 11 → k ≠ 21 → b1 k j = b k j := hz.2.1
  have h15 : ∀ k, b1 15 k = b 15 k := fun k => hk 15 k (by decide) (by decide) (by decide)
  have h16 : ∀ k, b1 16 k = b 16 k := fun k => hk 16 k (by decide) (by decide) (by decide)
  refine ⟨fun g k hg hk4 e => ?_, fun k hk4 e => ?_, fun k q hk4 hq e1 e2 e3 => ?_, fun k hk4 e => ?_, fun k hk4 => ?_⟩
  · rw [h15, h16, hk 12 g (by decide) (by decide) (by decide)]
    refine w1 g k hg hk4 ?_
    rw [← (hz.2.2.2.2.2 g).resolve_left (by omega)]
    exact e
  · rw [h15] at e
    rw [h16, hz.lvc]
    exact w2 k hk4 e
  · rw [h15] at e1 e2
    rw [h16, h16] at e3
    exact w3 k q hk4 hq e1 e2 e3
  · rw [h15] at e
    rw [hk 17 k (by decide) (by decide) (by decide), hz.six (c3 k hk4 e)]
    exact w4 k hk4 e
  · rw [h15, hk 18 0 (by decide) (by decide) (by decide)]
    exact w5 k hk4
theorem ow_le2 (h11 : ∀ g, g < 24 → b1 11 g = 0 ∨ b1 11 g = b 11 g) (h12 : ∀ g, g < 24 → b1 12 g = b 12 g) (h15 : ∀ k, k < 4 → b1 15 k = b 15 k) (h20 : ∀ j, b1 20 j = 0 ∨ b1 20 j = b 20 j) (n : Nat) : ow b1 n ≤ ow b n := by
  have hf : ∀ i, fzb b1 i = fzb b i := fzb_c h15
  unfold ow
  refine Nat.add_le_add (List.countP_mono_left (fun g hg u => ?_)) (sm_le (fun k hk => ?_))
  · have hg := List.mem_range.mp hg
    obtain ⟨u1, u2, u3⟩ := opg_t.mp u
    have e := (h11 g hg).resolve_left (by omega)
    rw [e, hf] at u2
    rw [e] at u1
    rw [h12 g hg] at u3
    exact opg_t.mpr ⟨u1, u2, u3⟩
  · unfold opk
    by_cases h1 : b1 20 (4 * n + k) = 0
    · rw [if_pos h1]
      exact Nat.zero_le _
    · have e := (h20 (4 * n + k)).resolve_left h1
      rw [if_neg h1, if_neg (by rw [← e]; exact h1)]
      unfold pc
      refine List.countP_mono_left (fun g hg u => ?_)
      have hg := List.mem_range.mp hg
      have u := of_decide_eq_true u
      exact decide_eq_true (by rw [← (h11 g hg).resolve_left (by omega)]; exact u)
theorem vU.fr (hu : vU b) (hz : fzR b F b1) : vU b1 := by
  have hk : ∀ k j, k ≠ 6 → k ≠ 11 → k ≠ 21 → b1 k j = b k j := hz.2.1
  refine vUo_mono (b := b) (o := ow b) hu (fun n _ => by rw [hk 0 n (by decide) (by decide) (by decide)]) (fun n _ h => (hz.lvc n).mp h) (fun n _ => ⟨hk 1 n (by decide) (by decide) (by decide), hk 2 n (by decide) (by decide) (by decide), hk 3 n (by decide) (by decide) (by decide)⟩) (fun n _ => ow_le2 (fun g _ => hz.2.2.2.2.2 g) (fun g _ => hk 12 g (by decide) (by decide) (by decide)) (fun k _ => hk 15 k (by decide) (by decide) (by decide)) (fun j => Or.inr (hk 20 j (by decide) (by decide) (by decide))) n)
end ST
