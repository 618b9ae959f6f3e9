/-! CLASS AND REFERENCE: after a death -/
section SY3
variable {D D1 : ph_D} {b b1 f : rB} {L : Nat → Int32} {pg ob : Nat → Nat} {N n p h x y g k t : Nat}
theorem iV_die (hv : iV b) (hb : rb N b) (hp : p < 8) (hl : lv b p) (f0 : ∀ q, f 0 q = if q = p then 4 else b 0 q) (fk : ∀ k, k = 1 ∨ k = 2 ∨ k = 3 ∨ k = 4 ∨ k = 7 ∨ k = 9 ∨ k = 10 ∨ k = 12 ∨ k = 16 ∨ k = 17 ∨ k = 18 → ∀ j, f k j = b k j)
    (f5 : ∀ q r, q < 8 → r < 4 → f 5 (4 * q + r) = if q = p then 0 else b 5 (4 * q + r)) (f6a : ∀ x, x < 60 → mgd b p (b 6 x) → f 6 x = 9) (f6b : ∀ x, x < 60 → ¬ mgd b p (b 6 x) → f 6 x = b 6 x) (f11a : ∀ g, g < 24 → mgd b p (b 11 g) → f 11 g = 9) (f11b : ∀ g, g < 24 → ¬ mgd b p (b 11 g) → f 11 g = b 11 g)
    (f15 : ∀ k, k < 4 → f 15 k = if b 15 k = 1 ∧ b 16 k = p then 3 else b 15 k) (f19 : ∀ q k, q < 8 → k < 4 → f 19 (4 * q + k) = if q = p then 0 else b 19 (4 * q + k)) (f20 : ∀ q k, q < 8 → k < 4 → f 20 (4 * q + k) = if q = p then (if b 15 k = 2 ∧ nmb b p (9 + k) = true then 1 else 0) else b 20 (4 * q + k))
    (f21 : ∀ i x, i < 13 → x < 60 → f 21 (60 * i + x) = if i = 8 then (if (b 21 (60 * p + x) ≠ 0 ∨ b 21 (480 + x) ≠ 0) ∧ 0 < f 6 x ∧ f 6 x ≠ 9 then 1 else 0) else if i = p then 0 else b 21 (60 * i + x)) (vg : vG f) : iV f := by
  obtain ⟨⟨o1, o2, o3, o4, o5⟩, hG, ⟨s1, s2, s3, s4, s5⟩, ⟨w1, w2, w3, w4, w5⟩, hT, hU⟩ := hv
  have mg0 : ∀ v, mgd b p v → 0 < v ∧ v ≠ 9 := fun v hm => by
    rcases hm with e | ⟨k, _, _, _, e⟩ <;> omega
  have pos : ∀ x, x < 60 → (0 < f 6 x ↔ 0 < b 6 x) := fun x hx => by
    by_cases c : mgd b p (b 6 x)
    · rw [f6a x hx c]
      exact ⟨fun _ => (mg0 _ c).1, fun _ => by omega⟩
    · rw [f6b x hx c]
  have pos11 : ∀ g, g < 24 → (0 < f 11 g ↔ 0 < b 11 g) := fun x hx => by
    by_cases c : mgd b p (b 11 x)
    · rw [f11a x hx c]
      exact ⟨fun _ => (mg0 _ c).1, fun _ => by omega⟩
    · rw [f11b x hx c]
  have n9 : ∀ x, x < 60 → f 6 x ≠ 9 → f 6 x = b 6 x ∧ ¬ mgd b p (b 6 x) ∧ b 6 x ≠ 9 := fun x hx h9 => by
    by_cases c : mgd b p (b 6 x)
    · exact absurd (f6a x hx c) h9
    · have := f6b x hx c
      exact ⟨this, c, by omega⟩
  have n911 : ∀ g, g < 24 → f 11 g ≠ 9 → f 11 g = b 11 g ∧ ¬ mgd b p (b 11 g) := fun x hx h9 => by
    by_cases c : mgd b p (b 11 x)
    · exact absurd (f11a x hx c) h9
    · exact ⟨f11b x hx c, c⟩
  have i9 : ∀ x, x < 60 → f 6 x = 9 → mgd b p (b 6 x) ∨ b 6 x = 9 := fun x hx h9 => by
    by_cases c : mgd b p (b 6 x)
    · exact Or.inl c
    · exact Or.inr (by rw [← f6b x hx c]; exact h9)
  have lvf : ∀ q, lv f q ↔ lv b q ∧ q ≠ p := fun q => by
    unfold lv
    rw [f0]
    by_cases e : q = p
    · rw [if_pos e]
      exact ⟨fun u => by omega, fun u => absurd e u.2⟩
    · rw [if_neg e]
      exact ⟨fun u => ⟨u, e⟩, fun u => u.1⟩
  have f21n : ∀ i x, i < 13 → x < 60 → i ≠ 8 → f 21 (60 * i + x) ≠ 0 → i ≠ p ∧ b 21 (60 * i + x) ≠ 0 := fun i x hi hx h8 h0 => by
    rw [f21 i x hi hx, if_neg h8] at h0
    by_cases e : i = p
    · rw [if_pos e] at h0
      exact absurd rfl h0
    · rw [if_neg e] at h0
      exact ⟨e, h0⟩
  have f218 : ∀ x, x < 60 → f 21 (480 + x) ≠ 0 → (b 21 (60 * p + x) ≠ 0 ∨ b 21 (480 + x) ≠ 0) ∧ 0 < f 6 x ∧ f 6 x ≠ 9 := fun x hx h0 => by
    have e := f21 8 x (by omega) hx
    rw [if_pos rfl] at e
    have e : f 21 (480 + x) = _ := e
    rw [e] at h0
    by_cases c : (b 21 (60 * p + x) ≠ 0 ∨ b 21 (480 + x) ≠ 0) ∧ 0 < f 6 x ∧ f 6 x ≠ 9
    · exact c
    · rw [if_neg c] at h0
      exact absurd rfl h0
  have s15 : ∀ k, k < 4 → (f 15 k = 2 ↔ b 15 k = 2) := fun k hk => by
    rw [f15 k hk]
    by_cases c : b 15 k = 1 ∧ b 16 k = p
    · rw [if_pos c]
      exact ⟨fun u => by omega, fun u => by omega⟩
    · rw [if_neg c]
  refine ⟨⟨fun q r hq hr h0 => ?_, fun x c hx h0 hc hc0 => ?_, fun x c hx h0 hc hc0 hne => ?_, fun i y hi hy h0 => ?_, fun q r hq hr hn => ?_⟩, vg, ⟨fun q k hq hk => ?_, fun q k hq hk h0 => ?_, fun q r k hq hr hk h0 e h2 => ?_, fun q y k hq hy hk h0 e => ?_, fun y k hy hk h0 e => ?_⟩, ⟨fun g k hg hk e => ?_, fun k hk e => ?_, fun k q hk hq e1 e2 e3 => ?_, fun k hk e => ?_, fun k hk => ?_⟩, ?_, ?_⟩
  · rw [f5 q r hq hr] at h0 ⊢
    by_cases e : q = p
    · rw [if_pos e] at h0
      omega
    · rw [if_neg e] at h0 ⊢
      have w : b 5 (4 * q + r) ≤ 60 := hb.2 5 _ (by decide)
      exact (pos _ (by omega)).mpr (o1 q r hq hr h0)
  · rw [fk 10 (by omega)] at hc0 ⊢
    have w : b 10 (3 * x + c) ≤ 60 := hb.2 10 _ (by decide)
    exact (pos _ (by omega)).mpr (o2 x c hx ((pos x hx).mp h0) hc hc0)
  · rw [fk 10 (by omega)] at hc0 hne ⊢
    have w : b 10 (3 * x + c) ≤ 60 := hb.2 10 _ (by decide)
    have h00 := (pos x hx).mp h0
    have hy0 := o2 x c hx h00 hc hc0
    have w6 : b 6 x ≤ 13 := hb.2 6 x (by decide)
    have hit := o3 x c hx h00 hc hc0
    generalize hyy : b 10 (3 * x + c) - 1 = y at *
    have hy : y < 60 := by omega
    by_cases e9 : f 6 x = 9
    · rw [e9] at hne
      obtain ⟨y1, y2, y3⟩ := n9 y hy hne
      rw [e9, show 60 * (9 - 1) + y = 60 * 8 + y by omega, f21 8 y (by omega) hy, if_pos rfl, if_pos]
      · decide
      · refine ⟨?_, (pos y hy).mpr hy0, hne⟩
        rcases i9 x hx e9 with (m | ⟨k, k1, k2, k3, k4⟩) | m
        · have := hit (fun u => y2 (Or.inl (by omega)))
          rw [m, show p + 1 - 1 = p by omega] at this
          exact Or.inl this
        · have := hit (fun u => y2 (Or.inr ⟨k, k1, k2, k3, by omega⟩))
          have := (o4 (b 6 x - 1) y (by omega) hy this).2.2.1
          omega
        · have := hit (fun u => y3 (by omega))
          rw [m, show 60 * (9 - 1) + y = 480 + y by omega] at this
          exact Or.inr this
    · obtain ⟨x1, x2, x3⟩ := n9 x hx e9
      have hne2 : b 6 y ≠ b 6 x := fun u => by
        have : f 6 y = b 6 y := f6b y hy (by rw [u]; exact x2)
        omega
      have hi := hit hne2
      rw [x1, f21 (b 6 x - 1) y (by omega) hy, if_neg (by omega), if_neg (fun u => x2 (Or.inl (by omega)))]
      exact hi
  · by_cases e8 : i = 8
    · subst e8
      obtain ⟨g1, g2, g3⟩ := f218 y hy h0
      exact ⟨g2, g3, by omega, fun u => by omega⟩
    · obtain ⟨g1, g2⟩ := f21n i y hi hy e8 h0
      obtain ⟨q1, q2, q3, q4⟩ := o4 i y hi hy g2
      refine ⟨(pos y hy).mpr q1, fun u => ?_, q3, fun u => (lvf i).mpr ⟨q4 u, g1⟩⟩
      by_cases c : f 6 y = 9
      · omega
      · have := (n9 y hy c).1
        omega
  · rw [f5 q r hq hr]
    by_cases e : q = p
    · rw [if_pos e]
    · rw [if_neg e]
      exact o5 q r hq hr (fun u => hn ((lvf q).mpr ⟨u, e⟩))
  · rw [f19 q k hq hk, f20 q k hq hk, lvf]
    by_cases e : q = p
    · rw [if_pos e]
      exact ⟨fun u => absurd rfl u, fun u => absurd e u.1.2⟩
    · rw [if_neg e, if_neg e, s1 q k hq hk]
      exact ⟨fun u => ⟨⟨u.1, e⟩, u.2⟩, fun u => ⟨u.1.1, u.2⟩⟩
  · rw [f20 q k hq hk] at h0
    rw [s15 k hk, f0]
    by_cases e : q = p
    · rw [if_pos e] at h0 ⊢
      by_cases c : b 15 k = 2 ∧ nmb b p (9 + k) = true
      · exact ⟨c.1, by omega⟩
      · rw [if_neg c] at h0
        exact absurd rfl h0
    · rw [if_neg e] at h0 ⊢
      exact s2 q k hq hk h0
  · rw [f5 q r hq hr] at h0 e
    rw [f20 q k hq hk]
    by_cases eq : q = p
    · rw [if_pos eq] at h0
      omega
    · rw [if_neg eq] at h0 e ⊢
      have w : b 5 (4 * q + r) ≤ 60 := hb.2 5 _ (by decide)
      have := (n9 _ (show b 5 (4 * q + r) - 1 < 60 by omega) (by omega)).1
      exact s3 q r k hq hr hk h0 (by omega) ((s15 k hk).mp h2)
  · obtain ⟨g1, g2⟩ := f21n q y (by omega) hy (by omega) h0
    have := (n9 y hy (by omega)).1
    rw [f20 q k hq hk, if_neg g1]
    exact s4 q y k hq hy hk g2 (by omega)
  · obtain ⟨g1, g2, g3⟩ := f218 y hy h0
    have hy6 := (n9 y hy g3).1
    rcases g1 with g | g
    · have h1 := s4 p y k hp hy hk g (by omega)
      refine ⟨p, hp, by rw [f0, if_pos rfl], ?_⟩
      rw [f20 p k hp hk, if_pos rfl, if_pos ⟨(s2 p k hp hk h1).1, nmb_t.mpr ⟨y, hy, g, by omega⟩⟩]
      decide
    · obtain ⟨q, q1, q2, q3⟩ := s5 y k hy hk g (by omega)
      have hqp : q ≠ p := fun u => by
        have := hl.2
        rw [u] at q2
        omega
      exact ⟨q, q1, by rw [f0, if_neg hqp]; exact q2, by rw [f20 q k q1 hk, if_neg hqp]; exact q3⟩
  · obtain ⟨g1, g2⟩ := n911 g hg (by omega)
    rw [fk 12 (by omega), fk 16 (by omega), f15 k hk]
    have hn : ¬ (b 15 k = 1 ∧ b 16 k = p) := fun u => g2 (Or.inr ⟨k, hk, u.1, u.2, by omega⟩)
    rw [if_neg hn]
    exact w1 g k hg hk (by omega)
  · rw [f15 k hk] at e
    by_cases c : b 15 k = 1 ∧ b 16 k = p
    · rw [if_pos c] at e
      cases e
    · rw [if_neg c] at e
      rw [fk 16 (by omega)]
      exact (lvf _).mpr ⟨w2 k hk e, fun u => c ⟨e, u⟩⟩
  · rw [f15 k hk] at e1
    rw [f15 q hq] at e2
    rw [fk 16 (by omega), fk 16 (by omega)] at e3
    by_cases c : b 15 k = 1 ∧ b 16 k = p
    · rw [if_pos c] at e1
      cases e1
    · by_cases d : b 15 q = 1 ∧ b 16 q = p
      · rw [if_pos d] at e2
        cases e2
      · rw [if_neg c] at e1
        rw [if_neg d] at e2
        exact w3 k q hk hq e1 e2 e3
  · have e2 := (s15 k hk).mp e
    have w : b 17 k ≤ 59 := hb.2 17 k (by decide)
    have h6 := w4 k hk e2
    rw [fk 17 (by omega), f6b _ (by omega)]
    · exact h6
    · rintro (m | ⟨i, i1, i2, i3, i4⟩)
      · omega
      · have : i = k := by omega
        rw [this] at i2
        omega
  · rw [fk 18 (by omega), w5 k hk, f15 k hk]
    by_cases c : b 15 k = 1 ∧ b 16 k = p
    · rw [if_pos c]
      exact ⟨fun u => by omega, fun u => by omega⟩
    · rw [if_neg c]
  · obtain ⟨t1, t2, t3, t4, t5⟩ := hT
    unfold vT
    rw [fk 4 (by omega), fk 3 (by omega)]
    refine ⟨t1, t2, fun q hq => ?_, fun q q0 hq => by rw [fk 1 (by omega)]; exact t4 q q0 hq, t5⟩
    rw [f0]
    by_cases e : q = p
    · rw [if_pos e, e]
      exact ⟨fun _ => (t3 p hp).mp hl.1, fun _ => by omega⟩
    · rw [if_neg e]
      exact t3 q hq
  · have hfz : ∀ i, fzb f i = fzb b i := fun i => by
      rw [Bool.eq_iff_iff, fzb_t, fzb_t]
      constructor
      · rintro ⟨a1, a2, a3⟩
        exact ⟨a1, a2, (s15 (i - 9) (by omega)).mp a3⟩
      · rintro ⟨a1, a2, a3⟩
        exact ⟨a1, a2, (s15 (i - 9) (by omega)).mpr a3⟩
    have hmf : ∀ v, mgd b p v → fzb b (v - 1) = false := fun v hm => Bool.eq_false_iff.mpr (fun u => by
      obtain ⟨a1, a2, a3⟩ := fzb_t.mp u
      rcases hm with e | ⟨k, k1, k2, k3, k4⟩
      · omega
      · rw [show v - 1 - 9 = k by omega] at a3
        omega)
    refine vUo_mono (b := b) (o := ow b) hU (fun n _ => ?_) (fun n _ h => ((lvf n).mp h).1) (fun n _ => ⟨fk 1 (by omega) n, fk 2 (by omega) n, fk 3 (by omega) n⟩) (fun n hn => ?_)
    · rw [f0]
      by_cases e : n = p
      · rw [if_pos e, e]
        exact ⟨fun _ => hl.1, fun _ => by omega⟩
      · rw [if_neg e]
    · unfold ow
      refine Nat.add_le_add (List.countP_mono_left (fun g hg u => ?_)) (sm_le (fun k hk => ?_))
      · have hg := List.mem_range.mp hg
        obtain ⟨u1, u2, u3⟩ := opg_t.mp u
        rw [fk 12 (by omega)] at u3
        refine opg_t.mpr ⟨(pos11 g hg).mp u1, ?_, u3⟩
        by_cases c : mgd b p (b 11 g)
        · exact hmf _ c
        · rw [f11b g hg c, hfz] at u2
          exact u2
      · have hpc : pc f (9 + k) ≤ pc b (9 + k) := by
          unfold pc
          refine List.countP_mono_left (fun g hg u => ?_)
          have hg := List.mem_range.mp hg
          have u := of_decide_eq_true u
          have := (n911 g hg (by omega)).1
          exact decide_eq_true (by omega)
        unfold opk
        rw [f20 n k hn hk]
        by_cases e : n = p
        · rw [if_pos e]
          by_cases c : b 15 k = 2 ∧ nmb b p (9 + k) = true
          · rw [if_pos c, if_neg (by decide)]
            obtain ⟨y, y1, y2, y3⟩ := nmb_t.mp c.2
            have := s4 p y k hp y1 hk y2 (by omega)
            rw [e, if_neg this]
            exact hpc
          · rw [if_neg c, if_pos rfl]
            exact Nat.zero_le _
        · rw [if_neg e]
          split
          · exact Nat.le_refl _
          · exact hpc
/-- p no longer builds k -/
theorem sR.bd (hs : sR D b L pg ob) {k0 : Nat} (hk0 : k0 < 4) (hp : p < 8) (h48 : b 4 0 ≤ 8) (h1 : b 15 k0 = 1) (h2 : b 16 k0 = p) (hu : ∀ k, k < 4 → b 15 k = 1 → b 16 k = p → k = k0) : sR (di D 10 p (-1)) (bu b 15 k0 3) L pg ob := by
  obtain ⟨sx, so, sg, sp, sq, sh⟩ := hs
  have hi : ∀ q j, q ≠ 10 → (di D 10 p (-1)).2.1 q j = D.2.1 q j := fun q j h => di_n h
  have r1 : ∀ q j, q ≠ 15 → bu b 15 k0 3 q j = b q j := fun q j h => bu_n h
  have hf : ∀ i, fzb (bu b 15 k0 3) i = fzb b i := fun i => by
    rw [Bool.eq_iff_iff, fzb_t, fzb_t]
    by_cases e : i - 9 = k0
    · rw [e, bu_s, h1]
      exact ⟨fun u => by omega, fun u => by omega⟩
    · rw [bu_m e]
  refine ⟨sx.cong rfl (fun x => r1 6 x (by decide)), fun x hx h0 => (so x hx h0).cong (fun k hk j => hi k j (by omega)) (fun _ _ _ => rfl) (fun k hk j => r1 k j (by omega)), sg.cong rfl (fun g => r1 11 g (by decide)) (fun g => r1 13 g (by decide)), fun g hg h0 => ?_, ⟨?_, fun q hq => ?_, fun q hq => ?_⟩, fun i h13 => ?_, ?_⟩
  · rw [r1 11 g (by decide)] at h0 ⊢
    rw [hf, hi 0 _ (by decide), hi 1 _ (by decide), r1 12 g (by decide)]
    exact sp g hg h0
  · rw [hi 12 _ (by decide)]
    exact sq.1
  · rw [hi 6 _ (by decide)]
    exact sq.2.1 q hq
  · have hq : q < b 4 0 := hq
    obtain ⟨q1, q2, q3, q4, q5, q6⟩ := sq.2.2 q hq
    refine ⟨fun u => by rw [hi 7 _ (by decide)]; exact q1 u, by rw [hi 8 _ (by decide)]; exact q2, by rw [hi 9 _ (by decide)]; exact q3, ?_, fun i => by rw [hi 11 _ (by decide)]; exact q5 i, fun r h => q6 r h⟩
    rw [di_i]
    by_cases e : q = p
    · rw [if_pos ⟨rfl, e⟩, rbk_no, if_pos rfl]
      rintro k hk ⟨e1, e2⟩
      rw [r1 16 k (by decide)] at e2
      by_cases ek : k = k0
      · rw [ek, bu_s] at e1
        cases e1
      · rw [bu_m ek] at e1
        exact ek (hu k hk e1 (by rw [e2, e]))
    · rw [if_neg (fun u => e u.2), q4]
      have : ∀ n, n ≤ 4 → rbk (bu b 15 k0 3) q n = rbk b q n := by
        intro n
        induction n with
        | zero => intro _; rfl
        | succ n ih =>
          intro hn
          show (if bu b 15 k0 3 15 n = 1 ∧ bu b 15 k0 3 16 n = q then 9 + n else rbk (bu b 15 k0 3) q n) = (if b 15 n = 1 ∧ b 16 n = q then 9 + n else rbk b q n)
          rw [ih (by omega), r1 16 n (by decide)]
          by_cases en : n = k0
          · rw [en, bu_s, h2, if_neg (fun u => by cases u.1), if_neg (fun u => e u.2.symm)]
          · rw [bu_m en]
      rw [this 4 (by omega)]
  · rw [hf, r1 17 _ (by decide)]
    exact sh.1 i h13
  · rw [hi 12 _ (by decide), r1 18 0 (by decide)]
    exact sh.2
/-- a process dies -/
theorem sR.die (hs : sR D b L pg ob) (hv : iV b) (hb : rb N b) (hN : N + 120 < 1000000000) (hA : d_A D) (hp : p < 8) (hl : lv b p) : sR (d_die D p) (dth b p) L pg ob ∧ iV (dth b p) ∧ d_A (d_die D p) ∧ vF (dth b p) ∧ ∃ E c, sR E c L pg ob ∧ iV c ∧ rb (N + 120) c ∧ d_A E ∧ ((∀ q r, q < 8 → r < 4 → c 5 (4 * q + r) = 0 ∨ c 5 (4 * q + r) = b 5 (4 * q + r)) ∧ (∀ x k, x < 60 → k < 4 → c 6 x = 10 + k → b 6 x = 10 + k) ∧ (∀ k, k < 4 → c 15 k = 1 → b 15 k = 1) ∧ ∀ k, k < 4 → c 16 k = b 16 k) ∧ dth b p = vnN c 4 := by
  have hT := hv.2.2.2.2.1
  have h48 := hT.2.1
  have hm := lv_made hT hp hl
  have h1 := hs.dy1 hv hb hp hl
  have hb0 : rb N (di1 (bu b 0 p 4) p 4) := rb_di1 (hb.u (fun _ => show 4 ≤ 4 by omega)) p 4
  have c0 : ∀ q, di1 (bu b 0 p 4) p 4 0 q = if q = p then 4 else b 0 q := fun q => by
    show bu b 0 p 4 0 q = _
    unfold bu
    by_cases e : q = p
    · rw [if_pos ⟨rfl, e⟩, if_pos e]
    · rw [if_neg (fun u => e u.2), if_neg e]
  have ck : ∀ k j, k ≠ 0 → k ≠ 5 → k ≠ 19 → k ≠ 20 → di1 (bu b 0 p 4) p 4 k j = b k j := fun k j h0 h5 h19 h20 => by
    unfold di1
    rw [if_neg (fun u => u.1.elim h5 h19), if_neg (fun u => h20 u.1), bu_n h0]
  have c5 : ∀ q r, q < 8 → r < 4 → di1 (bu b 0 p 4) p 4 5 (4 * q + r) = if q = p then 0 else b 5 (4 * q + r) := fun q r hq hr => by
    show (if (5 = 5 ∨ 5 = 19) ∧ 4 * p ≤ 4 * q + r ∧ 4 * q + r < 4 * p + 4 then 0 else b 5 (4 * q + r)) = _
    by_cases e : q = p
    · rw [if_pos ⟨Or.inl rfl, by omega, by omega⟩, if_pos e]
    · rw [if_neg (fun u => by omega), if_neg e]
  have c19 : ∀ q r, q < 8 → r < 4 → di1 (bu b 0 p 4) p 4 19 (4 * q + r) = if q = p then 0 else b 19 (4 * q + r) := fun q r hq hr => by
    show (if (19 = 5 ∨ 19 = 19) ∧ 4 * p ≤ 4 * q + r ∧ 4 * q + r < 4 * p + 4 then 0 else b 19 (4 * q + r)) = _
    by_cases e : q = p
    · rw [if_pos ⟨Or.inr rfl, by omega, by omega⟩, if_pos e]
    · rw [if_neg (fun u => by omega), if_neg e]
  have c20 : ∀ q k, q < 8 → k < 4 → di1 (bu b 0 p 4) p 4 20 (4 * q + k) = if q = p then (if b 15 k = 2 ∧ nmb b p (9 + k) = true then 1 else 0) else b 20 (4 * q + k) := fun q k hq hk => by
    show (if (20 = 5 ∨ 20 = 19) ∧ _ then 0 else if 20 = 20 ∧ 4 * p ≤ 4 * q + k ∧ 4 * q + k < 4 * p + 4 then (if b 15 (4 * q + k - 4 * p) = 2 ∧ nmb (bu b 0 p 4) p (9 + (4 * q + k - 4 * p)) = true then 1 else 0) else b 20 (4 * q + k)) = _
    rw [if_neg (fun u => by omega)]
    by_cases e : q = p
    · rw [if_pos ⟨rfl, by omega, by omega⟩, if_pos e, show 4 * q + k - 4 * p = k by omega]
      rfl
    · rw [if_neg (fun u => by omega), if_neg e]
  have vg0 : vG (di1 (bu b 0 p 4) p 4) := by
    obtain ⟨g1, g2, g3, g4⟩ := hv.2.1
    refine ⟨g1, g2, fun g hg h0 => ⟨?_, (g3 g hg h0).2⟩, g4⟩
    rw [c0]
    split
    · omega
    · exact (g3 g hg h0).1
  have hA1 : d_A (d_du (d_er (di D 6 p 4) p 4) p) := ((hA.ofi (by decide) (by decide)).er p 4).ofi (by decide) (by decide)
  unfold dth d_die
  generalize di1 (bu b 0 p 4) p 4 = c at *
  have hf1 : fzb c p = false := Bool.eq_false_iff.mpr (fun u => by have := (fzb_t.mp u).1; omega)
  have h2 : sR (d_d4 D p) (mrg c p) L pg ob := h1.mg vg0 hb0 (by omega) (by omega) hf1
  have vg1 := vg0.mg hb0 (show p ≠ 8 by omega)
  have hb1 := rb_mrg hb0 p (by omega)
  have hA2 : d_A (d_d4 D p) := hA1.mg (nI p)
  have m15 : ∀ k, mrg c p 15 k = b 15 k := fun k => (mrg_k (by omega) (by decide) (by decide) (by decide) (by decide) k).trans (ck 15 k (by decide) (by decide) (by decide) (by decide))
  have m16 : ∀ k, mrg c p 16 k = b 16 k := fun k => (mrg_k (by omega) (by decide) (by decide) (by decide) (by decide) k).trans (ck 16 k (by decide) (by decide) (by decide) (by decide))
  have m4 : mrg c p 4 0 = b 4 0 := (mrg_k (by omega) (by decide) (by decide) (by decide) (by decide) 0).trans (ck 4 0 (by decide) (by decide) (by decide) (by decide))
  have mk : ∀ k j, k ≠ 6 → k ≠ 11 → k ≠ 13 → k ≠ 14 → mrg c p k j = c k j := fun k j a1 a2 a3 a4 => mrg_k (by omega) a1 a2 a3 a4 j
  have h10 := (h2.2.2.2.2.1.2.2 p (by rw [m4]; exact hm)).2.2.2.1
  have h6c : ∀ x, c 6 x = b 6 x := fun x => ck 6 x (by decide) (by decide) (by decide) (by decide)
  have h11c : ∀ x, c 11 x = b 11 x := fun x => ck 11 x (by decide) (by decide) (by decide) (by decide)
  -- the building heap
  have key : ∃ e : rB, dmk (mrg c p) p 4 = e ∧ sR (d_d5 D p) e L pg ob ∧ vG e ∧ rb (N + 120) e ∧ d_A (d_d5 D p) ∧ (∀ k j, k ≠ 6 → k ≠ 11 → k ≠ 13 → k ≠ 14 → k ≠ 15 → e k j = c k j) ∧ (∀ k, k < 4 → e 15 k = if b 15 k = 1 ∧ b 16 k = p then 3 else b 15 k) ∧ (∀ x, x < 60 → (mgd b p (b 6 x) → e 6 x = 9) ∧ (¬ mgd b p (b 6 x) → e 6 x = b 6 x)) ∧ ∀ g, g < 24 → (mgd b p (b 11 g) → e 11 g = 9) ∧ (¬ mgd b p (b 11 g) → e 11 g = b 11 g) := by
    by_cases hex : ∃ k0, k0 < 4 ∧ b 15 k0 = 1 ∧ b 16 k0 = p
    · obtain ⟨k0, e0, e1, e2⟩ := hex
      have hu : ∀ k, k < 4 → b 15 k = 1 → b 16 k = p → k = k0 := fun k a1 a2 a3 => hv.2.2.2.1.2.2.1 k k0 a1 e0 a2 e1 (by rw [a3, e2])
      have hu1 : ∀ k, k < 4 → mrg c p 15 k = 1 → mrg c p 16 k = p → k = k0 := fun k a1 a2 a3 => hu k a1 (by rw [← m15]; exact a2) (by rw [← m16]; exact a3)
      have hd := dmk_at (b := mrg c p) e0 (by rw [m15]; exact e1) (by rw [m16]; exact e2) hu1 4 (by omega)
      rw [if_pos e0] at hd
      have hrb : rbk (mrg c p) p 4 = 9 + k0 := by
        rcases rbk_or (mrg c p) p 4 with q | ⟨i, q1, q2, q3, q4⟩
        · exfalso
          have hbb : vB (mrg c p) → False := fun hB => by
            have := rbk_at hB hp e0 (by rw [m15]; exact e1) (by rw [m16]; exact e2)
            omega
          have hall : ∀ n, n ≤ 4 → k0 < n → rbk (mrg c p) p n ≠ p := by
            intro n
            induction n with
            | zero => intro _ u; omega
            | succ n ih =>
              intro hn u w
              have w : (if mrg c p 15 n = 1 ∧ mrg c p 16 n = p then 9 + n else rbk (mrg c p) p n) = p := w
              by_cases cc : mrg c p 15 n = 1 ∧ mrg c p 16 n = p
              · rw [if_pos cc] at w
                omega
              · rw [if_neg cc] at w
                by_cases en : k0 = n
                · rw [← en] at cc
                  exact cc ⟨by rw [m15]; exact e1, by rw [m16]; exact e2⟩
                · exact ih (by omega) (by omega) w
          exact hall 4 (by omega) e0 q
        · rw [q2, hu1 i q1 q3 q4]
      have hb10 : (d_d4 D p).2.1 10 p = nI (9 + k0) := by
        rw [h10, hrb, if_neg (by omega)]
      have hd5 : d_d5 D p = di (d_mg (d_d4 D p) (nI (9 + k0))) 10 p (-1) := by
        unfold d_d5
        rw [hb10, if_neg (fun u => m1_ne (by omega) u.symm)]
      have hf2 : fzb (mrg c p) (9 + k0) = false := Bool.eq_false_iff.mpr (fun u => by
        have := (fzb_t.mp u).2.2
        rw [show 9 + k0 - 9 = k0 by omega, m15] at this
        omega)
      have h3 := h2.mg vg1 hb1 (show 9 + k0 ≠ 8 by omega) (by omega) hf2
      have vg2 := vg1.mg hb1 (show 9 + k0 ≠ 8 by omega)
      have hb2 := rb_mrg hb1 (9 + k0) (by omega)
      have n15 : ∀ k, mrg (mrg c p) (9 + k0) 15 k = b 15 k := fun k => (mrg_k (by omega) (by decide) (by decide) (by decide) (by decide) k).trans (m15 k)
      have n16 : ∀ k, mrg (mrg c p) (9 + k0) 16 k = b 16 k := fun k => (mrg_k (by omega) (by decide) (by decide) (by decide) (by decide) k).trans (m16 k)
      have n4 : mrg (mrg c p) (9 + k0) 4 0 = b 4 0 := (mrg_k (by omega) (by decide) (by decide) (by decide) (by decide) 0).trans m4
      have h4 := h3.bd e0 hp (by rw [n4]; exact h48) (by rw [n15]; exact e1) (by rw [n16]; exact e2) (fun k a1 a2 a3 => hu k a1 (by rw [← n15]; exact a2) (by rw [← n16]; exact a3))
      have hval : ∀ v, (mgd b p v → v = p + 1 ∨ v = 9 + k0 + 1) ∧ (v = p + 1 ∨ v = 9 + k0 + 1 → mgd b p v) := fun v => ⟨fun hm => by
        rcases hm with q | ⟨i, q1, q2, q3, q4⟩
        · exact Or.inl q
        · have := hu i q1 q2 q3
          exact Or.inr (by omega), fun hm => by
        rcases hm with q | q
        · exact Or.inl q
        · exact Or.inr ⟨k0, e0, e1, e2, by omega⟩⟩
      refine ⟨_, hd, by rw [hd5]; exact h4, vg2.cong (fun k hk j => bu_n (by omega)), ((hb2.u (fun _ => show 3 ≤ 3 by omega)).up (by omega) hN), by rw [hd5]; exact (hA2.mg _).ofi (by decide) (by decide), fun k j a1 a2 a3 a4 a5 => ?_, fun k hk => ?_, fun x hx => ?_, fun g hg => ?_⟩
      · rw [bu_n a5, mrg_k (by omega) a1 a2 a3 a4]
        exact mk k j a1 a2 a3 a4
      · by_cases ek : k = k0
        · rw [ek, bu_s, if_pos ⟨e1, e2⟩]
        · rw [bu_m ek, n15, if_neg (fun u => ek (hu k hk u.1 u.2))]
      · have e6 : bu (mrg (mrg c p) (9 + k0)) 15 k0 3 6 x = if b 6 x = p + 1 then 9 else if b 6 x = 9 + k0 + 1 then 9 else b 6 x := by
          have m6 := mrg_6 (b := c) (h := p) (x := x) (by omega)
          rw [h6c] at m6
          rw [bu_n (by decide), mrg_6 (by omega)]
          by_cases q : b 6 x = p + 1
          · rw [if_pos ⟨hx, q⟩] at m6
            rw [m6, if_neg (fun u => by have := u.2; omega), if_pos q]
          · rw [if_neg (fun u => q u.2)] at m6
            rw [m6, if_neg q]
            by_cases q2 : b 6 x = 9 + k0 + 1
            · rw [if_pos ⟨hx, q2⟩, if_pos q2]
            · rw [if_neg (fun u => q2 u.2), if_neg q2]
        rw [e6]
        constructor
        · intro hm
          rcases (hval _).1 hm with q | q
          · rw [if_pos q]
          · rw [if_neg (by omega), if_pos q]
        · intro hm
          rw [if_neg (fun u => hm ((hval _).2 (Or.inl u))), if_neg (fun u => hm ((hval _).2 (Or.inr u)))]
      · have e6 : bu (mrg (mrg c p) (9 + k0)) 15 k0 3 11 g = if b 11 g = p + 1 then 9 else if b 11 g = 9 + k0 + 1 then 9 else b 11 g := by
          have m6 := mrg_11 (b := c) (h := p) (g := g) (by omega)
          rw [h11c] at m6
          rw [bu_n (by decide), mrg_11 (by omega)]
          by_cases q : b 11 g = p + 1
          · rw [if_pos ⟨hg, q⟩] at m6
            rw [m6, if_neg (fun u => by have := u.2; omega), if_pos q]
          · rw [if_neg (fun u => q u.2)] at m6
            rw [m6, if_neg q]
            by_cases q2 : b 11 g = 9 + k0 + 1
            · rw [if_pos ⟨hg, q2⟩, if_pos q2]
            · rw [if_neg (fun u => q2 u.2), if_neg q2]
        rw [e6]
        constructor
        · intro hm
          rcases (hval _).1 hm with q | q
          · rw [if_pos q]
          · rw [if_neg (by omega), if_pos q]
        · intro hm
          rw [if_neg (fun u => hm ((hval _).2 (Or.inl u))), if_neg (fun u => hm ((hval _).2 (Or.inr u)))]
    · have hno : ∀ k, k < 4 → ¬ (mrg c p 15 k = 1 ∧ mrg c p 16 k = p) := fun k hk u => hex ⟨k, hk, by rw [← m15]; exact u.1, by rw [← m16]; exact u.2⟩
      have hd := dmk_no hno 4 (by omega)
      have hb10 : (d_d4 D p).2.1 10 p = -1 := by
        rw [h10, rbk_no hno, if_pos rfl]
      have hd5 : d_d5 D p = d_d4 D p := by
        unfold d_d5
        rw [if_pos hb10]
      have hval : ∀ v, mgd b p v ↔ v = p + 1 := fun v => ⟨fun hm => by
        rcases hm with q | ⟨i, q1, q2, q3, q4⟩
        · exact q
        · exact absurd ⟨i, q1, q2, q3⟩ hex, fun hm => Or.inl hm⟩
      refine ⟨_, hd, by rw [hd5]; exact h2, vg1, hb1.up (by omega) hN, by rw [hd5]; exact hA2, fun k j a1 a2 a3 a4 _ => mk k j a1 a2 a3 a4, fun k hk => ?_, fun x hx => ?_, fun g hg => ?_⟩
      · rw [m15, if_neg (fun u => hex ⟨k, hk, u.1, u.2⟩)]
      · rw [mrg_6 (by omega), h6c, hval]
        exact ⟨fun u => if_pos ⟨hx, u⟩, fun u => if_neg (fun w => u w.2)⟩
      · rw [mrg_11 (by omega), h11c, hval]
        exact ⟨fun u => if_pos ⟨hg, u⟩, fun u => if_neg (fun w => u w.2)⟩
  obtain ⟨e, k1, k2, k3, k4, k5, k6, k7, k8, k9⟩ := key
  rw [k1]
  have h5 := k2.hi k3 k4 hp
  have hb5 := rb_dit k4 p 60
  have hA5 : d_A (d_hi (d_d5 D p) p) := k5.hi p
  have dk : ∀ k j, k ≠ 21 → dit e p 60 k j = e k j := fun k j hk => (if_neg (fun u => hk u.1)).trans (if_neg (fun u => hk u.1))
  have e21 : ∀ j, e 21 j = b 21 j := fun j => (k6 21 j (by decide) (by decide) (by decide) (by decide) (by decide)).trans (ck 21 j (by decide) (by decide) (by decide) (by decide))
  have hvf : iV (dit e p 60) := by
    refine iV_die hv hb hp hl (fun q => ?_) (fun k hk j => ?_) (fun q r hq hr => ?_) (fun x hx hm => ?_) (fun x hx hm => ?_) (fun g hg hm => ?_) (fun g hg hm => ?_) (fun k hk => ?_) (fun q k hq hk => ?_) (fun q k hq hk => ?_) (fun i x hi hx => ?_) (k3.cong (fun k hk j => dk k j (by omega)))
    · rw [dk 0 q (by decide), k6 0 q (by decide) (by decide) (by decide) (by decide) (by decide)]
      exact c0 q
    · rw [dk k j (by omega), k6 k j (by omega) (by omega) (by omega) (by omega) (by omega)]
      exact ck k j (by omega) (by omega) (by omega) (by omega)
    · rw [dk 5 _ (by decide), k6 5 _ (by decide) (by decide) (by decide) (by decide) (by decide)]
      exact c5 q r hq hr
    · rw [dk 6 x (by decide)]
      exact (k8 x hx).1 hm
    · rw [dk 6 x (by decide)]
      exact (k8 x hx).2 hm
    · rw [dk 11 g (by decide)]
      exact (k9 g hg).1 hm
    · rw [dk 11 g (by decide)]
      exact (k9 g hg).2 hm
    · rw [dk 15 k (by decide)]
      exact k7 k hk
    · rw [dk 19 _ (by decide), k6 19 _ (by decide) (by decide) (by decide) (by decide) (by decide)]
      exact c19 q k hq hk
    · rw [dk 20 _ (by decide), k6 20 _ (by decide) (by decide) (by decide) (by decide) (by decide)]
      exact c20 q k hq hk
    · rw [dk 6 x (by decide), ← e21, ← e21, ← e21]
      show (if 21 = 21 ∧ 480 ≤ 60 * i + x ∧ 60 * i + x < 480 + 60 then (if (e 21 (60 * p + (60 * i + x - 480)) ≠ 0 ∨ e 21 (60 * i + x) ≠ 0) ∧ 0 < e 6 (60 * i + x - 480) ∧ e 6 (60 * i + x - 480) ≠ 9 then 1 else 0) else if 21 = 21 ∧ 60 * p ≤ 60 * i + x ∧ 60 * i + x < 60 * p + 60 then 0 else e 21 (60 * i + x)) = _
      by_cases q : i = 8
      · subst q
        rw [if_pos ⟨rfl, by omega, by omega⟩, if_pos rfl, show 60 * 8 + x - 480 = x by omega]
      · rw [if_neg (fun u => by omega), if_neg q]
        by_cases q2 : i = p
        · rw [if_pos ⟨rfl, by omega, by omega⟩, if_pos q2]
        · rw [if_neg (fun u => by omega), if_neg q2]
  obtain ⟨z1, z2, z3, z4⟩ := h5.gn hvf hb5 hA5 4 (Nat.le_refl 4)
  refine ⟨z1, z2, z3, z4, _, _, h5, hvf, hb5, hA5, ⟨fun q r hq hr => ?_, fun x k hx hk w => ?_, fun k hk w => ?_, fun k hk => ?_⟩, rfl⟩
  · rw [dk 5 _ (by decide), k6 5 _ (by decide) (by decide) (by decide) (by decide) (by decide), c5 q r hq hr]
    split
    · exact Or.inl rfl
    · exact Or.inr rfl
  · rw [dk 6 x (by decide)] at w
    by_cases hm2 : mgd b p (b 6 x)
    · rw [(k8 x hx).1 hm2] at w
      omega
    · rw [(k8 x hx).2 hm2] at w
      exact w
  · rw [dk 15 k (by decide), k7 k hk] at w
    by_cases c2 : b 15 k = 1 ∧ b 16 k = p
    · exact c2.1
    · rw [if_neg c2] at w
      exact w
  · exact (dk 16 k (by decide)).trans ((k6 16 k (by decide) (by decide) (by decide) (by decide) (by decide)).trans (ck 16 k (by decide) (by decide) (by decide) (by decide)))
end SY3
