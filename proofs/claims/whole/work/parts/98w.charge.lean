/-! CLASS AND REFERENCE: charges after a collection -/
section SW
variable {D D1 : ph_D} {b b1 : rB} {L : Nat → Int32} {pg ob : Nat → Nat} {N n p h x y g k t : Nat}
/-- charges alone change -/
theorem sR.chg (hs : sR D b L pg ob) (h1 : D1.1 = D.1) (h2 : ∀ k j, D1.2.2 k j = D.2.2 k j) (h3 : ∀ k j, k ≠ 11 → D1.2.1 k j = D.2.1 k j) (h4 : ∀ k j, k ≠ 19 → k ≠ 20 → b1 k j = b k j) (h5 : ∀ p, p < b 4 0 → ∀ i, bb_t (D1.2.1 11 p) i = (decide (9 ≤ i) && decide (i < 13) && !decide (b1 20 (4 * p + (i - 9)) = 0))) : sR D1 b1 L pg ob := by
  obtain ⟨sx, so, sg, sp, sq, sh⟩ := hs
  refine ⟨sx.cong (by rw [h1]) (fun x => h4 6 x (by decide) (by decide)), fun x hx h0 => ?_, sg.cong (by rw [h1]) (fun g => h4 11 g (by decide) (by decide)) (fun g => h4 13 g (by decide) (by decide)), sp.cong (fun j => h3 0 j (by decide)) (fun j => h3 1 j (by decide)) (fun k hk j => h4 k j (by omega) (by omega)), ⟨?_, fun p hp => ?_, fun p hp => ?_⟩, sh.cong (h3 12 1 (by decide)) (fun j => h2 8 j) (fun k hk j => h4 k j (by omega) (by omega))⟩
  · rw [h4 6 x (by decide) (by decide)] at h0
    exact (so x hx h0).cong (fun k hk j => h3 k j (by omega)) (fun k _ j => h2 k j) (fun k hk j => h4 k j (by omega) (by omega))
  · rw [h3 12 0 (by decide), h4 4 0 (by decide) (by decide)]
    exact sq.1
  · rw [h3 6 p (by decide), h4 0 p (by decide) (by decide)]
    exact sq.2.1 p hp
  · rw [h4 4 0 (by decide) (by decide)] at hp
    obtain ⟨q1, q2, q3, q4, q5, q6⟩ := sq.2.2 p hp
    refine ⟨fun u => by rw [h3 7 _ (by decide), h4 1 _ (by decide) (by decide)]; exact q1 u, by rw [h3 8 _ (by decide), h4 2 _ (by decide) (by decide)]; exact q2, by rw [h3 9 _ (by decide), h4 3 _ (by decide) (by decide)]; exact q3, ?_, h5 p hp, fun r h => by rw [h2, h4 5 _ (by decide) (by decide)]; exact q6 r h⟩
    rw [h3 10 _ (by decide), rbk_c (fun k _ => ⟨h4 15 k (by decide) (by decide), h4 16 k (by decide) (by decide)⟩) p 4 (by omega)]
    exact q4
theorem nmb_c (h : ∀ k, k = 6 ∨ k = 21 → ∀ j, b1 k j = b k j) (i t : Nat) : nmb b1 i t = nmb b i t := by
  have e6 : b1 6 = b 6 := funext (h 6 (by omega))
  have e21 : b1 21 = b 21 := funext (h 21 (by omega))
  unfold nmb
  rw [e6, e21]
theorem hob_c (h : ∀ k, k = 6 ∨ k = 5 → ∀ j, b1 k j = b k j) (i t : Nat) : hob b1 i t = hob b i t := by
  have e6 : b1 6 = b 6 := funext (h 6 (by omega))
  have e5 : b1 5 = b 5 := funext (h 5 (by omega))
  unfold hob
  rw [e6, e5]
theorem du_t (D : ph_D) (p n i : Nat) (hn : n ≤ 4) : bb_t (du D p n) i = (bb_t (D.2.1 11 p) i && (!(decide (9 ≤ i) && decide (i < 9 + n)) || (d_ho D p (nI i) || d_it D p i))) := by
  induction n with
  | zero =>
    rw [show (decide (9 ≤ i) && decide (i < 9 + 0)) = false from by
      by_cases e : 9 ≤ i
      · rw [decide_eq_false (show ¬ i < 9 + 0 by omega), Bool.and_false]
      · rw [decide_eq_false e, Bool.false_and], Bool.not_false, Bool.true_or, Bool.and_true]
    rfl
  | succ n ih =>
    have ih := ih (by omega)
    show bb_t (if d_ho D p (nI (9 + n)) = true ∨ d_it D p (9 + n) = true then du D p n else clr (du D p n) (9 + n)) i = _
    by_cases e : i = 9 + n
    · subst e
      rw [show (decide (9 ≤ 9 + n) && decide (9 + n < 9 + n)) = false from by rw [decide_eq_false (Nat.lt_irrefl (9 + n)), Bool.and_false], Bool.not_false, Bool.true_or, Bool.and_true] at ih
      rw [decide_eq_true (show 9 ≤ 9 + n by omega), decide_eq_true (show 9 + n < 9 + (n + 1) by omega)]
      show _ = (bb_t (D.2.1 11 p) (9 + n) && (false || (d_ho D p (nI (9 + n)) || d_it D p (9 + n))))
      rw [Bool.false_or]
      by_cases c : d_ho D p (nI (9 + n)) = true ∨ d_it D p (9 + n) = true
      · rw [if_pos c, ih, (Bool.or_eq_true _ _).mpr c, Bool.and_true]
      · rw [if_neg c]
        unfold clr
        rw [bb_clr _ (by omega), decide_eq_true rfl, Bool.not_true, Bool.and_false]
        rw [Bool.eq_false_iff.mpr (fun u => c ((Bool.or_eq_true _ _).mp u)), Bool.and_false]
    · have e2 : (decide (9 ≤ i) && decide (i < 9 + (n + 1))) = (decide (9 ≤ i) && decide (i < 9 + n)) := by
        by_cases e3 : i < 9 + n
        · rw [decide_eq_true e3, decide_eq_true (show i < 9 + (n + 1) by omega)]
        · rw [decide_eq_false e3, decide_eq_false (show ¬ i < 9 + (n + 1) by omega)]
      rw [e2, ← ih]
      split
      · rfl
      · unfold clr
        rw [bb_clr _ (by omega), decide_eq_false e, Bool.not_false, Bool.and_true]
theorem chN_p (hp : p < 8) (n : Nat) : ∀ q j, chN b p n q j = if (q = 19 ∨ q = 20) ∧ 4 * p ≤ j ∧ j < 4 * p + n ∧ b 19 j ≠ 0 ∧ nmb b p (9 + (j - 4 * p)) = false ∧ hob b p (9 + (j - 4 * p)) = false then 0 else b q j := by
  induction n with
  | zero =>
    intro q j
    rw [if_neg (fun u => by omega)]
    rfl
  | succ n ih =>
    intro q j
    have e : chN b p (n + 1) = chp (chN b p n) p n := by
      show (if p = 8 then _ else _) = _
      rw [if_neg (by omega)]
    have h19 : chN b p n 19 (4 * p + n) = b 19 (4 * p + n) := by
      rw [ih, if_neg (fun u => by omega)]
    have hk : ∀ k, k ≠ 19 → k ≠ 20 → ∀ j, chN b p n k j = b k j := fun k h1 h2 j => by
      rw [ih, if_neg (fun u => by omega)]
    have hnm := nmb_c (fun k hk' j => hk k (by omega) (by omega) j) p (9 + n)
    have hho := hob_c (fun k hk' j => hk k (by omega) (by omega) j) p (9 + n)
    rw [e]
    unfold chp
    rw [h19, hnm, hho]
    by_cases c : b 19 (4 * p + n) ≠ 0 ∧ nmb b p (9 + n) = false ∧ hob b p (9 + n) = false
    · rw [if_pos c]
      unfold bu
      by_cases h1 : q = 20 ∧ j = 4 * p + n
      · rw [if_pos h1, if_pos ⟨Or.inr h1.1, by omega, by omega, by rw [h1.2, show 4 * p + n - 4 * p = n by omega]; exact c⟩]
      · rw [if_neg h1]
        by_cases h2 : q = 19 ∧ j = 4 * p + n
        · rw [if_pos h2, if_pos ⟨Or.inl h2.1, by omega, by omega, by rw [h2.2, show 4 * p + n - 4 * p = n by omega]; exact c⟩]
        · rw [if_neg h2, ih]
          by_cases h3 : (q = 19 ∨ q = 20) ∧ 4 * p ≤ j ∧ j < 4 * p + n ∧ b 19 j ≠ 0 ∧ nmb b p (9 + (j - 4 * p)) = false ∧ hob b p (9 + (j - 4 * p)) = false
          · rw [if_pos h3, if_pos ⟨h3.1, h3.2.1, by omega, h3.2.2.2⟩]
          · rw [if_neg h3, if_neg (fun u => h3 ⟨u.1, u.2.1, by
              have := u.1
              have := u.2.2.1
              omega, u.2.2.2⟩)]
    · rw [if_neg c, ih]
      by_cases h3 : (q = 19 ∨ q = 20) ∧ 4 * p ≤ j ∧ j < 4 * p + n ∧ b 19 j ≠ 0 ∧ nmb b p (9 + (j - 4 * p)) = false ∧ hob b p (9 + (j - 4 * p)) = false
      · rw [if_pos h3, if_pos ⟨h3.1, h3.2.1, by omega, h3.2.2.2⟩]
      · rw [if_neg h3, if_neg (fun u => h3 ⟨u.1, u.2.1, by
          have h4 := u.2.2.1
          have h5 : ¬ j = 4 * p + n := fun w => c (by
            have := u.2.2.2
            rw [w, show 4 * p + n - 4 * p = n by omega] at this
            exact this)
          omega, u.2.2.2⟩)]
theorem chN_8 (n : Nat) (hn : n ≤ 4) : ∀ q j, chN b 8 n q j = if q = 20 ∧ j < 32 ∧ j % 4 < n ∧ b 0 (j / 4) = 4 ∧ nmb b 8 (9 + j % 4) = false then 0 else b q j := by
  induction n with
  | zero =>
    intro q j
    rw [if_neg (fun u => by omega)]
    rfl
  | succ n ih =>
    have ih := ih (by omega)
    intro q j
    have e : chN b 8 (n + 1) = ch8 (chN b 8 n) n 8 := by
      show (if 8 = 8 then _ else _) = _
      rw [if_pos rfl]
    have hk : ∀ k, k ≠ 20 → ∀ j, chN b 8 n k j = b k j := fun k h1 j => by
      rw [ih, if_neg (fun u => by omega)]
    have hnm := nmb_c (fun k hk' j => hk k (by omega) j) 8 (9 + n)
    rw [e]
    unfold ch8
    rw [hnm, hk 0 (by decide)]
    by_cases h1 : q = 20 ∧ j % 4 = n ∧ j < 4 * 8 ∧ b 0 (j / 4) = 4 ∧ nmb b 8 (9 + n) = false
    · rw [if_pos h1, if_pos ⟨h1.1, by omega, by omega, h1.2.2.2.1, by rw [h1.2.1]; exact h1.2.2.2.2⟩]
    · rw [if_neg h1, ih]
      by_cases h3 : q = 20 ∧ j < 32 ∧ j % 4 < n ∧ b 0 (j / 4) = 4 ∧ nmb b 8 (9 + j % 4) = false
      · rw [if_pos h3, if_pos ⟨h3.1, h3.2.1, by omega, h3.2.2.2⟩]
      · rw [if_neg h3, if_neg (fun u => h3 ⟨u.1, u.2.1, by
          have h4 := u.2.2.1
          have h5 : ¬ j % 4 = n := fun w => h1 ⟨u.1, w, by have := u.2.1; omega, u.2.2.2.1, by rw [← w]; exact u.2.2.2.2⟩
          omega, u.2.2.2⟩)]
theorem d_it_cd (D : ph_D) (n i t : Nat) : d_it (d_cd D n) i t = d_it D i t := by
  have h1 := d_cd_1 D n
  have hh : ∀ a, d_h (d_cd D n) a = d_h D a := fun a => by
    unfold d_h
    rw [h1.2]
    split
    · exact d_cd_k (by decide) n
    · rfl
  unfold d_it
  rw [h1.1]
  congr 1
  funext a
  rw [hh, d_cd_k (by decide) n]
theorem cd_t (D : ph_D) (n p i : Nat) (hn : n ≤ 4) (hp : p < d_m D) : bb_t ((d_cd D n).2.1 11 p) i = (bb_t (D.2.1 11 p) i && !(decide (9 ≤ i) && decide (i < 9 + n) && decide (D.2.1 6 p = 4) && !d_it D 8 i)) := by
  induction n with
  | zero =>
    rw [show (decide (9 ≤ i) && decide (i < 9 + 0)) = false from by
      by_cases e : 9 ≤ i
      · rw [decide_eq_false (show ¬ i < 9 + 0 by omega), Bool.and_false]
      · rw [decide_eq_false e, Bool.false_and], Bool.false_and, Bool.false_and, Bool.not_false, Bool.and_true]
    rfl
  | succ n ih =>
    have ih := ih (by omega)
    show bb_t ((if d_it (d_cd D n) 8 (9 + n) = true then d_cd D n else d_ep (d_cd D n) (9 + n)).2.1 11 p) i = _
    rw [d_it_cd]
    have hm : d_m (d_cd D n) = d_m D := d_m_c (d_cd_k (by decide) n)
    have h6 : (d_cd D n).2.1 6 p = D.2.1 6 p := d_cd_k (by decide) n
    have estep : ∀ v, (if d_it D 8 (9 + n) = true then d_cd D n else d_ep (d_cd D n) (9 + n)).2.1 11 p = v → bb_t v i = (bb_t ((d_cd D n).2.1 11 p) i && !(decide (i = 9 + n) && decide (D.2.1 6 p = 4) && !d_it D 8 (9 + n))) := by
      intro v hv
      subst hv
      cases hd : d_it D 8 (9 + n) with
      | true => rw [if_pos rfl, Bool.not_true, Bool.and_false, Bool.not_false, Bool.and_true]
      | false =>
        rw [if_neg (by decide), Bool.not_false, Bool.and_true]
        show bb_t ((epn (d_cd D n) (9 + n) (d_m (d_cd D n))).2.1 11 p) i = _
        rw [epn_i, hm, h6]
        by_cases c : D.2.1 6 p = 4
        · rw [if_pos ⟨rfl, hp, c⟩, decide_eq_true c, Bool.and_true]
          unfold clr
          rw [bb_clr _ (by omega)]
        · rw [if_neg (fun u => c u.2.2), decide_eq_false c, Bool.and_false, Bool.not_false, Bool.and_true]
    rw [estep _ rfl, ih]
    by_cases e : i = 9 + n
    · subst e
      rw [decide_eq_true (show 9 ≤ 9 + n by omega), decide_eq_false (Nat.lt_irrefl (9 + n)), decide_eq_true (show 9 + n < 9 + (n + 1) by omega), decide_eq_true rfl]
      simp
    · rw [decide_eq_false e, Bool.false_and, Bool.false_and, Bool.not_false, Bool.and_true]
      by_cases e3 : i < 9 + n
      · rw [decide_eq_true e3, decide_eq_true (show i < 9 + (n + 1) by omega)]
      · rw [decide_eq_false e3, decide_eq_false (show ¬ i < 9 + (n + 1) by omega)]
theorem b9 {i p : Nat} {b : rB} : (decide (9 ≤ i) && decide (i < 13) && !decide (b 20 (4 * p + (i - 9)) = 0)) = true ↔ 9 ≤ i ∧ i < 13 ∧ b 20 (4 * p + (i - 9)) ≠ 0 := by
  rw [Bool.and_eq_true, Bool.and_eq_true, decide_eq_true_eq, decide_eq_true_eq, Bool.not_eq_true', decide_eq_false_iff_not, and_assoc]
/-- the second part of a collection: a process's heap -/
theorem sR.colP (hs : sR D b L pg ob) (hv : iV b) (hb : rb N b) (hp : p < 8) (hl : lv b p) : sR (d_du D p) (chN b p 4) L pg ob ∧ iV (chN b p 4) := by
  have hT := hv.2.2.2.2.1
  have hm := lv_made hT hp hl
  have h48 := hT.2.1
  have hc := chN_p (b := b) hp 4
  have hk : ∀ k, k ≠ 19 → k ≠ 20 → ∀ j, chN b p 4 k j = b k j := fun k h1 h2 j => by rw [hc, if_neg (fun u => by omega)]
  have h20 : ∀ j, chN b p 4 20 j = 0 ∨ chN b p 4 20 j = b 20 j := fun j => by
    rw [hc]
    split
    · exact Or.inl rfl
    · exact Or.inr rfl
  have hne : ∀ q k, q < 8 → k < 4 → (chN b p 4 20 (4 * q + k) ≠ 0 ↔ b 20 (4 * q + k) ≠ 0 ∧ (q = p → nmb b p (9 + k) = true ∨ hob b p (9 + k) = true)) := by
    intro q k hq hk4
    rw [hc]
    by_cases e : q = p
    · subst e
      have hsh := hv.2.2.1.1 q k hq hk4
      rw [show 4 * q + k - 4 * q = k by omega]
      by_cases c : (20 = 19 ∨ 20 = 20) ∧ 4 * q ≤ 4 * q + k ∧ 4 * q + k < 4 * q + 4 ∧ b 19 (4 * q + k) ≠ 0 ∧ nmb b q (9 + k) = false ∧ hob b q (9 + k) = false
      · rw [if_pos c]
        refine ⟨fun u => absurd rfl u, fun u => ?_⟩
        rcases u.2 rfl with w | w
        · rw [c.2.2.2.2.1] at w
          cases w
        · rw [c.2.2.2.2.2] at w
          cases w
      · rw [if_neg c]
        refine ⟨fun u => ⟨u, fun _ => ?_⟩, fun u => u.1⟩
        cases h1 : nmb b q (9 + k) with
        | true => exact Or.inl rfl
        | false =>
          cases h2 : hob b q (9 + k) with
          | true => exact Or.inr rfl
          | false => exact absurd ⟨Or.inr rfl, by omega, by omega, hsh.mpr ⟨hl, u⟩, h1, h2⟩ c
    · rw [if_neg (fun u => by omega)]
      exact ⟨fun u => ⟨u, fun w => absurd w e⟩, fun u => u.1⟩
  have h19 : ∀ q k, q < 8 → k < 4 → (chN b p 4 19 (4 * q + k) ≠ 0 ↔ b 19 (4 * q + k) ≠ 0 ∧ (q = p → nmb b p (9 + k) = true ∨ hob b p (9 + k) = true)) := by
    intro q k hq hk4
    rw [hc]
    by_cases e : q = p
    · subst e
      rw [show 4 * q + k - 4 * q = k by omega]
      by_cases c : (19 = 19 ∨ 19 = 20) ∧ 4 * q ≤ 4 * q + k ∧ 4 * q + k < 4 * q + 4 ∧ b 19 (4 * q + k) ≠ 0 ∧ nmb b q (9 + k) = false ∧ hob b q (9 + k) = false
      · rw [if_pos c]
        refine ⟨fun u => absurd rfl u, fun u => ?_⟩
        rcases u.2 rfl with w | w
        · rw [c.2.2.2.2.1] at w
          cases w
        · rw [c.2.2.2.2.2] at w
          cases w
      · rw [if_neg c]
        refine ⟨fun u => ⟨u, fun _ => ?_⟩, fun u => u.1⟩
        cases h1 : nmb b q (9 + k) with
        | true => exact Or.inl rfl
        | false =>
          cases h2 : hob b q (9 + k) with
          | true => exact Or.inr rfl
          | false => exact absurd ⟨Or.inl rfl, by omega, by omega, u, h1, h2⟩ c
    · rw [if_neg (fun u => by omega)]
      exact ⟨fun u => ⟨u, fun w => absurd w e⟩, fun u => u.1⟩
  constructor
  · refine hs.chg rfl (fun _ _ => rfl) (fun k j h => di_n h) (fun k j h1 h2 => hk k h1 h2 j) (fun q hq i => ?_)
    have hold := (hs.2.2.2.2.1.2.2 q hq).2.2.2.2.1 i
    rw [Bool.eq_iff_iff, b9]
    show bb_t ((di D 11 p (du D p 4)).2.1 11 q) i = true ↔ _
    rw [di_i]
    by_cases e : q = p
    · subst e
      rw [if_pos ⟨rfl, rfl⟩, du_t D q 4 i (by omega), hold, Bool.and_eq_true, b9]
      constructor
      · rintro ⟨⟨g1, g2, g3⟩, g4⟩
        refine ⟨g1, g2, ?_⟩
        rw [hne q (i - 9) hp (by omega)]
        refine ⟨g3, fun _ => ?_⟩
        rw [decide_eq_true g1, decide_eq_true (show i < 9 + 4 by omega), hs.ho hv.1 hv.2.1 hb hq hp (by omega), hs.it hv.1 hv.2.1 hb (by omega) (by omega)] at g4
        rw [show 9 + (i - 9) = i by omega]
        have g4 : (hob b q i || nmb b q i) = true := g4
        exact ((Bool.or_eq_true _ _).mp g4).symm
      · rintro ⟨g1, g2, g3⟩
        rw [hne q (i - 9) hp (by omega)] at g3
        refine ⟨⟨g1, g2, g3.1⟩, ?_⟩
        rw [decide_eq_true g1, decide_eq_true (show i < 9 + 4 by omega), hs.ho hv.1 hv.2.1 hb hq hp (by omega), hs.it hv.1 hv.2.1 hb (by omega) (by omega)]
        have g4 := g3.2 rfl
        rw [show 9 + (i - 9) = i by omega] at g4
        show (hob b q i || nmb b q i) = true
        exact (Bool.or_eq_true _ _).mpr g4.symm
    · rw [if_neg (fun u => e u.2), hold, b9]
      constructor
      · rintro ⟨g1, g2, g3⟩
        exact ⟨g1, g2, (hne q (i - 9) (by omega) (by omega)).mpr ⟨g3, fun u => absurd u e⟩⟩
      · rintro ⟨g1, g2, g3⟩
        exact ⟨g1, g2, ((hne q (i - 9) (by omega) (by omega)).mp g3).1⟩
  · obtain ⟨s1, s2, s3, s4, s5⟩ := hv.2.2.1
    refine ⟨hv.1.cong (fun k h j => hk k (by omega) (by omega) j), hv.2.1.cong (fun k h j => hk k (by omega) (by omega) j), ⟨fun q k hq hk4 => ?_, fun q k hq hk4 h0 => ?_, fun q r k hq hr hk4 h0 e h2 => ?_, fun q y k hq hy hk4 h0 e => ?_, fun y k hy hk4 h0 e => ?_⟩, hv.2.2.2.1.cong (fun k h j => hk k (by omega) (by omega) j), hT.cong (fun k h j => hk k (by omega) (by omega) j), hv.2.2.2.2.2.le (fun k h j => hk k (by omega) (by omega) j) (fun n _ => ow_le2 (fun g _ => Or.inr (hk 11 (by decide) (by decide) g)) (fun g _ => hk 12 (by decide) (by decide) g) (fun k _ => hk 15 (by decide) (by decide) k) h20 n)⟩
    · rw [h19 q k hq hk4, hne q k hq hk4, lv_c (hk 0 (by decide) (by decide) q), s1 q k hq hk4]
      exact ⟨fun u => ⟨u.1.1, u.1.2, u.2⟩, fun u => ⟨⟨u.1, u.2.1⟩, u.2.2⟩⟩
    · rw [hk 15 (by decide) (by decide), hk 0 (by decide) (by decide)]
      exact s2 q k hq hk4 ((hne q k hq hk4).mp h0).1
    · rw [hk 5 (by decide) (by decide)] at h0 e
      rw [hk 6 (by decide) (by decide)] at e
      rw [hk 15 (by decide) (by decide)] at h2
      refine (hne q k hq hk4).mpr ⟨s3 q r k hq hr hk4 h0 e h2, fun u => Or.inr (hob_t.mpr ⟨r, hr, ?_, ?_⟩)⟩
      · rw [← u]
        exact h0
      · rw [← u]
        omega
    · rw [hk 21 (by decide) (by decide)] at h0
      rw [hk 6 (by decide) (by decide)] at e
      refine (hne q k hq hk4).mpr ⟨s4 q y k hq hy hk4 h0 e, fun u => Or.inl (nmb_t.mpr ⟨y, hy, ?_, by omega⟩)⟩
      rw [← u]
      exact h0
    · rw [hk 21 (by decide) (by decide)] at h0
      rw [hk 6 (by decide) (by decide)] at e
      obtain ⟨q, g1, g2, g3⟩ := s5 y k hy hk4 h0 e
      refine ⟨q, g1, by rw [hk 0 (by decide) (by decide)]; exact g2, (hne q k g1 hk4).mpr ⟨g3, fun u => ?_⟩⟩
      rw [u] at g2
      have := hl.2
      omega
/-- the second part of a collection: the kernel's heap -/
theorem sR.colK (hs : sR D b L pg ob) (hv : iV b) (hb : rb N b) : sR (d_cd D 4) (chN b 8 4) L pg ob ∧ iV (chN b 8 4) := by
  have hT := hv.2.2.2.2.1
  have h48 := hT.2.1
  have hc := chN_8 (b := b) 4 (by omega)
  have hk : ∀ k, k ≠ 20 → ∀ j, chN b 8 4 k j = b k j := fun k h1 j => by rw [hc, if_neg (fun u => by omega)]
  have h20 : ∀ j, chN b 8 4 20 j = 0 ∨ chN b 8 4 20 j = b 20 j := fun j => by
    rw [hc]
    split
    · exact Or.inl rfl
    · exact Or.inr rfl
  have hne : ∀ q k, q < 8 → k < 4 → (chN b 8 4 20 (4 * q + k) ≠ 0 ↔ b 20 (4 * q + k) ≠ 0 ∧ (b 0 q = 4 → nmb b 8 (9 + k) = true)) := by
    intro q k hq hk4
    rw [hc, show (4 * q + k) / 4 = q by omega, show (4 * q + k) % 4 = k by omega]
    by_cases c : 20 = 20 ∧ 4 * q + k < 32 ∧ k < 4 ∧ b 0 q = 4 ∧ nmb b 8 (9 + k) = false
    · rw [if_pos c]
      refine ⟨fun u => absurd rfl u, fun u => ?_⟩
      have := u.2 c.2.2.2.1
      rw [c.2.2.2.2] at this
      cases this
    · rw [if_neg c]
      refine ⟨fun u => ⟨u, fun w => ?_⟩, fun u => u.1⟩
      cases h1 : nmb b 8 (9 + k) with
      | true => rfl
      | false => exact absurd ⟨rfl, by omega, hk4, w, h1⟩ c
  constructor
  · refine hs.chg (d_cd_1 D 4).1 (fun k j => by rw [(d_cd_1 D 4).2]) (fun k j h => d_cd_k h 4) (fun k j h1 h2 => hk k h2 j) (fun q hq i => ?_)
    have hold := (hs.2.2.2.2.1.2.2 q hq).2.2.2.2.1 i
    have h0 : b 0 q ≤ 4 := hb.2 0 q (by decide)
    rw [Bool.eq_iff_iff, b9, cd_t D 4 q i (by omega) (by rw [hs.md hT]; exact hq), hold, Bool.and_eq_true, b9, hs.2.2.2.2.1.2.1 q (by omega)]
    constructor
    · rintro ⟨⟨g1, g2, g3⟩, g4⟩
      refine ⟨g1, g2, (hne q (i - 9) (by omega) (by omega)).mpr ⟨g3, fun u => ?_⟩⟩
      rw [decide_eq_true g1, decide_eq_true (show i < 9 + 4 by omega), decide_eq_true (show nI (b 0 q) = 4 by rw [u]; rfl), hs.it hv.1 hv.2.1 hb (by omega) (by omega)] at g4
      rw [show 9 + (i - 9) = i by omega]
      cases h1 : nmb b 8 i with
      | true => rfl
      | false =>
        rw [h1] at g4
        cases g4
    · rintro ⟨g1, g2, g3⟩
      have g3 := (hne q (i - 9) (by omega) (by omega)).mp g3
      refine ⟨⟨g1, g2, g3.1⟩, ?_⟩
      rw [decide_eq_true g1, decide_eq_true (show i < 9 + 4 by omega), hs.it hv.1 hv.2.1 hb (by omega) (by omega)]
      by_cases c : b 0 q = 4
      · have := g3.2 c
        rw [show 9 + (i - 9) = i by omega] at this
        rw [this, Bool.not_true, Bool.and_false]
        rfl
      · rw [decide_eq_false (show ¬ nI (b 0 q) = 4 from fun u => c (eqN (b 0 q) 4 u))]
        rfl
  · obtain ⟨s1, s2, s3, s4, s5⟩ := hv.2.2.1
    have hlv : ∀ q k, q < 8 → k < 4 → lv b q → (chN b 8 4 20 (4 * q + k) ≠ 0 ↔ b 20 (4 * q + k) ≠ 0) := fun q k hq hk4 hl => by
      rw [hne q k hq hk4]
      exact ⟨fun u => u.1, fun u => ⟨u, fun w => by have := hl.2; omega⟩⟩
    refine ⟨hv.1.cong (fun k h j => hk k (by omega) j), hv.2.1.cong (fun k h j => hk k (by omega) j), ⟨fun q k hq hk4 => ?_, fun q k hq hk4 h0 => ?_, fun q r k hq hr hk4 h0 e h2 => ?_, fun q y k hq hy hk4 h0 e => ?_, fun y k hy hk4 h0 e => ?_⟩, hv.2.2.2.1.cong (fun k h j => hk k (by omega) j), hT.cong (fun k h j => hk k (by omega) j), hv.2.2.2.2.2.le (fun k h j => hk k (by omega) j) (fun n _ => ow_le2 (fun g _ => Or.inr (hk 11 (by decide) g)) (fun g _ => hk 12 (by decide) g) (fun k _ => hk 15 (by decide) k) h20 n)⟩
    · rw [hk 19 (by decide), lv_c (hk 0 (by decide) q), s1 q k hq hk4]
      constructor
      · intro u
        exact ⟨u.1, (hlv q k hq hk4 u.1).mpr u.2⟩
      · intro u
        exact ⟨u.1, (hlv q k hq hk4 u.1).mp u.2⟩
    · rw [hk 15 (by decide), hk 0 (by decide)]
      exact s2 q k hq hk4 ((hne q k hq hk4).mp h0).1
    · rw [hk 5 (by decide)] at h0 e
      rw [hk 6 (by decide)] at e
      rw [hk 15 (by decide)] at h2
      refine (hne q k hq hk4).mpr ⟨s3 q r k hq hr hk4 h0 e h2, fun u => ?_⟩
      have := hv.1.2.2.2.2 q r hq hr (fun w => by have := w.2; omega)
      omega
    · rw [hk 21 (by decide)] at h0
      rw [hk 6 (by decide)] at e
      refine (hne q k hq hk4).mpr ⟨s4 q y k hq hy hk4 h0 e, fun u => ?_⟩
      have := ((hv.1.2.2.2.1 q y (by omega) hy h0).2.2.2 hq).2
      omega
    · rw [hk 21 (by decide)] at h0
      rw [hk 6 (by decide)] at e
      obtain ⟨q, g1, g2, g3⟩ := s5 y k hy hk4 h0 e
      exact ⟨q, g1, by rw [hk 0 (by decide)]; exact g2, (hne q k g1 hk4).mpr ⟨g3, fun _ => nmb_t.mpr ⟨y, hy, h0, by omega⟩⟩⟩
end SW
