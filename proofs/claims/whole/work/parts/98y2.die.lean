/-! CLASS AND REFERENCE: a process dies -/
/-- the heaps that go with p -/
def mgd (b : rB) (p v : Nat) : Prop := v = p + 1 ∨ ∃ k, k < 4 ∧ b 15 k = 1 ∧ b 16 k = p ∧ v = 10 + k
section SY2
variable {D D1 : ph_D} {b b1 f : rB} {L : Nat → Int32} {pg ob : Nat → Nat} {N n p h x y g k t : Nat}
theorem dmk_no (hn : ∀ k, k < 4 → ¬ (b 15 k = 1 ∧ b 16 k = p)) : ∀ n, n ≤ 4 → dmk b p n = b := by
  intro n
  induction n with
  | zero => intro _; rfl
  | succ n ih =>
    intro h4
    show (if dmk b p n 15 n = 1 ∧ dmk b p n 16 n = p then bu (mrg (dmk b p n) (9 + n)) 15 n 3 else dmk b p n) = b
    rw [ih (by omega), if_neg (hn n (by omega))]
theorem dmk_at {k0 : Nat} (hk0 : k0 < 4) (h1 : b 15 k0 = 1) (h2 : b 16 k0 = p) (hu : ∀ k, k < 4 → b 15 k = 1 → b 16 k = p → k = k0) : ∀ n, n ≤ 4 → dmk b p n = if k0 < n then bu (mrg b (9 + k0)) 15 k0 3 else b := by
  intro n
  induction n with
  | zero => intro _; rfl
  | succ n ih =>
    intro h4
    show (if dmk b p n 15 n = 1 ∧ dmk b p n 16 n = p then bu (mrg (dmk b p n) (9 + n)) 15 n 3 else dmk b p n) = _
    rw [ih (by omega)]
    rcases Nat.lt_trichotomy k0 n with e | e | e
    · rw [if_pos e, if_pos (show k0 < n + 1 by omega), if_neg]
      rintro ⟨e1, e2⟩
      rw [bu_m (by omega), mrg_k (by omega) (by decide) (by decide) (by decide) (by decide)] at e1
      rw [bu_n (by decide), mrg_k (by omega) (by decide) (by decide) (by decide) (by decide)] at e2
      have := hu n (by omega) e1 e2
      omega
    · subst e
      rw [if_neg (Nat.lt_irrefl k0), if_pos ⟨h1, h2⟩, if_pos (Nat.lt_succ_self k0)]
    · rw [if_neg (show ¬ k0 < n by omega), if_neg (show ¬ k0 < n + 1 by omega), if_neg]
      rintro ⟨e1, e2⟩
      have := hu n (by omega) e1 e2
      omega
theorem d_it_c {E : ph_D} (h1 : E.1.2 = D.1.2) (hr : ∀ a, E.2.2 0 a = D.2.2 0 a) (h0 : ∀ a, E.2.1 0 a = D.2.1 0 a) (h5 : ∀ a, E.2.1 5 a = D.2.1 5 a) (i t : Nat) : d_it E i t = d_it D i t := by
  have hh : ∀ a, d_h E a = d_h D a := fun a => by
    unfold d_h
    rw [hr]
    split
    · exact h0 _
    · rfl
  unfold d_it
  rw [h1]
  congr 1
  funext a
  rw [hh, h5]
/-- the process is dead, its registers are empty, it keeps what it must pay for -/
theorem sR.dy1 (hs : sR D b L pg ob) (hv : iV b) (hb : rb N b) (hp : p < 8) (hl : lv b p) : sR (d_du (d_er (di D 6 p 4) p 4) p) (di1 (bu b 0 p 4) p 4) L pg ob := by
  have hT := hv.2.2.2.2.1
  have h48 := hT.2.1
  have hm := lv_made hT hp hl
  obtain ⟨sx, so, sg, sp, sq, sh⟩ := hs
  have hs : sR D b L pg ob := ⟨sx, so, sg, sp, sq, sh⟩
  have E1 := d_er_1 (di D 6 p 4) p 4
  have i1 : ∀ k j, k ≠ 11 → (d_du (d_er (di D 6 p 4) p 4) p).2.1 k j = if k = 6 ∧ j = p then 4 else D.2.1 k j := fun k j h => by
    show (di (d_er (di D 6 p 4) p 4) 11 p (du (d_er (di D 6 p 4) p 4) p 4)).2.1 k j = _
    rw [di_n h, E1.2]
    rfl
  have hr : ∀ k j, (d_du (d_er (di D 6 p 4) p 4) p).2.2 k j = if 4 ≤ k ∧ k < 4 + 4 ∧ j = p then none else D.2.2 k j := fun k j => d_er_p (di D 6 p 4) p 4 k j
  have hin : ∀ k j, k ≠ 6 → k ≠ 11 → (d_du (d_er (di D 6 p 4) p 4) p).2.1 k j = D.2.1 k j := fun k j h6 h11 => by
    rw [i1 k j h11, if_neg (fun u => h6 u.1)]
  have hb1 : ∀ k j, k ≠ 0 → k ≠ 5 → k ≠ 19 → k ≠ 20 → di1 (bu b 0 p 4) p 4 k j = b k j := fun k j h0 h5 h19 h20 => by
    unfold di1
    rw [if_neg (fun u => u.1.elim h5 h19), if_neg (fun u => h20 u.1), bu_n h0]
  have hc : di1 (bu b 0 p 4) p 4 0 = bu b 0 p 4 0 := rfl
  have b5 : ∀ q r, q < 8 → r < 4 → di1 (bu b 0 p 4) p 4 5 (4 * q + r) = if q = p then 0 else b 5 (4 * q + r) := fun q r hq hr => by
    show (if (5 = 5 ∨ 5 = 19) ∧ 4 * p ≤ 4 * q + r ∧ 4 * q + r < 4 * p + 4 then 0 else b 5 (4 * q + r)) = _
    by_cases e : q = p
    · rw [if_pos ⟨Or.inl rfl, by omega, by omega⟩, if_pos e]
    · rw [if_neg (fun u => by omega), if_neg e]
  have b20 : ∀ q k, q < 8 → k < 4 → di1 (bu b 0 p 4) p 4 20 (4 * q + k) = if q = p then (if b 15 k = 2 ∧ nmb b p (9 + k) = true then 1 else 0) else b 20 (4 * q + k) := fun q k hq hk => by
    show (if (20 = 5 ∨ 20 = 19) ∧ _ then 0 else if 20 = 20 ∧ 4 * p ≤ 4 * q + k ∧ 4 * q + k < 4 * p + 4 then (if b 15 (4 * q + k - 4 * p) = 2 ∧ nmb (bu b 0 p 4) p (9 + (4 * q + k - 4 * p)) = true then 1 else 0) else b 20 (4 * q + k)) = _
    rw [if_neg (fun u => by omega)]
    by_cases e : q = p
    · rw [if_pos ⟨rfl, by omega, by omega⟩, if_pos e, show 4 * q + k - 4 * p = k by omega]
      rfl
    · rw [if_neg (fun u => by omega), if_neg e]
  refine ⟨sx.cong (by show (d_er (di D 6 p 4) p 4).1.2 = _; rw [E1.1]; rfl) (fun x => hb1 6 x (by decide) (by decide) (by decide) (by decide)), fun x hx h0 => ?_, sg.cong (by show (d_er (di D 6 p 4) p 4).1.1 = _; rw [E1.1]; rfl) (fun g => hb1 11 g (by decide) (by decide) (by decide) (by decide)) (fun g => hb1 13 g (by decide) (by decide) (by decide) (by decide)), sp.cong (fun j => hin 0 j (by decide) (by decide)) (fun j => hin 1 j (by decide) (by decide)) (fun k hk j => hb1 k j (by omega) (by omega) (by omega) (by omega)), ⟨?_, fun q hq => ?_, fun q hq => ?_⟩, sh.cong (hin 12 1 (by decide) (by decide)) (fun j => by rw [hr, if_neg (fun u => by omega)]) (fun k hk j => hb1 k j (by omega) (by omega) (by omega) (by omega))⟩
  · rw [hb1 6 x (by decide) (by decide) (by decide) (by decide)] at h0
    exact (so x hx h0).cong (fun k hk j => hin k j (by omega) (by omega)) (fun k hk j => by rw [hr, if_neg (fun u => by omega)]) (fun k hk j => hb1 k j (by omega) (by omega) (by omega) (by omega))
  · rw [hin 12 0 (by decide) (by decide), hb1 4 0 (by decide) (by decide) (by decide) (by decide)]
    exact sq.1
  · rw [i1 6 q (by decide), hc]
    unfold bu
    by_cases e : q = p
    · rw [if_pos ⟨rfl, e⟩, if_pos ⟨rfl, e⟩]
      rfl
    · rw [if_neg (fun u => e u.2), if_neg (fun u => e u.2)]
      exact sq.2.1 q hq
  · rw [hb1 4 0 (by decide) (by decide) (by decide) (by decide)] at hq
    obtain ⟨q1, q2, q3, q4, q5, q6⟩ := sq.2.2 q hq
    refine ⟨fun u => by rw [hin 7 _ (by decide) (by decide), hb1 1 _ (by decide) (by decide) (by decide) (by decide)]; exact q1 u, by rw [hin 8 _ (by decide) (by decide), hb1 2 _ (by decide) (by decide) (by decide) (by decide)]; exact q2, by rw [hin 9 _ (by decide) (by decide), hb1 3 _ (by decide) (by decide) (by decide) (by decide)]; exact q3, ?_, fun i => ?_, fun r h4 => ?_⟩
    · rw [hin 10 _ (by decide) (by decide), rbk_c (fun k _ => ⟨hb1 15 k (by decide) (by decide) (by decide) (by decide), hb1 16 k (by decide) (by decide) (by decide) (by decide)⟩) q 4 (by omega)]
      exact q4
    · rw [Bool.eq_iff_iff, b9]
      show bb_t ((di (d_er (di D 6 p 4) p 4) 11 p (du (d_er (di D 6 p 4) p 4) p 4)).2.1 11 q) i = true ↔ _
      rw [di_i]
      by_cases e : q = p
      · subst e
        have hho : ∀ t, d_ho (d_er (di D 6 q 4) q 4) q t = false := fun t => by
          unfold d_ho
          rw [List.any_eq_false]
          intro r hr
          have := List.mem_range.mp hr
          rw [d_er_p, if_pos ⟨by omega, by omega, rfl⟩]
          exact fun u => by cases u
        have hit : d_it (d_er (di D 6 q 4) q 4) q i = d_it D q i := d_it_c (by rw [E1.1]; rfl) (fun a => by rw [d_er_p, if_neg (fun u => by omega)]; rfl) (fun a => by rw [E1.2]; exact di_n (by decide)) (fun a => by rw [E1.2]; exact di_n (by decide)) q i
        have h11 : (d_er (di D 6 q 4) q 4).2.1 11 q = D.2.1 11 q := by
          rw [E1.2]
          exact di_n (by decide)
        rw [if_pos ⟨rfl, rfl⟩, du_t _ q 4 i (by omega), h11, q5 i, hho, hit, Bool.false_or, Bool.and_eq_true, b9]
        constructor
        · rintro ⟨⟨g1, g2, g3⟩, g4⟩
          refine ⟨g1, g2, ?_⟩
          rw [decide_eq_true g1, decide_eq_true (show i < 9 + 4 by omega), hs.it hv.1 hv.2.1 hb (by omega) (by omega)] at g4
          have g4 : nmb b q i = true := g4
          rw [b20 q (i - 9) hp (by omega), if_pos rfl, if_pos ⟨(hv.2.2.1.2.1 q (i - 9) hp (by omega) g3).1, by rw [show 9 + (i - 9) = i by omega]; exact g4⟩]
          decide
        · rintro ⟨g1, g2, g3⟩
          rw [b20 q (i - 9) hp (by omega), if_pos rfl] at g3
          by_cases c : b 15 (i - 9) = 2 ∧ nmb b q (9 + (i - 9)) = true
          · have c2 := c.2
            obtain ⟨y, y1, y2, y3⟩ := nmb_t.mp c2
            refine ⟨⟨g1, g2, hv.2.2.1.2.2.2.1 q y (i - 9) hp y1 (by omega) y2 (by omega)⟩, ?_⟩
            rw [decide_eq_true g1, decide_eq_true (show i < 9 + 4 by omega), hs.it hv.1 hv.2.1 hb (by omega) (by omega)]
            rw [show 9 + (i - 9) = i by omega] at c2
            exact c2
          · rw [if_neg c] at g3
            exact absurd rfl g3
      · rw [if_neg (fun u => e u.2), E1.2, show (di D 6 p 4).2.1 11 q = D.2.1 11 q from di_n (by decide), q5 i, b9]
        constructor
        · rintro ⟨g1, g2, g3⟩
          exact ⟨g1, g2, by rw [b20 q (i - 9) (by omega) (by omega), if_neg e]; exact g3⟩
        · rintro ⟨g1, g2, g3⟩
          rw [b20 q (i - 9) (by omega) (by omega), if_neg e] at g3
          exact ⟨g1, g2, g3⟩
    · rw [hr, b5 q r (by omega) h4]
      by_cases e : q = p
      · rw [if_pos ⟨by omega, by omega, e⟩, if_pos e]
        rfl
      · rw [if_neg (fun u => e u.2.2), if_neg e]
        exact q6 r h4
/-- the items of the dead process go to the kernel -/
theorem sR.hi (hs : sR D b L pg ob) (hG : vG b) (hb : rb N b) (hp : p < 8) : sR (d_hi D p) (dit b p 60) L pg ob := by
  refine hs.itc rfl (fun _ _ => rfl) (fun k j hk => (d_hi_n hk).symm) (fun k j hk => (if_neg (fun u => hk u.1)).trans (if_neg (fun u => hk u.1))) (fun x hx h0 i => ?_)
  have h6 : b 6 x ≤ 13 := hb.2 6 x (by decide)
  have e5 : (d_hi D p).2.1 5 (ob x) = d_hd D p (ob x) := if_pos ⟨rfl, hs.1.obm hx h0⟩
  have hh : d_h D (ob x) = 8 ↔ b 6 x = 9 := hs.hq hG hb hx h0 (show 8 < 13 by omega)
  have hq := (hs.2.1 x hx h0).2.2.2.1
  have ed : dit b p 60 21 (60 * i + x) = if i = 8 then (if (b 21 (60 * p + x) ≠ 0 ∨ b 21 (480 + x) ≠ 0) ∧ 0 < b 6 x ∧ b 6 x ≠ 9 then 1 else 0) else if i = p then 0 else b 21 (60 * i + x) := by
    show (if 21 = 21 ∧ 480 ≤ 60 * i + x ∧ 60 * i + x < 480 + 60 then (if (b 21 (60 * p + (60 * i + x - 480)) ≠ 0 ∨ b 21 (60 * i + x) ≠ 0) ∧ 0 < b 6 (60 * i + x - 480) ∧ b 6 (60 * i + x - 480) ≠ 9 then 1 else 0) else if 21 = 21 ∧ 60 * p ≤ 60 * i + x ∧ 60 * i + x < 60 * p + 60 then 0 else b 21 (60 * i + x)) = _
    by_cases e : i = 8
    · subst e
      rw [if_pos ⟨rfl, by omega, by omega⟩, if_pos rfl, show 60 * 8 + x - 480 = x by omega]
    · rw [if_neg (fun u => by omega), if_neg e]
      by_cases e2 : i = p
      · rw [if_pos ⟨rfl, by omega, by omega⟩, if_pos e2]
      · rw [if_neg (fun u => by omega), if_neg e2]
  rw [e5, ed, Bool.eq_iff_iff]
  unfold d_hd
  have hb8 : ∀ j, bb_t (D.2.1 5 (ob x)) j = true ↔ j < 13 ∧ b 21 (60 * j + x) ≠ 0 := fun j => by
    rw [hq j, Bool.and_eq_true, decide_eq_true_eq, Bool.not_eq_true', decide_eq_false_iff_not]
  rw [Bool.and_eq_true, decide_eq_true_eq, Bool.not_eq_true', decide_eq_false_iff_not]
  by_cases c8 : b 6 x = 9
  · rw [if_pos (hh.mpr c8), bb_clr _ (by omega), bb_clr _ (by omega), Bool.and_eq_true, Bool.and_eq_true, hb8, Bool.not_eq_true', decide_eq_false_iff_not, Bool.not_eq_true', decide_eq_false_iff_not]
    by_cases e : i = 8
    · rw [if_pos e, if_neg (fun u => u.2.2 c8)]
      exact ⟨fun u => absurd e u.1.2, fun u => absurd rfl u.2⟩
    · rw [if_neg e]
      by_cases e2 : i = p
      · rw [if_pos e2]
        exact ⟨fun u => absurd e2 u.2, fun u => absurd rfl u.2⟩
      · rw [if_neg e2]
        exact ⟨fun u => u.1.1, fun u => ⟨⟨u, e⟩, e2⟩⟩
  · rw [if_neg (fun u => c8 (hh.mp u))]
    by_cases cp : bb_t (D.2.1 5 (ob x)) p = true
    · have hpx := ((hb8 p).mp cp).2
      rw [if_pos cp, bb_clr _ (by omega), bb_set _ (by omega), Bool.and_eq_true, Bool.or_eq_true, hb8, Bool.not_eq_true', decide_eq_false_iff_not, decide_eq_true_eq]
      by_cases e : i = 8
      · rw [if_pos e, if_pos ⟨Or.inl hpx, h0, c8⟩]
        exact ⟨fun _ => ⟨by omega, by omega⟩, fun _ => ⟨Or.inr e, by omega⟩⟩
      · rw [if_neg e]
        by_cases e2 : i = p
        · rw [if_pos e2]
          exact ⟨fun u => absurd e2 u.2, fun u => absurd rfl u.2⟩
        · rw [if_neg e2]
          exact ⟨fun u => u.1.resolve_right e, fun u => ⟨Or.inl u, e2⟩⟩
    · have hpx : b 21 (60 * p + x) = 0 := Classical.byContradiction (fun u => cp ((hb8 p).mpr ⟨by omega, u⟩))
      rw [if_neg cp, bb_clr _ (by omega), Bool.and_eq_true, hb8, Bool.not_eq_true', decide_eq_false_iff_not]
      by_cases e : i = 8
      · subst e
        rw [if_pos rfl]
        by_cases c : b 21 (480 + x) = 0
        · rw [if_neg (fun u => u.1.elim (fun w => w hpx) (fun w => w c))]
          exact ⟨fun u => absurd c u.1.2, fun u => absurd rfl u.2⟩
        · rw [if_pos ⟨Or.inr c, h0, c8⟩]
          exact ⟨fun _ => ⟨by omega, by omega⟩, fun _ => ⟨⟨by omega, c⟩, by omega⟩⟩
      · rw [if_neg e]
        by_cases e2 : i = p
        · rw [if_pos e2]
          exact ⟨fun u => absurd e2 u.2, fun u => absurd rfl u.2⟩
        · rw [if_neg e2]
          exact ⟨fun u => u.1, fun u => ⟨u, e2⟩⟩
end SY2
