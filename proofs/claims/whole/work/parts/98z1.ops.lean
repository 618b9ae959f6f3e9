/-! CLASS AND REFERENCE: registers, states, fields, shared heaps begun and frozen -/
section SZ1
variable {D D1 : ph_D} {b b1 : rB} {L : Nat → Int32} {pg ob : Nat → Nat} {N n p h x y g k t r v u f : Nat}
theorem sR.reg (hs : sR D b L pg ob) (h48 : b 4 0 ≤ 8) (hp : p < 8) (hr : r < 4) (v : Nat) : sR (dp D (4 + r) p (rf ob v)) (bu b 5 (4 * p + r) v) L pg ob := by
  obtain ⟨sx, so, sg, sp, sq, sh⟩ := hs
  refine ⟨sx, fun x hx h0 => (so x hx h0).cong (fun _ _ _ => rfl) (fun k hk j => dp_n (by omega)) (fun k hk j => bu_n (by omega)), sg, sp, ⟨sq.1, sq.2.1, fun q hq => ?_⟩, sh.cong rfl (fun j => dp_n (by omega)) (fun k hk j => bu_n (by omega))⟩
  have hq : q < b 4 0 := hq
  obtain ⟨q1, q2, q3, q4, q5, q6⟩ := sq.2.2 q hq
  refine ⟨q1, q2, q3, by rw [rbk_c (b := b) (b1 := bu b 5 (4 * p + r) v) (fun k _ => ⟨bu_n (by decide), bu_n (by decide)⟩) q 4 (by omega)]; exact q4, q5, fun s hs4 => ?_⟩
  rw [dp_p]
  unfold bu
  by_cases e : q = p ∧ s = r
  · rw [if_pos ⟨by omega, e.1⟩, if_pos ⟨rfl, by omega⟩]
  · rw [if_neg (fun w => e ⟨w.2, by omega⟩), if_neg (fun w => e (by omega))]
    exact q6 s hs4
theorem iV.reg (hv : iV b) (hp : p < 8) (hr : r < 4) (hl : lv b p) (h1 : 0 < v → 0 < b 6 (v - 1)) (h2 : 0 < v → ∀ k, k < 4 → b 6 (v - 1) = 10 + k → b 15 k = 2 → b 20 (4 * p + k) ≠ 0) : iV (bu b 5 (4 * p + r) v) := by
  obtain ⟨⟨o1, o2, o3, o4, o5⟩, hG, ⟨s1, s2, s3, s4, s5⟩, hB, hT, hU⟩ := hv
  have e5 : ∀ q s, q < 8 → s < 4 → bu b 5 (4 * p + r) v 5 (4 * q + s) = if q = p ∧ s = r then v else b 5 (4 * q + s) := fun q s hq hs => by
    unfold bu
    by_cases e : q = p ∧ s = r
    · rw [if_pos ⟨rfl, by omega⟩, if_pos e]
    · rw [if_neg (fun w => e (by omega)), if_neg e]
  refine ⟨⟨fun q s hq hs h0 => ?_, o2, o3, o4, fun q s hq hs hn => ?_⟩, hG, ⟨s1, s2, fun q s k hq hs hk h0 e h3 => ?_, s4, s5⟩, hB, hT, hU⟩
  · rw [e5 q s hq hs] at h0 ⊢
    show 0 < b 6 _
    by_cases e : q = p ∧ s = r
    · rw [if_pos e] at h0 ⊢
      exact h1 h0
    · rw [if_neg e] at h0 ⊢
      exact o1 q s hq hs h0
  · rw [e5 q s hq hs, if_neg (fun w => hn (by rw [w.1]; exact hl))]
    exact o5 q s hq hs hn
  · rw [e5 q s hq hs] at h0 e
    by_cases e2 : q = p ∧ s = r
    · rw [if_pos e2] at h0 e
      rw [e2.1]
      exact h2 h0 k hk e h3
    · rw [if_neg e2] at h0 e
      exact s3 q s k hq hs hk h0 e h3
theorem sR.st (hs : sR D b L pg ob) (v : Nat) (p : Nat) : sR (di D 6 p (nI v)) (bu b 0 p v) L pg ob := by
  obtain ⟨sx, so, sg, sp, sq, sh⟩ := hs
  refine ⟨sx, fun x hx h0 => (so x hx h0).cong (fun k hk j => di_n (by omega)) (fun _ _ _ => rfl) (fun k hk j => bu_n (by omega)), sg, sp.cong (fun _ => di_n (by decide)) (fun _ => di_n (by decide)) (fun k hk j => bu_n (by omega)), ⟨by rw [di_n (by decide)]; exact sq.1, fun q hq => ?_, fun q hq => (sq.2.2 q hq).cong (fun k hk j => di_n (by omega)) (fun _ _ _ => rfl) (fun k hk j => bu_n (by omega))⟩, sh.cong (di_n (by decide)) (fun _ => rfl) (fun k hk j => bu_n (by omega))⟩
  rw [di_i]
  unfold bu
  by_cases e : q = p
  · rw [if_pos ⟨rfl, e⟩, if_pos ⟨rfl, e⟩]
  · rw [if_neg (fun w => e w.2), if_neg (fun w => e w.2)]
    exact sq.2.1 q hq
theorem iV.st (hv : iV b) (hp : p < 8) (hl : lv b p) (h1 : 1 ≤ v) (h3 : v ≤ 3) : iV (bu b 0 p v) := by
  obtain ⟨⟨o1, o2, o3, o4, o5⟩, ⟨g1, g2, g3, g4⟩, ⟨s1, s2, s3, s4, s5⟩, ⟨w1, w2, w3, w4, w5⟩, ⟨t1, t2, t3, t4, t5⟩, hU⟩ := hv
  have e0 : ∀ q, bu b 0 p v 0 q = if q = p then v else b 0 q := fun q => by
    unfold bu
    by_cases e : q = p
    · rw [if_pos ⟨rfl, e⟩, if_pos e]
    · rw [if_neg (fun w => e w.2), if_neg e]
  have hlv : ∀ q, lv (bu b 0 p v) q ↔ lv b q := fun q => by
    unfold lv
    rw [e0]
    by_cases e : q = p
    · rw [if_pos e, e]
      exact ⟨fun _ => hl, fun _ => ⟨by omega, by omega⟩⟩
    · rw [if_neg e]
  have hpos : ∀ q, 0 < bu b 0 p v 0 q ↔ 0 < b 0 q := fun q => by
    rw [e0]
    by_cases e : q = p
    · rw [if_pos e, e]
      exact ⟨fun _ => hl.1, fun _ => by omega⟩
    · rw [if_neg e]
  refine ⟨⟨o1, o2, o3, fun i y hi hy h0 => ?_, fun q s hq hs hn => o5 q s hq hs (fun w => hn ((hlv q).mpr w))⟩, ⟨g1, g2, fun g hg h0 => ⟨(hpos _).mpr (g3 g hg h0).1, (g3 g hg h0).2⟩, g4⟩, ⟨fun q k hq hk => (s1 q k hq hk).trans (by rw [hlv]; rfl), fun q k hq hk h0 => ⟨(s2 q k hq hk h0).1, (hpos q).mpr (s2 q k hq hk h0).2⟩, s3, s4, fun y k hy hk h0 e => ?_⟩, ⟨w1, fun k hk e => (hlv _).mpr (w2 k hk e), w3, w4, w5⟩, ⟨t1, t2, fun q hq => (hpos q).trans (t3 q hq), t4, t5⟩, ?_⟩
  · obtain ⟨q1, q2, q3, q4⟩ := o4 i y hi hy h0
    exact ⟨q1, q2, q3, fun w => (hlv i).mpr (q4 w)⟩
  · obtain ⟨q, q1, q2, q3⟩ := s5 y k hy hk h0 e
    refine ⟨q, q1, ?_, q3⟩
    rw [e0, if_neg (fun w => by rw [w] at q2; have := hl.2; omega)]
    exact q2
  · exact vUo_mono (b := b) (o := ow b) hU (fun q _ => hpos q) (fun q _ h => (hlv q).mp h) (fun q _ => ⟨rfl, rfl, rfl⟩) (fun q _ => Nat.le_refl _)
/-- a field is set -/
theorem sR.fld (hs : sR D b L pg ob) (hO : vO b) (hG : vG b) (hb : rb N b) (hu : u < 60) (hu0 : 0 < b 6 u) (hf : f < 3) (hv60 : v ≤ 60) (hv0 : 0 < v → 0 < b 6 (v - 1)) : sR (d_sf D (ob u) f (b 6 u - 1) (rf ob v)) (rst1 b u f v (b 6 u - 1)) L pg ob := by
  obtain ⟨sx, so, sg, sp, sq, sh⟩ := hs
  have hs : sR D b L pg ob := ⟨sx, so, sg, sp, sq, sh⟩
  have h6 : b 6 u ≤ 13 := hb.2 6 u (by decide)
  have base : sR (dp D (1 + f) (ob u) (rf ob v)) (bu b 10 (3 * u + f) v) L pg ob := by
    refine ⟨sx, fun x hx h0 => ?_, sg, sp, sq.cong (fun _ _ _ _ => rfl) (fun k hk j => dp_n (by omega)) (fun k hk j => bu_n (by omega)), sh.cong rfl (fun j => dp_n (by omega)) (fun k hk j => bu_n (by omega))⟩
    obtain ⟨q1, q2, q3, q4, q5⟩ := so x hx h0
    refine ⟨by rw [dp_n (by omega)]; exact q1, q2, q3, q4, fun i hi => ?_⟩
    rw [dp_p]
    unfold bu
    by_cases e : x = u ∧ i = f
    · rw [if_pos ⟨by omega, by rw [e.1]⟩, if_pos ⟨rfl, by omega⟩]
    · rw [if_neg (fun w => e ⟨sx.2 x u hx hu h0 hu0 w.2, by omega⟩), if_neg (fun w => e (by omega))]
      exact q5 i hi
  cases hvc : v with
  | zero =>
    rw [hvc] at base
    have e2 : rst1 b u f 0 (b 6 u - 1) = bu b 10 (3 * u + f) 0 := if_pos (if_pos rfl)
    rw [e2]
    exact base
  | succ y =>
    rw [hvc] at base hv0 hv60
    have hy : y < 60 := by omega
    have hy0 : 0 < b 6 y := hv0 (Nat.succ_pos y)
    have hy6 : b 6 y ≤ 13 := hb.2 6 y (by decide)
    have hgo : rgo b (b 6 u - 1) (y + 1) = b 6 y - 1 := if_neg (Nat.succ_ne_zero y)
    have hdh : d_h D (ob y) = d_h D (ob u) ↔ b 6 y - 1 = b 6 u - 1 := by
      rw [hs.hh hG hb hy hy0, hs.hh hG hb hu hu0, nI_eq (by omega) (by omega)]
    show sR (if d_h D (ob y) = d_h D (ob u) then dp D (1 + f) (ob u) (some (ob y)) else di (dp D (1 + f) (ob u) (some (ob y))) 5 (ob y) (D.2.1 5 (ob y) ||| ((1 : Int32) <<< (nI (b 6 u - 1) &&& 31)))) _ L pg ob
    unfold rst1
    rw [hgo]
    by_cases c : b 6 y - 1 = b 6 u - 1
    · rw [if_pos (hdh.mpr c), if_pos c]
      exact base
    · rw [if_neg (fun w => c (hdh.mp w)), if_neg c]
      refine base.itc rfl (fun _ _ => rfl) (fun k j hk => di_n hk) (fun k j hk => bu_n hk) (fun x hx h0 i => ?_)
      have h0 : 0 < b 6 x := h0
      have hold := (so x hx h0).2.2.2.1 i
      show bb_t ((di (dp D (1 + f) (ob u) (some (ob y))) 5 (ob y) (D.2.1 5 (ob y) ||| ((1 : Int32) <<< (nI (b 6 u - 1) &&& 31)))).2.1 5 (ob x)) i = _
      rw [di_i]
      show _ = (decide (i < 13) && !decide (bu (bu b 10 (3 * u + f) (y + 1)) 21 (60 * (b 6 u - 1) + y) 1 21 (60 * i + x) = 0))
      by_cases e : x = y
      · subst e
        rw [if_pos ⟨rfl, rfl⟩, bb_set _ (by omega), hold]
        by_cases ei : i = b 6 u - 1
        · rw [decide_eq_true ei, Bool.or_true, decide_eq_true (show i < 13 by omega), ei, bu_s]
          rfl
        · rw [decide_eq_false ei, Bool.or_false, bu_m (by omega), bu_n (by decide)]
      · rw [if_neg (fun w => e (sx.2 x y hx hy h0 hy0 w.2)), bu_m (by omega), bu_n (by decide)]
        exact hold
/-- the condition under which u of heap h may name v, for p -/
theorem iV.fld (hv : iV b) (hb : rb N b) (hp : p < 8) (hl : lv b p) (hu : u < 60) (hu0 : 0 < b 6 u) (hf : f < 3) (hv60 : v ≤ 60) (hv0 : 0 < v → 0 < b 6 (v - 1)) (hreg : ∀ k, k < 4 → 0 < v → b 6 (v - 1) = 10 + k → b 15 k = 2 → b 20 (4 * p + k) ≠ 0)
    (hm : rmy b p (b 6 u - 1) (rgo b (b 6 u - 1) v) = true) : iV (rst1 b u f v (b 6 u - 1)) := by
  obtain ⟨⟨o1, o2, o3, o4, o5⟩, hG, ⟨s1, s2, s3, s4, s5⟩, hB, hT, hU⟩ := hv
  have h6 : b 6 u ≤ 13 := hb.2 6 u (by decide)
  -- what the new item says
  have hnew : 0 < v → b 6 (v - 1) ≠ b 6 u → (b 6 u - 1 = p ∧ (b 6 (v - 1) = 9 ∨ fzb b (b 6 (v - 1) - 1) = true)) ∨ (b 6 u - 1 = 8 ∧ b 6 (v - 1) - 1 = p) := by
    intro h0 hne
    have hy0 := hv0 h0
    have hgo : rgo b (b 6 u - 1) v = b 6 (v - 1) - 1 := if_neg (by omega)
    rw [hgo] at hm
    unfold rmy at hm
    by_cases c1 : b 6 u - 1 = p
    · rw [if_pos c1, Bool.or_eq_true, Bool.or_eq_true, decide_eq_true_eq, decide_eq_true_eq] at hm
      refine Or.inl ⟨c1, ?_⟩
      rcases hm with (m | m) | m
      · omega
      · exact Or.inl (by omega)
      · exact Or.inr m
    · rw [if_neg c1] at hm
      by_cases c2 : b 6 u - 1 = 8
      · rw [if_pos c2, Bool.and_eq_true, Bool.or_eq_true, decide_eq_true_eq, decide_eq_true_eq, decide_eq_true_eq] at hm
        refine Or.inr ⟨c2, ?_⟩
        rcases hm.2 with m | m
        · omega
        · exact m
      · rw [if_neg c2, Bool.and_eq_true, decide_eq_true_eq] at hm
        omega
  have e10 : ∀ j, rst1 b u f v (b 6 u - 1) 10 j = if j = 3 * u + f then v else b 10 j := fun j => by
    unfold rst1
    split
    · unfold bu
      by_cases e : j = 3 * u + f
      · rw [if_pos ⟨rfl, e⟩, if_pos e]
      · rw [if_neg (fun w => e w.2), if_neg e]
    · rw [bu_n (by decide)]
      unfold bu
      by_cases e : j = 3 * u + f
      · rw [if_pos ⟨rfl, e⟩, if_pos e]
      · rw [if_neg (fun w => e w.2), if_neg e]
  have ek : ∀ k j, k ≠ 10 → k ≠ 21 → rst1 b u f v (b 6 u - 1) k j = b k j := fun k j h1 h2 => by
    unfold rst1
    split
    · exact bu_n h1
    · rw [bu_n h2, bu_n h1]
  have e21 : ∀ j, rst1 b u f v (b 6 u - 1) 21 j = b 21 j ∨ (rst1 b u f v (b 6 u - 1) 21 j = 1 ∧ 0 < v ∧ b 6 (v - 1) ≠ b 6 u ∧ j = 60 * (b 6 u - 1) + (v - 1)) := fun j => by
    unfold rst1
    by_cases c : rgo b (b 6 u - 1) v = b 6 u - 1
    · rw [if_pos c]
      exact Or.inl rfl
    · rw [if_neg c]
      have h0 : 0 < v := Nat.pos_of_ne_zero (fun w => c (if_pos w))
      have hgo : rgo b (b 6 u - 1) v = b 6 (v - 1) - 1 := if_neg (by omega)
      rw [hgo] at c
      by_cases e : j = 60 * (b 6 u - 1) + (v - 1)
      · rw [e, bu_s]
        exact Or.inr ⟨rfl, h0, fun w => c (by omega), rfl⟩
      · rw [bu_m e]
        exact Or.inl rfl
  have e21g : ∀ j, b 21 j ≠ 0 → rst1 b u f v (b 6 u - 1) 21 j ≠ 0 := fun j h0 => by
    rcases e21 j with w | w
    · rw [w]
      exact h0
    · rw [w.1]
      decide
  have hU' : vU (rst1 b u f v (b 6 u - 1)) := hU.le (fun k hk j => ek k j (by omega) (by omega)) (fun n _ => ow_le2 (fun g _ => Or.inr (ek 11 g (by decide) (by decide))) (fun g _ => ek 12 g (by decide) (by decide)) (fun k _ => ek 15 k (by decide) (by decide)) (fun j => Or.inr (ek 20 j (by decide) (by decide))) n)
  have hlc : ∀ q, lv (rst1 b u f v (b 6 u - 1)) q ↔ lv b q := fun q => lv_c (ek 0 q (by decide) (by decide))
  refine ⟨⟨fun q s hq hs h0 => ?_, fun x c hx h0 hc hc0 => ?_, fun x c hx h0 hc hc0 hne => ?_, fun i y hi hy h0 => ?_, fun q s hq hs hn => ?_⟩, hG.cong (fun k hk j => ek k j (by omega) (by omega)), ⟨fun q k hq hk => ?_, fun q k hq hk h0 => ?_, fun q s k hq hs hk h0 e h2 => ?_, fun q y k hq hy hk h0 e => ?_, fun y k hy hk h0 e => ?_⟩, hB.cong (fun k hk j => ek k j (by omega) (by omega)), hT.cong (fun k hk j => ek k j (by omega) (by omega)), hU'⟩
  · rw [ek 5 _ (by decide) (by decide)] at h0 ⊢
    rw [ek 6 _ (by decide) (by decide)]
    exact o1 q s hq hs h0
  · rw [ek 6 _ (by decide) (by decide)] at h0 ⊢
    rw [e10] at hc0 ⊢
    by_cases e : 3 * x + c = 3 * u + f
    · rw [if_pos e] at hc0 ⊢
      exact hv0 hc0
    · rw [if_neg e] at hc0 ⊢
      exact o2 x c hx h0 hc hc0
  · rw [ek 6 _ (by decide) (by decide)] at h0 hne ⊢
    rw [ek 6 _ (by decide) (by decide)] at hne
    rw [e10] at hc0 hne ⊢
    by_cases e : 3 * x + c = 3 * u + f
    · have ex : x = u := by omega
      rw [if_pos e] at hc0 hne ⊢
      rw [ex] at hne ⊢
      unfold rst1
      have hgo : rgo b (b 6 u - 1) v = b 6 (v - 1) - 1 := if_neg (by omega)
      have := hv0 hc0
      rw [hgo, if_neg (by omega), bu_s]
      decide
    · rw [if_neg e] at hc0 hne ⊢
      exact e21g _ (o3 x c hx h0 hc hc0 hne)
  · rw [ek 6 _ (by decide) (by decide)]
    rcases e21 (60 * i + y) with w | ⟨w1, w2, w3, w4⟩
    · rw [w] at h0
      obtain ⟨q1, q2, q3, q4⟩ := o4 i y hi hy h0
      exact ⟨q1, q2, q3, fun z => (hlc i).mpr (q4 z)⟩
    · have ei : i = b 6 u - 1 := by omega
      have ey : y = v - 1 := by omega
      rw [ey]
      refine ⟨hv0 w2, by omega, ?_⟩
      rcases hnew w2 w3 with ⟨m1, _⟩ | ⟨m1, _⟩
      · exact ⟨by omega, fun _ => (hlc i).mpr (by rw [ei, m1]; exact hl)⟩
      · exact ⟨by omega, fun z => by omega⟩
  · rw [ek 5 _ (by decide) (by decide)]
    exact o5 q s hq hs (fun z => hn ((hlc q).mpr z))
  · rw [ek 19 _ (by decide) (by decide), ek 20 _ (by decide) (by decide), hlc]
    exact s1 q k hq hk
  · rw [ek 20 _ (by decide) (by decide)] at h0
    rw [ek 15 _ (by decide) (by decide), ek 0 _ (by decide) (by decide)]
    exact s2 q k hq hk h0
  · rw [ek 5 _ (by decide) (by decide)] at h0 e
    rw [ek 6 _ (by decide) (by decide)] at e
    rw [ek 15 _ (by decide) (by decide)] at h2
    rw [ek 20 _ (by decide) (by decide)]
    exact s3 q s k hq hs hk h0 e h2
  · rw [ek 6 _ (by decide) (by decide)] at e
    rw [ek 20 _ (by decide) (by decide)]
    rcases e21 (60 * q + y) with w | ⟨w1, w2, w3, w4⟩
    · rw [w] at h0
      exact s4 q y k hq hy hk h0 e
    · have ei : q = b 6 u - 1 := by omega
      have ey : y = v - 1 := by omega
      rw [ey] at e
      rcases hnew w2 w3 with ⟨m1, m2⟩ | ⟨m1, m2⟩
      · rcases m2 with m | m
        · omega
        · have h2 := (fzb_t.mp m).2.2
          rw [e, show 10 + k - 1 - 9 = k by omega] at h2
          rw [ei, m1]
          exact hreg k hk w2 e h2
      · omega
  · rw [ek 6 _ (by decide) (by decide)] at e
    rcases e21 (480 + y) with w | ⟨w1, w2, w3, w4⟩
    · rw [w] at h0
      obtain ⟨q, q1, q2, q3⟩ := s5 y k hy hk h0 e
      exact ⟨q, q1, by rw [ek 0 _ (by decide) (by decide)]; exact q2, by rw [ek 20 _ (by decide) (by decide)]; exact q3⟩
    · have ey : y = v - 1 := by omega
      rw [ey] at e
      rcases hnew w2 w3 with ⟨m1, m2⟩ | ⟨m1, m2⟩ <;> omega
end SZ1
