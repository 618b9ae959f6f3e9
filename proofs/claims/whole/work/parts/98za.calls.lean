/-! CLASS AND REFERENCE: the reference answers as the class, third part -/
section SZA
variable {l : Launch} {G : mm_G} {a0 : Nat} {ad : Nat → Nat} {Mb : mm_M} {D D1 : ph_D} {b : rB} {L : Nat → Int32} {pg ob : Nat → Nat} {N p q r s i j k n m u f a : Nat} {x y z w v : Int32}
theorem nI124 (hs1 : 1 ≤ s) (hs2 : s ≤ 24) : ¬ nI s < 1 ∧ nI s ≤ 24 := ⟨fun w => by have := ltN s 1 w; omega, nI_le hs2 (by decide)⟩
theorem pu_spawn0 (h : Rel N D b L pg ob) (hN : N + 200 < 1000000000) (hz : z = 0 ∨ z = 1) (k : ∀ p, d_lv D p → x = nI p → y < 1 ∨ ¬ y ≤ 24) : mo_Ok l G yy_Mo_spawn Y_Mo_spawn [.inr (some a0), .inl x, .inl y, .inl z] a0 ad Mb (ra L b) (Nxt N D (-1)) := by
  have bad : ∀ p, p < 8 → lv b p → x = nI p → ¬ y < 1 → y ≤ 24 → False := fun p hp hl e h1 h2 => (k p (h.liv.mpr ⟨hp, hl⟩) e).elim h1 (fun w => w h2)
  exact cq_spawn h.2.2.2.2.1 hz (fun _ => h.nx hN rfl) (fun p hp hl e h1 h2 _ => (bad p hp hl e h1 h2).elim) (fun p U T hp hl e h1 h2 _ _ _ _ _ => (bad p hp hl e h1 h2).elim) (fun p s hp hl e s1 s2 ey _ _ => (bad p hp hl e (by rw [ey]; exact (nI124 s1 s2).1) (by rw [ey]; exact (nI124 s1 s2).2)).elim) (fun p s U T hp hl e s1 s2 ey _ _ _ _ _ => (bad p hp hl e (by rw [ey]; exact (nI124 s1 s2).1) (by rw [ey]; exact (nI124 s1 s2).2)).elim)
theorem pu_spawn1 (h : Rel N D b L pg ob) (hN : N + 200 < 1000000000) (hz : z = 0 ∨ z = 1) (hd : d_lv D p) (e : x = nI p) (h1 : ¬ y < 1) (h2 : y ≤ 24) (h8 : d_m D = 8) : mo_Ok l G yy_Mo_spawn Y_Mo_spawn [.inr (some a0), .inl x, .inl y, .inl z] a0 ad Mb (ra L b) (Nxt N D (-4)) := by
  obtain ⟨hp, hl⟩ := h.liv.mp hd
  rw [h.md] at h8
  refine cq_spawn h.2.2.2.2.1 hz (fun w => ?_) (fun p hp hl e h1 h2 _ => h.nx hN rfl) (fun p U T hp hl e h1 h2 w _ _ _ _ => by omega) (fun p s hp hl e s1 s2 ey w _ => by omega) (fun p s U T hp hl e s1 s2 ey w _ _ _ _ => by omega)
  exact ((w p hp hl e).elim h1 (fun w => w h2)).elim
theorem ilt {a c : Int32} : ¬ a < c ↔ c ≤ a := by
  rw [Int32.lt_iff_toInt_lt, Int32.le_iff_toInt_le]
  omega
theorem pu_spawn2 (h : Rel N D b L pg ob) (hN : N + 200 < 1000000000) (hz : z = 0 ∨ z = 1) (hd : d_lv D p) (e : x = nI p) (h1 : ¬ y < 1) (h2 : y ≤ 24) (h8 : d_m D < 8) (hz0 : ¬ z = 0) (hS : d_S D p < y) : mo_Ok l G yy_Mo_spawn Y_Mo_spawn [.inr (some a0), .inl x, .inl y, .inl z] a0 ad Mb (ra L b) (Nxt N D (-5)) := by
  obtain ⟨hp, hl⟩ := h.liv.mp hd
  have hm := lv_made h.2.1.2.2.2.2.1 hp hl
  rw [h.md] at h8
  subst e
  refine cq_spawn h.2.2.2.2.1 hz (fun w => ?_) (fun p hp hl e h1 h2 w => absurd h8 w) (fun p U T hp hl e h1 h2 w _ hT _ _ => h.nb hN hT rfl) (fun p s hp hl e s1 s2 ey w w2 => absurd w2 hz0) (fun q s U T hq _ e s1 s2 ey w _ hT hE hr => ?_)
  · exact ((w p hp hl rfl).elim h1 (fun w => w h2)).elim
  · rw [← nIi e] at hr
    rw [← h.1.S h.2.1 h.2.2.2.2.1 hE hm] at hr
    exact absurd hS (ilt.mpr hr)
theorem Rel.spn (h : Rel N D b L pg ob) (hN : N + 200 < 1000000000) {hd : Nat} (hp : p < 8) (hl : lv b p) (hm : b 4 0 < 8) (hs24 : s ≤ 24) (hh : hd ≤ 1) (hroom : hd = 0 ∨ ∃ U T, (∀ n, n < 8 → wkE b U T n) ∧ nI s ≤ rsn b U p) (q : Nat) : Rel (N + 200) (d_sp D (b 4 0) q (nI p) (nI s) (nI hd)) (rsp b p s hd) L pg ob := by
  have hT := h.2.1.2.2.2.2.1
  refine ⟨h.1.spn h.2.1 hp hl hm q s hd, h.2.1.spn h.2.2.2.2.1 hp hl hm hs24 hroom, h.2.2.1, fun k hk e => ?_, ?_, ?_⟩
  · have e : b 15 k = 2 := e
    rcases ndb_t.mp (h.2.2.2.1 k hk e) with w | ⟨j, j1, j2, j3⟩
    · exact ndb_t.mpr (Or.inl w)
    · refine ndb_t.mpr (Or.inr ⟨j, j1, ?_, j3⟩)
      have := lv_made hT j1 j2
      unfold lv
      rw [rsp_0, if_neg (by omega)]
      exact j2
  · have hb := h.2.2.2.2.1
    exact (((((hb.u (fun _ => show 1 ≤ 4 by omega)).u (fun _ => show p ≤ 7 by omega)).u (fun _ => show s ≤ 24 by omega)).u (fun _ => show hd ≤ 1 by omega)).u (fun _ => show b 4 0 + 1 ≤ 8 by omega)).up (by omega) hN
  · exact h.2.2.2.2.2.cong rfl (fun _ => Iff.rfl) (fun j => rfl) (fun j => rfl) (fun j => rfl)
theorem pu_spawn3 (h : Rel N D b L pg ob) (hN : N + 200 < 1000000000) (hz : z = 0 ∨ z = 1) (hd : d_lv D p) (e : x = nI p) (h1 : ¬ y < 1) (h2 : y ≤ 24) (h8 : d_m D < 8) (hS : z = 0 ∨ ¬ d_S D p < y) (q : Nat) : mo_Ok l G yy_Mo_spawn Y_Mo_spawn [.inr (some a0), .inl x, .inl y, .inl z] a0 ad Mb (ra L b) (Nxt N (d_sp D (d_m D) q x y z) (nI (d_m D))) := by
  obtain ⟨hp, hl⟩ := h.liv.mp hd
  have hm := lv_made h.2.1.2.2.2.2.1 hp hl
  rw [h.md] at h8 ⊢
  subst e
  refine cq_spawn h.2.2.2.2.1 hz (fun w => ?_) (fun p hp hl e h1 h2 w => absurd h8 w) (fun j U T hj _ e _ _ _ hz0 hT hE hr => ?_) (fun j s hj _ e s1 s2 ey _ z0 => ⟨rfl, _, L, pg, ob, rfl, ?_⟩) (fun j s U T hj _ e s1 s2 ey _ z0 hT hE hr => ⟨rfl, _, L, pg, ob, rfl, ?_⟩)
  · exact ((w p hp hl rfl).elim h1 (fun w => w h2)).elim
  · rw [← nIi e, ← h.1.S h.2.1 h.2.2.2.2.1 hE hm] at hr
    exact absurd (ilt.mp (hS.resolve_left hz0)) hr
  · rw [← nIi e, ey, z0]
    exact h.spn (hd := 0) hN hp hl h8 s2 (by omega) (Or.inl rfl) q
  · have z1 : z = nI 1 := hz.resolve_left z0
    rw [← nIi e, ey, z1]
    rw [← nIi e, ey] at hr
    have hsc : Rel N D (bw b U T) L pg ob := ⟨h.1, h.2.1, h.2.2.1, h.2.2.2.1, rb_bw h.2.2.2.2.1 hT, h.2.2.2.2.2⟩
    exact hsc.spn (hd := 1) hN hp hl h8 s2 (by omega) (Or.inr ⟨U, T, hE, by rw [rsn_bw]; exact hr⟩) q
theorem Rel.np (h : Rel N D b L pg ob) (hi : i < 13) : d_np D i = nI (pc b i) := by
  unfold d_np
  congr 1
  have hb := h.2.2.2.2.1
  refine h.1.2.2.1.cnt (fun g hg h0 => ?_) (fun g hg h0 => ?_)
  · have w : b 11 g ≤ 13 := hb.2 11 g (by decide)
    rw [Bool.eq_iff_iff, decide_eq_true_eq, decide_eq_true_eq, (h.1.2.2.2.1 g hg h0).1, nI_eq (by omega) (by omega)]
    omega
  · rw [decide_eq_true_eq] at h0
    omega
theorem Rel.hdi (h : Rel N D b L pg ob) (hi : i < 13) : (D.2.2 8 i).isSome = fzb b i := by
  rw [h.1.2.2.2.2.2.1 i hi]
  cases fzb b i with
  | true => rw [if_pos rfl]; rfl
  | false => rw [if_neg (by decide)]; rfl
theorem Rel.lr (h : Rel N D b L pg ob) (hd : d_lr D x y z p i r) : ∃ k, i = 9 + k ∧ rlr b x y z p k r := by
  obtain ⟨d1, d2, d3, d4, d5, d6, d7⟩ := hd
  rw [h.hdi d2] at d7
  obtain ⟨w1, w2, w3⟩ := fzb_t.mp d7
  exact ⟨i - 9, by omega, h.liv.mp d1, by omega, d3, d4, by rw [show 9 + (i - 9) = i by omega]; exact d5, d6, w3⟩
theorem pu_lookup0 (h : Rel N D b L pg ob) (hN : N + 200 < 1000000000) (k : ∀ p i r, ¬ d_lr D x y z p i r) : mo_Ok l G yy_Mo_lookup Y_Mo_lookup [.inr (some a0), .inl x, .inl y, .inl z] a0 ad Mb (ra L b) (Nxt N D (-1)) := by
  have bad : ∀ p k' r, rlr b x y z p k' r → False := fun p k' r w => by
    obtain ⟨w1, w2, w3, w4, w5, w6, w7⟩ := w
    refine k p (9 + k') r ⟨h.liv.mpr w1, by omega, w3, w4, w5, w6, ?_⟩
    rw [h.hdi (by omega)]
    exact fzb_t.mpr ⟨by omega, by omega, by rw [show 9 + k' - 9 = k' by omega]; exact w7⟩
  exact cq_lookup h.2.2.2.2.1 (fun _ => h.nx hN rfl) (fun p k' r w _ => (bad p k' r w).elim) (fun p k' r U T w _ _ _ _ => (bad p k' r w).elim) (fun p k' r U T m U1 T1 w _ _ _ _ _ _ _ => (bad p k' r w).elim)
theorem Rel.hed (h : Rel N D b L pg ob) (hk : k < 4) (h2 : b 15 k = 2) : D.2.2 8 (9 + k) = rf ob (b 17 k + 1) := by
  rw [h.1.2.2.2.2.2.1 (9 + k) (by omega), if_pos (fzb_t.mpr ⟨by omega, by omega, by rw [show 9 + k - 9 = k by omega]; exact h2⟩), show 9 + k - 9 = k by omega]
  rfl
theorem Rel.rgh (h : Rel N D b L pg ob) (hN : N + 200 < 1000000000) (hp : p < 8) (hl : lv b p) (hr : r < 4) (hk : k < 4) (h2 : b 15 k = 2) (h20 : b 20 (4 * p + k) ≠ 0) : Rel (N + 200) (dp D (4 + r) p (D.2.2 8 (9 + k))) (bu b 5 (4 * p + r) (b 17 k + 1)) L pg ob := by
  have h6 := h.2.1.2.2.2.1.2.2.2.1 k hk h2
  have w : b 17 k ≤ 59 := h.2.2.2.2.1.2 17 k (by decide)
  rw [h.hed hk h2]
  refine h.reg hN hp hl hr (by omega) (fun _ => by show 0 < b 6 (b 17 k); omega) (fun _ j hj e _ => ?_) (fun _ j hj e e1 => ?_)
  · have e : b 6 (b 17 k) = 10 + j := e
    rw [show j = k by omega]
    exact h20
  · have e : b 6 (b 17 k) = 10 + j := e
    rw [show j = k by omega] at e1
    omega
theorem rlr_u {p' k' r' : Nat} (h1 : rlr b x y z p k r) (h2 : rlr b x y z p' k' r') : p' = p ∧ k' = k ∧ r' = r := by
  obtain ⟨a1, a2, a3, a4, a5, a6, _⟩ := h1
  obtain ⟨c1, c2, c3, c4, c5, c6, _⟩ := h2
  rw [a4] at c4
  rw [a5] at c5
  rw [a6] at c6
  have := nIi c4 (by omega) (by omega)
  have := nIi c5 (by omega) (by omega)
  have := nIi c6 (by omega) (by omega)
  omega
theorem pu_lookup1 (h : Rel N D b L pg ob) (hN : N + 200 < 1000000000) (hd : d_lr D x y z p i r) (hc : bb_t (D.2.1 11 p) i = true) : mo_Ok l G yy_Mo_lookup Y_Mo_lookup [.inr (some a0), .inl x, .inl y, .inl z] a0 ad Mb (ra L b) (Nxt N (dp D (4 + r) p (D.2.2 8 i)) 0) := by
  obtain ⟨k, e, hR⟩ := h.lr hd
  subst e
  obtain ⟨⟨hp, hl⟩, hk, hr, _, _, _, h2⟩ := id hR
  have h19 : b 19 (4 * p + k) ≠ 0 := by
    have := ((h.chb hp hl).mp hc).2.2
    rw [show 9 + k - 9 = k by omega] at this
    exact this
  have h20 := ((h.2.1.2.2.1.1 p k hp hk).mp h19).2
  refine cq_lookup h.2.2.2.2.1 (fun w => absurd hR (w p k r)) (fun p' k' r' w w2 => ⟨rfl, _, L, pg, ob, rfl, ?_⟩) (fun p' k' r' U T w w2 _ _ _ => ?_) (fun p' k' r' U T m U1 T1 w w2 _ _ _ _ _ _ => ?_)
  · obtain ⟨e1, e2, e3⟩ := rlr_u hR w
    rw [e1, e2, e3]
    exact h.rgh hN hp hl hr hk h2 h20
  · obtain ⟨e1, e2, e3⟩ := rlr_u hR w
    rw [e1, e2] at w2
    exact absurd w2 h19
  · obtain ⟨e1, e2, e3⟩ := rlr_u hR w
    rw [e1, e2] at w2
    exact absurd w2 h19
theorem Rel.cgs (h : Rel N D b L pg ob) (hN : N + 200 < 1000000000) {U T : Nat → Nat} (hp : p < 8) (hl : lv b p) (hk : k < 4) (h2 : b 15 k = 2) (h0 : b 19 (4 * p + k) = 0) (hE : ∀ n, n < 8 → wkE b U T n) (hr : nI (pc b (9 + k)) ≤ rsn b U p) : Rel N (di D 11 p (D.2.1 11 p ||| ((1 : Int32) <<< (nI (9 + k) &&& 31)))) (chs b p k) L pg ob := by
  have hT := h.2.1.2.2.2.2.1
  refine ⟨h.1.cgs hT.2.1 (lv_made hT hp hl) hk, h.2.1.cgs h.2.2.2.2.1 hp hl hk h2 h0 hE hr, h.2.2.1, fun i hi e => ?_, (h.2.2.2.2.1.u (fun _ => show 1 ≤ 1 by omega)).u (fun _ => show 1 ≤ 1 by omega), h.2.2.2.2.2.ofi (by decide) (by decide)⟩
  rcases ndb_t.mp (h.2.2.2.1 i hi e) with w | ⟨j, j1, j2, j3⟩
  · exact ndb_t.mpr (Or.inl w)
  · refine ndb_t.mpr (Or.inr ⟨j, j1, j2, ?_⟩)
    rw [chs_19]
    split
    · decide
    · exact j3
theorem Rel.lk (h : Rel N D b L pg ob) (hN : N + 200 < 1000000000) {U T : Nat → Nat} (hp : p < 8) (hl : lv b p) (hr4 : r < 4) (hk : k < 4) (h2 : b 15 k = 2) (h0 : b 19 (4 * p + k) = 0) (hE : ∀ n, n < 8 → wkE b U T n) (hr : nI (pc b (9 + k)) ≤ rsn b U p) : Rel (N + 200) (d_lk D p (9 + k) r) (rlk b p k r) L pg ob := by
  have h1 := h.cgs hN hp hl hk h2 h0 hE hr
  exact h1.rgh (r := r) (k := k) hN hp hl hr4 hk h2 (by rw [chs_20, if_pos rfl]; decide)
theorem Rel.sc0 (h : Rel N D b L pg ob) {U T : Nat → Nat} (hT : ∀ j, T j ≤ 1) : Rel N D (bw b U T) L pg ob := ⟨h.1, h.2.1, h.2.2.1, h.2.2.2.1, rb_bw h.2.2.2.2.1 hT, h.2.2.2.2.2⟩
theorem Rel.c19 (h : Rel N D b L pg ob) (hp : p < 8) (hl : lv b p) (hk : k < 4) (hc : bb_t (D.2.1 11 p) (9 + k) = false) : b 19 (4 * p + k) = 0 := Classical.byContradiction (fun w => by
  rw [(h.chb hp hl).mpr ⟨by omega, by omega, by rw [show 9 + k - 9 = k by omega]; exact w⟩] at hc
  cases hc)
theorem pu_lookup2 (h : Rel N D b L pg ob) (hN : N + 200 < 1000000000) (hd : d_lr D x y z p i r) (hc : bb_t (D.2.1 11 p) i = false) (hS : ¬ d_S D p < d_np D i) : mo_Ok l G yy_Mo_lookup Y_Mo_lookup [.inr (some a0), .inl x, .inl y, .inl z] a0 ad Mb (ra L b) (Nxt N (d_lk D p i r) 0) := by
  obtain ⟨k, e, hR⟩ := h.lr hd
  subst e
  obtain ⟨⟨hp, hl⟩, hk, hr, _, _, _, h2⟩ := id hR
  have hm := lv_made h.2.1.2.2.2.2.1 hp hl
  have h19 := h.c19 hp hl hk hc
  rw [h.np (by omega), ilt] at hS
  refine cq_lookup h.2.2.2.2.1 (fun w => absurd hR (w p k r)) (fun p' k' r' w w2 => ?_) (fun p' k' r' U T w w2 hT hE hr' => ⟨rfl, _, L, pg, ob, rfl, ?_⟩) (fun p' k' r' U T m U1 T1 w w2 hT hE hn _ _ _ => ?_)
  · obtain ⟨e1, e2, e3⟩ := rlr_u hR w
    rw [e1, e2] at w2
    exact absurd h19 w2
  · obtain ⟨e1, e2, e3⟩ := rlr_u hR w
    rw [e1, e2] at hr'
    rw [e1, e2, e3]
    exact (h.sc0 hT).lk (U := U) (T := T) hN hp hl hr hk h2 h19 hE (by rw [rsn_bw]; exact hr')
  · obtain ⟨e1, e2, e3⟩ := rlr_u hR w
    rw [e1, e2, ← h.1.S h.2.1 h.2.2.2.2.1 hE hm] at hn
    exact absurd hS hn
/-- lookup after a collection: still too much -/
theorem pu_lookup3 (h : Rel N D b L pg ob) (hN : N + 200 < 1000000000) (hd : d_lr D x y z p i r) (hc : bb_t (D.2.1 11 p) i = false) (hS : d_S D p < d_np D i) {rs : List Nat} (hrs : ∀ a, a ∈ rs ↔ a ∈ D.1.2 ∧ d_h D a = nI p ∧ d_Re D (nI p) a) :
    (d_S (d_col D p rs) p < d_np D i → mo_Ok l G yy_Mo_lookup Y_Mo_lookup [.inr (some a0), .inl x, .inl y, .inl z] a0 ad Mb (ra L b) (Nxt N (d_col D p rs) (-5))) ∧ (¬ d_S (d_col D p rs) p < d_np D i → mo_Ok l G yy_Mo_lookup Y_Mo_lookup [.inr (some a0), .inl x, .inl y, .inl z] a0 ad Mb (ra L b) (Nxt N (d_lk (d_col D p rs) p i r) 0)) := by
  obtain ⟨k, e, hR⟩ := h.lr hd
  subst e
  obtain ⟨⟨hp, hl⟩, hk, hr, _, _, _, h2⟩ := id hR
  have hm := lv_made h.2.1.2.2.2.2.1 hp hl
  have h19 := h.c19 hp hl hk hc
  have hnp := h.np (i := 9 + k) (by omega)
  rw [hnp] at hS ⊢
  have bad1 : ∀ p' k' r', rlr b x y z p' k' r' → b 19 (4 * p' + k') ≠ 0 → False := fun p' k' r' w w2 => by
    obtain ⟨e1, e2, e3⟩ := rlr_u hR w
    rw [e1, e2] at w2
    exact w2 h19
  have bad2 : ∀ p' k' r' (U T : Nat → Nat), rlr b x y z p' k' r' → (∀ n, n < 8 → wkE b U T n) → nI (pc b (9 + k')) ≤ rsn b U p' → False := fun p' k' r' U T w hE hr' => by
    obtain ⟨e1, e2, e3⟩ := rlr_u hR w
    rw [e1, e2, ← h.1.S h.2.1 h.2.2.2.2.1 hE hm] at hr'
    exact ilt.mpr hr' hS
  -- after the collection
  have aft : ∀ (U T : Nat → Nat) (m U1 T1 : Nat → Nat), (∀ j, T j ≤ 1) → rmk b p m → (∀ n, n < 8 → wkE (swp (bw b U T) p m) U1 T1 n) → Rel N (d_col D p rs) (swp (bw b U T) p m) L pg ob ∧ pc (swp (bw b U T) p m) (9 + k) = pc b (9 + k) ∧ swp (bw b U T) p m 15 k = 2 ∧ lv (swp (bw b U T) p m) p ∧ rsn (swp (bw b U T) p m) U1 p = d_S (d_col D p rs) p := fun U T m U1 T1 hT hmk hE1 => by
    have hc0 := h.sc0 (U := U) hT
    have hmk' : rmk (bw b U T) p m := hmk
    have hcol := hc0.col (Or.inr ⟨hp, hl⟩) hmk' hrs
    obtain ⟨o1, o2⟩ := swp_o hc0.1 hc0.2.1 hc0.2.2.2.2.1 hc0.2.2.2.2.2 hc0.2.2.2.1 hp hl hmk' hrs hk h2 h19
    have hle := leR.swp (show p ≤ 8 by omega) (bw b U T) m
    have hlv : lv (swp (bw b U T) p m) p := (lv_c (hle.1 0 (by omega) p)).mpr hl
    exact ⟨hcol, o2, o1, hlv, (hcol.1.S hcol.2.1 hcol.2.2.2.2.1 hE1 (lv_made hcol.2.1.2.2.2.2.1 hp hlv)).symm⟩
  have a19 : ∀ (U T : Nat → Nat) (m : Nat → Nat), (∀ j, T j ≤ 1) → rmk b p m → swp (bw b U T) p m 19 (4 * p + k) = 0 := fun U T m hT hmk => by
    have hc0 := h.sc0 (U := U) hT
    have hmk' : rmk (bw b U T) p m := hmk
    have hcol := hc0.col (Or.inr ⟨hp, hl⟩) hmk' hrs
    have hle := leR.swp (show p ≤ 8 by omega) (bw b U T) m
    have hlv : lv (swp (bw b U T) p m) p := (lv_c (hle.1 0 (by omega) p)).mpr hl
    unfold swp
    rw [vnN_k _ (by decide) (by decide) (by decide) (by decide) (by decide), chN_p hp 4]
    split
    · rfl
    · exact (if_neg (fun w => by cases w.1)).trans (((fzR_N (bm (bw b U T) m) (unr (bw b U T) m p) 60 (Nat.le_refl 60)).2.1 19 _ (by decide) (by decide) (by decide)).trans h19)
  refine ⟨fun hlt => ?_, fun hge => ?_⟩
  · refine cq_lookup h.2.2.2.2.1 (fun w => absurd hR (w p k r)) (fun p' k' r' w w2 => (bad1 p' k' r' w w2).elim) (fun p' k' r' U T w _ _ hE hr' => (bad2 p' k' r' U T w hE hr').elim) (fun p' k' r' U T m U1 T1 w w2 hT hE hn hmk hT1 hE1 => ?_)
    obtain ⟨e1, e2, e3⟩ := rlr_u hR w
    subst e1
    subst e2
    subst e3
    obtain ⟨z1, z2, z3, z4, z5⟩ := aft U T m U1 T1 hT hmk hE1
    refine ⟨fun _ => ⟨rfl, _, L, pg, ob, rfl, z1.sc hN hT1⟩, fun w => ?_⟩
    rw [z2, z5] at w
    exact absurd hlt (ilt.mpr w)
  · refine cq_lookup h.2.2.2.2.1 (fun w => absurd hR (w p k r)) (fun p' k' r' w w2 => (bad1 p' k' r' w w2).elim) (fun p' k' r' U T w _ _ hE hr' => (bad2 p' k' r' U T w hE hr').elim) (fun p' k' r' U T m U1 T1 w w2 hT hE hn hmk hT1 hE1 => ?_)
    obtain ⟨e1, e2, e3⟩ := rlr_u hR w
    subst e1
    subst e2
    subst e3
    obtain ⟨z1, z2, z3, z4, z5⟩ := aft U T m U1 T1 hT hmk hE1
    refine ⟨fun w => ?_, fun w => ⟨rfl, _, L, pg, ob, rfl, ?_⟩⟩
    · rw [z2, z5] at w
      exact absurd (ilt.mp hge) w
    · exact (z1.sc0 hT1).lk (U := U1) (T := T1) hN hp z4 hr hk z3 (a19 U T m hT hmk) hE1 (by rw [rsn_bw]; exact w)
end SZA
