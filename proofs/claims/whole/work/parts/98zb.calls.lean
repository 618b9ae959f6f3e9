/-! CLASS AND REFERENCE: the reference answers as the class, fourth part -/
section SZB
variable {l : Launch} {G : mm_G} {a0 : Nat} {ad : Nat → Nat} {Mb : mm_M} {D D1 D2 : ph_D} {b : rB} {L : Nat → Int32} {pg ob : Nat → Nat} {N p q r s i j k n m u f a : Nat} {x y z w v : Int32}
theorem Rel.ar (h : Rel N D b L pg ob) : d_ar D x y z w p r s f ↔ rar b x y z w p r s f := by
  unfold d_ar rar
  rw [h.liv]
theorem rar_u {p' r' s' f' : Nat} (h1 : rar b x y z w p r s f) (h2 : rar b x y z w p' r' s' f') : p' = p ∧ r' = r ∧ s' = s ∧ f' = f := by
  obtain ⟨a1, a2, a3, a4, a5, a6, a7, a8⟩ := h1
  obtain ⟨c1, c2, c3, c4, c5, c6, c7, c8⟩ := h2
  rw [a5] at c5
  rw [a6] at c6
  rw [a7] at c7
  rw [a8] at c8
  have := nIi c5 (by omega) (by omega)
  have := nIi c6 (by omega) (by omega)
  have := nIi c7 (by omega) (by omega)
  have := nIi c8 (by omega) (by omega)
  omega
theorem Rel.hn (h : Rel N D b L pg ob) (hu : u < 60) (h0 : 0 < b 6 u) : d_hn D (ob u) = b 6 u - 1 := by
  unfold d_hn
  rw [h.1.hh h.2.1.2.1 h.2.2.2.2.1 hu h0]
  have w : b 6 u ≤ 13 := h.2.2.2.2.1.2 6 u (by decide)
  exact nI_clamp (by omega)
theorem Rel.mhv (h : Rel N D b L pg ob) {v : Nat} (hp : p < 8) (hl : lv b p) (hv : v ≤ 60) (h0 : 0 < v → 0 < b 6 (v - 1)) : d_mhv D p (rf ob v) = rmh b p v := by
  cases v with
  | zero => rfl
  | succ y =>
    have hy0 : 0 < b 6 y := h0 (Nat.succ_pos y)
    have w : b 6 y ≤ 13 := h.2.2.2.2.1.2 6 y (by decide)
    show d_mh D p (d_hn D (ob y)) = _
    rw [h.hn (show y < 60 by omega) hy0]
    unfold d_mh rmh
    rw [if_neg (Nat.succ_ne_zero y), show y + 1 - 1 = y from rfl]
    by_cases c8 : b 6 y - 1 < 8
    · rw [if_pos c8, if_pos c8]
    · rw [if_neg c8, if_neg c8, h.hdi (by omega)]
      cases hf : fzb b (b 6 y - 1) with
      | false => rfl
      | true =>
        obtain ⟨f1, f2, _⟩ := fzb_t.mp hf
        rw [Bool.not_true, Bool.false_or, Bool.true_and, Bool.eq_iff_iff, h.chb hp hl, Bool.not_eq_true', decide_eq_false_iff_not, show 4 * p + (b 6 y - 1 - 9) = 4 * p + (b 6 y - 1) - 9 by omega]
        exact ⟨fun z => z.2.2, fun z => ⟨f1, by omega, z⟩⟩
theorem Rel.fdl (h : Rel N D b L pg ob) (hu : u < 60) (h0 : 0 < b 6 u) (hf : f < 3) : D.2.2 (1 + f) (ob u) = rf ob (b 10 (3 * u + f)) := (h.1.2.1 u hu h0).2.2.2.2 f hf
theorem pu_load (h : Rel N D b L pg ob) (hN : N + 200 < 1000000000) : ((∀ p r s f, ¬ d_ar D x y z w p r s f) → mo_Ok l G yy_Mo_load Y_Mo_load [.inr (some a0), .inl x, .inl y, .inl z, .inl w] a0 ad Mb (ra L b) (Nxt N D (-1))) ∧ (∀ p r s f, d_ar D x y z w p r s f → D.2.2 (4 + s) p = none → mo_Ok l G yy_Mo_load Y_Mo_load [.inr (some a0), .inl x, .inl y, .inl z, .inl w] a0 ad Mb (ra L b) (Nxt N D (-2))) ∧
    (∀ p r s f a, d_ar D x y z w p r s f → D.2.2 (4 + s) p = some a → d_mhv D p (D.2.2 (1 + f) a) = false → mo_Ok l G yy_Mo_load Y_Mo_load [.inr (some a0), .inl x, .inl y, .inl z, .inl w] a0 ad Mb (ra L b) (Nxt N D (-3))) ∧ (∀ p r s f a, d_ar D x y z w p r s f → D.2.2 (4 + s) p = some a → d_mhv D p (D.2.2 (1 + f) a) = true → mo_Ok l G yy_Mo_load Y_Mo_load [.inr (some a0), .inl x, .inl y, .inl z, .inl w] a0 ad Mb (ra L b) (Nxt N (dp D (4 + r) p (D.2.2 (1 + f) a)) 0)) := by
  have hO := h.2.1.1
  have hb := h.2.2.2.2.1
  refine ⟨fun hno => ?_, fun p r s f hd hreg => ?_, fun p r s f a hd hreg hmh => ?_, fun p r s f a hd hreg hmh => ?_⟩
  · have bad : ∀ p r s f, rar b x y z w p r s f → False := fun p r s f e => hno p r s f (h.ar.mpr e)
    exact cq_load hb hO.2.1 hO.1 (fun _ => h.nx hN rfl) (fun p r s f e _ => (bad p r s f e).elim) (fun p r s f u e _ _ => (bad p r s f e).elim) (fun p r s f u e _ _ => (bad p r s f e).elim)
  · have hR := h.ar.mp hd
    obtain ⟨⟨hp, hl⟩, hr, hs, hf, _⟩ := id hR
    rw [h.rg hp hl hs, rf_none] at hreg
    refine cq_load hb hO.2.1 hO.1 (fun w => absurd hR (w p r s f)) (fun p' r' s' f' e _ => h.nx hN rfl) (fun p' r' s' f' u e e2 _ => ?_) (fun p' r' s' f' u e e2 _ => ?_)
    · obtain ⟨e3, _, e4, _⟩ := rar_u hR e
      rw [e3, e4, hreg] at e2
      cases e2
    · obtain ⟨e3, _, e4, _⟩ := rar_u hR e
      rw [e3, e4, hreg] at e2
      cases e2
  · have hR := h.ar.mp hd
    obtain ⟨⟨hp, hl⟩, hr, hs, hf, _⟩ := id hR
    rw [h.rg hp hl hs, rf_some] at hreg
    obtain ⟨u, u1, u2⟩ := hreg
    subst u2
    obtain ⟨u3, u4⟩ := h.rl hp hs u1
    have w10 : b 10 (3 * u + f) ≤ 60 := hb.2 10 _ (by decide)
    rw [h.fdl u3 u4 hf, h.mhv hp hl w10 (fun z => hO.2.1 u f u3 u4 hf z)] at hmh
    refine cq_load hb hO.2.1 hO.1 (fun w => absurd hR (w p r s f)) (fun p' r' s' f' e e2 => ?_) (fun p' r' s' f' u' e e2 _ => h.nx hN rfl) (fun p' r' s' f' u' e e2 e3 => ?_)
    · obtain ⟨e4, _, e5, _⟩ := rar_u hR e
      rw [e4, e5, u1] at e2
      cases e2
    · obtain ⟨e4, _, e5, e6⟩ := rar_u hR e
      rw [e4, e5, u1] at e2
      rw [e4, e6, show u' = u by omega, hmh] at e3
      cases e3
  · have hR := h.ar.mp hd
    obtain ⟨⟨hp, hl⟩, hr, hs, hf, _⟩ := id hR
    rw [h.rg hp hl hs, rf_some] at hreg
    obtain ⟨u, u1, u2⟩ := hreg
    subst u2
    obtain ⟨u3, u4⟩ := h.rl hp hs u1
    have w10 : b 10 (3 * u + f) ≤ 60 := hb.2 10 _ (by decide)
    have w6 : b 6 u ≤ 13 := hb.2 6 u (by decide)
    rw [h.fdl u3 u4 hf] at hmh ⊢
    rw [h.mhv hp hl w10 (fun z => hO.2.1 u f u3 u4 hf z)] at hmh
    refine cq_load hb hO.2.1 hO.1 (fun w => absurd hR (w p r s f)) (fun p' r' s' f' e e2 => ?_) (fun p' r' s' f' u' e e2 e3 => ?_) (fun p' r' s' f' u' e e2 e3 => ⟨rfl, _, L, pg, ob, rfl, ?_⟩)
    · obtain ⟨e4, _, e5, _⟩ := rar_u hR e
      rw [e4, e5, u1] at e2
      cases e2
    · obtain ⟨e4, _, e5, e6⟩ := rar_u hR e
      rw [e4, e5, u1] at e2
      rw [e4, e6, show u' = u by omega, hmh] at e3
      cases e3
    · obtain ⟨e4, e7, e5, e6⟩ := rar_u hR e
      rw [e4, e5, u1] at e2
      rw [e4, e6, e7, show u' = u by omega]
      have hS := h.2.1.2.2.1
      refine h.reg hN hp hl hr w10 (fun z => hO.2.1 u f u3 u4 hf z) (fun z k hk e8 e9 => ?_) (fun z k hk e8 e9 => ?_)
      · unfold rmh at hmh
        rw [if_neg (by omega), if_neg (by omega), e8, show fzb b (10 + k - 1) = true from fzb_t.mpr ⟨by omega, by omega, by rw [show 10 + k - 1 - 9 = k by omega]; exact e9⟩, Bool.true_and, Bool.not_eq_true', decide_eq_false_iff_not, show 4 * p + (10 + k - 1) - 9 = 4 * p + k by omega] at hmh
        exact ((hS.1 p k hp hk).mp hmh).2
      · by_cases ce : b 6 u = 10 + k
        · exact h.2.2.1 p s k hp hs hk (by omega) (by rw [u1]; exact ce) e9
        · exfalso
          have hi := hO.2.2.1 u f u3 u4 hf z (by omega)
          obtain ⟨_, _, g3, g4⟩ := hO.2.2.2.1 (b 6 u - 1) (b 10 (3 * u + f) - 1) (by omega) (by omega) hi
          rcases Nat.lt_or_ge (b 6 u - 1) 8 with c8 | c8
          · have := (hS.2.1 _ k c8 hk (hS.2.2.2.1 (b 6 u - 1) _ k c8 (by omega) hk hi e8)).1
            omega
          · rw [show b 6 u - 1 = 8 by omega] at hi
            obtain ⟨q, q1, q2, q3⟩ := hS.2.2.2.2 _ k (by omega) hk hi e8
            have := (hS.2.1 q k q1 hk q3).1
            omega
theorem Rel.may (h : Rel N D b L pg ob) {v : Nat} (hp : p < 8) (hl : lv b p) (hu : u < 60) (hu0 : 0 < b 6 u) (hv : v ≤ 60) (h0 : 0 < v → 0 < b 6 (v - 1)) : (d_mc D p (d_hn D (ob u)) && d_mnv D p (ob u) (rf ob v)) = rmy b p (b 6 u - 1) (rgo b (b 6 u - 1) v) := by
  have hb := h.2.2.2.2.1
  have w6 : b 6 u ≤ 13 := hb.2 6 u (by decide)
  have hk := h.1.kmd hb hp hl
  have hpf : fzb b p = false := Bool.eq_false_iff.mpr (fun z => by have := (fzb_t.mp z).1; omega)
  have hmc : d_mc D p (b 6 u - 1) = if b 6 u - 1 = 8 then decide (2 ≤ b 0 p) else !fzb b (b 6 u - 1) := by
    unfold d_mc
    by_cases c8 : b 6 u - 1 = 8
    · rw [if_pos c8, if_pos c8, Bool.eq_iff_iff, decide_eq_true_eq, decide_eq_true_eq]
      exact hk
    · rw [if_neg c8, if_neg c8, h.hdi (by omega)]
  rw [h.hn hu hu0, hmc]
  have key : ∀ g, g < 13 → (d_mn D p (b 6 u - 1) g = if b 6 u - 1 = g then true else if b 6 u - 1 = 8 then decide (g = p) else decide (b 6 u - 1 = p) && (decide (g = 8) || fzb b g)) := fun g hg => by
    unfold d_mn
    rw [h.hdi hg]
  have fin : ∀ g, g < 13 → ((if b 6 u - 1 = 8 then decide (2 ≤ b 0 p) else !fzb b (b 6 u - 1)) && (if b 6 u - 1 = g then true else if b 6 u - 1 = 8 then decide (g = p) else decide (b 6 u - 1 = p) && (decide (g = 8) || fzb b g))) = rmy b p (b 6 u - 1) g := fun g hg => by
    unfold rmy
    by_cases c1 : b 6 u - 1 = p
    · rw [if_pos c1, if_neg (show ¬ b 6 u - 1 = 8 by omega), c1, hpf, Bool.not_false, Bool.true_and]
      by_cases c2 : p = g
      · rw [if_pos c2, decide_eq_true c2.symm]
        rfl
      · rw [if_neg c2, if_neg (show ¬ p = 8 by omega), decide_eq_true rfl, Bool.true_and, decide_eq_false (show ¬ g = p from fun z => c2 z.symm), Bool.false_or]
    · rw [if_neg c1]
      by_cases c8 : b 6 u - 1 = 8
      · rw [if_pos c8, if_pos c8, if_pos c8, c8]
        congr 1
        by_cases c2 : 8 = g
        · rw [if_pos c2, decide_eq_true c2.symm]
          rfl
        · rw [if_neg c2, decide_eq_false (show ¬ g = 8 from fun z => c2 z.symm), Bool.false_or]
      · rw [if_neg c8, if_neg c8, if_neg c8, decide_eq_false c1, Bool.false_and]
        congr 1
        by_cases c2 : b 6 u - 1 = g
        · rw [if_pos c2, decide_eq_true c2.symm]
        · rw [if_neg c2, decide_eq_false (fun z => c2 z.symm)]
  cases v with
  | zero =>
    show (_ && true) = _
    rw [show rgo b (b 6 u - 1) 0 = b 6 u - 1 from if_pos rfl, ← fin (b 6 u - 1) (by omega), if_pos (show b 6 u - 1 = b 6 u - 1 from rfl)]
  | succ y =>
    have hy0 : 0 < b 6 y := h0 (Nat.succ_pos y)
    have wy : b 6 y ≤ 13 := hb.2 6 y (by decide)
    rw [show rgo b (b 6 u - 1) (y + 1) = b 6 y - 1 from if_neg (Nat.succ_ne_zero y), ← fin (b 6 y - 1) (by omega)]
    congr 1
    show d_mn D p (d_hn D (ob u)) (d_hn D (ob y)) = _
    rw [h.hn hu hu0, h.hn (show y < 60 by omega) hy0]
    exact key (b 6 y - 1) (by omega)
theorem pu_store (h : Rel N D b L pg ob) (hN : N + 200 < 1000000000) : ((∀ p r s f, ¬ d_ar D x y w z p r s f) → mo_Ok l G yy_Mo_store Y_Mo_store [.inr (some a0), .inl x, .inl y, .inl z, .inl w] a0 ad Mb (ra L b) (Nxt N D (-1))) ∧ (∀ p r s f, d_ar D x y w z p r s f → D.2.2 (4 + r) p = none → mo_Ok l G yy_Mo_store Y_Mo_store [.inr (some a0), .inl x, .inl y, .inl z, .inl w] a0 ad Mb (ra L b) (Nxt N D (-2))) ∧
    (∀ p r s f a, d_ar D x y w z p r s f → D.2.2 (4 + r) p = some a → (d_mc D p (d_hn D a) && d_mnv D p a (D.2.2 (4 + s) p)) = false → mo_Ok l G yy_Mo_store Y_Mo_store [.inr (some a0), .inl x, .inl y, .inl z, .inl w] a0 ad Mb (ra L b) (Nxt N D (-3))) ∧ (∀ p r s f a, d_ar D x y w z p r s f → D.2.2 (4 + r) p = some a → (d_mc D p (d_hn D a) && d_mnv D p a (D.2.2 (4 + s) p)) = true → mo_Ok l G yy_Mo_store Y_Mo_store [.inr (some a0), .inl x, .inl y, .inl z, .inl w] a0 ad Mb (ra L b) (Nxt N (d_sf D a f (d_hn D a) (D.2.2 (4 + s) p)) 0)) := by
  have hO := h.2.1.1
  have hb := h.2.2.2.2.1
  refine ⟨fun hno => ?_, fun p r s f hd hreg => ?_, fun p r s f a hd hreg hmh => ?_, fun p r s f a hd hreg hmh => ?_⟩
  · have bad : ∀ p r s f, rar b x y w z p r s f → False := fun p r s f e => hno p r s f (h.ar.mpr e)
    exact cq_store hb hO.1 (fun _ => h.nx hN rfl) (fun p r s f e _ => (bad p r s f e).elim) (fun p r s f u e _ _ => (bad p r s f e).elim) (fun p r s f u e _ _ => (bad p r s f e).elim)
  · have hR := h.ar.mp hd
    obtain ⟨⟨hp, hl⟩, hr, hs, hf, _⟩ := id hR
    rw [h.rg hp hl hr, rf_none] at hreg
    refine cq_store hb hO.1 (fun w => absurd hR (w p r s f)) (fun p' r' s' f' e _ => h.nx hN rfl) (fun p' r' s' f' u e e2 _ => ?_) (fun p' r' s' f' u e e2 _ => ?_)
    · obtain ⟨e3, e4, _, _⟩ := rar_u hR e
      rw [e3, e4, hreg] at e2
      cases e2
    · obtain ⟨e3, e4, _, _⟩ := rar_u hR e
      rw [e3, e4, hreg] at e2
      cases e2
  · have hR := h.ar.mp hd
    obtain ⟨⟨hp, hl⟩, hr, hs, hf, _⟩ := id hR
    rw [h.rg hp hl hr, rf_some] at hreg
    obtain ⟨u, u1, u2⟩ := hreg
    subst u2
    obtain ⟨u3, u4⟩ := h.rl hp hr u1
    rw [h.rg hp hl hs, h.may hp hl u3 u4 (hb.2 5 _ (by decide)) (fun z => hO.1 p s hp hs z)] at hmh
    refine cq_store hb hO.1 (fun w => absurd hR (w p r s f)) (fun p' r' s' f' e e2 => ?_) (fun p' r' s' f' u' e e2 _ => h.nx hN rfl) (fun p' r' s' f' u' e e2 e3 => ?_)
    · obtain ⟨e4, e5, _, _⟩ := rar_u hR e
      rw [e4, e5, u1] at e2
      cases e2
    · obtain ⟨e4, e5, e7, e6⟩ := rar_u hR e
      rw [e4, e5, u1] at e2
      rw [e4, e7, show u' = u by omega, hmh] at e3
      cases e3
  · have hR := h.ar.mp hd
    obtain ⟨⟨hp, hl⟩, hr, hs, hf, _⟩ := id hR
    rw [h.rg hp hl hr, rf_some] at hreg
    obtain ⟨u, u1, u2⟩ := hreg
    subst u2
    obtain ⟨u3, u4⟩ := h.rl hp hr u1
    have w5 : b 5 (4 * p + s) ≤ 60 := hb.2 5 _ (by decide)
    rw [h.rg hp hl hs] at hmh ⊢
    rw [h.may hp hl u3 u4 w5 (fun z => hO.1 p s hp hs z)] at hmh
    refine cq_store hb hO.1 (fun w => absurd hR (w p r s f)) (fun p' r' s' f' e e2 => ?_) (fun p' r' s' f' u' e e2 e3 => ?_) (fun p' r' s' f' u' e e2 e3 => ⟨rfl, _, L, pg, ob, rfl, ?_⟩)
    · obtain ⟨e4, e5, _, _⟩ := rar_u hR e
      rw [e4, e5, u1] at e2
      cases e2
    · obtain ⟨e4, e5, e7, e6⟩ := rar_u hR e
      rw [e4, e5, u1] at e2
      rw [e4, e7, show u' = u by omega, hmh] at e3
      cases e3
    · obtain ⟨e4, e5, e7, e6⟩ := rar_u hR e
      rw [e4, e5, u1] at e2
      rw [e4, e6, e7, show u' = u by omega, h.hn u3 u4]
      have hfl := h.1.fld hO h.2.1.2.1 hb u3 u4 hf w5 (fun z => hO.1 p s hp hs z)
      have hvf := h.2.1.fld hb hp hl u3 u4 hf w5 (fun z => hO.1 p s hp hs z) (fun k hk z e8 e9 => h.2.1.2.2.1.2.2.1 p s k hp hs hk z e8 e9) hmh
      have ek : ∀ k j, k ≠ 10 → k ≠ 21 → rst1 b u f (b 5 (4 * p + s)) (b 6 u - 1) k j = b k j := fun k j h1 h2 => by
        unfold rst1
        split
        · exact bu_n h1
        · rw [bu_n h2, bu_n h1]
      have e21 : ∀ j, b 21 j ≠ 0 → rst1 b u f (b 5 (4 * p + s)) (b 6 u - 1) 21 j ≠ 0 := fun j h0 => by
        unfold rst1
        split
        · exact h0
        · by_cases e : j = 60 * (b 6 u - 1) + (b 5 (4 * p + s) - 1)
          · rw [e, bu_s]
            decide
          · rw [bu_m e]
            exact h0
      refine ⟨hfl, hvf, fun q i k hq hi hk h0 e8 e9 => ?_, fun k hk e8 => ?_, ?_, ?_⟩
      · rw [ek 5 _ (by decide) (by decide)] at h0 e8
        rw [ek 6 _ (by decide) (by decide)] at e8
        rw [ek 15 _ (by decide) (by decide)] at e9
        rw [ek 16 _ (by decide) (by decide)]
        exact h.2.2.1 q i k hq hi hk h0 e8 e9
      · rw [ek 15 _ (by decide) (by decide)] at e8
        rcases ndb_t.mp (h.2.2.2.1 k hk e8) with c1 | ⟨j, j1, j2, j3⟩
        · obtain ⟨yy, y1, y2, y3⟩ := nmb_t.mp c1
          exact ndb_t.mpr (Or.inl (nmb_t.mpr ⟨yy, y1, e21 _ y2, by rw [ek 6 _ (by decide) (by decide)]; exact y3⟩))
        · exact ndb_t.mpr (Or.inr ⟨j, j1, (lv_c (ek 0 j (by decide) (by decide))).mpr j2, by rw [ek 19 _ (by decide) (by decide)]; exact j3⟩)
      · unfold rst1
        split
        · exact (hb.u (fun _ => w5)).up (by omega) hN
        · exact ((hb.u (fun _ => w5)).u (fun _ => show 1 ≤ 1 by omega)).up (by omega) hN
      · have hA := h.2.2.2.2.2
        cases rf ob (b 5 (4 * p + s)) with
        | none => exact hA.ofp (by omega)
        | some cc =>
          show d_A (if _ then _ else _)
          split
          · exact hA.ofp (by omega)
          · exact (hA.ofp (by omega)).ofi (by decide) (by decide)
end SZB
