/-! CLASS AND REFERENCE: shared heaps that go -/
def gst (E : ph_D) (n : Nat) : ph_D := if (E.2.2 8 (9 + n)).isSome = true ∧ d_sh E (9 + n) = false ∧ d_it E 8 (9 + n) = false then d_ep (d_fr (dp E 8 (9 + n) none) (fun a => !decide (d_h E a = nI (9 + n)))) (9 + n) else E
section SX
variable {D D1 : ph_D} {b b1 : rB} {L : Nat → Int32} {pg ob : Nat → Nat} {N n p h x y g k t : Nat}
theorem d_gn_s (D : ph_D) (n : Nat) : d_gn D (n + 1) = gst (d_gn D n) n := rfl
theorem d_fr_dp (D : ph_D) (i : Nat) (v : Option Nat) (kp : Nat → Bool) : d_fr (dp D 8 i v) kp = dp (d_fr D kp) 8 i v := by
  have e : ∀ g ys, d_s (dp D 8 i v) g ys = d_s D g ys := fun g ys => d_s_cong g ys (fun a _ => ⟨dp_n (by decide), rfl⟩)
  unfold d_fr
  simp only [e]
  rfl
theorem sR.she (hs : sR D b L pg ob) (hv : iV b) (hb : rb N b) (hk : k < 4) : d_sh D (9 + k) = true ↔ ∃ p, p < 8 ∧ lv b p ∧ b 19 (4 * p + k) ≠ 0 := by
  have hT := hv.2.2.2.2.1
  have h48 := hT.2.1
  unfold d_sh
  rw [List.any_eq_true, hs.md hT]
  constructor
  · rintro ⟨p, h1, h2⟩
    have h1 := List.mem_range.mp h1
    rw [Bool.and_eq_true, Bool.not_eq_true', decide_eq_false_iff_not, (hs.2.2.2.2.1.2.2 p h1).2.2.2.2.1, b9] at h2
    obtain ⟨h3, h4, h5, h6⟩ := h2
    rw [show 9 + k - 9 = k by omega] at h6
    have hl := ((hs.liv hT hb).mp ⟨by rw [hs.md hT]; exact h1, h3⟩).2
    exact ⟨p, by omega, hl, (hv.2.2.1.1 p k (by omega) hk).mpr ⟨hl, h6⟩⟩
  · rintro ⟨p, h1, h2, h3⟩
    have hm := lv_made hT h1 h2
    refine ⟨p, List.mem_range.mpr hm, ?_⟩
    rw [Bool.and_eq_true, Bool.not_eq_true', decide_eq_false_iff_not, (hs.2.2.2.2.1.2.2 p hm).2.2.2.2.1, b9]
    refine ⟨((hs.liv hT hb).mpr ⟨h1, h2⟩).2, by omega, by omega, ?_⟩
    rw [show 9 + k - 9 = k by omega]
    exact ((hv.2.2.1.1 p k h1 hk).mp h3).2
theorem vn1_k (b : rB) (k : Nat) {q : Nat} (h6 : q ≠ 6) (h11 : q ≠ 11) (h21 : q ≠ 21) (h20 : q ≠ 20) (h15 : q ≠ 15) (j : Nat) : vn1 b k q j = b q j := by
  unfold vn1
  split
  · rw [bu_n h15]
    show (if q = 20 ∧ _ then 0 else frN b _ 60 q j) = _
    rw [if_neg (fun u => h20 u.1)]
    exact (fzR_N b _ 60 (Nat.le_refl 60)).2.1 q j h6 h11 h21
  · rfl
theorem sR.van (hs : sR D b L pg ob) (hv : iV b) (hb : rb N b) (hA : d_A D) (hk : k < 4) : sR (gst D k) (vn1 b k) L pg ob ∧ iV (vn1 b k) ∧ (vn1 b k 15 k = 2 → ∃ p, p < 8 ∧ vn1 b k 20 (4 * p + k) ≠ 0) := by
  obtain ⟨hO, hG, hS, hB, hT, hU⟩ := hv
  have hv : iV b := ⟨hO, hG, hS, hB, hT, hU⟩
  have h48 := hT.2.1
  have hfz : fzb b (9 + k) = true ↔ b 15 k = 2 := by
    rw [fzb_t, show 9 + k - 9 = k by omega]
    exact ⟨fun u => u.2.2, fun u => ⟨by omega, by omega, u⟩⟩
  have hcond : ((D.2.2 8 (9 + k)).isSome = true ∧ d_sh D (9 + k) = false ∧ d_it D 8 (9 + k) = false) ↔ (b 15 k = 2 ∧ ndb b k = false) := by
    rw [hs.2.2.2.2.2.1 (9 + k) (by omega), hs.it hO hG hb (by omega) (by omega)]
    have e1 : (if fzb b (9 + k) = true then some (ob (b 17 (9 + k - 9))) else none).isSome = true ↔ b 15 k = 2 := by
      rw [← hfz]
      cases fzb b (9 + k) with
      | true => rw [if_pos rfl]; exact ⟨fun _ => rfl, fun _ => rfl⟩
      | false => rw [if_neg (by decide)]; exact ⟨fun u => (by cases u), fun u => (by cases u)⟩
    rw [e1]
    constructor
    · rintro ⟨h1, h2, h3⟩
      refine ⟨h1, Bool.eq_false_iff.mpr (fun u => ?_)⟩
      rcases ndb_t.mp u with w | w
      · rw [h3] at w
        cases w
      · rw [(hs.she hv hb hk).mpr w] at h2
        cases h2
    · rintro ⟨h1, h2⟩
      refine ⟨h1, Bool.eq_false_iff.mpr (fun u => ?_), Bool.eq_false_iff.mpr (fun u => ?_)⟩
      · rw [ndb_t.mpr (Or.inr ((hs.she hv hb hk).mp u))] at h2
        cases h2
      · rw [ndb_t.mpr (Or.inl u)] at h2
        cases h2
  by_cases c : b 15 k = 2 ∧ ndb b k = false
  · have eD : gst D k = d_ep (dp (d_fr D (fun a => !decide (d_h D a = nI (9 + k)))) 8 (9 + k) none) (9 + k) := by
      unfold gst
      rw [if_pos (hcond.mpr c), d_fr_dp]
    have eb : vn1 b k = bu (py0 (frN b (fun x => decide (b 6 x = 10 + k)) 60) k 8) 15 k 3 := if_pos c
    have hz := fzR_N b (fun x => decide (b 6 x = 10 + k)) 60 (Nat.le_refl 60)
    have hF : ∀ x, x < 60 → ((fun x => decide (x < 60) && decide (b 6 x = 10 + k)) x = false ↔ ¬ b 6 x = 10 + k) := fun x hx => by
      show (decide (x < 60) && decide (b 6 x = 10 + k)) = false ↔ _
      rw [decide_eq_true hx, Bool.true_and, decide_eq_false_iff_not]
    have hc := hs.fr (kp := fun a => !decide (d_h D a = nI (9 + k))) hG hb hA hz (fun x hx h0 => by
      show (!decide (d_h D (ob x) = nI (9 + k))) = !(decide (x < 60) && decide (b 6 x = 10 + k))
      rw [decide_eq_true hx, Bool.true_and]
      congr 1
      rw [Bool.eq_iff_iff, decide_eq_true_eq, decide_eq_true_eq, hs.hq hG hb hx h0 (by omega)]
      omega)
    have hlvn : ∀ q, q < 8 → lv b q → b 20 (4 * q + k) = 0 := fun q hq hl => Classical.byContradiction (fun u => by
      have := c.2
      rw [ndb_t.mpr (Or.inr ⟨q, hq, hl, (hS.1 q k hq hk).mpr ⟨hl, u⟩⟩)] at this
      cases this)
    have hnn : nmb b 8 (9 + k) = false := Bool.eq_false_iff.mpr (fun u => by
      have := c.2
      rw [ndb_t.mpr (Or.inl u)] at this
      cases this)
    have c1 : ∀ q r, q < 8 → r < 4 → 0 < b 5 (4 * q + r) → ¬ b 6 (b 5 (4 * q + r) - 1) = 10 + k := by
      intro q r hq hr h0 e
      have h1 := hS.2.2.1 q r k hq hr hk h0 e c.1
      have hl : lv b q := Classical.byContradiction (fun u => by
        have := hO.2.2.2.2 q r hq hr u
        omega)
      exact h1 (hlvn q hq hl)
    have c2 : ∀ x f, x < 60 → 0 < b 6 x → ¬ b 6 x = 10 + k → f < 3 → 0 < b 10 (3 * x + f) → ¬ b 6 (b 10 (3 * x + f) - 1) = 10 + k := by
      intro x f hx h0 hne hf hf0 e
      have w1 : b 6 x ≤ 13 := hb.2 6 x (by decide)
      have w2 : b 10 (3 * x + f) ≤ 60 := hb.2 10 _ (by decide)
      have hi := hO.2.2.1 x f hx h0 hf hf0 (by omega)
      obtain ⟨_, _, g3, g4⟩ := hO.2.2.2.1 (b 6 x - 1) (b 10 (3 * x + f) - 1) (by omega) (by omega) hi
      rcases Nat.lt_or_ge (b 6 x - 1) 8 with q | q
      · exact hS.2.2.2.1 (b 6 x - 1) _ k q (by omega) hk hi e (hlvn _ q (g4 q))
      · rw [show b 6 x - 1 = 8 by omega] at hi
        rw [nmb_t.mpr ⟨b 10 (3 * x + f) - 1, by omega, hi, by omega⟩] at hnn
        cases hnn
    have hbc := rb_frN hb (fun x => decide (b 6 x = 10 + k)) 60
    have vo := hO.fr hz hb (fun q r hq hr h0 => by
      have w : b 5 (4 * q + r) ≤ 60 := hb.2 5 _ (by decide)
      exact (hF _ (by omega)).mpr (c1 q r hq hr h0)) (fun x f hx h0 hu hf hf0 => by
      have w2 : b 10 (3 * x + f) ≤ 60 := hb.2 10 _ (by decide)
      exact (hF _ (by omega)).mpr (c2 x f hx h0 ((hF x hx).mp hu) hf hf0))
    have vg := hG.fr hz
    have vs := hS.fr hz hb
    have vt := hT.fr hz
    have vu := hU.fr hz
    have hk' : ∀ q j, q ≠ 6 → q ≠ 11 → q ≠ 21 → frN b (fun x => decide (b 6 x = 10 + k)) 60 q j = b q j := hz.2.1
    have hno : ∀ x, x < 60 → ¬ frN b (fun x => decide (b 6 x = 10 + k)) 60 6 x = 10 + k := fun x hx e => by
      have h0 : 0 < frN b (fun x => decide (b 6 x = 10 + k)) 60 6 x := by omega
      have := (hF x hx).mp (hz.F0 hx h0)
      rw [hz.six2 h0] at e
      exact this e
    have hnp : ∀ g, ¬ frN b (fun x => decide (b 6 x = 10 + k)) 60 11 g = 10 + k := fun g e => by
      obtain ⟨g1, y, y1, y2, y3⟩ := vg.2.1 g (by omega)
      have := (vg.1 y y1 y2).1
      rw [y3, e] at this
      exact hno y y1 this.symm
    have hown : ∀ g, frN b (fun x => decide (b 6 x = 10 + k)) 60 11 g = 0 ∨ frN b (fun x => decide (b 6 x = 10 + k)) 60 11 g = b 11 g := hz.2.2.2.2.2
    have vb4 : ∀ q, q < 4 → q ≠ k → b 15 q = 2 → frN b (fun x => decide (b 6 x = 10 + k)) 60 6 (b 17 q) = 10 + q := fun q hq hqk e => by
      have h1 := hB.2.2.2.1 q hq e
      have w : b 17 q ≤ 59 := hb.2 17 q (by decide)
      rw [hz.six ((hF _ (by omega)).mpr (by omega))]
      exact h1
    rw [eb, eD]
    clear eD eb hz hs hcond
    generalize frN b (fun x => decide (b 6 x = 10 + k)) 60 = c at *
    generalize d_fr D (fun a => !decide (d_h D a = nI (9 + k))) = E at *
    have r1 : ∀ q j, q ≠ 15 → q ≠ 20 → bu (py0 c k 8) 15 k 3 q j = c q j := fun q j h1 h2 => by
      rw [bu_n h1]
      exact if_neg (fun u => h2 u.1)
    have r15 : ∀ j, j ≠ k → bu (py0 c k 8) 15 k 3 15 j = c 15 j := fun j h => by
      rw [bu_m h]
      rfl
    have r15k : bu (py0 c k 8) 15 k 3 15 k = 3 := bu_s _ _ _ _
    have r20 : ∀ q i, q < 8 → i < 4 → bu (py0 c k 8) 15 k 3 20 (4 * q + i) = if i = k then 0 else c 20 (4 * q + i) := fun q i hq hi => by
      rw [bu_n (by decide)]
      show (if 20 = 20 ∧ (4 * q + i) % 4 = k ∧ 4 * q + i < 4 * 8 then 0 else c 20 (4 * q + i)) = _
      by_cases e : i = k
      · rw [if_pos ⟨rfl, by omega, by omega⟩, if_pos e]
      · rw [if_neg (fun u => by omega), if_neg e]
    have rf1 : ∀ i, i ≠ 9 + k → fzb (bu (py0 c k 8) 15 k 3) i = fzb c i := by
      intro i hi
      unfold fzb
      by_cases h9 : 9 ≤ i
      · rw [r15 (i - 9) (by omega)]
      · rw [decide_eq_false h9, Bool.false_and, Bool.false_and, Bool.false_and]
    have rf2 : fzb (bu (py0 c k 8) 15 k 3) (9 + k) = false := Bool.eq_false_iff.mpr (fun u => by
      have := (fzb_t.mp u).2.2
      rw [show 9 + k - 9 = k by omega, r15k] at this
      cases this)
    have hrbk : ∀ q, rbk (bu (py0 c k 8) 15 k 3) q 4 = rbk c q 4 := by
      intro q
      have : ∀ i, i ≤ 4 → rbk (bu (py0 c k 8) 15 k 3) q i = rbk c q i := by
        intro i
        induction i with
        | zero => intro _; rfl
        | succ i ih =>
          intro hi
          show (if bu (py0 c k 8) 15 k 3 15 i = 1 ∧ bu (py0 c k 8) 15 k 3 16 i = q then 9 + i else rbk (bu (py0 c k 8) 15 k 3) q i) = (if c 15 i = 1 ∧ c 16 i = q then 9 + i else rbk c q i)
          rw [ih (by omega), r1 16 i (by decide) (by decide)]
          by_cases e : i = k
          · have h15 : c 15 i = 2 := by
              rw [e, hk' 15 k (by decide) (by decide) (by decide)]
              exact ‹b 15 k = 2 ∧ _›.1
            rw [e, r15k, ← e, h15, if_neg (fun u => by cases u.1), if_neg (fun u => by cases u.1)]
          · rw [r15 i e]
      exact this 4 (by omega)
    have hlc : ∀ q, lv (bu (py0 c k 8) 15 k 3) q ↔ lv b q := fun q => lv_c ((r1 0 q (by decide) (by decide)).trans (hk' 0 q (by decide) (by decide) (by decide)))
    obtain ⟨sx, so, sg, sp, sq, sh⟩ := hc
    have hi : ∀ q j, q ≠ 11 → (d_ep (dp E 8 (9 + k) none) (9 + k)).2.1 q j = E.2.1 q j := fun q j h => epn_n h
    have hr : ∀ q j, q ≠ 8 → (d_ep (dp E 8 (9 + k) none) (9 + k)).2.2 q j = E.2.2 q j := fun q j h => dp_n h
    refine ⟨⟨sx.cong rfl (fun x => r1 6 x (by decide) (by decide)), fun x hx h0 => ?_, sg.cong rfl (fun g => r1 11 g (by decide) (by decide)) (fun g => r1 13 g (by decide) (by decide)), fun g hg h0 => ?_, ⟨?_, fun q hq => ?_, fun q hq => ?_⟩, fun i h13 => ?_, ?_⟩, ⟨?_, ?_, ⟨fun q i hq hi4 => ?_, fun q i hq hi4 h0 => ?_, fun q r i hq hr hi4 h0 e h2 => ?_, fun q y i hq hy hi4 h0 e => ?_, fun y i hy hi4 h0 e => ?_⟩, ⟨fun g i hg hi4 e => ?_, fun i hi4 e => ?_, fun i j hi4 hj e1 e2 e3 => ?_, fun i hi4 e => ?_, fun i hi4 => ?_⟩, ?_, ?_⟩, fun u => ?_⟩
    · rw [r1 6 x (by decide) (by decide)] at h0
      exact (so x hx h0).cong (fun q hq j => hi q j (by omega)) (fun q hq j => hr q j (by omega)) (fun q hq j => r1 q j (by omega) (by omega))
    · rw [r1 11 g (by decide) (by decide)] at h0 ⊢
      have hne : c 11 g - 1 ≠ 9 + k := fun e => hnp g (by omega)
      rw [rf1 _ hne, hi 0 _ (by decide), hi 1 _ (by decide), r1 12 g (by decide) (by decide)]
      exact sp g hg h0
    · rw [hi 12 _ (by decide), r1 4 0 (by decide) (by decide)]
      exact sq.1
    · rw [hi 6 _ (by decide), r1 0 q (by decide) (by decide)]
      exact sq.2.1 q hq
    · rw [r1 4 0 (by decide) (by decide)] at hq
      obtain ⟨q1, q2, q3, q4, q5, q6⟩ := sq.2.2 q hq
      have hq8 : q < 8 := by
        rw [hk' 4 0 (by decide) (by decide) (by decide)] at hq
        omega
      refine ⟨fun u => by rw [hi 7 _ (by decide), r1 1 q (by decide) (by decide)]; exact q1 u, by rw [hi 8 _ (by decide), r1 2 q (by decide) (by decide)]; exact q2, by rw [hi 9 _ (by decide), r1 3 q (by decide) (by decide)]; exact q3, by rw [hi 10 _ (by decide), hrbk]; exact q4, fun i => ?_, fun r h => by rw [hr _ _ (by omega), r1 5 _ (by decide) (by decide)]; exact q6 r h⟩
      have em : d_m (dp E 8 (9 + k) none) = d_m E := rfl
      have hm : q < d_m E := by
        unfold d_m
        rw [sq.1, nI_clamp (by have := vt.2.1; omega)]
        exact hq
      have ev : E.2.1 6 q = 4 → (d_ep (dp E 8 (9 + k) none) (9 + k)).2.1 11 q = clr (E.2.1 11 q) (9 + k) := fun cd => if_pos (c := 11 = 11 ∧ q < d_m (dp E 8 (9 + k) none) ∧ (dp E 8 (9 + k) none).2.1 6 q = 4) ⟨rfl, hm, cd⟩
      have ew : ¬ E.2.1 6 q = 4 → (d_ep (dp E 8 (9 + k) none) (9 + k)).2.1 11 q = E.2.1 11 q := fun cd => if_neg (c := 11 = 11 ∧ q < d_m (dp E 8 (9 + k) none) ∧ (dp E 8 (9 + k) none).2.1 6 q = 4) (fun u => cd u.2.2)
      rw [Bool.eq_iff_iff, b9]
      have h6q : E.2.1 6 q = 4 ↔ b 0 q = 4 := by
        rw [sq.2.1 q hq8, hk' 0 q (by decide) (by decide) (by decide)]
        have w : b 0 q ≤ 4 := hb.2 0 q (by decide)
        exact ⟨fun u => eqN (b 0 q) 4 u, fun u => by rw [u]; rfl⟩
      by_cases cd : E.2.1 6 q = 4
      · rw [ev cd]
        unfold clr
        rw [bb_clr _ (by omega), q5 i, Bool.and_eq_true, b9, Bool.not_eq_true', decide_eq_false_iff_not]
        constructor
        · rintro ⟨⟨g1, g2, g3⟩, g4⟩
          exact ⟨g1, g2, by rw [r20 q (i - 9) hq8 (by omega), if_neg (by omega)]; exact g3⟩
        · rintro ⟨g1, g2, g3⟩
          rw [r20 q (i - 9) hq8 (by omega)] at g3
          by_cases e : i - 9 = k
          · rw [if_pos e] at g3
            exact absurd rfl g3
          · rw [if_neg e] at g3
            exact ⟨⟨g1, g2, g3⟩, by omega⟩
      · rw [ew cd, q5 i, b9]
        have hlq : lv b q := by
          have h1 : 0 < b 0 q := by
            rw [hk' 4 0 (by decide) (by decide) (by decide)] at hq
            exact (hT.2.2.1 q hq8).mpr hq
          have h2 : ¬ b 0 q = 4 := fun u => cd (h6q.mpr u)
          have w : b 0 q ≤ 4 := hb.2 0 q (by decide)
          exact ⟨h1, by omega⟩
        constructor
        · rintro ⟨g1, g2, g3⟩
          refine ⟨g1, g2, ?_⟩
          rw [r20 q (i - 9) hq8 (by omega), if_neg]
          · exact g3
          · intro e
            rw [hk' 20 _ (by decide) (by decide) (by decide), e] at g3
            exact g3 (hlvn q hq8 hlq)
        · rintro ⟨g1, g2, g3⟩
          rw [r20 q (i - 9) hq8 (by omega)] at g3
          by_cases e : i - 9 = k
          · rw [if_pos e] at g3
            exact absurd rfl g3
          · rw [if_neg e] at g3
            exact ⟨g1, g2, g3⟩
    · show (if 8 = 8 ∧ i = 9 + k then none else E.2.2 8 i) = _
      by_cases e : i = 9 + k
      · rw [if_pos ⟨rfl, e⟩, e, rf2, if_neg (by decide)]
      · rw [if_neg (fun u => e u.2), rf1 i e, r1 17 _ (by decide) (by decide)]
        exact sh.1 i h13
    · rw [hi 12 _ (by decide), r1 18 0 (by decide) (by decide)]
      exact sh.2
    · exact vo.cong (fun q h j => r1 q j (by omega) (by omega))
    · exact vg.cong (fun q h j => r1 q j (by omega) (by omega))
    · rw [r1 19 _ (by decide) (by decide), hk' 19 _ (by decide) (by decide) (by decide), hlc, r20 q i hq hi4, hS.1 q i hq hi4]
      by_cases e : i = k
      · rw [if_pos e, e]
        exact ⟨fun u => absurd (hlvn q hq u.1) u.2, fun u => absurd rfl u.2⟩
      · rw [if_neg e, hk' 20 _ (by decide) (by decide) (by decide)]
    · rw [r20 q i hq hi4] at h0
      by_cases e : i = k
      · rw [if_pos e] at h0
        exact absurd rfl h0
      · rw [if_neg e] at h0
        rw [r15 i e, r1 0 q (by decide) (by decide)]
        exact vs.2.1 q i hq hi4 h0
    · have e3 : i ≠ k := fun w => by
        rw [w, r15k] at h2
        cases h2
      rw [r1 5 _ (by decide) (by decide)] at h0 e
      rw [r1 6 _ (by decide) (by decide)] at e
      rw [r15 i e3] at h2
      rw [r20 q i hq hi4, if_neg e3]
      exact vs.2.2.1 q r i hq hr hi4 h0 e h2
    · rw [r1 6 _ (by decide) (by decide)] at e
      rw [r1 21 _ (by decide) (by decide)] at h0
      have e3 : i ≠ k := fun w => hno y hy (by rw [← w]; exact e)
      rw [r20 q i hq hi4, if_neg e3]
      exact vs.2.2.2.1 q y i hq hy hi4 h0 e
    · rw [r1 6 _ (by decide) (by decide)] at e
      rw [r1 21 _ (by decide) (by decide)] at h0
      have e3 : i ≠ k := fun w => hno y hy (by rw [← w]; exact e)
      obtain ⟨q, g1, g2, g3⟩ := vs.2.2.2.2 y i hy hi4 h0 e
      exact ⟨q, g1, by rw [r1 0 q (by decide) (by decide)]; exact g2, by rw [r20 q i g1 hi4, if_neg e3]; exact g3⟩
    · rw [r1 11 g (by decide) (by decide)] at e
      have e3 : i ≠ k := fun w => hnp g (by rw [← w]; exact e)
      rw [r15 i e3, r1 16 i (by decide) (by decide), r1 12 g (by decide) (by decide), hk' 15 i (by decide) (by decide) (by decide), hk' 16 i (by decide) (by decide) (by decide), hk' 12 g (by decide) (by decide) (by decide)]
      exact hB.1 g i hg hi4 (by rw [← (hown g).resolve_left (by omega)]; exact e)
    · have e3 : i ≠ k := fun w => by
        rw [w, r15k] at e
        cases e
      rw [r15 i e3, hk' 15 i (by decide) (by decide) (by decide)] at e
      rw [r1 16 i (by decide) (by decide), hk' 16 i (by decide) (by decide) (by decide), hlc]
      exact hB.2.1 i hi4 e
    · have e4 : i ≠ k := fun w => by
        rw [w, r15k] at e1
        cases e1
      have e5 : j ≠ k := fun w => by
        rw [w, r15k] at e2
        cases e2
      rw [r15 i e4, hk' 15 i (by decide) (by decide) (by decide)] at e1
      rw [r15 j e5, hk' 15 j (by decide) (by decide) (by decide)] at e2
      rw [r1 16 i (by decide) (by decide), hk' 16 i (by decide) (by decide) (by decide), r1 16 j (by decide) (by decide), hk' 16 j (by decide) (by decide) (by decide)] at e3
      exact hB.2.2.1 i j hi4 hj e1 e2 e3
    · have e3 : i ≠ k := fun w => by
        rw [w, r15k] at e
        cases e
      rw [r15 i e3, hk' 15 i (by decide) (by decide) (by decide)] at e
      rw [r1 17 i (by decide) (by decide), hk' 17 i (by decide) (by decide) (by decide), r1 6 _ (by decide) (by decide)]
      exact vb4 i hi4 e3 e
    · rw [r1 18 0 (by decide) (by decide), hk' 18 0 (by decide) (by decide) (by decide), hB.2.2.2.2 i hi4]
      by_cases e : i = k
      · rw [e, r15k, ‹b 15 k = 2 ∧ _›.1]
        exact ⟨fun u => (by cases u), fun u => (by cases u)⟩
      · rw [r15 i e, hk' 15 i (by decide) (by decide) (by decide)]
    · exact vt.cong (fun q h j => r1 q j (by omega) (by omega))
    · refine vu.le (fun q h j => r1 q j (by omega) (by omega)) (fun n _ => ow_le3 (fun g _ => Or.inr (r1 11 g (by decide) (by decide))) (fun g _ => r1 12 g (by decide) (by decide)) (fun g _ h0 => ?_) (fun j => ?_) n)
      · rw [r1 11 g (by decide) (by decide)] at h0 ⊢
        exact rf1 _ (fun e => hnp g (by omega))
      · rw [bu_n (by decide)]
        unfold py0
        split
        · exact Or.inl rfl
        · exact Or.inr rfl
    · rw [r15k] at u
      cases u
  · have eD : gst D k = D := by
      unfold gst
      rw [if_neg (fun u => c (hcond.mp u))]
    have eb : vn1 b k = b := if_neg c
    rw [eD, eb]
    refine ⟨hs, hv, fun h2 => ?_⟩
    have hn : ndb b k = true := by
      cases t : ndb b k with
      | true => rfl
      | false => exact absurd ⟨h2, t⟩ c
    rcases ndb_t.mp hn with w | ⟨p, w1, w2, w3⟩
    · obtain ⟨y, y1, y2, y3⟩ := nmb_t.mp w
      obtain ⟨p, g1, g2, g3⟩ := hS.2.2.2.2 y k y1 hk y2 (by omega)
      exact ⟨p, g1, g3⟩
    · exact ⟨p, w1, ((hS.1 p k w1 hk).mp w3).2⟩
end SX
