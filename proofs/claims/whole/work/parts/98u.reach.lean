/-! CLASS AND REFERENCE: a collection frees the same objects -/
section SU
variable {D D1 : ph_D} {b b1 : rB} {L : Nat → Int32} {pg ob : Nat → Nat} {N n p h x y g k : Nat}
theorem sO1.cong (h : sO1 D b L pg ob x) (hi : ∀ k, k = 3 ∨ k = 4 ∨ k = 5 → ∀ j, D1.2.1 k j = D.2.1 k j) (hr : ∀ k, k < 4 → ∀ j, D1.2.2 k j = D.2.2 k j) (hb : ∀ k, k = 7 ∨ k = 9 ∨ k = 10 ∨ k = 21 → ∀ j, b1 k j = b k j) : sO1 D1 b1 L pg ob x := by
  obtain ⟨h1, h2, h3, h4, h5⟩ := h
  refine ⟨?_, ?_, ?_, fun i => ?_, fun f hf => ?_⟩
  · rw [hr 0 (by omega), hb 9 (by omega)]
    exact h1
  · rw [hi 3 (by omega), hb 7 (by omega)]
    exact h2
  · rw [hi 4 (by omega)]
    exact h3
  · rw [hi 5 (by omega), hb 21 (by omega)]
    exact h4 i
  · rw [hr (1 + f) (by omega), hb 10 (by omega)]
    exact h5 f hf
theorem sX.cong (h : sX D b ob) (h1 : D1.1.2 = D.1.2) (h6 : ∀ x, b1 6 x = b 6 x) : sX D1 b1 ob := by
  have e : lvs b1 = lvs b := by
    unfold lvs
    refine List.filter_congr (fun x _ => ?_)
    rw [h6]
  refine ⟨by rw [h1, e]; exact h.1, fun x y hx hy g1 g2 g3 => ?_⟩
  rw [h6] at g1 g2
  exact h.2 x y hx hy g1 g2 g3
theorem sG.cong (h : sG D b pg) (h1 : D1.1.1 = D.1.1) (h11 : ∀ g, b1 11 g = b 11 g) (h13 : ∀ g, b1 13 g = b 13 g) : sG D1 b1 pg := by
  obtain ⟨⟨so, g1, g2, g3⟩, g4⟩ := h
  refine ⟨⟨so, by rw [h1]; exact g1, g2.imp (fun {a c} u => by rw [h13, h13]; exact u), fun g => by rw [h11]; exact g3 g⟩, fun g q hg hq u1 u2 u3 => ?_⟩
  rw [h11] at u1 u2
  exact g4 g q hg hq u1 u2 u3
theorem sP.cong (h : sP D b pg) (h0 : ∀ j, D1.2.1 0 j = D.2.1 0 j) (h1 : ∀ j, D1.2.1 1 j = D.2.1 1 j) (hb : ∀ k, k = 11 ∨ k = 12 ∨ k = 15 → ∀ j, b1 k j = b k j) : sP D1 b1 pg := by
  intro g hg u
  rw [hb 11 (by omega)] at u
  rw [h0, h1, hb 11 (by omega), hb 12 (by omega), fzb_c (fun k _ => hb 15 (by omega) k)]
  exact h g hg u
theorem sQ1.cong (h : sQ1 D b ob p) (hi : ∀ k, 7 ≤ k ∧ k ≤ 11 → ∀ j, D1.2.1 k j = D.2.1 k j) (hr : ∀ k, 4 ≤ k ∧ k < 8 → ∀ j, D1.2.2 k j = D.2.2 k j) (hb : ∀ k, k = 1 ∨ k = 2 ∨ k = 3 ∨ k = 5 ∨ k = 15 ∨ k = 16 ∨ k = 20 → ∀ j, b1 k j = b k j) : sQ1 D1 b1 ob p := by
  obtain ⟨h1, h2, h3, h4, h5, h6⟩ := h
  refine ⟨fun u => ?_, ?_, ?_, ?_, fun i => ?_, fun r h => ?_⟩
  · rw [hi 7 (by omega), hb 1 (by omega)]
    exact h1 u
  · rw [hi 8 (by omega), hb 2 (by omega)]
    exact h2
  · rw [hi 9 (by omega), hb 3 (by omega)]
    exact h3
  · rw [hi 10 (by omega), rbk_c (fun k _ => ⟨hb 15 (by omega) k, hb 16 (by omega) k⟩) p 4 (by omega)]
    exact h4
  · rw [hi 11 (by omega), hb 20 (by omega)]
    exact h5 i
  · rw [hr (4 + r) (by omega), hb 5 (by omega)]
    exact h6 r h
theorem sQ.cong (h : sQ D b ob) (hi : ∀ k, (6 ≤ k ∧ k ≤ 11) ∨ k = 12 → ∀ j, (k = 12 → j = 0) → D1.2.1 k j = D.2.1 k j) (hr : ∀ k, 4 ≤ k ∧ k < 8 → ∀ j, D1.2.2 k j = D.2.2 k j) (hb : ∀ k, k < 6 ∨ k = 15 ∨ k = 16 ∨ k = 20 → ∀ j, b1 k j = b k j) : sQ D1 b1 ob := by
  refine ⟨?_, fun p hp => ?_, fun p hp => ?_⟩
  · rw [hi 12 (by omega) 0 (fun _ => rfl), hb 4 (by omega)]
    exact h.1
  · rw [hi 6 (by omega) p (fun u => by omega), hb 0 (by omega)]
    exact h.2.1 p hp
  · rw [hb 4 (by omega)] at hp
    exact (h.2.2 p hp).cong (fun k hk j => hi k (by omega) j (fun u => by omega)) hr (fun k hk j => hb k (by omega) j)
theorem sH.cong (h : sH D b ob) (h1 : D1.2.1 12 1 = D.2.1 12 1) (hr : ∀ j, D1.2.2 8 j = D.2.2 8 j) (hb : ∀ k, k = 15 ∨ k = 17 ∨ k = 18 → ∀ j, b1 k j = b k j) : sH D1 b1 ob := by
  refine ⟨fun i hi => ?_, ?_⟩
  · rw [hr, fzb_c (fun k _ => hb 15 (by omega) k), hb 17 (by omega)]
    exact h.1 i hi
  · rw [h1, hb 18 (by omega)]
    exact h.2
/-- items alone change -/
theorem sR.itc (hs : sR D b L pg ob) (h1 : D1.1 = D.1) (h2 : ∀ k j, D1.2.2 k j = D.2.2 k j) (h3 : ∀ k j, k ≠ 5 → D1.2.1 k j = D.2.1 k j) (h4 : ∀ k j, k ≠ 21 → b1 k j = b k j) (h5 : ∀ x, x < 60 → 0 < b 6 x → ∀ i, bb_t (D1.2.1 5 (ob x)) i = (decide (i < 13) && !decide (b1 21 (60 * i + x) = 0))) : sR D1 b1 L pg ob := by
  obtain ⟨sx, so, sg, sp, sq, sh⟩ := hs
  refine ⟨sx.cong (by rw [h1]) (fun x => h4 6 x (by decide)), fun x hx h0 => ?_, sg.cong (by rw [h1]) (fun g => h4 11 g (by decide)) (fun g => h4 13 g (by decide)), sp.cong (fun j => h3 0 j (by decide)) (fun j => h3 1 j (by decide)) (fun k hk j => h4 k j (by omega)), sq.cong (fun k hk j _ => h3 k j (by omega)) (fun k _ j => h2 k j) (fun k hk j => h4 k j (by omega)), sh.cong (h3 12 1 (by decide)) (fun j => h2 8 j) (fun k hk j => h4 k j (by omega))⟩
  rw [h4 6 x (by decide)] at h0
  obtain ⟨q1, q2, q3, q4, q5⟩ := so x hx h0
  refine ⟨by rw [h2, h4 9 x (by decide)]; exact q1, by rw [h3 3 _ (by decide), h4 7 x (by decide)]; exact q2, by rw [h3 4 _ (by decide)]; exact q3, h5 x hx h0, fun f hf => by rw [h2, h4 10 _ (by decide)]; exact q5 f hf⟩
theorem rtb_t : rtb b h x = true ↔ (∃ p r, p < 8 ∧ r < 4 ∧ lv b p ∧ b 5 (4 * p + r) = x + 1) ∨ ∃ g, g < 13 ∧ g ≠ h ∧ b 21 (60 * g + x) ≠ 0 := by
  unfold rtb
  rw [Bool.or_eq_true, List.any_eq_true, List.any_eq_true]
  constructor
  · rintro (⟨k, h1, h2⟩ | ⟨g, h1, h2⟩)
    · have h1 := List.mem_range.mp h1
      rw [Bool.and_eq_true, lvb_t, decide_eq_true_eq] at h2
      exact Or.inl ⟨k / 4, k % 4, by omega, Nat.mod_lt _ (by decide), h2.1, by rw [show 4 * (k / 4) + k % 4 = k by omega]; exact h2.2⟩
    · rw [Bool.and_eq_true, Bool.not_eq_true', decide_eq_false_iff_not, Bool.not_eq_true', decide_eq_false_iff_not] at h2
      exact Or.inr ⟨g, List.mem_range.mp h1, h2.1, h2.2⟩
  · rintro (⟨p, r, h1, h2, h3, h4⟩ | ⟨g, h1, h2, h3⟩)
    · refine Or.inl ⟨4 * p + r, List.mem_range.mpr (by omega), ?_⟩
      rw [Bool.and_eq_true, lvb_t, decide_eq_true_eq, show (4 * p + r) / 4 = p by omega]
      exact ⟨h3, h4⟩
    · refine Or.inr ⟨g, List.mem_range.mpr h1, ?_⟩
      rw [Bool.and_eq_true, Bool.not_eq_true', decide_eq_false_iff_not, Bool.not_eq_true', decide_eq_false_iff_not]
      exact ⟨h2, h3⟩
theorem sR.rt (hs : sR D b L pg ob) (hv : iV b) (hb : rb N b) (hx : x < 60) (h0 : 0 < b 6 x) (h6 : b 6 x = h + 1) : d_Rt D (ob x) ↔ rtb b h x = true := by
  have hT := hv.2.2.2.2.1
  have h48 := hT.2.1
  rw [rtb_t]
  unfold d_Rt
  rw [hs.md hT]
  constructor
  · rintro (⟨p, r, h1, h2, h3⟩ | h1)
    · rw [(hs.2.2.2.2.1.2.2 p h1).2.2.2.2.2 r h2, rf_some] at h3
      obtain ⟨y, e1, e2⟩ := h3
      have h5 : b 5 (4 * p + r) ≤ 60 := hb.2 5 _ (by decide)
      have hy := hv.1.1 p r (by omega) h2 (by omega)
      rw [e1] at hy
      have e3 := hs.1.2 y x (by omega) hx hy h0 e2
      subst e3
      exact Or.inl ⟨p, r, by omega, h2, Classical.byContradiction (fun u => by
        have := hv.1.2.2.2.2 p r (by omega) h2 u
        omega), e1⟩
    · have : ∃ i, bb_t (D.2.1 5 (ob x)) i = true := by
        apply Classical.byContradiction
        intro u
        apply h1
        refine bb_ext (fun i _ => ?_)
        rw [bb_0]
        exact Bool.eq_false_iff.mpr (fun w => u ⟨i, w⟩)
      obtain ⟨i, hi⟩ := this
      rw [(hs.2.1 x hx h0).2.2.2.1 i, Bool.and_eq_true, decide_eq_true_eq, Bool.not_eq_true', decide_eq_false_iff_not] at hi
      refine Or.inr ⟨i, hi.1, fun e => ?_, hi.2⟩
      have := (hv.1.2.2.2.1 i x hi.1 hx hi.2).2.1
      omega
  · rintro (⟨p, r, h1, h2, h3, h4⟩ | ⟨g, h1, h2, h3⟩)
    · have hm := lv_made hT h1 h3
      refine Or.inl ⟨p, r, hm, h2, ?_⟩
      rw [(hs.2.2.2.2.1.2.2 p hm).2.2.2.2.2 r h2, h4]
      rfl
    · refine Or.inr (fun e => ?_)
      have := (hs.2.1 x hx h0).2.2.2.1 g
      rw [e, bb_0, decide_eq_true h1, decide_eq_false h3] at this
      cases this
theorem sR.re (hs : sR D b L pg ob) (hv : iV b) (hb : rb N b) (hh : h < 13) (hx : x < 60) (h6 : b 6 x = h + 1) : d_Re D (nI h) (ob x) ↔ rR b h x := by
  constructor
  · intro hd
    have := hd (fun a => ∃ y, y < 60 ∧ b 6 y = h + 1 ∧ ob y = a ∧ rR b h y) (fun a h1 h2 h3 => ?_) (fun a f c h1 h2 h3 h4 h5 => ?_)
    · obtain ⟨y, h1, h2, h3, h4⟩ := this
      rw [← hs.1.2 y x h1 hx (by omega) (by omega) h3]
      exact h4
    · obtain ⟨y, g1, g2, g3⟩ := hs.1.mem.mp h1
      subst g3
      have g4 := (hs.hq hv.2.1 hb g1 g2 hh).mp h2
      exact ⟨y, g1, g4, rfl, fun P p1 _ => p1 y g1 g4 ((hs.rt hv hb g1 g2 g4).mp h3)⟩
    · obtain ⟨y, g1, g2, g3, g4⟩ := h2
      subst g3
      rw [(hs.2.1 y g1 (by omega)).2.2.2.2 f h3, rf_some] at h4
      obtain ⟨z, e1, e2⟩ := h4
      subst e2
      have h10 : b 10 (3 * y + f) ≤ 60 := hb.2 10 _ (by decide)
      have hz := hv.1.2.1 y f g1 (by omega) h3 (by omega)
      rw [e1] at hz
      have g5 := (hs.hq hv.2.1 hb (show z < 60 by omega) hz hh).mp h5
      exact ⟨z, by omega, g5, rfl, fun P p1 p2 => p2 y f z g1 h3 (g4 P p1 p2) e1 g5⟩
  · intro hr
    refine (hr (fun y => y < 60 ∧ b 6 y = h + 1 ∧ d_Re D (nI h) (ob y)) (fun y h1 h2 h3 => ⟨h1, h2, ?_⟩) (fun y f z h1 h2 h3 h4 h5 => ?_)).2.2
    · intro P p1 _
      exact p1 (ob y) (hs.1.obm h1 (by omega)) ((hs.hq hv.2.1 hb h1 (by omega) hh).mpr h2) ((hs.rt hv hb h1 (by omega) h2).mpr h3)
    · have h10 : b 10 (3 * y + f) ≤ 60 := hb.2 10 _ (by decide)
      refine ⟨by omega, h5, fun P p1 p2 => p2 (ob y) f (ob z) (hs.1.obm h1 (by omega)) (h3.2.2 P p1 p2) h2 ?_ ((hs.hq hv.2.1 hb (show z < 60 by omega) (by omega) hh).mpr h5)⟩
      rw [(hs.2.1 y h1 (by omega)).2.2.2.2 f h2, h4]
      rfl
theorem unr_t {m : Nat → Nat} : unr b m h x = true ↔ b 6 x = h + 1 ∧ m x = 0 := by
  unfold unr
  rw [Bool.and_eq_true, decide_eq_true_eq, decide_eq_true_eq]
/-- who is reached: the same in both -/
theorem sR.rs (hs : sR D b L pg ob) (hv : iV b) (hb : rb N b) (hh : h ≤ 8) {m : Nat → Nat} (hm : rmk b h m) {rs : List Nat} (hr : ∀ a, a ∈ rs ↔ a ∈ D.1.2 ∧ d_h D a = nI h ∧ d_Re D (nI h) a) (hx : x < 60) (h0 : 0 < b 6 x) : ob x ∈ rs ↔ b 6 x = h + 1 ∧ m x ≠ 0 := by
  rw [hr]
  constructor
  · rintro ⟨_, h2, h3⟩
    have h6 := (hs.hq hv.2.1 hb hx h0 (by omega)).mp h2
    exact ⟨h6, (hm.2 x hx).mpr ⟨h6, (hs.re hv hb (by omega) hx h6).mp h3⟩⟩
  · rintro ⟨h6, h2⟩
    exact ⟨hs.1.obm hx h0, (hs.hq hv.2.1 hb hx h0 (by omega)).mpr h6, (hs.re hv hb (by omega) hx h6).mpr ((hm.2 x hx).mp h2).2⟩
theorem sR.kpe (hs : sR D b L pg ob) (hv : iV b) (hb : rb N b) (hh : h ≤ 8) {m : Nat → Nat} (hm : rmk b h m) {rs : List Nat} (hr : ∀ a, a ∈ rs ↔ a ∈ D.1.2 ∧ d_h D a = nI h ∧ d_Re D (nI h) a) (hx : x < 60) (h0 : 0 < b 6 x) : d_kp D (nI h) rs (ob x) = !unr b m h x := by
  unfold d_kp
  congr 1
  rw [Bool.eq_iff_iff, Bool.and_eq_true, decide_eq_true_eq, Bool.not_eq_true', decide_eq_false_iff_not, hs.hq hv.2.1 hb hx h0 (by omega), hs.rs hv hb hh hm hr hx h0, unr_t]
  constructor
  · rintro ⟨h1, h2⟩
    exact ⟨h1, Decidable.byContradiction (fun u => h2 ⟨h1, u⟩)⟩
  · rintro ⟨h1, h2⟩
    exact ⟨h1, fun u => u.2 h2⟩
/-- nothing that stays names what goes -/
theorem rmk.c1 (hO : vO b) (hb : rb N b) {m : Nat → Nat} (hm : rmk b h m) : ∀ p r, p < 8 → r < 4 → 0 < b 5 (4 * p + r) → unr b m h (b 5 (4 * p + r) - 1) = false := by
  intro p r hp hr h0
  refine Bool.eq_false_iff.mpr (fun u => ?_)
  obtain ⟨h1, h2⟩ := unr_t.mp u
  have h5 : b 5 (4 * p + r) ≤ 60 := hb.2 5 _ (by decide)
  have hl : lv b p := Classical.byContradiction (fun w => by
    have := hO.2.2.2.2 p r hp hr w
    omega)
  exact (hm.2 _ (by omega)).mpr ⟨h1, fun P p1 _ => p1 _ (by omega) h1 (rtb_t.mpr (Or.inl ⟨p, r, hp, hr, hl, by omega⟩))⟩ h2
theorem rmk.c2 (hO : vO b) (hb : rb N b) {m : Nat → Nat} (hm : rmk b h m) : ∀ x f, x < 60 → 0 < b 6 x → unr b m h x = false → f < 3 → 0 < b 10 (3 * x + f) → unr b m h (b 10 (3 * x + f) - 1) = false := by
  intro x f hx h0 hu hf hf0
  refine Bool.eq_false_iff.mpr (fun u => ?_)
  obtain ⟨h1, h2⟩ := unr_t.mp u
  have h10 : b 10 (3 * x + f) ≤ 60 := hb.2 10 _ (by decide)
  have h6 : b 6 x ≤ 13 := hb.2 6 x (by decide)
  apply (hm.2 _ (by omega)).mpr ⟨h1, ?_⟩ h2
  by_cases e : b 6 x = h + 1
  · have hmx : m x ≠ 0 := fun w => by
      rw [unr_t.mpr ⟨e, w⟩] at hu
      cases hu
    have hrx := ((hm.2 x hx).mp hmx).2
    exact fun P p1 p2 => p2 x f _ hx hf (hrx P p1 p2) (by omega) h1
  · have hi := hO.2.2.1 x f hx h0 hf hf0 (by omega)
    exact fun P p1 _ => p1 _ (by omega) h1 (rtb_t.mpr (Or.inr ⟨b 6 x - 1, by omega, by omega, hi⟩))
end SU
