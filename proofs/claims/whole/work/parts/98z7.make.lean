/-! CLASS AND REFERENCE: make -/
section SZ7
variable {D D1 D2 : ph_D} {b b1 b2 c f : rB} {L : Nat → Int32} {pg ob U T : Nat → Nat} {N n p h x y g k r v u s q m a d : Nat} {t : Int32}
theorem sR.ds (hs : sR D b L pg ob) (hG : vG b) (hb : rb N b) (hg : g < 24) (h0 : 0 < b 11 g) : d_s D (pg g) D.1.2 = nI (ful b g) := by
  rw [d_s_perm (pg g) hs.1.1]
  have main : ∀ i, i ≤ 60 → d_s D (pg g) (((List.range i).filter (fun x => decide (0 < b 6 x))).map ob) = nI (sm (fun x => if 0 < b 6 x ∧ b 9 x = g then b 7 x else 0) i) := by
    intro i
    induction i with
    | zero => intro _; rfl
    | succ i ih =>
      intro hi
      rw [List.range_succ, List.filter_append, List.map_append, d_s_app, ih (by omega)]
      show _ = nI (sm (fun x => if 0 < b 6 x ∧ b 9 x = g then b 7 x else 0) i + if 0 < b 6 i ∧ b 9 i = g then b 7 i else 0)
      rw [← nI_add]
      congr 1
      rcases Nat.eq_zero_or_pos (b 6 i) with e | e
      · rw [List.filter_cons_of_neg (by rw [decide_eq_false (show ¬ 0 < b 6 i by omega)]; decide), List.filter_nil, List.map_nil, if_neg (fun w => by omega)]
        rfl
      · rw [List.filter_cons_of_pos (by rw [decide_eq_true e]), List.filter_nil, List.map_cons, List.map_nil]
        obtain ⟨q1, q2, _⟩ := hs.2.1 i (by omega) e
        show (if D.2.2 0 (ob i) = some (pg g) then D.2.1 3 (ob i) + 0 else 0) = _
        rw [q1, q2, Int32.add_zero]
        have h9 : b 9 i ≤ 23 := hb.2 9 i (by decide)
        by_cases c9 : b 9 i = g
        · rw [if_pos (by rw [c9]), if_pos ⟨e, c9⟩]
        · rw [if_neg (fun w => c9 (hs.2.2.1.2 (b 9 i) g (by omega) hg (by rw [(hG.1 i (by omega) e).1]; exact e) h0 (Option.some.inj w))), if_neg (fun w => c9 w.2)]
          rfl
  exact main 60 (Nat.le_refl 60)
theorem sR.fre (hs : sR D b L pg ob) (hG : vG b) (hb : rb N b) (hA : d_A D) (hg : g < 24) (h0 : 0 < b 11 g) (hs16 : s ≤ 16) : ¬ D.2.1 2 (pg g) < nI s ↔ ful b g + s ≤ 16 := by
  have hac := hA.2.1 (pg g) (hs.2.2.1.mem.mpr ⟨g, hg, h0, rfl⟩)
  rw [hs.ds hG hb hg h0] at hac
  have hf := ful_le hb g 60 (Nat.le_refl 60)
  have hf : ful b g ≤ 960 := hf
  have e : D.2.1 2 (pg g) = nI 16 - nI (ful b g) := by
    rw [show nI 16 = D.2.1 2 (pg g) + nI (ful b g) from hac.symm]
    exact (Int32.add_sub_cancel _ _).symm
  have e16 : (nI 16).toInt = 16 := nI_toInt (by omega)
  have ef : (nI (ful b g)).toInt = (ful b g : Int) := nI_toInt (by omega)
  have es : (nI s).toInt = (s : Int) := nI_toInt (by omega)
  have ed : (nI 16 - nI (ful b g)).toInt = 16 - (ful b g : Int) := by
    rw [Int32.toInt_sub, e16, ef]
    rw [Int.bmod_eq_of_le (by omega) (by omega)]
  rw [e, Int32.lt_iff_toInt_lt, ed, es]
  omega
theorem sR.fp (hs : sR D b L pg ob) (hG : vG b) (hb : rb N b) (hA : d_A D) (hs16 : s ≤ 16) (hh : h < 13) (hhm : d_hm D p = nI h) : d_fp D p (nI s) = (mnP b (ftP b h s) 24).map pg := by
  obtain ⟨⟨so, l1, l2, l3⟩, l4⟩ := hs.2.2.1
  have hQ : ∀ g, g ∈ so → ((fun a => decide (D.2.1 0 a = d_hm D p) && !decide (D.2.1 2 a < nI s)) ∘ pg) g = ftP b h s g := fun g hg => by
    obtain ⟨g1, g2⟩ := (l3 g).mp hg
    have w : b 11 g ≤ 13 := hb.2 11 g (by decide)
    show (decide (D.2.1 0 (pg g) = d_hm D p) && !decide (D.2.1 2 (pg g) < nI s)) = (decide (b 11 g = h + 1) && decide (ful b g + s ≤ 16))
    congr 1
    · rw [Bool.eq_iff_iff, decide_eq_true_eq, decide_eq_true_eq, (hs.2.2.2.1 g g1 g2).1, hhm, nI_eq (by omega) (by omega)]
      omega
    · rw [Bool.eq_iff_iff, Bool.not_eq_true', decide_eq_false_iff_not, decide_eq_true_eq]
      exact hs.fre hG hb hA g1 g2 hs16
  unfold d_fp
  rw [l1, List.find?_map]
  congr 1
  cases e : mnP b (ftP b h s) 24 with
  | none =>
    rw [List.find?_eq_none]
    intro g hg w
    rw [hQ g hg, mnP_none e g ((l3 g).mp hg).1] at w
    cases w
  | some g0 =>
    obtain ⟨m1, m2, m3⟩ := mnP_some e
    have hown : ∀ g, ftP b h s g = true → 0 < b 11 g := fun g w => by
      unfold ftP at w
      rw [Bool.and_eq_true, decide_eq_true_eq] at w
      omega
    have hg0 : g0 ∈ so := (l3 g0).mpr ⟨m1, hown g0 m2⟩
    cases e2 : so.find? ((fun a => decide (D.2.1 0 a = d_hm D p) && !decide (D.2.1 2 a < nI s)) ∘ pg) with
    | none =>
      rw [List.find?_eq_none] at e2
      exact absurd (by rw [hQ g0 hg0]; exact m2) (e2 g0 hg0)
    | some g1 =>
      obtain ⟨h1, as, bs, h2, h3⟩ := List.find?_eq_some_iff_append.mp e2
      have hg1 : g1 ∈ so := List.mem_of_find?_eq_some e2
      rw [hQ g1 hg1] at h1
      congr 1
      rw [h2] at hg0 l2
      rcases List.mem_append.mp hg0 with w | w
      · have hw : g0 ∈ so := by
          rw [h2]
          exact hg0
        have := h3 g0 w
        rw [hQ g0 hw, m2] at this
        cases this
      · rcases List.mem_cons.mp w with w | w
        · exact w.symm
        · have hp := (List.pairwise_append.mp l2).2.1
          have hlt := (List.pairwise_cons.mp hp).1 g0 w
          have := m3 g1 ((l3 g1).mp hg1).1 h1
          omega
theorem sR.kmd (hs : sR D b L pg ob) (hb : rb N b) (hp : p < 8) (hl : lv b p) : (D.2.1 6 p = 2 ∨ D.2.1 6 p = 3) ↔ 2 ≤ b 0 p := by
  rw [hs.2.2.2.2.1.2.1 p hp]
  have w : b 0 p ≤ 4 := hb.2 0 p (by decide)
  have := hl.2
  constructor
  · rintro (e | e)
    · have := eqN (b 0 p) 2 e
      omega
    · have := eqN (b 0 p) 3 e
      omega
  · intro e
    by_cases c2 : b 0 p = 2
    · exact Or.inl (by rw [c2]; rfl)
    · exact Or.inr (by rw [show b 0 p = 3 by omega]; rfl)
theorem sR.hme (hs : sR D b L pg ob) (hT : vT b) (hb : rb N b) (hp : p < 8) (hl : lv b p) : d_hm D p = nI (rhm b p) ∧ d_pm D p = rnm b p ∧ d_cn D p = rcn b p := by
  have hm := lv_made hT hp hl
  have hk := hs.kmd hb hp hl
  have h10 := (hs.2.2.2.2.1.2.2 p hm).2.2.2.1
  have e1 : d_hm D p = nI (rhm b p) := by
    unfold d_hm rhm
    by_cases c2 : 2 ≤ b 0 p
    · rw [if_pos (hk.mpr c2), if_pos c2]
      rfl
    · rw [if_neg (fun w => c2 (hk.mp w)), if_neg c2, h10]
      rcases rbk_or b p 4 with w | ⟨i, w1, w2, w3, w4⟩
      · rw [if_pos w, if_pos rfl, w]
      · rw [if_neg (show ¬ rbk b p 4 = p by omega), if_neg (fun z => m1_ne (by omega) z.symm)]
  refine ⟨e1, ?_, ?_⟩
  · unfold d_pm
    rw [e1]
    rcases rhm_or b p with ⟨c1, c2, c3⟩ | ⟨c1, c2, c3⟩
    · rw [c2, c3]
      exact if_pos rfl
    · rw [c2]
      refine if_neg (fun w => ?_)
      have hlt := rhm_lt b p hp
      have : rhm b p = 8 := eqN (rhm b p) 8 w
      rcases c3 with z | ⟨i, _, z, _⟩ <;> omega
  · unfold d_cn rcn
    by_cases c2 : 2 ≤ b 0 p
    · rw [if_pos (hk.mpr c2), if_pos c2]
    · rw [if_neg (fun w => c2 (hk.mp w)), if_neg c2]
theorem i1le {a : Int32} : ¬ a < 1 ↔ 1 ≤ a := by
  rw [Int32.lt_iff_toInt_lt, Int32.le_iff_toInt_le]
  omega
/-- class and reference put the same object -/
theorem sR.mk (hs : sR D b L pg ob) (hv : iV b) (hR : vR b) (hF : vF b) (hb : rb N b) (hN : N + 1 < 1000000000) (hA : d_A D) (hp : p < 8) (hl : lv b p) (hr : r < 4) (hs1 : 1 ≤ s) (hs16 : s ≤ 16) (hlen : D.1.2.length < 60) (hd : d_mks D p r (nI s) t D2) (hf : fnd b (rhm b p) (rnm b p) s c g) (hx : x < 60) (h0 : c 6 x = 0) :
    ∃ pg1 ob1, sR D2 (rnw c x p r (rhm b p) s g) (lu L x t) pg1 ob1 ∧ iV (rnw c x p r (rhm b p) s g) ∧ vR (rnw c x p r (rhm b p) s g) ∧ vF (rnw c x p r (rhm b p) s g) ∧ d_A D2 := by
  have hT := hv.2.2.2.2.1
  have hm := lv_made hT hp hl
  have h48 := hT.2.1
  obtain ⟨e1, e2, e3⟩ := hs.hme hT hb hp hl
  have hlt := rhm_lt b p hp
  have hfp := hs.fp (s := s) hv.2.1 hb hA hs16 hlt e1
  obtain ⟨ga, q, hq, hd⟩ := hd
  have hO := hv.1
  have hhc : rhm b p = 8 ∨ rhm b p = p ∨ ∃ k, k < 4 ∧ rhm b p = 9 + k ∧ b 15 k = 1 ∧ b 16 k = p := by
    rcases rhm_or b p with ⟨_, c2, _⟩ | ⟨_, _, c3 | c3⟩
    · exact Or.inl c2
    · exact Or.inr (Or.inl c3)
    · exact Or.inr (Or.inr c3)
  have hfz : fzb b (rhm b p) = false := Bool.eq_false_iff.mpr (fun w => by
    obtain ⟨w1, w2, w3⟩ := fzb_t.mp w
    rcases hhc with z | z | ⟨k, k1, k2, k3, k4⟩
    · omega
    · omega
    · rw [show rhm b p - 9 = k by omega] at w3
      omega)
  have hn8 : rnm b p < 8 := by
    unfold rnm
    split <;> omega
  have hn0 : rnm b p = 0 ∨ lv b (rnm b p) := by
    rcases rhm_or b p with ⟨_, _, c3⟩ | ⟨_, c2, _⟩
    · exact Or.inl c3
    · exact Or.inr (by rw [c2]; exact hl)
  have hnm : 0 < b 0 (rnm b p) := by
    rcases hn0 with z | z
    · rw [z]
      exact (hT.2.2.1 0 (by omega)).mpr hT.1
    · exact z.1
  have hnk : ∀ k, k < 4 → rhm b p = 9 + k → rnm b p = b 16 k := fun k hk z => by
    rcases rhm_or b p with ⟨_, c2, _⟩ | ⟨_, c2, c3 | ⟨i, i1, i2, i3, i4⟩⟩
    · omega
    · omega
    · rw [c2, show k = i by omega, i4]
  have o4 : ∀ y, y < 60 → b 6 y = 0 → ∀ i, i < 13 → b 21 (60 * i + y) = 0 := fun y hy hy0 i hi => Classical.byContradiction (fun w => by
    have := (hO.2.2.2.1 i y hi hy w).1
    omega)
  have o5 : ∀ k, k < 4 → b 15 k = 2 → 0 < b 6 (b 17 k) := fun k hk w => by
    have := hv.2.2.2.1.2.2.2.1 k hk w
    omega
  rcases hf with ⟨m1, m2⟩ | ⟨m1, U, T, m2, m3, m4, m5, m6, m7, m8⟩
  · subst m2
    rw [m1] at hfp
    rcases hd with ⟨d1, d2⟩ | ⟨d1, _⟩
    · rw [hfp] at d1
      have eg : pg g = ga := Option.some.inj d1
      subst eg
      obtain ⟨f1, f2, _⟩ := mnP_some m1
      have fo : c 11 g = rhm c p + 1 := by
        unfold ftP at f2
        rw [Bool.and_eq_true, decide_eq_true_eq] at f2
        exact f2.1
      have hgm : pg g ∈ D.1.1 := hs.2.2.1.mem.mpr ⟨g, f1, by omega, rfl⟩
      have h1 := hs.nwo (p := p) (r := r) (h := rhm c p) (s := s) (g := g) hb h48 hp hr hx h0 hq hO.1 hO.2.1 (o4 x hx h0) o5 t
      have hu : vU (rnw c x p r (rhm c p) s g) := hv.2.2.2.2.2.le (fun k hk j => by
        by_cases z : k = 0 ∨ k = 1 ∨ k = 2 ∨ k = 3
        · exact rnw_n (by omega) (by omega) (by omega) (by omega) (by omega)
        · omega) (fun n _ => Nat.le_refl _)
      obtain ⟨v1, v2⟩ := iV_new (f := rnw c x p r (rhm c p) s g) (h := rhm c p) hv hR hb hp hl hr hx h0 hs1 f1 (Or.inr fo) hhc (fun k hk j => rnw_n (by omega) (by omega) (by omega) (by omega) (by omega)) (fun j => rnw_5 j) (fun j => rnw_6 j) (fun j => rnw_7 j) (fun j => rnw_9 j) (fun y i hi => rnw_10 y i hi) (fun j => by
        rw [rnw_n (by decide) (by decide) (by decide) (by decide) (by decide)]
        split
        · rename_i z
          rw [z]
          exact fo
        · rfl) (fun j _ => rnw_n (by decide) (by decide) (by decide) (by decide) (by decide)) (by
        rw [rnw_n (by decide) (by decide) (by decide) (by decide) (by decide)]
        exact (hv.2.1.2.2.1 g f1 (by omega)).1) (fun k hk z => by
        rw [rnw_n (by decide) (by decide) (by decide) (by decide) (by decide)]
        rcases hv.2.2.2.1.1 g k f1 hk (by omega) with w | w
        · exfalso
          have : fzb c (rhm c p) = true := fzb_t.mpr ⟨by omega, by omega, by rw [show rhm c p - 9 = k by omega]; exact w⟩
          rw [hfz] at this
          cases this
        · exact w.2) (fun j _ => rnw_n (by decide) (by decide) (by decide) (by decide) (by decide)) (Or.inl ⟨by omega, rnw_n (by decide) (by decide) (by decide) (by decide) (by decide), rnw_n (by decide) (by decide) (by decide) (by decide) (by decide)⟩) hu
      refine ⟨_, _, by rw [d2]; exact h1, v1, v2, fun k hk w => hF k hk w, ?_⟩
      rw [d2]
      exact (hA.ao hgm hq hs1 hs16 hlen t).ofp (by omega)
    · rw [hfp] at d1
      cases d1
  · subst m8
    rw [m1] at hfp
    rcases hd with ⟨d1, _⟩ | ⟨d1, d2, d3, d4⟩
    · rw [hfp] at d1
      cases d1
    · rw [e1, e2] at d4
      have hs' : sR D (bw b U T) L pg ob := hs
      have hG' : vG (bw b U T) := hv.2.1
      have hb' := rb_bw (U := U) hb m2
      have h0' : b 6 x = 0 := h0
      have h1 := hs'.nwp (n := rnm b p) hG' hb' m5 m6 hfz d3
      have hb2 := rb_npg (g := g) (h := rhm b p) (n := rnm b p) hb' hN hlt hn8
      have hq2 : q ∉ (d_ap D ga (nI (rhm b p)) (nI (rnm b p))).1.2 := hq
      have h2 := h1.nwo (p := p) (r := r) (h := rhm b p) (s := s) (g := g) hb2 h48 hp hr hx h0 hq2 hO.1 hO.2.1 (o4 x hx h0') o5 t
      have epg : fup pg g ga g = ga := if_pos rfl
      rw [epg] at h2
      have F11 : ∀ j, rnw (npg (bw b U T) g (rhm b p) (rnm b p)) x p r (rhm b p) s g 11 j = if j = g then rhm b p + 1 else b 11 j := fun j => npg_11 (b := bw b U T) (g := g) (h := rhm b p) (n := rnm b p) j
      have F12 : ∀ j, rnw (npg (bw b U T) g (rhm b p) (rnm b p)) x p r (rhm b p) s g 12 j = if j = g then rnm b p else b 12 j := fun j => npg_12 (b := bw b U T) (g := g) (h := rhm b p) (n := rnm b p) j
      have F13 : ∀ j, rnw (npg (bw b U T) g (rhm b p) (rnm b p)) x p r (rhm b p) s g 13 j = if j = g then b 14 0 + 1 else b 13 j := fun j => npg_13 (b := bw b U T) (g := g) (h := rhm b p) (n := rnm b p) j
      have F14 : rnw (npg (bw b U T) g (rhm b p) (rnm b p)) x p r (rhm b p) s g 14 0 = b 14 0 + 1 := npg_14 (b := bw b U T) (g := g) (h := rhm b p) (n := rnm b p)
      have hu : vU (rnw (npg (bw b U T) g (rhm b p) (rnm b p)) x p r (rhm b p) s g) := by
        have hbp := bump2 (d := 1) hb hT hv.2.2.2.2.2 m3 hn8 hn0 (by omega) m4
        have ho : ∀ i, i < 8 → ow (rnw (npg (bw b U T) g (rhm b p) (rnm b p)) x p r (rhm b p) s g) i = fup (ow b) (rnm b p) (ow b (rnm b p) + 1) i := fun i hi => ow_npg m6 m5 hfz (fun q k hq hk w => (hv.2.2.1.2.1 q k hq hk w).1) F11 F12 (fun k => rfl) (fun j => rfl) i hi
        have : vUo b (ow (rnw (npg (bw b U T) g (rhm b p) (rnm b p)) x p r (rhm b p) s g)) := vUo_c hbp ho
        exact this
      obtain ⟨v1, v2⟩ := iV_new (f := rnw (npg (bw b U T) g (rhm b p) (rnm b p)) x p r (rhm b p) s g) (h := rhm b p) hv hR hb hp hl hr hx h0' hs1 m5 (Or.inl m6) hhc (fun k hk j => by
        rw [rnw_n (by omega) (by omega) (by omega) (by omega) (by omega), npg_n (by omega) (by omega) (by omega) (by omega)]
        unfold bw
        rw [if_neg (by omega), if_neg (by omega)]) (fun j => rnw_5 j) (fun j => rnw_6 j) (fun j => rnw_7 j) (fun j => rnw_9 j) (fun y i hi => rnw_10 y i hi) F11 (fun j hj => (F12 j).trans (if_neg hj)) (by
        rw [F12 g, if_pos rfl]
        exact hnm) (fun k hk z => ((F12 g).trans (if_pos rfl)).trans (hnk k hk z)) (fun j hj => (F13 j).trans (if_neg hj)) (Or.inr ⟨(F13 g).trans (if_pos rfl), F14⟩) hu
      refine ⟨_, _, by rw [d4]; exact h2, v1, v2, fun k hk w => hF k hk w, ?_⟩
      rw [d4]
      have hgm : ga ∈ (d_ap D ga (nI (rhm b p)) (nI (rnm b p))).1.1 := List.mem_append_right _ (List.mem_singleton.mpr rfl)
      exact ((hA.ap d3 _ _).ao hgm hq2 hs1 hs16 hlen t).ofp (by omega)
end SZ7
