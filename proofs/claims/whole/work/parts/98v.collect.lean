/-! CLASS AND REFERENCE: a collection; what heaps of the reference keep -/
section SV
variable {D D1 : ph_D} {b b1 : rB} {L : Nat → Int32} {pg ob : Nat → Nat} {N n p h x y g k t : Nat}
theorem vO.cong (hO : vO b) (h : ∀ k, k = 0 ∨ k = 5 ∨ k = 6 ∨ k = 10 ∨ k = 21 → ∀ j, b1 k j = b k j) : vO b1 := by
  have e0 : b1 0 = b 0 := funext (h 0 (by omega))
  have e5 : b1 5 = b 5 := funext (h 5 (by omega))
  have e6 : b1 6 = b 6 := funext (h 6 (by omega))
  have e10 : b1 10 = b 10 := funext (h 10 (by omega))
  have e21 : b1 21 = b 21 := funext (h 21 (by omega))
  unfold vO lv at *
  rw [e0, e5, e6, e10, e21]
  exact hO
theorem vG.cong (hG : vG b) (h : ∀ k, k = 0 ∨ k = 6 ∨ k = 7 ∨ k = 9 ∨ k = 11 ∨ k = 12 ∨ k = 13 ∨ k = 14 → ∀ j, b1 k j = b k j) : vG b1 := by
  have e0 : b1 0 = b 0 := funext (h 0 (by omega))
  have e6 : b1 6 = b 6 := funext (h 6 (by omega))
  have e7 : b1 7 = b 7 := funext (h 7 (by omega))
  have e9 : b1 9 = b 9 := funext (h 9 (by omega))
  have e11 : b1 11 = b 11 := funext (h 11 (by omega))
  have e12 : b1 12 = b 12 := funext (h 12 (by omega))
  have e13 : b1 13 = b 13 := funext (h 13 (by omega))
  have e14 : b1 14 = b 14 := funext (h 14 (by omega))
  unfold vG at *
  rw [e0, e6, e7, e9, e11, e12, e13, e14]
  exact hG
theorem vB.cong (hB : vB b) (h : ∀ k, k = 0 ∨ k = 6 ∨ k = 11 ∨ k = 12 ∨ k = 15 ∨ k = 16 ∨ k = 17 ∨ k = 18 → ∀ j, b1 k j = b k j) : vB b1 := by
  have e0 : b1 0 = b 0 := funext (h 0 (by omega))
  have e6 : b1 6 = b 6 := funext (h 6 (by omega))
  have e11 : b1 11 = b 11 := funext (h 11 (by omega))
  have e12 : b1 12 = b 12 := funext (h 12 (by omega))
  have e15 : b1 15 = b 15 := funext (h 15 (by omega))
  have e16 : b1 16 = b 16 := funext (h 16 (by omega))
  have e17 : b1 17 = b 17 := funext (h 17 (by omega))
  have e18 : b1 18 = b 18 := funext (h 18 (by omega))
  unfold vB lv at *
  rw [e0, e6, e11, e12, e15, e16, e17, e18]
  exact hB
theorem vT.cong (hT : vT b) (h : ∀ k, k = 0 ∨ k = 1 ∨ k = 3 ∨ k = 4 → ∀ j, b1 k j = b k j) : vT b1 := by
  have e0 : b1 0 = b 0 := funext (h 0 (by omega))
  have e1 : b1 1 = b 1 := funext (h 1 (by omega))
  have e3 : b1 3 = b 3 := funext (h 3 (by omega))
  have e4 : b1 4 = b 4 := funext (h 4 (by omega))
  unfold vT at *
  rw [e0, e1, e3, e4]
  exact hT
theorem vS.cong (hS : vS b) (h : ∀ k, k = 0 ∨ k = 5 ∨ k = 6 ∨ k = 15 ∨ k = 19 ∨ k = 20 ∨ k = 21 → ∀ j, b1 k j = b k j) : vS b1 := by
  have e0 : b1 0 = b 0 := funext (h 0 (by omega))
  have e5 : b1 5 = b 5 := funext (h 5 (by omega))
  have e6 : b1 6 = b 6 := funext (h 6 (by omega))
  have e15 : b1 15 = b 15 := funext (h 15 (by omega))
  have e19 : b1 19 = b 19 := funext (h 19 (by omega))
  have e20 : b1 20 = b 20 := funext (h 20 (by omega))
  have e21 : b1 21 = b 21 := funext (h 21 (by omega))
  unfold vS lv at *
  rw [e0, e5, e6, e15, e19, e20, e21]
  exact hS
theorem ow_le3 (h11 : ∀ g, g < 24 → b1 11 g = 0 ∨ b1 11 g = b 11 g) (h12 : ∀ g, g < 24 → b1 12 g = b 12 g) (hf : ∀ g, g < 24 → 0 < b1 11 g → fzb b1 (b1 11 g - 1) = fzb b (b 11 g - 1)) (h20 : ∀ j, b1 20 j = 0 ∨ b1 20 j = b 20 j) (n : Nat) : ow b1 n ≤ ow b n := by
  unfold ow
  refine Nat.add_le_add (List.countP_mono_left (fun g hg u => ?_)) (sm_le (fun k hk => ?_))
  · have hg := List.mem_range.mp hg
    obtain ⟨u1, u2, u3⟩ := opg_t.mp u
    have e := (h11 g hg).resolve_left (by omega)
    rw [hf g hg u1] at u2
    rw [e] at u1
    rw [h12 g hg] at u3
    exact opg_t.mpr ⟨u1, u2, u3⟩
  · unfold opk
    by_cases h1 : b1 20 (4 * n + k) = 0
    · rw [if_pos h1]
      exact Nat.zero_le _
    · have e := (h20 (4 * n + k)).resolve_left h1
      rw [if_neg h1, if_neg (by rw [← e]; exact h1)]
      unfold pc
      refine List.countP_mono_left (fun g hg u => ?_)
      have hg := List.mem_range.mp hg
      have u := of_decide_eq_true u
      exact decide_eq_true (by rw [← (h11 g hg).resolve_left (by omega)]; exact u)
/-- the same tree, who pays less -/
theorem vU.le (hu : vU b) (h0 : ∀ k, k < 4 → ∀ j, b1 k j = b k j) (h : ∀ n, n < 8 → ow b1 n ≤ ow b n) : vU b1 :=
  vUo_mono (b := b) (o := ow b) hu (fun n _ => by rw [h0 0 (by omega)]) (fun n _ g => (lv_c (h0 0 (by omega) n)).mp g) (fun n _ => ⟨h0 1 (by omega) n, h0 2 (by omega) n, h0 3 (by omega) n⟩) h
theorem nmb_t : nmb b h t = true ↔ ∃ y, y < 60 ∧ b 21 (60 * h + y) ≠ 0 ∧ b 6 y = t + 1 := by
  unfold nmb
  rw [List.any_eq_true]
  constructor
  · rintro ⟨y, h1, h2⟩
    rw [Bool.and_eq_true, Bool.not_eq_true', decide_eq_false_iff_not, decide_eq_true_eq] at h2
    exact ⟨y, List.mem_range.mp h1, h2.1, h2.2⟩
  · rintro ⟨y, h1, h2, h3⟩
    refine ⟨y, List.mem_range.mpr h1, ?_⟩
    rw [Bool.and_eq_true, Bool.not_eq_true', decide_eq_false_iff_not, decide_eq_true_eq]
    exact ⟨h2, h3⟩
theorem hob_t : hob b p t = true ↔ ∃ r, r < 4 ∧ 0 < b 5 (4 * p + r) ∧ b 6 (b 5 (4 * p + r) - 1) = t + 1 := by
  unfold hob
  rw [List.any_eq_true]
  constructor
  · rintro ⟨r, h1, h2⟩
    rw [Bool.and_eq_true, decide_eq_true_eq, decide_eq_true_eq] at h2
    exact ⟨r, List.mem_range.mp h1, h2.1, h2.2⟩
  · rintro ⟨r, h1, h2, h3⟩
    refine ⟨r, List.mem_range.mpr h1, ?_⟩
    rw [Bool.and_eq_true, decide_eq_true_eq, decide_eq_true_eq]
    exact ⟨h2, h3⟩
theorem fib_t : fib b h x = true ↔ ∃ y f, y < 60 ∧ f < 3 ∧ b 6 y = h + 1 ∧ b 10 (3 * y + f) = x + 1 := by
  unfold fib
  rw [List.any_eq_true]
  constructor
  · rintro ⟨k, h1, h2⟩
    have h1 := List.mem_range.mp h1
    rw [Bool.and_eq_true, decide_eq_true_eq, decide_eq_true_eq] at h2
    exact ⟨k / 3, k % 3, by omega, Nat.mod_lt _ (by decide), h2.1, by rw [show 3 * (k / 3) + k % 3 = k by omega]; exact h2.2⟩
  · rintro ⟨y, f, h1, h2, h3, h4⟩
    refine ⟨3 * y + f, List.mem_range.mpr (by omega), ?_⟩
    rw [Bool.and_eq_true, decide_eq_true_eq, decide_eq_true_eq, show (3 * y + f) / 3 = y by omega]
    exact ⟨h3, h4⟩
theorem ndb_t : ndb b k = true ↔ nmb b 8 (9 + k) = true ∨ ∃ p, p < 8 ∧ lv b p ∧ b 19 (4 * p + k) ≠ 0 := by
  unfold ndb
  rw [Bool.or_eq_true, List.any_eq_true]
  constructor
  · rintro (h1 | ⟨p, h1, h2⟩)
    · exact Or.inl h1
    · rw [Bool.and_eq_true, lvb_t, Bool.not_eq_true', decide_eq_false_iff_not] at h2
      exact Or.inr ⟨p, List.mem_range.mp h1, h2.1, h2.2⟩
  · rintro (h1 | ⟨p, h1, h2, h3⟩)
    · exact Or.inl h1
    · refine Or.inr ⟨p, List.mem_range.mpr h1, ?_⟩
      rw [Bool.and_eq_true, lvb_t, Bool.not_eq_true', decide_eq_false_iff_not]
      exact ⟨h2, h3⟩
theorem sR.it (hs : sR D b L pg ob) (hO : vO b) (hG : vG b) (hb : rb N b) (hh : h < 13) (ht : t < 13) : d_it D h t = nmb b h t := by
  unfold d_it nmb
  refine hs.1.any (fun x hx h0 => ?_) (fun x hx h0 => ?_)
  · rw [(hs.2.1 x hx h0).2.2.2.1 h, decide_eq_true hh, Bool.true_and, Bool.and_comm]
    congr 1
    rw [Bool.eq_iff_iff, decide_eq_true_eq, decide_eq_true_eq]
    exact hs.hq hG hb hx h0 ht
  · rw [Bool.and_eq_true, decide_eq_true_eq] at h0
    omega
theorem sR.ho (hs : sR D b L pg ob) (hO : vO b) (hG : vG b) (hb : rb N b) (hp : p < b 4 0) (hp8 : p < 8) (ht : t < 13) : d_ho D p (nI t) = hob b p t := by
  unfold d_ho hob
  rw [Bool.eq_iff_iff, List.any_eq_true, List.any_eq_true]
  have hr := (hs.2.2.2.2.1.2.2 p hp).2.2.2.2.2
  constructor
  · rintro ⟨r, h1, h2⟩
    have h1 := List.mem_range.mp h1
    rw [hr r h1] at h2
    refine ⟨r, List.mem_range.mpr h1, ?_⟩
    have h5 : b 5 (4 * p + r) ≤ 60 := hb.2 5 _ (by decide)
    cases e : b 5 (4 * p + r) with
    | zero =>
      rw [e] at h2
      cases h2
    | succ y =>
      rw [e] at h2
      have h0 := hO.1 p r hp8 h1 (by omega)
      rw [e] at h0
      have h2 : decide (d_h D (ob y) = nI t) = true := h2
      rw [decide_eq_true (Nat.succ_pos y), Bool.true_and]
      exact decide_eq_true ((hs.hq hG hb (show y < 60 by omega) h0 ht).mp (of_decide_eq_true h2))
  · rintro ⟨r, h1, h2⟩
    have h1 := List.mem_range.mp h1
    refine ⟨r, List.mem_range.mpr h1, ?_⟩
    rw [hr r h1]
    have h5 : b 5 (4 * p + r) ≤ 60 := hb.2 5 _ (by decide)
    rw [Bool.and_eq_true, decide_eq_true_eq, decide_eq_true_eq] at h2
    obtain ⟨y, e⟩ : ∃ y, b 5 (4 * p + r) = y + 1 := ⟨b 5 (4 * p + r) - 1, by omega⟩
    have h0 := hO.1 p r hp8 h1 (by omega)
    rw [e] at h2 h0 ⊢
    show decide (d_h D (ob y) = nI t) = true
    exact decide_eq_true ((hs.hq hG hb (show y < 60 by omega) h0 ht).mpr h2.2)
theorem d_nm_t {rs : List Nat} {a : Nat} : d_nm D rs a = true ↔ ∃ c f, c ∈ rs ∧ f < 3 ∧ D.2.2 (1 + f) c = some a ∧ ¬ d_h D a = d_h D c := by
  unfold d_nm
  rw [List.any_eq_true]
  constructor
  · rintro ⟨c, h1, h2⟩
    rw [List.any_eq_true] at h2
    obtain ⟨f, h3, h4⟩ := h2
    rw [Bool.and_eq_true, decide_eq_true_eq, Bool.not_eq_true', decide_eq_false_iff_not] at h4
    exact ⟨c, f, h1, List.mem_range.mp h3, h4.1, h4.2⟩
  · rintro ⟨c, f, h1, h2, h3, h4⟩
    refine ⟨c, h1, ?_⟩
    rw [List.any_eq_true]
    refine ⟨f, List.mem_range.mpr h2, ?_⟩
    rw [Bool.and_eq_true, decide_eq_true_eq, Bool.not_eq_true', decide_eq_false_iff_not]
    exact ⟨h3, h4⟩
theorem itm_21 (b : rB) (h i x : Nat) (hx : x < 60) : itm b h 60 21 (60 * i + x) = if i = h ∧ fib b h x = false then 0 else b 21 (60 * i + x) := by
  unfold itm
  by_cases e : i = h
  · subst e
    by_cases c : fib b i x = false
    · rw [if_pos ⟨rfl, by omega, by omega, by rw [show 60 * i + x - 60 * i = x by omega]; exact c⟩, if_pos ⟨rfl, c⟩]
    · rw [if_neg (fun u => c (by
        have := u.2.2.2
        rw [show 60 * i + x - 60 * i = x by omega] at this
        exact this)), if_neg (fun u => c u.2)]
  · rw [if_neg (fun u => by omega), if_neg (fun u => e u.1)]
/-- the first part of a collection -/
theorem sR.colA (hs : sR D b L pg ob) (hv : iV b) (hb : rb N b) (hA : d_A D) (hh : h ≤ 8) {m : Nat → Nat} (hm : rmk b h m) {rs : List Nat} (hr : ∀ a, a ∈ rs ↔ a ∈ D.1.2 ∧ d_h D a = nI h ∧ d_Re D (nI h) a) :
    sR (d_run D h rs) (itm (frN (bm b m) (unr b m h) 60) h 60) L pg ob ∧ iV (itm (frN (bm b m) (unr b m h) 60) h 60) := by
  have hs' : sR D (bm b m) L pg ob := hs
  have hv' : iV (bm b m) := hv
  have hb' := rb_bm hb hm.1
  have hz := fzR_N (bm b m) (unr b m h) 60 (Nat.le_refl 60)
  have hF : ∀ x, x < 60 → (decide (x < 60) && unr b m h x) = unr b m h x := fun x hx => by rw [decide_eq_true hx, Bool.true_and]
  have hFf : ∀ x, unr b m h x = false → (decide (x < 60) && unr b m h x) = false := fun x hx => by rw [hx, Bool.and_false]
  have hc := hs'.fr (kp := d_kp D (nI h) rs) hv'.2.1 hb' hA hz (fun x hx h0 => by
    show _ = !(decide (x < 60) && unr b m h x)
    rw [hF x hx]
    exact hs.kpe hv hb hh hm hr hx h0)
  have c1 := rmk.c1 hv.1 hb hm
  have c2 := rmk.c2 hv.1 hb hm
  have vo := hv'.1.fr hz hb' (fun p r hp hr h0 => hFf _ (c1 p r hp hr h0)) (fun x f hx h0 hu hf hf0 => hFf _ (c2 x f hx h0 (by
    have hu : (decide (x < 60) && unr b m h x) = false := hu
    rw [hF x hx] at hu
    exact hu) hf hf0))
  have vg := hv'.2.1.fr hz
  have vs := hv'.2.2.1.fr hz hb'
  have vb := hv'.2.2.2.1.fr hz (fun k hk4 h2 => hFf _ (Bool.eq_false_iff.mpr (fun u => by
    have h3 := (unr_t.mp u).1
    have h4 := hv.2.2.2.1.2.2.2.1 k hk4 h2
    have h5 : b 6 (b 17 k) = h + 1 := h3
    omega)))
  have vt := hv'.2.2.2.2.1.fr hz
  have vu := hv'.2.2.2.2.2.fr hz
  have hbc := rb_frN hb' (unr b m h) 60
  have hlive : ∀ x, x < 60 → (0 < frN (bm b m) (unr b m h) 60 6 x ↔ 0 < b 6 x ∧ unr b m h x = false) := fun x hx => by
    rw [hz.live hx]
    show (0 < b 6 x ∧ (decide (x < 60) && unr b m h x) = false) ↔ _
    rw [hF x hx]
  have h6 : ∀ x, x < 60 → 0 < frN (bm b m) (unr b m h) 60 6 x → frN (bm b m) (unr b m h) 60 6 x = b 6 x := fun x hx h0 => hz.six2 h0
  have h10 : ∀ j, frN (bm b m) (unr b m h) 60 10 j = b 10 j := fun j => hz.2.1 10 j (by decide) (by decide) (by decide)
  have h21 : ∀ i x, i < 13 → x < 60 → unr b m h x = false → frN (bm b m) (unr b m h) 60 21 (60 * i + x) = b 21 (60 * i + x) := fun i x hi hx hu => by
    rw [hz.2.2.1 i x hi hx]
    show (if (decide (x < 60) && unr b m h x) = true then 0 else b 21 (60 * i + x)) = _
    rw [hFf x hu, if_neg (by decide)]
  generalize frN (bm b m) (unr b m h) 60 = c at *
  have nm : ∀ x, x < 60 → 0 < c 6 x → (d_nm D rs (ob x) = true ↔ fib c h x = true ∧ c 21 (60 * h + x) ≠ 0) := by
    intro x hx h0
    obtain ⟨h0b, hu⟩ := (hlive x hx).mp h0
    rw [d_nm_t, fib_t, h21 h x (by omega) hx hu]
    constructor
    · rintro ⟨a, f, g1, g2, g3, g4⟩
      obtain ⟨y, y1, y2, y3⟩ := hs.1.mem.mp ((hr a).mp g1).1
      subst y3
      obtain ⟨z1, z2⟩ := (hs.rs hv hb hh hm hr y1 y2).mp g1
      rw [(hs.2.1 y y1 y2).2.2.2.2 f g2, rf_some] at g3
      obtain ⟨z, e1, e2⟩ := g3
      have hfl : b 10 (3 * y + f) ≤ 60 := hb.2 10 _ (by decide)
      have hzl := hv.1.2.1 y f y1 y2 g2 (by omega)
      rw [e1] at hzl
      have e3 := hs.1.2 z x (by omega) hx hzl h0b e2
      subst e3
      have hyu : unr b m h y = false := Bool.eq_false_iff.mpr (fun u => z2 (unr_t.mp u).2)
      have hyl := (hlive y y1).mpr ⟨y2, hyu⟩
      refine ⟨⟨y, f, y1, g2, by rw [h6 y y1 hyl]; exact z1, by rw [h10]; exact e1⟩, ?_⟩
      have := hv.1.2.2.1 y f y1 y2 g2 (by omega) (by
        rw [e1]
        intro e
        apply g4
        rw [hs.hh hv.2.1 hb hx h0b, hs.hh hv.2.1 hb y1 y2]
        rw [show b 6 z = b 6 y from e])
      rw [e1, z1] at this
      exact this
    · rintro ⟨⟨y, f, y1, y2, y3, y4⟩, y5⟩
      have hyl : 0 < c 6 y := by omega
      obtain ⟨w1, w2⟩ := (hlive y y1).mp hyl
      rw [h6 y y1 hyl] at y3
      rw [h10] at y4
      refine ⟨ob y, f, (hs.rs hv hb hh hm hr y1 w1).mpr ⟨y3, fun u => by
        rw [unr_t.mpr ⟨y3, u⟩] at w2
        cases w2⟩, y2, ?_, fun e => ?_⟩
      · rw [(hs.2.1 y y1 w1).2.2.2.2 f y2, y4]
        rfl
      · rw [hs.hh hv.2.1 hb hx h0b, hs.hh hv.2.1 hb y1 w1] at e
        have q1 : b 6 x ≤ 13 := hb.2 6 x (by decide)
        have := eqN (b 6 x - 1) (b 6 y - 1) e
        have := (hv.1.2.2.2.1 h x (by omega) hx y5).2.1
        omega
  constructor
  · refine hc.itc rfl (fun _ _ => rfl) (fun k j hk => d_run_n hk) (fun k j hk => if_neg (fun u => hk u.1)) (fun x hx h0 i => ?_)
    have hmem : ob x ∈ D.1.2.filter (d_kp D (nI h) rs) := hc.1.mem.mpr ⟨x, hx, h0, rfl⟩
    have e5 : (d_run D h rs).2.1 5 (ob x) = if d_nm D rs (ob x) = true then (D.2.1 5 (ob x) &&& (((1 : Int32) <<< (nI h &&& 31)) ^^^ (-1))) ||| ((1 : Int32) <<< (nI h &&& 31)) else D.2.1 5 (ob x) &&& (((1 : Int32) <<< (nI h &&& 31)) ^^^ (-1)) := if_pos ⟨rfl, hmem⟩
    have hold : bb_t (D.2.1 5 (ob x)) i = (decide (i < 13) && !decide (c 21 (60 * i + x) = 0)) := by
      have := (hc.2.1 x hx h0).2.2.2.1 i
      rw [← d_fr_n (by decide)] at this
      exact this
    have hbits : bb_t ((d_run D h rs).2.1 5 (ob x)) i = if i = h then d_nm D rs (ob x) else bb_t (D.2.1 5 (ob x)) i := by
      rw [e5]
      cases d_nm D rs (ob x) with
      | true =>
        rw [if_pos rfl, bb_set _ (by omega), bb_clr _ (by omega)]
        by_cases e : i = h
        · rw [if_pos e, decide_eq_true e, Bool.or_true]
        · rw [if_neg e, decide_eq_false e, Bool.not_false, Bool.and_true, Bool.or_false]
      | false =>
        rw [if_neg (by decide), bb_clr _ (by omega)]
        by_cases e : i = h
        · rw [if_pos e, decide_eq_true e, Bool.not_true, Bool.and_false]
        · rw [if_neg e, decide_eq_false e, Bool.not_false, Bool.and_true]
    rw [hbits, itm_21 c h i x hx]
    by_cases e : i = h
    · subst e
      rw [if_pos rfl, decide_eq_true (show i < 13 by omega), Bool.true_and, Bool.eq_iff_iff, nm x hx h0, Bool.not_eq_true', decide_eq_false_iff_not]
      by_cases c2 : fib c i x = false
      · rw [if_pos ⟨rfl, c2⟩, c2]
        exact ⟨fun u => (by cases u.1), fun u => absurd rfl u⟩
      · rw [if_neg (fun u => c2 u.2)]
        exact ⟨fun u => u.2, fun u => ⟨(by cases t : fib c i x with | true => rfl | false => exact absurd t c2), u⟩⟩
    · rw [if_neg e, if_neg (fun u => e u.1)]
      exact hold
  · refine ⟨⟨vo.1, vo.2.1, fun x f hx h0 hf hf0 hne => ?_, fun i y hi hy h0 => ?_, vo.2.2.2.2⟩, vg, ⟨vs.1, vs.2.1, vs.2.2.1, fun p y k hp hy hk4 h0 e => ?_, fun y k hy hk4 h0 e => ?_⟩, vb, vt, vu⟩
    · have w1 : c 6 x ≤ 13 := hbc.2 6 x (by decide)
      have w2 : c 10 (3 * x + f) ≤ 60 := hbc.2 10 _ (by decide)
      have h0 : 0 < c 6 x := h0
      have hf0 : 0 < c 10 (3 * x + f) := hf0
      have := vo.2.2.1 x f hx h0 hf hf0 hne
      show itm c h 60 21 (60 * (c 6 x - 1) + (c 10 (3 * x + f) - 1)) ≠ 0
      rw [itm_21 c h _ _ (by omega), if_neg]
      · exact this
      · rintro ⟨e1, e2⟩
        rw [fib_t.mpr ⟨x, f, hx, hf, by omega, by omega⟩] at e2
        cases e2
    · rw [itm_21 c h i y hy] at h0
      split at h0
      · exact absurd rfl h0
      · exact vo.2.2.2.1 i y hi hy h0
    · rw [itm_21 c h p y hy] at h0
      split at h0
      · exact absurd rfl h0
      · exact vs.2.2.2.1 p y k hp hy hk4 h0 e
    · have h0 : itm c h 60 21 (60 * 8 + y) ≠ 0 := h0
      rw [itm_21 c h 8 y hy] at h0
      split at h0
      · exact absurd rfl h0
      · exact vs.2.2.2.2 y k hy hk4 h0 e
end SV
