/-! THE CLASS AS A WHOLE: mode, begin, move -/
section QN
variable {l : Launch} {G : mm_G} {K : Option mm_V → mm_M → Prop} {M M1 Mb N : mm_M} {c : Nat → Nat} {F : Nat → Prop} {D D1 : ph_D} {eP eO eP1 eO1 : Nat} {x y z : Int32}
/-- the next shared heap's number -/
theorem ph_R.nx (h : ph_R G c F Mb M D eP eO) (v : Int32) : ph_R G c F Mb (mm_si M (c 0) 6 v) (di D 12 1 v) eP eO := by
  have k1 := h.2.1.1
  have hi : ∀ a i, mm_k M a ≠ 1 ∨ i ≠ 6 → mm_i (mm_si M (c 0) 6 v) a i = mm_i M a i := fun a i ha => by rw [mm_i_si, if_neg (fun z => ha.elim (fun w => w (by rw [z.1]; exact k1)) (fun w => w z.2))]
  have hd : ∀ k j, k ≠ 12 ∨ j ≠ 1 → (di D 12 1 v).2.1 k j = D.2.1 k j := fun k j hk => by rw [di_i, if_neg (fun z => hk.elim (fun w => w z.1) (fun w => w z.2))]
  refine h.ints (fun _ => rfl) (fun _ => rfl) (h.1.si (by rw [k1]; decide)) (fun _ z => z) (fun _ _ _ _ _ _ => rfl) (fun a ha => ?_) (fun a ha i => ⟨hi a i (Or.inl (h.kp a ha).2.2.2.1), rfl⟩) (hi _ 5 (Or.inr (by decide))) (hd 12 0 (Or.inr (by decide))) ?_ (fun p q hp hq => ?_) (fun p hp hn => ?_) (fun g hg => ?_) (fun a ha => ?_) (fun _ _ => rfl)
  · rw [hi a 4 (Or.inr (by decide))]
    exact (h.2.2.1.1 a ha).2.2
  · rw [mm_i_si, if_pos ⟨rfl, rfl⟩, di_i, if_pos ⟨rfl, rfl⟩]
  · obtain ⟨h6, w⟩ := h.prs hp hq
    have e : ∀ j, mm_i (mm_si M (c 0) 6 v) q j = mm_i M q j := fun j => hi q j (Or.inl (by rw [h6]; decide))
    rw [e, e, e, e, e, e, e, hd 6 p (Or.inl (by decide)), hd 7 p (Or.inl (by decide)), hd 8 p (Or.inl (by decide)), hd 9 p (Or.inl (by decide)), hd 10 p (Or.inl (by decide)), hd 11 p (Or.inl (by decide))]
    exact ⟨w.1, w.2.1, w.2.2.1, w.2.2.2.1, w.2.2.2.2.1, w.2.2.2.2.2.1, w.2.2.2.2.2.2.1⟩
  · rw [hd 6 p (Or.inl (by decide))]
    rcases h.pr hp with ⟨-, w⟩ | ⟨q, w, -⟩
    · exact w
    · rw [w] at hn
      cases hn
  · have n := h.g7 g hg
    rw [hi g 0 (Or.inr (by decide)), hi g 1 (Or.inr (by decide)), hi g 2 (Or.inr (by decide)), hd 0 g (Or.inl (by decide)), hd 1 g (Or.inl (by decide)), hd 2 g (Or.inl (by decide))]
    exact h.2.2.2.2.1 g hg
  · have w := h.2.2.2.2.2.1 a ha
    rw [hi a 1 (Or.inr (by decide)), hi a 2 (Or.inr (by decide)), hi a 5 (Or.inr (by decide)), hd 3 a (Or.inl (by decide)), hd 4 a (Or.inl (by decide)), hd 5 a (Or.inl (by decide))]
    exact ⟨w.2.1, w.2.2.1, w.2.2.2.1⟩
theorem cp_mode (hA : d_A D) (h : ph_R G c F Mb M D eP eO) (k0 : (∀ p, d_lv D p → x = nI p → (if D.2.1 6 p = 2 ∨ D.2.1 6 p = 3 then (1 : Int32) else 0) = y) → K (some (.inl 0)) M)
    (k1 : ∀ p M1, d_lv D p → x = nI p → ¬ (if D.2.1 6 p = 2 ∨ D.2.1 6 p = 3 then (1 : Int32) else 0) = y → D.2.1 6 p ≠ 3 → ph_R G c F Mb M1 (di D 6 p (if y = 0 then 1 else 2)) eP eO → K (some (.inl 1)) M1) (k2 : ∀ p M1, d_lv D p → x = nI p → ¬ (1 : Int32) = y → D.2.1 6 p = 3 → ph_R G c F Mb M1 (d_die D p) eP eO → K (some (.inl 1)) M1) : mm_Ok l G yy_PH_mode Y_PH_mode [.inr (some (c 0)), .inl x, .inl y] M K := by
  have hX := h.2.1
  refine sg_PH_mode ⟨hX.1, cw_living h (fun hn _ => ⟨_, rfl, fun _ => k0 (fun p hp e => absurd e (hn p hp)), fun a z => by cases z⟩) (fun p q hp hp8 e hq h6 hQ _ => ⟨_, rfl, fun z => (by cases z), fun a ha => ?_⟩)⟩
  have haq : q = a := Option.some.inj ha
  subst haq
  have hu : ∀ p', d_lv D p' → x = nI p' → p = p' := fun p' hp' e2 => by
    rw [e] at e2
    have h1 := hp'.1
    have h2 := h.m.2.1
    exact (nI_eq (by omega) (by omega)).mp e2
  refine ⟨h6, ct_kernel h6 (fun _ => ⟨_, rfl, fun hc => ⟨fun h3 => ⟨fun hy => ?_, fun hy => ?_⟩, fun h3 => ?_⟩, fun hc => k0 (fun p' hp' e2 => ?_)⟩)⟩
  · rw [hQ.2.1] at hc h3
    have w := k1 p (mm_si M q 5 1) hp e hc h3
    rw [if_pos hy] at w
    exact w (h.sq hp8 hq (Or.inl ⟨rfl, rfl⟩) 1)
  · rw [hQ.2.1] at hc h3
    have w := k1 p (mm_si M q 5 2) hp e hc h3
    rw [if_neg hy] at w
    exact w (h.sq hp8 hq (Or.inl ⟨rfl, rfl⟩) 2)
  · rw [hQ.2.1] at hc h3
    rw [if_pos (Or.inr h3)] at hc
    exact cw_die hA hp.1 hQ.2.2.2.2.2.2.2.2 h (fun M1 g1 _ => ⟨rfl, k2 p M1 hp e hc h3 g1⟩)
  · rw [← hu p' hp' e2, ← hQ.2.1]
    exact hc
theorem cp_begin (h : ph_R G c F Mb M D eP eO) (k0 : (∀ p, d_lv D p → x = nI p → ¬ D.2.1 10 p = -1) → K (some (.inl (-1))) M) (k1 : ∀ p, d_lv D p → x = nI p → D.2.1 10 p = -1 → ¬ D.2.1 12 1 < 13 → K (some (.inl (-4))) M)
    (k2 : ∀ p M1, d_lv D p → x = nI p → D.2.1 10 p = -1 → D.2.1 12 1 < 13 → ph_R G c F Mb M1 (di (di D 10 p (D.2.1 12 1)) 12 1 (D.2.1 12 1 + 1)) eP eO → K (some (.inl (D.2.1 12 1))) M1) : mm_Ok l G yy_PH_begin Y_PH_begin [.inr (some (c 0)), .inl x] M K := by
  have hX := h.2.1
  refine sg_PH_begin ⟨hX.1, cw_living h (fun hn _ => ⟨_, rfl, fun _ => k0 (fun p hp e => absurd e (hn p hp)), fun a z => by cases z⟩) (fun p q hp hp8 e hq h6 hQ _ => ⟨_, rfl, fun z => (by cases z), fun a ha => ?_⟩)⟩
  have haq : q = a := Option.some.inj ha
  subst haq
  have hu : ∀ p', d_lv D p' → x = nI p' → p = p' := fun p' hp' e2 => by
    rw [e] at e2
    have h1 := hp'.1
    have h2 := h.m.2.1
    exact (nI_eq (by omega) (by omega)).mp e2
  have h12 : mm_i M (c 0) 6 = D.2.1 12 1 := h.2.2.2.2.2.2.1.2
  have hqt : c 0 ≠ q := fun w => by
    have := hX.1
    rw [w, h6] at this
    cases this
  refine ⟨h6, fun hb => ⟨fun hl => ?_, fun hl => k1 p hp e (by rw [← hQ.2.2.2.2.2.1]; exact hb) (by rw [← h12]; exact hl)⟩, fun hb => k0 (fun p' hp' e2 => ?_)⟩
  · rw [hQ.2.2.2.2.2.1] at hb
    have e6 : mm_i (mm_si M q 6 (mm_i M (c 0) 6)) (c 0) 6 = D.2.1 12 1 := by
      rw [mm_i_si, if_neg (fun w => hqt w.1)]
      exact h12
    rw [h12] at hl
    have g1 := (h.sq hp8 hq (Or.inr (Or.inl ⟨rfl, rfl⟩)) (D.2.1 12 1)).nx (D.2.1 12 1 + 1)
    have w := k2 p _ hp e hb hl g1
    rw [e6, h12, mm_i_si, if_neg (fun w => hqt w.1.symm), mm_i_si, if_pos ⟨rfl, rfl⟩]
    exact w
  · rw [← hu p' hp' e2, ← hQ.2.2.2.2.2.1]
    exact hb
end QN
