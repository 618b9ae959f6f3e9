/-! THE CLASS AS A WHOLE: freeze, spawn -/
def d_bl (D : ph_D) : Prop := ∀ p, p < d_m D → D.2.1 10 p = -1 ∨ ∃ i, 9 ≤ i ∧ i < 13 ∧ D.2.1 10 p = nI i
def d_fz (D : ph_D) (p i a : Nat) : ph_D := di (d_es (di (dp D 8 i (some a)) 10 p (-1)) (nI i)) 11 p (D.2.1 11 p ||| ((1 : Int32) <<< (nI i &&& 31)))
section QT
variable {l : Launch} {G : mm_G} {K : Option mm_V → mm_M → Prop} {M M1 Mb N : mm_M} {c : Nat → Nat} {F : Nat → Prop} {D D1 : ph_D} {eP eO eP1 eO1 : Nat} {p q a b i j : Nat} {x y z w : Int32}
theorem cp_freeze (hd : d_pg D) (hbl : d_bl D) (hrg : d_rg D) (h : ph_R G c F Mb M D eP eO) (k0 : (∀ p r i a, d_lv D p → r < 4 → x = nI p → y = nI r → 9 ≤ i → i < 13 → D.2.1 10 p = nI i → D.2.2 (4 + r) p = some a → ¬ d_h D a = nI i) → K (some (.inl (-1))) M)
    (k1 : ∀ p r i a M1, d_lv D p → r < 4 → x = nI p → y = nI r → 9 ≤ i → i < 13 → D.2.1 10 p = nI i → D.2.2 (4 + r) p = some a → d_h D a = nI i → ph_R G c F Mb M1 (d_fz D p i a) eP eO → K (some (.inl (nI i))) M1) : mm_Ok l G yy_PH_freeze Y_PH_freeze [.inr (some (c 0)), .inl x, .inl y] M K := by
  have hX := h.2.1
  refine sg_PH_freeze ⟨hX.1, cw_living h (fun hn _ => ⟨_, rfl, fun _ => k0 (fun p r i a hp _ e _ _ _ _ _ => absurd e (hn p hp)), fun a u => by cases u⟩) (fun p q hp hp8 e hq h6 hQ _ => ⟨_, rfl, fun u => (by cases u), fun a ha => ?_⟩)⟩
  have haq : q = a := Option.some.inj ha
  subst haq
  have hP := h.1.2.1.2.1 q h6
  have hu : ∀ p', d_lv D p' → x = nI p' → p = p' := fun p' hp' e2 => by
    rw [e] at e2
    have h1 := hp'.1
    have h2 := h.m.2.1
    exact (nI_eq (by omega) (by omega)).mp e2
  refine cw_isRegister (fun hn _ => ⟨_, rfl, fun _ => k0 (fun p r i a _ hr _ e _ _ _ _ => absurd e (hn r hr)), fun u => absurd rfl u⟩) (fun r hr e2 _ => ⟨_, rfl, fun u => absurd u (by decide), fun _ => ⟨h6, fun hb => ?_, fun hb => k0 (fun p' r' i a hp' hr' e3 e4 i1 i2 e5 _ => ?_)⟩⟩)
  · rw [hQ.2.2.2.2.2.1] at hb ⊢
    obtain ⟨i, i1, i2, ei⟩ := (hbl p hp.1).resolve_left hb
    have hur : ∀ r', r' < 4 → y = nI r' → r = r' := fun r' hr' e4 => by
      rw [e2] at e4
      exact (nI_eq (by omega) (by omega)).mp e4
    have er : mm_p M (pr_a M q) r = D.2.2 (4 + r) p := hQ.2.2.2.2.2.2.2.1 r hr
    refine ⟨pr_a M q, hP.2.1, hP.2.2.1, r, e2, by omega, by rw [hP.2.2.2]; exact hr, fun hc => k0 (fun p' r' i' a hp' hr' e3 e4 _ _ _ e6 => ?_), fun a ha2 => ?_⟩
    · rw [er] at hc
      rw [← hu p' hp' e3, ← hur r' hr' e4, hc] at e6
      cases e6
    rw [er] at ha2
    have hax := hrg p r a hp.1 hr ha2
    have ha8 := h.x8 a hax
    refine ⟨ha8, ct_heap (h.1.2.1.1 a ha8) (fun _ => ⟨_, rfl, fun hh => ?_, fun hh => k0 (fun p' r' i' a' hp' hr' e3 e4 _ _ e5 e6 => ?_)⟩)⟩
    · rw [h.hh hd hax, ei] at hh
      rw [er, ha2, ei]
      have g1 := h.hd (i := i) (v := some a) (fun u hu => by cases hu; exact ha8)
      have kne : c 8 ≠ c 9 := fun u => by
        have := h.kar
        rw [u, h.kah] at this
        cases this
      have hq1 : mm_p (mm_sp M (c 9) i (some a)) (c 8) p = some q := by
        rw [mm_p_sp, if_neg (fun u => kne u.1)]
        exact hq
      have g2 := g1.sq hp8 hq1 (Or.inr (Or.inl ⟨rfl, rfl⟩)) (-1)
      refine ⟨c 9, hX.2.2.2.2.2.1, h.kah, i, rfl, by omega, by rw [h.lah]; exact i2, fun u hu => (by cases hu; exact ha8), c 1, g2.2.1.2.1, g2.1.2.2.1, ?_⟩
      refine cw_endSingle g2 (fun M2 g3 _ => ⟨rfl, ?_⟩)
      have a3 := g3.at (p := p) (q := q) (by rw [d_m_c (D := D) (by rw [← d_es_n (by decide), di_n (by decide)]; rfl)]; exact hp.1) (by show (dp D 8 i (some a)).2.2 9 p = some q; rw [dp_n (by decide)]; exact hQ.2.2.2.2.2.2.2.2)
      refine ct_addCharge a3.2.1 (fun _ => ⟨rfl, k1 p r i a _ hp hr e e2 i1 i2 ei ha2 hh ?_⟩)
      have g4 := g3.sq hp8 a3.1 (Or.inr (Or.inr ⟨rfl, rfl⟩)) (D.2.1 11 p ||| ((1 : Int32) <<< (nI i &&& 31)))
      have e7 : mm_i M2 q 7 = D.2.1 11 p := by
        rw [a3.2.2.2.2.2.2.2.2.1, ← d_es_n (by decide), di_n (by decide)]
        rfl
      rw [e7]
      exact g4
    · rw [h.hh hd hax] at hh
      rw [← hu p' hp' e3] at e5 e6
      rw [← hur r' hr' e4, ha2] at e6
      have e8 : a = a' := Option.some.inj e6
      rw [← e8]
      intro e9
      exact hh (e9.trans e5.symm)
  · rw [hQ.2.2.2.2.2.1] at hb
    rw [← hu p' hp' e3, hb] at e5
    have t : ∀ i, i < 13 → ¬ (-1 : Int32) = nI i := by decide
    exact absurd e5 (t i i2)
end QT
