/-! THE CLASS AS A WHOLE: where, tag, collect, kill, mode, begin -/
section QM
variable {l : Launch} {G : mm_G} {K : Option mm_V → mm_M → Prop} {M M1 Mb N : mm_M} {c : Nat → Nat} {F : Nat → Prop} {D D1 : ph_D} {eP eO eP1 eO1 : Nat} {x y : Int32}
theorem cp_where (hd : d_pg D) (hrg : d_rg D) (h : ph_R G c F Mb M D eP eO) (k0 : (∀ p r, d_lv D p → r < 4 → ¬ (x = nI p ∧ y = nI r)) → K (some (.inl (-1))) M) (k1 : ∀ p r, d_lv D p → r < 4 → x = nI p → y = nI r → K (some (.inl (match D.2.2 (4 + r) p with | none => -2 | some a => d_h D a))) M) : mm_Ok l G yy_PH_where Y_PH_where [.inr (some (c 0)), .inl x, .inl y] M K := by
  have hX := h.2.1
  refine sg_PH_where ⟨hX.1, cw_living h (fun hn _ => ⟨_, rfl, fun _ => k0 (fun p r hp _ e => hn p hp e.1), fun a z => by cases z⟩) (fun p q hp hp8 e hq h6 hQ _ => ⟨_, rfl, fun z => (by cases z), fun a ha => ?_⟩)⟩
  have haq : q = a := Option.some.inj ha
  subst haq
  refine cw_isRegister (fun hn _ => ⟨_, rfl, fun z => absurd rfl z, fun _ => k0 (fun p r _ hr e => hn r hr e.2)⟩) (fun r hr e2 _ => ⟨_, rfl, fun _ => ?_, fun z => absurd z (by decide)⟩)
  have hP := h.1.2.1.2.1 q h6
  have z := k1 p r hp hr e e2
  have er : mm_p M (pr_a M q) r = D.2.2 (4 + r) p := hQ.2.2.2.2.2.2.2.1 r hr
  refine ⟨h6, pr_a M q, hP.2.1, hP.2.2.1, r, e2, by omega, by rw [hP.2.2.2]; exact hr, fun hc => ?_, fun a2 ha2 => ?_⟩
  · rw [← er, hc] at z
    exact z
  · have hax := hrg p r a2 hp.1 hr (by rw [← er]; exact ha2)
    rw [← er, ha2] at z
    refine ⟨h.x8 a2 hax, ct_heap (h.1.2.1.1 a2 (h.x8 a2 hax)) (fun _ => ⟨_, rfl, ?_⟩)⟩
    rw [h.hh hd hax]
    exact z
theorem cp_tag (hrg : d_rg D) (h : ph_R G c F Mb M D eP eO) (k0 : (∀ p r, d_lv D p → r < 4 → ¬ (x = nI p ∧ y = nI r)) → K (some (.inl 0)) M) (k1 : ∀ p r, d_lv D p → r < 4 → x = nI p → y = nI r → K (some (.inl (match D.2.2 (4 + r) p with | none => 0 | some a => D.2.1 4 a))) M) : mm_Ok l G yy_PH_tag Y_PH_tag [.inr (some (c 0)), .inl x, .inl y] M K := by
  have hX := h.2.1
  refine sg_PH_tag ⟨hX.1, cw_living h (fun hn _ => ⟨_, rfl, fun _ => k0 (fun p r hp _ e => hn p hp e.1), fun a z => by cases z⟩) (fun p q hp hp8 e hq h6 hQ _ => ⟨_, rfl, fun z => (by cases z), fun a ha => ?_⟩)⟩
  have haq : q = a := Option.some.inj ha
  subst haq
  refine cw_isRegister (fun hn _ => ⟨_, rfl, fun z => absurd rfl z, fun _ => k0 (fun p r _ hr e => hn r hr e.2)⟩) (fun r hr e2 _ => ⟨_, rfl, fun _ => ?_, fun z => absurd z (by decide)⟩)
  have hP := h.1.2.1.2.1 q h6
  have z := k1 p r hp hr e e2
  have er : mm_p M (pr_a M q) r = D.2.2 (4 + r) p := hQ.2.2.2.2.2.2.2.1 r hr
  refine ⟨h6, pr_a M q, hP.2.1, hP.2.2.1, r, e2, by omega, by rw [hP.2.2.2]; exact hr, fun hc => ?_, fun a2 ha2 => ?_⟩
  · rw [← er, hc] at z
    exact z
  · have hax := hrg p r a2 hp.1 hr (by rw [← er]; exact ha2)
    rw [← er, ha2] at z
    refine ⟨h.x8 a2 hax, ?_⟩
    rw [(h.2.2.2.2.2.1 a2 hax).2.2.1]
    exact z
theorem cp_collect (hA : d_A D) (hrg : d_rg D) (hfl : d_fl D) (h : ph_R G c F Mb M D eP eO) (k0 : ¬ x = 8 → (∀ p, d_lv D p → ¬ x = nI p) → K (some (.inl (-1))) M)
    (k1 : ∀ n M1 rs, x = nI n → (n = 8 ∨ d_lv D n) → rs.Nodup → (∀ a, a ∈ rs ↔ a ∈ D.1.2 ∧ d_h D a = nI n ∧ d_Re D (nI n) a) → ph_R G c F Mb M1 (d_col D n rs) eP eO → K (some (.inl (nI (D.1.2.filter (fun b => !d_kp D (nI n) rs b)).length))) M1) : mm_Ok l G yy_PH_collect Y_PH_collect [.inr (some (c 0)), .inl x] M K := by
  have hX := h.2.1
  refine sg_PH_collect ⟨fun h8 => ⟨hX.1, ?_⟩, fun h8 => ⟨hX.1, cw_living h (fun hn _ => ⟨_, rfl, fun _ => k0 h8 hn, fun a z => by cases z⟩) (fun p q hp hp8 e hq h6 hQ _ => ⟨_, rfl, fun z => (by cases z), fun a ha => ?_⟩)⟩⟩
  · have e : x = nI 8 := h8
    subst e
    exact cw_collectHeap hA hrg hfl (Or.inl rfl) h (fun M1 rs g1 g2 g3 _ => ⟨_, rfl, k1 8 M1 rs rfl (Or.inl rfl) g1 g2 g3⟩)
  · subst e
    exact cw_collectHeap hA hrg hfl (Or.inr hp.1) h (fun M1 rs g1 g2 g3 _ => ⟨_, rfl, k1 p M1 rs rfl (Or.inr hp) g1 g2 g3⟩)
theorem cp_kill (hA : d_A D) (h : ph_R G c F Mb M D eP eO) (k0 : (∀ p, d_lv D p → x = nI p → p = 0 ∨ D.2.1 6 p = 3) → K (some (.inl 0)) M)
    (k1 : ∀ p M1, d_lv D p → x = nI p → p ≠ 0 → D.2.1 6 p ≠ 3 → D.2.1 6 p = 2 → ph_R G c F Mb M1 (di D 6 p 3) eP eO → K (some (.inl 1)) M1) (k2 : ∀ p M1, d_lv D p → x = nI p → p ≠ 0 → D.2.1 6 p ≠ 3 → D.2.1 6 p ≠ 2 → ph_R G c F Mb M1 (d_die D p) eP eO → K (some (.inl 1)) M1) : mm_Ok l G yy_PH_kill Y_PH_kill [.inr (some (c 0)), .inl x] M K := by
  have hX := h.2.1
  refine sg_PH_kill ⟨hX.1, cw_living h (fun hn _ => ⟨_, rfl, fun _ => k0 (fun p hp e => absurd e (hn p hp)), fun a z => by cases z⟩) (fun p q hp hp8 e hq h6 hQ _ => ⟨_, rfl, fun z => (by cases z), fun a ha => ?_⟩)⟩
  have haq : q = a := Option.some.inj ha
  subst haq
  have hu : ∀ p', d_lv D p' → x = nI p' → p = p' := fun p' hp' e2 => by
    rw [e] at e2
    have h1 := hp'.1
    have h2 := h.m.2.1
    exact (nI_eq (by omega) (by omega)).mp e2
  refine ⟨fun h0 => k0 (fun p' hp' e2 => Or.inl ?_), fun h0 => ⟨h6, fun h3 => ct_kernel h6 (fun _ => ⟨_, rfl, fun hc => ?_, fun hc => ?_⟩), fun h3 => k0 (fun p' hp' e2 => Or.inr ?_)⟩⟩
  · have h1 := hp'.1
    have h2 := h.m.2.1
    rw [e2] at h0
    exact (nI_eq (by omega) (by decide)).mp h0
  · rw [hQ.2.1] at h3 hc
    have hp0 : p ≠ 0 := fun z => h0 (by rw [e, z]; rfl)
    have h2 : D.2.1 6 p ≠ 2 := fun z => by
      rw [if_pos (Or.inl z)] at hc
      exact absurd hc (by decide)
    exact cw_die hA hp.1 hQ.2.2.2.2.2.2.2.2 h (fun M1 g1 _ => ⟨rfl, k2 p M1 hp e hp0 h3 h2 g1⟩)
  · rw [hQ.2.1] at h3 hc
    have hp0 : p ≠ 0 := fun z => h0 (by rw [e, z]; rfl)
    have h2 : D.2.1 6 p = 2 := by
      apply Decidable.byContradiction
      intro z
      rw [if_neg (fun w => w.elim z h3)] at hc
      exact hc rfl
    exact k1 p _ hp e hp0 h3 h2 (h.sq hp8 hq (Or.inl ⟨rfl, rfl⟩) 3)
  · rw [← hu p' hp' e2, ← hQ.2.1]
    exact h3
end QM
