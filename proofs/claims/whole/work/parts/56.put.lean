/-! THE STORE: a page is added, an object is put -/
def ti_ty (k : Nat) : Prop := k = 8 ∨ k = 6 ∨ k = 103 ∨ k = 104
theorem ti_ty.ne {k : Nat} (h : ti_ty k) : k ≠ 0 ∧ k ≠ 3 ∧ k ≠ 102 ∧ k ≠ 105 ∧ k ≠ 7 ∧ k ≠ 2 := by
  rcases h with z | z | z | z <;> rw [z] <;> decide
section TG
variable {M M1 : mm_M} {S : Nat → Prop}
theorem ti_T.grow (h : ti_T M) (hX : mm_gr M M1 S) (hS : ∀ a, S a → ¬ ti_ty (mm_k M a)) (hn : ∀ a, mm_k M1 a = mm_k M a ∨ ¬ ti_ty (mm_k M1 a)) : ti_T M1 := by
  have ho : ∀ a, ti_ty (mm_k M1 a) → mm_k M1 a = mm_k M a := fun a ha => (hn a).resolve_right (fun q => q ha)
  have hp : ∀ a, ti_ty (mm_k M a) → ∀ j, mm_p M1 a j = mm_p M a j := fun a ha j => (hX.2.2 a ha.ne.1 (fun q => hS a q ha) j).2
  have hk : ∀ a, mm_k M a ≠ 0 → mm_k M1 a = mm_k M a ∧ mm_l M1 a = mm_l M a := hX.1.2.1
  have eg : ∀ a, mm_k M a = 8 → oo_g M1 a = oo_g M a := fun a ha => by unfold oo_g; rw [hp a (Or.inl ha)]
  have ea : ∀ a, mm_k M a = 8 → oo_a M1 a = oo_a M a := fun a ha => by unfold oo_a; rw [hp a (Or.inl ha)]
  have er : ∀ a, mm_k M a = 6 → pr_a M1 a = pr_a M a := fun a ha => by unfold pr_a; rw [hp a (Or.inr (Or.inl ha))]
  have o8 : ∀ a, mm_k M1 a = 8 → mm_k M a = 8 := fun a ha => (ho a (Or.inl ha)).symm.trans ha
  have o6 : ∀ a, mm_k M1 a = 6 → mm_k M a = 6 := fun a ha => (ho a (Or.inr (Or.inl ha))).symm.trans ha
  obtain ⟨h1, h2, h3, h4, h5, h6, h7⟩ := h
  refine ⟨fun a ha => ?_, fun q hq => ?_, fun f j v hf hv => ?_, fun f j v hf hv => ?_, fun a b ha hb e => ?_, fun p q hp1 hq1 e => ?_, fun a q ha hq => ?_⟩
  · have hb := o8 a ha
    obtain ⟨g1, g2, g3, g4, g5, g6⟩ := h1 a hb
    refine ⟨ha, ?_, ?_, ?_, ?_, ?_⟩
    · rw [hp a (Or.inl hb), eg a hb]; exact g2
    · rw [eg a hb, (hk _ (by rw [g3]; decide)).1]; exact g3
    · rw [hp a (Or.inl hb), ea a hb]; exact g4
    · rw [ea a hb, (hk _ (by rw [g5]; decide)).1]; exact g5
    · rw [ea a hb, (hk _ (by rw [g5]; decide)).2]; exact g6
  · have hb := o6 q hq
    obtain ⟨g1, g2, g3, g4⟩ := h2 q hb
    refine ⟨hq, ?_, ?_, ?_⟩
    · rw [hp q (Or.inr (Or.inl hb)), er q hb]; exact g2
    · rw [er q hb, (hk _ (by rw [g3]; decide)).1]; exact g3
    · rw [er q hb, (hk _ (by rw [g3]; decide)).2]; exact g4
  · have hb := (ho f (Or.inr (Or.inr (Or.inl hf)))).symm.trans hf
    rw [hp f (Or.inr (Or.inr (Or.inl hb)))] at hv
    have := h3 f j v hb hv
    rw [(hk v (by rw [this]; decide)).1]
    exact this
  · have hb := (ho f (Or.inr (Or.inr (Or.inr hf)))).symm.trans hf
    rw [hp f (Or.inr (Or.inr (Or.inr hb)))] at hv
    have := h4 f j v hb hv
    rw [(hk v (by rw [this]; decide)).1]
    exact this
  · rw [ea a (o8 a ha), ea b (o8 b hb)] at e
    exact h5 a b (o8 a ha) (o8 b hb) e
  · rw [er p (o6 p hp1), er q (o6 q hq1)] at e
    exact h6 p q (o6 p hp1) (o6 q hq1) e
  · rw [ea a (o8 a ha), er q (o6 q hq)]
    exact h7 a q (o8 a ha) (o6 q hq)
/-- a cell and its array are made: an object or a process -/
theorem ti_T.made {q q' : Nat} (h : ti_T M) (hX : mm_gr M M1 S) (hS : ∀ a, S a → ¬ ti_ty (mm_k M a)) (hn : ∀ a, a ≠ q → a ≠ q' → mm_k M1 a = mm_k M a ∨ ¬ ti_ty (mm_k M1 a))
    (k0 : mm_k M q = 0) (k1 : mm_k M q' = 0) (hq' : mm_k M1 q' = 103) (hnil : ∀ j, mm_p M1 q' j = none) (hq : (mm_k M1 q = 8 ∧ ti_O M1 q ∧ oo_a M1 q = q') ∨ (mm_k M1 q = 6 ∧ ti_P M1 q ∧ pr_a M1 q = q')) : ti_T M1 := by
  have hqq : q ≠ q' := fun z => by
    rw [z, hq'] at hq
    rcases hq with w | w <;> cases w.1
  have ho : ∀ a, a ≠ q → a ≠ q' → ti_ty (mm_k M1 a) → mm_k M1 a = mm_k M a := fun a a1 a2 ha => (hn a a1 a2).resolve_right (fun q => q ha)
  have hp : ∀ a, ti_ty (mm_k M a) → ∀ j, mm_p M1 a j = mm_p M a j := fun a ha j => (hX.2.2 a ha.ne.1 (fun q => hS a q ha) j).2
  have hk : ∀ a, mm_k M a ≠ 0 → mm_k M1 a = mm_k M a ∧ mm_l M1 a = mm_l M a := hX.1.2.1
  have eg : ∀ a, mm_k M a = 8 → oo_g M1 a = oo_g M a := fun a ha => by unfold oo_g; rw [hp a (Or.inl ha)]
  have ea : ∀ a, mm_k M a = 8 → oo_a M1 a = oo_a M a := fun a ha => by unfold oo_a; rw [hp a (Or.inl ha)]
  have er : ∀ a, mm_k M a = 6 → pr_a M1 a = pr_a M a := fun a ha => by unfold pr_a; rw [hp a (Or.inr (Or.inl ha))]
  have n8 : ∀ a, mm_k M1 a = 8 → a ≠ q' := fun a ha z => by rw [z, hq'] at ha; cases ha
  have n6 : ∀ a, mm_k M1 a = 6 → a ≠ q' := fun a ha z => by rw [z, hq'] at ha; cases ha
  have o8 : ∀ a, a ≠ q → mm_k M1 a = 8 → mm_k M a = 8 := fun a a1 ha => (ho a a1 (n8 a ha) (Or.inl ha)).symm.trans ha
  have o6 : ∀ a, a ≠ q → mm_k M1 a = 6 → mm_k M a = 6 := fun a a1 ha => (ho a a1 (n6 a ha) (Or.inr (Or.inl ha))).symm.trans ha
  obtain ⟨h1, h2, h3, h4, h5, h6, h7⟩ := h
  have f8 : ∀ a, mm_k M a = 8 → oo_a M a ≠ q' := fun a ha z => by
    have := (h1 a ha).2.2.2.2.1
    rw [z, k1] at this
    cases this
  have f6 : ∀ a, mm_k M a = 6 → pr_a M a ≠ q' := fun a ha z => by
    have := (h2 a ha).2.2.1
    rw [z, k1] at this
    cases this
  refine ⟨fun a ha => ?_, fun p hp1 => ?_, fun f j v hf hv => ?_, fun f j v hf hv => ?_, fun a b ha hb e => ?_, fun p p' hp1 hq1 e => ?_, fun a p ha hp1 => ?_⟩
  · by_cases z : a = q
    · subst z
      rcases hq with w | w
      · exact w.2.1
      · rw [w.1] at ha
        cases ha
    · have hb := o8 a z ha
      obtain ⟨g1, g2, g3, g4, g5, g6⟩ := h1 a hb
      refine ⟨ha, ?_, ?_, ?_, ?_, ?_⟩
      · rw [hp a (Or.inl hb), eg a hb]; exact g2
      · rw [eg a hb, (hk _ (by rw [g3]; decide)).1]; exact g3
      · rw [hp a (Or.inl hb), ea a hb]; exact g4
      · rw [ea a hb, (hk _ (by rw [g5]; decide)).1]; exact g5
      · rw [ea a hb, (hk _ (by rw [g5]; decide)).2]; exact g6
  · by_cases z : p = q
    · subst z
      rcases hq with w | w
      · rw [w.1] at hp1
        cases hp1
      · exact w.2.1
    · have hb := o6 p z hp1
      obtain ⟨g1, g2, g3, g4⟩ := h2 p hb
      refine ⟨hp1, ?_, ?_, ?_⟩
      · rw [hp p (Or.inr (Or.inl hb)), er p hb]; exact g2
      · rw [er p hb, (hk _ (by rw [g3]; decide)).1]; exact g3
      · rw [er p hb, (hk _ (by rw [g3]; decide)).2]; exact g4
  · by_cases z : f = q'
    · subst z
      rw [hnil] at hv
      cases hv
    · have z2 : f ≠ q := fun w => by
        rw [w] at hf
        rcases hq with u | u <;> rw [hf] at u <;> cases u.1
      have hb := (ho f z2 z (Or.inr (Or.inr (Or.inl hf)))).symm.trans hf
      rw [hp f (Or.inr (Or.inr (Or.inl hb)))] at hv
      have := h3 f j v hb hv
      rw [(hk v (by rw [this]; decide)).1]
      exact this
  · have z : f ≠ q' := fun w => by rw [w, hq'] at hf; cases hf
    have z2 : f ≠ q := fun w => by
      rw [w] at hf
      rcases hq with u | u <;> rw [hf] at u <;> cases u.1
    have hb := (ho f z2 z (Or.inr (Or.inr (Or.inr hf)))).symm.trans hf
    rw [hp f (Or.inr (Or.inr (Or.inr hb)))] at hv
    have := h4 f j v hb hv
    rw [(hk v (by rw [this]; decide)).1]
    exact this
  · have hqa : ∀ c, c = q → mm_k M1 c = 8 → oo_a M1 c = q' := fun c hc h8 => by
      subst hc
      rcases hq with w | w
      · exact w.2.2
      · rw [w.1] at h8
        cases h8
    by_cases z : a = q
    · by_cases z2 : b = q
      · rw [z, z2]
      · rw [hqa a z ha, ea b (o8 b z2 hb)] at e
        exact absurd e.symm (f8 b (o8 b z2 hb))
    · by_cases z2 : b = q
      · rw [hqa b z2 hb, ea a (o8 a z ha)] at e
        exact absurd e (f8 a (o8 a z ha))
      · rw [ea a (o8 a z ha), ea b (o8 b z2 hb)] at e
        exact h5 a b (o8 a z ha) (o8 b z2 hb) e
  · have hqa : ∀ c, c = q → mm_k M1 c = 6 → pr_a M1 c = q' := fun c hc h8 => by
      subst hc
      rcases hq with w | w
      · rw [w.1] at h8
        cases h8
      · exact w.2.2
    by_cases z : p = q
    · by_cases z2 : p' = q
      · rw [z, z2]
      · rw [hqa p z hp1, er p' (o6 p' z2 hq1)] at e
        exact absurd e.symm (f6 p' (o6 p' z2 hq1))
    · by_cases z2 : p' = q
      · rw [hqa p' z2 hq1, er p (o6 p z hp1)] at e
        exact absurd e (f6 p (o6 p z hp1))
      · rw [er p (o6 p z hp1), er p' (o6 p' z2 hq1)] at e
        exact h6 p p' (o6 p z hp1) (o6 p' z2 hq1) e
  · by_cases z : a = q
    · have z2 : p ≠ q := fun w => by rw [z] at ha; rw [w, ha] at hp1; cases hp1
      subst z
      rcases hq with w | w
      · rw [w.2.2, er p (o6 p z2 hp1)]
        exact fun u => f6 p (o6 p z2 hp1) u.symm
      · rw [w.1] at ha
        cases ha
    · by_cases z2 : p = q
      · subst z2
        rcases hq with w | w
        · rw [w.1] at hp1
          cases hp1
        · rw [w.2.2, ea a (o8 a z ha)]
          exact f8 a (o8 a z ha)
      · rw [ea a (o8 a z ha), er p (o6 p z2 hp1)]
        exact h7 a p (o8 a z ha) (o6 p z2 hp1)
end TG
