/-! THE CLASS AS A WHOLE: single writes -/
def di (D : ph_D) (k j : Nat) (v : Int32) : ph_D := (D.1, fun q i => if q = k ∧ i = j then v else D.2.1 q i, D.2.2)
def dp (D : ph_D) (k j : Nat) (v : Option Nat) : ph_D := (D.1, D.2.1, fun q i => if q = k ∧ i = j then v else D.2.2 q i)
section PY
variable {l : Launch} {G : mm_G} {K : Option mm_V → mm_M → Prop} {M M1 Mb : mm_M} {c : Nat → Nat} {F : Nat → Prop} {D D1 : ph_D} {eP eO eP1 eO1 : Nat}
theorem di_i (D : ph_D) (k j : Nat) (v : Int32) (q i : Nat) : (di D k j v).2.1 q i = if q = k ∧ i = j then v else D.2.1 q i := rfl
theorem di_n {D : ph_D} {k j : Nat} {v : Int32} {q i : Nat} (h : ¬ q = k) : (di D k j v).2.1 q i = D.2.1 q i := by rw [di_i, if_neg (fun z => h z.1)]
theorem dp_p (D : ph_D) (k j : Nat) (v : Option Nat) (q i : Nat) : (dp D k j v).2.2 q i = if q = k ∧ i = j then v else D.2.2 q i := rfl
theorem dp_n {D : ph_D} {k j : Nat} {v : Option Nat} {q i : Nat} (h : ¬ q = k) : (dp D k j v).2.2 q i = D.2.2 q i := by rw [dp_p, if_neg (fun z => h z.1)]
theorem ph_R.kp (h : ph_R G c F Mb M D eP eO) : ∀ a, F a → mm_k M a ≠ 6 ∧ mm_k M a ≠ 7 ∧ mm_k M a ≠ 8 ∧ mm_k M a ≠ 1 ∧ mm_k M a ≠ 4 ∧ mm_k M a ≠ 3 ∧ mm_k M a ≠ 102 ∧ mm_k M a ≠ 103 ∧ mm_k M a ≠ 104 ∧ mm_k M a ≠ 105 := fun a ha => by
  rcases (h.2.2.2.2.2.2.2 a ha).1 with z | z | z | z <;> rw [z] <;> decide
theorem ph_R.inj (h : ph_R G c F Mb M D eP eO) {p p' q : Nat} (hp : p < 8) (hp' : p' < 8) (h1 : mm_p M (c 8) p = some q) (h2 : mm_p M (c 8) p' = some q) : p = p' := by
  have e1 := (h.prs hp h1).2.1
  have e2 := (h.prs hp' h2).2.1
  rw [e1] at e2
  exact (nI_eq (by omega) (by omega)).mp e2
/-- the rows of the limits are the class's own affair -/
theorem ph_R.lim (h : ph_R G c F Mb M D eP eO) (U S E : Nat → Int32) : ph_R G c F Mb (lm_M M (c 5) (c 6) (c 7) U S E) D eP eO := by
  have hL := h.lm
  have hq : ∀ a, mm_k M a ≠ 100 → mm_k M a ≠ 101 → ∀ j, mm_i (lm_M M (c 5) (c 6) (c 7) U S E) a j = mm_i M a j := fun a h1 h2 j => hL.i h1 h2
  have k1 := h.2.1.1
  have hg7 := h.1.2.2.2.2.2.2.2.2.2.1
  have hx8 := h.1.2.2.2.2.2.2.2.2.2.2.1
  refine h.ints (fun _ => rfl) (fun _ => rfl) (hL.W h.1) (fun _ z => z) (fun _ _ _ _ _ _ => rfl) (fun a ha => ?_) (fun a ha j => ⟨?_, rfl⟩) (hq _ (by rw [k1]; decide) (by rw [k1]; decide) 5) rfl ?_ (fun p q hp hqq => ?_) (fun p hp hn => ?_) (fun g hg => ?_) (fun a ha => ?_) (fun _ _ => rfl)
  · rw [hq a (by rw [ha]; decide) (by rw [ha]; decide)]
    exact (h.2.2.1.1 a ha).2.2
  · obtain ⟨n1, n2, n3⟩ := (h.2.2.2.2.2.2.2 a ha).2.1
    rw [lm_i, if_neg n1, if_neg n2, if_neg n3]
  · rw [hq _ (by rw [k1]; decide) (by rw [k1]; decide)]
    exact h.2.2.2.2.2.2.1.2
  · obtain ⟨h6, z⟩ := h.prs hp hqq
    have e : ∀ j, mm_i (lm_M M (c 5) (c 6) (c 7) U S E) q j = mm_i M q j := hq q (by rw [h6]; decide) (by rw [h6]; decide)
    rw [e, e, e, e, e, e, e]
    exact ⟨z.1, z.2.1, z.2.2.1, z.2.2.2.1, z.2.2.2.2.1, z.2.2.2.2.2.1, z.2.2.2.2.2.2.1⟩
  · rcases h.pr hp with ⟨-, z⟩ | ⟨q, z, -⟩
    · exact z
    · rw [z] at hn
      cases hn
  · have e : ∀ j, mm_i (lm_M M (c 5) (c 6) (c 7) U S E) g j = mm_i M g j := hq g (by rw [hg7 g hg]; decide) (by rw [hg7 g hg]; decide)
    rw [e, e, e]
    exact h.2.2.2.2.1 g hg
  · have e : ∀ j, mm_i (lm_M M (c 5) (c 6) (c 7) U S E) a j = mm_i M a j := hq a (by rw [hx8 a ha]; decide) (by rw [hx8 a ha]; decide)
    have z := h.2.2.2.2.2.1 a ha
    rw [e, e, e]
    exact ⟨z.2.1, z.2.2.1, z.2.2.2.1⟩
/-- a process's state, its shared heap that is being built, its charges -/
theorem ph_R.sq (h : ph_R G c F Mb M D eP eO) {p q j kd : Nat} (hp : p < 8) (hq : mm_p M (c 8) p = some q) (hj : (j = 5 ∧ kd = 6) ∨ (j = 6 ∧ kd = 10) ∨ (j = 7 ∧ kd = 11)) (v : Int32) : ph_R G c F Mb (mm_si M q j v) (di D kd p v) eP eO := by
  obtain ⟨h6, hQ⟩ := h.prs hp hq
  have k1 := h.2.1.1
  have hg7 := h.1.2.2.2.2.2.2.2.2.2.1
  have hx8 := h.1.2.2.2.2.2.2.2.2.2.2.1
  have hi : ∀ a i, mm_k M a ≠ 6 → mm_i (mm_si M q j v) a i = mm_i M a i := fun a i ha => by rw [mm_i_si, if_neg (fun z => ha (by rw [z.1]; exact h6))]
  have hkd : ∀ k, k ≠ 6 → k ≠ 10 → k ≠ 11 → ∀ i, (di D kd p v).2.1 k i = D.2.1 k i := fun k k1 k2 k3 i => di_n (fun z => by rcases hj with w | w | w <;> omega)
  refine h.ints (fun _ => rfl) (fun _ => rfl) (h.1.si (by rw [h6]; decide)) (fun _ z => z) (fun _ _ _ _ _ _ => rfl) (fun a ha => ?_) (fun a ha i => ⟨hi a i (h.kp a ha).1, rfl⟩) (hi _ _ (by rw [k1]; decide)) (hkd 12 (by decide) (by decide) (by decide) 0) ?_ (fun p' q' hp' hq' => ?_) (fun p' hp' hn => ?_) (fun g hg => ?_) (fun a ha => ?_) (fun _ _ => rfl)
  · rw [hi a 4 (by rw [ha]; decide)]
    exact (h.2.2.1.1 a ha).2.2
  · rw [hi _ _ (by rw [k1]; decide), hkd 12 (by decide) (by decide) (by decide)]
    exact h.2.2.2.2.2.2.1.2
  · obtain ⟨h6', z⟩ := h.prs hp' hq'
    have es : ∀ i k, (i = 5 ∧ k = 6) ∨ (i = 6 ∧ k = 10) ∨ (i = 7 ∧ k = 11) → mm_i M q' i = D.2.1 k p' → mm_i (mm_si M q j v) q' i = (di D kd p v).2.1 k p' := by
      intro i k hik he
      rw [mm_i_si, di_i]
      by_cases w : p' = p
      · subst w
        rw [hq] at hq'
        have e : q = q' := Option.some.inj hq'
        subst e
        by_cases u : i = j
        · have u2 : k = kd := by rcases hj with w | w | w <;> rcases hik with v | v | v <;> omega
          rw [if_pos ⟨rfl, u⟩, if_pos ⟨u2, rfl⟩]
        · have u2 : ¬ k = kd := fun w => u (by rcases hj with x | x | x <;> rcases hik with y | y | y <;> omega)
          rw [if_neg (fun z => u z.2), if_neg (fun z => u2 z.1)]
          exact he
      · have hne : ¬ q' = q := fun e => by
          rw [e] at hq'
          exact w (h.inj hp' hp hq' hq)
        rw [if_neg (fun z => hne z.1), if_neg (fun z => w z.2)]
        exact he
    have en : ∀ i, i ≠ 5 → i ≠ 6 → i ≠ 7 → mm_i (mm_si M q j v) q' i = mm_i M q' i := fun i i1 i2 i3 => by rw [mm_i_si, if_neg (fun w => by rcases hj with x | x | x <;> omega)]
    refine ⟨by rw [en 0 (by decide) (by decide) (by decide)]; exact z.1, es 5 6 (Or.inl ⟨rfl, rfl⟩) z.2.1, ?_, ?_, ?_, es 6 10 (Or.inr (Or.inl ⟨rfl, rfl⟩)) z.2.2.2.2.2.1, es 7 11 (Or.inr (Or.inr ⟨rfl, rfl⟩)) z.2.2.2.2.2.2.1⟩
    · rw [en 1 (by decide) (by decide) (by decide), hkd 7 (by decide) (by decide) (by decide)]
      exact z.2.2.1
    · rw [en 2 (by decide) (by decide) (by decide), hkd 8 (by decide) (by decide) (by decide)]
      exact z.2.2.2.1
    · rw [en 3 (by decide) (by decide) (by decide), hkd 9 (by decide) (by decide) (by decide)]
      exact z.2.2.2.2.1
  · have hne : ¬ p' = p := fun e => by rw [e, hq] at hn; cases hn
    rw [di_i, if_neg (fun z => hne z.2)]
    rcases h.pr hp' with ⟨-, z⟩ | ⟨q', z, -⟩
    · exact z
    · rw [z] at hn
      cases hn
  · rw [hi g 0 (by rw [hg7 g hg]; decide), hi g 1 (by rw [hg7 g hg]; decide), hi g 2 (by rw [hg7 g hg]; decide), hkd 0 (by decide) (by decide) (by decide), hkd 1 (by decide) (by decide) (by decide), hkd 2 (by decide) (by decide) (by decide)]
    exact h.2.2.2.2.1 g hg
  · have z := h.2.2.2.2.2.1 a ha
    have n6 : mm_k M a ≠ 6 := by rw [hx8 a ha]; decide
    rw [hi a 1 n6, hi a 2 n6, hi a 5 n6, hkd 3 (by decide) (by decide) (by decide), hkd 4 (by decide) (by decide) (by decide), hkd 5 (by decide) (by decide) (by decide)]
    exact ⟨z.2.1, z.2.2.1, z.2.2.2.1⟩
end PY
