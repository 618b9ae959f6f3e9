/-! THE CLASS AS A WHOLE: its state in plain data. D = ((pages, objects), ints, references): ints 0 page's heap, 1 page's payer, 2 page's free cells, 3 object's size, 4 object's tag, 5 object's items (by their addresses), 6 process's state, 7 parent, 8 limit, 9 hard, 10 building, 11 charges (by its number), 12 made (0), next shared (1); references 0 object's page, 1 to 3 its fields, 4 to 7 process's registers, 8 heads, 9 the process itself. c: the addresses 0 the object itself, 1 memory, 2 collector, 3 its row, 4 limits, 5 used, 6 spare, 7 exists, 8 processes, 9 heads, 10 list of pages, 11 list of objects -/
abbrev ph_D : Type := (List Nat × List Nat) × (Nat → Nat → Int32) × (Nat → Nat → Option Nat)
def ph_X (M : mm_M) (c : Nat → Nat) : Prop := mm_k M (c 0) = 1 ∧ mm_p M (c 0) 0 = some (c 1) ∧ mm_p M (c 0) 1 = some (c 2) ∧ mm_p M (c 0) 2 = some (c 4) ∧ mm_p M (c 0) 3 = some (c 8) ∧ mm_p M (c 0) 4 = some (c 9) ∧ mm_k M (c 2) = 4 ∧ mm_p M (c 2) 0 = some (c 3) ∧ mm_k M (c 3) = 103 ∧ mm_l M (c 3) = 60 ∧ lm_H M (c 4) (c 5) (c 6) (c 7) ∧ mm_k M (c 8) = 104 ∧ mm_l M (c 8) = 8 ∧ mm_k M (c 9) = 103 ∧ mm_l M (c 9) = 13 ∧ c 9 ≠ c 3
def ph_Y (M : mm_M) (c : Nat → Nat) : Prop := (∀ a, mm_k M a = 8 → oo_a M a ≠ c 3 ∧ oo_a M a ≠ c 9 ∧ mm_i M a 4 = 0) ∧ ∀ q, mm_k M q = 6 → pr_a M q ≠ c 3 ∧ pr_a M q ≠ c 9
/-- the process q has the number p -/
def ph_Q (M : mm_M) (D : ph_D) (p q : Nat) : Prop := mm_i M q 0 = nI p ∧ mm_i M q 5 = D.2.1 6 p ∧ mm_i M q 1 = D.2.1 7 p ∧ mm_i M q 2 = D.2.1 8 p ∧ mm_i M q 3 = D.2.1 9 p ∧ mm_i M q 6 = D.2.1 10 p ∧ mm_i M q 7 = D.2.1 11 p ∧ (∀ r, r < 4 → pr_r M q r = D.2.2 (4 + r) p) ∧ D.2.2 9 p = some q
def ph_P (M : mm_M) (c : Nat → Nat) (D : ph_D) : Prop := ∃ m, 1 ≤ m ∧ m ≤ 8 ∧ mm_i M (c 0) 5 = nI m ∧ D.2.1 12 0 = nI m ∧ (∀ p, m ≤ p → p < 8 → mm_p M (c 8) p = none ∧ D.2.1 6 p = 0) ∧ ∀ p, p < m → ∃ q, mm_p M (c 8) p = some q ∧ ph_Q M D p q
def ph_G (M : mm_M) (D : ph_D) : Prop := ∀ g, g ∈ D.1.1 → mm_i M g 0 = D.2.1 0 g ∧ mm_i M g 1 = D.2.1 1 g ∧ mm_i M g 2 = D.2.1 2 g
def ph_O (M : mm_M) (D : ph_D) : Prop := ∀ a, a ∈ D.1.2 → D.2.2 0 a = some (oo_g M a) ∧ mm_i M a 1 = D.2.1 3 a ∧ mm_i M a 2 = D.2.1 4 a ∧ mm_i M a 5 = D.2.1 5 a ∧ ∀ f, f < 3 → oo_f M a f = D.2.2 (1 + f) a
def ph_V (M : mm_M) (c : Nat → Nat) (D : ph_D) : Prop := (∀ h, h < 13 → mm_p M (c 9) h = D.2.2 8 h) ∧ mm_i M (c 0) 6 = D.2.1 12 1
/-- what is not the class's stays as it is in Mb -/
def ph_F (F : Nat → Prop) (Mb M : mm_M) (c : Nat → Nat) : Prop := ∀ a, F a → (mm_k M a = 9 ∨ mm_k M a = 100 ∨ mm_k M a = 101 ∨ mm_k M a = 106) ∧ (a ≠ c 5 ∧ a ≠ c 6 ∧ a ≠ c 7) ∧ mm_k M a = mm_k Mb a ∧ mm_l M a = mm_l Mb a ∧ ∀ j, mm_i M a j = mm_i Mb a j ∧ mm_p M a j = mm_p Mb a j
def ph_R (G : mm_G) (c : Nat → Nat) (F : Nat → Prop) (Mb M : mm_M) (D : ph_D) (eP eO : Nat) : Prop := me_W G M (c 1) (c 10) (c 11) eP eO D.1.1 D.1.2 ∧ ph_X M c ∧ ph_Y M c ∧ ph_P M c D ∧ ph_G M D ∧ ph_O M D ∧ ph_V M c D ∧ ph_F F Mb M c
section PX
variable {l : Launch} {G : mm_G} {K : Option mm_V → mm_M → Prop} {M M1 Mb : mm_M} {c : Nat → Nat} {F : Nat → Prop} {D D1 : ph_D} {eP eO eP1 eO1 : Nat}
theorem ph_X.keep (h : ph_X M c) (hk : ∀ a, mm_k M a ≠ 0 → mm_k M1 a = mm_k M a ∧ mm_l M1 a = mm_l M a) (hp : ∀ a, mm_k M a = 1 ∨ mm_k M a = 4 ∨ mm_k M a = 5 → ∀ j, mm_p M1 a j = mm_p M a j) : ph_X M1 c := by
  obtain ⟨h1, h2, h3, h4, h5, h6, h7, h8, h9, h10, ⟨g1, g2, g3, g4, g5, g6, g7, g8, g9, g10, g11⟩, h12, h13, h14, h15, h16⟩ := h
  have k : ∀ {a n : Nat}, mm_k M a = n + 1 → mm_k M1 a = n + 1 := fun {a n} e => by rw [(hk a (by rw [e]; exact Nat.succ_ne_zero n)).1]; exact e
  have l : ∀ {a n m : Nat}, mm_k M a = n + 1 → mm_l M a = m → mm_l M1 a = m := fun {a n m} e e2 => by rw [(hk a (by rw [e]; exact Nat.succ_ne_zero n)).2]; exact e2
  exact ⟨k h1, by rw [hp _ (Or.inl h1)]; exact h2, by rw [hp _ (Or.inl h1)]; exact h3, by rw [hp _ (Or.inl h1)]; exact h4, by rw [hp _ (Or.inl h1)]; exact h5, by rw [hp _ (Or.inl h1)]; exact h6, k h7, by rw [hp _ (Or.inr (Or.inl h7))]; exact h8, k h9, l h9 h10,
    ⟨k g1, by rw [hp _ (Or.inr (Or.inr g1))]; exact g2, by rw [hp _ (Or.inr (Or.inr g1))]; exact g3, by rw [hp _ (Or.inr (Or.inr g1))]; exact g4, k g5, k g6, k g7, l g5 g8, l g6 g9, l g7 g10, g11⟩, k h12, l h12 h13, k h14, l h14 h15, h16⟩
theorem ph_R.co (h : ph_R G c F Mb M D eP eO) : co_H M (c 2) (c 3) := ⟨h.1.2.1, h.2.1.2.2.2.2.2.2.1, h.2.1.2.2.2.2.2.2.2.1, h.2.1.2.2.2.2.2.2.2.2.1, h.2.1.2.2.2.2.2.2.2.2.2.1, fun a ha => ⟨(h.2.2.1.1 a ha).1, (h.2.2.1.1 a ha).2.2⟩, fun q hq => (h.2.2.1.2 q hq).1⟩
theorem ph_R.lm (h : ph_R G c F Mb M D eP eO) : lm_H M (c 4) (c 5) (c 6) (c 7) := h.2.1.2.2.2.2.2.2.2.2.2.2.1
theorem ph_R.kar (h : ph_R G c F Mb M D eP eO) : mm_k M (c 8) = 104 := h.2.1.2.2.2.2.2.2.2.2.2.2.2.1
theorem ph_R.lar (h : ph_R G c F Mb M D eP eO) : mm_l M (c 8) = 8 := h.2.1.2.2.2.2.2.2.2.2.2.2.2.2.1
theorem ph_R.kah (h : ph_R G c F Mb M D eP eO) : mm_k M (c 9) = 103 := h.2.1.2.2.2.2.2.2.2.2.2.2.2.2.2.1
theorem ph_R.lah (h : ph_R G c F Mb M D eP eO) : mm_l M (c 9) = 13 := h.2.1.2.2.2.2.2.2.2.2.2.2.2.2.2.2.1
/-- the process with the number p -/
theorem ph_R.pr (h : ph_R G c F Mb M D eP eO) {p : Nat} (hp : p < 8) : (mm_p M (c 8) p = none ∧ D.2.1 6 p = 0) ∨ ∃ q, mm_p M (c 8) p = some q ∧ mm_k M q = 6 ∧ ph_Q M D p q := by
  obtain ⟨m, h1, h2, h3, h4, h5, h6⟩ := h.2.2.2.1
  rcases Nat.lt_or_ge p m with z | z
  · obtain ⟨q, hq, h7⟩ := h6 p z
    exact Or.inr ⟨q, hq, h.1.2.1.2.2.2.1 (c 8) p q h.kar hq, h7⟩
  · exact Or.inl (h5 p z hp)
theorem ph_R.prs (h : ph_R G c F Mb M D eP eO) {p q : Nat} (hp : p < 8) (hq : mm_p M (c 8) p = some q) : mm_k M q = 6 ∧ ph_Q M D p q := by
  rcases h.pr hp with ⟨z, -⟩ | ⟨q', z, h1, h2⟩
  · rw [z] at hq
    cases hq
  · rw [z] at hq
    have e : q' = q := Option.some.inj hq
    subst e
    exact ⟨h1, h2⟩
/-- nothing is made, and no reference of the class's own is written -/
theorem ph_R.ints (h : ph_R G c F Mb M D eP eO) (hk : ∀ a, mm_k M1 a = mm_k M a) (hl : ∀ a, mm_l M1 a = mm_l M a) (hW : me_W G M1 (c 1) (c 10) (c 11) eP1 eO1 D1.1.1 D1.1.2) (hx : ∀ a, a ∈ D1.1.2 → a ∈ D.1.2)
    (hp : ∀ a, mm_k M a ≠ 3 → mm_k M a ≠ 102 → mm_k M a ≠ 105 → a ≠ c 3 → ∀ j, mm_p M1 a j = mm_p M a j) (h4 : ∀ a, mm_k M a = 8 → mm_i M1 a 4 = 0) (hF : ∀ a, F a → ∀ j, mm_i M1 a j = mm_i M a j ∧ mm_p M1 a j = mm_p M a j)
    (ht : mm_i M1 (c 0) 5 = mm_i M (c 0) 5) (h12 : D1.2.1 12 0 = D.2.1 12 0) (ht6 : mm_i M1 (c 0) 6 = D1.2.1 12 1)
    (hq : ∀ p q, p < 8 → mm_p M (c 8) p = some q → mm_i M1 q 0 = nI p ∧ mm_i M1 q 5 = D1.2.1 6 p ∧ mm_i M1 q 1 = D1.2.1 7 p ∧ mm_i M1 q 2 = D1.2.1 8 p ∧ mm_i M1 q 3 = D1.2.1 9 p ∧ mm_i M1 q 6 = D1.2.1 10 p ∧ mm_i M1 q 7 = D1.2.1 11 p) (hq0 : ∀ p, p < 8 → mm_p M (c 8) p = none → D1.2.1 6 p = 0)
    (hg : ph_G M1 D1) (ho : ∀ a, a ∈ D1.1.2 → mm_i M1 a 1 = D1.2.1 3 a ∧ mm_i M1 a 2 = D1.2.1 4 a ∧ mm_i M1 a 5 = D1.2.1 5 a) (hr : ∀ k j, D1.2.2 k j = D.2.2 k j) : ph_R G c F Mb M1 D1 eP1 eO1 := by
  obtain ⟨f1, f2, f3, f4, f5, f6, f7, f8⟩ := h
  have kar : mm_k M (c 8) = 104 := f2.2.2.2.2.2.2.2.2.2.2.2.1
  have kah : mm_k M (c 9) = 103 := f2.2.2.2.2.2.2.2.2.2.2.2.2.2.1
  have nah : c 9 ≠ c 3 := f2.2.2.2.2.2.2.2.2.2.2.2.2.2.2.2
  have kcr : mm_k M (c 3) = 103 := f2.2.2.2.2.2.2.2.2.1
  have ncr : ∀ a, mm_k M a ≠ 103 → a ≠ c 3 := fun a ha q => ha (by rw [q]; exact kcr)
  have p8 : ∀ a, mm_k M a = 8 → ∀ j, mm_p M1 a j = mm_p M a j := fun a ha => hp a (by rw [ha]; decide) (by rw [ha]; decide) (by rw [ha]; decide) (ncr a (by rw [ha]; decide))
  have p6 : ∀ a, mm_k M a = 6 → ∀ j, mm_p M1 a j = mm_p M a j := fun a ha => hp a (by rw [ha]; decide) (by rw [ha]; decide) (by rw [ha]; decide) (ncr a (by rw [ha]; decide))
  have p103 : ∀ a, mm_k M a = 103 → a ≠ c 3 → ∀ j, mm_p M1 a j = mm_p M a j := fun a ha hn => hp a (by rw [ha]; decide) (by rw [ha]; decide) (by rw [ha]; decide) hn
  have par : ∀ j, mm_p M1 (c 8) j = mm_p M (c 8) j := hp (c 8) (by rw [kar]; decide) (by rw [kar]; decide) (by rw [kar]; decide) (ncr _ (by rw [kar]; decide))
  have ea : ∀ a, mm_k M a = 8 → oo_a M1 a = oo_a M a := fun a ha => by unfold oo_a; rw [p8 a ha]
  have eg : ∀ a, mm_k M a = 8 → oo_g M1 a = oo_g M a := fun a ha => by unfold oo_g; rw [p8 a ha]
  have er : ∀ a, mm_k M a = 6 → pr_a M1 a = pr_a M a := fun a ha => by unfold pr_a; rw [p6 a ha]
  have hT := f1.2.1
  refine ⟨hW, f2.keep (fun a _ => ⟨hk a, hl a⟩) (fun a ha => hp a (by rcases ha with z | z | z <;> rw [z] <;> decide) (by rcases ha with z | z | z <;> rw [z] <;> decide) (by rcases ha with z | z | z <;> rw [z] <;> decide) (ncr a (by rcases ha with z | z | z <;> rw [z] <;> decide))), ⟨fun a ha => ?_, fun q hq1 => ?_⟩, ?_, hg, fun a ha => ?_, ⟨fun h hh => ?_, ht6⟩, fun a ha => ?_⟩
  · rw [hk] at ha
    rw [ea a ha]
    exact ⟨(f3.1 a ha).1, (f3.1 a ha).2.1, h4 a ha⟩
  · rw [hk] at hq1
    rw [er q hq1]
    exact f3.2 q hq1
  · obtain ⟨m, m1, m2, m3, m4, m5, m6⟩ := f4
    refine ⟨m, m1, m2, by rw [ht]; exact m3, by rw [h12]; exact m4, fun p z1 z2 => ?_, fun p z1 => ?_⟩
    · rw [par]
      exact ⟨(m5 p z1 z2).1, hq0 p z2 (m5 p z1 z2).1⟩
    · obtain ⟨q, q1, q2⟩ := m6 p z1
      have hq6 := hT.2.2.2.1 (c 8) p q kar q1
      obtain ⟨w1, w2, w3, w4, w5, w6, w7⟩ := hq p q (by omega) q1
      refine ⟨q, by rw [par]; exact q1, w1, w2, w3, w4, w5, w6, w7, fun r hr4 => ?_, by rw [hr]; exact q2.2.2.2.2.2.2.2.2⟩
      unfold pr_r
      rw [er q hq6, p103 _ (hT.2.1 q hq6).2.2.1 (f3.2 q hq6).1, hr]
      exact q2.2.2.2.2.2.2.2.1 r hr4
  · have ha8 := f1.2.2.2.2.2.2.2.2.2.2.1 a (hx a ha)
    have z := f6 a (hx a ha)
    refine ⟨by rw [hr, eg a ha8]; exact z.1, (ho a ha).1, (ho a ha).2.1, (ho a ha).2.2, fun f hf => ?_⟩
    unfold oo_f
    rw [ea a ha8, p103 _ (hT.1 a ha8).2.2.2.2.1 (f3.1 a ha8).1, hr]
    exact z.2.2.2.2 f hf
  · rw [p103 _ kah nah, hr]
    exact f7.1 h hh
  · obtain ⟨z1, z2, z3, z4, z5⟩ := f8 a ha
    rw [hk, hl]
    exact ⟨z1, z2, z3, z4, fun j => ⟨(hF a ha j).1.trans (z5 j).1, (hF a ha j).2.trans (z5 j).2⟩⟩
end PX
