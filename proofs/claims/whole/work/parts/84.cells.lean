/-! PLAIN DATA: the cells of pages are accounted for -/
def d_sz (D : ph_D) : Prop := ∀ a, a ∈ D.1.2 → ∃ s, 1 ≤ s ∧ s ≤ 16 ∧ D.2.1 3 a = nI s
def d_ac (D : ph_D) : Prop := ∀ g, g ∈ D.1.1 → D.2.1 2 g + d_s D g D.1.2 = 16
def d_A (D : ph_D) : Prop := d_pg D ∧ d_ac D ∧ d_sz D ∧ D.1.2.length ≤ 60
section QJ
variable {D D1 : ph_D}
theorem d_s_cong (g : Nat) : ∀ ys : List Nat, (∀ a, a ∈ ys → D1.2.2 0 a = D.2.2 0 a ∧ D1.2.1 3 a = D.2.1 3 a) → d_s D1 g ys = d_s D g ys
  | [], _ => rfl
  | a :: t, h => by
    have ih := d_s_cong g t (fun b hb => h b (List.mem_cons_of_mem _ hb))
    have z := h a List.mem_cons_self
    show (if D1.2.2 0 a = some g then D1.2.1 3 a + d_s D1 g t else d_s D1 g t) = if D.2.2 0 a = some g then D.2.1 3 a + d_s D g t else d_s D g t
    rw [z.1, z.2, ih]
theorem d_s_split (g : Nat) (kp : Nat → Bool) : ∀ ys : List Nat, d_s D g ys = d_s D g (ys.filter kp) + d_s D g (ys.filter (fun b => !kp b))
  | [] => by
    show (0 : Int32) = 0 + 0
    decide
  | a :: t => by
    have ih := d_s_split g kp t
    have e : ∀ u, d_s D g (a :: u) = if D.2.2 0 a = some g then D.2.1 3 a + d_s D g u else d_s D g u := fun _ => rfl
    by_cases w : kp a = true
    · rw [List.filter_cons_of_pos w, List.filter_cons_of_neg (by simp [w]), e, e]
      by_cases v : D.2.2 0 a = some g
      · rw [if_pos v, if_pos v, ih, Int32.add_assoc]
      · rw [if_neg v, if_neg v, ih]
    · rw [List.filter_cons_of_neg w, List.filter_cons_of_pos (by simp [w]), e, e]
      by_cases v : D.2.2 0 a = some g
      · rw [if_pos v, if_pos v, ih, ← Int32.add_assoc, ← Int32.add_assoc, Int32.add_comm (D.2.1 3 a)]
      · rw [if_neg v, if_neg v, ih]
theorem d_s_nat (g : Nat) : ∀ ys : List Nat, (∀ a, a ∈ ys → ∃ s, 1 ≤ s ∧ s ≤ 16 ∧ D.2.1 3 a = nI s) → ∃ n, d_s D g ys = nI n ∧ n ≤ 16 * ys.length ∧ ∀ a, a ∈ ys → D.2.2 0 a = some g → 1 ≤ n
  | [], _ => ⟨0, rfl, Nat.zero_le _, fun a ha => by cases ha⟩
  | a :: t, h => by
    obtain ⟨n, e, hn, hp⟩ := d_s_nat g t (fun b hb => h b (List.mem_cons_of_mem _ hb))
    obtain ⟨s, s1, s2, es⟩ := h a List.mem_cons_self
    by_cases w : D.2.2 0 a = some g
    · refine ⟨s + n, ?_, by rw [List.length_cons]; omega, fun b _ _ => by omega⟩
      show (if D.2.2 0 a = some g then D.2.1 3 a + d_s D g t else d_s D g t) = _
      rw [if_pos w, es, e, nI_add]
    · refine ⟨n, ?_, by rw [List.length_cons]; omega, fun b hb hw => ?_⟩
      · show (if D.2.2 0 a = some g then D.2.1 3 a + d_s D g t else d_s D g t) = _
        rw [if_neg w, e]
      · rcases List.mem_cons.mp hb with z | z
        · rw [z] at hw
          exact absurd hw w
        · exact hp b z hw
theorem d_A.cong (h : d_A D) (e1 : D1.1.2 = D.1.2) (e2 : ∀ g, g ∈ D1.1.1 ↔ g ∈ D.1.1) (e3 : ∀ j, D1.2.1 2 j = D.2.1 2 j) (e4 : ∀ j, D1.2.1 3 j = D.2.1 3 j) (e5 : ∀ j, D1.2.2 0 j = D.2.2 0 j) : d_A D1 := by
  obtain ⟨h1, h2, h3, h4⟩ := h
  refine ⟨fun a ha => ?_, fun g hg => ?_, fun a ha => ?_, by rw [e1]; exact h4⟩
  · rw [e1] at ha
    obtain ⟨g, hg, e⟩ := h1 a ha
    exact ⟨g, (e2 g).mpr hg, by rw [e5]; exact e⟩
  · rw [e3, e1, d_s_cong (D := D) g _ (fun a _ => ⟨e5 a, e4 a⟩)]
    exact h2 g ((e2 g).mp hg)
  · rw [e1] at ha
    rw [e4]
    exact h3 a ha
theorem d_A.fr (h : d_A D) (kp : Nat → Bool) : d_A (d_fr D kp) := by
  obtain ⟨h1, h2, h3, h4⟩ := h
  have hsub : ∀ a, a ∈ D.1.2.filter kp → a ∈ D.1.2 := fun a ha => (List.mem_filter.mp ha).1
  have hlen : (D.1.2.filter kp).length ≤ D.1.2.length := List.length_filter_le _ _
  have hs : ∀ g, d_s (d_fr D kp) g (D.1.2.filter kp) = d_s D g (D.1.2.filter kp) := fun g => d_s_cong g _ (fun a _ => ⟨rfl, (d_fr_n (by decide)).symm⟩)
  have key : ∀ g, g ∈ D.1.1 → D.2.1 2 g + d_s D g (D.1.2.filter (fun b => !kp b)) + d_s D g (D.1.2.filter kp) = 16 := fun g hg => by
    have z := h2 g hg
    rw [d_s_split g kp, Int32.add_comm (d_s D g (D.1.2.filter kp)), ← Int32.add_assoc] at z
    exact z
  refine ⟨fun a ha => ?_, fun g hg => ?_, fun a ha => ?_, Nat.le_trans hlen h4⟩
  · obtain ⟨g, hg, e⟩ := h1 a (hsub a ha)
    refine ⟨g, List.mem_filter.mpr ⟨hg, ?_⟩, e⟩
    have hne : ¬ D.2.1 2 g + d_s D g (D.1.2.filter (fun b => !kp b)) = 16 := fun w => by
      have z := key g hg
      rw [w] at z
      obtain ⟨n, en, hn, hp⟩ := d_s_nat g (D.1.2.filter kp) (fun b hb => h3 b (hsub b hb))
      have hp1 := hp a ha e
      rw [en] at z
      have z2 : nI (16 + n) = nI 16 := by
        rw [← nI_add]
        exact z
      have := (nI_eq (by omega) (by decide)).mp z2
      omega
    simp [hne]
  · have hgD := (List.mem_filter.mp hg).1
    show (if 2 = 2 ∧ g ∈ D.1.1 then D.2.1 2 g + d_s D g (D.1.2.filter (fun b => !kp b)) else D.2.1 2 g) + d_s (d_fr D kp) g (D.1.2.filter kp) = 16
    rw [if_pos ⟨rfl, hgD⟩, hs]
    exact key g hgD
  · rw [← d_fr_n (by decide)]
    exact h3 a (hsub a ha)
theorem d_A.ep (h : d_A D) (i : Nat) : d_A (d_ep D i) := h.cong rfl (fun _ => Iff.rfl) (fun _ => epn_n (by decide)) (fun _ => epn_n (by decide)) (fun _ => rfl)
theorem d_A.ofi (h : d_A D) {k j : Nat} {v : Int32} (h2 : k ≠ 2) (h3 : k ≠ 3) : d_A (di D k j v) := h.cong rfl (fun _ => Iff.rfl) (fun _ => di_n (fun z => h2 z.symm)) (fun _ => di_n (fun z => h3 z.symm)) (fun _ => rfl)
theorem d_A.ofp (h : d_A D) {k j : Nat} {v : Option Nat} (h0 : k ≠ 0) : d_A (dp D k j v) := h.cong rfl (fun _ => Iff.rfl) (fun _ => rfl) (fun _ => rfl) (fun _ => dp_n (fun z => h0 z.symm))
theorem d_A.cd (h : d_A D) : ∀ n, d_A (d_cd D n)
  | 0 => h
  | n + 1 => by
    show d_A (if d_it (d_cd D n) 8 (9 + n) = true then d_cd D n else d_ep (d_cd D n) (9 + n))
    by_cases w : d_it (d_cd D n) 8 (9 + n) = true
    · rw [if_pos w]
      exact h.cd n
    · rw [if_neg w]
      exact (h.cd n).ep _
theorem d_A.gn (h : d_A D) : ∀ n, d_A (d_gn D n)
  | 0 => h
  | n + 1 => by
    show d_A (if ((d_gn D n).2.2 8 (9 + n)).isSome = true ∧ d_sh (d_gn D n) (9 + n) = false ∧ d_it (d_gn D n) 8 (9 + n) = false then d_ep (d_fr (dp (d_gn D n) 8 (9 + n) none) (fun a => !decide (d_h (d_gn D n) a = nI (9 + n)))) (9 + n) else d_gn D n)
    by_cases w : ((d_gn D n).2.2 8 (9 + n)).isSome = true ∧ d_sh (d_gn D n) (9 + n) = false ∧ d_it (d_gn D n) 8 (9 + n) = false
    · rw [if_pos w]
      exact (((h.gn n).ofp (by decide)).fr _).ep _
    · rw [if_neg w]
      exact h.gn n
theorem d_run_n {n k j : Nat} {rs : List Nat} (hk : k ≠ 5) : (d_run D n rs).2.1 k j = (d_fr D (d_kp D (nI n) rs)).2.1 k j := if_neg (c := k = 5 ∧ j ∈ D.1.2.filter (d_kp D (nI n) rs)) (fun z => hk z.1)
theorem d_A.run (h : d_A D) (n : Nat) (rs : List Nat) : d_A (d_run D n rs) := (h.fr (d_kp D (nI n) rs)).cong rfl (fun _ => Iff.rfl) (fun _ => d_run_n (by decide)) (fun _ => d_run_n (by decide)) (fun _ => rfl)
theorem d_A.mg (h : d_A D) (x : Int32) : d_A (d_mg D x) := by
  refine h.cong rfl (fun g => ?_) (fun _ => (d_mg_n (by decide)).symm) (fun _ => (d_mg_n (by decide)).symm) (fun _ => rfl)
  show g ∈ D.1.1.filter (fun g => !decide (D.2.1 0 g = x)) ++ D.1.1.filter (fun g => decide (D.2.1 0 g = x)) ↔ g ∈ D.1.1
  rw [List.mem_append, List.mem_filter, List.mem_filter]
  by_cases w : D.2.1 0 g = x <;> simp [w]
theorem d_A.hi (h : d_A D) (d : Nat) : d_A (d_hi D d) := h.cong rfl (fun _ => Iff.rfl) (fun _ => (d_hi_n (by decide)).symm) (fun _ => (d_hi_n (by decide)).symm) (fun _ => rfl)
theorem d_A.es (h : d_A D) (x : Int32) : d_A (d_es D x) := h.cong rfl (fun _ => Iff.rfl) (fun _ => (d_es_n (by decide)).symm) (fun _ => (d_es_n (by decide)).symm) (fun _ => rfl)
end QJ
