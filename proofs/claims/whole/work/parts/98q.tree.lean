/-! THE TREE OF LIMITS by itself: o is what each node pays -/
def thO (b : rB) (o T : Nat → Nat) (n : Nat) : Bool := decide (n = 0) || lvb b n || decide (0 < o n) || (List.range 8).any (chd b T n)
def wkO (b : rB) (o U T : Nat → Nat) (n : Nat) : Prop := U n = o n + sm (wt b U T n) 8 ∧ T n = (thO b o T n).toNat
def vUo (b : rB) (o : Nat → Nat) : Prop := ∀ U T, (∀ n, n < 8 → wkO b o U T n) → ∀ n, n < 8 → 0 < b 0 n → T n ≠ 0 → U n ≤ b 2 n
def chn (b : rB) : Nat → Nat → List Nat
  | 0, n => [n]
  | f + 1, n => n :: (if n = 0 ∨ b 3 n ≠ 0 then [] else chn b f (b 1 n))
section SQ
variable {b b1 : rB} {o o1 U T U1 T1 : Nat → Nat} {N n p q : Nat}
theorem wkO_c (hE : wkO b o U T n) (h : ∀ c, n ≤ c → c < 8 → U1 c = U c ∧ T1 c = T c) (ho : o1 n = o n) (hn : n < 8) : wkO b o1 U1 T1 n := by
  obtain ⟨h1, h2⟩ := wt_c (b := b) (n := n) (fun c h1 h2 => h c (Nat.le_of_lt h1) h2)
  unfold wkO thO at *
  rw [(h n (Nat.le_refl n) hn).1, (h n (Nat.le_refl n) hn).2, h1, h2, ho]
  exact hE
theorem wkO_ex (b : rB) (o : Nat → Nat) : ∃ U T, (∀ j, T j ≤ 1) ∧ ∀ n, n < 8 → wkO b o U T n := by
  have main : ∀ i, i ≤ 8 → ∃ U T, (∀ j, T j ≤ 1) ∧ ∀ n, 8 - i ≤ n → n < 8 → wkO b o U T n := by
    intro i
    induction i with
    | zero => intro _; exact ⟨fun _ => 0, fun _ => 0, fun _ => Nat.zero_le _, fun n h1 h2 => by omega⟩
    | succ i ih =>
      intro hi
      obtain ⟨U, T, hT, hE⟩ := ih (by omega)
      have hn : 7 - i < 8 := by omega
      generalize hne : 7 - i = n at *
      have hcc := wt_c (b := b) (n := n) (U := U) (T := T) (U1 := fup U n (o n + sm (wt b U T n) 8)) (T1 := fup T n (thO b o T n).toNat) (fun c h3 h4 => ⟨if_neg (by omega), if_neg (by omega)⟩)
      refine ⟨fup U n (o n + sm (wt b U T n) 8), fup T n (thO b o T n).toNat, fun j => ?_, fun n1 h1 h2 => ?_⟩
      · unfold fup
        split
        · cases thO b o T n <;> decide
        · exact hT j
      · by_cases e : n1 = n
        · subst e
          refine ⟨?_, ?_⟩
          · rw [hcc.1]
            exact if_pos rfl
          · have et : thO b o (fup T n1 (thO b o T n1).toNat) n1 = thO b o T n1 := by
              show (decide (n1 = 0) || lvb b n1 || decide (0 < o n1) || (List.range 8).any (chd b (fup T n1 (thO b o T n1).toNat) n1)) = _
              rw [hcc.2]
              rfl
            rw [et]
            exact if_pos rfl
        · exact wkO_c (hE n1 (by omega) h2) (fun c h3 h4 => ⟨if_neg (by omega), if_neg (by omega)⟩) rfl h2
  obtain ⟨U, T, h1, h2⟩ := main 8 (by omega)
  exact ⟨U, T, h1, fun n hn => h2 n (by omega) hn⟩
/-- solutions agree above k where what is paid agrees -/
theorem wkO_u {k : Nat} (h : ∀ n, k ≤ n → n < 8 → wkO b o U T n) (h1 : ∀ n, k ≤ n → n < 8 → wkO b o1 U1 T1 n) (ho : ∀ n, k ≤ n → n < 8 → o1 n = o n) : ∀ n, k ≤ n → n < 8 → U1 n = U n ∧ T1 n = T n := by
  have main : ∀ d n, n + d = 8 → k ≤ n → ∀ c, n ≤ c → c < 8 → U1 c = U c ∧ T1 c = T c := by
    intro d
    induction d with
    | zero => intro n hn _ c h2 h3; omega
    | succ d ih =>
      intro n hn hk c h2 h3
      have ih2 := ih (n + 1) (by omega) (by omega)
      by_cases e : c = n
      · subst e
        have hw := wt_c (b := b) (n := c) (fun c' h4 h5 => ih2 c' (by omega) h5)
        have ht : thO b o1 T1 c = thO b o T c := by
          unfold thO
          rw [hw.2, ho c hk h3]
        constructor
        · rw [(h1 c hk h3).1, (h c hk h3).1, hw.1, ho c hk h3]
        · rw [(h1 c hk h3).2, (h c hk h3).2, ht]
      · exact ih2 c (by omega) h3
  exact fun n hk hn => main (8 - n) n (by omega) hk n (Nat.le_refl n) hn
theorem chd_t {c : Nat} : chd b T n c = true ↔ n < c ∧ 0 < b 0 c ∧ b 1 c = n ∧ T c ≠ 0 := by
  unfold chd
  rw [Bool.and_eq_true, Bool.and_eq_true, Bool.and_eq_true, decide_eq_true_eq, decide_eq_true_eq, decide_eq_true_eq, Bool.not_eq_true', decide_eq_false_iff_not]
  exact ⟨fun u => ⟨u.1.1.1, u.1.1.2, u.1.2, u.2⟩, fun u => ⟨⟨⟨u.1, u.2.1⟩, u.2.2.1⟩, u.2.2.2⟩⟩
theorem thO_t : thO b o T n = true ↔ n = 0 ∨ lv b n ∨ 0 < o n ∨ ∃ c, c < 8 ∧ chd b T n c = true := by
  unfold thO
  rw [Bool.or_eq_true, Bool.or_eq_true, Bool.or_eq_true, decide_eq_true_eq, decide_eq_true_eq, lvb_t, List.any_eq_true]
  constructor
  · rintro (((h | h) | h) | ⟨c, h1, h2⟩)
    · exact Or.inl h
    · exact Or.inr (Or.inl h)
    · exact Or.inr (Or.inr (Or.inl h))
    · exact Or.inr (Or.inr (Or.inr ⟨c, List.mem_range.mp h1, h2⟩))
  · rintro (h | h | h | ⟨c, h1, h2⟩)
    · exact Or.inl (Or.inl (Or.inl h))
    · exact Or.inl (Or.inl (Or.inr h))
    · exact Or.inl (Or.inr h)
    · exact Or.inr ⟨c, List.mem_range.mpr h1, h2⟩
theorem wkO_T (h : wkO b o U T n) : T n ≠ 0 ↔ n = 0 ∨ lv b n ∨ 0 < o n ∨ ∃ c, c < 8 ∧ chd b T n c = true := by
  rw [h.2, ← thO_t]
  cases thO b o T n <;> decide
/-- who pays less uses less -/
theorem vUo_mono (hu : vUo b o) (h0 : ∀ n, n < 8 → (0 < b1 0 n ↔ 0 < b 0 n)) (hl : ∀ n, n < 8 → lv b1 n → lv b n) (h1 : ∀ n, n < 8 → b1 1 n = b 1 n ∧ b1 2 n = b 2 n ∧ b1 3 n = b 3 n) (ho : ∀ n, n < 8 → o1 n ≤ o n) : vUo b1 o1 := by
  intro U1 T1 hE1
  obtain ⟨U, T, _, hE⟩ := wkO_ex b o
  have key : ∀ d n, n + d = 8 → ∀ c, n ≤ c → c < 8 → U1 c ≤ U c ∧ (T1 c ≠ 0 → T c ≠ 0) := by
    intro d
    induction d with
    | zero => intro n hn c h2 h3; omega
    | succ d ih =>
      intro n hn c h2 h3
      have ih2 := ih (n + 1) (by omega)
      by_cases e : c = n
      · subst e
        have hch : ∀ c', c' < 8 → chd b1 T1 c c' = true → chd b T c c' = true := fun c' h4 h5 => by
          obtain ⟨g1, g2, g3, g4⟩ := chd_t.mp h5
          exact chd_t.mpr ⟨g1, (h0 c' h4).mp g2, by rw [← (h1 c' h4).1]; exact g3, (ih2 c' (by omega) h4).2 g4⟩
        constructor
        · rw [(hE1 c h3).1, (hE c h3).1]
          refine Nat.add_le_add (ho c h3) (sm_le (fun c' h4 => ?_))
          unfold wt
          by_cases h5 : chd b1 T1 c c' = true
          · have h6 := (chd_t.mp h5).1
            rw [if_pos h5, if_pos (hch c' h4 h5), (h1 c' h4).2.1, (h1 c' h4).2.2]
            split
            · exact (ih2 c' (by omega) h4).1
            · exact Nat.le_refl _
          · rw [if_neg h5]
            exact Nat.zero_le _
        · intro h4
          rcases (wkO_T (hE1 c h3)).mp h4 with h5 | h5 | h5 | ⟨c', h5, h6⟩
          · exact (wkO_T (hE c h3)).mpr (Or.inl h5)
          · exact (wkO_T (hE c h3)).mpr (Or.inr (Or.inl (hl c h3 h5)))
          · exact (wkO_T (hE c h3)).mpr (Or.inr (Or.inr (Or.inl (Nat.lt_of_lt_of_le h5 (ho c h3)))))
          · exact (wkO_T (hE c h3)).mpr (Or.inr (Or.inr (Or.inr ⟨c', h5, hch c' h5 h6⟩)))
      · exact ih2 c (by omega) h3
  intro n hn g1 g2
  have k := key 8 0 (by omega) n (by omega) hn
  rw [(h1 n hn).2.1]
  exact Nat.le_trans k.1 (hu U T hE n hn ((h0 n hn).mp g1) (k.2 g2))
theorem sm_one {f g : Nat → Nat} {m j d : Nat} (hj : j < m) (h : ∀ i, i < m → i ≠ j → f i = g i) (hd : f j = g j + d) : sm f m = sm g m + d := by
  induction m with
  | zero => omega
  | succ m ih =>
    show sm f m + f m = sm g m + g m + d
    by_cases e : j = m
    · subst e
      rw [sm_c (fun i hi => h i (by omega) (by omega)), hd]
      omega
    · rw [ih (by omega) (fun i hi => h i (by omega)), h m (by omega) (fun u => e u.symm)]
      omega
/-- a node that has room for it may pay d more -/
theorem vUo_bump {d : Nat} (hT : vT b) (hu : vUo b o) : ∀ (n f : Nat), n ≤ f → n < b 4 0 → (∀ U T, (∀ m, m < 8 → wkO b o U T m) → T n ≠ 0 ∧ ∀ m, m ∈ chn b f n → U m + d ≤ b 2 m) → vUo b (fup o n (o n + d)) ∧ ∀ U T U1 T1, (∀ m, m < 8 → wkO b o U T m) → (∀ m, m < 8 → wkO b (fup o n (o n + d)) U1 T1 m) → ∀ m, m < 8 → T1 m = T m := by
  intro n
  induction n using Nat.strongRecOn with
  | ind n ih =>
    intro f hf hn hc
    have h48 := hT.2.1
    obtain ⟨U, T, hT1, hE⟩ := wkO_ex b o
    obtain ⟨hTn, hch⟩ := hc U T hE
    have hnin : n ∈ chn b f n := by
      cases f with
      | zero => exact List.mem_singleton.mpr rfl
      | succ f => exact List.mem_cons_self
    by_cases hh : n = 0 ∨ b 3 n ≠ 0
    · have hcand : ∀ m, m < 8 → wkO b (fup o n (o n + d)) (fup U n (U n + d)) T m := by
        intro m hm
        have hw : ∀ c, c < 8 → wt b (fup U n (U n + d)) T m c = wt b U T m c := by
          intro c h8
          unfold wt
          by_cases h5 : chd b T m c = true
          · rw [if_pos h5, if_pos h5]
            by_cases e : c = n
            · have h6 := (chd_t.mp h5).1
              have h7 : b 3 c ≠ 0 := by
                rcases hh with h7 | h7
                · omega
                · rw [e]
                  exact h7
              rw [if_neg h7, if_neg h7]
            · rw [show fup U n (U n + d) c = U c from if_neg e]
          · rw [if_neg h5, if_neg h5]
        refine ⟨?_, ?_⟩
        · rw [sm_c hw]
          have h1 := (hE m hm).1
          unfold fup
          by_cases e : m = n
          · subst e
            rw [if_pos rfl, if_pos rfl]
            omega
          · rw [if_neg e, if_neg e]
            exact h1
        · rw [(hE m hm).2]
          by_cases e : m = n
          · subst e
            have h1 : thO b o T m = true := by
              have := (hE m hm).2
              cases t : thO b o T m with
              | true => rfl
              | false =>
                rw [t] at this
                exact absurd this hTn
            have h2 : thO b (fup o m (o m + d)) T m = true := by
              rcases thO_t.mp h1 with h3 | h3 | h3 | h3
              · exact thO_t.mpr (Or.inl h3)
              · exact thO_t.mpr (Or.inr (Or.inl h3))
              · exact thO_t.mpr (Or.inr (Or.inr (Or.inl (by rw [show fup o m (o m + d) m = o m + d from if_pos rfl]; omega))))
              · exact thO_t.mpr (Or.inr (Or.inr (Or.inr h3)))
            rw [h1, h2]
          · unfold thO
            rw [show fup o n (o n + d) m = o m from if_neg e]
      refine ⟨fun U1 T1 hE1 m hm g1 g2 => ?_, fun U2 T2 U1 T1 hE2 hE1 m hm => ?_⟩
      · have hq := wkO_u (k := 0) (fun m _ hm => hcand m hm) (fun m _ hm => hE1 m hm) (fun _ _ _ => rfl) m (by omega) hm
        rw [hq.2] at g2
        rw [hq.1]
        unfold fup
        split
        · rename_i e
          rw [e]
          exact hch n hnin
        · exact hu U T hE m hm g1 g2
      · rw [(wkO_u (k := 0) (fun m _ hm => hcand m hm) (fun m _ hm => hE1 m hm) (fun _ _ _ => rfl) m (by omega) hm).2]
        exact (wkO_u (k := 0) (fun m _ hm => hE2 m hm) (fun m _ hm => hE m hm) (fun _ _ _ => rfl) m (by omega) hm).2
    · have hn0 : n ≠ 0 := fun u => hh (Or.inl u)
      have h3 : b 3 n = 0 := Decidable.byContradiction (fun u => hh (Or.inr u))
      have hq := hT.2.2.2.1 n (by omega) hn
      obtain ⟨f2, hf2⟩ : ∃ f2, f = f2 + 1 := ⟨f - 1, by omega⟩
      subst hf2
      have hchn : chn b (f2 + 1) n = n :: chn b f2 (b 1 n) := by
        show n :: (if n = 0 ∨ b 3 n ≠ 0 then [] else chn b f2 (b 1 n)) = _
        rw [if_neg hh]
      have hmade : 0 < b 0 n := (hT.2.2.1 n (by omega)).mpr hn
      generalize hqe : b 1 n = q at *
      have hTq : ∀ U T, (∀ m, m < 8 → wkO b o U T m) → T q ≠ 0 ∧ ∀ m, m ∈ chn b f2 q → U m + d ≤ b 2 m := by
        intro U2 T2 hE2
        obtain ⟨g1, g2⟩ := hc U2 T2 hE2
        refine ⟨(wkO_T (hE2 q (by omega))).mpr (Or.inr (Or.inr (Or.inr ⟨n, by omega, chd_t.mpr ⟨hq, hmade, hqe, g1⟩⟩))), fun m hm => g2 m ?_⟩
        rw [hchn]
        exact List.mem_cons_of_mem _ hm
      obtain ⟨iu, it⟩ := ih q hq f2 (by omega) (by omega) hTq
      obtain ⟨U2, T2, _, hE2⟩ := wkO_ex b (fup o q (o q + d))
      have hTT : ∀ m, m < 8 → T2 m = T m := it U T U2 T2 hE hE2
      have hab : ∀ m, q + 1 ≤ m → m < 8 → U2 m = U m ∧ T2 m = T m := wkO_u (k := q + 1) (fun m _ hm => hE m hm) (fun m _ hm => hE2 m hm) (fun m h1 _ => if_neg (by omega))
      have hcand : ∀ m, m < 8 → wkO b (fup o n (o n + d)) (fup U2 n (U n + d)) T2 m := by
        intro m hm
        refine ⟨?_, ?_⟩
        · by_cases e : m = n
          · subst e
            have hw : sm (wt b (fup U2 m (U m + d)) T2 m) 8 = sm (wt b U T m) 8 := (wt_c (fun c h1 h2 => ⟨(if_neg (by omega)).trans (hab c (by omega) h2).1, (hab c (by omega) h2).2⟩)).1
            rw [hw]
            have h1 := (hE m hm).1
            unfold fup
            rw [if_pos rfl, if_pos rfl]
            omega
          · have hoff : ∀ c, c < 8 → c ≠ n → wt b (fup U2 n (U n + d)) T2 m c = wt b U2 T2 m c := by
              intro c h8 hcn
              unfold wt
              rw [show fup U2 n (U n + d) c = U2 c from if_neg hcn]
            have h1 := (hE2 m hm).1
            by_cases e2 : m = q
            · subst e2
              have hcd : chd b T2 m n = true := chd_t.mpr ⟨hq, hmade, hqe, by rw [hTT n (by omega)]; exact hTn⟩
              have hat : wt b (fup U2 n (U n + d)) T2 m n = wt b U2 T2 m n + d := by
                unfold wt
                rw [if_pos hcd, if_pos hcd, if_pos h3, if_pos h3, show fup U2 n (U n + d) n = U n + d from if_pos rfl, (hab n (by omega) (by omega)).1]
              rw [sm_one (show n < 8 by omega) hoff hat]
              rw [show fup o m (o m + d) m = o m + d from if_pos rfl] at h1
              rw [show fup U2 n (U n + d) m = U2 m from if_neg e, show fup o n (o n + d) m = o m from if_neg e]
              omega
            · have hat : wt b (fup U2 n (U n + d)) T2 m n = wt b U2 T2 m n := by
                unfold wt
                have hcd : ¬ chd b T2 m n = true := fun u => e2 (by rw [← (chd_t.mp u).2.2.1]; exact hqe)
                rw [if_neg hcd, if_neg hcd]
              rw [sm_c (g := wt b U2 T2 m) (fun c h8 => by
                by_cases e3 : c = n
                · rw [e3]
                  exact hat
                · exact hoff c h8 e3)]
              rw [show fup o q (o q + d) m = o m from if_neg e2] at h1
              rw [show fup U2 n (U n + d) m = U2 m from if_neg e, show fup o n (o n + d) m = o m from if_neg e]
              exact h1
        · have h1 := (hE m hm).2
          rw [hTT m hm, h1]
          have hany : (List.range 8).any (chd b T2 m) = (List.range 8).any (chd b T m) := (wt_c (b := b) (n := m) (U := U) (U1 := U) (T := T) (T1 := T2) (fun c _ h2 => ⟨rfl, hTT c h2⟩)).2
          by_cases e : m = n
          · subst e
            have h4 : thO b o T m = true := by
              cases t : thO b o T m with
              | true => rfl
              | false =>
                rw [t] at h1
                exact absurd h1 hTn
            have h5 : thO b (fup o m (o m + d)) T2 m = true := by
              rcases thO_t.mp h4 with h6 | h6 | h6 | ⟨c, h6, h7⟩
              · exact thO_t.mpr (Or.inl h6)
              · exact thO_t.mpr (Or.inr (Or.inl h6))
              · exact thO_t.mpr (Or.inr (Or.inr (Or.inl (by rw [show fup o m (o m + d) m = o m + d from if_pos rfl]; omega))))
              · obtain ⟨j1, j2, j3, j4⟩ := chd_t.mp h7
                exact thO_t.mpr (Or.inr (Or.inr (Or.inr ⟨c, h6, chd_t.mpr ⟨j1, j2, j3, by rw [hTT c h6]; exact j4⟩⟩)))
            rw [h4, h5]
          · unfold thO
            rw [hany, show fup o n (o n + d) m = o m from if_neg e]
      refine ⟨fun U1 T1 hE1 m hm g1 g2 => ?_, fun U3 T3 U1 T1 hE3 hE1 m hm => ?_⟩
      · have hqq := wkO_u (k := 0) (fun m _ hm => hcand m hm) (fun m _ hm => hE1 m hm) (fun _ _ _ => rfl) m (by omega) hm
        rw [hqq.2] at g2
        rw [hqq.1]
        unfold fup
        split
        · rename_i e
          rw [e]
          exact hch n hnin
        · exact iu U2 T2 hE2 m hm g1 g2
      · rw [(wkO_u (k := 0) (fun m _ hm => hcand m hm) (fun m _ hm => hE1 m hm) (fun _ _ _ => rfl) m (by omega) hm).2, hTT m hm]
        exact (wkO_u (k := 0) (fun m _ hm => hE3 m hm) (fun m _ hm => hE m hm) (fun _ _ _ => rfl) m (by omega) hm).2
end SQ
