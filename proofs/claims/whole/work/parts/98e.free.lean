/-! THE REFERENCE: objects are freed -/
abbrev rB : Type := Nat → Nat → Nat
def em (b : rB) (g : Nat) : Bool := (List.range 60).all (fun y => !(decide (0 < b 6 y) && decide (b 9 y = g)))
def it77 (b : rB) (x i : Nat) : rB := fun k j => if k = 21 ∧ j % 60 = x ∧ j < 60 * i then 0 else b k j
def fr0 (b : rB) (x : Nat) : rB := if em (bu b 6 x 0) (b 9 x) = true then bu (bu b 6 x 0) 11 (b 9 x) 0 else bu b 6 x 0
def fr1 (b : rB) (x : Nat) : rB := it77 (fr0 b x) x 13
def frN (b : rB) (P : Nat → Bool) : Nat → rB
  | 0 => b
  | n + 1 => if P n = true then fr1 (frN b P n) n else frN b P n
theorem all_s (p : Nat → Bool) (i : Nat) : (List.range (i + 1)).all p = ((List.range i).all p && p i) := by
  rw [List.range_succ, List.all_append, List.all_cons, List.all_nil, Bool.and_true]
theorem rb_it {N : Nat} {b : rB} (h : rb N b) (x i : Nat) : rb N (it77 b x i) := ⟨h.1, fun k j hk => by
  unfold it77
  split
  · exact Nat.zero_le _
  · exact h.2 k j hk⟩
theorem rb_fr1 {N : Nat} {b : rB} (h : rb N b) (x : Nat) : rb N (fr1 b x) := by
  have h1 : rb N (bu b 6 x 0) := h.u (fun _ => Nat.zero_le _)
  unfold fr1 fr0
  split
  · exact rb_it (h1.u (fun _ => Nat.zero_le _)) x 13
  · exact rb_it h1 x 13
theorem rb_frN {N : Nat} {b : rB} (h : rb N b) (P : Nat → Bool) (n : Nat) : rb N (frN b P n) := by
  induction n with
  | zero => exact h
  | succ n ih =>
    show rb N (if P n = true then fr1 (frN b P n) n else frN b P n)
    split
    · exact rb_fr1 ih n
    · exact ih
section RE
variable {l : Launch} {G : mm_G} {K : Option mm_V → mo_A → Prop} {a0 : Nat} {ad : Nat → Nat} {Mb : mm_M} {L : Nat → Int32} {b : rB} {N h t x y p r : Nat} {xa : Int32}
theorem cr_free77 {z : Int32} {gg : Int32} (hx : x < 60) (k : K none (ra L (it77 b x 13))) : mo_Z l G Y_Mo_free K a0 ad Mb 77 [some (.inr (some a0)), some (.inl (nI x)), some (.inl gg), some (.inl z), some (.inl 0)] [] (ra L b) := by
  have e0 : b = it77 b x 0 := by
    funext k j
    exact (if_neg (fun u => by omega)).symm
  rw [e0]
  refine up_ind (P := fun i => mo_Z l G Y_Mo_free K a0 ad Mb 77 [some (.inr (some a0)), some (.inl (nI x)), some (.inl gg), some (.inl z), some (.inl (nI i))] [] (ra L (it77 b x i))) 13 (mg_free_77 ⟨fun _ => k, fun hc => absurd (nleN 13 13 hc) (by omega)⟩) (fun i hi ih => ?_) 0 (by omega)
  refine mg_free_77 ⟨fun hc => absurd (leN 13 i hc) (by omega), fun _ => ⟨60 * i + x, ixN 60 i x, by omega, ?_⟩⟩
  have e1 : mo_u (ra L (it77 b x i)) 21 (60 * i + x) 0 = ra L (bu (it77 b x i) 21 (60 * i + x) 0) := ra_u 0 (by decide)
  have e2 : bu (it77 b x i) 21 (60 * i + x) 0 = it77 b x (i + 1) := by
    funext k j
    unfold bu it77
    by_cases h1 : k = 21 ∧ j = 60 * i + x
    · rw [if_pos h1, if_pos ⟨h1.1, by omega, by omega⟩]
    · rw [if_neg h1]
      by_cases h2 : k = 21 ∧ j % 60 = x ∧ j < 60 * i
      · rw [if_pos h2, if_pos ⟨h2.1, h2.2.1, by omega⟩]
      · rw [if_neg h2, if_neg (fun u => h2 ⟨u.1, u.2.1, by
          have := u.1
          have := u.2.1
          have := u.2.2
          omega⟩)]
  rw [e1, e2, nI_1]
  exact ih
theorem cr_free (hb : rb N b) (hx : x < 60) (k : K none (ra L (fr1 b x))) : mo_Ok l G yy_Mo_free Y_Mo_free [.inr (some a0), .inl (nI x)] a0 ad Mb (ra L b) K := by
  refine mg_free ⟨x, rfl, hx, ?_⟩
  have e : mo_u (ra L b) 6 x 0 = ra L (bu b 6 x 0) := ra_u 0 (by decide)
  have hb1 : rb N (bu b 6 x 0) := hb.u (fun _ => Nat.zero_le _)
  have hg : b 9 x ≤ 23 := hb.2 9 x (by decide)
  rw [e]
  unfold fr1 fr0 at k
  refine up_ind (P := fun i => mo_Z l G Y_Mo_free K a0 ad Mb 19 [some (.inr (some a0)), some (.inl (nI x)), some (.inl (nI (b 9 x))), some (.inl (nI ((List.range i).all (fun y => !(decide (0 < bu b 6 x 0 6 y) && decide (bu b 6 x 0 9 y = b 9 x)))).toNat)), some (.inl (nI i))] [] (ra L (bu b 6 x 0))) 60 (mg_free_19 ⟨fun _ => ⟨fun hf => ?_, fun hf => ⟨b 9 x, rfl, by omega, ?_⟩⟩, fun hc => absurd (nleN 60 60 hc) (by omega)⟩) (fun i hi ih => ?_) 0 (by omega)
  · have e2 : em (bu b 6 x 0) (b 9 x) = false := (bzN _).mp hf
    rw [if_neg (by rw [e2]; decide)] at k
    exact cr_free77 hx k
  · have e2 : em (bu b 6 x 0) (b 9 x) = true := bzT hf
    rw [if_pos e2] at k
    have e3 : mo_u (ra L (bu b 6 x 0)) 11 (b 9 x) 0 = ra L (bu (bu b 6 x 0) 11 (b 9 x) 0) := ra_u 0 (by decide)
    rw [e3]
    exact cr_free77 hx k
  · rw [all_s] at ih
    have h6 : bu b 6 x 0 6 i ≤ 13 := hb1.2 6 i (by decide)
    have h9 : bu b 6 x 0 9 i ≤ 23 := hb1.2 9 i (by decide)
    refine mg_free_19 ⟨fun hc => absurd (leN 60 i hc) (by omega), fun _ => ⟨fun hf => ?_, fun hf => ⟨i, rfl, hi, fun e2 => ?_, fun e2 => ⟨fun e3 => ?_, fun e3 => ?_⟩⟩⟩⟩
    · rw [(bzN _).mp hf, Bool.false_and] at ih
      rw [nI_1]
      exact ih
    · rw [bzT hf, Bool.true_and] at ih
      have e4 := leN (bu b 6 x 0 6 i) 0 e2
      rw [decide_eq_false (by omega), Bool.false_and] at ih
      rw [nI_1]
      exact ih
    · rw [bzT hf, Bool.true_and] at ih
      have e4 := nleN (bu b 6 x 0 6 i) 0 e2
      rw [decide_eq_true e4, decide_eq_true (eqN (bu b 6 x 0 9 i) (b 9 x) e3)] at ih
      rw [nI_1]
      exact ih
    · rw [bzT hf, Bool.true_and] at ih
      rw [decide_eq_false (neN (bu b 6 x 0 9 i) (b 9 x) e3), Bool.and_false] at ih
      rw [nI_1]
      exact ih
end RE
/-- what comes of b when the objects F are freed -/
def fzR (b : rB) (F : Nat → Bool) (b1 : rB) : Prop :=
  (∀ x, b1 6 x = if x < 60 ∧ F x = true then 0 else b 6 x) ∧ (∀ k j, k ≠ 6 → k ≠ 11 → k ≠ 21 → b1 k j = b k j) ∧ (∀ h x, h < 13 → x < 60 → b1 21 (60 * h + x) = if F x = true then 0 else b 21 (60 * h + x)) ∧
  (∀ g, (∃ y, y < 60 ∧ 0 < b1 6 y ∧ b 9 y = g) → b1 11 g = b 11 g) ∧ ((∀ g, 0 < b 11 g → ∃ y, y < 60 ∧ 0 < b 6 y ∧ b 9 y = g) → ∀ g, (∀ y, y < 60 → 0 < b1 6 y → b 9 y ≠ g) → b1 11 g = 0) ∧ ∀ g, b1 11 g = 0 ∨ b1 11 g = b 11 g
theorem em_t {b : rB} {g : Nat} : em b g = true ↔ ∀ y, y < 60 → 0 < b 6 y → b 9 y ≠ g := by
  unfold em
  rw [List.all_eq_true]
  constructor
  · intro h y hy h1 h2
    have := h y (List.mem_range.mpr hy)
    rw [decide_eq_true h1, decide_eq_true h2] at this
    cases this
  · intro h y hy
    rcases Nat.eq_zero_or_pos (b 6 y) with e | e
    · rw [decide_eq_false (by omega)]
      rfl
    · rw [decide_eq_false (h y (List.mem_range.mp hy) e), Bool.and_false]
      rfl
theorem fr1_6 (b : rB) (x j : Nat) : fr1 b x 6 j = if j = x then 0 else b 6 j := by
  unfold fr1 it77
  rw [if_neg (fun u => by cases u.1)]
  unfold fr0
  split
  · rw [bu_n (by decide)]
    unfold bu
    by_cases h : j = x
    · rw [if_pos ⟨rfl, h⟩, if_pos h]
    · rw [if_neg (fun u => h u.2), if_neg h]
  · unfold bu
    by_cases h : j = x
    · rw [if_pos ⟨rfl, h⟩, if_pos h]
    · rw [if_neg (fun u => h u.2), if_neg h]
theorem fr1_k (b : rB) (x : Nat) {k j : Nat} (h6 : k ≠ 6) (h11 : k ≠ 11) (h21 : k ≠ 21) : fr1 b x k j = b k j := by
  unfold fr1 it77
  rw [if_neg (fun u => h21 u.1)]
  unfold fr0
  split
  · rw [bu_n h11, bu_n h6]
  · rw [bu_n h6]
theorem fr1_21 (b : rB) {x h j : Nat} (hx : x < 60) (hj : j < 60) (hh : h < 13) : fr1 b x 21 (60 * h + j) = if j = x then 0 else b 21 (60 * h + j) := by
  unfold fr1 it77
  by_cases e : j = x
  · rw [if_pos ⟨rfl, by omega, by omega⟩, if_pos e]
  · rw [if_neg (fun u => e (by have := u.2.1; omega)), if_neg e]
    unfold fr0
    split
    · rw [bu_n (by decide), bu_n (by decide)]
    · rw [bu_n (by decide)]
theorem fr1_11 (b : rB) (x g : Nat) : fr1 b x 11 g = if g = b 9 x ∧ em (bu b 6 x 0) (b 9 x) = true then 0 else b 11 g := by
  unfold fr1 it77
  rw [if_neg (fun u => by cases u.1)]
  unfold fr0
  by_cases h : em (bu b 6 x 0) (b 9 x) = true
  · rw [if_pos h]
    by_cases e : g = b 9 x
    · rw [if_pos ⟨e, h⟩, e, bu_s]
    · rw [bu_m e, if_neg (fun u => e u.1), bu_n (by decide)]
  · rw [if_neg h, if_neg (fun u => h u.2), bu_n (by decide)]
theorem fzR_N (b : rB) (P : Nat → Bool) (n : Nat) (hn : n ≤ 60) : fzR b (fun x => decide (x < n) && P x) (frN b P n) := by
  induction n with
  | zero =>
    refine ⟨fun x => ?_, fun _ _ _ _ _ => rfl, fun h x _ _ => ?_, fun g _ => rfl, fun hI g hg => ?_, fun g => Or.inr rfl⟩
    · rw [if_neg (fun u => by have := u.2; simp at this)]
      rfl
    · rw [if_neg (fun u => by simp at u)]
      rfl
    · rcases Nat.eq_zero_or_pos (b 11 g) with e | e
      · exact e
      · obtain ⟨y, h1, h2, h3⟩ := hI g e
        exact absurd h3 (hg y h1 h2)
  | succ n ih =>
    obtain ⟨i1, i2, i3, i4, i5, i6⟩ := ih (by omega)
    have ed : ∀ x, ¬ x = n → (decide (x < n + 1) && P x) = (decide (x < n) && P x) := by
      intro x e
      by_cases h2 : x < n
      · rw [decide_eq_true h2, decide_eq_true (show x < n + 1 by omega)]
      · rw [decide_eq_false h2, decide_eq_false (show ¬ x < n + 1 by omega)]
    show fzR b _ (if P n = true then fr1 (frN b P n) n else frN b P n)
    by_cases hP : P n = true
    · rw [if_pos hP]
      have e6 : ∀ x, fr1 (frN b P n) n 6 x = if x < 60 ∧ (decide (x < n + 1) && P x) = true then 0 else b 6 x := by
        intro x
        rw [fr1_6]
        by_cases e : x = n
        · rw [if_pos e, if_pos ⟨by omega, by rw [e, hP, decide_eq_true (by omega)]; rfl⟩]
        · rw [if_neg e, i1 x, ed x e]
      have e9 : frN b P n 9 n = b 9 n := i2 9 n (by decide) (by decide) (by decide)
      have e9' : ∀ y, (bu (frN b P n) 6 n 0) 9 y = b 9 y := fun y => by rw [bu_n (by decide)]; exact i2 9 y (by decide) (by decide) (by decide)
      have eb : ∀ y, (bu (frN b P n) 6 n 0) 6 y = fr1 (frN b P n) n 6 y := fun y => by
        rw [fr1_6]
        unfold bu
        by_cases e : y = n
        · rw [if_pos ⟨rfl, e⟩, if_pos e]
        · rw [if_neg (fun u => e u.2), if_neg e]
      have ee : em (bu (frN b P n) 6 n 0) (b 9 n) = true ↔ ∀ y, y < 60 → 0 < fr1 (frN b P n) n 6 y → b 9 y ≠ b 9 n := by
        rw [em_t]
        constructor
        · intro h y h1 h2 h3
          exact h y h1 (by rw [eb]; exact h2) (by rw [e9']; exact h3)
        · intro h y h1 h2 h3
          exact h y h1 (by rw [← eb]; exact h2) (by rw [← e9']; exact h3)
      have ea : ∀ g, g = b 9 n → (∀ y, y < 60 → 0 < fr1 (frN b P n) n 6 y → b 9 y ≠ b 9 n) → fr1 (frN b P n) n 11 g = 0 := fun g h1 h2 => by
        rw [fr1_11, e9, if_pos ⟨h1, ee.mpr h2⟩]
      have en : ∀ g, ¬ (g = b 9 n ∧ ∀ y, y < 60 → 0 < fr1 (frN b P n) n 6 y → b 9 y ≠ b 9 n) → fr1 (frN b P n) n 11 g = frN b P n 11 g := fun g h1 => by
        rw [fr1_11, e9, if_neg (fun u => h1 ⟨u.1, ee.mp u.2⟩)]
      have le : ∀ y, 0 < fr1 (frN b P n) n 6 y → 0 < frN b P n 6 y := fun y h => by
        rw [fr1_6] at h
        split at h
        · cases h
        · exact h
      refine ⟨e6, fun k j h6 h11 h21 => ?_, fun h x hh hx => ?_, fun g hg => ?_, fun hI g hg => ?_, fun g => ?_⟩
      · rw [fr1_k _ _ h6 h11 h21]
        exact i2 k j h6 h11 h21
      · rw [fr1_21 _ (by omega) hx hh]
        by_cases e : x = n
        · rw [if_pos e, if_pos (by show (decide (x < n + 1) && P x) = true; rw [e, hP, decide_eq_true (by omega)]; rfl)]
        · rw [if_neg e, i3 h x hh hx]
          show _ = if (decide (x < n + 1) && P x) = true then 0 else b 21 (60 * h + x)
          rw [ed x e]
      · obtain ⟨y, h1, h2, h3⟩ := hg
        rw [en g (fun u => u.2 y h1 h2 (by rw [h3]; exact u.1))]
        exact i4 g ⟨y, h1, le y h2, h3⟩
      · by_cases e : g = b 9 n
        · exact ea g e (fun y h1 h2 => by rw [← e]; exact hg y h1 h2)
        · rw [en g (fun u => e u.1)]
          refine i5 hI g (fun y h1 h2 h3 => hg y h1 ?_ h3)
          rw [fr1_6, if_neg (fun u => e (by rw [← u]; exact h3.symm))]
          exact h2
      · by_cases c : g = b 9 n ∧ ∀ y, y < 60 → 0 < fr1 (frN b P n) n 6 y → b 9 y ≠ b 9 n
        · exact Or.inl (ea g c.1 c.2)
        · rw [en g c]
          exact i6 g
    · rw [if_neg hP]
      have ef : (fun x => decide (x < n + 1) && P x) = (fun x => decide (x < n) && P x) := by
        funext x
        by_cases e : x = n
        · rw [e, Bool.eq_false_iff.mpr hP, Bool.and_false, Bool.and_false]
        · exact ed x e
      rw [ef]
      exact ⟨i1, i2, i3, i4, i5, i6⟩
