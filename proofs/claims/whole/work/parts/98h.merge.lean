/-! THE REFERENCE: a heap is merged into the kernel's; a process dies -/
/-- the first in order of those among the first n that have P -/
def mnP (b : rB) (P : Nat → Bool) : Nat → Option Nat
  | 0 => none
  | i + 1 => if P i = true ∧ (∀ g, mnP b P i = some g → b 13 i < b 13 g) then some i else mnP b P i
def oi (o : Option Nat) : Int32 := match o with
  | none => -1
  | some g => nI g
theorem mnP_none {b : rB} {P : Nat → Bool} {n : Nat} (h : mnP b P n = none) : ∀ q, q < n → P q = false := by
  induction n with
  | zero => intro q hq; omega
  | succ n ih =>
    have h : (if P n = true ∧ (∀ g, mnP b P n = some g → b 13 n < b 13 g) then some n else mnP b P n) = none := h
    by_cases c : P n = true ∧ (∀ g, mnP b P n = some g → b 13 n < b 13 g)
    · rw [if_pos c] at h
      cases h
    · rw [if_neg c] at h
      intro q hq
      by_cases e : q = n
      · subst e
        exact Bool.eq_false_iff.mpr (fun u => c ⟨u, fun g hg => by rw [h] at hg; cases hg⟩)
      · exact ih h q (by omega)
theorem mnP_some {b : rB} {P : Nat → Bool} {n g : Nat} (h : mnP b P n = some g) : g < n ∧ P g = true ∧ ∀ q, q < n → P q = true → b 13 g ≤ b 13 q := by
  induction n generalizing g with
  | zero => cases h
  | succ n ih =>
    have h : (if P n = true ∧ (∀ g, mnP b P n = some g → b 13 n < b 13 g) then some n else mnP b P n) = some g := h
    by_cases c : P n = true ∧ (∀ g, mnP b P n = some g → b 13 n < b 13 g)
    · rw [if_pos c] at h
      have e := Option.some.inj h
      subst e
      refine ⟨Nat.lt_succ_self _, c.1, fun q hq hP => ?_⟩
      by_cases e : q = n
      · rw [e]
        exact Nat.le_refl _
      · cases t : mnP b P n with
        | none =>
          exact absurd hP (by rw [mnP_none t q (by omega)]; decide)
        | some g2 =>
          have := c.2 g2 t
          have := (ih t).2.2 q (by omega) hP
          omega
    · rw [if_neg c] at h
      obtain ⟨h1, h2, h3⟩ := ih h
      refine ⟨by omega, h2, fun q hq hP => ?_⟩
      by_cases e : q = n
      · subst e
        rcases Nat.lt_or_ge (b 13 q) (b 13 g) with z | z
        · exact absurd ⟨hP, fun g2 h4 => by rw [h] at h4; cases h4; exact z⟩ c
        · exact z
      · exact h3 q (by omega) hP
def mg1 (b : rB) (h : Nat) : rB := match mnP b (fun q => decide (b 11 q = h + 1)) 24 with
  | none => b
  | some g => bu (bu (bu b 11 g 9) 14 0 (b 14 0 + 1)) 13 g (b 14 0 + 1)
def mgT (b : rB) (h : Nat) : Nat → rB
  | 0 => b
  | t + 1 => mg1 (mgT b h t) h
def mgh (b : rB) (h i : Nat) : rB := fun k j => if k = 6 ∧ j < i ∧ b 6 j = h + 1 then 9 else b k j
def mrg (b : rB) (h : Nat) : rB := mgh (mgT b h 24) h 60
def di1 (b : rB) (p n : Nat) : rB := fun q j => if (q = 5 ∨ q = 19) ∧ 4 * p ≤ j ∧ j < 4 * p + n then 0 else if q = 20 ∧ 4 * p ≤ j ∧ j < 4 * p + n then (if b 15 (j - 4 * p) = 2 ∧ nmb b p (9 + (j - 4 * p)) = true then 1 else 0) else b q j
def dmk (b : rB) (p : Nat) : Nat → rB
  | 0 => b
  | k + 1 => if dmk b p k 15 k = 1 ∧ dmk b p k 16 k = p then bu (mrg (dmk b p k) (9 + k)) 15 k 3 else dmk b p k
def dit (b : rB) (p i : Nat) : rB := fun q j => if q = 21 ∧ 480 ≤ j ∧ j < 480 + i then (if (b 21 (60 * p + (j - 480)) ≠ 0 ∨ b 21 j ≠ 0) ∧ 0 < b 6 (j - 480) ∧ b 6 (j - 480) ≠ 9 then 1 else 0) else if q = 21 ∧ 60 * p ≤ j ∧ j < 60 * p + i then 0 else b q j
def dth (b : rB) (p : Nat) : rB := vnN (dit (dmk (mrg (di1 (bu b 0 p 4) p 4) p) p 4) p 60) 4
theorem rb.up {N N1 : Nat} {b : rB} (h : rb N b) (h1 : N ≤ N1) (h2 : N1 < 1000000000) : rb N1 b := ⟨h2, fun k j hk => by
  have h3 := h.2 k j hk
  by_cases e : k = 13
  · subst e
    exact Nat.le_trans h3 h1
  · by_cases e2 : k = 14
    · subst e2
      exact Nat.le_trans h3 h1
    · have h4 : mx N k = mx N1 k := by
        unfold mx
        split <;> first | rfl | omega
      rw [← h4]
      exact h3⟩
theorem rb_mg1 {N : Nat} {b : rB} (hb : rb N b) (hN : N + 1 < 1000000000) (h : Nat) : rb (N + 1) (mg1 b h) := by
  have h1 := hb.up (Nat.le_succ N) hN
  have h14 : b 14 0 ≤ N := hb.2 14 0 (by decide)
  unfold mg1
  split
  · exact h1
  · exact ((h1.u (fun _ => show 9 ≤ 13 by omega)).u (fun _ => show b 14 0 + 1 ≤ N + 1 by omega)).u (fun _ => show b 14 0 + 1 ≤ N + 1 by omega)
theorem rb_mgT {N : Nat} {b : rB} (hb : rb N b) (h t : Nat) (hN : N + t < 1000000000) : rb (N + t) (mgT b h t) := by
  induction t with
  | zero => exact hb
  | succ t ih => exact rb_mg1 (ih (by omega)) hN h
theorem rb_mgh {N : Nat} {b : rB} (hb : rb N b) (h i : Nat) : rb N (mgh b h i) := ⟨hb.1, fun k j hk => by
  unfold mgh
  split
  · rename_i e
    rw [e.1]
    exact (show 9 ≤ 13 by omega)
  · exact hb.2 k j hk⟩
theorem rb_mrg {N : Nat} {b : rB} (hb : rb N b) (h : Nat) (hN : N + 24 < 1000000000) : rb (N + 24) (mrg b h) := rb_mgh (rb_mgT hb h 24 hN) h 60
section RH
variable {l : Launch} {G : mm_G} {K : Option mm_V → mo_A → Prop} {a0 : Nat} {ad : Nat → Nat} {Mb : mm_M} {L : Nat → Int32} {b : rB} {N h t x y p r k : Nat} {xa : Int32}
theorem oi_neg (o : Option Nat) (h : ∀ g, o = some g → g < 24) : oi o < 0 ↔ o = none := by
  cases o with
  | none => exact ⟨fun _ => rfl, fun _ => by decide⟩
  | some g => exact ⟨fun u => absurd u (nI_pos (by have := h g rfl; omega)), fun u => by cases u⟩
theorem mnP_lt {P : Nat → Bool} {n g : Nat} (hn : n ≤ 24) (h : mnP b P n = some g) : g < 24 := by
  have := (mnP_some h).1
  omega
theorem cr_merge (hb : rb N b) (hh : h < 13) (hN : N + 24 < 1000000000) (kk : K none (ra L (mrg b h))) : mo_Ok l G yy_Mo_merge Y_Mo_merge [.inr (some a0), .inl (nI h)] a0 ad Mb (ra L b) K := by
  unfold mrg at kk
  refine mg_merge (up_ind (P := fun t => mo_Z l G Y_Mo_merge K a0 ad Mb 2 [some (.inr (some a0)), some (.inl (nI h)), some (.inl (nI t)), none, none] [] (ra L (mgT b h t))) 24 (mg_merge_2 ⟨fun _ => ?_, fun hc => absurd (nleN 24 24 hc) (by omega)⟩) (fun t ht ih => mg_merge_2 ⟨fun hc => absurd (leN 24 t hc) (by omega), fun _ => ?_⟩) 0 (by omega))
  · have hb2 := rb_mgT hb h 24 hN
    generalize mgT b h 24 = c at *
    have e0 : c = mgh c h 0 := by
      funext q j
      exact (if_neg (fun u => by omega)).symm
    rw [e0]
    refine up_ind (P := fun i => mo_Z l G Y_Mo_merge K a0 ad Mb 102 [some (.inr (some a0)), some (.inl (nI h)), some (.inl (nI i)), none, none] [] (ra L (mgh c h i))) 60 (mg_merge_102 ⟨fun _ => kk, fun hc => absurd (nleN 60 60 hc) (by omega)⟩) (fun i hi ih => ?_) 0 (by omega)
    have ev : mgh c h i 6 i = c 6 i := if_neg (fun u => by omega)
    have h6 : c 6 i ≤ 13 := hb2.2 6 i (by decide)
    have upd : ∀ v, (v = if c 6 i = h + 1 then 9 else c 6 i) → bu (mgh c h i) 6 i v = mgh c h (i + 1) := by
      intro v hv
      funext q j
      unfold bu mgh
      by_cases h1 : q = 6 ∧ j = i
      · obtain ⟨h1, h2⟩ := h1
        subst h1
        subst h2
        rw [if_pos ⟨rfl, rfl⟩, hv]
        by_cases h3 : c 6 j = h + 1
        · rw [if_pos h3, if_pos ⟨rfl, Nat.lt_succ_self j, h3⟩]
        · rw [if_neg h3, if_neg (fun u => h3 u.2.2)]
      · rw [if_neg h1]
        by_cases h2 : q = 6 ∧ j < i ∧ c 6 j = h + 1
        · rw [if_pos h2, if_pos ⟨h2.1, by omega, h2.2.2⟩]
        · rw [if_neg h2, if_neg (fun u => h2 ⟨u.1, by
            have h3 := u.1
            have h4 := u.2.1
            omega, u.2.2⟩)]
    refine mg_merge_102 ⟨fun hc => absurd (leN 60 i hc) (by omega), fun _ => ⟨i, rfl, hi, fun e => ?_, fun e => ?_⟩⟩
    · rw [nI_1] at e
      have e1 : ¬ c 6 i = h + 1 := by
        rw [← ev]
        exact neN (mgh c h i 6 i) (h + 1) e
      have e2 : mo_u (ra L (mgh c h i)) 6 i (ra L (mgh c h i) 6 i) = _ := ra_u (mgh c h i 6 i) (by decide)
      rw [e2, upd _ (by rw [if_neg e1]; exact ev), nI_1]
      exact ih
    · rw [nI_1] at e
      have e1 : c 6 i = h + 1 := by
        rw [← ev]
        exact eqN (mgh c h i 6 i) (h + 1) e (by rw [ev]; omega)
      have e2 : mo_u (ra L (mgh c h i)) 6 i 9 = _ := ra_u 9 (by decide)
      rw [e2, upd 9 (by rw [if_pos e1]), nI_1]
      exact ih
  · have hbt := rb_mgT hb h t (by omega)
    have ih2 : mo_Z l G Y_Mo_merge K a0 ad Mb 2 [some (.inr (some a0)), some (.inl (nI h)), some (.inl (nI (t + 1))), none, none] [] (ra L (mg1 (mgT b h t) h)) := ih
    clear ih
    generalize mgT b h t = c at *
    refine up_ind (P := fun i => mo_Z l G Y_Mo_merge K a0 ad Mb 13 [some (.inr (some a0)), some (.inl (nI h)), some (.inl (nI t)), some (.inl (oi (mnP c (fun q => decide (c 11 q = h + 1)) i))), some (.inl (nI i))] [] (ra L c)) 24 (mg_merge_13 ⟨fun _ => ⟨fun e => ?_, fun e => ?_⟩, fun hc => absurd (nleN 24 24 hc) (by omega)⟩) (fun i hi ih => ?_) 0 (by omega)
    · have e1 := (oi_neg _ (fun g hg => mnP_lt (Nat.le_refl 24) hg)).mp e
      unfold mg1 at ih2
      rw [e1] at ih2
      rw [nI_1]
      exact ih2
    · cases eo : mnP c (fun q => decide (c 11 q = h + 1)) 24 with
      | none =>
        rw [eo] at e
        exact absurd (show (-1 : Int32) < 0 by decide) e
      | some g =>
        refine ⟨g, rfl, mnP_lt (Nat.le_refl 24) eo, ?_⟩
        unfold mg1 at ih2
        rw [eo] at ih2
        have e1 : mo_u (ra L c) 11 g 9 = ra L (bu c 11 g 9) := ra_u 9 (by decide)
        have e2 : mo_u (ra L (bu c 11 g 9)) 14 0 (ra L (bu c 11 g 9) 14 0 + 1) = ra L (bu (bu c 11 g 9) 14 0 (c 14 0 + 1)) := by
          have : ra L (bu c 11 g 9) 14 0 + 1 = nI (c 14 0 + 1) := nI_1 (c 14 0)
          rw [this]
          exact ra_u _ (by decide)
        have e3 : mo_u (ra L (bu (bu c 11 g 9) 14 0 (c 14 0 + 1))) 13 g (ra L (bu (bu c 11 g 9) 14 0 (c 14 0 + 1)) 14 0) = ra L (bu (bu (bu c 11 g 9) 14 0 (c 14 0 + 1)) 13 g (c 14 0 + 1)) := by
          have : ra L (bu (bu c 11 g 9) 14 0 (c 14 0 + 1)) 14 0 = nI (c 14 0 + 1) := rfl
          rw [this]
          exact ra_u _ (by decide)
        rw [e1, e2, e3, nI_1]
        exact ih2
    · have h11 : c 11 i ≤ 13 := hbt.2 11 i (by decide)
      have ih3 : mo_Z l G Y_Mo_merge K a0 ad Mb 13 [some (.inr (some a0)), some (.inl (nI h)), some (.inl (nI t)), some (.inl (oi (if decide (c 11 i = h + 1) = true ∧ (∀ g, mnP c (fun q => decide (c 11 q = h + 1)) i = some g → c 13 i < c 13 g) then some i else mnP c (fun q => decide (c 11 q = h + 1)) i))), some (.inl (nI (i + 1)))] [] (ra L c) := ih
      refine mg_merge_13 ⟨fun hc => absurd (leN 24 i hc) (by omega), fun _ => ⟨i, rfl, hi, fun e => ?_, fun e => ⟨fun e2 => ?_, fun e2 => ?_⟩⟩⟩
      · rw [nI_1] at e
        rw [if_neg (fun u => neN (c 11 i) (h + 1) e (of_decide_eq_true u.1))] at ih3
        rw [nI_1]
        exact ih3
      · rw [nI_1] at e
        have e1 := (oi_neg _ (fun g hg => mnP_lt (by omega) hg)).mp e2
        rw [if_pos ⟨decide_eq_true (eqN (c 11 i) (h + 1) e), fun g hg => by rw [e1] at hg; cases hg⟩] at ih3
        rw [nI_1]
        exact ih3
      · rw [nI_1] at e
        have e1 := eqN (c 11 i) (h + 1) e
        cases eo : mnP c (fun q => decide (c 11 q = h + 1)) i with
        | none =>
          rw [eo] at e2
          exact absurd (show (-1 : Int32) < 0 by decide) e2
        | some g =>
          have hg := (mnP_some eo).1
          have o1 : c 13 i ≤ N + t := hbt.2 13 i (by decide)
          have o2 : c 13 g ≤ N + t := hbt.2 13 g (by decide)
          rw [eo] at ih3
          refine ⟨g, rfl, by omega, fun e3 => ?_, fun e3 => ?_⟩
          · have e4 := leN (c 13 g) (c 13 i) e3
            rw [if_neg (fun u => by have := u.2 g rfl; omega)] at ih3
            rw [nI_1]
            exact ih3
          · have e4 := nleN (c 13 g) (c 13 i) e3
            rw [if_pos ⟨decide_eq_true e1, fun g2 h2 => by cases h2; exact e4⟩] at ih3
            rw [nI_1]
            exact ih3
end RH
