/-! THE REFERENCE: what is left to a node; a page for an object -/
def rst (b : rB) (U : Nat → Nat) : Nat → Int32 → Nat → Int32
  | 0, v, _ => v
  | f + 1, v, m => if m = 0 ∨ b 3 m ≠ 0 then v else rst b U f (if v ≤ nI (b 2 (b 1 m)) - nI (U (b 1 m)) then v else nI (b 2 (b 1 m)) - nI (U (b 1 m))) (b 1 m)
def rsn (b : rB) (U : Nat → Nat) (n : Nat) : Int32 := rst b U 8 (nI (b 2 n) - nI (U n)) n
def ful (b : rB) (g : Nat) : Nat := sm (fun x => if 0 < b 6 x ∧ b 9 x = g then b 7 x else 0) 60
def ftP (b : rB) (h s g : Nat) : Bool := decide (b 11 g = h + 1) && decide (ful b g + s ≤ 16)
/-- the page g is taken for h, and n pays -/
def npg (b : rB) (g h n : Nat) : rB := bu (bu (bu (bu b 11 g (h + 1)) 12 g n) 14 0 (b 14 0 + 1)) 13 g (b 14 0 + 1)
theorem rb_npg {N : Nat} {b : rB} (hb : rb N b) (hN : N + 1 < 1000000000) {g h n : Nat} (hh : h < 13) (hn : n < 8) : rb (N + 1) (npg b g h n) := by
  have h1 := hb.up (Nat.le_succ N) hN
  have h14 : b 14 0 ≤ N := hb.2 14 0 (by decide)
  exact (((h1.u (fun _ => show h + 1 ≤ 13 by omega)).u (fun _ => show n ≤ 7 by omega)).u (fun _ => show b 14 0 + 1 ≤ N + 1 by omega)).u (fun _ => show b 14 0 + 1 ≤ N + 1 by omega)
theorem sm_bd {f : Nat → Nat} {c n : Nat} (h : ∀ i, i < n → f i ≤ c) : sm f n ≤ c * n := by
  induction n with
  | zero => exact Nat.le_refl _
  | succ n ih =>
    have h1 := ih (fun i hi => h i (by omega))
    have h2 := h n (by omega)
    show sm f n + f n ≤ c * (n + 1)
    rw [Nat.mul_succ]
    omega
theorem ful_le {N : Nat} {b : rB} (hb : rb N b) (g i : Nat) (hi : i ≤ 60) : sm (fun x => if 0 < b 6 x ∧ b 9 x = g then b 7 x else 0) i ≤ 960 := by
  refine Nat.le_trans (sm_bd (c := 16) (fun x _ => ?_)) (by omega)
  show (if 0 < b 6 x ∧ b 9 x = g then b 7 x else 0) ≤ 16
  split
  · exact hb.2 7 x (by decide)
  · omega
section RK
variable {l : Launch} {G : mm_G} {K : Option mm_V → mo_A → Prop} {a0 : Nat} {ad : Nat → Nat} {Mb : mm_M} {L : Nat → Int32} {b : rB} {N h t x y p r k n s : Nat} {xa : Int32}
theorem cr_rest (hb : rb N b) (hn : n < 8) (kk : ∀ U T, (∀ j, T j ≤ 1) → (∀ n, n < 8 → wkE b U T n) → K (some (.inl (rsn b U n))) (ra L (bw b U T))) : mo_Ok l G yy_Mo_rest Y_Mo_rest [.inr (some a0), .inl (nI n)] a0 ad Mb (ra L b) K := by
  refine mg_rest (cr_work hb (fun U T hT hE => ⟨rfl, n, rfl, hn, ?_⟩))
  have k1 := kk U T hT hE
  have hbw := rb_bw (U := U) hb hT
  have main : ∀ i, i ≤ 8 → ∀ v m, m < 8 → rst b U (8 - i) v m = rsn b U n → mo_Z l G Y_Mo_rest K a0 ad Mb 23 [some (.inr (some a0)), some (.inl (nI n)), some (.inl v), some (.inl (nI m)), some (.inl (nI i))] [] (ra L (bw b U T)) := by
    refine up_ind 8 (fun v m hm he => mg_rest_23 ⟨fun _ => ?_, fun hc => absurd (nleN 8 8 hc) (by omega)⟩) (fun i hi ih v m hm he => ?_)
    · rw [show v = rsn b U n from he]
      exact k1
    · rw [show 8 - i = (8 - (i + 1)) + 1 by omega] at he
      have he : (if m = 0 ∨ b 3 m ≠ 0 then v else rst b U (8 - (i + 1)) (if v ≤ nI (b 2 (b 1 m)) - nI (U (b 1 m)) then v else nI (b 2 (b 1 m)) - nI (U (b 1 m))) (b 1 m)) = rsn b U n := he
      have h3 : b 3 m ≤ 1 := hb.2 3 m (by decide)
      have h1 : b 1 m ≤ 7 := hb.2 1 m (by decide)
      refine mg_rest_23 ⟨fun hc => absurd (leN 8 i hc) (by omega), fun _ => ⟨fun e => ?_, fun e => ⟨m, rfl, hm, fun e2 => ?_, fun e2 => ⟨b 1 m, rfl, by omega, fun e3 => ?_, fun e3 => ?_⟩⟩⟩⟩
      · rw [if_pos (Or.inl (eqN m 0 e))] at he
        rw [he]
        exact k1
      · rw [if_pos (Or.inr (neN (b 3 m) 0 e2))] at he
        rw [he]
        exact k1
      · rw [if_neg (fun u => u.elim (neN m 0 e) (fun w => w (eqN (b 3 m) 0 e2)))] at he
        rw [if_pos (show v ≤ nI (b 2 (b 1 m)) - nI (U (b 1 m)) from e3)] at he
        rw [nI_1]
        exact ih v (b 1 m) (by omega) he
      · rw [if_neg (fun u => u.elim (neN m 0 e) (fun w => w (eqN (b 3 m) 0 e2)))] at he
        rw [if_neg (show ¬ v ≤ nI (b 2 (b 1 m)) - nI (U (b 1 m)) from e3)] at he
        rw [nI_1]
        exact ih _ (b 1 m) (by omega) he
  exact main 0 (by omega) _ n hn rfl
theorem cr_fitting (hb : rb N b) (hh : h < 13) (hs : s ≤ 16) (kk : K (some (.inl (oi (mnP b (ftP b h s) 24)))) (ra L b)) : mo_Ok l G yy_Mo_fitting Y_Mo_fitting [.inr (some a0), .inl (nI h), .inl (nI s)] a0 ad Mb (ra L b) K := by
  refine mg_fitting (up_ind (P := fun i => mo_Z l G Y_Mo_fitting K a0 ad Mb 5 [some (.inr (some a0)), some (.inl (nI h)), some (.inl (nI s)), some (.inl (oi (mnP b (ftP b h s) i))), some (.inl (nI i)), none, none] [] (ra L b)) 24 (mg_fitting_5 ⟨fun _ => kk, fun hc => absurd (nleN 24 24 hc) (by omega)⟩) (fun i hi ih => mg_fitting_5 ⟨fun hc => absurd (leN 24 i hc) (by omega), fun _ => ?_⟩) 0 (by omega))
  have ih : mo_Z l G Y_Mo_fitting K a0 ad Mb 5 [some (.inr (some a0)), some (.inl (nI h)), some (.inl (nI s)), some (.inl (oi (if ftP b h s i = true ∧ (∀ g, mnP b (ftP b h s) i = some g → b 13 i < b 13 g) then some i else mnP b (ftP b h s) i))), some (.inl (nI (i + 1))), none, none] [] (ra L b) := ih
  refine up_ind (P := fun x => mo_Z l G Y_Mo_fitting K a0 ad Mb 18 [some (.inr (some a0)), some (.inl (nI h)), some (.inl (nI s)), some (.inl (oi (mnP b (ftP b h s) i))), some (.inl (nI i)), some (.inl (nI (sm (fun x => if 0 < b 6 x ∧ b 9 x = i then b 7 x else 0) x))), some (.inl (nI x))] [] (ra L b)) 60 (mg_fitting_18 ⟨fun _ => ⟨i, rfl, hi, fun e => ?_, fun e => ⟨fun e2 => ?_, fun e2 => ?_⟩⟩, fun hc => absurd (nleN 60 60 hc) (by omega)⟩) (fun x hx ih2 => ?_) 0 (by omega)
  · rw [nI_1] at e
    rw [if_neg (fun u => by
      have := u.1
      unfold ftP at this
      rw [decide_eq_false (neN (b 11 i) (h + 1) e)] at this
      cases this)] at ih
    rw [nI_1]
    exact ih
  · have hf := ful_le hb i 60 (Nat.le_refl 60)
    rw [nI_add] at e2
    have e3 := ltN 16 _ e2
    rw [if_neg (fun u => by
      have := u.1
      unfold ftP at this
      rw [decide_eq_false (show ¬ ful b i + s ≤ 16 by unfold ful; omega), Bool.and_false] at this
      cases this)] at ih
    rw [nI_1]
    exact ih
  · have hf := ful_le hb i 60 (Nat.le_refl 60)
    rw [nI_1] at e
    rw [nI_add] at e2
    have h11 : b 11 i ≤ 13 := hb.2 11 i (by decide)
    have e3 := nltN 16 _ e2
    have e4 : ftP b h s i = true := by
      unfold ftP
      rw [decide_eq_true (eqN (b 11 i) (h + 1) e), decide_eq_true (show ful b i + s ≤ 16 from e3)]
      rfl
    refine ⟨fun e5 => ?_, fun e5 => ?_⟩
    · have e6 := (oi_neg _ (fun g hg => mnP_lt (by omega) hg)).mp e5
      rw [if_pos ⟨e4, fun g hg => by rw [e6] at hg; cases hg⟩] at ih
      rw [nI_1]
      exact ih
    · cases eo : mnP b (ftP b h s) i with
      | none =>
        rw [eo] at e5
        exact absurd (show (-1 : Int32) < 0 by decide) e5
      | some g =>
        have hg := (mnP_some eo).1
        have hN := hb.1
        have o1 : b 13 i ≤ N := hb.2 13 i (by decide)
        have o2 : b 13 g ≤ N := hb.2 13 g (by decide)
        rw [eo] at ih
        refine ⟨g, rfl, by omega, fun e6 => ?_, fun e6 => ?_⟩
        · have e7 := leN (b 13 g) (b 13 i) e6
          rw [if_neg (fun u => by have := u.2 g rfl; omega)] at ih
          rw [nI_1]
          exact ih
        · have e7 := nleN (b 13 g) (b 13 i) e6
          rw [if_pos ⟨e4, fun g2 h2 => by cases h2; exact e7⟩] at ih
          rw [nI_1]
          exact ih
  · have ih2 : mo_Z l G Y_Mo_fitting K a0 ad Mb 18 [some (.inr (some a0)), some (.inl (nI h)), some (.inl (nI s)), some (.inl (oi (mnP b (ftP b h s) i))), some (.inl (nI i)), some (.inl (nI (sm (fun x => if 0 < b 6 x ∧ b 9 x = i then b 7 x else 0) x + (if 0 < b 6 x ∧ b 9 x = i then b 7 x else 0)))), some (.inl (nI (x + 1)))] [] (ra L b) := ih2
    have h6 : b 6 x ≤ 13 := hb.2 6 x (by decide)
    have h9 : b 9 x ≤ 23 := hb.2 9 x (by decide)
    refine mg_fitting_18 ⟨fun hc => absurd (leN 60 x hc) (by omega), fun _ => ⟨x, rfl, hx, fun e => ?_, fun e => ⟨fun e2 => ?_, fun e2 => ?_⟩⟩⟩
    · have e3 := leN (b 6 x) 0 e
      rw [if_neg (fun u => by omega)] at ih2
      rw [nI_1, Int32.add_zero]
      exact ih2
    · rw [if_neg (fun u => neN (b 9 x) i e2 u.2)] at ih2
      rw [nI_1, Int32.add_zero]
      exact ih2
    · rw [if_pos ⟨nleN (b 6 x) 0 e, eqN (b 9 x) i e2⟩] at ih2
      rw [nI_1, show nI _ + ra L b 7 x = nI (_ + b 7 x) from nI_add _ _]
      exact ih2
theorem cr_find (hb : rb N b) (hh : h < 13) (hn : n < 8) (hs : s ≤ 16) (k1 : ∀ g, mnP b (ftP b h s) 24 = some g → K (some (.inl (nI g))) (ra L b))
    (k2 : ∀ U T, mnP b (ftP b h s) 24 = none → (∀ j, T j ≤ 1) → (∀ n, n < 8 → wkE b U T n) → ¬ 1 ≤ rsn b U n → K (some (.inl (-1))) (ra L (bw b U T)))
    (k3 : ∀ U T, mnP b (ftP b h s) 24 = none → (∀ j, T j ≤ 1) → (∀ n, n < 8 → wkE b U T n) → 1 ≤ rsn b U n → (∃ g, g < 24 ∧ b 11 g = 0) ∧ ∀ g, g < 24 → b 11 g = 0 → (∀ q, q < g → 0 < b 11 q) → K (some (.inl (nI g))) (ra L (npg (bw b U T) g h n))) : mo_Ok l G yy_Mo_find Y_Mo_find [.inr (some a0), .inl (nI h), .inl (nI n), .inl (nI s)] a0 ad Mb (ra L b) K := by
  refine mg_find (cr_fitting hb hh hs ⟨rfl, _, rfl, fun e => ?_, fun e => ?_⟩)
  · cases eo : mnP b (ftP b h s) 24 with
    | none =>
      rw [eo] at e
      exact absurd e (by decide)
    | some g => exact k1 g eo
  · cases eo : mnP b (ftP b h s) 24 with
    | some g =>
      rw [eo] at e
      exact absurd (nI_pos' (by have := (mnP_some eo).1; omega)) e
    | none =>
      refine cr_rest hb hn (fun U T hT hE => ⟨_, rfl, fun e2 => ?_, fun e2 => k2 U T eo hT hE e2⟩)
      obtain ⟨⟨g0, hg0, hz0⟩, hk⟩ := k3 U T eo hT hE e2
      have hbw := rb_bw (U := U) hb hT
      have fin : ∀ g, g < 24 → b 11 g = 0 → (∀ q, q < g → 0 < b 11 q) → K (some (.inl (nI g))) (mo_u (mo_u (mo_u (mo_u (ra L (bw b U T)) 11 g (nI h + 1)) 12 g (nI n)) 14 0 (((mo_u (mo_u (ra L (bw b U T)) 11 g (nI h + 1)) 12 g (nI n)) 14 0) + 1)) 13 g ((mo_u (mo_u (mo_u (ra L (bw b U T)) 11 g (nI h + 1)) 12 g (nI n)) 14 0 (((mo_u (mo_u (ra L (bw b U T)) 11 g (nI h + 1)) 12 g (nI n)) 14 0) + 1)) 14 0)) := by
        intro g h1 h2 h3
        have k0 := hk g h1 h2 h3
        rw [nI_1, ra_u _ (by decide), ra_u _ (by decide)]
        rw [show ra L (bu (bu (bw b U T) 11 g (h + 1)) 12 g n) 14 0 + 1 = nI (b 14 0 + 1) from nI_1 (b 14 0), ra_u _ (by decide)]
        rw [show ra L (bu (bu (bu (bw b U T) 11 g (h + 1)) 12 g n) 14 0 (b 14 0 + 1)) 14 0 = nI (b 14 0 + 1) from rfl, ra_u _ (by decide)]
        exact k0
      have main : ∀ g, g ≤ g0 → (∀ q, q < g → 0 < b 11 q) → mo_Z l G Y_Mo_find K a0 ad Mb 28 [some (.inr (some a0)), some (.inl (nI h)), some (.inl (nI n)), some (.inl (nI s)), some (.inl (nI g))] [] (ra L (bw b U T)) := by
        refine up_ind g0 (fun hq => ?_) (fun g hg ih hq => ?_)
        · refine mg_find_28 ⟨fun hc => absurd (leN 24 g0 hc) (by omega), fun _ => ⟨g0, rfl, hg0, fun _ => fin g0 hg0 hz0 hq, fun e3 => ?_⟩⟩
          exact absurd (show nI (b 11 g0) ≤ nI 0 by rw [hz0]; decide) e3
        · have h11 : b 11 g ≤ 13 := hb.2 11 g (by decide)
          refine mg_find_28 ⟨fun hc => absurd (leN 24 g hc) (by omega), fun _ => ⟨g, rfl, by omega, fun e3 => fin g (by omega) (by have := leN (b 11 g) 0 e3; omega) hq, fun e3 => ?_⟩⟩
          rw [nI_1]
          refine ih (fun q h1 => ?_)
          by_cases e4 : q = g
          · rw [e4]
            exact nleN (b 11 g) 0 e3
          · exact hq q (by omega)
      exact main 0 (Nat.zero_le _) (fun q h1 => by omega)
end RK
