/-! THE REFERENCE: load and store -/
/-- may p hold what v names (v - 1 is an object, 0 nothing)? -/
def rmh (b : rB) (p v : Nat) : Bool := if v = 0 then true else if b 6 (v - 1) - 1 < 8 then decide (b 6 (v - 1) - 1 = p) else !(fzb b (b 6 (v - 1) - 1) && decide (b 19 (4 * p + (b 6 (v - 1) - 1) - 9) = 0))
def rmy (b : rB) (p h g : Nat) : Bool := if h = p then decide (g = p) || decide (g = 8) || fzb b g else if h = 8 then decide (2 ≤ b 0 p) && (decide (g = 8) || decide (g = p)) else !fzb b h && decide (g = h)
def rgo (b : rB) (h v : Nat) : Nat := if v = 0 then h else b 6 (v - 1) - 1
def rst1 (b : rB) (u f v h : Nat) : rB := if rgo b h v = h then bu b 10 (3 * u + f) v else bu (bu b 10 (3 * u + f) v) 21 (60 * h + (v - 1)) 1
def rar (b : rB) (x y z w : Int32) (p r s f : Nat) : Prop := (p < 8 ∧ lv b p) ∧ r < 4 ∧ s < 4 ∧ f < 3 ∧ x = nI p ∧ y = nI r ∧ z = nI s ∧ w = nI f
section RM
variable {l : Launch} {G : mm_G} {K : Option mm_V → mo_A → Prop} {a0 : Nat} {ad : Nat → Nat} {Mb : mm_M} {L : Nat → Int32} {b : rB} {N h t p r k n s : Nat} {x y z w : Int32}
theorem f02 (w : Int32) (h0 : ¬ w < 0) (h2 : w ≤ 2) : ∃ f, f < 3 ∧ w = nI f := by
  obtain ⟨f, hf, e⟩ := nI_of h0
  subst e
  exact ⟨f, by have := leN f 2 h2; omega, rfl⟩
theorem m1le {v : Nat} (hv : v < 2 ^ 31) : (0 : Int32) ≤ nI v - 1 ↔ 0 < v := by
  constructor
  · intro e
    rcases Nat.eq_zero_or_pos v with u | u
    · rw [u] at e
      exact absurd e (by decide)
    · exact u
  · intro u
    rw [nI_sub1 u]
    exact nI_pos' (by omega)
theorem cq_load (hb : rb N b) (hfv : ∀ x f, x < 60 → 0 < b 6 x → f < 3 → 0 < b 10 (3 * x + f) → 0 < b 6 (b 10 (3 * x + f) - 1)) (hrg : ∀ p r, p < 8 → r < 4 → 0 < b 5 (4 * p + r) → 0 < b 6 (b 5 (4 * p + r) - 1))
    (k0 : (∀ p r s f, ¬ rar b x y z w p r s f) → K (some (.inl (-1))) (ra L b)) (k1 : ∀ p r s f, rar b x y z w p r s f → b 5 (4 * p + s) = 0 → K (some (.inl (-2))) (ra L b)) (k2 : ∀ p r s f u, rar b x y z w p r s f → b 5 (4 * p + s) = u + 1 → rmh b p (b 10 (3 * u + f)) = false → K (some (.inl (-3))) (ra L b))
    (k3 : ∀ p r s f u, rar b x y z w p r s f → b 5 (4 * p + s) = u + 1 → rmh b p (b 10 (3 * u + f)) = true → K (some (.inl 0)) (ra L (bu b 5 (4 * p + r) (b 10 (3 * u + f))))) : mo_Ok l G yy_Mo_load Y_Mo_load [.inr (some a0), .inl x, .inl y, .inl z, .inl w] a0 ad Mb (ra L b) K := by
  refine mg_load (cr_lives hb (fun h => ⟨rfl, _, rfl, fun _ => k0 (fun p r s f e => h p e.1.1 e.2.2.2.2.1 e.1.2), fun u => absurd rfl u⟩) (fun p hp e hl => ⟨rfl, _, rfl, fun u => absurd u (by decide), fun _ => ?_⟩))
  refine cr_isRegister (fun h => ⟨rfl, _, rfl, fun _ => k0 (fun p r s f e => h r e.2.1 e.2.2.2.2.2.1), fun u => absurd rfl u⟩) (fun r hr e2 => ⟨rfl, _, rfl, fun u => absurd u (by decide), fun _ => ?_⟩)
  refine cr_isRegister (fun h => ⟨rfl, _, rfl, fun _ => k0 (fun p r s f e => h s e.2.2.1 e.2.2.2.2.2.2.1), fun u => absurd rfl u⟩) (fun s hs e3 => ⟨rfl, _, rfl, fun u => absurd u (by decide), fun _ => ?_⟩)
  refine ⟨fun h => k0 (fun p r s f e => ?_), fun h => ⟨fun h2 => ?_, fun h2 => k0 (fun p r s f e => ?_)⟩⟩
  · rw [e.2.2.2.2.2.2.2] at h
    exact nI_pos (by have := e.2.2.2.1; omega) h
  · obtain ⟨f, hf, e4⟩ := f02 w h h2
    have hR : rar b x y z w p r s f := ⟨⟨hp, hl⟩, hr, hs, hf, e, e2, e3, e4⟩
    subst e
    subst e2
    subst e3
    subst e4
    have h5 : b 5 (4 * p + s) ≤ 60 := hb.2 5 _ (by decide)
    refine ⟨4 * p + s, ixN 4 p s, by omega, fun e => ?_, fun e => k1 p r s f hR (Nat.eq_zero_of_not_pos (fun u => e ((m1le (by omega)).mpr u)))⟩
    have e0 := (m1le (v := b 5 (4 * p + s)) (by omega)).mp e
    obtain ⟨u, eu⟩ : ∃ u, b 5 (4 * p + s) = u + 1 := ⟨b 5 (4 * p + s) - 1, by omega⟩
    have e5 : ra L b 5 (4 * p + s) - 1 = nI u := by
      show nI (b 5 (4 * p + s)) - 1 = nI u
      rw [eu]
      exact nI_pred u
    have hu6 : 0 < b 6 u := by
      have := hrg p s hp hs (by omega)
      rw [eu] at this
      exact this
    have h10 : b 10 (3 * u + f) ≤ 60 := hb.2 10 _ (by decide)
    rw [e5]
    refine ⟨3 * u + f, ixN 3 u f, by omega, fun e6 => ?_, fun e6 => ?_⟩
    · have e7 := (m1le (v := b 10 (3 * u + f)) (by omega)).mp e6
      obtain ⟨v, ev⟩ : ∃ v, b 10 (3 * u + f) = v + 1 := ⟨b 10 (3 * u + f) - 1, by omega⟩
      have e8 : ra L b 10 (3 * u + f) - 1 = nI v := by
        show nI (b 10 (3 * u + f)) - 1 = nI v
        rw [ev]
        exact nI_pred v
      have hv6 : 0 < b 6 v := by
        have := hfv u f (by omega) hu6 hf (by omega)
        rw [ev] at this
        exact this
      have hv13 : b 6 v ≤ 13 := hb.2 6 v (by decide)
      obtain ⟨g, eg⟩ : ∃ g, b 6 v = g + 1 := ⟨b 6 v - 1, by omega⟩
      have e9 : ra L b 6 v - 1 = nI g := by
        show nI (b 6 v) - 1 = nI g
        rw [eg]
        exact nI_pred g
      have em : rmh b p (b 10 (3 * u + f)) = if g < 8 then decide (g = p) else !(fzb b g && decide (b 19 (4 * p + g - 9) = 0)) := by
        unfold rmh
        rw [ev, if_neg (by omega), show v + 1 - 1 = v from rfl, eg]
        rfl
      have k3' := k3 p r s f u hR eu
      have k2' := k2 p r s f u hR eu
      rw [em] at k3' k2'
      have fin : (if g < 8 then decide (g = p) else !(fzb b g && decide (b 19 (4 * p + g - 9) = 0))) = true → ∃ j : Nat, 4 * nI p + nI r = nI j ∧ j < 32 ∧ K (some (.inl 0)) (mo_u (ra L b) 5 j (nI v + 1)) := by
        intro hh
        refine ⟨4 * p + r, ixN 4 p r, by omega, ?_⟩
        rw [nI_1, ra_u _ (by decide), ← ev]
        exact k3' hh
      rw [e8]
      refine ⟨v, rfl, by omega, ?_⟩
      rw [e9]
      refine ⟨fun e10 => ?_, fun e10 => ⟨fun e11 => k2' ?_, fun e11 => ?_⟩⟩
      · have hg8 := leN 8 g e10
        rw [if_neg (by omega)] at fin k2'
        refine cr_frozenN hb (by omega) ⟨rfl, _, rfl, fun e11 => fin ?_, fun e11 => ?_⟩
        · rw [(bzN _).mp e11]
          rfl
        · have efz : fzb b g = true := bzT e11
          rw [efz, Bool.true_and] at fin k2'
          have hg9 : 9 ≤ g := by
            unfold fzb at efz
            rcases Nat.lt_or_ge g 9 with q | q
            · rw [decide_eq_false (by omega)] at efz
              cases efz
            · exact q
          have ei : (4 : Int32) * nI p + nI g - 9 = nI (4 * p + g - 9) := by
            rw [show (4 : Int32) * nI p + nI g = nI (4 * p + g) from ixN 4 p g, show 4 * p + g = 4 * p + g - 9 + 9 by omega, ← nI_add]
            exact Int32.add_sub_cancel _ _
          have h19 : b 19 (4 * p + g - 9) ≤ 1 := hb.2 19 _ (by decide)
          refine ⟨4 * p + g - 9, ei, by omega, fun e12 => fin ?_, fun e12 => k2' ?_⟩
          · rw [decide_eq_false (neN (b 19 (4 * p + g - 9)) 0 e12)]
            rfl
          · rw [decide_eq_true (eqN (b 19 (4 * p + g - 9)) 0 e12)]
            rfl
      · have hg8 := nleN 8 g e10
        rw [if_pos hg8]
        exact decide_eq_false (neN g p e11)
      · have hg8 := nleN 8 g e10
        have egp := eqN g p e11
        refine cr_frozenN hb (by omega) ⟨rfl, _, rfl, fun e12 => fin ?_, fun e12 => ?_⟩
        · rw [if_pos hg8]
          exact decide_eq_true egp
        · exfalso
          have efz : fzb b g = true := bzT e12
          unfold fzb at efz
          rw [decide_eq_false (by omega)] at efz
          cases efz
    · have e7 : b 10 (3 * u + f) = 0 := Nat.eq_zero_of_not_pos (fun q => e6 ((m1le (v := b 10 (3 * u + f)) (by omega)).mpr q))
      have k3' := k3 p r s f u hR eu
      rw [e7] at k3'
      have fin : ∃ j : Nat, 4 * nI p + nI r = nI j ∧ j < 32 ∧ K (some (.inl 0)) (mo_u (ra L b) 5 j (ra L b 10 (3 * u + f) - 1 + 1)) := by
        refine ⟨4 * p + r, ixN 4 p r, by omega, ?_⟩
        have e8 : ra L b 10 (3 * u + f) - 1 + 1 = nI 0 := by
          show nI (b 10 (3 * u + f)) - 1 + 1 = nI 0
          rw [e7]
          decide
        rw [e8, ra_u _ (by decide)]
        exact k3' rfl
      refine ⟨fun e10 => absurd (leN 8 p e10) (by omega), fun _ => ⟨fun e11 => absurd rfl e11, fun _ => ?_⟩⟩
      refine cr_frozenN hb (by omega) ⟨rfl, _, rfl, fun e12 => fin, fun e12 => ?_⟩
      exfalso
      have efz : fzb b p = true := bzT e12
      unfold fzb at efz
      rw [decide_eq_false (by omega)] at efz
      cases efz
  · rw [e.2.2.2.2.2.2.2] at h2
    exact h2 (nI_le (show f ≤ 2 by have := e.2.2.2.1; omega) (by decide))
theorem cq_store (hb : rb N b) (hrg : ∀ p r, p < 8 → r < 4 → 0 < b 5 (4 * p + r) → 0 < b 6 (b 5 (4 * p + r) - 1))
    (k0 : (∀ p r s f, ¬ rar b x y w z p r s f) → K (some (.inl (-1))) (ra L b)) (k1 : ∀ p r s f, rar b x y w z p r s f → b 5 (4 * p + r) = 0 → K (some (.inl (-2))) (ra L b)) (k2 : ∀ p r s f u, rar b x y w z p r s f → b 5 (4 * p + r) = u + 1 → rmy b p (b 6 u - 1) (rgo b (b 6 u - 1) (b 5 (4 * p + s))) = false → K (some (.inl (-3))) (ra L b))
    (k3 : ∀ p r s f u, rar b x y w z p r s f → b 5 (4 * p + r) = u + 1 → rmy b p (b 6 u - 1) (rgo b (b 6 u - 1) (b 5 (4 * p + s))) = true → K (some (.inl 0)) (ra L (rst1 b u f (b 5 (4 * p + s)) (b 6 u - 1)))) : mo_Ok l G yy_Mo_store Y_Mo_store [.inr (some a0), .inl x, .inl y, .inl z, .inl w] a0 ad Mb (ra L b) K := by
  refine mg_store (cr_lives hb (fun h => ⟨rfl, _, rfl, fun _ => k0 (fun p r s f e => h p e.1.1 e.2.2.2.2.1 e.1.2), fun u => absurd rfl u⟩) (fun p hp e hl => ⟨rfl, _, rfl, fun u => absurd u (by decide), fun _ => ?_⟩))
  refine cr_isRegister (fun h => ⟨rfl, _, rfl, fun _ => k0 (fun p r s f e => h r e.2.1 e.2.2.2.2.2.1), fun u => absurd rfl u⟩) (fun r hr e2 => ⟨rfl, _, rfl, fun u => absurd u (by decide), fun _ => ?_⟩)
  refine cr_isRegister (fun h => ⟨rfl, _, rfl, fun _ => k0 (fun p r s f e => h s e.2.2.1 e.2.2.2.2.2.2.1), fun u => absurd rfl u⟩) (fun s hs e3 => ⟨rfl, _, rfl, fun u => absurd u (by decide), fun _ => ?_⟩)
  refine ⟨fun h => k0 (fun p r s f e => ?_), fun h => ⟨fun h2 => ?_, fun h2 => k0 (fun p r s f e => ?_)⟩⟩
  · rw [e.2.2.2.2.2.2.2] at h
    exact nI_pos (by have := e.2.2.2.1; omega) h
  · obtain ⟨f, hf, e4⟩ := f02 z h h2
    have hR : rar b x y w z p r s f := ⟨⟨hp, hl⟩, hr, hs, hf, e, e2, e3, e4⟩
    subst e
    subst e2
    subst e3
    subst e4
    have h5 : b 5 (4 * p + r) ≤ 60 := hb.2 5 _ (by decide)
    have h5s : b 5 (4 * p + s) ≤ 60 := hb.2 5 _ (by decide)
    have h0p : b 0 p ≤ 4 := hb.2 0 p (by decide)
    refine ⟨4 * p + r, ixN 4 p r, by omega, 4 * p + s, ixN 4 p s, by omega, fun e => ?_, fun e => k1 p r s f hR (Nat.eq_zero_of_not_pos (fun u => e ((m1le (by omega)).mpr u)))⟩
    have e0 := (m1le (v := b 5 (4 * p + r)) (by omega)).mp e
    obtain ⟨u, eu⟩ : ∃ u, b 5 (4 * p + r) = u + 1 := ⟨b 5 (4 * p + r) - 1, by omega⟩
    have e5 : ra L b 5 (4 * p + r) - 1 = nI u := by
      show nI (b 5 (4 * p + r)) - 1 = nI u
      rw [eu]
      exact nI_pred u
    have hu6 : 0 < b 6 u := by
      have := hrg p r hp hr (by omega)
      rw [eu] at this
      exact this
    have hu13 : b 6 u ≤ 13 := hb.2 6 u (by decide)
    obtain ⟨h, eh⟩ : ∃ h, b 6 u = h + 1 := ⟨b 6 u - 1, by omega⟩
    have e6 : ra L b 6 u - 1 = nI h := by
      show nI (b 6 u) - 1 = nI h
      rw [eh]
      exact nI_pred h
    have k3' := k3 p r s f u hR eu
    have k2' := k2 p r s f u hR eu
    rw [show b 6 u - 1 = h by omega] at k3' k2'
    clear k0 k1 k2 k3
    refine ⟨u, e5, by omega, fun e7 => ?_, fun e7 => ?_⟩
    · have e8 := (m1le (v := b 5 (4 * p + s)) (by omega)).mp e7
      obtain ⟨v, ev⟩ : ∃ v, b 5 (4 * p + s) = v + 1 := ⟨b 5 (4 * p + s) - 1, by omega⟩
      have e9 : ra L b 5 (4 * p + s) - 1 = nI v := by
        show nI (b 5 (4 * p + s)) - 1 = nI v
        rw [ev]
        exact nI_pred v
      have hv6 : 0 < b 6 v := by
        have := hrg p s hp hs (by omega)
        rw [ev] at this
        exact this
      have hv13 : b 6 v ≤ 13 := hb.2 6 v (by decide)
      obtain ⟨g, eg⟩ : ∃ g, b 6 v = g + 1 := ⟨b 6 v - 1, by omega⟩
      have e10 : ra L b 6 v - 1 = nI g := by
        show nI (b 6 v) - 1 = nI g
        rw [eg]
        exact nI_pred g
      have egt : rgo b h (b 5 (4 * p + s)) = g := by
        unfold rgo
        rw [ev, if_neg (by omega), show v + 1 - 1 = v from rfl]
        omega
      rw [egt] at k3' k2'
      unfold rst1 at k3'
      rw [egt, ev] at k3'
      have fin : rmy b p h g = true → ∃ j : Nat, 3 * nI u + nI f = nI j ∧ j < 180 ∧ (nI g = nI h → K (some (.inl 0)) (mo_u (ra L b) 10 j (nI v + 1))) ∧ (¬ nI g = nI h → ∃ j2 : Nat, 60 * nI h + nI v = nI j2 ∧ j2 < 780 ∧ K (some (.inl 0)) (mo_u (mo_u (ra L b) 10 j (nI v + 1)) 21 j2 1)) := by
        intro hm
        have k3' := k3' hm
        refine ⟨3 * u + f, ixN 3 u f, by omega, fun e11 => ?_, fun e11 => ⟨60 * h + v, ixN 60 h v, by omega, ?_⟩⟩
        · rw [if_pos (eqN g h e11)] at k3'
          rw [nI_1, ra_u _ (by decide)]
          exact k3'
        · rw [if_neg (neN g h e11)] at k3'
          rw [nI_1, ra_u _ (by decide), show mo_u (ra L _) 21 (60 * h + v) 1 = _ from ra_u 1 (by decide)]
          exact k3'
      refine ⟨v, e9, by omega, ?_⟩
      simp only [e5, e6, e9, e10]
      unfold rmy at fin k2'
      refine ⟨fun e11 => ?_, fun e11 => ?_⟩
      · rw [if_neg (neN h p e11)] at fin k2'
        refine ⟨fun e12 => ?_, fun e12 => ⟨p, rfl, hp, fun e13 => k2' ?_, fun e13 => ?_⟩⟩
        · rw [if_neg (neN h 8 e12)] at fin k2'
          refine cr_frozenN hb (by omega) ⟨rfl, _, rfl, fun e13 => k2' ?_, fun e13 => ⟨fun e14 => k2' ?_, fun e14 => fin ?_⟩⟩
          · rw [bzT e13]
            rfl
          · rw [decide_eq_false (neN g h e14), Bool.and_false]
          · rw [decide_eq_true (eqN g h e14), (bzN _).mp e13]
            rfl
        · rw [if_pos (eqN h 8 e12)]
          have := ltN (b 0 p) 2 e13
          rw [decide_eq_false (by omega)]
          rfl
        · rw [if_pos (eqN h 8 e12), decide_eq_true (show 2 ≤ b 0 p from nltN (b 0 p) 2 e13), Bool.true_and] at fin k2'
          refine ⟨fun e14 => fin ?_, fun e14 => ⟨fun e15 => k2' ?_, fun e15 => fin ?_⟩⟩
          · rw [decide_eq_true (eqN g 8 e14)]
            rfl
          · rw [decide_eq_false (neN g 8 e14), decide_eq_false (neN g p e15)]
            rfl
          · rw [decide_eq_true (eqN g p e15), Bool.or_true]
      · rw [if_pos (eqN h p e11)] at fin k2'
        refine ⟨fun e12 => fin ?_, fun e12 => ⟨fun e13 => fin ?_, fun e13 => ?_⟩⟩
        · rw [decide_eq_true (eqN g p e12)]
          rfl
        · rw [decide_eq_true (eqN g 8 e13), Bool.or_true]
          rfl
        · refine cr_frozenN hb (by omega) ⟨rfl, _, rfl, fun e14 => k2' ?_, fun e14 => fin ?_⟩
          · rw [decide_eq_false (neN g p e12), decide_eq_false (neN g 8 e13), (bzN _).mp e14]
            rfl
          · rw [bzT e14, Bool.or_true]
    · have e8 : b 5 (4 * p + s) = 0 := Nat.eq_zero_of_not_pos (fun q => e7 ((m1le (v := b 5 (4 * p + s)) (by omega)).mpr q))
      have e9 : ra L b 5 (4 * p + s) - 1 = nI 0 - 1 := by
        show nI (b 5 (4 * p + s)) - 1 = nI 0 - 1
        rw [e8]
      have egt : rgo b h (b 5 (4 * p + s)) = h := if_pos e8
      rw [egt] at k3' k2'
      unfold rst1 at k3'
      rw [egt, e8, if_pos rfl] at k3'
      have fin : rmy b p h h = true → ∃ j : Nat, 3 * nI u + nI f = nI j ∧ j < 180 ∧ (nI h = nI h → K (some (.inl 0)) (mo_u (ra L b) 10 j (nI 0 - 1 + 1))) ∧ (¬ nI h = nI h → ∃ j2 : Nat, 60 * nI h + (nI 0 - 1) = nI j2 ∧ j2 < 780 ∧ K (some (.inl 0)) (mo_u (mo_u (ra L b) 10 j (nI 0 - 1 + 1)) 21 j2 1)) := by
        intro hm
        refine ⟨3 * u + f, ixN 3 u f, by omega, fun e11 => ?_, fun e11 => absurd rfl e11⟩
        rw [show (nI 0 - 1 + 1 : Int32) = nI 0 from by decide, ra_u _ (by decide)]
        exact k3' hm
      rw [e5, e6, e9]
      unfold rmy at fin k2'
      refine ⟨fun e11 => ?_, fun e11 => ?_⟩
      · rw [if_neg (neN h p e11)] at fin k2'
        refine ⟨fun e12 => ?_, fun e12 => ⟨p, rfl, hp, fun e13 => k2' ?_, fun e13 => ?_⟩⟩
        · rw [if_neg (neN h 8 e12)] at fin k2'
          refine cr_frozenN hb (by omega) ⟨rfl, _, rfl, fun e13 => k2' ?_, fun e13 => ⟨fun e14 => absurd rfl e14, fun e14 => fin ?_⟩⟩
          · rw [bzT e13]
            rfl
          · rw [decide_eq_true rfl, (bzN _).mp e13]
            rfl
        · rw [if_pos (eqN h 8 e12)]
          have := ltN (b 0 p) 2 e13
          rw [decide_eq_false (by omega)]
          rfl
        · rw [if_pos (eqN h 8 e12), decide_eq_true (show 2 ≤ b 0 p from nltN (b 0 p) 2 e13), Bool.true_and] at fin k2'
          refine ⟨fun e14 => fin ?_, fun e14 => ⟨fun e15 => k2' ?_, fun e15 => fin ?_⟩⟩
          · rw [decide_eq_true (eqN h 8 e14)]
            rfl
          · exact absurd e12 e14
          · exact absurd e12 e14
      · rw [if_pos (eqN h p e11)] at fin k2'
        refine ⟨fun e12 => fin ?_, fun e12 => absurd e11 e12⟩
        rw [decide_eq_true (eqN h p e12)]
        rfl
  · rw [e.2.2.2.2.2.2.2] at h2
    exact h2 (nI_le (show f ≤ 2 by have := e.2.2.2.1; omega) (by decide))
end RM
