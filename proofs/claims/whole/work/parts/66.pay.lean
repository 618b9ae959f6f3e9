/-! THE LIMITS: payments -/
/-- M with other ints in the three rows of the limits -/
def lm_M (M : mm_M) (lu ls le : Nat) (U S E : Nat → Int32) : mm_M := mm_mi M (fun a j => if a = lu then U j else if a = ls then S j else if a = le then E j else mm_i M a j)
def lm_H (M : mm_M) (al lu ls le : Nat) : Prop := mm_k M al = 5 ∧ mm_p M al 0 = some lu ∧ mm_p M al 1 = some ls ∧ mm_p M al 2 = some le ∧ mm_k M lu = 100 ∧ mm_k M ls = 100 ∧ mm_k M le = 101 ∧ mm_l M lu = 8 ∧ mm_l M ls = 8 ∧ mm_l M le = 8 ∧ lu ≠ ls
def lm_up (U : Nat → Int32) (j : Nat) (x : Int32) : Nat → Int32 := fun k => if k = j then x else U k
/-- what a process pays for -/
def lm_pd (M : mm_M) (gs : List Nat) (q : Nat) : Nat := gs.countP (fun g => decide (mm_i M g 1 = mm_i M q 0) || bb_t (mm_i M q 7) (mm_i M g 0).toNatClampNeg)
def lm_U0 (M : mm_M) (ar : Nat) (gs : List Nat) (p : Nat) : Int32 := match mm_p M ar p with
  | none => 0
  | some q => nI (lm_pd M gs q)
def lm_E0 (M : mm_M) (ar : Nat) (gs : List Nat) (p : Nat) : Int32 := match mm_p M ar p with
  | none => 0
  | some q => if p = 0 ∨ ¬ mm_i M q 5 = 4 ∨ 0 < lm_pd M gs q then 1 else 0
section LM
variable {l : Launch} {G : mm_G} {K : Option mm_V → mm_M → Prop} {M : mm_M} {am LP LO eP eO ar al lu ls le : Nat} {gs xs : List Nat} {U S E : Nat → Int32}
theorem lm_rf : lm_M M lu ls le (mm_i M lu) (mm_i M ls) (mm_i M le) = M := by
  unfold lm_M
  have : (fun a j => if a = lu then mm_i M lu j else if a = ls then mm_i M ls j else if a = le then mm_i M le j else mm_i M a j) = mm_i M := by
    funext a j
    by_cases h1 : a = lu
    · rw [if_pos h1, h1]
    · rw [if_neg h1]
      by_cases h2 : a = ls
      · rw [if_pos h2, h2]
      · rw [if_neg h2]
        by_cases h3 : a = le
        · rw [if_pos h3, h3]
        · rw [if_neg h3]
  rw [this, mm_mi_rf]
theorem lm_i (a j : Nat) : mm_i (lm_M M lu ls le U S E) a j = if a = lu then U j else if a = ls then S j else if a = le then E j else mm_i M a j := rfl
theorem lm_iu (j : Nat) : mm_i (lm_M M lu ls le U S E) lu j = U j := by rw [lm_i, if_pos rfl]
theorem lm_H.ne (h : lm_H M al lu ls le) {a : Nat} (h1 : mm_k M a ≠ 100) (h2 : mm_k M a ≠ 101) : ¬ a = lu ∧ ¬ a = ls ∧ ¬ a = le := ⟨fun q => h1 (by rw [q]; exact h.2.2.2.2.1), fun q => h1 (by rw [q]; exact h.2.2.2.2.2.1), fun q => h2 (by rw [q]; exact h.2.2.2.2.2.2.1)⟩
theorem lm_H.el (h : lm_H M al lu ls le) : ¬ le = lu ∧ ¬ le = ls := by
  constructor
  · intro q
    have := h.2.2.2.2.2.2.1
    rw [q, h.2.2.2.2.1] at this
    cases this
  · intro q
    have := h.2.2.2.2.2.2.1
    rw [q, h.2.2.2.2.2.1] at this
    cases this
theorem lm_H.i (h : lm_H M al lu ls le) {a j : Nat} (h1 : mm_k M a ≠ 100) (h2 : mm_k M a ≠ 101) : mm_i (lm_M M lu ls le U S E) a j = mm_i M a j := by
  obtain ⟨n1, n2, n3⟩ := h.ne h1 h2
  rw [lm_i, if_neg n1, if_neg n2, if_neg n3]
theorem lm_H.is (h : lm_H M al lu ls le) (j : Nat) : mm_i (lm_M M lu ls le U S E) ls j = S j := by rw [lm_i, if_neg (fun q => h.2.2.2.2.2.2.2.2.2.2 q.symm), if_pos rfl]
theorem lm_H.ie (h : lm_H M al lu ls le) (j : Nat) : mm_i (lm_M M lu ls le U S E) le j = E j := by rw [lm_i, if_neg h.el.1, if_neg h.el.2, if_pos rfl]
theorem lm_H.W (h : lm_H M al lu ls le) (hW : me_W G M am LP LO eP eO gs xs) : me_W G (lm_M M lu ls le U S E) am LP LO eP eO gs xs := hW.mi (fun a ha => h.i (U := U) (S := S) (E := E) (by rw [ha]; decide) (by rw [ha]; decide))
theorem lm_su (j : Nat) (x : Int32) : mm_si (lm_M M lu ls le U S E) lu j x = lm_M M lu ls le (lm_up U j x) S E := by
  unfold lm_M lm_up
  rw [mm_mi_si]
  congr 1
  funext a k
  by_cases q : a = lu
  · by_cases w : k = j <;> simp [q, w]
  · simp [q]
theorem lm_H.ss (h : lm_H M al lu ls le) (j : Nat) (x : Int32) : mm_si (lm_M M lu ls le U S E) ls j x = lm_M M lu ls le U (lm_up S j x) E := by
  have hne : ¬ ls = lu := fun q => h.2.2.2.2.2.2.2.2.2.2 q.symm
  unfold lm_M lm_up
  rw [mm_mi_si]
  congr 1
  funext a k
  by_cases q : a = ls
  · subst q
    by_cases w : k = j <;> simp [hne, w]
  · simp [q]
theorem lm_H.se (h : lm_H M al lu ls le) (j : Nat) (x : Int32) : mm_si (lm_M M lu ls le U S E) le j x = lm_M M lu ls le U S (lm_up E j x) := by
  obtain ⟨h1, h2⟩ := h.el
  unfold lm_M lm_up
  rw [mm_mi_si]
  congr 1
  funext a k
  by_cases q : a = le
  · subst q
    by_cases w : k = j <;> simp [h1, h2, w]
  · simp [q]
theorem lm_upto {f g : Nat → Int32} {i : Nat} {x : Int32} (hx : x = f i) : lm_up (fun j => if j < i then f j else g j) i x = fun j => if j < i + 1 then f j else g j := by
  funext j
  unfold lm_up
  by_cases h1 : j = i
  · rw [if_pos h1, h1, if_pos (Nat.lt_succ_self i), hx]
  · rw [if_neg h1]
    show (if j < i then f j else g j) = _
    by_cases h2 : j < i
    · rw [if_pos h2, if_pos (by omega)]
    · rw [if_neg h2, if_neg (by omega)]
theorem ct_payments (hL : lm_H M al lu ls le) (hW : me_W G M am LP LO eP eO gs xs) (hgh : ∀ g, g ∈ gs → ∃ h, h < 32 ∧ mm_i M g 0 = nI h) (kar : mm_k M ar = 104) (lar : mm_l M ar = 8)
    (k : K none (lm_M M lu ls le (fun j => if j < 8 then lm_U0 M ar gs j else U j) S (fun j => if j < 8 then lm_E0 M ar gs j else E j))) : mm_Ok l G yy_Li_reckonPayments Y_Li_reckonPayments [.inr (some al), .inr (some ar), .inr (some am)] (lm_M M lu ls le U S E) K := by
  have key : ∀ n i, 8 - i = n → i ≤ 8 → mm_Z l G Y_Li_reckonPayments K (lm_M M lu ls le U S E) 0 0 2 [some (.inr (some al)), some (.inr (some ar)), some (.inr (some am)), some (.inl (nI i)), none] [] (lm_M M lu ls le (fun j => if j < i then lm_U0 M ar gs j else U j) S (fun j => if j < i then lm_E0 M ar gs j else E j)) := by
    intro n
    induction n with
    | zero =>
      intro i hn hi
      have : i = 8 := by omega
      subst this
      exact sg_Li_reckonPayments_2 ⟨fun _ => k, fun q => absurd (by decide) q⟩
    | succ n ih =>
      intro i hn hi
      have hi8 : i < 8 := by omega
      have z := ih (i + 1) (by omega) (by omega)
      refine sg_Li_reckonPayments_2 ⟨fun q => absurd q (show ¬ nI 8 ≤ nI i from nI_ge hi8 (by decide)), fun _ => ⟨ar, rfl, kar, i, rfl, by omega, by show i < mm_l M ar; omega, hL.1, fun hn0 => ?_, fun q hq => ?_⟩⟩
      · have hn0' : mm_p M ar i = none := hn0
        have eU : lm_U0 M ar gs i = 0 := by unfold lm_U0; rw [hn0']
        have eE : lm_E0 M ar gs i = 0 := by unfold lm_E0; rw [hn0']
        refine ⟨lu, hL.2.1, hL.2.2.2.2.1, i, rfl, by omega, by show i < mm_l M lu; rw [hL.2.2.2.2.2.2.2.1]; exact hi8, fun _ => ⟨le, hL.2.2.2.1, hL.2.2.2.2.2.2.1, i, rfl, by omega, by show i < mm_l M le; rw [hL.2.2.2.2.2.2.2.2.2.1]; exact hi8, ?_⟩, fun a ha => (by have ha' : mm_p M ar i = some a := ha; rw [hn0'] at ha'; cases ha')⟩
        rw [nI_1, lm_su, hL.se, lm_upto eU.symm, lm_upto eE.symm]
        exact z
      · have hq' : mm_p M ar i = some q := hq
        have hq6 := hW.2.1.2.2.2.1 ar i q kar hq'
        have hW1 := hL.W (U := fun j => if j < i then lm_U0 M ar gs j else U j) (S := S) (E := fun j => if j < i then lm_E0 M ar gs j else E j) hW
        have hg7 := hW.2.2.2.2.2.2.2.2.2.1
        have ig : ∀ g, g ∈ gs → ∀ j, mm_i (lm_M M lu ls le (fun j => if j < i then lm_U0 M ar gs j else U j) S (fun j => if j < i then lm_E0 M ar gs j else E j)) g j = mm_i M g j := fun g hg j => hL.i (by rw [hg7 g hg]; decide) (by rw [hg7 g hg]; decide)
        have iq : ∀ (U S E : Nat → Int32) (j : Nat), mm_i (lm_M M lu ls le U S E) q j = mm_i M q j := fun U S E j => hL.i (by rw [hq6]; decide) (by rw [hq6]; decide)
        have eU : lm_U0 M ar gs i = nI (lm_pd M gs q) := by unfold lm_U0; rw [hq']
        have eE : lm_E0 M ar gs i = if i = 0 ∨ ¬ mm_i M q 5 = 4 ∨ 0 < lm_pd M gs q then 1 else 0 := by unfold lm_E0; rw [hq']
        have hpl : lm_pd M gs q ≤ 99 := Nat.le_trans List.countP_le_length hW.2.2.2.2.2.1.le
        refine ⟨am, rfl, hW.2.2.1, ?_⟩
        rw [hq]
        refine ct_countPaid hW1.2.2.1 hW1.2.2.2.1 hW1.2.2.2.2.2.1 (fun g hg => ⟨hg7 g hg, by rw [ig g hg]; exact hgh g hg⟩) hq6 (fun _ => ⟨_, rfl, ?_⟩)
        have ec : gs.countP (fun g => decide (mm_i (lm_M M lu ls le (fun j => if j < i then lm_U0 M ar gs j else U j) S (fun j => if j < i then lm_E0 M ar gs j else E j)) g 1 = mm_i (lm_M M lu ls le (fun j => if j < i then lm_U0 M ar gs j else U j) S (fun j => if j < i then lm_E0 M ar gs j else E j)) q 0) || bb_t (mm_i (lm_M M lu ls le (fun j => if j < i then lm_U0 M ar gs j else U j) S (fun j => if j < i then lm_E0 M ar gs j else E j)) q 7) (mm_i (lm_M M lu ls le (fun j => if j < i then lm_U0 M ar gs j else U j) S (fun j => if j < i then lm_E0 M ar gs j else E j)) g 0).toNatClampNeg) = lm_pd M gs q := by
          unfold lm_pd
          apply List.countP_congr
          intro g hg
          rw [ig g hg, ig g hg, iq, iq]
        rw [ec]
        refine ⟨lu, hL.2.1, hL.2.2.2.2.1, i, rfl, by omega, by show i < mm_l M lu; rw [hL.2.2.2.2.2.2.2.1]; exact hi8, fun ha => (by have ha' : some q = none := ha; cases ha'), fun a ha => ?_⟩
        have haq : q = a := Option.some.inj ha
        subst haq
        have fin : ∀ x, x = lm_E0 M ar gs i → mm_Z l G Y_Li_reckonPayments K (lm_M M lu ls le U S E) 0 0 2 [some (.inr (some al)), some (.inr (some ar)), some (.inr (some am)), some (.inl (nI i + 1)), none] [] (mm_si (mm_si (lm_M M lu ls le (fun j => if j < i then lm_U0 M ar gs j else U j) S (fun j => if j < i then lm_E0 M ar gs j else E j)) lu i (nI (lm_pd M gs q))) le i x) := by
          intro x hx
          rw [nI_1, lm_su, hL.se, lm_upto eU.symm, lm_upto hx]
          exact z
        have hlen : i < mm_l M le := by rw [hL.2.2.2.2.2.2.2.2.2.1]; exact hi8
        refine ⟨fun h0 => ⟨le, hL.2.2.2.1, hL.2.2.2.2.2.2.1, i, rfl, by omega, hlen, fin 1 ?_⟩, fun h0 => ⟨hq6, ct_living hq6 (fun _ => ⟨_, rfl, fun hc => ⟨le, hL.2.2.2.1, hL.2.2.2.2.2.2.1, i, rfl, by omega, hlen, fin 1 ?_⟩, fun hc => ⟨lu, hL.2.1, hL.2.2.2.2.1, i, rfl, by omega, by show i < mm_l M lu; rw [hL.2.2.2.2.2.2.2.1]; exact hi8, fun hc2 => ⟨le, hL.2.2.2.1, hL.2.2.2.2.2.2.1, i, rfl, by omega, hlen, fin 0 ?_⟩, fun hc2 => ⟨le, hL.2.2.2.1, hL.2.2.2.2.2.2.1, i, rfl, by omega, hlen, fin 1 ?_⟩⟩⟩)⟩⟩
        · have h0' : i = 0 := (nI_eq (by omega) (by decide)).mp h0
          rw [eE, if_pos (Or.inl h0')]
        · rw [lm_su, iq] at hc
          have : ¬ mm_i M q 5 = 4 := fun w => by rw [if_pos w] at hc; exact hc rfl
          rw [eE, if_pos (Or.inr (Or.inl this))]
        · rw [lm_su, iq] at hc
          rw [lm_su, lm_iu] at hc2
          have h4 : mm_i M q 5 = 4 := by
            apply Decidable.byContradiction
            intro w
            rw [if_neg w] at hc
            exact absurd hc (by decide)
          have h0' : ¬ i = 0 := fun w => h0 (by rw [w]; rfl)
          have hp : lm_up (fun j => if j < i then lm_U0 M ar gs j else U j) i (nI (lm_pd M gs q)) i = nI (lm_pd M gs q) := by unfold lm_up; rw [if_pos rfl]
          rw [hp] at hc2
          have hp0 : ¬ 0 < lm_pd M gs q := fun w => nI_nle w (by omega) hc2
          rw [eE, if_neg (fun w => w.elim h0' (fun v => v.elim (fun u => u h4) hp0))]
        · rw [lm_su, lm_iu] at hc2
          have hp : lm_up (fun j => if j < i then lm_U0 M ar gs j else U j) i (nI (lm_pd M gs q)) i = nI (lm_pd M gs q) := by unfold lm_up; rw [if_pos rfl]
          rw [hp] at hc2
          have hp0 : 0 < lm_pd M gs q := by
            rcases Nat.eq_zero_or_pos (lm_pd M gs q) with w | w
            · rw [w] at hc2
              exact absurd (by decide) hc2
            · exact w
          rw [eE, if_pos (Or.inr (Or.inr hp0))]
  have z := key 8 0 rfl (by omega)
  rw [nI_0] at z
  exact sg_Li_reckonPayments z
end LM
