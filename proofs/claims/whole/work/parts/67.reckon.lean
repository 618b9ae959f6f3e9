/-! THE LIMITS: children, spare -/
def pn (M : mm_M) (q : Nat) : Nat := (mm_i M q 1).toNatClampNeg
def lc_s (M : mm_M) (ar : Nat) (s : (Nat → Int32) × (Nat → Int32)) (p : Nat) : (Nat → Int32) × (Nat → Int32) := if s.2 p = 0 then s else match mm_p M ar p with
  | none => s
  | some q => (lm_up s.1 (pn M q) (s.1 (pn M q) + (if mm_i M q 3 = 0 then s.1 p else mm_i M q 2)), lm_up s.2 (pn M q) 1)
def lc (M : mm_M) (ar : Nat) : Nat → (Nat → Int32) × (Nat → Int32) → (Nat → Int32) × (Nat → Int32)
  | 0, s => s
  | p + 1, s => lc M ar p (lc_s M ar s (p + 1))
def sv (M : mm_M) (ar : Nat) (U S : Nat → Int32) (p : Nat) : Int32 := match mm_p M ar p with
  | none => 0
  | some q => if mm_i M q 3 = 0 then (if S (pn M q) < mm_i M q 2 - U p then S (pn M q) else mm_i M q 2 - U p) else mm_i M q 2 - U p
def sp (M : mm_M) (ar : Nat) (U : Nat → Int32) : Nat → (Nat → Int32) → (Nat → Int32)
  | 0, S => S
  | n + 1, S => lm_up (sp M ar U n S) n (sv M ar U (sp M ar U n S) n)
/-- the tree of processes -/
def tr_H (M : mm_M) (ar : Nat) : Prop := mm_k M ar = 104 ∧ mm_l M ar = 8 ∧ (∀ p q, 0 < p → p < 8 → mm_p M ar p = some q → ∃ j q', mm_i M q 1 = nI j ∧ j < p ∧ mm_p M ar j = some q') ∧ ∀ q, mm_p M ar 0 = some q → ¬ mm_i M q 3 = 0
section LN
variable {l : Launch} {G : mm_G} {K : Option mm_V → mm_M → Prop} {M : mm_M} {am LP LO eP eO ar al lu ls le : Nat} {gs xs : List Nat} {U S E : Nat → Int32}
theorem ct_children (hL : lm_H M al lu ls le) (hT : ti_T M) (hR : tr_H M ar) (hE : ∀ p, p < 8 → ¬ E p = 0 → ∃ q, mm_p M ar p = some q)
    (k : K none (lm_M M lu ls le (lc M ar 7 (U, E)).1 S (lc M ar 7 (U, E)).2)) : mm_Ok l G yy_Li_addChildren Y_Li_addChildren [.inr (some al), .inr (some ar)] (lm_M M lu ls le U S E) K := by
  obtain ⟨kar, lar, hpar, -⟩ := hR
  have key : ∀ p, p ≤ 7 → ∀ U1 E1, (∀ p, p < 8 → ¬ E1 p = 0 → ∃ q, mm_p M ar p = some q) → lc M ar p (U1, E1) = lc M ar 7 (U, E) → mm_Z l G Y_Li_addChildren K (lm_M M lu ls le U S E) 0 0 3 [some (.inr (some al)), some (.inr (some ar)), some (.inl (nI p)), none] [] (lm_M M lu ls le U1 S E1) := by
    intro p
    induction p with
    | zero =>
      intro _ U1 E1 _ he
      refine sg_Li_addChildren_3 ⟨fun _ => ?_, fun q => absurd (by decide) q⟩
      have he' : (U1, E1) = lc M ar 7 (U, E) := he
      rw [← he'] at k
      exact k
    | succ p ih =>
      intro hp U1 E1 hE1 he
      have hlt : p + 1 < 8 := by omega
      have em : nI (p + 1) + (-1) = nI p := pk_m1 p
      refine sg_Li_addChildren_3 ⟨fun q => absurd q (nI_nle (by omega) (by omega)), fun _ => ⟨hL.1, le, hL.2.2.2.1, hL.2.2.2.2.2.2.1, p + 1, rfl, by omega, by show p + 1 < mm_l M le; rw [hL.2.2.2.2.2.2.2.2.2.1]; exact hlt, fun h0 => ?_, fun h0 => ?_⟩⟩
      · rw [hL.ie] at h0
        rw [em]
        refine ih (by omega) U1 E1 hE1 ?_
        rw [← he]
        show _ = lc M ar p (lc_s M ar (U1, E1) (p + 1))
        unfold lc_s
        rw [if_pos h0]
      · rw [hL.ie] at h0
        obtain ⟨q, hq⟩ := hE1 (p + 1) hlt h0
        have hq6 := hT.2.2.2.1 ar (p + 1) q kar hq
        obtain ⟨j, q', hj, hjp, hq'⟩ := hpar (p + 1) q (by omega) hlt hq
        have ejp : pn M q = j := by unfold pn; rw [hj, nI_clamp (by omega)]
        have iq : ∀ (U S E : Nat → Int32) (j : Nat), mm_i (lm_M M lu ls le U S E) q j = mm_i M q j := fun U S E j => hL.i (by rw [hq6]; decide) (by rw [hq6]; decide)
        have l1 : ∀ j, j < 8 → j < mm_l M lu := fun j hj => by rw [hL.2.2.2.2.2.2.2.1]; exact hj
        have l2 : ∀ j, j < 8 → j < mm_l M le := fun j hj => by rw [hL.2.2.2.2.2.2.2.2.2.1]; exact hj
        have hj8 : j < 8 := by omega
        have fin : ∀ x, x = (if mm_i M q 3 = 0 then U1 (p + 1) else mm_i M q 2) → mm_Z l G Y_Li_addChildren K (lm_M M lu ls le U S E) 0 0 3 [some (.inr (some al)), some (.inr (some ar)), some (.inl (nI p)), none] [] (lm_M M lu ls le (lm_up U1 j (U1 j + x)) S (lm_up E1 j 1)) := by
          intro x hx
          refine ih (by omega) _ _ (fun p' hp' h1 => ?_) ?_
          · unfold lm_up at h1
            by_cases w : p' = j
            · exact ⟨q', by rw [w]; exact hq'⟩
            · rw [if_neg w] at h1
              exact hE1 p' hp' h1
          · rw [← he]
            show _ = lc M ar p (lc_s M ar (U1, E1) (p + 1))
            unfold lc_s
            rw [if_neg h0, hq]
            show _ = lc M ar p (lm_up U1 (pn M q) (U1 (pn M q) + (if mm_i M q 3 = 0 then U1 (p + 1) else mm_i M q 2)), lm_up E1 (pn M q) 1)
            rw [ejp, hx]
        refine ⟨ar, rfl, kar, p + 1, rfl, by omega, by show p + 1 < mm_l M ar; omega, q, hq, hq6, lu, hL.2.1, hL.2.2.2.2.1, j, by rw [iq]; exact hj, by omega, l1 j hj8, fun h3 => ?_, fun h3 => ?_⟩
        · rw [iq] at h3
          refine ⟨p + 1, rfl, by omega, l1 _ hlt, j, by rw [iq]; exact hj, by omega, l1 j hj8, le, hL.2.2.2.1, hL.2.2.2.2.2.2.1, j, by rw [lm_su, iq]; exact hj, by omega, l2 j hj8, ?_⟩
          rw [em, lm_iu, lm_iu, lm_su, hL.se]
          exact fin _ (by rw [if_pos h3])
        · rw [iq] at h3
          refine ⟨j, by rw [iq]; exact hj, by omega, l1 j hj8, le, hL.2.2.2.1, hL.2.2.2.2.2.2.1, j, by rw [lm_su, iq]; exact hj, by omega, l2 j hj8, ?_⟩
          rw [em, lm_iu, iq, lm_su, hL.se]
          exact fin _ (by rw [if_neg h3])
  exact sg_Li_addChildren (key 7 (Nat.le_refl _) U E hE rfl)
theorem ct_spare (hL : lm_H M al lu ls le) (hT : ti_T M) (hR : tr_H M ar)
    (k : K none (lm_M M lu ls le U (sp M ar U 8 S) E)) : mm_Ok l G yy_Li_reckonSpare Y_Li_reckonSpare [.inr (some al), .inr (some ar)] (lm_M M lu ls le U S E) K := by
  obtain ⟨kar, lar, hpar, hroot⟩ := hR
  have key : ∀ n i, 8 - i = n → i ≤ 8 → mm_Z l G Y_Li_reckonSpare K (lm_M M lu ls le U S E) 0 0 2 [some (.inr (some al)), some (.inr (some ar)), some (.inl (nI i)), none] [] (lm_M M lu ls le U (sp M ar U i S) E) := by
    intro n
    induction n with
    | zero =>
      intro i hn hi
      have : i = 8 := by omega
      subst this
      exact sg_Li_reckonSpare_2 ⟨fun _ => k, fun q => absurd (by decide) q⟩
    | succ n ih =>
      intro i hn hi
      have hi8 : i < 8 := by omega
      have z := ih (i + 1) (by omega) (by omega)
      have z' : mm_Z l G Y_Li_reckonSpare K (lm_M M lu ls le U S E) 0 0 2 [some (.inr (some al)), some (.inr (some ar)), some (.inl (nI (i + 1))), none] [] (lm_M M lu ls le U (lm_up (sp M ar U i S) i (sv M ar U (sp M ar U i S) i)) E) := z
      have l1 : ∀ j, j < 8 → j < mm_l M lu := fun j hj => by rw [hL.2.2.2.2.2.2.2.1]; exact hj
      have l2 : ∀ j, j < 8 → j < mm_l M ls := fun j hj => by rw [hL.2.2.2.2.2.2.2.2.1]; exact hj
      generalize hS : sp M ar U i S = T at z'
      refine sg_Li_reckonSpare_2 ⟨fun q => absurd q (show ¬ nI 8 ≤ nI i from nI_ge hi8 (by decide)), fun _ => ⟨ar, rfl, kar, i, rfl, by omega, by show i < mm_l M ar; omega, hL.1, fun hn0 => ?_, fun q hq => ?_⟩⟩
      · have hn0' : mm_p M ar i = none := hn0
        refine ⟨ls, hL.2.2.1, hL.2.2.2.2.2.1, i, rfl, by omega, l2 i hi8, fun _ => ?_, fun a ha => (by have ha' : mm_p M ar i = some a := ha; rw [hn0'] at ha'; cases ha')⟩
        have e : sv M ar U T i = 0 := by unfold sv; rw [hn0']
        rw [e] at z'
        rw [nI_1, hL.ss]
        exact z'
      · have hq' : mm_p M ar i = some q := hq
        have hq6 := hT.2.2.2.1 ar i q kar hq'
        have iq : ∀ (U S E : Nat → Int32) (j : Nat), mm_i (lm_M M lu ls le U S E) q j = mm_i M q j := fun U S E j => hL.i (by rw [hq6]; decide) (by rw [hq6]; decide)
        have e : sv M ar U T i = if mm_i M q 3 = 0 then (if T (pn M q) < mm_i M q 2 - U i then T (pn M q) else mm_i M q 2 - U i) else mm_i M q 2 - U i := by unfold sv; rw [hq']
        refine ⟨hq6, lu, hL.2.1, hL.2.2.2.2.1, i, rfl, by omega, l1 i hi8, ls, hL.2.2.1, hL.2.2.2.2.2.1, i, rfl, by omega, l2 i hi8, fun ha => (by have ha' : mm_p M ar i = none := ha; rw [hq'] at ha'; cases ha'), fun a ha => ?_⟩
        have haq : q = a := by
          have ha' : mm_p M ar i = some a := ha
          rw [hq'] at ha'
          exact Option.some.inj ha'
        subst haq
        rw [iq, lm_iu, hL.ss]
        refine ⟨hq6, fun h3 => ?_, fun h3 => ?_⟩
        · rw [iq] at h3
          rw [e, if_neg h3] at z'
          rw [nI_1]
          exact z'
        · rw [iq] at h3
          rw [e, if_pos h3] at z'
          have hi0 : 0 < i := by
            rcases Nat.eq_zero_or_pos i with w | w
            · subst w
              exact absurd h3 (hroot q hq')
            · exact w
          obtain ⟨j, q', hj, hjp, hq2⟩ := hpar i q hi0 hi8 hq'
          have ejp : pn M q = j := by unfold pn; rw [hj, nI_clamp (by omega)]
          rw [ejp] at z'
          refine ⟨ls, hL.2.2.1, hL.2.2.2.2.2.1, i, rfl, by omega, l2 i hi8, j, by rw [iq]; exact hj, by omega, l2 j (by omega), i, rfl, by omega, l2 i hi8, ?_⟩
          have u1 : lm_up T i (mm_i M q 2 - U i) j = T j := by unfold lm_up; rw [if_neg (by omega)]
          have u2 : lm_up T i (mm_i M q 2 - U i) i = mm_i M q 2 - U i := by unfold lm_up; rw [if_pos rfl]
          rw [nI_1, hL.is, hL.is, u1, u2, hL.ss]
          have u3 : ∀ x, lm_up (lm_up T i (mm_i M q 2 - U i)) i x = lm_up T i x := fun x => by
            funext b
            unfold lm_up
            by_cases w : b = i
            · rw [if_pos w, if_pos w]
            · rw [if_neg w, if_neg w, if_neg w]
          rw [u3]
          exact z'
  have z := key 8 0 rfl (by omega)
  rw [nI_0] at z
  exact sg_Li_reckonSpare z
/-- the three rows after a reckoning -/
def rk_P (M : mm_M) (ar lu le : Nat) (gs : List Nat) : (Nat → Int32) × (Nat → Int32) := lc M ar 7 (fun j => if j < 8 then lm_U0 M ar gs j else mm_i M lu j, fun j => if j < 8 then lm_E0 M ar gs j else mm_i M le j)
theorem ct_reckon (hL : lm_H M al lu ls le) (hW : me_W G M am LP LO eP eO gs xs) (hgh : ∀ g, g ∈ gs → ∃ h, h < 32 ∧ mm_i M g 0 = nI h) (hR : tr_H M ar)
    (k : K none (lm_M M lu ls le (rk_P M ar lu le gs).1 (sp M ar (rk_P M ar lu le gs).1 8 (mm_i M ls)) (rk_P M ar lu le gs).2)) : mm_Ok l G yy_Li_reckon Y_Li_reckon [.inr (some al), .inr (some ar), .inr (some am)] M K := by
  refine sg_Li_reckon ⟨hL.1, ?_⟩
  have z : mm_Ok l G yy_Li_reckonPayments Y_Li_reckonPayments [.inr (some al), .inr (some ar), .inr (some am)] (lm_M M lu ls le (mm_i M lu) (mm_i M ls) (mm_i M le)) (fun r M1 => mm_X M M1 → r = none ∧ mm_Ok l G yy_Li_addChildren Y_Li_addChildren [.inr (some al), .inr (some ar)] M1 (fun r M4 => mm_X M1 M4 → r = none ∧ mm_Ok l G yy_Li_reckonSpare Y_Li_reckonSpare [.inr (some al), .inr (some ar)] M4 (fun r M6 => mm_X M4 M6 → r = none ∧ K none M6))) := by
    refine ct_payments hL hW hgh hR.1 hR.2.1 (fun _ => ⟨rfl, ct_children hL hW.2.1 hR (fun p hp hE => ?_) (fun _ => ⟨rfl, ct_spare hL hW.2.1 hR (fun _ => ⟨rfl, k⟩)⟩)⟩)
    rw [if_pos hp] at hE
    unfold lm_E0 at hE
    cases w : mm_p M ar p with
    | none =>
      rw [w] at hE
      exact absurd rfl hE
    | some q => exact ⟨q, rfl⟩
  rw [lm_rf] at z
  exact z
end LN
