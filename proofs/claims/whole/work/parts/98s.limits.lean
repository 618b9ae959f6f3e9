/-! CLASS AND REFERENCE: the limits -/
section SS
variable {D : ph_D} {b : rB} {L : Nat → Int32} {pg ob U T : Nat → Nat} {N n p : Nat}
theorem sm_only {f : Nat → Nat} {m j : Nat} (hj : j < m) (h : ∀ i, i < m → i ≠ j → f i = 0) : sm f m = f j := by
  have := sm_one (f := f) (g := fun _ => 0) (d := f j) hj h (Nat.zero_add _).symm
  rw [this, sm_z (fun _ _ => rfl), Nat.zero_add]
theorem ow_sm (b : rB) (n : Nat) : ow b n = sm (fun g => (if opg b n g = true then 1 else 0) + sm (fun k => if b 20 (4 * n + k) = 0 then 0 else if b 11 g = 9 + k + 1 then 1 else 0) 4) 24 := by
  unfold ow
  rw [sm_add, cnt_sm]
  congr 1
  rw [← sm_comm (fun k g => if b 20 (4 * n + k) = 0 then 0 else if b 11 g = 9 + k + 1 then 1 else 0) 4 24]
  refine sm_c (fun k _ => ?_)
  show opk b n k = sm (fun g => if b 20 (4 * n + k) = 0 then 0 else if b 11 g = 9 + k + 1 then 1 else 0) 24
  unfold opk
  by_cases h1 : b 20 (4 * n + k) = 0
  · rw [if_pos h1]
    exact (sm_z (fun g _ => if_pos h1)).symm
  · rw [if_neg h1]
    unfold pc
    rw [cnt_sm]
    refine sm_c (fun g _ => ?_)
    rw [if_neg h1]
    by_cases h2 : b 11 g = 9 + k + 1
    · rw [if_pos h2, if_pos (decide_eq_true h2)]
    · rw [if_neg h2, if_neg (by rw [decide_eq_false h2]; decide)]
theorem m1_ne {p : Nat} (hp : p < 2 ^ 31) : ¬ (-1 : Int32) = nI p := fun e => by
  have h := nI_pos hp
  rw [← e] at h
  exact h (by decide)
theorem sR.pd (hs : sR D b L pg ob) (hv : iV b) (hb : rb N b) (hp : p < b 4 0) : d_pd D p = ow b p := by
  have hT := hv.2.2.2.2.1
  have h48 := hT.2.1
  have hch := (hs.2.2.2.2.1.2.2 p hp).2.2.2.2.1
  unfold d_pd
  rw [hs.2.2.1.cnt (q := fun g => opg b p g || (decide (0 < b 11 g) && decide (9 ≤ b 11 g - 1) && decide (b 11 g - 1 < 13) && !decide (b 20 (4 * p + (b 11 g - 1 - 9)) = 0))), cnt_sm, ow_sm]
  · refine sm_c (fun g hg => ?_)
    have h11 : b 11 g ≤ 13 := hb.2 11 g (by decide)
    by_cases h9 : 10 ≤ b 11 g
    · have hk : b 11 g - 1 - 9 < 4 := by omega
      rw [sm_only (j := b 11 g - 1 - 9) hk (fun i _ hi => ?_)]
      · rw [decide_eq_true (show 0 < b 11 g by omega), decide_eq_true (show 9 ≤ b 11 g - 1 by omega), decide_eq_true (show b 11 g - 1 < 13 by omega)]
        by_cases h2 : b 20 (4 * p + (b 11 g - 1 - 9)) = 0
        · rw [decide_eq_true h2, if_pos h2]
          cases opg b p g <;> rfl
        · have h3 := (hv.2.2.1.2.1 p (b 11 g - 1 - 9) (by omega) hk h2).1
          have h4 : opg b p g = false := Bool.eq_false_iff.mpr (fun u => by
            have := (opg_t.mp u).2.1
            rw [fzb_t.mpr ⟨by omega, by omega, h3⟩] at this
            cases this)
          rw [h4, decide_eq_false h2, if_neg h2, if_pos (show b 11 g = 9 + (b 11 g - 1 - 9) + 1 by omega)]
          rfl
      · show (if b 20 (4 * p + i) = 0 then 0 else if b 11 g = 9 + i + 1 then 1 else 0) = 0
        rw [if_neg (show ¬ b 11 g = 9 + i + 1 by omega)]
        split <;> rfl
    · rw [sm_z (f := fun k => if b 20 (4 * p + k) = 0 then 0 else if b 11 g = 9 + k + 1 then 1 else 0) (fun k _ => by
        show (if b 20 (4 * p + k) = 0 then 0 else if b 11 g = 9 + k + 1 then 1 else 0) = 0
        rw [if_neg (show ¬ b 11 g = 9 + k + 1 by omega)]
        split <;> rfl)]
      rw [decide_eq_false (show ¬ 9 ≤ b 11 g - 1 by omega), Bool.and_false]
      cases opg b p g <;> rfl
  · intro g hg h0
    have h11 : b 11 g ≤ 13 := hb.2 11 g (by decide)
    have h12 : b 12 g ≤ 7 := hb.2 12 g (by decide)
    obtain ⟨e0, e1⟩ := hs.2.2.2.1 g hg h0
    show (decide (D.2.1 1 (pg g) = nI p) || bb_t (D.2.1 11 p) (D.2.1 0 (pg g)).toNatClampNeg) = _
    rw [e0, e1, nI_clamp (by omega), hch]
    rw [decide_eq_true h0, Bool.true_and]
    congr 1
    cases hf : fzb b (b 11 g - 1) with
    | true =>
      rw [if_pos rfl, decide_eq_false (m1_ne (by omega))]
      exact (Bool.eq_false_iff.mpr (fun u => by
        have := (opg_t.mp u).2.1
        rw [hf] at this
        cases this)).symm
    | false =>
      rw [if_neg (by decide)]
      by_cases e : b 12 g = p
      · rw [decide_eq_true (by rw [e])]
        exact (opg_t.mpr ⟨h0, hf, e⟩).symm
      · rw [decide_eq_false (fun u => e (eqN (b 12 g) p u))]
        exact (Bool.eq_false_iff.mpr (fun u => e (opg_t.mp u).2.2)).symm
  · intro g hg h0
    have h0 : (opg b p g || (decide (0 < b 11 g) && decide (9 ≤ b 11 g - 1) && decide (b 11 g - 1 < 13) && !decide (b 20 (4 * p + (b 11 g - 1 - 9)) = 0))) = true := h0
    rcases Nat.eq_zero_or_pos (b 11 g) with e | e
    · rw [decide_eq_false (show ¬ 0 < b 11 g by omega), Bool.false_and, Bool.false_and, Bool.false_and, Bool.or_false] at h0
      exact (opg_t.mp h0).1
    · exact e
theorem ow_un (hv : iV b) (hn : n < 8) (h : ¬ n < b 4 0) : ow b n = 0 := Nat.eq_zero_of_not_pos (fun u => h ((hv.2.2.2.2.1.2.2.1 n hn).mp (ow_made hv.2.1 hv.2.2.1 hn u)))
theorem sR.lc (hs : sR D b L pg ob) (hv : iV b) (hb : rb N b) (hE : ∀ n, n < 8 → wkE b U T n) : ∀ (q : Nat) (s : (Nat → Int32) × (Nat → Int32)), q ≤ 7 → (∀ n, n < 8 → s.1 n = nI (ow b n + sm (fun c => if q < c then wt b U T n c else 0) 8) ∧ (s.2 n ≠ 0 ↔ n = 0 ∨ lv b n ∨ 0 < ow b n ∨ ∃ c, q < c ∧ c < 8 ∧ chd b T n c = true)) → ∀ n, n < 8 → (d_lc D q s).1 n = nI (U n) ∧ ((d_lc D q s).2 n ≠ 0 ↔ T n ≠ 0) := by
  have hT := hv.2.2.2.2.1
  have h48 := hT.2.1
  intro q
  induction q with
  | zero =>
    intro s _ h n hn
    obtain ⟨h1, h2⟩ := h n hn
    show s.1 n = nI (U n) ∧ (s.2 n ≠ 0 ↔ T n ≠ 0)
    constructor
    · rw [h1, (hE n hn).1]
      have e : sm (fun c => if 0 < c then wt b U T n c else 0) 8 = sm (wt b U T n) 8 := sm_c (fun c _ => by
        split
        · rfl
        · exact (wt_0 (by omega)).symm)
      rw [e]
    · rw [h2, wkO_T (o := ow b) (hE n hn)]
      constructor
      · rintro (g | g | g | ⟨c, g1, g2, g3⟩)
        · exact Or.inl g
        · exact Or.inr (Or.inl g)
        · exact Or.inr (Or.inr (Or.inl g))
        · exact Or.inr (Or.inr (Or.inr ⟨c, g2, g3⟩))
      · rintro (g | g | g | ⟨c, g1, g2⟩)
        · exact Or.inl g
        · exact Or.inr (Or.inl g)
        · exact Or.inr (Or.inr (Or.inl g))
        · exact Or.inr (Or.inr (Or.inr ⟨c, by have := (chd_t.mp g2).1; omega, g1, g2⟩))
  | succ q ih =>
    intro s hq h
    have hq8 : q + 1 < 8 := by omega
    show ∀ n, n < 8 → (d_lc D q (d_cs D s (q + 1))).1 n = nI (U n) ∧ ((d_lc D q (d_cs D s (q + 1))).2 n ≠ 0 ↔ T n ≠ 0)
    refine ih _ (by omega) (fun n hn => ?_)
    obtain ⟨h1, h2⟩ := h n hn
    have hsplit : sm (fun c => if q < c then wt b U T n c else 0) 8 = sm (fun c => if q + 1 < c then wt b U T n c else 0) 8 + wt b U T n (q + 1) := by
      refine sm_one hq8 (fun c _ hc => ?_) ?_
      · show (if q < c then wt b U T n c else 0) = if q + 1 < c then wt b U T n c else 0
        by_cases e : q < c
        · rw [if_pos e, if_pos (by omega)]
        · rw [if_neg e, if_neg (by omega)]
      · show (if q < q + 1 then wt b U T n (q + 1) else 0) = (if q + 1 < q + 1 then wt b U T n (q + 1) else 0) + wt b U T n (q + 1)
        rw [if_pos (Nat.lt_succ_self q), if_neg (Nat.lt_irrefl _), Nat.zero_add]
    have hTq : s.2 (q + 1) ≠ 0 ↔ T (q + 1) ≠ 0 := by
      rw [(h (q + 1) hq8).2, wkO_T (o := ow b) (hE (q + 1) hq8)]
      constructor
      · rintro (g | g | g | ⟨c, g1, g2, g3⟩)
        · exact Or.inl g
        · exact Or.inr (Or.inl g)
        · exact Or.inr (Or.inr (Or.inl g))
        · exact Or.inr (Or.inr (Or.inr ⟨c, g2, g3⟩))
      · rintro (g | g | g | ⟨c, g1, g2⟩)
        · exact Or.inl g
        · exact Or.inr (Or.inl g)
        · exact Or.inr (Or.inr (Or.inl g))
        · exact Or.inr (Or.inr (Or.inr ⟨c, (chd_t.mp g2).1, g1, g2⟩))
    have hUq : s.1 (q + 1) = nI (U (q + 1)) := by
      rw [(h (q + 1) hq8).1, (hE (q + 1) hq8).1]
      congr 2
      refine sm_c (fun c _ => ?_)
      split
      · rfl
      · rename_i u
        exact (wt_0 u).symm
    have step : (∃ c, q < c ∧ c < 8 ∧ chd b T n c = true) ↔ chd b T n (q + 1) = true ∨ ∃ c, q + 1 < c ∧ c < 8 ∧ chd b T n c = true := by
      constructor
      · rintro ⟨c, g1, g2, g3⟩
        by_cases e : c = q + 1
        · rw [← e]
          exact Or.inl g3
        · exact Or.inr ⟨c, by omega, g2, g3⟩
      · rintro (g | ⟨c, g1, g2, g3⟩)
        · exact ⟨q + 1, by omega, hq8, g⟩
        · exact ⟨c, by omega, g2, g3⟩
    unfold d_cs
    by_cases hz : s.2 (q + 1) = 0
    · have hT0 : T (q + 1) = 0 := Decidable.byContradiction (fun u => hTq.mpr u hz)
      have hcd : ¬ chd b T n (q + 1) = true := fun u => (chd_t.mp u).2.2.2 hT0
      rw [if_pos hz, hsplit, show wt b U T n (q + 1) = 0 from if_neg hcd, Nat.add_zero, step]
      refine ⟨h1, h2.trans ?_⟩
      constructor
      · rintro (g | g | g | g)
        · exact Or.inl g
        · exact Or.inr (Or.inl g)
        · exact Or.inr (Or.inr (Or.inl g))
        · exact Or.inr (Or.inr (Or.inr (Or.inr g)))
      · rintro (g | g | g | g | g)
        · exact Or.inl g
        · exact Or.inr (Or.inl g)
        · exact Or.inr (Or.inr (Or.inl g))
        · exact absurd g hcd
        · exact Or.inr (Or.inr (Or.inr g))
    · have hT0 := hTq.mp hz
      have hmade : q + 1 < b 4 0 := by
        refine (hT.2.2.1 (q + 1) hq8).mp ?_
        rcases (wkO_T (o := ow b) (hE (q + 1) hq8)).mp hT0 with g | g | g | ⟨c, g1, g2⟩
        · omega
        · exact g.1
        · exact ow_made hv.2.1 hv.2.2.1 hq8 g
        · obtain ⟨j1, j2, j3, j4⟩ := chd_t.mp g2
          have := (hT.2.2.1 c g1).mp j2
          exact (hT.2.2.1 (q + 1) hq8).mpr (by omega)
      obtain ⟨q1, q2, q3, _⟩ := hs.2.2.2.2.1.2.2 (q + 1) hmade
      have hpar := hT.2.2.2.1 (q + 1) (by omega) hmade
      have ep : d_par D (q + 1) = b 1 (q + 1) := by
        unfold d_par
        rw [q1 (by omega)]
        exact nI_clamp (by omega)
      have h3 : b 3 (q + 1) ≤ 1 := hb.2 3 _ (by decide)
      rw [if_neg hz, ep, q2, q3, hUq, step]
      show lm_up s.1 (b 1 (q + 1)) _ n = _ ∧ (lm_up s.2 (b 1 (q + 1)) 1 n ≠ 0 ↔ _)
      unfold lm_up
      by_cases e : n = b 1 (q + 1)
      · have hcd : chd b T n (q + 1) = true := chd_t.mpr ⟨by omega, (hT.2.2.1 (q + 1) hq8).mpr hmade, e.symm, hT0⟩
        rw [if_pos e, if_pos e, hsplit, ← e, h1]
        refine ⟨?_, ⟨fun _ => Or.inr (Or.inr (Or.inr (Or.inl hcd))), fun _ => by decide⟩⟩
        unfold wt
        rw [if_pos hcd]
        by_cases e3 : b 3 (q + 1) = 0
        · rw [if_pos (by rw [e3]; decide), if_pos e3, nI_add, Nat.add_assoc]
        · rw [if_neg (show ¬ nI (b 3 (q + 1)) = 0 from fun u => e3 (eqN (b 3 (q + 1)) 0 u)), if_neg e3, nI_add, Nat.add_assoc]
      · have hcd : ¬ chd b T n (q + 1) = true := fun u => e (chd_t.mp u).2.2.1.symm
        rw [if_neg e, if_neg e, hsplit, show wt b U T n (q + 1) = 0 from if_neg hcd, Nat.add_zero]
        refine ⟨h1, h2.trans ?_⟩
        constructor
        · rintro (g | g | g | g)
          · exact Or.inl g
          · exact Or.inr (Or.inl g)
          · exact Or.inr (Or.inr (Or.inl g))
          · exact Or.inr (Or.inr (Or.inr (Or.inr g)))
        · rintro (g | g | g | g | g)
          · exact Or.inl g
          · exact Or.inr (Or.inl g)
          · exact Or.inr (Or.inr (Or.inl g))
          · exact absurd g hcd
          · exact Or.inr (Or.inr (Or.inr g))
theorem sR.UE (hs : sR D b L pg ob) (hv : iV b) (hb : rb N b) (hE : ∀ n, n < 8 → wkE b U T n) (hn : n < 8) : d_U D n = nI (U n) ∧ (d_E D n ≠ 0 ↔ T n ≠ 0) := by
  have hT := hv.2.2.2.2.1
  have h48 := hT.2.1
  refine hs.lc hv hb hE 7 (d_U0 D, d_E0 D) (by omega) (fun n hn => ?_) n hn
  have e0 : sm (fun c => if 7 < c then wt b U T n c else 0) 8 = 0 := sm_z (fun c hc => if_neg (by omega))
  rw [e0, Nat.add_zero]
  show d_U0 D n = nI (ow b n) ∧ (d_E0 D n ≠ 0 ↔ _)
  unfold d_U0 d_E0
  rw [hs.md hT]
  by_cases hm : n < b 4 0
  · have h0 : b 0 n ≤ 4 := hb.2 0 n (by decide)
    rw [if_pos hm, hs.pd hv hb hm]
    refine ⟨rfl, ?_⟩
    have hl : lv b n ↔ ¬ D.2.1 6 n = 4 := by
      rw [hs.2.2.2.2.1.2.1 n hn]
      have := (hT.2.2.1 n hn).mpr hm
      constructor
      · intro g e
        have := eqN (b 0 n) 4 e
        have := g.2
        omega
      · intro g
        have : ¬ b 0 n = 4 := neN (b 0 n) 4 g
        exact ⟨by assumption, by omega⟩
    by_cases c : n < b 4 0 ∧ (n = 0 ∨ ¬ D.2.1 6 n = 4 ∨ 0 < ow b n)
    · rw [if_pos c]
      refine ⟨fun _ => ?_, fun _ => by decide⟩
      rcases c.2 with g | g | g
      · exact Or.inl g
      · exact Or.inr (Or.inl (hl.mpr g))
      · exact Or.inr (Or.inr (Or.inl g))
    · rw [if_neg c]
      refine ⟨fun u => absurd rfl u, fun u => ?_⟩
      exfalso
      apply c
      refine ⟨hm, ?_⟩
      rcases u with g | g | g | ⟨c, g1, g2, _⟩
      · exact Or.inl g
      · exact Or.inr (Or.inl (hl.mp g))
      · exact Or.inr (Or.inr g)
      · omega
  · rw [if_neg hm, ow_un hv hn hm, if_neg (fun u => hm u.1)]
    refine ⟨rfl, fun u => absurd rfl u, fun u => ?_⟩
    exfalso
    rcases u with g | g | g | ⟨c, g1, g2, _⟩
    · have := hT.1
      omega
    · exact hm ((hT.2.2.1 n hn).mp g.1)
    · omega
    · omega
theorem d_ss_at (D : ph_D) (p : Nat) : ∀ m, p < m → d_ss D m p = d_sv D (d_ss D p) p := by
  intro m
  induction m with
  | zero => intro h; omega
  | succ m ih =>
    intro h
    show lm_up (d_ss D m) m (d_sv D (d_ss D m) m) p = _
    unfold lm_up
    by_cases e : p = m
    · rw [if_pos e, e]
    · rw [if_neg e]
      exact ih (by omega)
theorem rst_min (hT : vT b) (S : Nat → Int32) (hS : ∀ m, m < b 4 0 → S m = if b 3 m = 0 then (if S (b 1 m) < nI (b 2 m) - nI (U m) then S (b 1 m) else nI (b 2 m) - nI (U m)) else nI (b 2 m) - nI (U m)) : ∀ (m f : Nat) (v : Int32), m ≤ f → m < b 4 0 → rst b U (f + 1) v m = if b 3 m = 0 then (if v ≤ S (b 1 m) then v else S (b 1 m)) else v := by
  intro m
  induction m using Nat.strongRecOn with
  | ind m ih =>
    intro f v hf hm
    show (if m = 0 ∨ b 3 m ≠ 0 then v else rst b U f (if v ≤ nI (b 2 (b 1 m)) - nI (U (b 1 m)) then v else nI (b 2 (b 1 m)) - nI (U (b 1 m))) (b 1 m)) = _
    by_cases h3 : b 3 m = 0
    · have hm0 : m ≠ 0 := fun u => hT.2.2.2.2 (by rw [u] at h3; exact h3)
      have hp := hT.2.2.2.1 m (by omega) hm
      obtain ⟨f2, hf2⟩ : ∃ f2, f = f2 + 1 := ⟨f - 1, by omega⟩
      subst hf2
      rw [if_neg (fun u => u.elim hm0 (fun w => w h3)), if_pos h3, ih (b 1 m) hp f2 _ (by omega) (by omega)]
      have e := hS (b 1 m) (by omega)
      generalize nI (b 2 (b 1 m)) - nI (U (b 1 m)) = w at *
      generalize S (b 1 (b 1 m)) = u at *
      rw [e]
      clear e ih hS
      by_cases h4 : b 3 (b 1 m) = 0
      · rw [if_pos h4, if_pos h4]
        simp only [Int32.le_iff_toInt_le, Int32.lt_iff_toInt_lt]
        split <;> split <;> split <;> first | rfl | (exfalso; omega) | (apply Int32.toInt_inj.mp; omega) | skip
        all_goals (split <;> first | rfl | (exfalso; omega) | (apply Int32.toInt_inj.mp; omega))
      · rw [if_neg h4, if_neg h4]
    · rw [if_pos (Or.inr h3), if_neg h3]
theorem sR.S (hs : sR D b L pg ob) (hv : iV b) (hb : rb N b) (hE : ∀ n, n < 8 → wkE b U T n) (hp : p < b 4 0) : d_S D p = rsn b U p := by
  have hT := hv.2.2.2.2.1
  have h48 := hT.2.1
  have hS : ∀ m, m < b 4 0 → d_S D m = if b 3 m = 0 then (if d_S D (b 1 m) < nI (b 2 m) - nI (U m) then d_S D (b 1 m) else nI (b 2 m) - nI (U m)) else nI (b 2 m) - nI (U m) := by
    intro m hm
    obtain ⟨q1, q2, q3, _⟩ := hs.2.2.2.2.1.2.2 m hm
    have hU := (hs.UE hv hb hE (show m < 8 by omega)).1
    have h3 : b 3 m ≤ 1 := hb.2 3 m (by decide)
    show d_ss D 8 m = _
    rw [d_ss_at D m 8 (by omega)]
    unfold d_sv
    rw [hs.md hT, if_pos hm, q2, q3, hU]
    by_cases e : b 3 m = 0
    · have hm0 : m ≠ 0 := fun u => hT.2.2.2.2 (by rw [u] at e; exact e)
      have hpar := hT.2.2.2.1 m (by omega) hm
      have ep : d_par D m = b 1 m := by
        unfold d_par
        rw [q1 (by omega)]
        exact nI_clamp (by omega)
      rw [if_pos e, if_pos (by rw [e]; decide), ep]
      have e1 : d_ss D m (b 1 m) = d_S D (b 1 m) := by
        show _ = d_ss D 8 (b 1 m)
        rw [d_ss_at D (b 1 m) m hpar, d_ss_at D (b 1 m) 8 (by omega)]
      rw [e1]
    · rw [if_neg e, if_neg (show ¬ nI (b 3 m) = 0 from fun u => e (eqN (b 3 m) 0 u))]
  unfold rsn
  rw [rst_min hT (d_S D) hS p 7 _ (by omega) hp, hS p hp]
  by_cases e : b 3 p = 0
  · rw [if_pos e, if_pos e]
    generalize nI (b 2 p) - nI (U p) = w
    generalize d_S D (b 1 p) = u
    simp only [Int32.le_iff_toInt_le, Int32.lt_iff_toInt_lt]
    split <;> split <;> first | rfl | (exfalso; omega) | (apply Int32.toInt_inj.mp; omega)
  · rw [if_neg e, if_neg e]
end SS
