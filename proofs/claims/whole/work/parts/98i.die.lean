/-! THE REFERENCE: a process dies -/
theorem rb_di1 {N : Nat} {b : rB} (hb : rb N b) (p n : Nat) : rb N (di1 b p n) := ⟨hb.1, fun k j hk => by
  unfold di1
  split
  · exact Nat.zero_le _
  · split
    · rename_i e
      rw [e.1]
      split
      · exact (show 1 ≤ 1 by omega)
      · exact Nat.zero_le _
    · exact hb.2 k j hk⟩
theorem rb_dit {N : Nat} {b : rB} (hb : rb N b) (p n : Nat) : rb N (dit b p n) := ⟨hb.1, fun k j hk => by
  unfold dit
  split
  · rename_i e
    rw [e.1]
    split
    · exact (show 1 ≤ 1 by omega)
    · exact Nat.zero_le _
  · split
    · exact Nat.zero_le _
    · exact hb.2 k j hk⟩
theorem rb_dmk {N : Nat} {b : rB} (hb : rb N b) (p k : Nat) (hN : N + 24 * k < 1000000000) : rb (N + 24 * k) (dmk b p k) := by
  induction k with
  | zero => exact hb
  | succ k ih =>
    have h1 := ih (by omega)
    show rb _ (if dmk b p k 15 k = 1 ∧ dmk b p k 16 k = p then bu (mrg (dmk b p k) (9 + k)) 15 k 3 else dmk b p k)
    split
    · have h2 := rb_mrg h1 (9 + k) (by omega)
      exact (h2.u (fun _ => show 3 ≤ 3 by omega)).up (by omega) hN
    · exact h1.up (by omega) hN
section RI
variable {l : Launch} {G : mm_G} {K : Option mm_V → mo_A → Prop} {a0 : Nat} {ad : Nat → Nat} {Mb : mm_M} {L : Nat → Int32} {b : rB} {N h t x y p r k : Nat} {xa : Int32}
theorem cr_die134 (hb : rb N b) (hp : p < 8) (kk : K none (ra L (vnN (dit b p 60) 4))) : mo_Z l G Y_Mo_die K a0 ad Mb 134 [some (.inr (some a0)), some (.inl (nI p)), some (.inl 0), none] [] (ra L b) := by
  have e0 : b = dit b p 0 := by
    funext q j
    exact ((if_neg (fun u => by omega)).trans (if_neg (fun u => by omega))).symm
  rw [e0]
  refine up_ind (P := fun i => mo_Z l G Y_Mo_die K a0 ad Mb 134 [some (.inr (some a0)), some (.inl (nI p)), some (.inl (nI i)), none] [] (ra L (dit b p i))) 60 (mg_die_134 ⟨fun _ => cr_vanish (rb_dit hb p 60) ⟨rfl, kk⟩, fun hc => absurd (nleN 60 60 hc) (by omega)⟩) (fun i hi ih => ?_) 0 (by omega)
  have hbi := rb_dit hb p i
  have v1 : dit b p i 21 (60 * p + i) = b 21 (60 * p + i) := (if_neg (fun u => by omega)).trans (if_neg (fun u => by omega))
  have v2 : dit b p i 21 (480 + i) = b 21 (480 + i) := (if_neg (fun u => by omega)).trans (if_neg (fun u => by omega))
  have v3 : dit b p i 6 i = b 6 i := rfl
  have w1 : b 21 (60 * p + i) ≤ 1 := hb.2 21 _ (by decide)
  have w2 : b 21 (480 + i) ≤ 1 := hb.2 21 _ (by decide)
  have w3 : b 6 i ≤ 13 := hb.2 6 _ (by decide)
  have upd : ∀ v, (v = if (b 21 (60 * p + i) ≠ 0 ∨ b 21 (480 + i) ≠ 0) ∧ 0 < b 6 i ∧ b 6 i ≠ 9 then 1 else 0) → mo_u (mo_u (ra L (dit b p i)) 21 (480 + i) (nI v)) 21 (60 * p + i) 0 = ra L (dit b p (i + 1)) := by
    intro v hv
    rw [ra_u v (by decide), show mo_u (ra L (bu (dit b p i) 21 (480 + i) v)) 21 (60 * p + i) 0 = _ from ra_u 0 (by decide)]
    congr 1
    funext q j
    unfold bu dit
    by_cases h1 : q = 21 ∧ j = 60 * p + i
    · rw [if_pos h1, if_neg (fun u => by omega), if_pos ⟨h1.1, by omega, by omega⟩]
    · rw [if_neg h1]
      by_cases h2 : q = 21 ∧ j = 480 + i
      · rw [if_pos h2, if_pos ⟨h2.1, by omega, by omega⟩, hv, show j - 480 = i by omega, h2.2]
      · rw [if_neg h2]
        by_cases h3 : q = 21 ∧ 480 ≤ j ∧ j < 480 + i
        · rw [if_pos h3, if_pos (show q = 21 ∧ 480 ≤ j ∧ j < 480 + (i + 1) from ⟨h3.1, h3.2.1, by omega⟩)]
        · rw [if_neg h3, if_neg (show ¬ (q = 21 ∧ 480 ≤ j ∧ j < 480 + (i + 1)) from fun u => h3 ⟨u.1, u.2.1, by
            have := u.1
            have := u.2.2
            omega⟩)]
          by_cases h4 : q = 21 ∧ 60 * p ≤ j ∧ j < 60 * p + i
          · rw [if_pos h4, if_pos (show q = 21 ∧ 60 * p ≤ j ∧ j < 60 * p + (i + 1) from ⟨h4.1, h4.2.1, by omega⟩)]
          · rw [if_neg h4, if_neg (show ¬ (q = 21 ∧ 60 * p ≤ j ∧ j < 60 * p + (i + 1)) from fun u => h4 ⟨u.1, u.2.1, by
              have := u.1
              have := u.2.2
              omega⟩)]
  have d0 : ∀ c : Prop, [Decidable c] → ¬ c → (0 : Nat) = if c then 1 else 0 := fun c _ h => (if_neg h).symm
  have d1 : ∀ c : Prop, [Decidable c] → c → (1 : Nat) = if c then 1 else 0 := fun c _ h => (if_pos h).symm
  have ix480 : (480 : Int32) + nI i = nI (480 + i) := nI_add 480 i
  refine mg_die_134 ⟨fun hc => absurd (leN 60 i hc) (by omega), fun _ => ⟨60 * p + i, ixN 60 p i, by omega, fun e => ?_, fun e => ?_⟩⟩
  · have e1 : b 21 (60 * p + i) ≠ 0 := by
      rw [← v1]
      exact neN (dit b p i 21 (60 * p + i)) 0 e
    refine ⟨i, rfl, hi, fun e2 => ⟨480 + i, ix480, by omega, ?_⟩, fun e2 => ⟨fun e3 => ⟨480 + i, ix480, by omega, ?_⟩, fun e3 => ⟨480 + i, ix480, by omega, ?_⟩⟩⟩
    · have e4 : b 6 i ≤ 0 := leN (b 6 i) 0 e2
      have := upd 0 (d0 _ (fun u => by omega))
      rw [show mo_u (mo_u (ra L (dit b p i)) 21 (480 + i) 0) 21 (60 * p + i) 0 = _ from this, nI_1]
      exact ih
    · have e4 : b 6 i = 9 := eqN (b 6 i) 9 e3
      have := upd 0 (d0 _ (fun u => by omega))
      rw [show mo_u (mo_u (ra L (dit b p i)) 21 (480 + i) 0) 21 (60 * p + i) 0 = _ from this, nI_1]
      exact ih
    · have := upd 1 (d1 _ ⟨Or.inl e1, nleN (b 6 i) 0 e2, neN (b 6 i) 9 e3⟩)
      rw [show mo_u (mo_u (ra L (dit b p i)) 21 (480 + i) 1) 21 (60 * p + i) 0 = _ from this, nI_1]
      exact ih
  · have e1 : b 21 (60 * p + i) = 0 := by
      rw [← v1]
      exact eqN (dit b p i 21 (60 * p + i)) 0 e (by rw [v1]; omega)
    refine ⟨480 + i, ix480, by omega, fun e2 => ?_, fun e2 => ⟨i, rfl, hi, fun e3 => ?_, fun e3 => ⟨fun e4 => ?_, fun e4 => ?_⟩⟩⟩
    · have e4 : b 21 (480 + i) = 0 := by
        rw [← v2]
        exact eqN (dit b p i 21 (480 + i)) 0 e2 (by rw [v2]; omega)
      have := upd 0 (d0 _ (fun u => by omega))
      rw [show mo_u (mo_u (ra L (dit b p i)) 21 (480 + i) 0) 21 (60 * p + i) 0 = _ from this, nI_1]
      exact ih
    · have e4 : b 6 i ≤ 0 := leN (b 6 i) 0 e3
      have := upd 0 (d0 _ (fun u => by omega))
      rw [show mo_u (mo_u (ra L (dit b p i)) 21 (480 + i) 0) 21 (60 * p + i) 0 = _ from this, nI_1]
      exact ih
    · have e4 : b 6 i = 9 := eqN (b 6 i) 9 e4
      have := upd 0 (d0 _ (fun u => by omega))
      rw [show mo_u (mo_u (ra L (dit b p i)) 21 (480 + i) 0) 21 (60 * p + i) 0 = _ from this, nI_1]
      exact ih
    · have e5 : b 21 (480 + i) ≠ 0 := by
        rw [← v2]
        exact neN (dit b p i 21 (480 + i)) 0 e2
      have := upd 1 (d1 _ ⟨Or.inr e5, nleN (b 6 i) 0 e3, neN (b 6 i) 9 e4⟩)
      rw [show mo_u (mo_u (ra L (dit b p i)) 21 (480 + i) 1) 21 (60 * p + i) 0 = _ from this, nI_1]
      exact ih
theorem cr_die (hb : rb N b) (hp : p < 8) (hN : N + 120 < 1000000000) (kk : K none (ra L (dth b p))) : mo_Ok l G yy_Mo_die Y_Mo_die [.inr (some a0), .inl (nI p)] a0 ad Mb (ra L b) K := by
  refine mg_die ⟨p, rfl, hp, ?_⟩
  have e : mo_u (ra L b) 0 p 4 = ra L (bu b 0 p 4) := ra_u 4 (by decide)
  rw [e]
  unfold dth at kk
  have hc : rb N (bu b 0 p 4) := hb.u (fun _ => show 4 ≤ 4 by omega)
  generalize bu b 0 p 4 = c at *
  have e0 : c = di1 c p 0 := by
    funext q j
    exact ((if_neg (fun u => by omega)).trans (if_neg (fun u => by omega))).symm
  rw [e0]
  refine up_ind (P := fun k => mo_Z l G Y_Mo_die K a0 ad Mb 9 [some (.inr (some a0)), some (.inl (nI p)), some (.inl (nI k)), none] [] (ra L (di1 c p k))) 4 (mg_die_9 ⟨fun _ => ?_, fun hc => absurd (nleN 4 4 hc) (by omega)⟩) (fun k hk ih => ?_) 0 (by omega)
  · have hd := rb_di1 hc p 4
    generalize di1 c p 4 = d at *
    refine cr_merge hd (by omega) (by omega) ⟨rfl, ?_⟩
    have hm := rb_mrg hd p (by omega)
    generalize mrg d p = m at *
    refine up_ind (P := fun k => mo_Z l G Y_Mo_die K a0 ad Mb 86 [some (.inr (some a0)), some (.inl (nI p)), some (.inl (nI k)), none] [] (ra L (dmk m p k))) 4 (mg_die_86 ⟨fun _ => cr_die134 (rb_dmk hm p 4 (by omega)) hp kk, fun hc => absurd (nleN 4 4 hc) (by omega)⟩) (fun k hk ih => ?_) 0 (by omega)
    have ih2 : mo_Z l G Y_Mo_die K a0 ad Mb 86 [some (.inr (some a0)), some (.inl (nI p)), some (.inl (nI (k + 1))), none] [] (ra L (if dmk m p k 15 k = 1 ∧ dmk m p k 16 k = p then bu (mrg (dmk m p k) (9 + k)) 15 k 3 else dmk m p k)) := ih
    have hk2 := rb_dmk hm p k (by omega)
    generalize dmk m p k = f at *
    have h15 : f 15 k ≤ 3 := hk2.2 15 k (by decide)
    have h16 : f 16 k ≤ 7 := hk2.2 16 k (by decide)
    refine mg_die_86 ⟨fun hc => absurd (leN 4 k hc) (by omega), fun _ => ⟨k, rfl, hk, fun e => ?_, fun e => ⟨fun e2 => ?_, fun e2 => ?_⟩⟩⟩
    · rw [if_neg (fun u => neN (f 15 k) 1 e u.1)] at ih2
      rw [nI_1]
      exact ih2
    · rw [if_neg (fun u => neN (f 16 k) p e2 u.2)] at ih2
      rw [nI_1]
      exact ih2
    · rw [if_pos ⟨eqN (f 15 k) 1 e, eqN (f 16 k) p e2⟩] at ih2
      rw [show (9 : Int32) + nI k = nI (9 + k) from nI_add 9 k]
      refine cr_merge hk2 (by omega) (by omega) ⟨rfl, ?_⟩
      rw [show mo_u (ra L (mrg f (9 + k))) 15 k 3 = _ from ra_u 3 (by decide), nI_1]
      exact ih2
  · have hd := rb_di1 hc p k
    have e1 : mo_u (mo_u (ra L (di1 c p k)) 5 (4 * p + k) 0) 19 (4 * p + k) 0 = ra L (bu (bu (di1 c p k) 5 (4 * p + k) 0) 19 (4 * p + k) 0) := by
      rw [show mo_u (ra L (di1 c p k)) 5 (4 * p + k) 0 = _ from ra_u 0 (by decide)]
      exact ra_u 0 (by decide)
    have hd2 : rb N (bu (bu (di1 c p k) 5 (4 * p + k) 0) 19 (4 * p + k) 0) := (hd.u (fun _ => Nat.zero_le _)).u (fun _ => Nat.zero_le _)
    have h15 : c 15 k ≤ 3 := hc.2 15 k (by decide)
    have upd : ∀ v, (v = if c 15 k = 2 ∧ nmb c p (9 + k) = true then 1 else 0) → mo_u (ra L (bu (bu (di1 c p k) 5 (4 * p + k) 0) 19 (4 * p + k) 0)) 20 (4 * p + k) (nI v) = ra L (di1 c p (k + 1)) := by
      intro v hv
      rw [ra_u v (by decide)]
      congr 1
      funext q j
      unfold bu di1
      by_cases h1 : q = 20 ∧ j = 4 * p + k
      · rw [if_pos h1, if_neg (fun u => by omega), if_pos ⟨h1.1, by omega, by omega⟩, hv, show j - 4 * p = k by omega]
      · rw [if_neg h1]
        by_cases h2 : q = 19 ∧ j = 4 * p + k
        · rw [if_pos h2, if_pos ⟨Or.inr h2.1, by omega, by omega⟩]
        · rw [if_neg h2]
          by_cases h3 : q = 5 ∧ j = 4 * p + k
          · rw [if_pos h3, if_pos ⟨Or.inl h3.1, by omega, by omega⟩]
          · rw [if_neg h3]
            by_cases h4 : (q = 5 ∨ q = 19) ∧ 4 * p ≤ j ∧ j < 4 * p + k
            · rw [if_pos h4, if_pos (show (q = 5 ∨ q = 19) ∧ 4 * p ≤ j ∧ j < 4 * p + (k + 1) from ⟨h4.1, h4.2.1, by omega⟩)]
            · rw [if_neg h4, if_neg (show ¬ ((q = 5 ∨ q = 19) ∧ 4 * p ≤ j ∧ j < 4 * p + (k + 1)) from fun u => h4 ⟨u.1, u.2.1, by
                have := u.1
                have := u.2.2
                omega⟩)]
              by_cases h5 : q = 20 ∧ 4 * p ≤ j ∧ j < 4 * p + k
              · rw [if_pos h5, if_pos (show q = 20 ∧ 4 * p ≤ j ∧ j < 4 * p + (k + 1) from ⟨h5.1, h5.2.1, by omega⟩)]
              · rw [if_neg h5, if_neg (show ¬ (q = 20 ∧ 4 * p ≤ j ∧ j < 4 * p + (k + 1)) from fun u => h5 ⟨u.1, u.2.1, by
                  have := u.1
                  have := u.2.2
                  omega⟩)]
    refine mg_die_9 ⟨fun hc => absurd (leN 4 k hc) (by omega), fun _ => ⟨4 * p + k, ixN 4 p k, by omega, k, rfl, hk, ?_⟩⟩
    rw [e1]
    refine ⟨fun e2 => ?_, fun e2 => ?_⟩
    · have e3 : ¬ c 15 k = 2 := neN (c 15 k) 2 e2
      have := upd 0 (by rw [if_neg (fun u => e3 u.1)])
      rw [show mo_u (ra L (bu (bu (di1 c p k) 5 (4 * p + k) 0) 19 (4 * p + k) 0)) 20 (4 * p + k) 0 = _ from this, nI_1]
      exact ih
    · have e3 : c 15 k = 2 := eqN (c 15 k) 2 e2
      rw [show (9 : Int32) + nI k = nI (9 + k) from nI_add 9 k]
      refine cr_names hd2 (by omega) (by omega) ⟨rfl, _, rfl, fun e4 => ?_, fun e4 => ?_⟩
      · have e5 : nmb c p (9 + k) = false := (bzN _).mp e4
        have := upd 0 (by rw [if_neg (fun u => by rw [e5] at u; cases u.2)])
        rw [show mo_u (ra L (bu (bu (di1 c p k) 5 (4 * p + k) 0) 19 (4 * p + k) 0)) 20 (4 * p + k) 0 = _ from this, nI_1]
        exact ih
      · have e5 : nmb c p (9 + k) = true := bzT e4
        have := upd 1 (by rw [if_pos ⟨e3, e5⟩])
        rw [show mo_u (ra L (bu (bu (di1 c p k) 5 (4 * p + k) 0) 19 (4 * p + k) 0)) 20 (4 * p + k) 1 = _ from this, nI_1]
        exact ih
end RI
