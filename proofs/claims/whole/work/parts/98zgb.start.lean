/-! THE CONSTRUCTORS: the class's data and the reference's table at the start -/
section SZI
variable {G : mm_G} {M M0 M1 N N2 : mm_M} {a0 t scr : Nat} {F : Nat → Prop} {pg ob : Nat → Nat}
theorem b0_z {k j : Nat} (h : k = 1 ∨ 5 ≤ k) : b0 t k j = 0 := by
  unfold b0
  rw [if_neg (by omega), if_neg (by omega)]
theorem b0_n {k j : Nat} (h : j ≠ 0) : b0 t k j = 0 := by
  unfold b0
  rw [if_neg (by omega), if_neg (by omega)]
theorem Rel0 (h4 : 4 ≤ t) (h24 : t ≤ 24) (q : Nat) : Rel 0 (D0 q t) (b0 t) (fun _ => 0) pg ob := by
  have z5 : ∀ j, b0 t 5 j = 0 := fun j => b0_z (by omega)
  have z6 : ∀ j, b0 t 6 j = 0 := fun j => b0_z (by omega)
  have z10 : ∀ j, b0 t 10 j = 0 := fun j => b0_z (by omega)
  have z11 : ∀ j, b0 t 11 j = 0 := fun j => b0_z (by omega)
  have z15 : ∀ j, b0 t 15 j = 0 := fun j => b0_z (by omega)
  have z19 : ∀ j, b0 t 19 j = 0 := fun j => b0_z (by omega)
  have z20 : ∀ j, b0 t 20 j = 0 := fun j => b0_z (by omega)
  have z21 : ∀ j, b0 t 21 j = 0 := fun j => b0_z (by omega)
  have fz : ∀ h, fzb (b0 t) h = false := fun h => by
    unfold fzb
    rw [z15, decide_eq_false (show ¬ 0 = 2 by decide), Bool.and_false]
  have p0 : ∀ p, 0 < b0 t 0 p ↔ p = 0 := fun p => by
    by_cases e : p = 0
    · subst e
      exact ⟨fun _ => rfl, fun _ => (show 0 < 1 by decide)⟩
    · rw [b0_n e]
      exact ⟨fun w => absurd w (Nat.lt_irrefl 0), fun w => absurd w e⟩
  refine ⟨⟨⟨?_, fun x y _ _ h => absurd h (by rw [z6]; decide)⟩, fun x _ h => absurd h (by rw [z6]; decide), ⟨⟨[], rfl, List.Pairwise.nil, fun g => ⟨fun w => absurd w List.not_mem_nil, fun w => absurd w.2 (by rw [z11]; decide)⟩⟩, fun g _ _ _ h => absurd h (by rw [z11]; decide)⟩, fun g _ h => absurd h (by rw [z11]; decide), ⟨rfl, fun p hp => ?_, fun p hp => ?_⟩, fun i hi => ?_, rfl⟩, ⟨?_, ?_, ?_, ?_, ?_, ?_⟩, fun q r k _ _ _ h => absurd h (by rw [z5]; decide), fun k _ h => absurd h (by rw [z15]; decide), ⟨by decide, fun k j hk => ?_⟩, ?_⟩
  · have e : lvs (b0 t) = [] := by
      unfold lvs
      rw [List.filter_eq_nil_iff]
      intro x _
      rw [z6]
      decide
    rw [e]
    exact List.Perm.nil
  · by_cases e : p = 0
    · subst e
      rfl
    · rw [b0_n e]
      show (if (6 : Nat) = 12 then (if p = 0 then (1 : Int32) else if p = 1 then 9 else 0) else if p = 0 then _ else 0) = _
      rw [if_neg (by decide), if_neg e]
      rfl
  · have hp : p < 1 := hp
    have hp : p = 0 := by omega
    subst hp
    refine ⟨fun w => absurd w (Nat.lt_irrefl 0), rfl, rfl, ?_, fun i => ?_, fun r hr => ?_⟩
    · have e : rbk (b0 t) 0 4 = 0 := by
        simp [rbk, z15]
      rw [if_pos e]
      rfl
    · rw [z20, show ((D0 q t).2.1 11 0) = 0 from rfl, bb_0]
      simp
    · rw [z5]
      show (if 4 + r = 9 ∧ 0 = 0 then some q else none) = none
      exact if_neg (by omega)
  · rw [fz, if_neg (by decide)]
    rfl
  · exact ⟨fun p r _ _ h => absurd h (by rw [z5]; decide), fun x f _ h => absurd h (by rw [z6]; decide), fun x f _ h => absurd h (by rw [z6]; decide), fun h y _ _ w => absurd (z21 _) w, fun p r _ _ _ => z5 _⟩
  · exact ⟨fun x _ h => absurd h (by rw [z6]; decide), fun g h => absurd h (by rw [z11]; decide), fun g _ h => absurd h (by rw [z11]; decide), fun g q _ _ h => absurd h (by rw [z11]; decide)⟩
  · exact ⟨fun p k _ _ => ⟨fun w => absurd (z19 _) w, fun w => absurd (z20 _) w.2⟩, fun p k _ _ w => absurd (z20 _) w, fun p r k _ _ _ h => absurd h (by rw [z5]; decide), fun p y k _ _ _ w => absurd (z21 _) w, fun y k _ _ w => absurd (z21 _) w⟩
  · exact ⟨fun g k _ _ w => absurd w (by rw [z11]; omega), fun k _ w => absurd w (by rw [z15]; decide), fun k q _ _ w => absurd w (by rw [z15]; decide), fun k _ w => absurd w (by rw [z15]; decide), fun k _ => ⟨fun _ => z15 k, fun _ => by rw [b0_z (by omega)]; exact Nat.zero_le _⟩⟩
  · refine ⟨Nat.le_refl 1, (show 1 ≤ 8 by decide), fun p _ => ?_, fun p h1 h2 => ?_, (show 1 ≠ 0 by decide)⟩
    · rw [p0]
      show p = 0 ↔ p < 1
      omega
    · have h2 : p < 1 := h2
      omega
  · intro U T hU n hn h0 hT
    have e := (p0 n).mp h0
    subst e
    rw [(hU 0 (by omega)).1]
    have e1 : ow (b0 t) 0 = 0 := by
      unfold ow
      rw [sm_z (fun i _ => by unfold opk; rw [z20]; rfl), List.countP_eq_zero.mpr (fun g _ => by unfold opg; rw [z11, decide_eq_false (show ¬ 0 < 0 by decide)]; simp)]
    have e2 : sm (wt (b0 t) U T 0) 8 = 0 := sm_z (fun i _ => by
      unfold wt chd
      by_cases ei : i = 0
      · subst ei
        rfl
      · rw [b0_n ei]
        simp)
    rw [e1, e2]
    exact Nat.zero_le _
  · by_cases e : k = 0 ∨ k = 2 ∨ k = 3 ∨ k = 4
    · unfold b0
      split
      · rcases e with e | e | e | e <;> subst e <;> simp [mx]
      · split
        · rename_i w
          rw [w.1]
          exact h24
        · exact Nat.zero_le _
    · rw [b0_z (by omega)]
      exact Nat.zero_le _
  · exact ⟨fun a h => absurd h List.not_mem_nil, fun a h => absurd h List.not_mem_nil, fun a h => absurd h List.not_mem_nil, Nat.zero_le _⟩
/-- the start's data, with more cells made -/
def ci_W (G : mm_G) (scr a0 t : Nat) (M N : mm_M) : Prop := (∀ a, a < a0 + 14 → mm_k N a = ci_K G scr a0 a) ∧ (∀ a, a0 + 14 ≤ a → mm_k N a = 0 ∨ mm_k N a = 9 ∨ mm_k N a = 100 ∨ mm_k N a = 101) ∧ mm_fr N ∧ ∃ N1, ci_N G scr a0 t M N1 ∧ ∀ a, a < a0 + 14 → mm_l N a = mm_l N1 a ∧ ∀ j, mm_i N a j = mm_i N1 a j ∧ mm_p N a j = mm_p N1 a j
theorem ci_R (h : ci_W G scr a0 t M N) (hE : G.2.2.2.1 < a0) (hF : ∀ a, F a → (mm_k N a = 9 ∨ mm_k N a = 100 ∨ mm_k N a = 101 ∨ mm_k N a = 106) ∧ a ≠ a0 + 7 ∧ a ≠ a0 + 8 ∧ a ≠ a0 + 9) : ph_R G (c0 a0) F N N (D0 (a0 + 12) t) G.2.2.2.1 G.2.2.2.1 := by
  obtain ⟨k1, k2, hf, N1, ⟨⟨-, -⟩, ⟨l1, l2, l3, l4, l5, l6, l7, l8, -⟩, ⟨r1, r2, r3, r4, r5⟩, ⟨m1, m2, m3, m4, m5, m6⟩, ⟨n1, n2, n3, n4⟩, ⟨o1, o2, o3, o4, o5⟩, ⟨i1, i2, i3, i4, i5, i6, i7, i8, i9⟩, -⟩, he⟩ := h
  have el : ∀ {a n : Nat}, a < a0 + 14 → mm_l N1 a = n → mm_l N a = n := fun {a n} h1 h2 => by rw [(he a h1).1]; exact h2
  have ei : ∀ {a j : Nat} {v : Int32}, a < a0 + 14 → mm_i N1 a j = v → mm_i N a j = v := fun {a j v} h1 h2 => by rw [((he a h1).2 j).1]; exact h2
  have ep : ∀ {a j : Nat} {v : Option Nat}, a < a0 + 14 → mm_p N1 a j = v → mm_p N a j = v := fun {a j v} h1 h2 => by rw [((he a h1).2 j).2]; exact h2
  have ek : ∀ {a n : Nat}, a < a0 + 14 → ci_K G scr a0 a = n → mm_k N a = n := fun {a n} h1 h2 => by rw [k1 a h1]; exact h2
  have wk : ∀ {a n : Nat}, mm_k N a = n → n ≠ 0 → n ≠ 9 → n ≠ 100 → n ≠ 101 → a < a0 + 14 ∧ ci_K G scr a0 a = n := fun {a n} h1 h2 h3 h4 h5 => by
    rcases Nat.lt_or_ge a (a0 + 14) with w | w
    · exact ⟨w, by rw [← k1 a w]; exact h1⟩
    · rcases k2 a w with z | z | z | z <;> omega
  have w6 : ∀ q, mm_k N q = 6 → q = a0 + 12 := fun q hq => ci_6 (wk hq (by decide) (by decide) (by decide) (by decide)).2
  have w8 : ∀ q, mm_k N q = 8 → False := fun q hq => ci_8 (wk hq (by decide) (by decide) (by decide) (by decide)).2
  have w103 : ∀ q, mm_k N q = 103 → ∀ j, mm_p N q j = none := fun q hq j => by
    rcases ci_103 (wk hq (by decide) (by decide) (by decide) (by decide)).2 with z | z | z
    · rw [z]; exact ep (by omega) (o3 j)
    · rw [z]; exact ep (by omega) (o2 j)
    · rw [z]; exact ep (by omega) (o1 j)
  have kq : mm_k N (a0 + 12) = 6 := ek (by omega) cv_12
  have pq : mm_p N (a0 + 12) 4 = some (a0 + 13) := ep (by omega) o5
  have eq : pr_a N (a0 + 12) = a0 + 13 := by unfold pr_a; rw [pq]; rfl
  have p8 : ∀ j, mm_p N (a0 + 10) j = if j = 0 then some (a0 + 12) else none := fun j => ep (by omega) (o4 j)
  have hT : ti_T N := by
    refine ⟨fun a ha => absurd ha (w8 a), fun q hq => ?_, fun f j v hf hv => ?_, fun f j v hf hv => ?_, fun a b ha => absurd ha (w8 a), fun p q hp hq _ => by rw [w6 p hp, w6 q hq], fun a q ha => absurd ha (w8 a)⟩
    · have e := w6 q hq
      subst e
      unfold ti_P
      rw [eq]
      exact ⟨kq, pq, ek (by omega) cv_13, el (by omega) l7⟩
    · rw [w103 f hf j] at hv
      cases hv
    · have e := ci_104 (wk hf (by decide) (by decide) (by decide) (by decide)).2
      rw [e, p8] at hv
      by_cases hj : j = 0
      · rw [if_pos hj] at hv
        rw [← Option.some.inj hv]
        exact kq
      · rw [if_neg hj] at hv
        cases hv
  have kE : mm_k N G.2.2.2.1 = 105 := ek (by omega) (cv_E hE)
  have hL : ∀ L, mm_k N L = 3 → mm_p N L 0 = some G.2.2.2.1 → mm_i N L 1 = 0 → al_L G N L G.2.2.2.1 [] := fun L h1 h2 h3 => ⟨h1, h2, h3, Or.inr ⟨kE, el (by omega) l8, rfl, rfl⟩, fun j v h => by simp at h⟩
  refine ⟨⟨hf, hT, ek (a := a0 + 1) (by omega) cv_1, ep (a := a0 + 1) (by omega) m1, ep (a := a0 + 1) (by omega) m2, hL (a0 + 2) (ek (by omega) cv_2) (ep (by omega) m3) (ei (by omega) m5), hL (a0 + 3) (ek (by omega) cv_3) (ep (by omega) m4) (ei (by omega) m6), (show a0 + 2 ≠ a0 + 3 by omega), fun _ => kE, fun g h => absurd h List.not_mem_nil, fun g h => absurd h List.not_mem_nil, List.nodup_nil, List.nodup_nil⟩, ?_, ⟨fun a ha => absurd ha (w8 a), fun q hq => ?_⟩, ?_, fun g h => absurd h List.not_mem_nil, fun g h => absurd h List.not_mem_nil, ⟨fun h hh => ?_, ei (a := a0) (by omega) i2⟩, fun a ha => ⟨(hF a ha).1, (hF a ha).2, rfl, rfl, fun j => ⟨rfl, rfl⟩⟩⟩
  · exact ⟨ek (a := a0) (by omega) cv_0, ep (a := a0) (by omega) r1, ep (a := a0) (by omega) r2, ep (a := a0) (by omega) r3, ep (a := a0) (by omega) r4, ep (a := a0) (by omega) r5, ek (a := a0 + 4) (by omega) cv_4, ep (a := a0 + 4) (by omega) n1, ek (a := a0 + 5) (by omega) cv_5, el (a := a0 + 5) (by omega) l1, ⟨ek (a := a0 + 6) (by omega) cv_6, ep (a := a0 + 6) (by omega) n2, ep (a := a0 + 6) (by omega) n3, ep (a := a0 + 6) (by omega) n4, ek (a := a0 + 7) (by omega) cv_7, ek (a := a0 + 8) (by omega) cv_8, ek (a := a0 + 9) (by omega) cv_9, el (a := a0 + 7) (by omega) l2, el (a := a0 + 8) (by omega) l3, el (a := a0 + 9) (by omega) l4, (show a0 + 7 ≠ a0 + 8 by omega)⟩, ek (a := a0 + 10) (by omega) cv_10, el (a := a0 + 10) (by omega) l5, ek (a := a0 + 11) (by omega) cv_11, el (a := a0 + 11) (by omega) l6, (show a0 + 11 ≠ a0 + 5 by omega)⟩
  · have e := w6 q hq
    subst e
    rw [eq]
    exact ⟨(show a0 + 13 ≠ a0 + 5 by omega), (show a0 + 13 ≠ a0 + 11 by omega)⟩
  · refine ⟨1, by decide, by decide, ei (a := a0) (by omega) i1, rfl, fun p h1 h2 => ⟨?_, ?_⟩, fun p hp => ?_⟩
    · show mm_p N (a0 + 10) p = none
      rw [p8, if_neg (by omega)]
    · show (if (6 : Nat) = 12 then (if p = 0 then (1 : Int32) else if p = 1 then 9 else 0) else if p = 0 then _ else 0) = _
      rw [if_neg (by decide), if_neg (by omega)]
    · have e : p = 0 := by omega
      subst e
      refine ⟨a0 + 12, p8 0, ei (by omega) i3, ei (by omega) i7, ei (by omega) i4, ei (by omega) i5, ei (by omega) i6, ei (by omega) i8, ei (by omega) i9, fun r hr => ?_, rfl⟩
      unfold pr_r
      rw [eq, ep (a := a0 + 13) (by omega) (o3 r)]
      show none = (if 4 + r = 9 ∧ 0 = 0 then some _ else none)
      exact (if_neg (by omega)).symm
  · show mm_p N (a0 + 11) h = _
    rw [ep (by omega) (o2 h)]
    rfl
end SZI
