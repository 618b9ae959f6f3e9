/-! THE REFERENCE: its state is a table of arrays (by the fields' numbers; the three plain fields at place 0) -/
def mo_sc (k : Nat) : Bool := k == 4 || k == 14 || k == 18
def mo_kd (k : Nat) : Nat := if k = 3 ∨ k = 19 ∨ k = 20 ∨ k = 21 ∨ k = 23 ∨ k = 24 then 101 else 100
def mo_ln (k : Nat) : Nat := match k with
  | 0 => 8 | 1 => 8 | 2 => 8 | 3 => 8 | 5 => 32 | 6 => 60 | 7 => 60 | 8 => 60 | 9 => 60 | 10 => 180 | 11 => 24 | 12 => 24 | 13 => 24 | 15 => 4 | 16 => 4 | 17 => 4 | 19 => 32 | 20 => 32 | 21 => 780 | 22 => 8 | 23 => 8 | 24 => 60 | _ => 1
abbrev mo_A : Type := Nat → Nat → Int32
def mo_u (A : mo_A) (k j : Nat) (v : Int32) : mo_A := fun q i => if q = k ∧ i = j then v else A q i
theorem mo_u_s (A : mo_A) (k j : Nat) (v : Int32) : mo_u A k j v k j = v := by simp [mo_u]
theorem mo_u_n (A : mo_A) {k j q i : Nat} (v : Int32) (h : ¬ (q = k ∧ i = j)) : mo_u A k j v q i = A q i := by simp [mo_u, h]
/-- the reference's cells -/
def mo_C (a0 : Nat) (ad : Nat → Nat) (a : Nat) : Prop := a = a0 ∨ ∃ k, k < 25 ∧ mo_sc k = false ∧ a = ad k
/-- M holds the reference at a0, its arrays at ad, with the contents A; all else is as in Mb -/
def mo_S (a0 : Nat) (ad : Nat → Nat) (Mb M : mm_M) (A : mo_A) : Prop :=
  mm_k M a0 = 9 ∧ (∀ k, k < 25 → mo_sc k = false → mm_p M a0 k = some (ad k) ∧ mm_k M (ad k) = mo_kd k ∧ mm_l M (ad k) = mo_ln k ∧ ∀ j, j < mo_ln k → mm_i M (ad k) j = A k j) ∧ (∀ k, k < 25 → mo_sc k = true → mm_i M a0 k = A k 0) ∧ (∀ i j, i < 25 → j < 25 → ad i = ad j → i = j) ∧ mm_sm Mb M (mo_C a0 ad)
theorem mo_p {a0 : Nat} {ad : Nat → Nat} {Mb M : mm_M} {A : mo_A} (h : mo_S a0 ad Mb M A) (k : Nat) (hk : k < 25) (hs : mo_sc k = false) : mm_p M a0 k = some (ad k) := (h.2.1 k hk hs).1
theorem mo_k {a0 : Nat} {ad : Nat → Nat} {Mb M : mm_M} {A : mo_A} (h : mo_S a0 ad Mb M A) (k : Nat) (hk : k < 25) (hs : mo_sc k = false) {d : Nat} (hd : mo_kd k = d) : mm_k M (ad k) = d := hd ▸ (h.2.1 k hk hs).2.1
theorem mo_l {a0 : Nat} {ad : Nat → Nat} {Mb M : mm_M} {A : mo_A} (h : mo_S a0 ad Mb M A) (k : Nat) (hk : k < 25) (hs : mo_sc k = false) {n j : Nat} (hd : mo_ln k = n) (hj : j < n) : j < mm_l M (ad k) := by rw [(h.2.1 k hk hs).2.2.1, hd]; exact hj
theorem mo_i {a0 : Nat} {ad : Nat → Nat} {Mb M : mm_M} {A : mo_A} (h : mo_S a0 ad Mb M A) (k : Nat) (hk : k < 25) (hs : mo_sc k = false) {n j : Nat} (hd : mo_ln k = n) (hj : j < n) : mm_i M (ad k) j = A k j := (h.2.1 k hk hs).2.2.2 j (by rw [hd]; exact hj)
theorem mo_s {a0 : Nat} {ad : Nat → Nat} {Mb M : mm_M} {A : mo_A} (h : mo_S a0 ad Mb M A) (k : Nat) (hk : k < 25) (hs : mo_sc k = true) : mm_i M a0 k = A k 0 := h.2.2.1 k hk hs
theorem mo_ne {a0 : Nat} {ad : Nat → Nat} {Mb M : mm_M} {A : mo_A} (h : mo_S a0 ad Mb M A) (k : Nat) (hk : k < 25) (hs : mo_sc k = false) : ad k ≠ a0 := by
  intro e
  have h1 := (h.2.1 k hk hs).2.1
  rw [e, h.1] at h1
  unfold mo_kd at h1
  split at h1 <;> simp at h1
theorem mo_S.up {a0 : Nat} {ad : Nat → Nat} {Mb M : mm_M} {A : mo_A} (h : mo_S a0 ad Mb M A) (k : Nat) (hk : k < 25) (hs : mo_sc k = false) (j : Nat) (v : Int32) : mo_S a0 ad Mb (mm_si M (ad k) j v) (mo_u A k j v) := by
  have hne := mo_ne h k hk hs
  refine ⟨h.1, fun q hq hsq => ?_, fun q hq hsq => ?_, h.2.2.2.1, h.2.2.2.2.tr (mm_sm.si (Or.inr ⟨k, hk, hs, rfl⟩))⟩
  · obtain ⟨h1, h2, h3, h4⟩ := h.2.1 q hq hsq
    refine ⟨h1, h2, h3, fun i hi => ?_⟩
    rw [mm_i_si, h4 i hi]
    unfold mo_u
    by_cases hqk : q = k
    · subst hqk
      simp
    · have hn : ¬ ad q = ad k := fun e => hqk (h.2.2.2.1 q k hq hk e)
      simp [hqk, hn]
  · rw [mm_i_si, if_neg (fun e => hne e.1.symm), h.2.2.1 q hq hsq]
    unfold mo_u
    rw [if_neg]
    intro e
    rw [e.1, hs] at hsq
    cases hsq
theorem mo_S.us {a0 : Nat} {ad : Nat → Nat} {Mb M : mm_M} {A : mo_A} (h : mo_S a0 ad Mb M A) (k : Nat) (hk : k < 25) (hs : mo_sc k = true) (v : Int32) : mo_S a0 ad Mb (mm_si M a0 k v) (mo_u A k 0 v) := by
  refine ⟨h.1, fun q hq hsq => ?_, fun q hq hsq => ?_, h.2.2.2.1, h.2.2.2.2.tr (mm_sm.si (Or.inl rfl))⟩
  · obtain ⟨h1, h2, h3, h4⟩ := h.2.1 q hq hsq
    refine ⟨h1, h2, h3, fun i hi => ?_⟩
    rw [mm_i_si, if_neg (fun e => mo_ne h q hq hsq e.1), h4 i hi]
    unfold mo_u
    rw [if_neg]
    intro e
    rw [e.1, hs] at hsq
    cases hsq
  · rw [mm_i_si, h.2.2.1 q hq hsq]
    unfold mo_u
    by_cases hqk : q = k <;> simp [hqk]
def mo_K (a0 : Nat) (ad : Nat → Nat) (Mb : mm_M) (K : Option mm_V → mo_A → Prop) : Option mm_V → mm_M → Prop := fun r M1 => ∃ A1, mo_S a0 ad Mb M1 A1 ∧ K r A1
def mo_Z (l : Launch) (G : mm_G) (Y : mm_Y) (K : Option mm_V → mo_A → Prop) (a0 : Nat) (ad : Nat → Nat) (Mb : mm_M) (pc : Nat) (ls : List (Option mm_V)) (st : List mm_V) (A : mo_A) : Prop :=
  ∀ M0 M, mo_S a0 ad Mb M A → mm_Z l G Y (mo_K a0 ad Mb K) M0 0 0 pc ls st M
def mo_Ok (l : Launch) (G : mm_G) (y : MethodName) (Y : mm_Y) (vs : List mm_V) (a0 : Nat) (ad : Nat → Nat) (Mb : mm_M) (A : mo_A) (K : Option mm_V → mo_A → Prop) : Prop :=
  ∀ M, mo_S a0 ad Mb M A → mm_Ok l G y Y vs M (mo_K a0 ad Mb K)
theorem mo_Ok.mono {l : Launch} {G : mm_G} {y : MethodName} {Y : mm_Y} {vs : List mm_V} {a0 : Nat} {ad : Nat → Nat} {Mb : mm_M} {A : mo_A} {K K' : Option mm_V → mo_A → Prop} (h : mo_Ok l G y Y vs a0 ad Mb A K) (hk : ∀ r A1, K r A1 → K' r A1) : mo_Ok l G y Y vs a0 ad Mb A K' :=
  fun M hS => (h M hS).mono (fun r _ q => by
    obtain ⟨A1, h1, h2⟩ := q
    exact ⟨A1, h1, hk r A1 h2⟩)
