/-! THE CONSTRUCTORS: the class -/
section SZH
variable {l : Launch} {G : mm_G} {K : Option mm_V → mm_M → Prop} {M M0 M1 N : mm_M} {a0 t scr : Nat} {xa : Int32}
/-- the class's own cells at the start -/
def c0 (a0 : Nat) : Nat → Nat := fun i => match i with
  | 0 => a0 | 1 => a0 + 1 | 2 => a0 + 4 | 3 => a0 + 5 | 4 => a0 + 6 | 5 => a0 + 7 | 6 => a0 + 8 | 7 => a0 + 9 | 8 => a0 + 10 | 9 => a0 + 11 | 10 => a0 + 2 | _ => a0 + 3
def D0 (q t : Nat) : ph_D := (([], []), fun k j => if k = 12 then (if j = 0 then 1 else if j = 1 then 9 else 0) else if j = 0 then (if k = 6 ∨ k = 9 then 1 else if k = 7 ∨ k = 10 then -1 else if k = 8 then nI t else 0) else 0, fun k j => if k = 9 ∧ j = 0 then some q else none)
/-- what stands before the class is made -/
def st_M (G : mm_G) (scr a0 : Nat) (M : mm_M) : Prop := mm_z M = a0 + 1 ∧ (∀ a, mm_k M a = if a = a0 then 1 else if a = G.2.2.2.1 then 105 else if a = scr then 106 else 0) ∧ mm_l M G.2.2.2.1 = 0 ∧ G.2.2.2.1 < a0 ∧ scr < a0 ∧ G.2.2.2.1 ≠ scr ∧ (∀ j, mm_i M a0 j = 0) ∧ ∀ j, mm_p M a0 j = none
def ci_K (G : mm_G) (scr a0 : Nat) (a : Nat) : Nat := if a = a0 + 13 then 103 else if a = a0 + 12 then 6 else if a = a0 + 11 then 103 else if a = a0 + 10 then 104 else if a = a0 + 9 then 101 else if a = a0 + 8 then 100 else if a = a0 + 7 then 100 else if a = a0 + 6 then 5 else if a = a0 + 5 then 103 else if a = a0 + 4 then 4 else if a = a0 + 3 then 3 else if a = a0 + 2 then 3 else if a = a0 + 1 then 2 else if a = a0 then 1 else if a = G.2.2.2.1 then 105 else if a = scr then 106 else 0
theorem ci_6 {a : Nat} (h : ci_K G scr a0 a = 6) : a = a0 + 12 := by
  unfold ci_K at h
  by_cases e0 : a = a0 + 13
  · rw [if_pos e0] at h
    omega
  rw [if_neg e0] at h
  by_cases e1 : a = a0 + 12
  · rw [if_pos e1] at h
    omega
  rw [if_neg e1] at h
  by_cases e2 : a = a0 + 11
  · rw [if_pos e2] at h
    omega
  rw [if_neg e2] at h
  by_cases e3 : a = a0 + 10
  · rw [if_pos e3] at h
    omega
  rw [if_neg e3] at h
  by_cases e4 : a = a0 + 9
  · rw [if_pos e4] at h
    omega
  rw [if_neg e4] at h
  by_cases e5 : a = a0 + 8
  · rw [if_pos e5] at h
    omega
  rw [if_neg e5] at h
  by_cases e6 : a = a0 + 7
  · rw [if_pos e6] at h
    omega
  rw [if_neg e6] at h
  by_cases e7 : a = a0 + 6
  · rw [if_pos e7] at h
    omega
  rw [if_neg e7] at h
  by_cases e8 : a = a0 + 5
  · rw [if_pos e8] at h
    omega
  rw [if_neg e8] at h
  by_cases e9 : a = a0 + 4
  · rw [if_pos e9] at h
    omega
  rw [if_neg e9] at h
  by_cases e10 : a = a0 + 3
  · rw [if_pos e10] at h
    omega
  rw [if_neg e10] at h
  by_cases e11 : a = a0 + 2
  · rw [if_pos e11] at h
    omega
  rw [if_neg e11] at h
  by_cases e12 : a = a0 + 1
  · rw [if_pos e12] at h
    omega
  rw [if_neg e12] at h
  by_cases e13 : a = a0
  · rw [if_pos e13] at h
    omega
  rw [if_neg e13] at h
  by_cases e14 : a = G.2.2.2.1
  · rw [if_pos e14] at h
    omega
  rw [if_neg e14] at h
  by_cases e15 : a = scr
  · rw [if_pos e15] at h
    omega
  rw [if_neg e15] at h
  omega
theorem ci_8 {a : Nat} (h : ci_K G scr a0 a = 8) : False := by
  unfold ci_K at h
  by_cases e0 : a = a0 + 13
  · rw [if_pos e0] at h
    omega
  rw [if_neg e0] at h
  by_cases e1 : a = a0 + 12
  · rw [if_pos e1] at h
    omega
  rw [if_neg e1] at h
  by_cases e2 : a = a0 + 11
  · rw [if_pos e2] at h
    omega
  rw [if_neg e2] at h
  by_cases e3 : a = a0 + 10
  · rw [if_pos e3] at h
    omega
  rw [if_neg e3] at h
  by_cases e4 : a = a0 + 9
  · rw [if_pos e4] at h
    omega
  rw [if_neg e4] at h
  by_cases e5 : a = a0 + 8
  · rw [if_pos e5] at h
    omega
  rw [if_neg e5] at h
  by_cases e6 : a = a0 + 7
  · rw [if_pos e6] at h
    omega
  rw [if_neg e6] at h
  by_cases e7 : a = a0 + 6
  · rw [if_pos e7] at h
    omega
  rw [if_neg e7] at h
  by_cases e8 : a = a0 + 5
  · rw [if_pos e8] at h
    omega
  rw [if_neg e8] at h
  by_cases e9 : a = a0 + 4
  · rw [if_pos e9] at h
    omega
  rw [if_neg e9] at h
  by_cases e10 : a = a0 + 3
  · rw [if_pos e10] at h
    omega
  rw [if_neg e10] at h
  by_cases e11 : a = a0 + 2
  · rw [if_pos e11] at h
    omega
  rw [if_neg e11] at h
  by_cases e12 : a = a0 + 1
  · rw [if_pos e12] at h
    omega
  rw [if_neg e12] at h
  by_cases e13 : a = a0
  · rw [if_pos e13] at h
    omega
  rw [if_neg e13] at h
  by_cases e14 : a = G.2.2.2.1
  · rw [if_pos e14] at h
    omega
  rw [if_neg e14] at h
  by_cases e15 : a = scr
  · rw [if_pos e15] at h
    omega
  rw [if_neg e15] at h
  omega
theorem ci_103 {a : Nat} (h : ci_K G scr a0 a = 103) : a = a0 + 13 ∨ a = a0 + 11 ∨ a = a0 + 5 := by
  unfold ci_K at h
  by_cases e0 : a = a0 + 13
  · rw [if_pos e0] at h
    omega
  rw [if_neg e0] at h
  by_cases e1 : a = a0 + 12
  · rw [if_pos e1] at h
    omega
  rw [if_neg e1] at h
  by_cases e2 : a = a0 + 11
  · rw [if_pos e2] at h
    omega
  rw [if_neg e2] at h
  by_cases e3 : a = a0 + 10
  · rw [if_pos e3] at h
    omega
  rw [if_neg e3] at h
  by_cases e4 : a = a0 + 9
  · rw [if_pos e4] at h
    omega
  rw [if_neg e4] at h
  by_cases e5 : a = a0 + 8
  · rw [if_pos e5] at h
    omega
  rw [if_neg e5] at h
  by_cases e6 : a = a0 + 7
  · rw [if_pos e6] at h
    omega
  rw [if_neg e6] at h
  by_cases e7 : a = a0 + 6
  · rw [if_pos e7] at h
    omega
  rw [if_neg e7] at h
  by_cases e8 : a = a0 + 5
  · rw [if_pos e8] at h
    omega
  rw [if_neg e8] at h
  by_cases e9 : a = a0 + 4
  · rw [if_pos e9] at h
    omega
  rw [if_neg e9] at h
  by_cases e10 : a = a0 + 3
  · rw [if_pos e10] at h
    omega
  rw [if_neg e10] at h
  by_cases e11 : a = a0 + 2
  · rw [if_pos e11] at h
    omega
  rw [if_neg e11] at h
  by_cases e12 : a = a0 + 1
  · rw [if_pos e12] at h
    omega
  rw [if_neg e12] at h
  by_cases e13 : a = a0
  · rw [if_pos e13] at h
    omega
  rw [if_neg e13] at h
  by_cases e14 : a = G.2.2.2.1
  · rw [if_pos e14] at h
    omega
  rw [if_neg e14] at h
  by_cases e15 : a = scr
  · rw [if_pos e15] at h
    omega
  rw [if_neg e15] at h
  omega
theorem ci_104 {a : Nat} (h : ci_K G scr a0 a = 104) : a = a0 + 10 := by
  unfold ci_K at h
  by_cases e0 : a = a0 + 13
  · rw [if_pos e0] at h
    omega
  rw [if_neg e0] at h
  by_cases e1 : a = a0 + 12
  · rw [if_pos e1] at h
    omega
  rw [if_neg e1] at h
  by_cases e2 : a = a0 + 11
  · rw [if_pos e2] at h
    omega
  rw [if_neg e2] at h
  by_cases e3 : a = a0 + 10
  · rw [if_pos e3] at h
    omega
  rw [if_neg e3] at h
  by_cases e4 : a = a0 + 9
  · rw [if_pos e4] at h
    omega
  rw [if_neg e4] at h
  by_cases e5 : a = a0 + 8
  · rw [if_pos e5] at h
    omega
  rw [if_neg e5] at h
  by_cases e6 : a = a0 + 7
  · rw [if_pos e6] at h
    omega
  rw [if_neg e6] at h
  by_cases e7 : a = a0 + 6
  · rw [if_pos e7] at h
    omega
  rw [if_neg e7] at h
  by_cases e8 : a = a0 + 5
  · rw [if_pos e8] at h
    omega
  rw [if_neg e8] at h
  by_cases e9 : a = a0 + 4
  · rw [if_pos e9] at h
    omega
  rw [if_neg e9] at h
  by_cases e10 : a = a0 + 3
  · rw [if_pos e10] at h
    omega
  rw [if_neg e10] at h
  by_cases e11 : a = a0 + 2
  · rw [if_pos e11] at h
    omega
  rw [if_neg e11] at h
  by_cases e12 : a = a0 + 1
  · rw [if_pos e12] at h
    omega
  rw [if_neg e12] at h
  by_cases e13 : a = a0
  · rw [if_pos e13] at h
    omega
  rw [if_neg e13] at h
  by_cases e14 : a = G.2.2.2.1
  · rw [if_pos e14] at h
    omega
  rw [if_neg e14] at h
  by_cases e15 : a = scr
  · rw [if_pos e15] at h
    omega
  rw [if_neg e15] at h
  omega
theorem cv_13 : ci_K G scr a0 (a0 + 13) = 103 := by
  unfold ci_K
  rw [if_pos rfl]
theorem cv_12 : ci_K G scr a0 (a0 + 12) = 6 := by
  unfold ci_K
  rw [if_neg (by omega), if_pos rfl]
theorem cv_11 : ci_K G scr a0 (a0 + 11) = 103 := by
  unfold ci_K
  rw [if_neg (by omega), if_neg (by omega), if_pos rfl]
theorem cv_10 : ci_K G scr a0 (a0 + 10) = 104 := by
  unfold ci_K
  rw [if_neg (by omega), if_neg (by omega), if_neg (by omega), if_pos rfl]
theorem cv_9 : ci_K G scr a0 (a0 + 9) = 101 := by
  unfold ci_K
  rw [if_neg (by omega), if_neg (by omega), if_neg (by omega), if_neg (by omega), if_pos rfl]
theorem cv_8 : ci_K G scr a0 (a0 + 8) = 100 := by
  unfold ci_K
  rw [if_neg (by omega), if_neg (by omega), if_neg (by omega), if_neg (by omega), if_neg (by omega), if_pos rfl]
theorem cv_7 : ci_K G scr a0 (a0 + 7) = 100 := by
  unfold ci_K
  rw [if_neg (by omega), if_neg (by omega), if_neg (by omega), if_neg (by omega), if_neg (by omega), if_neg (by omega), if_pos rfl]
theorem cv_6 : ci_K G scr a0 (a0 + 6) = 5 := by
  unfold ci_K
  rw [if_neg (by omega), if_neg (by omega), if_neg (by omega), if_neg (by omega), if_neg (by omega), if_neg (by omega), if_neg (by omega), if_pos rfl]
theorem cv_5 : ci_K G scr a0 (a0 + 5) = 103 := by
  unfold ci_K
  rw [if_neg (by omega), if_neg (by omega), if_neg (by omega), if_neg (by omega), if_neg (by omega), if_neg (by omega), if_neg (by omega), if_neg (by omega), if_pos rfl]
theorem cv_4 : ci_K G scr a0 (a0 + 4) = 4 := by
  unfold ci_K
  rw [if_neg (by omega), if_neg (by omega), if_neg (by omega), if_neg (by omega), if_neg (by omega), if_neg (by omega), if_neg (by omega), if_neg (by omega), if_neg (by omega), if_pos rfl]
theorem cv_3 : ci_K G scr a0 (a0 + 3) = 3 := by
  unfold ci_K
  rw [if_neg (by omega), if_neg (by omega), if_neg (by omega), if_neg (by omega), if_neg (by omega), if_neg (by omega), if_neg (by omega), if_neg (by omega), if_neg (by omega), if_neg (by omega), if_pos rfl]
theorem cv_2 : ci_K G scr a0 (a0 + 2) = 3 := by
  unfold ci_K
  rw [if_neg (by omega), if_neg (by omega), if_neg (by omega), if_neg (by omega), if_neg (by omega), if_neg (by omega), if_neg (by omega), if_neg (by omega), if_neg (by omega), if_neg (by omega), if_neg (by omega), if_pos rfl]
theorem cv_1 : ci_K G scr a0 (a0 + 1) = 2 := by
  unfold ci_K
  rw [if_neg (by omega), if_neg (by omega), if_neg (by omega), if_neg (by omega), if_neg (by omega), if_neg (by omega), if_neg (by omega), if_neg (by omega), if_neg (by omega), if_neg (by omega), if_neg (by omega), if_neg (by omega), if_pos rfl]
theorem cv_0 : ci_K G scr a0 (a0) = 1 := by
  unfold ci_K
  rw [if_neg (by omega), if_neg (by omega), if_neg (by omega), if_neg (by omega), if_neg (by omega), if_neg (by omega), if_neg (by omega), if_neg (by omega), if_neg (by omega), if_neg (by omega), if_neg (by omega), if_neg (by omega), if_neg (by omega), if_pos rfl]
theorem cv_E (h1 : G.2.2.2.1 < a0) : ci_K G scr a0 (G.2.2.2.1) = 105 := by
  unfold ci_K
  rw [if_neg (by omega), if_neg (by omega), if_neg (by omega), if_neg (by omega), if_neg (by omega), if_neg (by omega), if_neg (by omega), if_neg (by omega), if_neg (by omega), if_neg (by omega), if_neg (by omega), if_neg (by omega), if_neg (by omega), if_neg (by omega), if_pos rfl]
theorem cv_s (h1 : scr < a0) (h2 : G.2.2.2.1 ≠ scr) : ci_K G scr a0 (scr) = 106 := by
  unfold ci_K
  rw [if_neg (by omega), if_neg (by omega), if_neg (by omega), if_neg (by omega), if_neg (by omega), if_neg (by omega), if_neg (by omega), if_neg (by omega), if_neg (by omega), if_neg (by omega), if_neg (by omega), if_neg (by omega), if_neg (by omega), if_neg (by omega), if_neg (by omega), if_pos rfl]
def ci_N (G : mm_G) (scr a0 t : Nat) (M N : mm_M) : Prop := ((∀ a, mm_k N a = ci_K G scr a0 a) ∧ mm_z N = a0 + 14) ∧ (mm_l N (a0 + 5) = 60 ∧ mm_l N (a0 + 7) = 8 ∧ mm_l N (a0 + 8) = 8 ∧ mm_l N (a0 + 9) = 8 ∧ mm_l N (a0 + 10) = 8 ∧ mm_l N (a0 + 11) = 13 ∧ mm_l N (a0 + 13) = 4 ∧ mm_l N G.2.2.2.1 = 0 ∧ mm_l N scr = mm_l M scr) ∧
  (mm_p N a0 0 = some (a0 + 1) ∧ mm_p N a0 1 = some (a0 + 4) ∧ mm_p N a0 2 = some (a0 + 6) ∧ mm_p N a0 3 = some (a0 + 10) ∧ mm_p N a0 4 = some (a0 + 11)) ∧ (mm_p N (a0 + 1) 0 = some (a0 + 2) ∧ mm_p N (a0 + 1) 1 = some (a0 + 3) ∧ mm_p N (a0 + 2) 0 = some G.2.2.2.1 ∧ mm_p N (a0 + 3) 0 = some G.2.2.2.1 ∧ mm_i N (a0 + 2) 1 = 0 ∧ mm_i N (a0 + 3) 1 = 0) ∧
  (mm_p N (a0 + 4) 0 = some (a0 + 5) ∧ mm_p N (a0 + 6) 0 = some (a0 + 7) ∧ mm_p N (a0 + 6) 1 = some (a0 + 8) ∧ mm_p N (a0 + 6) 2 = some (a0 + 9)) ∧ ((∀ j, mm_p N (a0 + 5) j = none) ∧ (∀ j, mm_p N (a0 + 11) j = none) ∧ (∀ j, mm_p N (a0 + 13) j = none) ∧ (∀ j, mm_p N (a0 + 10) j = if j = 0 then some (a0 + 12) else none) ∧ mm_p N (a0 + 12) 4 = some (a0 + 13)) ∧
  (mm_i N a0 5 = 1 ∧ mm_i N a0 6 = 9 ∧ mm_i N (a0 + 12) 0 = 0 ∧ mm_i N (a0 + 12) 1 = -1 ∧ mm_i N (a0 + 12) 2 = nI t ∧ mm_i N (a0 + 12) 3 = 1 ∧ mm_i N (a0 + 12) 5 = 1 ∧ mm_i N (a0 + 12) 6 = -1 ∧ mm_i N (a0 + 12) 7 = 0) ∧ ∀ j, mm_i N scr j = mm_i M scr j
theorem fin {P : mm_M → Prop} {N : mm_M} (Q : mm_M → Prop) (hq : Q N) (h : ∀ N, Q N → P N) : P N := h N hq
end SZH
