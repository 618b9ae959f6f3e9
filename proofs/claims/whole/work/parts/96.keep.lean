/-! PLAIN DATA: what a collection leaves as it is -/
section QW
variable {D D1 : ph_D}
theorem d_cd_k {k j : Nat} (h : k ≠ 11) : ∀ n, (d_cd D n).2.1 k j = D.2.1 k j
  | 0 => rfl
  | n + 1 => by
    show (if d_it (d_cd D n) 8 (9 + n) = true then d_cd D n else d_ep (d_cd D n) (9 + n)).2.1 k j = D.2.1 k j
    by_cases w : d_it (d_cd D n) 8 (9 + n) = true
    · rw [if_pos w]
      exact d_cd_k h n
    · rw [if_neg w]
      exact (epn_n h).trans (d_cd_k h n)
theorem d_gn_k {k j : Nat} (h : k ≠ 11) (h2 : k ≠ 2) : ∀ n, (d_gn D n).2.1 k j = D.2.1 k j
  | 0 => rfl
  | n + 1 => by
    show (if ((d_gn D n).2.2 8 (9 + n)).isSome = true ∧ d_sh (d_gn D n) (9 + n) = false ∧ d_it (d_gn D n) 8 (9 + n) = false then d_ep (d_fr (dp (d_gn D n) 8 (9 + n) none) (fun a => !decide (d_h (d_gn D n) a = nI (9 + n)))) (9 + n) else d_gn D n).2.1 k j = D.2.1 k j
    by_cases w : ((d_gn D n).2.2 8 (9 + n)).isSome = true ∧ d_sh (d_gn D n) (9 + n) = false ∧ d_it (d_gn D n) 8 (9 + n) = false
    · rw [if_pos w]
      exact (epn_n h).trans ((d_fr_n (D := dp (d_gn D n) 8 (9 + n) none) h2).symm.trans (d_gn_k h h2 n))
    · rw [if_neg w]
      exact d_gn_k h h2 n
theorem d_gn_r {k j : Nat} (h : k ≠ 8) : ∀ n, (d_gn D n).2.2 k j = D.2.2 k j
  | 0 => rfl
  | n + 1 => by
    show (if ((d_gn D n).2.2 8 (9 + n)).isSome = true ∧ d_sh (d_gn D n) (9 + n) = false ∧ d_it (d_gn D n) 8 (9 + n) = false then d_ep (d_fr (dp (d_gn D n) 8 (9 + n) none) (fun a => !decide (d_h (d_gn D n) a = nI (9 + n)))) (9 + n) else d_gn D n).2.2 k j = D.2.2 k j
    by_cases w : ((d_gn D n).2.2 8 (9 + n)).isSome = true ∧ d_sh (d_gn D n) (9 + n) = false ∧ d_it (d_gn D n) 8 (9 + n) = false
    · rw [if_pos w]
      exact (dp_n h).trans (d_gn_r h n)
    · rw [if_neg w]
      exact d_gn_r h n
theorem d_col_k {k j n : Nat} {rs : List Nat} (h : k ≠ 11) (h2 : k ≠ 2) (h5 : k ≠ 5) : (d_col D n rs).2.1 k j = D.2.1 k j := by
  have e : (d_run D n rs).2.1 k j = D.2.1 k j := by rw [d_run_n h5, ← d_fr_n h2]
  unfold d_col
  by_cases w : n = 8
  · rw [if_pos w, d_gn_k h h2, d_cd_k h, e]
  · rw [if_neg w, d_gn_k h h2]
    exact (di_n h).trans e
theorem d_col_r {k j n : Nat} {rs : List Nat} (h : k ≠ 8) : (d_col D n rs).2.2 k j = D.2.2 k j := by
  unfold d_col
  by_cases w : n = 8
  · rw [if_pos w, d_gn_r h, (d_cd_1 _ 4).2]
    rfl
  · rw [if_neg w, d_gn_r h]
    rfl
theorem d_col_m {n : Nat} {rs : List Nat} : d_m (d_col D n rs) = d_m D := d_m_c (d_col_k (by decide) (by decide) (by decide))
end QW
