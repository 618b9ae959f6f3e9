/-! THE TREE OF LIMITS: all pages together; a page is left where a node has room -/
section SR
variable {b b1 : rB} {o o1 U T U1 T1 : Nat → Nat} {N n p q d : Nat}
theorem sm_ge {f : Nat → Nat} {m j : Nat} (hj : j < m) : f j ≤ sm f m := by
  induction m with
  | zero => omega
  | succ m ih =>
    show f j ≤ sm f m + f m
    by_cases e : j = m
    · rw [e]
      omega
    · have := ih (by omega)
      omega
theorem sm_add (f g : Nat → Nat) (m : Nat) : sm (fun i => f i + g i) m = sm f m + sm g m := by
  induction m with
  | zero => rfl
  | succ m ih =>
    show sm (fun i => f i + g i) m + (f m + g m) = sm f m + f m + (sm g m + g m)
    rw [ih]
    omega
theorem sm_comm (f : Nat → Nat → Nat) (m k : Nat) : sm (fun i => sm (f i) k) m = sm (fun j => sm (fun i => f i j) m) k := by
  induction m with
  | zero =>
    show 0 = sm (fun _ => 0) k
    exact (sm_z (fun _ _ => rfl)).symm
  | succ m ih =>
    show sm (fun i => sm (f i) k) m + sm (f m) k = sm (fun j => sm (fun i => f i j) m + f m j) k
    rw [ih, sm_add]
theorem cnt_sm (P : Nat → Bool) (m : Nat) : (List.range m).countP P = sm (fun g => if P g = true then 1 else 0) m := by
  induction m with
  | zero => rfl
  | succ m ih =>
    rw [cnt_s, ih]
    rfl
theorem wt_0 {c : Nat} (h : ¬ n < c) : wt b U T n c = 0 := if_neg (fun u => h (chd_t.mp u).1)
/-- all pages are paid by the root in the end -/
theorem sum_le (hT : vT b) (hu : vUo b o) (hE : ∀ n, n < 8 → wkO b o U T n) (ho : ∀ n, n < 8 → 0 < o n → 0 < b 0 n) : sm o 8 ≤ U 0 := by
  have main : ∀ i, i ≤ 7 → sm o 8 ≤ sm (fun n => o n + sm (fun c => if 7 - i < c then wt b U T n c else 0) 8) (7 - i + 1) := by
    intro i
    induction i with
    | zero =>
      intro _
      refine sm_le (fun n hn => Nat.le_add_right _ _)
    | succ i ih =>
      intro hi
      have ih := ih (by omega)
      obtain ⟨q, hq⟩ : ∃ q, 7 - i = q + 1 := ⟨6 - i, by omega⟩
      have hq2 : 7 - (i + 1) = q := by omega
      rw [hq] at ih
      rw [hq2]
      have h8 : q + 1 < 8 := by omega
      refine Nat.le_trans ih ?_
      show sm (fun n => o n + sm (fun c => if q + 1 < c then wt b U T n c else 0) 8) (q + 1) + (o (q + 1) + sm (fun c => if q + 1 < c then wt b U T (q + 1) c else 0) 8) ≤ _
      have hU : o (q + 1) + sm (fun c => if q + 1 < c then wt b U T (q + 1) c else 0) 8 = U (q + 1) := by
        rw [(hE (q + 1) h8).1]
        congr 1
        refine sm_c (fun c _ => ?_)
        split
        · rfl
        · rename_i u
          exact (wt_0 u).symm
      rw [hU]
      have hs : ∀ n, o n + sm (fun c => if q < c then wt b U T n c else 0) 8 = (o n + sm (fun c => if q + 1 < c then wt b U T n c else 0) 8) + wt b U T n (q + 1) := by
        intro n
        have g1 : ∀ c, c < 8 → c ≠ q + 1 → (fun c => if q < c then wt b U T n c else 0) c = (fun c => if q + 1 < c then wt b U T n c else 0) c := by
          intro c _ hc
          show (if q < c then wt b U T n c else 0) = if q + 1 < c then wt b U T n c else 0
          by_cases e : q < c
          · rw [if_pos e, if_pos (by omega)]
          · rw [if_neg e, if_neg (by omega)]
        have g2 : (fun c => if q < c then wt b U T n c else 0) (q + 1) = (fun c => if q + 1 < c then wt b U T n c else 0) (q + 1) + wt b U T n (q + 1) := by
          show (if q < q + 1 then wt b U T n (q + 1) else 0) = (if q + 1 < q + 1 then wt b U T n (q + 1) else 0) + wt b U T n (q + 1)
          rw [if_pos (Nat.lt_succ_self q), if_neg (Nat.lt_irrefl _), Nat.zero_add]
        rw [sm_one h8 g1 g2]
        omega
      rw [sm_c (f := fun n => o n + sm (fun c => if q < c then wt b U T n c else 0) 8) (fun n _ => hs n), sm_add (fun n => o n + sm (fun c => if q + 1 < c then wt b U T n c else 0) 8) (fun n => wt b U T n (q + 1)) (q + 1)]
      refine Nat.add_le_add_left ?_ _
      by_cases hTq : T (q + 1) = 0
      · have hn := fun u => (wkO_T (hE (q + 1) h8)).mpr u hTq
        have : U (q + 1) = 0 := by
          rw [(hE (q + 1) h8).1]
          have h1 : o (q + 1) = 0 := Nat.eq_zero_of_not_pos (fun u => hn (Or.inr (Or.inr (Or.inl u))))
          have h2 : sm (wt b U T (q + 1)) 8 = 0 := sm_z (fun c hc => if_neg (fun u => hn (Or.inr (Or.inr (Or.inr ⟨c, hc, u⟩)))))
          omega
        rw [this]
        exact Nat.zero_le _
      · have hmade : 0 < b 0 (q + 1) := by
          rcases (wkO_T (hE (q + 1) h8)).mp hTq with h1 | h1 | h1 | ⟨c, h1, h2⟩
          · omega
          · exact h1.1
          · exact ho (q + 1) h8 h1
          · obtain ⟨j1, j2, j3, j4⟩ := chd_t.mp h2
            have h48 := hT.2.1
            have := (hT.2.2.1 c h1).mp j2
            exact (hT.2.2.1 (q + 1) h8).mpr (by omega)
        have hp := hT.2.2.2.1 (q + 1) (by omega) ((hT.2.2.1 (q + 1) h8).mp hmade)
        have hcd : chd b T (b 1 (q + 1)) (q + 1) = true := chd_t.mpr ⟨hp, hmade, rfl, hTq⟩
        have hw : U (q + 1) ≤ wt b U T (b 1 (q + 1)) (q + 1) := by
          unfold wt
          rw [if_pos hcd]
          split
          · exact Nat.le_refl _
          · exact hu U T hE (q + 1) h8 hmade hTq
        exact Nat.le_trans hw (sm_ge (f := fun n => wt b U T n (q + 1)) hp)
  have h := main 7 (by omega)
  refine Nat.le_trans h ?_
  show 0 + (o 0 + sm (fun c => if 0 < c then wt b U T 0 c else 0) 8) ≤ U 0
  rw [(hE 0 (by omega)).1, Nat.zero_add]
  refine Nat.add_le_add_left (sm_le (fun c _ => ?_)) _
  show (if 0 < c then wt b U T 0 c else 0) ≤ wt b U T 0 c
  split
  · exact Nat.le_refl _
  · exact Nat.zero_le _
theorem fzb_t {h : Nat} : fzb b h = true ↔ 9 ≤ h ∧ h ≤ 12 ∧ b 15 (h - 9) = 2 := by
  unfold fzb
  rw [Bool.and_eq_true, Bool.and_eq_true, decide_eq_true_eq, decide_eq_true_eq, decide_eq_true_eq, and_assoc]
theorem opg_t {g : Nat} : opg b n g = true ↔ 0 < b 11 g ∧ fzb b (b 11 g - 1) = false ∧ b 12 g = n := by
  unfold opg
  rw [Bool.and_eq_true, Bool.and_eq_true, decide_eq_true_eq, decide_eq_true_eq, Bool.not_eq_true', and_assoc]
theorem ow_made (hG : vG b) (hS : vS b) (hn : n < 8) (h : 0 < ow b n) : 0 < b 0 n := by
  unfold ow at h
  rcases Nat.eq_zero_or_pos ((List.range 24).countP (opg b n)) with e | e
  · rw [e, Nat.zero_add] at h
    have : ∃ k, k < 4 ∧ opk b n k ≠ 0 := by
      apply Decidable.byContradiction
      intro u
      have : sm (opk b n) 4 = 0 := sm_z (fun k hk => Decidable.byContradiction (fun w => u ⟨k, hk, w⟩))
      omega
    obtain ⟨k, hk, h1⟩ := this
    unfold opk at h1
    split at h1
    · exact absurd rfl h1
    · rename_i h2
      exact (hS.2.1 n k hn hk h2).2
  · obtain ⟨g, h1, h2⟩ := List.countP_pos_iff.mp e
    obtain ⟨h3, _, h5⟩ := opg_t.mp h2
    rw [← h5]
    exact (hG.2.2.1 g (List.mem_range.mp h1) h3).1
/-- if no page is left, all 24 are paid -/
theorem all_paid (hb : rb N b) (hF : vF b) (h : ∀ g, g < 24 → 0 < b 11 g) (h12 : ∀ g, b 12 g < 8) : 24 ≤ sm (ow b) 8 := by
  have e : ∀ n, ow b n = sm (fun g => (if opg b n g = true then 1 else 0) + sm (fun k => if b 20 (4 * n + k) = 0 then 0 else if b 11 g = 9 + k + 1 then 1 else 0) 4) 24 := by
    intro n
    unfold ow
    rw [sm_add, cnt_sm]
    congr 1
    rw [← sm_comm (fun k g => if b 20 (4 * n + k) = 0 then 0 else if b 11 g = 9 + k + 1 then 1 else 0) 4 24]
    refine sm_c (fun k _ => ?_)
    show opk b n k = sm (fun g => if b 20 (4 * n + k) = 0 then 0 else if b 11 g = 9 + k + 1 then 1 else 0) 24
    unfold opk
    by_cases h1 : b 20 (4 * n + k) = 0
    · rw [if_pos h1]
      exact (sm_z (fun g _ => if_pos h1)).symm
    · rw [if_neg h1]
      unfold pc
      rw [cnt_sm]
      refine sm_c (fun g _ => ?_)
      rw [if_neg h1]
      by_cases h2 : b 11 g = 9 + k + 1
      · rw [if_pos h2, if_pos (decide_eq_true h2)]
      · rw [if_neg h2, if_neg (by rw [decide_eq_false h2]; decide)]
  rw [sm_c (g := fun n => sm (fun g => (if opg b n g = true then 1 else 0) + sm (fun k => if b 20 (4 * n + k) = 0 then 0 else if b 11 g = 9 + k + 1 then 1 else 0) 4) 24) (fun n _ => e n)]
  rw [sm_comm (fun n g => (if opg b n g = true then 1 else 0) + sm (fun k => if b 20 (4 * n + k) = 0 then 0 else if b 11 g = 9 + k + 1 then 1 else 0) 4) 8 24]
  have e24 : sm (fun _ => 1) 24 = 24 := rfl
  rw [← e24]
  refine sm_le (fun g hg => ?_)
  have hg0 := h g hg
  cases hf : fzb b (b 11 g - 1) with
  | false =>
    refine Nat.le_trans ?_ (sm_ge (j := b 12 g) (h12 g))
    show 1 ≤ (if opg b (b 12 g) g = true then 1 else 0) + _
    rw [if_pos (opg_t.mpr ⟨hg0, hf, rfl⟩)]
    omega
  | true =>
    obtain ⟨h1, h2, h3⟩ := fzb_t.mp hf
    obtain ⟨p, hp, h4⟩ := hF (b 11 g - 1 - 9) (by omega) h3
    refine Nat.le_trans ?_ (sm_ge (j := p) hp)
    show 1 ≤ (if opg b p g = true then 1 else 0) + sm (fun k => if b 20 (4 * p + k) = 0 then 0 else if b 11 g = 9 + k + 1 then 1 else 0) 4
    refine Nat.le_trans ?_ (Nat.le_add_left _ _)
    refine Nat.le_trans ?_ (sm_ge (j := b 11 g - 1 - 9) (by omega))
    show 1 ≤ if b 20 (4 * p + (b 11 g - 1 - 9)) = 0 then 0 else if b 11 g = 9 + (b 11 g - 1 - 9) + 1 then 1 else 0
    rw [if_neg h4, if_pos (by omega)]
    exact Nat.le_refl 1
theorem i32le {x y z : Int32} (h1 : x ≤ y) (h2 : y ≤ z) : x ≤ z := Int32.le_trans h1 h2
theorem rst_chn {x : Int32} (f : Nat) : ∀ (v : Int32) (m : Nat), v ≤ nI (b 2 m) - nI (U m) → x ≤ rst b U f v m → x ≤ v ∧ ∀ j, j ∈ chn b f m → x ≤ nI (b 2 j) - nI (U j) := by
  induction f with
  | zero =>
    intro v m h1 h2
    refine ⟨h2, fun j hj => ?_⟩
    rw [List.mem_singleton.mp hj]
    exact Int32.le_trans h2 h1
  | succ f ih =>
    intro v m h1 h2
    have h2 : x ≤ if m = 0 ∨ b 3 m ≠ 0 then v else rst b U f (if v ≤ nI (b 2 (b 1 m)) - nI (U (b 1 m)) then v else nI (b 2 (b 1 m)) - nI (U (b 1 m))) (b 1 m) := h2
    by_cases hh : m = 0 ∨ b 3 m ≠ 0
    · rw [if_pos hh] at h2
      refine ⟨h2, fun j hj => ?_⟩
      have hj : j ∈ m :: (if m = 0 ∨ b 3 m ≠ 0 then [] else chn b f (b 1 m)) := hj
      rw [if_pos hh] at hj
      rw [List.mem_singleton.mp hj]
      exact Int32.le_trans h2 h1
    · rw [if_neg hh] at h2
      have h3 : (if v ≤ nI (b 2 (b 1 m)) - nI (U (b 1 m)) then v else nI (b 2 (b 1 m)) - nI (U (b 1 m))) ≤ nI (b 2 (b 1 m)) - nI (U (b 1 m)) := by
        split
        · assumption
        · exact Int32.le_refl _
      obtain ⟨h4, h5⟩ := ih _ _ h3 h2
      have h6 : x ≤ v := by
        refine Int32.le_trans h4 ?_
        split
        · exact Int32.le_refl _
        · rename_i u
          rcases Int32.le_total v (nI (b 2 (b 1 m)) - nI (U (b 1 m))) with w | w
          · exact absurd w u
          · exact w
      refine ⟨h6, fun j hj => ?_⟩
      have hj : j ∈ m :: (if m = 0 ∨ b 3 m ≠ 0 then [] else chn b f (b 1 m)) := hj
      rw [if_neg hh] at hj
      rcases List.mem_cons.mp hj with e | e
      · rw [e]
        exact Int32.le_trans h6 h1
      · exact h5 j e
theorem chn_T (hT : vT b) (hE : ∀ n, n < 8 → wkO b o U T n) (f : Nat) : ∀ m, m < b 4 0 → T m ≠ 0 → ∀ j, j ∈ chn b f m → j < b 4 0 ∧ T j ≠ 0 := by
  have h48 := hT.2.1
  induction f with
  | zero =>
    intro m h1 h2 j hj
    rw [List.mem_singleton.mp hj]
    exact ⟨h1, h2⟩
  | succ f ih =>
    intro m h1 h2 j hj
    have hj : j ∈ m :: (if m = 0 ∨ b 3 m ≠ 0 then [] else chn b f (b 1 m)) := hj
    rcases List.mem_cons.mp hj with e | e
    · rw [e]
      exact ⟨h1, h2⟩
    · by_cases hh : m = 0 ∨ b 3 m ≠ 0
      · rw [if_pos hh] at e
        cases e
      · rw [if_neg hh] at e
        have h3 := hT.2.2.2.1 m (Nat.pos_of_ne_zero (fun u => hh (Or.inl u))) h1
        exact ih (b 1 m) (by omega) ((wkO_T (hE (b 1 m) (by omega))).mpr (Or.inr (Or.inr (Or.inr ⟨m, by omega, chd_t.mpr ⟨h3, (hT.2.2.1 m (by omega)).mpr h1, rfl, h2⟩⟩)))) j e
/-- room for d pages is room in the whole chain -/
theorem room_chn (hb : rb N b) (hT : vT b) (hu : vUo b o) (hE : ∀ n, n < 8 → wkO b o U T n) (hn : n < b 4 0) (hTn : T n ≠ 0) (hd : d ≤ 24) (hr : nI d ≤ rsn b U n) : ∀ j, j ∈ chn b 8 n → U j + d ≤ b 2 j := by
  intro j hj
  have h1 := (rst_chn 8 _ n (Int32.le_refl _) hr).2 j hj
  obtain ⟨h2, h3⟩ := chn_T hT hE 8 n hn hTn j hj
  have h48 := hT.2.1
  have h4 := hu U T hE j (by omega) ((hT.2.2.1 j (by omega)).mpr h2) h3
  have h5 : b 2 j ≤ 24 := hb.2 2 j (by decide)
  have e : nI (b 2 j) - nI (U j) = nI (b 2 j - U j) := by
    have : b 2 j = (b 2 j - U j) + U j := by omega
    rw [this, ← nI_add, Nat.add_sub_cancel]
    exact Int32.add_sub_cancel _ _
  rw [e] at h1
  have := leN d (b 2 j - U j) h1
  omega
theorem lv_made (hT : vT b) (hn : n < 8) (h : lv b n) : n < b 4 0 := (hT.2.2.1 n hn).mp h.1
/-- where a living process has room for d pages, it may pay d more -/
theorem bump (hb : rb N b) (hT : vT b) (hu : vU b) (hE : ∀ n, n < 8 → wkE b U T n) (hn : n < 8) (hl : lv b n) (hd : d ≤ 24) (hr : nI d ≤ rsn b U n) : vUo b (fup (ow b) n (ow b n + d)) := by
  refine (vUo_bump (o := ow b) (d := d) hT hu n 8 (by omega) (lv_made hT hn hl) (fun U1 T1 hE1 => ?_)).1
  have hTn : T1 n ≠ 0 := (wkO_T (hE1 n hn)).mpr (Or.inr (Or.inl hl))
  have hq := wkO_u (k := 0) (o := ow b) (o1 := ow b) (fun m _ hm => hE m hm) (fun m _ hm => hE1 m hm) (fun _ _ _ => rfl)
  refine ⟨hTn, room_chn hb hT hu hE1 (lv_made hT hn hl) hTn hd ?_⟩
  rw [rsn_c hb (fun m hm => (hq m (by omega) hm).1) hn]
  exact hr
theorem page_left (hb : rb N b) (hv : iV b) (hF : vF b) (hE : ∀ n, n < 8 → wkE b U T n) (hn : n < 8) (hl : lv b n) (hr : (1 : Int32) ≤ rsn b U n) : ∃ g, g < 24 ∧ b 11 g = 0 := by
  obtain ⟨hO, hG, hS, hB, hT, hu⟩ := hv
  apply Decidable.byContradiction
  intro hno
  have h24 := all_paid hb hF (fun g hg => Nat.pos_of_ne_zero (fun u => hno ⟨g, hg, u⟩)) (fun g => by
    have : b 12 g ≤ 7 := hb.2 12 g (by decide)
    omega)
  have hbp := bump (d := 1) hb hT hu hE hn hl (by omega) hr
  obtain ⟨U1, T1, _, hE1⟩ := wkO_ex b (fup (ow b) n (ow b n + 1))
  have hs := sum_le hT hbp hE1 (fun m hm h0 => by
    unfold fup at h0
    split at h0
    · rename_i e
      rw [e]
      exact hl.1
    · exact ow_made hG hS hm h0)
  have h1 : sm (fup (ow b) n (ow b n + 1)) 8 = sm (ow b) 8 + 1 := sm_one hn (fun i _ hi => if_neg hi) (if_pos rfl)
  have h2 := hbp U1 T1 hE1 0 (by omega) ((hT.2.2.1 0 (by omega)).mpr hT.1) ((wkO_T (hE1 0 (by omega))).mpr (Or.inl rfl))
  have h3 : b 2 0 ≤ 24 := hb.2 2 0 (by decide)
  omega
end SR
