/-! THE CLASS AS A WHOLE: an object is put -/
section QD
variable {l : Launch} {G : mm_G} {K : Option mm_V → mm_M → Prop} {M M1 Mb : mm_M} {c : Nat → Nat} {F : Nat → Prop} {D D1 : ph_D} {eP eO eP1 eO1 : Nat}
theorem cw_putObject {g : Nat} {s t : Int32} (h : ph_R G c F Mb M D eP eO) (hlen : D.1.2.length ≤ 60) (hgD : g ∈ D.1.1) (k : ∀ M1 e1 q, q ∉ D.1.2 → (∀ a, mm_k M a = 6 → ∀ j, mm_p M1 a j = mm_p M a j) → ph_R G c F Mb M1 (d_ao D g q s t) eP e1 → K (some (.inr (some q))) M1) : mm_Ok l G yy_Me_putObject Y_Me_putObject [.inr (some (c 1)), .inr (some g), .inl s, .inl t] M K := by
  have hg7 := h.g7 g hgD
  refine ct_putObject h.1 hlen hg7 (fun M1 e1 q q' hW hA => ?_)
  obtain ⟨⟨a0, a1⟩, b0, b1, b2, b3, b4, b5, b6, b7, b8, b9, b10, b11⟩ := hA
  have hqx : q ∉ D.1.2 := fun z => by have := h.x8 q z; rw [b0] at this; cases this
  have hqg : g ≠ q := fun z => by rw [z, b0] at hg7; cases hg7
  have nS : ∀ a, mm_k M a ≠ 3 → mm_k M a ≠ 102 → ¬ (a = c 11 ∨ (a = eO ∧ mm_k M eO = 102)) := fun a w1 w2 z => by
    rcases z with z | z
    · rw [z] at w1
      exact w1 h.1.2.2.2.2.2.2.1.1
    · rw [z.1] at w2
      exact w2 z.2
  have frp : ∀ a, mm_k M a ≠ 0 → mm_k M a ≠ 3 → mm_k M a ≠ 102 → ∀ j, mm_p M1 a j = mm_p M a j := fun a z0 w1 w2 j => (a1 a z0 (nS a w1 w2) j).1
  have fri : ∀ a, mm_k M a ≠ 0 → mm_k M a ≠ 3 → mm_k M a ≠ 102 → ∀ j, mm_k M a ≠ 7 ∨ j ≠ 2 → mm_i M1 a j = mm_i M a j := fun a z0 w1 w2 j hj => by
    rw [(a1 a z0 (nS a w1 w2) j).2, if_neg (fun z => hj.elim (fun u => u (by rw [z.1]; exact hg7)) (fun u => u z.2))]
  have o8 : ∀ a, a ≠ q → mm_k M1 a = 8 → mm_k M a = 8 := fun a hne ha => by
    rcases b11 a with z | z | z | z
    · exact z.symm.trans ha
    · exact absurd z hne
    · have kq' : mm_k M1 q' = 103 := by
        have := (hW.2.1.1 q b3).2.2.2.2.1
        rw [b5] at this
        exact this
      rw [z, kq'] at ha
      cases ha
    · rw [z] at ha
      cases ha
  have kq' : mm_k M1 q' = 103 := by
    have := (hW.2.1.1 q b3).2.2.2.2.1
    rw [b5] at this
    exact this
  have o6 : ∀ a, mm_k M1 a = 6 → mm_k M a = 6 := fun a ha => by
    rcases b11 a with z | z | z | z
    · exact z.symm.trans ha
    · rw [z, b3] at ha
      cases ha
    · rw [z, kq'] at ha
      cases ha
    · rw [z] at ha
      cases ha
  have p8 : ∀ a, mm_k M a = 8 → ∀ j, mm_p M1 a j = mm_p M a j := fun a ha => frp a (by rw [ha]; decide) (by rw [ha]; decide) (by rw [ha]; decide)
  have i8 : ∀ a, mm_k M a = 8 → ∀ j, mm_i M1 a j = mm_i M a j := fun a ha j => fri a (by rw [ha]; decide) (by rw [ha]; decide) (by rw [ha]; decide) j (Or.inl (by rw [ha]; decide))
  have ea : ∀ a, mm_k M a = 8 → oo_a M1 a = oo_a M a := fun a ha => by unfold oo_a; rw [p8 a ha]
  have eg : ∀ a, mm_k M a = 8 → oo_g M1 a = oo_g M a := fun a ha => by unfold oo_g; rw [p8 a ha]
  have dI : ∀ kk j, (d_ao D g q s t).2.1 kk j = if kk = 2 ∧ j = g then D.2.1 2 g - s else if kk = 3 ∧ j = q then s else if kk = 4 ∧ j = q then t else if kk = 5 ∧ j = q then 0 else D.2.1 kk j := fun _ _ => rfl
  have dP : ∀ kk j, (d_ao D g q s t).2.2 kk j = if kk = 0 ∧ j = q then some g else if (kk = 1 ∨ kk = 2 ∨ kk = 3) ∧ j = q then none else D.2.2 kk j := fun _ _ => rfl
  have dn : ∀ kk j, kk ≠ 2 → j ≠ q → (d_ao D g q s t).2.1 kk j = D.2.1 kk j := fun kk j hk hj => by
    rw [dI, if_neg (fun z => hk z.1), if_neg (fun z => hj z.2), if_neg (fun z => hj z.2), if_neg (fun z => hj z.2)]
  have dpn : ∀ kk j, j ≠ q → (d_ao D g q s t).2.2 kk j = D.2.2 kk j := fun kk j hj => by
    rw [dP, if_neg (fun z => hj z.2), if_neg (fun z => hj z.2)]
  refine k M1 e1 q hqx (fun a ha => frp a (by rw [ha]; decide) (by rw [ha]; decide) (by rw [ha]; decide)) (h.gr (D1 := d_ao D g q s t) a0.2.1 hW (fun a z0 z3 z102 _ j => frp a z0 z3 z102 j) (fun a j ha => ?_) ⟨fun a ha => ?_, fun p hp => ?_⟩ (fun g' hg' => ?_) (fun a ha => ?_) (fun kk hk j => ?_) (fun kk hk j => ?_))
  · rcases ha with z | z | z
    · exact fri a (by rw [z]; decide) (by rw [z]; decide) (by rw [z]; decide) j (Or.inl (by rw [z]; decide))
    · exact fri a (by rw [z]; decide) (by rw [z]; decide) (by rw [z]; decide) j (Or.inl (by rw [z]; decide))
    · have w := (h.2.2.2.2.2.2.2 a z).1
      exact fri a (by rcases w with z | z | z | z <;> rw [z] <;> decide) (by rcases w with z | z | z | z <;> rw [z] <;> decide) (by rcases w with z | z | z | z <;> rw [z] <;> decide) j (Or.inl (h.kp a z).2.1)
  · by_cases w : a = q
    · rw [w, b5]
      refine ⟨fun z => ?_, fun z => ?_, b9⟩
      · have := h.2.1.2.2.2.2.2.2.2.2.1
        rw [← z, b1] at this
        cases this
      · have := h.kah
        rw [← z, b1] at this
        cases this
    · have z := o8 a w ha
      rw [ea a z, i8 a z]
      exact h.2.2.1.1 a z
  · have z := o6 p hp
    have e : pr_a M1 p = pr_a M p := by unfold pr_a; rw [frp p (by rw [z]; decide) (by rw [z]; decide) (by rw [z]; decide)]
    rw [e]
    exact h.2.2.1.2 p z
  · have hg'D : g' ∈ D.1.1 := hg'
    have n7 := h.g7 g' hg'D
    have hne : g' ≠ q := fun w => by rw [w, b0] at n7; cases n7
    have z := h.2.2.2.2.1 g' hg'D
    rw [dn 0 g' (by decide) hne, dn 1 g' (by decide) hne, fri g' (by rw [n7]; decide) (by rw [n7]; decide) (by rw [n7]; decide) 0 (Or.inr (by decide)), fri g' (by rw [n7]; decide) (by rw [n7]; decide) (by rw [n7]; decide) 1 (Or.inr (by decide)), (a1 g' (by rw [n7]; decide) (nS g' (by rw [n7]; decide) (by rw [n7]; decide)) 2).2, dI, z.2.2]
    refine ⟨z.1, z.2.1, ?_⟩
    by_cases w : g' = g
    · rw [if_pos ⟨w, rfl⟩, if_pos ⟨rfl, w⟩, (h.2.2.2.2.1 g hgD).2.2]
    · rw [if_neg (fun u => w u.1), if_neg (fun u => w u.2), if_neg (fun u => by cases u.1), if_neg (fun u => by cases u.1), if_neg (fun u => by cases u.1)]
  · rcases List.mem_append.mp ha with z | z
    · have hne : a ≠ q := fun w => hqx (by rw [← w]; exact z)
      have n := h.x8 a z
      have w := h.2.2.2.2.2.1 a z
      rw [dpn 0 a hne, eg a n, i8 a n, i8 a n, i8 a n, dn 3 a (by decide) hne, dn 4 a (by decide) hne, dn 5 a (by decide) hne]
      refine ⟨w.1, w.2.1, w.2.2.1, w.2.2.2.1, fun f hf => ?_⟩
      have kaa := (h.1.2.1.1 a n).2.2.2.2.1
      unfold oo_f
      rw [ea a n, frp _ (by rw [kaa]; decide) (by rw [kaa]; decide) (by rw [kaa]; decide), dpn (1 + f) a hne]
      exact w.2.2.2.2 f hf
    · rw [List.mem_singleton.mp z, b4, b7, b8, b10, dP, if_pos ⟨rfl, rfl⟩, dI, if_neg (fun u => by cases u.1), if_pos ⟨rfl, rfl⟩, dI, if_neg (fun u => by cases u.1), if_neg (fun u => by cases u.1), if_pos ⟨rfl, rfl⟩, dI, if_neg (fun u => by cases u.1), if_neg (fun u => by cases u.1), if_neg (fun u => by cases u.1), if_pos ⟨rfl, rfl⟩]
      refine ⟨rfl, rfl, rfl, rfl, fun f hf => ?_⟩
      rw [b6, dP, if_neg (fun u => by omega), if_pos ⟨by omega, rfl⟩]
  · rw [dI, if_neg (fun z => by omega), if_neg (fun z => by omega), if_neg (fun z => by omega), if_neg (fun z => by omega)]
  · rw [dP, if_neg (fun z => by omega), if_neg (fun z => by omega)]
end QD
