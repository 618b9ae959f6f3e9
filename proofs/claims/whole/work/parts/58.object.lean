/-! THE STORE: an object is put -/
/-- what a new object brings: q with its fields' array q', in the page g -/
def me_Ao (M M1 : mm_M) (LO eO g q q' : Nat) (s t : Int32) : Prop :=
  (mm_X M M1 ∧ ∀ a, mm_k M a ≠ 0 → ¬ (a = LO ∨ (a = eO ∧ mm_k M eO = 102)) → ∀ j, mm_p M1 a j = mm_p M a j ∧ mm_i M1 a j = if a = g ∧ j = 2 then mm_i M g 2 - s else mm_i M a j) ∧
  mm_k M q = 0 ∧ mm_k M q' = 0 ∧ q ≠ q' ∧ mm_k M1 q = 8 ∧ oo_g M1 q = g ∧ oo_a M1 q = q' ∧ (∀ f, oo_f M1 q f = none) ∧ mm_i M1 q 1 = s ∧ mm_i M1 q 2 = t ∧ mm_i M1 q 4 = 0 ∧ mm_i M1 q 5 = 0 ∧ ∀ a, mm_k M1 a = mm_k M a ∨ a = q ∨ a = q' ∨ mm_k M1 a = 102
section MQ
variable {l : Launch} {G : mm_G} {K : Option mm_V → mm_M → Prop} {M M1 : mm_M} {am LP LO eP eO : Nat} {gs xs es : List Nat} {S : Nat → Prop}
theorem ct_putObject {g : Nat} {s t : Int32} (hW : me_W G M am LP LO eP eO gs xs) (hlen : xs.length ≤ 60) (hg7 : mm_k M g = 7)
    (k : ∀ M1 e1 q q', me_W G M1 am LP LO eP e1 gs (xs ++ [q]) → me_Ao M M1 LO eO g q q' s t → K (some (.inr (some q))) M1) : mm_Ok l G yy_Me_putObject Y_Me_putObject [.inr (some am), .inr (some g), .inl s, .inl t] M K := by
  have hz : ∀ a, mm_z M ≤ a → mm_k M a = 0 := fun a ha => by
    rcases Nat.eq_zero_or_pos (mm_k M a) with z | z
    · exact z
    · have := hW.1 a (by omega)
      omega
  refine sg_Me_putObject (fun q hq => sg_Ob_init (fun q' hq' => ⟨?_, fun _ => ⟨rfl, g, rfl, ?_⟩⟩))
  · have : q ≠ mm_z (mm_nw M 8 6) := by rw [mm_z_nw]; omega
    rw [mm_k_nw, if_neg this, mm_k_nw, if_pos hq]
  have hqz : mm_k M q = 0 := hz q (by omega)
  have hqz' : mm_k M q' = 0 := hz q' (by rw [hq', mm_z_nw]; omega)
  have hqq : q ≠ q' := by rw [hq', mm_z_nw]; omega
  have hgq : g ≠ q := fun z => by rw [z, hqz] at hg7; cases hg7
  have hgq' : g ≠ q' := fun z => by rw [z, hqz'] at hg7; cases hg7
  have g1 : mm_gr M (mm_nw (mm_nw M 8 6) 103 3) (fun _ => False) := (mm_gr.nw hW.1).tr (mm_gr.nw (mm_gr.nw (S := fun _ => False) hW.1).2.1)
  have kk : ∀ a, mm_k (mm_nw (mm_nw M 8 6) 103 3) a = if a = q' then 103 else if a = q then 8 else mm_k M a := by
    intro a
    rw [mm_k_nw, mm_k_nw, ← hq, ← hq']
  have pp : ∀ a j, mm_p (mm_nw (mm_nw M 8 6) 103 3) a j = if a = q' then none else if a = q then none else mm_p M a j := by
    intro a j
    rw [mm_p_nw, mm_p_nw, ← hq, ← hq']
  have ll : mm_l (mm_nw (mm_nw M 8 6) 103 3) q' = 3 := by rw [mm_l_nw, if_pos hq']
  generalize mm_nw (mm_nw M 8 6) 103 3 = N at g1 kk pp ll ⊢
  generalize eM : mm_si (mm_si (mm_sp (mm_si (mm_si (mm_sp N q 3 (some q')) q 4 0) q 5 0) q 0 (some g)) q 1 s) q 2 t = M2
  have k2 : ∀ a, mm_k M2 a = if a = q' then 103 else if a = q then 8 else mm_k M a := fun a => by rw [← eM, mm_k_si, mm_k_si, mm_k_sp, mm_k_si, mm_k_si, mm_k_sp, kk]
  have pq0 : mm_p M2 q 0 = some g := by rw [← eM, mm_p_si, mm_p_si, mm_p_sp, if_pos ⟨rfl, rfl⟩]
  have pq3 : mm_p M2 q 3 = some q' := by rw [← eM, mm_p_si, mm_p_si, mm_p_sp, if_neg (fun z => by cases z.2), mm_p_si, mm_p_si, mm_p_sp, if_pos ⟨rfl, rfl⟩]
  have pq' : ∀ j, mm_p M2 q' j = none := fun j => by rw [← eM, mm_p_si, mm_p_si, mm_p_sp, if_neg (fun z => hqq z.1.symm), mm_p_si, mm_p_si, mm_p_sp, if_neg (fun z => hqq z.1.symm), pp, if_pos rfl]
  have iq1 : mm_i M2 q 1 = s := by rw [← eM, mm_i_si, if_neg (fun z => by cases z.2), mm_i_si, if_pos ⟨rfl, rfl⟩]
  have iq2 : mm_i M2 q 2 = t := by rw [← eM, mm_i_si, if_pos ⟨rfl, rfl⟩]
  have iq5 : mm_i M2 q 5 = 0 := by rw [← eM, mm_i_si, if_neg (fun z => by cases z.2), mm_i_si, if_neg (fun z => by cases z.2), mm_i_sp, mm_i_si, if_pos ⟨rfl, rfl⟩]
  have iq4 : mm_i M2 q 4 = 0 := by rw [← eM, mm_i_si, if_neg (fun z => by cases z.2), mm_i_si, if_neg (fun z => by cases z.2), mm_i_sp, mm_i_si, if_neg (fun z => by cases z.2), mm_i_si, if_pos ⟨rfl, rfl⟩]
  have g2 : mm_gr M M2 (fun _ => False) := by
    rw [← eM]
    refine ⟨g1.1, g1.2.1, fun a ha hn j => ?_⟩
    have haq : a ≠ q := fun z => by rw [z] at ha; exact ha hqz
    have := g1.2.2 a ha hn j
    rw [mm_i_si, if_neg (fun z => haq z.1), mm_i_si, if_neg (fun z => haq z.1), mm_i_sp, mm_i_si, if_neg (fun z => haq z.1), mm_i_si, if_neg (fun z => haq z.1), mm_i_sp, mm_p_si, mm_p_si, mm_p_sp, if_neg (fun z => haq z.1), mm_p_si, mm_p_si, mm_p_sp, if_neg (fun z => haq z.1)]
    exact this
  have kq : mm_k M2 q = 8 := by rw [k2, if_neg hqq, if_pos rfl]
  have kq' : mm_k M2 q' = 103 := by rw [k2, if_pos rfl]
  have lq' : mm_l M2 q' = 3 := by rw [← eM]; exact ll
  have kg : mm_k M2 g = 7 := by rw [k2, if_neg hgq', if_neg hgq]; exact hg7
  have og : oo_g M2 q = g := by unfold oo_g; rw [pq0]; rfl
  have oa : oo_a M2 q = q' := by unfold oo_a; rw [pq3]; rfl
  have hT2 : ti_T M2 := hW.2.1.made g2 (fun _ z => z.elim) (fun a a1 a2 => Or.inl (by rw [k2, if_neg a2, if_neg a1])) hqz hqz' kq' pq' (Or.inl ⟨kq, ⟨kq, by rw [og]; exact pq0, by rw [og]; exact kg, by rw [oa]; exact pq3, by rw [oa]; exact kq', by rw [oa]; exact lq'⟩, oa⟩)
  have hW2 := hW.grow g2 hT2 (fun _ z => z.elim)
  have hW3 := hW2.si (a := g) (j := 2) (x := mm_i M2 g 2 - s) (by rw [kg]; decide)
  have hL := hW3.2.2.2.2.2.2.1
  refine ⟨kg, hW3.2.2.1, LO, hW3.2.2.2.2.1, hL.1, ct_add (ci := 7) hL hW3.1 hlen ca_7 kq hW3.2.2.2.2.2.2.2.2.2.2.1 (fun M3 e1 h3 hg3 he hn _ => ⟨_, rfl, ?_⟩)⟩
  have hqn : q ∉ xs := fun z => by
    have := hW.2.2.2.2.2.2.2.2.2.2.1 q z
    rw [hqz] at this
    cases this
  have nS : ∀ a, mm_k M2 a ≠ 3 → mm_k M2 a ≠ 102 → ¬ (a = LO ∨ (a = eO ∧ mm_k (mm_si M2 g 2 (mm_i M2 g 2 - s)) eO = 102)) := fun a a1 a2 z => by
    rcases z with z | z
    · rw [z] at a1
      exact a1 hL.1
    · rw [z.1] at a2
      exact a2 z.2
  have hS0 := nS q (by rw [kq]; decide) (by rw [kq]; decide)
  have hS1 := nS q' (by rw [kq']; decide) (by rw [kq']; decide)
  have hq0 : mm_k M2 q ≠ 0 := by rw [kq]; decide
  have hq0' : mm_k M2 q' ≠ 0 := by rw [kq']; decide
  have keO : mm_k M eO ≠ 0 := by rcases hW.2.2.2.2.2.2.1.kind with z | z <;> rw [z] <;> decide
  have oa3 : oo_a M3 q = q' := by unfold oo_a; rw [(hg3.2.2 q hq0 hS0 3).2, mm_p_si, pq3]; rfl
  refine k M3 e1 q q' (hW3.addo h3 hg3 he hn (by simp) ?_ ?_) ⟨⟨g2.1.tr hg3.1, fun a ha hn2 j => ?_⟩, hqz, hqz', hqq, ?_, ?_, oa3, fun f => ?_, ?_, ?_, ?_, ?_, fun a => ?_⟩
  · intro a ha
    rcases List.mem_append.mp ha with z | z
    · exact hW3.2.2.2.2.2.2.2.2.2.2.1 a z
    · rw [List.mem_singleton.mp z]
      exact kq
  · rw [List.nodup_append]
    exact ⟨hW.2.2.2.2.2.2.2.2.2.2.2.2, by simp, fun a ha b hb z => by rw [List.mem_singleton.mp hb] at z; rw [z] at ha; exact hqn ha⟩
  · have e2 := g2.2.2 a ha id j
    have hk2 := (g2.1.2.1 a ha).1
    have e3 := hg3.2.2 a (by show mm_k M2 a ≠ 0; rw [hk2]; exact ha) (fun z => hn2 (z.imp id (fun w => ⟨w.1, by rw [← (g2.1.2.1 eO keO).1]; exact w.2⟩))) j
    refine ⟨e3.2.trans e2.2, ?_⟩
    rw [e3.1, mm_i_si, (g2.2.2 g (by rw [hg7]; decide) id 2).1, e2.1]
  · rw [(hg3.1.2.1 q hq0).1]
    exact kq
  · unfold oo_g
    rw [(hg3.2.2 q hq0 hS0 0).2, mm_p_si, pq0]
    rfl
  · unfold oo_f
    rw [oa3, (hg3.2.2 q' hq0' hS1 f).2, mm_p_si, pq']
  · rw [(hg3.2.2 q hq0 hS0 1).1, mm_i_si, if_neg (fun z => hgq z.1.symm)]
    exact iq1
  · rw [(hg3.2.2 q hq0 hS0 2).1, mm_i_si, if_neg (fun z => hgq z.1.symm)]
    exact iq2
  · rw [(hg3.2.2 q hq0 hS0 4).1, mm_i_si, if_neg (fun z => hgq z.1.symm)]
    exact iq4
  · rw [(hg3.2.2 q hq0 hS0 5).1, mm_i_si, if_neg (fun z => hgq z.1.symm)]
    exact iq5
  · rcases hn a with z | z
    · have z' : mm_k M3 a = mm_k M2 a := z
      rw [k2] at z'
      by_cases w : a = q'
      · exact Or.inr (Or.inr (Or.inl w))
      · by_cases w2 : a = q
        · exact Or.inr (Or.inl w2)
        · rw [if_neg w, if_neg w2] at z'
          exact Or.inl z'
    · exact Or.inr (Or.inr (Or.inr z))
end MQ
