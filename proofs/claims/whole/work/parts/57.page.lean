/-! THE STORE: contracts of addPage and putObject -/
section MP
variable {l : Launch} {G : mm_G} {K : Option mm_V → mm_M → Prop} {M M1 : mm_M} {am LP LO eP eO : Nat} {gs xs es : List Nat} {S : Nat → Prop}
/-- cells are made, none of the store's own is written -/
theorem me_W.grow (h : me_W G M am LP LO eP eO gs xs) (hg : mm_gr M M1 S) (hT : ti_T M1) (hS : ∀ a, S a → mm_k M a ≠ 2 ∧ mm_k M a ≠ 3 ∧ mm_k M a ≠ 102 ∧ mm_k M a ≠ 105) : me_W G M1 am LP LO eP eO gs xs := by
  obtain ⟨f1, f2, f3, f4, f5, f6, f7, f8, f9, f10, f11, f12, f13⟩ := h
  have hk : ∀ a, mm_k M a ≠ 0 → mm_k M1 a = mm_k M a := fun a ha => (hg.1.2.1 a ha).1
  have n3 : ∀ a, mm_k M a = 3 → ¬ S a := fun a ha q => (hS a q).2.1 ha
  have ne : ∀ {L e : Nat} {es : List Nat}, al_L G M L e es → ¬ S e := fun hL q => by
    rcases hL.kind with z | z
    · exact (hS _ q).2.2.1 z
    · exact (hS _ q).2.2.2 z
  have na : ¬ S am := fun q => (hS _ q).1 f3
  refine ⟨hg.2.1, hT, by rw [hk am (by rw [f3]; decide)]; exact f3, ?_, ?_, f6.keep hg (n3 _ f6.1) (ne f6), f7.keep hg (n3 _ f7.1) (ne f7), f8, fun q => ?_, fun g hg1 => ?_, fun a ha => ?_, f12, f13⟩
  · rw [(hg.2.2 am (by rw [f3]; decide) na 0).2]; exact f4
  · rw [(hg.2.2 am (by rw [f3]; decide) na 1).2]; exact f5
  · have := f9 q
    rw [hk _ (by rw [this]; decide)]
    exact this
  · have := f10 g hg1
    rw [hk _ (by rw [this]; decide)]
    exact this
  · have := f11 a ha
    rw [hk _ (by rw [this]; decide)]
    exact this
theorem me_W.addp {e1 : Nat} (h : me_W G M am LP LO eP eO gs xs) (h1 : al_L G M1 LP e1 es) (hg : mm_gr M M1 (fun a => a = LP ∨ (a = eP ∧ mm_k M eP = 102))) (he : e1 = eP ∨ (mm_z M ≤ e1 ∧ mm_k M1 e1 = 102)) (hn : ∀ a, mm_k M1 a = mm_k M a ∨ mm_k M1 a = 102) (h0 : es ≠ []) (h2 : ∀ g, g ∈ es → mm_k M g = 7) (h3 : es.Nodup) : me_W G M1 am LP LO e1 eO es xs := by
  obtain ⟨f1, f2, f3, f4, f5, f6, f7, f8, f9, f10, f11, f12, f13⟩ := h
  have hk : ∀ a, mm_k M a ≠ 0 → mm_k M1 a = mm_k M a := fun a ha => (hg.1.2.1 a ha).1
  have n1 : ∀ a, mm_k M a ≠ 3 → mm_k M a ≠ 102 → ¬ (a = LP ∨ (a = eP ∧ mm_k M eP = 102)) := fun a q1 q2 q => by
    rcases q with q | q
    · rw [q] at q1
      exact q1 f6.1
    · rw [q.1] at q2
      exact q2 q.2
  have ke : mm_k M1 e1 = 102 := by
    rcases h1.2.2.2.1 with ⟨z, -⟩ | ⟨-, -, -, z⟩
    · exact z
    · exact absurd z h0
  have keO : mm_k M eO ≠ 0 := by rcases f7.kind with z | z <;> rw [z] <;> decide
  have hne : e1 ≠ eO := fun q => by
    rcases he with z | z
    · have z2 : eP = eO := z.symm.trans q
      have := f9 z2
      rw [z, hk eP (by rw [this]; decide), this] at ke
      cases ke
    · have := f1 eO keO
      omega
  refine ⟨hg.2.1, f2.grow hg (fun a q w => ?_) (fun a => ?_), by rw [hk am (by rw [f3]; decide)]; exact f3, ?_, ?_, h1, f7.keep hg ?_ ?_, f8, fun q => absurd q hne, fun g hg1 => ?_, fun a ha => ?_, h3, f13⟩
  · rcases q with q | q
    · rw [q, f6.1] at w
      exact w.ne.2.1 rfl
    · rw [q.1, q.2] at w
      exact w.ne.2.2.1 rfl
  · rcases hn a with z | z
    · exact Or.inl z
    · exact Or.inr (fun w => by rw [z] at w; exact w.ne.2.2.1 rfl)
  · rw [(hg.2.2 am (by rw [f3]; decide) (n1 am (by rw [f3]; decide) (by rw [f3]; decide)) 0).2]; exact f4
  · rw [(hg.2.2 am (by rw [f3]; decide) (n1 am (by rw [f3]; decide) (by rw [f3]; decide)) 1).2]; exact f5
  · intro q
    rcases q with q | q
    · exact f8 q.symm
    · have := f7.1
      rw [q.1, q.2] at this
      cases this
  · intro q
    rcases q with q | q
    · have z := f7.kind
      rw [q, f6.1] at z
      rcases z with z | z <;> cases z
    · have := f9 q.1.symm
      rw [q.2] at this
      cases this
  · have := h2 g hg1
    rw [hk _ (by rw [this]; decide)]
    exact this
  · have := f11 a ha
    rw [hk _ (by rw [this]; decide)]
    exact this
theorem me_W.addo {e1 : Nat} (h : me_W G M am LP LO eP eO gs xs) (h1 : al_L G M1 LO e1 es) (hg : mm_gr M M1 (fun a => a = LO ∨ (a = eO ∧ mm_k M eO = 102))) (he : e1 = eO ∨ (mm_z M ≤ e1 ∧ mm_k M1 e1 = 102)) (hn : ∀ a, mm_k M1 a = mm_k M a ∨ mm_k M1 a = 102) (h0 : es ≠ []) (h2 : ∀ g, g ∈ es → mm_k M g = 8) (h3 : es.Nodup) : me_W G M1 am LP LO eP e1 gs es := by
  obtain ⟨f1, f2, f3, f4, f5, f6, f7, f8, f9, f10, f11, f12, f13⟩ := h
  have hk : ∀ a, mm_k M a ≠ 0 → mm_k M1 a = mm_k M a := fun a ha => (hg.1.2.1 a ha).1
  have n1 : ∀ a, mm_k M a ≠ 3 → mm_k M a ≠ 102 → ¬ (a = LO ∨ (a = eO ∧ mm_k M eO = 102)) := fun a q1 q2 q => by
    rcases q with q | q
    · rw [q] at q1
      exact q1 f7.1
    · rw [q.1] at q2
      exact q2 q.2
  have ke : mm_k M1 e1 = 102 := by
    rcases h1.2.2.2.1 with ⟨z, -⟩ | ⟨-, -, -, z⟩
    · exact z
    · exact absurd z h0
  have keP : mm_k M eP ≠ 0 := by rcases f6.kind with z | z <;> rw [z] <;> decide
  have hne : eP ≠ e1 := fun q => by
    rcases he with z | z
    · have z2 : eP = eO := q.trans z
      have := f9 z2
      rw [← q, hk eP (by rw [this]; decide), this] at ke
      cases ke
    · have := f1 eP keP
      omega
  refine ⟨hg.2.1, f2.grow hg (fun a q w => ?_) (fun a => ?_), by rw [hk am (by rw [f3]; decide)]; exact f3, ?_, ?_, f6.keep hg ?_ ?_, h1, f8, fun q => absurd q hne, fun g hg1 => ?_, fun a ha => ?_, f12, h3⟩
  · rcases q with q | q
    · rw [q, f7.1] at w
      exact w.ne.2.1 rfl
    · rw [q.1, q.2] at w
      exact w.ne.2.2.1 rfl
  · rcases hn a with z | z
    · exact Or.inl z
    · exact Or.inr (fun w => by rw [z] at w; exact w.ne.2.2.1 rfl)
  · rw [(hg.2.2 am (by rw [f3]; decide) (n1 am (by rw [f3]; decide) (by rw [f3]; decide)) 0).2]; exact f4
  · rw [(hg.2.2 am (by rw [f3]; decide) (n1 am (by rw [f3]; decide) (by rw [f3]; decide)) 1).2]; exact f5
  · intro q
    rcases q with q | q
    · exact f8 q
    · have := f6.1
      rw [q.1, q.2] at this
      cases this
  · intro q
    rcases q with q | q
    · have z := f6.kind
      rw [q, f7.1] at z
      rcases z with z | z <;> cases z
    · have := f9 q.1
      rw [q.1, q.2] at this
      cases this
  · have := f10 g hg1
    rw [hk _ (by rw [this]; decide)]
    exact this
  · have := h2 a ha
    rw [hk _ (by rw [this]; decide)]
    exact this
/-- what a new page brings -/
def me_Ap (M M1 : mm_M) (LP eP q : Nat) (h p : Int32) : Prop := mm_gr M M1 (fun a => a = LP ∨ (a = eP ∧ mm_k M eP = 102)) ∧ mm_k M1 q = 7 ∧ mm_i M1 q 0 = h ∧ mm_i M1 q 1 = p ∧ mm_i M1 q 2 = 16 ∧ ∀ a, mm_k M1 a = mm_k M a ∨ a = q ∨ mm_k M1 a = 102
theorem ct_addPage {h p : Int32} (hW : me_W G M am LP LO eP eO gs xs) (hlen : gs.length ≤ 60)
    (k : ∀ M1 e1 q, q = mm_z M → me_W G M1 am LP LO e1 eO (gs ++ [q]) xs → me_Ap M M1 LP eP q h p → K (some (.inr (some q))) M1) : mm_Ok l G yy_Me_addPage Y_Me_addPage [.inr (some am), .inl h, .inl p] M K := by
  refine sg_Me_addPage (fun q hq => sg_Pa_init ⟨by rw [mm_k_nw, if_pos hq], fun _ => ⟨rfl, ?_⟩⟩)
  have g1 : mm_gr M (mm_nw M 7 3) (fun _ => False) := mm_gr.nw hW.1
  have hkz : mm_k M q = 0 := by
    rcases Nat.eq_zero_or_pos (mm_k M q) with z | z
    · exact z
    · have := hW.1 q (by omega)
      omega
  have g2 : mm_gr M (mm_si (mm_si (mm_si (mm_nw M 7 3) q 2 16) q 0 h) q 1 p) (fun _ => False) := by
    refine ⟨g1.1, g1.2.1, fun a ha hn j => ?_⟩
    have haq : a ≠ q := fun z => by rw [z] at ha; exact ha hkz
    have := g1.2.2 a ha hn j
    rw [mm_i_si, if_neg (fun z => haq z.1), mm_i_si, if_neg (fun z => haq z.1), mm_i_si, if_neg (fun z => haq z.1)]
    exact this
  have hk' : ∀ a, mm_k (mm_si (mm_si (mm_si (mm_nw M 7 3) q 2 16) q 0 h) q 1 p) a = mm_k M a ∨ (a = q ∧ mm_k (mm_si (mm_si (mm_si (mm_nw M 7 3) q 2 16) q 0 h) q 1 p) a = 7) := by
    intro a
    rw [mm_k_si, mm_k_si, mm_k_si, mm_k_nw, ← hq]
    by_cases z : a = q
    · rw [if_pos z]
      exact Or.inr ⟨z, rfl⟩
    · rw [if_neg z]
      exact Or.inl rfl
  have hW2 := hW.grow g2 (hW.2.1.grow g2 (fun _ q => q.elim) (fun a => (hk' a).imp id (fun z w => by rw [z.2] at w; exact w.ne.2.2.2.2.1 rfl))) (fun _ q => q.elim)
  have hkq : mm_k (mm_si (mm_si (mm_si (mm_nw M 7 3) q 2 16) q 0 h) q 1 p) q = 7 := by
    rw [mm_k_si, mm_k_si, mm_k_si, mm_k_nw, if_pos hq]
  generalize eM : mm_si (mm_si (mm_si (mm_nw M 7 3) q 2 16) q 0 h) q 1 p = M2 at g2 hk' hW2 hkq ⊢
  have i0 : mm_i M2 q 0 = h := by
    rw [← eM, mm_i_si, if_neg (fun z => by cases z.2), mm_i_si, if_pos ⟨rfl, rfl⟩]
  have i1 : mm_i M2 q 1 = p := by
    rw [← eM, mm_i_si, if_pos ⟨rfl, rfl⟩]
  have i2 : mm_i M2 q 2 = 16 := by
    rw [← eM, mm_i_si, if_neg (fun z => by cases z.2), mm_i_si, if_neg (fun z => by cases z.2), mm_i_si, if_pos ⟨rfl, rfl⟩]
  have hL := hW2.2.2.2.2.2.1
  refine ⟨hW2.2.2.1, LP, hW2.2.2.2.1, hL.1, ct_add (ci := 6) hL hW2.1 hlen ca_6 hkq hW2.2.2.2.2.2.2.2.2.2.1 (fun M3 e1 h3 hg3 he hn _ => ⟨_, rfl, ?_⟩)⟩
  have hqn : q ∉ gs := fun z => by
    have := hW.2.2.2.2.2.2.2.2.2.1 q z
    rw [hkz] at this
    cases this
  have hqS : ¬ (q = LP ∨ (q = eP ∧ mm_k M2 eP = 102)) := fun z => by
    rcases z with z | z
    · have := hL.1
      rw [← z, hkq] at this
      cases this
    · have := z.2
      rw [← z.1, hkq] at this
      cases this
  have hq0 : mm_k M2 q ≠ 0 := by rw [hkq]; decide
  refine k M3 e1 q hq (hW2.addp h3 hg3 he hn (by simp) ?_ ?_) ⟨?_, ?_, ?_, ?_, ?_, ?_⟩
  · intro g hg
    rcases List.mem_append.mp hg with z | z
    · exact hW2.2.2.2.2.2.2.2.2.2.1 g z
    · rw [List.mem_singleton.mp z]
      exact hkq
  · rw [List.nodup_append]
    exact ⟨hW.2.2.2.2.2.2.2.2.2.2.2.1, by simp, fun a ha b hb z => by rw [List.mem_singleton.mp hb] at z; rw [z] at ha; exact hqn ha⟩
  · refine (g2.mono (fun _ q => q.elim)).tr (hg3.mono (fun a z => z.imp id (fun w => ⟨w.1, ?_⟩)))
    have keP : mm_k M eP ≠ 0 := by rcases hW.2.2.2.2.2.1.kind with z | z <;> rw [z] <;> decide
    rw [← (g2.1.2.1 eP keP).1]
    exact w.2
  · rw [(hg3.1.2.1 q hq0).1]
    exact hkq
  · rw [(hg3.2.2 q hq0 hqS 0).1]
    exact i0
  · rw [(hg3.2.2 q hq0 hqS 1).1]
    exact i1
  · rw [(hg3.2.2 q hq0 hqS 2).1]
    exact i2
  · intro a
    rcases hn a with z | z
    · rcases hk' a with w | w
      · exact Or.inl (z.trans w)
      · exact Or.inr (Or.inl w.1)
    · exact Or.inr (Or.inr z)
end MP
