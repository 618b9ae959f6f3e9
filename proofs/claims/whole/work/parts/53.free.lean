/-! THE STORE: pages given back, objects freed, pages merged -/
def me_S (LP LO eP eO a : Nat) : Prop := a = LP ∨ a = eP ∨ a = LO ∨ a = eO
/-- M1 is M with the ints F; the lists' own cells apart -/
def me_R (M M1 : mm_M) (S : Nat → Prop) (F : Nat → Nat → Int32) : Prop := (∀ a, mm_k M1 a = mm_k M a) ∧ (∀ a, mm_l M1 a = mm_l M a) ∧ mm_z M1 = mm_z M ∧ ∀ a, ¬ S a → ∀ j, mm_p M1 a j = mm_p M a j ∧ mm_i M1 a j = F a j
theorem me_R.rf (M : mm_M) (S : Nat → Prop) : me_R M M S (mm_i M) := ⟨fun _ => rfl, fun _ => rfl, rfl, fun _ _ _ => ⟨rfl, rfl⟩⟩
theorem me_R.of {M M1 : mm_M} {S S' : Nat → Prop} (h : mm_sm M M1 S') (hs : ∀ a, S' a → S a) : me_R M M1 S (mm_i M) := ⟨h.1, h.2.1, h.2.2.1, fun a ha j => ⟨(h.2.2.2 a (fun q => ha (hs a q)) j).2, (h.2.2.2 a (fun q => ha (hs a q)) j).1⟩⟩
theorem me_R.tr {M M1 M2 : mm_M} {S : Nat → Prop} {F : Nat → Nat → Int32} (h1 : me_R M M1 S F) (h2 : me_R M1 M2 S (mm_i M1)) : me_R M M2 S F := ⟨fun a => (h2.1 a).trans (h1.1 a), fun a => (h2.2.1 a).trans (h1.2.1 a), h2.2.2.1.trans h1.2.2.1, fun a ha j => ⟨(h2.2.2.2 a ha j).1.trans (h1.2.2.2 a ha j).1, (h2.2.2.2 a ha j).2.trans (h1.2.2.2 a ha j).2⟩⟩
theorem me_R.si {M M1 : mm_M} {S : Nat → Prop} {F : Nat → Nat → Int32} (h : me_R M M1 S F) (a j : Nat) (x : Int32) : me_R M (mm_si M1 a j x) S (fun b k => if b = a ∧ k = j then x else F b k) := ⟨h.1, h.2.1, h.2.2.1, fun b hb k => ⟨(h.2.2.2 b hb k).1, by rw [mm_i_si, (h.2.2.2 b hb k).2]⟩⟩
theorem me_R.ext {M M1 : mm_M} {S : Nat → Prop} {F F' : Nat → Nat → Int32} (h : me_R M M1 S F) (e : ∀ a, ¬ S a → ∀ j, F a j = F' a j) : me_R M M1 S F' := ⟨h.1, h.2.1, h.2.2.1, fun a ha j => ⟨(h.2.2.2 a ha j).1, (h.2.2.2 a ha j).2.trans (e a ha j)⟩⟩
theorem ti_T.same {M M1 : mm_M} (h : ti_T M) (hk : ∀ a, mm_k M1 a = mm_k M a) (hl : ∀ a, mm_l M1 a = mm_l M a) (hp : ∀ a, (mm_k M a = 8 ∨ mm_k M a = 6 ∨ mm_k M a = 103 ∨ mm_k M a = 104) → ∀ j, mm_p M1 a j = mm_p M a j) : ti_T M1 := by
  have eg : ∀ a, mm_k M a = 8 → oo_g M1 a = oo_g M a := fun a ha => by unfold oo_g; rw [hp a (Or.inl ha)]
  have ea : ∀ a, mm_k M a = 8 → oo_a M1 a = oo_a M a := fun a ha => by unfold oo_a; rw [hp a (Or.inl ha)]
  have er : ∀ a, mm_k M a = 6 → pr_a M1 a = pr_a M a := fun a ha => by unfold pr_a; rw [hp a (Or.inr (Or.inl ha))]
  obtain ⟨h1, h2, h3, h4, h5, h6, h7⟩ := h
  refine ⟨fun a ha => ?_, fun q hq => ?_, fun f j v hf hv => ?_, fun f j v hf hv => ?_, fun a b ha hb e => ?_, fun p q hp1 hq1 e => ?_, fun a q ha hq => ?_⟩
  · rw [hk] at ha
    obtain ⟨g1, g2, g3, g4, g5, g6⟩ := h1 a ha
    refine ⟨by rw [hk]; exact ha, ?_, ?_, ?_, ?_, ?_⟩
    · rw [hp a (Or.inl ha), eg a ha]; exact g2
    · rw [eg a ha, hk]; exact g3
    · rw [hp a (Or.inl ha), ea a ha]; exact g4
    · rw [ea a ha, hk]; exact g5
    · rw [ea a ha, hl]; exact g6
  · rw [hk] at hq
    obtain ⟨g1, g2, g3, g4⟩ := h2 q hq
    refine ⟨by rw [hk]; exact hq, ?_, ?_, ?_⟩
    · rw [hp q (Or.inr (Or.inl hq)), er q hq]; exact g2
    · rw [er q hq, hk]; exact g3
    · rw [er q hq, hl]; exact g4
  · rw [hk] at hf
    rw [hp f (Or.inr (Or.inr (Or.inl hf)))] at hv
    rw [hk]
    exact h3 f j v hf hv
  · rw [hk] at hf
    rw [hp f (Or.inr (Or.inr (Or.inr hf)))] at hv
    rw [hk]
    exact h4 f j v hf hv
  · rw [hk] at ha hb
    rw [ea a ha, ea b hb] at e
    exact h5 a b ha hb e
  · rw [hk] at hp1 hq1
    rw [er p hp1, er q hq1] at e
    exact h6 p q hp1 hq1 e
  · rw [hk] at ha hq
    rw [ea a ha, er q hq]
    exact h7 a q ha hq
theorem er_mid {l1 l2 : List Nat} {a : Nat} : (l1 ++ a :: l2).eraseIdx l1.length = l1 ++ l2 := by
  induction l1 with
  | nil => rfl
  | cons b t ih => simp [ih]
theorem al_L.kind {G : mm_G} {M : mm_M} {L e : Nat} {es : List Nat} (h : al_L G M L e es) : mm_k M e = 102 ∨ mm_k M e = 105 := by
  rcases h.2.2.2.1 with ⟨h1, -⟩ | ⟨h1, -⟩
  · exact Or.inl h1
  · exact Or.inr h1
section MF
variable {l : Launch} {G : mm_G} {K : Option mm_V → mm_M → Prop} {M M1 : mm_M} {am LP LO eP eO : Nat} {gs xs es : List Nat}
theorem me_W.S (h : me_W G M am LP LO eP eO gs xs) {a : Nat} (ha : me_S LP LO eP eO a) : mm_k M a = 3 ∨ mm_k M a = 102 ∨ mm_k M a = 105 := by
  rcases ha with rfl | rfl | rfl | rfl
  · exact Or.inl h.2.2.2.2.2.1.1
  · exact Or.inr h.2.2.2.2.2.1.kind
  · exact Or.inl h.2.2.2.2.2.2.1.1
  · exact Or.inr h.2.2.2.2.2.2.1.kind
theorem me_W.nS (h : me_W G M am LP LO eP eO gs xs) {a : Nat} (ha : mm_k M a ≠ 3) (hb : mm_k M a ≠ 102) (hc : mm_k M a ≠ 105) : ¬ me_S LP LO eP eO a := fun q => by
  rcases h.S q with z | z | z
  · exact ha z
  · exact hb z
  · exact hc z
theorem me_W.si (h : me_W G M am LP LO eP eO gs xs) {a j : Nat} {x : Int32} (ha : mm_k M a ≠ 3) : me_W G (mm_si M a j x) am LP LO eP eO gs xs :=
  h.mi (f := fun b k => if b = a ∧ k = j then x else mm_i M b k) (fun b hb => if_neg (fun q => ha (by rw [← q.1]; exact hb)))
/-- the pages' list is another -/
theorem me_W.pg (h : me_W G M am LP LO eP eO gs xs) (hk : mm_k M eP = 102) (h1 : al_L G M1 LP eP es) (hs : mm_sm M M1 (fun a => a = LP ∨ a = eP)) (h2 : ∀ g, g ∈ es → mm_k M g = 7) (h3 : es.Nodup) : me_W G M1 am LP LO eP eO es xs := by
  obtain ⟨f1, f2, f3, f4, f5, f6, f7, f8, f9, f10, f11, f12, f13⟩ := h
  have hne : eP ≠ eO := fun q => by rw [f9 q] at hk; cases hk
  have n1 : ∀ a, mm_k M a ≠ 3 → mm_k M a ≠ 102 → ¬ (a = LP ∨ a = eP) := fun a q1 q2 q => by
    rcases q with rfl | rfl
    · exact q1 f6.1
    · exact q2 hk
  refine ⟨hs.fr f1, f2.same hs.1 hs.2.1 (fun a ha j => (hs.2.2.2 a (n1 a (by rcases ha with z | z | z | z <;> rw [z] <;> decide) (by rcases ha with z | z | z | z <;> rw [z] <;> decide)) j).2), by rw [hs.1]; exact f3, ?_, ?_, h1, f7.keep (mm_gr.of hs f1) ?_ ?_, f8, fun q => absurd q hne, fun g hg => by rw [hs.1]; exact h2 g hg, fun a ha => by rw [hs.1]; exact f11 a ha, h3, f13⟩
  · rw [(hs.2.2.2 am (n1 am (by rw [f3]; decide) (by rw [f3]; decide)) 0).2]
    exact f4
  · rw [(hs.2.2.2 am (n1 am (by rw [f3]; decide) (by rw [f3]; decide)) 1).2]
    exact f5
  · intro q
    rcases q with q | q
    · exact f8 q.symm
    · have := f7.1
      rw [q, hk] at this
      cases this
  · intro q
    rcases q with q | q
    · have z := f7.kind
      rw [q, f6.1] at z
      rcases z with z | z <;> cases z
    · exact hne q.symm
theorem me_W.ob (h : me_W G M am LP LO eP eO gs xs) (hk : mm_k M eO = 102) (h1 : al_L G M1 LO eO es) (hs : mm_sm M M1 (fun a => a = LO ∨ a = eO)) (h2 : ∀ a, a ∈ es → mm_k M a = 8) (h3 : es.Nodup) : me_W G M1 am LP LO eP eO gs es := by
  obtain ⟨f1, f2, f3, f4, f5, f6, f7, f8, f9, f10, f11, f12, f13⟩ := h
  have hne : eP ≠ eO := fun q => by have := f9 q; rw [q, hk] at this; cases this
  have n1 : ∀ a, mm_k M a ≠ 3 → mm_k M a ≠ 102 → ¬ (a = LO ∨ a = eO) := fun a q1 q2 q => by
    rcases q with rfl | rfl
    · exact q1 f7.1
    · exact q2 hk
  refine ⟨hs.fr f1, f2.same hs.1 hs.2.1 (fun a ha j => (hs.2.2.2 a (n1 a (by rcases ha with z | z | z | z <;> rw [z] <;> decide) (by rcases ha with z | z | z | z <;> rw [z] <;> decide)) j).2), by rw [hs.1]; exact f3, ?_, ?_, f6.keep (mm_gr.of hs f1) ?_ ?_, h1, f8, fun q => absurd q hne, fun g hg => by rw [hs.1]; exact f10 g hg, fun a ha => by rw [hs.1]; exact h2 a ha, f12, h3⟩
  · rw [(hs.2.2.2 am (n1 am (by rw [f3]; decide) (by rw [f3]; decide)) 0).2]
    exact f4
  · rw [(hs.2.2.2 am (n1 am (by rw [f3]; decide) (by rw [f3]; decide)) 1).2]
    exact f5
  · intro q
    rcases q with q | q
    · exact f8 q
    · have := f6.1
      rw [q, hk] at this
      cases this
  · intro q
    rcases q with q | q
    · have z := f6.kind
      rw [q, f7.1] at z
      rcases z with z | z <;> cases z
    · exact hne q
theorem i32_m1 (x : Int32) : x + (-1) = x - 1 := by rw [Int32.sub_eq_add_neg]
theorem ct_giveBack (hW : me_W G M am LP LO eP eO gs xs) (k : ∀ M1, me_W G M1 am LP LO eP eO (gs.filter (fun g => !decide (mm_i M g 2 = 16))) xs → me_R M M1 (me_S LP LO eP eO) (mm_i M) → K none M1) : mm_Ok l G yy_Me_giveBackEmptyPages Y_Me_giveBackEmptyPages [.inr (some am)] M K := by
  have hle := hW.2.2.2.2.2.1.le
  have key : ∀ i, i ≤ gs.length → ∀ M2, me_W G M2 am LP LO eP eO (gs.take i ++ (gs.drop i).filter (fun g => !decide (mm_i M g 2 = 16))) xs → me_R M M2 (me_S LP LO eP eO) (mm_i M) → mm_Z l G Y_Me_giveBackEmptyPages K M 0 0 10 [some (.inr (some am)), some (.inl (nI i - 1))] [] M2 := by
    intro i
    induction i with
    | zero =>
      intro _ M2 h1 h2
      refine sg_Me_giveBackEmptyPages_10 ⟨fun _ => k M2 (by simpa using h1) h2, fun q => absurd (show (nI 0 - 1 : Int32) < 0 by decide) q⟩
    | succ i ih =>
      intro hi M2 h1 h2
      have hil : i < gs.length := hi
      obtain ⟨g, hg⟩ : ∃ g, gs[i]? = some g := ⟨gs[i], List.getElem?_eq_getElem hil⟩
      have hg7 := hW.2.2.2.2.2.2.2.2.2.1 g (List.mem_of_getElem? hg)
      have hgS : ¬ me_S LP LO eP eO g := hW.nS (by rw [hg7]; decide) (by rw [hg7]; decide) (by rw [hg7]; decide)
      have hf : mm_i M2 g 2 = mm_i M g 2 := (h2.2.2.2 g hgS 2).2
      have elist : gs.take (i + 1) ++ (gs.drop (i + 1)).filter (fun g => !decide (mm_i M g 2 = 16)) = gs.take i ++ g :: (gs.drop (i + 1)).filter (fun g => !decide (mm_i M g 2 = 16)) := by
        rw [tk_s hg, List.append_assoc]
        rfl
      have hti : (gs.take i).length = i := by rw [List.length_take]; omega
      have hget : (gs.take (i + 1) ++ (gs.drop (i + 1)).filter (fun g => !decide (mm_i M g 2 = 16)))[i]? = some g := by
        rw [elist, List.getElem?_append_right (by omega), hti, Nat.sub_self]
        rfl
      have hL := h1.2.2.2.2.2.1
      rw [nI_pred]
      refine sg_Me_giveBackEmptyPages_10 ⟨fun q => absurd q (nI_pos (by omega)), fun _ => ⟨h1.2.2.1, LP, h1.2.2.2.1, hL.1, ct_get hL hget (fun _ => ⟨_, rfl, fun q hq => by cases hq; rw [h2.1]; exact hg7, g, rfl, by rw [h2.1]; exact hg7, fun hc => ?_, fun hc => ⟨LP, h1.2.2.2.1, hL.1, ?_⟩⟩)⟩⟩
      · rw [hf] at hc
        rw [i32_m1]
        refine ih (by omega) M2 ?_ h2
        rw [elist] at h1
        rw [dr_s hg, List.filter_cons_of_pos (by simp [hc])]
        exact h1
      · rw [hf] at hc
        refine ct_remove (ci := 6) hL h1.1 hget ca_6 h1.2.2.2.2.2.2.2.2.2.1 (fun M3 h3 hs _ => ⟨_, rfl, ?_⟩)
        rw [i32_m1]
        rw [elist] at h3 h1
        have e1 : (gs.take i ++ g :: (gs.drop (i + 1)).filter (fun g => !decide (mm_i M g 2 = 16))).eraseIdx i = gs.take i ++ (gs.drop i).filter (fun g => !decide (mm_i M g 2 = 16)) := by
          have := er_mid (l1 := gs.take i) (l2 := (gs.drop (i + 1)).filter (fun g => !decide (mm_i M g 2 = 16))) (a := g)
          rw [hti] at this
          rw [this, dr_s hg, List.filter_cons_of_neg (by simp [hc])]
        rw [e1] at h3
        have hsub : (gs.take i ++ (gs.drop i).filter (fun g => !decide (mm_i M g 2 = 16))).Sublist (gs.take i ++ g :: (gs.drop (i + 1)).filter (fun g => !decide (mm_i M g 2 = 16))) := by
          rw [← e1]
          exact List.eraseIdx_sublist _ _
        have hk2 : mm_k M2 eP = 102 := (hL.arr hget).1
        exact ih (by omega) M3 (h1.pg hk2 h3 hs (fun w hw => h1.2.2.2.2.2.2.2.2.2.1 w (hsub.subset hw)) (h1.2.2.2.2.2.2.2.2.2.2.2.1.sublist hsub)) (h2.tr (me_R.of hs (fun a q => q.elim Or.inl (fun z => Or.inr (Or.inl z)))))
  refine sg_Me_giveBackEmptyPages ⟨hW.2.2.1, LP, hW.2.2.2.1, hW.2.2.2.2.2.1.1, ct_size hW.2.2.2.2.2.1 (fun _ => ⟨_, rfl, ?_⟩)⟩
  refine key gs.length (Nat.le_refl _) M ?_ (me_R.rf M _)
  rw [List.take_length, List.drop_length]
  simpa using hW
end MF
