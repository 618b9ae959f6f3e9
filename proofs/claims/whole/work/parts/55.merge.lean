/-! THE STORE: pages merged into the kernel's -/
section MH
variable {l : Launch} {G : mm_G} {K : Option mm_V → mm_M → Prop} {M M1 : mm_M} {am LP LO eP eO : Nat} {gs xs es : List Nat}
theorem ct_merge {h : Int32} (hW : me_W G M am LP LO eP eO gs xs)
    (k : ∀ M1, me_W G M1 am LP LO eP eO (gs.filter (fun g => !decide (mm_i M g 0 = h)) ++ gs.filter (fun g => decide (mm_i M g 0 = h))) xs → me_R M M1 (me_S LP LO eP eO) (fun a j => if j = 0 ∧ a ∈ gs ∧ mm_i M a 0 = h then 8 else mm_i M a j) → K none M1) : mm_Ok l G yy_Me_mergeIntoKernel Y_Me_mergeIntoKernel [.inr (some am), .inl h] M K := by
  have hle := hW.2.2.2.2.2.1.le
  have hnd := hW.2.2.2.2.2.2.2.2.2.2.2.1
  have hg7s := hW.2.2.2.2.2.2.2.2.2.1
  have hlen : ∀ t : List Nat, (t.filter (fun g => !decide (mm_i M g 0 = h))).length + (t.filter (fun g => decide (mm_i M g 0 = h))).length = t.length := by
    intro t
    induction t with
    | nil => rfl
    | cons a t ih =>
      by_cases q : mm_i M a 0 = h
      · rw [List.filter_cons_of_neg (by simp [q]), List.filter_cons_of_pos (by simp [q])]
        simp only [List.length_cons]
        omega
      · rw [List.filter_cons_of_pos (by simp [q]), List.filter_cons_of_neg (by simp [q])]
        simp only [List.length_cons]
        omega
  have key := lp_from (gs := gs) (P := fun i => ∀ M2, me_W G M2 am LP LO eP eO ((gs.take i).filter (fun g => !decide (mm_i M g 0 = h)) ++ (gs.drop i ++ (gs.take i).filter (fun g => decide (mm_i M g 0 = h)))) xs → me_R M M2 (me_S LP LO eP eO) (fun a j => if j = 0 ∧ a ∈ gs.take i ∧ mm_i M a 0 = h then 8 else mm_i M a j) → mm_Z l G Y_Me_mergeIntoKernel K M 0 0 13 [some (.inr (some am)), some (.inl h), some (.inl (nI gs.length)), some (.inl (nI ((gs.take i).filter (fun g => decide (mm_i M g 0 = h))).length)), some (.inl (nI i)), none] [] M2) ?_ ?_ 0 (Nat.zero_le _) M ?_ ?_
  · simp only [List.take_zero, List.filter_nil, List.length_nil, nI_0] at key
    exact sg_Me_mergeIntoKernel ⟨hW.2.2.1, LP, hW.2.2.2.1, hW.2.2.2.2.2.1.1, ct_size hW.2.2.2.2.2.1 (fun _ => ⟨_, rfl, key⟩)⟩
  · intro M2 h1 h2
    rw [List.take_length, List.drop_length, List.nil_append] at h1
    rw [List.take_length] at h2
    exact sg_Me_mergeIntoKernel_13 ⟨fun _ => k M2 h1 h2, fun hc => absurd (nI_le (Nat.le_refl _) (by omega)) hc⟩
  · intro i g hi ih M2 h1 h2
    have hil : i < gs.length := (List.getElem?_eq_some_iff.mp hi).1
    have hg7 := hg7s g (List.mem_of_getElem? hi)
    have hgS : ¬ me_S LP LO eP eO g := hW.nS (by rw [hg7]; decide) (by rw [hg7]; decide) (by rw [hg7]; decide)
    have hgt : g ∉ gs.take i := nd_take hnd hi
    have eg : mm_i M2 g 0 = mm_i M g 0 := by
      rw [(h2.2.2.2 g hgS 0).2]
      exact if_neg (fun q => hgt q.2.1)
    have hl := hlen (gs.take i)
    rw [List.length_take, Nat.min_eq_left (Nat.le_of_lt hil)] at hl
    have hpos : nI i - nI ((gs.take i).filter (fun g => decide (mm_i M g 0 = h))).length = nI ((gs.take i).filter (fun g => !decide (mm_i M g 0 = h))).length := by
      rw [pk_sub (by omega)]
      congr 1
      omega
    have hL := h1.2.2.2.2.2.1
    have hget : ((gs.take i).filter (fun g => !decide (mm_i M g 0 = h)) ++ (gs.drop i ++ (gs.take i).filter (fun g => decide (mm_i M g 0 = h))))[((gs.take i).filter (fun g => !decide (mm_i M g 0 = h))).length]? = some g := by
      rw [List.getElem?_append_right (Nat.le_refl _), Nat.sub_self, dr_s hi]
      rfl
    rw [tk_s hi] at ih
    refine sg_Me_mergeIntoKernel_13 ⟨fun hc => absurd hc (nI_ge hil (by omega)), fun _ => ⟨h1.2.2.1, LP, h1.2.2.2.1, hL.1, ?_⟩⟩
    rw [hpos]
    refine ct_get hL hget (fun _ => ⟨_, rfl, fun q hq => by cases hq; rw [h2.1]; exact hg7, g, rfl, by rw [h2.1]; exact hg7, fun hc => ?_, fun hc => ⟨LP, h1.2.2.2.1, hL.1, ?_⟩⟩)
    · rw [eg] at hc
      have z := ih M2 ?_ (h2.ext (fun a _ j => ?_))
      · rw [List.filter_append, List.filter_cons_of_neg (by simp [hc]), List.filter_nil, List.append_nil] at z
        rw [nI_1]
        exact z
      · rw [List.filter_append, List.filter_append, List.filter_cons_of_neg (p := fun g => decide (mm_i M g 0 = h)) (by simp [hc]), List.filter_cons_of_pos (by simp [hc]), List.filter_nil, List.filter_nil, List.append_nil, List.append_assoc]
        rw [dr_s hi] at h1
        exact h1
      · by_cases q : a = g
        · subst q
          simp [hc]
        · simp [q]
    · rw [eg] at hc
      have e1 : ((gs.take i).filter (fun g => !decide (mm_i M g 0 = h)) ++ (gs.drop i ++ (gs.take i).filter (fun g => decide (mm_i M g 0 = h)))).eraseIdx ((gs.take i).filter (fun g => !decide (mm_i M g 0 = h))).length = (gs.take i).filter (fun g => !decide (mm_i M g 0 = h)) ++ (gs.drop (i + 1) ++ (gs.take i).filter (fun g => decide (mm_i M g 0 = h))) := by
        rw [dr_s hi]
        exact er_mid
      have hk2 : mm_k M2 eP = 102 := (hL.arr hget).1
      have hcap := (hL.arr hget).2.1
      have hnd1 := h1.2.2.2.2.2.2.2.2.2.2.2.1
      refine ct_remove (ci := 6) hL h1.1 hget ca_6 h1.2.2.2.2.2.2.2.2.2.1 (fun M3 h3 hs _ => ⟨_, rfl, ?_⟩)
      rw [e1] at h3
      have hsub : ((gs.take i).filter (fun g => !decide (mm_i M g 0 = h)) ++ (gs.drop (i + 1) ++ (gs.take i).filter (fun g => decide (mm_i M g 0 = h)))).Sublist ((gs.take i).filter (fun g => !decide (mm_i M g 0 = h)) ++ (gs.drop i ++ (gs.take i).filter (fun g => decide (mm_i M g 0 = h)))) := by
        rw [← e1]
        exact List.eraseIdx_sublist _ _
      have hng : g ∉ (gs.take i).filter (fun g => !decide (mm_i M g 0 = h)) ++ (gs.drop (i + 1) ++ (gs.take i).filter (fun g => decide (mm_i M g 0 = h))) := by
        rw [dr_s hi] at hnd1
        have := (List.perm_middle (l₁ := (gs.take i).filter (fun g => !decide (mm_i M g 0 = h))) (l₂ := gs.drop (i + 1) ++ (gs.take i).filter (fun g => decide (mm_i M g 0 = h))) (a := g)).nodup_iff.mp hnd1
        exact (List.nodup_cons.mp this).1
      have hW3 := h1.pg hk2 h3 hs (fun w hw => h1.2.2.2.2.2.2.2.2.2.1 w (hsub.subset hw)) (hnd1.sublist hsub)
      have hR3 := h2.tr (me_R.of (S := me_S LP LO eP eO) hs (fun a q => q.elim Or.inl (fun z => Or.inr (Or.inl z))))
      refine ⟨LP, hW3.2.2.2.1, h3.1, ct_addn (ci := 6) h3 (by rw [hs.1]; exact hk2) ?_ ca_6 (by rw [hs.1, h2.1]; exact hg7) (fun M4 h4 hs4 _ => ⟨_, rfl, ?_⟩)⟩
      · rw [hs.2.1, ← e1, List.length_eraseIdx_of_lt (by simp; omega)]
        simp only [List.length_append, List.length_drop] at hcap ⊢
        omega
      · have hW4 := hW3.pg (by rw [hs.1]; exact hk2) h4 hs4 ?_ ?_
        have hR4 := hR3.tr (me_R.of (S := me_S LP LO eP eO) hs4 (fun a q => q.elim Or.inl (fun z => Or.inr (Or.inl z))))
        have z := ih (mm_si M4 g 0 8) ?_ ((hR4.si g 0 8).ext (fun a _ j => ?_))
        · rw [List.filter_append, List.filter_cons_of_pos (by simp [hc]), List.filter_nil, List.length_append] at z
          rw [nI_1, nI_1]
          exact z
        · rw [List.filter_append, List.filter_append, List.filter_cons_of_pos (p := fun g => decide (mm_i M g 0 = h)) (by simp [hc]), List.filter_cons_of_neg (by simp [hc]), List.filter_nil, List.filter_nil, List.append_nil]
          have z2 := hW4.si (a := g) (j := 0) (x := 8) (by rw [hR4.1, hg7]; decide)
          simp only [List.append_assoc] at z2
          exact z2
        · by_cases q : a = g
          · subst q
            by_cases w : j = 0 <;> simp [hc, w]
          · simp [q]
        · intro w hw
          rcases List.mem_append.mp hw with q | q
          · exact hW3.2.2.2.2.2.2.2.2.2.1 w q
          · rw [List.mem_singleton.mp q, hs.1, h2.1]
            exact hg7
        · rw [List.nodup_append]
          exact ⟨hnd1.sublist hsub, by simp, fun a ha b hb q => by rw [List.mem_singleton.mp hb] at q; rw [q] at ha; exact hng ha⟩
  · simpa using hW
  · refine (me_R.rf M _).ext (fun b _ j => ?_)
    simp
end MH
