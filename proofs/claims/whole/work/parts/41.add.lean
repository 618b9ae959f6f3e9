/-! LISTS: add, with and without a new array -/
section LA
variable {l : Launch} {G : mm_G} {K : Option mm_V → mm_M → Prop} {M : mm_M} {L e : Nat} {es : List Nat}
/-- what a write at the end makes of a list -/
theorem al_push {v : Nat} {x : Int32} (h : al_L G M L e es) (hk : mm_k M e = 102) (hlt : es.length < mm_l M e) : al_L G (mm_si (mm_sp (mm_si M L 2 x) e es.length (some v)) L 1 (nI es.length + 1)) L e (es ++ [v]) := by
  have hne := h.ne
  refine ⟨h.1, ?_, ?_, ?_, fun j w hj => ?_⟩
  · rw [mm_p_si, mm_p_sp, if_neg (fun q => hne q.1.symm), mm_p_si]
    exact h.2.1
  · rw [mm_i_si, if_pos ⟨rfl, rfl⟩, nI_1]
    simp
  · rcases h.2.2.2.1 with ⟨q1, q2, q3, q4⟩ | ⟨q1, -⟩
    · exact Or.inl ⟨q1, by simp; exact hlt, q3, q4⟩
    · rw [hk] at q1
      cases q1
  · rw [mm_p_si, mm_p_sp]
    by_cases q : j < es.length
    · rw [List.getElem?_append_left q] at hj
      rw [if_neg (fun z => by omega), mm_p_si]
      exact h.2.2.2.2 j w hj
    · rw [List.getElem?_append_right (by omega)] at hj
      have hz : j - es.length < 1 := (List.getElem?_eq_some_iff.mp hj).1
      have hjl : j = es.length := by omega
      subst hjl
      rw [Nat.sub_self] at hj
      simp at hj
      subst hj
      rw [if_pos ⟨rfl, rfl⟩]
theorem al_head {x : Int32} (h : al_L G M L e es) : mm_i (mm_si M L 2 x) L 1 = nI es.length := by
  rw [mm_i_si, if_neg (fun q => by cases q.2)]
  exact h.2.2.1
theorem ct_addn {v ci : Nat} (h : al_L G M L e es) (hk : mm_k M e = 102) (hlt : es.length < mm_l M e) (hA : mm_As "java/lang/Object" ci) (hv : mm_k M v = ci + 1)
    (k : ∀ M1, al_L G M1 L e (es ++ [v]) → mm_sm M M1 (fun a => a = L ∨ a = e) → K (some (.inl 1)) M1) : mm_Ok l G yy_AL_add Y_AL_addn [.inr (some L), .inr (some v)] M K := by
  have hle := h.le
  refine sg_AL_addn ⟨h.1, ?_⟩
  rw [al_head h]
  refine sg_AL_add2n ⟨e, h.2.1, Or.inl hk, fun _ => ⟨hk, es.length, rfl, by omega, hlt, fun q hq => ?_, h.1, fun _ => ⟨rfl, ?_⟩⟩, fun q => ?_⟩
  · cases hq
    exact ⟨ci, hv, hA⟩
  · exact k _ (al_push h hk hlt) (((mm_sm.si (Or.inl rfl)).tr (mm_sm.sp (Or.inr rfl))).tr (mm_sm.si (Or.inl rfl)))
  · have hcap : mm_l M e ≤ 99 := by
      rcases h.2.2.2.1 with ⟨-, -, -, q4⟩ | ⟨q1, -⟩
      · exact q4
      · rw [hk] at q1
        cases q1
    have q' : nI es.length = nI (mm_l M e) := q
    rw [nI_eq (by omega) (by omega)] at q'
    omega
/-- a longer array with the same elements -/
theorem ct_copy {n : Nat} {ci : Nat} (hk : mm_k M e = 102) (hf : mm_fr M) (hn : n ≤ 100) (hc : mm_l M e ≤ n) (hA : mm_As "java/lang/Object" ci) (hel : ∀ i y, i < mm_l M e → mm_p M e i = some y → mm_k M y = ci + 1)
    (k : ∀ q, q = mm_z M → K (some (.inr (some q))) (mm_sf (mm_nw M 102 n) q (va_cpy (mm_p M e) (fun _ => none) 0 0 (mm_l M e)))) : mm_Ok l G yy_Ar_copyOf Y_Ar_copyOf [.inr (some e), .inl (nI n)] M K := by
  refine sg_Ar_copyOf ⟨e, rfl, hk, sg_Ar_copyOf2 ⟨fun q => absurd rfl q, fun _ => ⟨n, rfl, hn, fun q hq => ?_⟩⟩⟩
  have hez : e ≠ mm_z M := Nat.ne_of_lt (hf e (by rw [hk]; decide))
  have k1 : mm_k (mm_nw M 102 n) e = 102 := by rw [mm_k_nw, if_neg hez]; exact hk
  have l1 : mm_l (mm_nw M 102 n) e = mm_l M e := by rw [mm_l_nw, if_neg hez]
  have k2 : mm_k (mm_nw M 102 n) q = 102 := by rw [mm_k_nw, if_pos hq]
  have l2 : mm_l (mm_nw M 102 n) q = n := by rw [mm_l_nw, if_pos hq]
  have ei : (if nI n < nI (mm_l M e) then nI n else nI (mm_l M e)) = nI (mm_l M e) := if_neg (nI_nlt hc (by omega))
  refine ⟨e, rfl, Or.inl k1, 0, 0, mm_l M e, k1, k2, rfl, rfl, by rw [l1]; exact ei, by rw [l1]; omega, by rw [l2]; omega, by omega, by omega, fun i hi y hy => ?_, ?_⟩
  · rw [Nat.zero_add, mm_p_nw, if_neg hez] at hy
    have hky := hel i y hi hy
    have hyz : y ≠ mm_z M := Nat.ne_of_lt (hf y (by rw [hky]; exact Nat.succ_ne_zero _))
    exact ⟨ci, by rw [mm_k_nw, if_neg hyz]; exact hky, hA⟩
  · have e1 : mm_p (mm_nw M 102 n) e = mm_p M e := by
      funext j
      rw [mm_p_nw, if_neg hez]
    have e2 : mm_p (mm_nw M 102 n) q = fun _ => none := by
      funext j
      rw [mm_p_nw, if_pos hq]
    rw [e1, e2]
    exact fun _ => ⟨_, rfl, k q hq⟩
theorem nI_half {n : Nat} (hn : n < 2147483648) : nI n >>> ((1 : Int32) &&& 31) = nI (n / 2) := by
  have k := pk_shrN (n := n) (by omega) ((1 : Int32) &&& 31) 1 (by decide)
  rw [Nat.pow_one] at k
  exact k
/-- grow where the array is full -/
theorem ct_grow {ci : Nat} (h : al_L G M L e es) (hf : mm_fr M) (hlen : es.length ≤ 60) (hfull : es.length = mm_l M e) (hA : mm_As "java/lang/Object" ci) (hel : ∀ w, w ∈ es → mm_k M w = ci + 1)
    (k : ∀ M1 e1, al_L G M1 L e1 es → mm_k M1 e1 = 102 → es.length < mm_l M1 e1 → mm_z M ≤ e1 → mm_gr M M1 (fun a => a = L) → (∀ a, mm_k M1 a = mm_k M a ∨ mm_k M1 a = 102) → K (some (.inr (some e1))) M1) : mm_Ok l G yy_AL_grow Y_AL_grow [.inr (some L)] M K := by
  have hne := h.ne
  have hLz : L ≠ mm_z M := Nat.ne_of_lt (hf L (by rw [h.1]; decide))
  have key : ∀ (M2 : mm_M) (q n : Nat), q = mm_z M → es.length < n → 2 ≤ n → n ≤ 99 → mm_gr M M2 (fun a => a = L) → mm_k M2 q = 102 → mm_l M2 q = n → (∀ j v, es[j]? = some v → mm_p M2 q j = some v) → (∀ j, mm_i M2 L j = mm_i M L j) → (∀ a, mm_k M2 a = mm_k M a ∨ mm_k M2 a = 102) →
      K (some (.inr (some q))) (mm_sp M2 L 0 (some q)) := by
    intro M2 q n hq h1 h2 h3 hg h4 h5 h6 h7 h8
    have hqL : ¬ q = L := by rw [hq]; exact fun z => hLz z.symm
    refine k _ q ⟨?_, ?_, ?_, ?_, fun j v hj => ?_⟩ h4 (by show _ < mm_l M2 q; rw [h5]; exact h1) (Nat.le_of_eq hq.symm) (hg.tr (mm_gr.of (mm_sm.sp rfl) hg.2.1)) h8
    · show mm_k M2 L = 3
      rw [(hg.1.2.1 L (by rw [h.1]; decide)).1]
      exact h.1
    · rw [mm_p_sp, if_pos ⟨rfl, rfl⟩]
    · rw [mm_i_sp, h7]
      exact h.2.2.1
    · exact Or.inl ⟨h4, by show _ ≤ mm_l M2 q; omega, by show 2 ≤ mm_l M2 q; omega, by show mm_l M2 q ≤ 99; omega⟩
    · rw [mm_p_sp, if_neg (fun z => hqL z.1)]
      exact h6 j v hj
  refine sg_AL_grow ⟨h.1, ?_⟩
  rw [h.2.2.1, nI_1]
  rcases h.2.2.2.1 with ⟨q1, q2, q3, q4⟩ | ⟨q1, q2, q3, q4⟩
  · -- a longer array
    have e1 : nI (es.length + 1) - nI (mm_l M e) = nI 1 := by
      rw [pk_sub (by omega)]
      congr 1
      omega
    refine sg_AL_grow2 ⟨h.1, e, h.2.1, Or.inl q1, fun _ => ?_, fun z => absurd (show nI 0 < nI (mm_l M e) from nI_lt (by omega) (by omega)) z⟩
    rw [e1, nI_half (by omega)]
    have e2 : nI (mm_l M e) + (if nI 1 < nI (mm_l M e / 2) then nI (mm_l M e / 2) else nI 1) = nI (mm_l M e + mm_l M e / 2) := by
      by_cases c : 1 < mm_l M e / 2
      · rw [if_pos (nI_lt c (by omega)), nI_add]
      · rw [if_neg (nI_nlt (by omega) (by decide)), nI_add]
        congr 1
        omega
    refine sg_As_newLength ?_
    rw [e2]
    refine ⟨fun z => absurd z (nI_nle (by omega) (by omega)), fun _ => ⟨fun z => absurd z (show ¬ nI 2147483639 < nI _ from nI_nlt (by omega) (by decide)), fun _ _ => ⟨_, rfl, ?_⟩⟩⟩
    rw [h.2.1]
    refine ct_copy (ci := ci) q1 hf (by omega) (by omega) hA (fun i y hi hy => ?_) (fun q hq _ => ⟨_, rfl, fun _ => ⟨_, rfl, ?_⟩⟩)
    · obtain ⟨w, hw⟩ : ∃ w, es[i]? = some w := ⟨es[i]'(by omega), List.getElem?_eq_getElem (by omega)⟩
      have h9 := h.2.2.2.2 i w hw
      rw [h9] at hy
      have hwy : w = y := Option.some.inj hy
      rw [← hwy]
      exact hel w (List.mem_of_getElem? hw)
    · have hqf : mm_gr M (mm_sf (mm_nw M 102 (mm_l M e + mm_l M e / 2)) q (va_cpy (mm_p M e) (fun _ => none) 0 0 (mm_l M e))) (fun a => a = L) := by
        have g1 : mm_gr M (mm_nw M 102 (mm_l M e + mm_l M e / 2)) (fun a => a = L) := mm_gr.nw hf
        refine ⟨g1.1.sf, g1.2.1, fun a ha hn j => ?_⟩
        have haz : ¬ a = q := by rw [hq]; exact Nat.ne_of_lt (hf a ha)
        rw [mm_i_sf, mm_p_sf, if_neg haz]
        exact g1.2.2 a ha hn j
      refine key _ q (mm_l M e + mm_l M e / 2) hq (by omega) (by omega) (by omega) hqf (by rw [mm_k_sf, mm_k_nw, if_pos hq]) (by rw [mm_l_sf, mm_l_nw, if_pos hq]) (fun j v hj => ?_) (fun j => by rw [mm_i_sf, mm_i_nw, if_neg hLz]) (fun a => by
        rw [mm_k_sf, mm_k_nw]
        by_cases q9 : a = mm_z M
        · rw [if_pos q9]
          exact Or.inr rfl
        · rw [if_neg q9]
          exact Or.inl rfl)
      have hjl : j < es.length := (List.getElem?_eq_some_iff.mp hj).1
      rw [mm_p_sf, if_pos rfl, pk_cpy_in (by omega) (by omega), Nat.zero_add, Nat.sub_zero]
      exact h.2.2.2.2 j v hj
  · -- the first array
    subst q4
    have hl0 : ¬ (0 : Int32) < nI (mm_l M e) := by rw [q2]; decide
    refine sg_AL_grow2 ⟨h.1, e, h.2.1, Or.inr q1, fun z => absurd z hl0, fun _ => ⟨fun _ => ⟨10, by decide, by decide, fun q hq => ⟨?_, fun _ => ⟨_, rfl, ?_⟩⟩⟩, fun z => absurd (by rw [h.2.1, q3]) z⟩⟩
    · rw [mm_k_nw, if_neg hLz]
      exact h.1
    · exact key _ q 10 hq (by decide) (by decide) (by decide) (mm_gr.nw hf) (by rw [mm_k_nw, if_pos hq]) (by rw [mm_l_nw, if_pos hq]) (fun j v hj => by simp at hj) (fun j => by rw [mm_i_nw, if_neg hLz]) (fun a => by
        rw [mm_k_nw]
        by_cases q9 : a = mm_z M
        · rw [if_pos q9]
          exact Or.inr rfl
        · rw [if_neg q9]
          exact Or.inl rfl)
theorem ct_add {v ci : Nat} (h : al_L G M L e es) (hf : mm_fr M) (hlen : es.length ≤ 60) (hA : mm_As "java/lang/Object" ci) (hv : mm_k M v = ci + 1) (hel : ∀ w, w ∈ es → mm_k M w = ci + 1)
    (k : ∀ M1 e1, al_L G M1 L e1 (es ++ [v]) → mm_gr M M1 (fun a => a = L ∨ (a = e ∧ mm_k M e = 102)) → (e1 = e ∨ (mm_z M ≤ e1 ∧ mm_k M1 e1 = 102)) → (∀ a, mm_k M1 a = mm_k M a ∨ mm_k M1 a = 102) → K (some (.inl 1)) M1) : mm_Ok l G yy_AL_add Y_AL_add [.inr (some L), .inr (some v)] M K := by
  have hle := h.le
  have hcap : mm_l M e ≤ 99 := by
    rcases h.2.2.2.1 with ⟨-, -, -, q4⟩ | ⟨-, q2, -⟩
    · exact q4
    · omega
  have hge : es.length ≤ mm_l M e := by
    rcases h.2.2.2.1 with ⟨-, q2, -⟩ | ⟨-, q2, -, q4⟩
    · exact q2
    · rw [q4]
      exact Nat.zero_le _
  refine sg_AL_add ⟨h.1, ?_⟩
  rw [al_head h]
  have hLa : al_L G (mm_si M L 2 (mm_i M L 2 + 1)) L e es := ⟨h.1, h.2.1, al_head h, h.2.2.2.1, h.2.2.2.2⟩
  have g0 : mm_gr M (mm_si M L 2 (mm_i M L 2 + 1)) (fun a => a = L ∨ (a = e ∧ mm_k M e = 102)) := mm_gr.of (mm_sm.si (Or.inl rfl)) hf
  refine sg_AL_add2 ⟨e, h.2.1, ?_, fun hc => ?_, fun hc => ?_⟩
  · rcases h.2.2.2.1 with ⟨q1, -⟩ | ⟨q1, -⟩
    · exact Or.inl q1
    · exact Or.inr q1
  · have hlt : es.length < mm_l M e := by
      rcases Nat.lt_or_ge es.length (mm_l M e) with q | q
      · exact q
      · exact absurd (show nI es.length = nI (mm_l M e) by congr 1; omega) hc
    have hk : mm_k M e = 102 := by
      rcases h.2.2.2.1 with ⟨q1, -⟩ | ⟨-, q2, -⟩
      · exact q1
      · omega
    refine ⟨hk, es.length, rfl, by omega, hlt, fun q hq => ?_, h.1, fun _ => ⟨rfl, ?_⟩⟩
    · cases hq
      exact ⟨ci, hv, hA⟩
    · exact k _ e (al_push h hk hlt) (mm_gr.of (((mm_sm.si (Or.inl rfl)).tr (mm_sm.sp (Or.inr ⟨rfl, hk⟩))).tr (mm_sm.si (Or.inl rfl))) hf) (Or.inl rfl) (fun _ => Or.inl rfl)
  · have hfull : es.length = mm_l M e := by
      have q' : nI es.length = nI (mm_l M e) := hc
      rwa [nI_eq (by omega) (by omega)] at q'
    refine ⟨h.1, ct_grow (ci := ci) hLa g0.2.1 hlen hfull hA hel (fun M1 e1 h1 h2 h3 h4 hg h8 hX => ⟨_, rfl, e1, rfl, h2, es.length, rfl, by omega, h3, fun q hq => ?_, fun _ => ⟨rfl, ?_⟩⟩)⟩
    · cases hq
      exact ⟨ci, by rw [(hg.1.2.1 v (by show mm_k M v ≠ 0; rw [hv]; exact Nat.succ_ne_zero _)).1]; exact hv, hA⟩
    · have hne1 := h1.ne
      have hp := al_push (v := v) (x := mm_i M1 L 2) h1 h2 h3
      have eM : mm_si M1 L 2 (mm_i M1 L 2) = M1 := by
        unfold mm_si mm_i
        congr 3
        funext b k'
        by_cases q : b = L ∧ k' = 2
        · rw [if_pos q, q.1, q.2]
        · rw [if_neg q]
      rw [eM] at hp
      have g1 : mm_gr M M1 (fun a => a = L ∨ (a = e ∧ mm_k M e = 102)) := g0.tr (hg.mono (fun _ q => Or.inl q))
      refine k _ e1 hp ⟨g1.1.sp.si, (mm_sm.tr (mm_sm.sp (S := fun _ => True) trivial) (mm_sm.si (S := fun _ => True) trivial)).fr g1.2.1, fun a ha hn j => ?_⟩ (Or.inr ⟨h4, h2⟩) h8
      have hae : ¬ a = e1 := by
        intro q
        have h9 := hf a ha
        have h10 : mm_z M ≤ e1 := h4
        omega
      rw [mm_i_si, if_neg (fun q => hn (Or.inl q.1)), mm_i_sp, mm_p_si, mm_p_sp, if_neg (fun q => hae q.1)]
      exact g1.2.2 a ha hn j
end LA
