/-! LISTS: an ArrayList at L with its array at e holds es; its methods' contracts -/
def al_L (G : mm_G) (M : mm_M) (L e : Nat) (es : List Nat) : Prop :=
  mm_k M L = 3 ∧ mm_p M L 0 = some e ∧ mm_i M L 1 = nI es.length ∧ ((mm_k M e = 102 ∧ es.length ≤ mm_l M e ∧ 2 ≤ mm_l M e ∧ mm_l M e ≤ 99) ∨ (mm_k M e = 105 ∧ mm_l M e = 0 ∧ e = G.2.2.2.1 ∧ es = [])) ∧ ∀ j v, es[j]? = some v → mm_p M e j = some v
theorem al_L.le {G : mm_G} {M : mm_M} {L e : Nat} {es : List Nat} (h : al_L G M L e es) : es.length ≤ 99 := by
  rcases h.2.2.2.1 with ⟨-, h1, -, h2⟩ | ⟨-, -, -, h1⟩
  · omega
  · rw [h1]
    decide
theorem al_L.arr {G : mm_G} {M : mm_M} {L e : Nat} {es : List Nat} (h : al_L G M L e es) {i v : Nat} (hi : es[i]? = some v) : mm_k M e = 102 ∧ es.length ≤ mm_l M e ∧ i < es.length := by
  have hl : i < es.length := (List.getElem?_eq_some_iff.mp hi).1
  rcases h.2.2.2.1 with ⟨h1, h2, -, -⟩ | ⟨-, -, -, h1⟩
  · exact ⟨h1, h2, hl⟩
  · subst h1
    simp at hl
theorem al_L.ne {G : mm_G} {M : mm_M} {L e : Nat} {es : List Nat} (h : al_L G M L e es) : e ≠ L := by
  intro q
  subst q
  rcases h.2.2.2.1 with ⟨h1, -⟩ | ⟨h1, -⟩ <;> rw [h.1] at h1 <;> simp at h1
theorem al_L.keep {G : mm_G} {M M1 : mm_M} {L e : Nat} {es : List Nat} (h : al_L G M L e es) {S : Nat → Prop} (hs : mm_gr M M1 S) (h1 : ¬ S L) (h2 : ¬ S e) : al_L G M1 L e es := by
  have kL : mm_k M L ≠ 0 := by rw [h.1]; decide
  have ke : mm_k M e ≠ 0 := by rcases h.2.2.2.1 with ⟨q, -⟩ | ⟨q, -⟩ <;> rw [q] <;> decide
  have a1 := hs.1.2.1 L kL
  have a2 := hs.1.2.1 e ke
  refine ⟨a1.1.trans h.1, (hs.2.2 L kL h1 0).2.trans h.2.1, (hs.2.2 L kL h1 1).1.trans h.2.2.1, ?_, fun j v hj => (hs.2.2 e ke h2 j).2.trans (h.2.2.2.2 j v hj)⟩
  rw [a2.1, a2.2]
  exact h.2.2.2.1
section LI
variable {l : Launch} {G : mm_G} {K : Option mm_V → mm_M → Prop} {M : mm_M} {L e : Nat} {es : List Nat}
theorem ct_size (h : al_L G M L e es) (k : K (some (.inl (nI es.length))) M) : mm_Ok l G yy_AL_size Y_AL_size [.inr (some L)] M K :=
  sg_AL_size ⟨h.1, by rw [h.2.2.1]; exact k⟩
theorem ct_check {i n : Nat} (h : i < n) (hn : n < 2147483648) (k : K (some (.inl (nI i))) M) : mm_Ok l G yy_Os_checkIndex Y_Os_checkIndex [.inl (nI i), .inl (nI n)] M K :=
  sg_Os_checkIndex (sg_Pc_checkIndex ⟨fun q => absurd q (nI_pos (by omega)), fun _ => ⟨fun _ _ => ⟨_, rfl, k⟩, fun q => absurd (nI_lt h hn) q⟩⟩)
theorem ct_get {i v : Nat} (h : al_L G M L e es) (hi : es[i]? = some v) (k : K (some (.inr (some v))) M) : mm_Ok l G yy_AL_get Y_AL_get [.inr (some L), .inl (nI i)] M K := by
  obtain ⟨h1, h2, h3⟩ := h.arr hi
  have hle := h.le
  refine sg_AL_get ⟨h.1, ?_⟩
  rw [h.2.2.1]
  refine ct_check h3 (by omega) (fun _ => ⟨_, rfl, ?_⟩)
  refine sg_AL_elementData ⟨h.1, e, h.2.1, h1, i, rfl, by omega, by omega, ?_⟩
  rw [h.2.2.2.2 i v hi]
  exact fun _ => ⟨_, rfl, k⟩
theorem nI_sub1 {n : Nat} (h : 0 < n) : nI n - 1 = nI (n - 1) := by
  obtain ⟨m, rfl⟩ : ∃ m, n = m + 1 := ⟨n - 1, by omega⟩
  exact nI_pred m
theorem ct_remove {i v ci : Nat} (h : al_L G M L e es) (hf : mm_fr M) (hi : es[i]? = some v) (hA : mm_As "java/lang/Object" ci) (hel : ∀ w, w ∈ es → mm_k M w = ci + 1)
    (k : ∀ M1, al_L G M1 L e (es.eraseIdx i) → mm_sm M M1 (fun a => a = L ∨ a = e) → K (some (.inr (some v))) M1) : mm_Ok l G yy_AL_remove Y_AL_remove [.inr (some L), .inl (nI i)] M K := by
  obtain ⟨h1, h2, h3⟩ := h.arr hi
  have hle := h.le
  have hne := h.ne
  refine sg_AL_remove ⟨h.1, ?_⟩
  rw [h.2.2.1]
  refine ct_check h3 (by omega) (fun _ => ⟨_, rfl, e, h.2.1, h1, i, rfl, by omega, by omega, ?_⟩)
  rw [h.2.1, h.2.2.2.2 i v hi]
  refine sg_AL_fastRemove ⟨h.1, ?_⟩
  have e1 : mm_i (mm_si M L 2 (mm_i M L 2 + 1)) L 1 - 1 = nI (es.length - 1) := by
    rw [mm_i_si, if_neg (fun q => by cases q.2), h.2.2.1]
    exact nI_sub1 (by omega)
  rw [e1]
  have hlen : (es.eraseIdx i).length = es.length - 1 := List.length_eraseIdx_of_lt h3
  constructor
  · intro hc
    have hi2 : es.length - 1 ≤ i := by
      rcases Nat.lt_or_ge i (es.length - 1) with q | q
      · exact absurd hc (nI_ge q (by omega))
      · exact q
    refine ⟨e, rfl, h1, es.length - 1, rfl, by omega, by show _ < mm_l M e; omega, fun _ => ⟨rfl, ?_⟩⟩
    refine k _ ⟨h.1, ?_, ?_, ?_, ?_⟩ (((mm_sm.si (Or.inl rfl)).tr (mm_sm.si (Or.inl rfl))).tr (mm_sm.sp (Or.inr rfl)))
    · rw [mm_p_sp, if_neg (fun q => hne q.1.symm)]
      exact h.2.1
    · rw [mm_i_sp, mm_i_si, if_pos ⟨rfl, rfl⟩, hlen]
    · rcases h.2.2.2.1 with ⟨q1, q2, q3, q4⟩ | ⟨q1, -⟩
      · exact Or.inl ⟨q1, by rw [hlen]; show _ ≤ mm_l M e; omega, q3, q4⟩
      · rw [h1] at q1
        cases q1
    · intro j w hj
      rw [List.getElem?_eraseIdx] at hj
      have hjl : j < es.length - 1 := by
        by_cases q : j < i
        · omega
        · rw [if_neg q] at hj
          have := (List.getElem?_eq_some_iff.mp hj).1
          omega
      rw [if_pos (by omega)] at hj
      rw [mm_p_sp, if_neg (fun q => by omega)]
      exact h.2.2.2.2 j w hj
  · intro hc
    have hi2 : i < es.length - 1 := by
      rcases Nat.lt_or_ge i (es.length - 1) with q | q
      · exact q
      · exact absurd (nI_le q (by omega)) hc
    have e2 : nI (es.length - 1) - nI i = nI (es.length - 1 - i) := pk_sub (by omega)
    refine ⟨e, rfl, i + 1, i, es.length - 1 - i, h1, h1, nI_1 i, rfl, e2, by show _ ≤ mm_l M e; omega, by show _ ≤ mm_l M e; omega, by omega, by omega, ?_, ?_⟩
    · intro q hq y hy
      obtain ⟨w, hw⟩ : ∃ w, es[i + 1 + q]? = some w := ⟨es[i + 1 + q]'(by omega), List.getElem?_eq_getElem (by omega)⟩
      have h9 := h.2.2.2.2 _ w hw
      have hy' : mm_p M e (i + 1 + q) = some y := hy
      rw [h9] at hy'
      have hwy : w = y := Option.some.inj hy'
      rw [← hwy]
      exact ⟨ci, hel w (List.mem_of_getElem? hw), hA⟩
    · refine ⟨h1, es.length - 1, rfl, by omega, by show _ < mm_l M e; omega, fun _ => ⟨rfl, ?_⟩⟩
      refine k _ ⟨h.1, ?_, ?_, ?_, ?_⟩ ((((mm_sm.si (Or.inl rfl)).tr (mm_sm.sf (Or.inr rfl))).tr (mm_sm.si (Or.inl rfl))).tr (mm_sm.sp (Or.inr rfl)))
      · rw [mm_p_sp, if_neg (fun q => hne q.1.symm), mm_p_si, mm_p_sf, if_neg (fun q => hne q.symm)]
        exact h.2.1
      · rw [mm_i_sp, mm_i_si, if_pos ⟨rfl, rfl⟩, hlen]
      · rcases h.2.2.2.1 with ⟨q1, q2, q3, q4⟩ | ⟨q1, -⟩
        · exact Or.inl ⟨q1, by rw [hlen]; show _ ≤ mm_l M e; omega, q3, q4⟩
        · rw [h1] at q1
          cases q1
      · intro j w hj
        rw [List.getElem?_eraseIdx] at hj
        have hjl : j < es.length - 1 := by
          by_cases q : j < i
          · omega
          · rw [if_neg q] at hj
            have := (List.getElem?_eq_some_iff.mp hj).1
            omega
        rw [mm_p_sp, if_neg (fun q => by omega), mm_p_si, mm_p_sf, if_pos rfl]
        by_cases q : j < i
        · rw [if_pos q] at hj
          rw [pk_cpy_out (Or.inl q)]
          exact h.2.2.2.2 j w hj
        · rw [if_neg q] at hj
          rw [pk_cpy_in (by omega) (by omega), show i + 1 + (j - i) = j + 1 by omega]
          exact h.2.2.2.2 (j + 1) w hj
end LI
