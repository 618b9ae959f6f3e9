/-! THE STORE: its two lists, and what its methods make of them -/
/-- other ints -/
def mm_mi (M : mm_M) (f : Nat → Nat → Int32) : mm_M := (M.1, M.2.1, f, M.2.2.2.1, M.2.2.2.2)
theorem mm_k_mi (M : mm_M) (f : Nat → Nat → Int32) (a : Nat) : mm_k (mm_mi M f) a = mm_k M a := rfl
theorem mm_l_mi (M : mm_M) (f : Nat → Nat → Int32) (a : Nat) : mm_l (mm_mi M f) a = mm_l M a := rfl
theorem mm_i_mi (M : mm_M) (f : Nat → Nat → Int32) (a j : Nat) : mm_i (mm_mi M f) a j = f a j := rfl
theorem mm_p_mi (M : mm_M) (f : Nat → Nat → Int32) (a j : Nat) : mm_p (mm_mi M f) a j = mm_p M a j := rfl
theorem mm_z_mi (M : mm_M) (f : Nat → Nat → Int32) : mm_z (mm_mi M f) = mm_z M := rfl
theorem mm_mi_rf (M : mm_M) : mm_mi M (mm_i M) = M := rfl
theorem mm_mi_si (M : mm_M) (f : Nat → Nat → Int32) (a j : Nat) (x : Int32) : mm_si (mm_mi M f) a j x = mm_mi M (fun b k => if b = a ∧ k = j then x else f b k) := rfl
theorem mm_mi_mi (M : mm_M) (f g : Nat → Nat → Int32) : mm_mi (mm_mi M f) g = mm_mi M g := rfl
theorem oo_h_mi (M : mm_M) (f : Nat → Nat → Int32) (a : Nat) : oo_h (mm_mi M f) a = f (oo_g M a) 0 := rfl
theorem mm_si_si (M : mm_M) (a j : Nat) (x y : Int32) : mm_si (mm_si M a j x) a j y = mm_si M a j y := by
  have e : (fun b k => if b = a ∧ k = j then y else if b = a ∧ k = j then x else M.2.2.1 b k) = fun b k => if b = a ∧ k = j then y else M.2.2.1 b k := by
    funext b k
    by_cases h : b = a ∧ k = j
    · rw [if_pos h, if_pos h]
    · rw [if_neg h, if_neg h, if_neg h]
  show (M.1, M.2.1, (fun b k => if b = a ∧ k = j then y else if b = a ∧ k = j then x else M.2.2.1 b k), M.2.2.2.1, M.2.2.2.2) = (M.1, M.2.1, (fun b k => if b = a ∧ k = j then y else M.2.2.1 b k), M.2.2.2.1, M.2.2.2.2)
  rw [e]
theorem mm_i_ss (M : mm_M) (a j : Nat) (x : Int32) : mm_i (mm_si M a j x) a j = x := by rw [mm_i_si, if_pos ⟨rfl, rfl⟩]
theorem nd_take {gs : List Nat} {i a : Nat} (hn : gs.Nodup) (hi : gs[i]? = some a) : a ∉ gs.take i := by
  have h := List.take_append_drop i gs
  rw [dr_s hi] at h
  rw [← h, List.nodup_append] at hn
  exact fun q => hn.2.2 a q a List.mem_cons_self rfl
/-- the store's two lists -/
def me_W (G : mm_G) (M : mm_M) (am LP LO eP eO : Nat) (gs xs : List Nat) : Prop :=
  mm_fr M ∧ ti_T M ∧ mm_k M am = 2 ∧ mm_p M am 0 = some LP ∧ mm_p M am 1 = some LO ∧ al_L G M LP eP gs ∧ al_L G M LO eO xs ∧ LP ≠ LO ∧ (eP = eO → mm_k M eP = 105) ∧ (∀ g, g ∈ gs → mm_k M g = 7) ∧ (∀ a, a ∈ xs → mm_k M a = 8) ∧ gs.Nodup ∧ xs.Nodup
theorem ti_T.mi {M : mm_M} (h : ti_T M) (f : Nat → Nat → Int32) : ti_T (mm_mi M f) := h
theorem al_L.mi {G : mm_G} {M : mm_M} {L e : Nat} {es : List Nat} (h : al_L G M L e es) {f : Nat → Nat → Int32} (hf : f L 1 = mm_i M L 1) : al_L G (mm_mi M f) L e es := ⟨h.1, h.2.1, by rw [mm_i_mi, hf]; exact h.2.2.1, h.2.2.2.1, h.2.2.2.2⟩
theorem me_W.mi {G : mm_G} {M : mm_M} {am LP LO eP eO : Nat} {gs xs : List Nat} (h : me_W G M am LP LO eP eO gs xs) {f : Nat → Nat → Int32} (hf : ∀ a, mm_k M a = 3 → f a 1 = mm_i M a 1) : me_W G (mm_mi M f) am LP LO eP eO gs xs := by
  obtain ⟨h1, h2, h3, h4, h5, h6, h7, h8, h9, h10, h11, h12, h13⟩ := h
  exact ⟨h1, h2.mi f, h3, h4, h5, h6.mi (hf _ h6.1), h7.mi (hf _ h7.1), h8, h9, h10, h11, h12, h13⟩
section ME
variable {l : Launch} {G : mm_G} {K : Option mm_V → mm_M → Prop} {M : mm_M} {am LP LO eP eO : Nat} {gs xs : List Nat}
theorem ct_endSingle {h : Int32} (hW : me_W G M am LP LO eP eO gs xs) (k : K none (mm_mi M (fun a j => if j = 1 ∧ a ∈ gs ∧ mm_i M a 0 = h then -1 else mm_i M a j))) : mm_Ok l G yy_Me_endSinglePayment Y_Me_endSinglePayment [.inr (some am), .inl h] M K := by
  have hle := hW.2.2.2.2.2.1.le
  refine sg_Me_endSinglePayment ?_
  have key := lp_from (gs := gs) (P := fun i => mm_Z l G Y_Me_endSinglePayment K M 0 0 2 [some (.inr (some am)), some (.inl h), some (.inl (nI i)), none] [] (mm_mi M (fun a j => if j = 1 ∧ a ∈ gs.take i ∧ mm_i M a 0 = h then -1 else mm_i M a j))) ?_ ?_ 0 (Nat.zero_le _)
  · have e : (fun a j => if j = 1 ∧ a ∈ gs.take 0 ∧ mm_i M a 0 = h then (-1 : Int32) else mm_i M a j) = mm_i M := by
      funext a j
      simp
    rw [e, nI_0, mm_mi_rf] at key
    exact key
  · have hW1 := hW.mi (f := fun a j => if j = 1 ∧ a ∈ gs.take gs.length ∧ mm_i M a 0 = h then -1 else mm_i M a j) (fun a ha => if_neg (fun z => by have := hW.2.2.2.2.2.2.2.2.2.1 a (List.mem_of_mem_take z.2.1); omega))
    refine sg_Me_endSinglePayment_2 ⟨hW1.2.2.1, LP, hW1.2.2.2.1, hW1.2.2.2.2.2.1.1, ct_size hW1.2.2.2.2.2.1 (fun _ => ⟨_, rfl, fun _ => ?_, fun hc => absurd (nI_le (Nat.le_refl _) (by omega)) hc⟩)⟩
    rw [List.take_length]
    exact k
  · intro i g hi ih
    have hil : i < gs.length := (List.getElem?_eq_some_iff.mp hi).1
    have hg := hW.2.2.2.2.2.2.2.2.2.1 g (List.mem_of_getElem? hi)
    have hW1 := hW.mi (f := fun a j => if j = 1 ∧ a ∈ gs.take i ∧ mm_i M a 0 = h then -1 else mm_i M a j) (fun a ha => if_neg (fun z => by have := hW.2.2.2.2.2.2.2.2.2.1 a (List.mem_of_mem_take z.2.1); omega))
    refine sg_Me_endSinglePayment_2 ⟨hW1.2.2.1, LP, hW1.2.2.2.1, hW1.2.2.2.2.2.1.1, ct_size hW1.2.2.2.2.2.1 (fun _ => ⟨_, rfl, fun hc => absurd hc (nI_ge hil (by omega)), fun _ => ⟨LP, hW1.2.2.2.1, hW1.2.2.2.2.2.1.1, ct_get hW1.2.2.2.2.2.1 hi (fun _ => ⟨_, rfl, fun q hq => by cases hq; exact hg, g, rfl, hg, fun hc => ?_, fun hc => ?_⟩)⟩⟩)⟩
    · have hc' : ¬ mm_i M g 0 = h := hc
      have e : (fun a j => if j = 1 ∧ a ∈ gs.take (i + 1) ∧ mm_i M a 0 = h then (-1 : Int32) else mm_i M a j) = fun a j => if j = 1 ∧ a ∈ gs.take i ∧ mm_i M a 0 = h then (-1 : Int32) else mm_i M a j := by
        funext a j
        rw [tk_s hi]
        by_cases q : a = g
        · subst q
          simp [hc']
        · simp [q]
      rw [e] at ih
      rw [nI_1]
      exact ih
    · have hc' : mm_i M g 0 = h := hc
      have e : (fun a j => if j = 1 ∧ a ∈ gs.take (i + 1) ∧ mm_i M a 0 = h then (-1 : Int32) else mm_i M a j) = fun b k => if b = g ∧ k = 1 then (-1 : Int32) else (fun a j => if j = 1 ∧ a ∈ gs.take i ∧ mm_i M a 0 = h then (-1 : Int32) else mm_i M a j) b k := by
        funext a j
        rw [tk_s hi]
        by_cases q : a = g
        · subst q
          by_cases w : j = 1 <;> simp [hc', w]
        · simp [q]
      rw [e] at ih
      rw [nI_1, mm_mi_si]
      exact ih
/-- what an object's items become when the process d is merged -/
def hd_i (M : mm_M) (d a : Nat) : Int32 :=
  if oo_h M a = 8 then (mm_i M a 5 &&& (((1 : Int32) <<< (nI 8 &&& 31)) ^^^ (-1))) &&& (((1 : Int32) <<< (nI d &&& 31)) ^^^ (-1))
  else if bb_t (mm_i M a 5) d = true then (mm_i M a 5 ||| ((1 : Int32) <<< (nI 8 &&& 31))) &&& (((1 : Int32) <<< (nI d &&& 31)) ^^^ (-1))
  else mm_i M a 5 &&& (((1 : Int32) <<< (nI d &&& 31)) ^^^ (-1))
theorem ct_handItems {d : Nat} (hd : d < 32) (hW : me_W G M am LP LO eP eO gs xs) (k : K none (mm_mi M (fun a j => if j = 5 ∧ a ∈ xs then hd_i M d a else mm_i M a j))) : mm_Ok l G yy_Me_handItemsToKernel Y_Me_handItemsToKernel [.inr (some am), .inl (nI d)] M K := by
  have hle := hW.2.2.2.2.2.2.1.le
  have hnd := hW.2.2.2.2.2.2.2.2.2.2.2.2
  have hx8 := hW.2.2.2.2.2.2.2.2.2.2.1
  refine sg_Me_handItemsToKernel ?_
  have hWi : ∀ i, me_W G (mm_mi M (fun a j => if j = 5 ∧ a ∈ xs.take i then hd_i M d a else mm_i M a j)) am LP LO eP eO gs xs := fun i => hW.mi (fun a ha => if_neg (fun z => by cases z.1))
  have key := lp_from (gs := xs) (P := fun i => mm_Z l G Y_Me_handItemsToKernel K M 0 0 2 [some (.inr (some am)), some (.inl (nI d)), some (.inl (nI i)), none] [] (mm_mi M (fun a j => if j = 5 ∧ a ∈ xs.take i then hd_i M d a else mm_i M a j))) ?_ ?_ 0 (Nat.zero_le _)
  · have e : (fun a j => if j = 5 ∧ a ∈ xs.take 0 then hd_i M d a else mm_i M a j) = mm_i M := by
      funext a j
      simp
    rw [e, nI_0, mm_mi_rf] at key
    exact key
  · have hW1 := hWi xs.length
    refine sg_Me_handItemsToKernel_2 ⟨hW1.2.2.1, LO, hW1.2.2.2.2.1, hW1.2.2.2.2.2.2.1.1, ct_size hW1.2.2.2.2.2.2.1 (fun _ => ⟨_, rfl, fun _ => ?_, fun hc => absurd (nI_le (Nat.le_refl _) (by omega)) hc⟩)⟩
    rw [List.take_length]
    exact k
  · intro i a hi ih
    have hil : i < xs.length := (List.getElem?_eq_some_iff.mp hi).1
    have ha := hx8 a (List.mem_of_getElem? hi)
    have hW1 := hWi i
    have hO := hW1.2.1.1 a ha
    have hni : a ∉ xs.take i := nd_take hnd hi
    have e5 : mm_i (mm_mi M (fun a j => if j = 5 ∧ a ∈ xs.take i then hd_i M d a else mm_i M a j)) a 5 = mm_i M a 5 := by
      rw [mm_i_mi, if_neg (fun z => hni z.2)]
    have eh : oo_h (mm_mi M (fun a j => if j = 5 ∧ a ∈ xs.take i then hd_i M d a else mm_i M a j)) a = oo_h M a := by
      rw [oo_h_mi, if_neg (fun z => by cases z.1)]
      rfl
    have fin : ∀ x : Int32, x = hd_i M d a → mm_Z l G Y_Me_handItemsToKernel K M 0 0 2 [some (.inr (some am)), some (.inl (nI d)), some (.inl (nI i + 1)), none] [] (mm_mi M (fun b k => if b = a ∧ k = 5 then x else if k = 5 ∧ b ∈ xs.take i then hd_i M d b else mm_i M b k)) := by
      intro x hx
      have e : (fun a j => if j = 5 ∧ a ∈ xs.take (i + 1) then hd_i M d a else mm_i M a j) = fun b k => if b = a ∧ k = 5 then x else if k = 5 ∧ b ∈ xs.take i then hd_i M d b else mm_i M b k := by
        funext b j
        rw [tk_s hi, hx]
        by_cases q : b = a
        · subst q
          by_cases w : j = 5 <;> simp [w]
        · simp [q]
      rw [e] at ih
      rw [nI_1]
      exact ih
    refine sg_Me_handItemsToKernel_2 ⟨hW1.2.2.1, LO, hW1.2.2.2.2.1, hW1.2.2.2.2.2.2.1.1, ct_size hW1.2.2.2.2.2.2.1 (fun _ => ⟨_, rfl, fun hc => absurd hc (nI_ge hil (by omega)), fun _ => ⟨LO, hW1.2.2.2.2.1, hW1.2.2.2.2.2.2.1.1, ct_get hW1.2.2.2.2.2.2.1 hi (fun _ => ⟨_, rfl, fun q hq => by cases hq; exact ha, a, rfl, ha, ct_heap hO (fun _ => ⟨_, rfl, fun hc => ct_hasItem ha hd (fun _ => ⟨_, rfl, fun hc2 => ?_, fun hc2 => ?_⟩), fun hc => ?_⟩)⟩)⟩⟩)⟩
    · rw [eh] at hc
      rw [e5] at hc2
      have hb : ¬ bb_t (mm_i M a 5) d = true := fun z => by rw [if_pos z] at hc2; exact absurd hc2 (by decide)
      refine ct_dropItem ha (fun _ => ⟨rfl, ?_⟩)
      rw [e5]
      exact fin _ (by unfold hd_i; rw [if_neg hc, if_neg hb])
    · rw [eh] at hc
      rw [e5] at hc2
      have hb : bb_t (mm_i M a 5) d = true := by
        by_cases z : bb_t (mm_i M a 5) d = true
        · exact z
        · rw [if_neg z] at hc2
          exact absurd rfl hc2
      refine ct_addItem (i := 8) ha (fun _ => ⟨rfl, ct_dropItem ha (fun _ => ⟨rfl, ?_⟩)⟩)
      rw [mm_i_ss, mm_si_si, e5]
      exact fin _ (by unfold hd_i; rw [if_neg hc, if_pos hb])
    · rw [eh] at hc
      refine ct_dropItem (i := 8) ha (fun _ => ⟨rfl, ct_dropItem ha (fun _ => ⟨rfl, ?_⟩)⟩)
      rw [mm_i_ss, mm_si_si, e5]
      exact fin _ (by unfold hd_i; rw [if_pos hc])
end ME
