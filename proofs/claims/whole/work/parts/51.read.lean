/-! WHAT IS READ OF THE LISTS -/
section RD
variable {l : Launch} {G : mm_G} {K : Option mm_V → mm_M → Prop} {M : mm_M} {am q L e : Nat} {xs gs : List Nat}
theorem ct_countObjects {h : Int32} (hm : mm_k M am = 2) (hp : mm_p M am 1 = some L) (hL : al_L G M L e xs) (hk : ∀ a, a ∈ xs → ti_O M a)
    (k : K (some (.inl (nI (xs.countP (fun a => decide (oo_h M a = h)))))) M) : mm_Ok l G yy_Me_countObjects Y_Me_countObjects [.inr (some am), .inl h] M K := by
  have hle := hL.le
  refine sg_Me_countObjects ?_
  have key := lp_list (gs := xs) (P := fun i => mm_Z l G Y_Me_countObjects K M 0 0 4 [some (.inr (some am)), some (.inl h), some (.inl (nI ((xs.take i).countP (fun a => decide (oo_h M a = h))))), some (.inl (nI i))] [] M) ?_ ?_
  · simp only [List.take_zero, List.countP_nil, nI_0] at key
    exact key
  · refine sg_Me_countObjects_4 ⟨hm, L, hp, hL.1, ct_size hL (fun _ => ⟨_, rfl, fun _ => ?_, fun hc => absurd (nI_le (Nat.le_refl _) (by omega)) hc⟩)⟩
    rw [List.take_length]
    exact k
  · intro i a hi ih
    have hil : i < xs.length := (List.getElem?_eq_some_iff.mp hi).1
    have ha := hk a (List.mem_of_getElem? hi)
    rw [tk_count hi] at ih
    refine sg_Me_countObjects_4 ⟨hm, L, hp, hL.1, ct_size hL (fun _ => ⟨_, rfl, fun hc => absurd hc (nI_ge hil (by omega)), fun _ => ⟨L, hp, hL.1, ct_get hL hi (fun _ => ⟨_, rfl, fun q hq => by cases hq; exact ha.1, a, rfl, ha.1, ct_heap ha (fun _ => ⟨_, rfl, fun hc => ?_, fun hc => ?_⟩)⟩)⟩⟩)⟩
    · rw [if_neg (by simpa using hc), Nat.add_zero] at ih
      rw [nI_1]
      exact ih
    · rw [if_pos (by simpa using hc)] at ih
      rw [nI_1, nI_1]
      exact ih
theorem ct_countItems {h : Nat} (hh : h < 32) (hm : mm_k M am = 2) (hp : mm_p M am 1 = some L) (hL : al_L G M L e xs) (hk : ∀ a, a ∈ xs → ti_O M a)
    (k : K (some (.inl (nI (xs.countP (fun a => bb_t (mm_i M a 5) h))))) M) : mm_Ok l G yy_Me_countItems Y_Me_countItems [.inr (some am), .inl (nI h)] M K := by
  have hle := hL.le
  refine sg_Me_countItems ?_
  have key := lp_list (gs := xs) (P := fun i => mm_Z l G Y_Me_countItems K M 0 0 4 [some (.inr (some am)), some (.inl (nI h)), some (.inl (nI ((xs.take i).countP (fun a => bb_t (mm_i M a 5) h)))), some (.inl (nI i))] [] M) ?_ ?_
  · simp only [List.take_zero, List.countP_nil, nI_0] at key
    exact key
  · refine sg_Me_countItems_4 ⟨hm, L, hp, hL.1, ct_size hL (fun _ => ⟨_, rfl, fun _ => ?_, fun hc => absurd (nI_le (Nat.le_refl _) (by omega)) hc⟩)⟩
    rw [List.take_length]
    exact k
  · intro i a hi ih
    have hil : i < xs.length := (List.getElem?_eq_some_iff.mp hi).1
    have ha := hk a (List.mem_of_getElem? hi)
    rw [tk_count hi] at ih
    refine sg_Me_countItems_4 ⟨hm, L, hp, hL.1, ct_size hL (fun _ => ⟨_, rfl, fun hc => absurd hc (nI_ge hil (by omega)), fun _ => ⟨L, hp, hL.1, ct_get hL hi (fun _ => ⟨_, rfl, fun q hq => by cases hq; exact ha.1, a, rfl, ha.1, ct_hasItem ha.1 hh (fun _ => ⟨_, rfl, fun hc => ?_, fun hc => ?_⟩)⟩)⟩⟩)⟩
    · have hb : ¬ bb_t (mm_i M a 5) h = true := fun z => by rw [if_pos z] at hc; exact absurd hc (by decide)
      rw [if_neg hb, Nat.add_zero] at ih
      rw [nI_1]
      exact ih
    · have hb : bb_t (mm_i M a 5) h = true := by
        by_cases z : bb_t (mm_i M a 5) h = true
        · exact z
        · rw [if_neg z] at hc
          exact absurd rfl hc
      rw [if_pos hb] at ih
      rw [nI_1, nI_1]
      exact ih
/-- the places behind place i -/
theorem lp_from {gs : List Nat} {P : Nat → Prop} (he : P gs.length) (hs : ∀ i g, gs[i]? = some g → P (i + 1) → P i) : ∀ i, i ≤ gs.length → P i := by
  intro i hi
  have key : ∀ n i, gs.length - i = n → i ≤ gs.length → P i := by
    intro n
    induction n with
    | zero =>
      intro i h1 h2
      have : i = gs.length := by omega
      subst this
      exact he
    | succ n ih =>
      intro i h1 h2
      exact hs i (gs[i]'(by omega)) (List.getElem?_eq_getElem (by omega)) (ih (i + 1) (by omega) (by omega))
  exact key _ i rfl hi
theorem dr_s {gs : List Nat} {i g : Nat} (h : gs[i]? = some g) : gs.drop i = g :: gs.drop (i + 1) := by
  have hl : i < gs.length := (List.getElem?_eq_some_iff.mp h).1
  rw [List.drop_eq_getElem_cons hl]
  congr 1
  exact (List.getElem?_eq_some_iff.mp h).2
theorem ct_hasItemInto {h t : Nat} (hh : h < 32) (hm : mm_k M am = 2) (hp : mm_p M am 1 = some L) (hL : al_L G M L e xs) (hk : ∀ a, a ∈ xs → ti_O M a)
    (k : K (some (.inl (if xs.any (fun a => decide (oo_h M a = nI t) && bb_t (mm_i M a 5) h) = true then 1 else 0))) M) : mm_Ok l G yy_Me_hasItemInto Y_Me_hasItemInto [.inr (some am), .inl (nI h), .inl (nI t)] M K := by
  have hle := hL.le
  refine sg_Me_hasItemInto ?_
  have key := lp_from (gs := xs) (P := fun i => K (some (.inl (if (xs.drop i).any (fun a => decide (oo_h M a = nI t) && bb_t (mm_i M a 5) h) = true then 1 else 0))) M → mm_Z l G Y_Me_hasItemInto K M 0 0 2 [some (.inr (some am)), some (.inl (nI h)), some (.inl (nI t)), some (.inl (nI i)), none] [] M) ?_ ?_ 0 (Nat.zero_le _)
  · have k1 := key k
    rw [nI_0] at k1
    exact k1
  · intro k1
    rw [List.drop_length] at k1
    exact sg_Me_hasItemInto_2 ⟨hm, L, hp, hL.1, ct_size hL (fun _ => ⟨_, rfl, fun _ => k1, fun hc => absurd (nI_le (Nat.le_refl _) (by omega)) hc⟩)⟩
  · intro i a hi ih k1
    have hil : i < xs.length := (List.getElem?_eq_some_iff.mp hi).1
    have ha := hk a (List.mem_of_getElem? hi)
    rw [dr_s hi, List.any_cons] at k1
    refine sg_Me_hasItemInto_2 ⟨hm, L, hp, hL.1, ct_size hL (fun _ => ⟨_, rfl, fun hc => absurd hc (nI_ge hil (by omega)), fun _ => ⟨L, hp, hL.1, ct_get hL hi (fun _ => ⟨_, rfl, fun q hq => by cases hq; exact ha.1, a, rfl, ha.1, ct_heap ha (fun _ => ⟨_, rfl, fun hc => ?_, fun hc => ?_⟩)⟩)⟩⟩)⟩
    · rw [decide_eq_false hc, Bool.false_and, Bool.false_or] at k1
      have z := ih k1
      rw [nI_1]
      exact z
    · rw [decide_eq_true hc, Bool.true_and] at k1
      refine ct_hasItem ha.1 hh (fun _ => ⟨_, rfl, fun hc2 => ?_, fun hc2 => ?_⟩)
      · have hb : bb_t (mm_i M a 5) h = false := by
          cases z : bb_t (mm_i M a 5) h with
          | false => rfl
          | true => rw [if_pos z] at hc2; exact absurd hc2 (by decide)
        rw [hb, Bool.false_or] at k1
        have z := ih k1
        rw [nI_1]
        exact z
      · have hb : bb_t (mm_i M a 5) h = true := by
          by_cases z : bb_t (mm_i M a 5) h = true
          · exact z
          · rw [if_neg z] at hc2
            exact absurd rfl hc2
        rw [hb, Bool.true_or] at k1
        exact k1
theorem ct_findPage {h : Int32} {s : Int32} (hm : mm_k M am = 2) (hp : mm_p M am 0 = some L) (hL : al_L G M L e gs) (hk : ∀ g, g ∈ gs → mm_k M g = 7)
    (k : K (some (.inr (gs.find? (fun g => decide (mm_i M g 0 = h) && !decide (mm_i M g 2 < s))))) M) : mm_Ok l G yy_Me_findPage Y_Me_findPage [.inr (some am), .inl h, .inl s] M K := by
  have hle := hL.le
  refine sg_Me_findPage ?_
  have key := lp_from (gs := gs) (P := fun i => K (some (.inr ((gs.drop i).find? (fun g => decide (mm_i M g 0 = h) && !decide (mm_i M g 2 < s))))) M → mm_Z l G Y_Me_findPage K M 0 0 2 [some (.inr (some am)), some (.inl h), some (.inl s), some (.inl (nI i)), none] [] M) ?_ ?_ 0 (Nat.zero_le _)
  · have k1 := key k
    rw [nI_0] at k1
    exact k1
  · intro k1
    rw [List.drop_length] at k1
    exact sg_Me_findPage_2 ⟨hm, L, hp, hL.1, ct_size hL (fun _ => ⟨_, rfl, fun _ => k1, fun hc => absurd (nI_le (Nat.le_refl _) (by omega)) hc⟩)⟩
  · intro i g hi ih k1
    have hil : i < gs.length := (List.getElem?_eq_some_iff.mp hi).1
    have hg := hk g (List.mem_of_getElem? hi)
    rw [dr_s hi, List.find?_cons] at k1
    refine sg_Me_findPage_2 ⟨hm, L, hp, hL.1, ct_size hL (fun _ => ⟨_, rfl, fun hc => absurd hc (nI_ge hil (by omega)), fun _ => ⟨L, hp, hL.1, ct_get hL hi (fun _ => ⟨_, rfl, fun q hq => by cases hq; exact hg, g, rfl, hg, fun hc => ?_, fun hc => ⟨fun hc2 => ?_, fun hc2 => ?_⟩⟩)⟩⟩)⟩
    · rw [decide_eq_false hc, Bool.false_and] at k1
      have z := ih k1
      rw [nI_1]
      exact z
    · rw [decide_eq_true hc, decide_eq_true hc2] at k1
      have z := ih k1
      rw [nI_1]
      exact z
    · rw [decide_eq_true hc, decide_eq_false hc2] at k1
      exact k1
theorem ct_countPaid (hm : mm_k M am = 2) (hp : mm_p M am 0 = some L) (hL : al_L G M L e gs) (hk : ∀ g, g ∈ gs → mm_k M g = 7 ∧ ∃ h, h < 32 ∧ mm_i M g 0 = nI h) (hq : mm_k M q = 6)
    (k : K (some (.inl (nI (gs.countP (fun g => decide (mm_i M g 1 = mm_i M q 0) || bb_t (mm_i M q 7) (mm_i M g 0).toNatClampNeg))))) M) : mm_Ok l G yy_Me_countPaidPages Y_Me_countPaidPages [.inr (some am), .inr (some q)] M K := by
  have hle := hL.le
  refine sg_Me_countPaidPages ?_
  have key := lp_list (gs := gs) (P := fun i => mm_Z l G Y_Me_countPaidPages K M 0 0 4 [some (.inr (some am)), some (.inr (some q)), some (.inl (nI ((gs.take i).countP (fun g => decide (mm_i M g 1 = mm_i M q 0) || bb_t (mm_i M q 7) (mm_i M g 0).toNatClampNeg)))), some (.inl (nI i)), none] [] M) ?_ ?_
  · simp only [List.take_zero, List.countP_nil, nI_0] at key
    exact key
  · refine sg_Me_countPaidPages_4 ⟨hm, L, hp, hL.1, ct_size hL (fun _ => ⟨_, rfl, fun _ => ?_, fun hc => absurd (nI_le (Nat.le_refl _) (by omega)) hc⟩)⟩
    rw [List.take_length]
    exact k
  · intro i g hi ih
    have hil : i < gs.length := (List.getElem?_eq_some_iff.mp hi).1
    obtain ⟨hg, h, hh, eh⟩ := hk g (List.mem_of_getElem? hi)
    rw [tk_count hi, eh, nI_clamp (by omega)] at ih
    refine sg_Me_countPaidPages_4 ⟨hm, L, hp, hL.1, ct_size hL (fun _ => ⟨_, rfl, fun hc => absurd hc (nI_ge hil (by omega)), fun _ => ⟨L, hp, hL.1, ct_get hL hi (fun _ => ⟨_, rfl, fun q hq => by cases hq; exact hg, g, rfl, hg, q, rfl, hq, fun hc => ?_, fun hc => ?_⟩)⟩⟩)⟩
    · rw [decide_eq_true hc, Bool.true_or, if_pos rfl] at ih
      rw [nI_1, nI_1]
      exact ih
    · rw [decide_eq_false hc, Bool.false_or] at ih
      rw [eh]
      refine ct_charged hq hh (fun _ => ⟨_, rfl, fun hc2 => ?_, fun hc2 => ?_⟩)
      · have hb : ¬ bb_t (mm_i M q 7) h = true := fun z => by rw [if_pos z] at hc2; exact absurd hc2 (by decide)
        rw [if_neg hb, Nat.add_zero] at ih
        rw [nI_1]
        exact ih
      · have hb : bb_t (mm_i M q 7) h = true := by
          by_cases z : bb_t (mm_i M q 7) h = true
          · exact z
          · rw [if_neg z] at hc2
            exact absurd rfl hc2
        rw [if_pos hb] at ih
        rw [nI_1, nI_1]
        exact ih
theorem ct_holds {h : Int32} (hT : ti_T M) (hq : mm_k M q = 6) (k : K (some (.inl (if (List.range 4).any (fun r => (pr_r M q r).any (fun a => decide (oo_h M a = h))) = true then 1 else 0))) M) : mm_Ok l G yy_Pr_holdsObjectOf Y_Pr_holdsObjectOf [.inr (some q), .inl h] M K := by
  have hP := hT.2.1 q hq
  refine sg_Pr_holdsObjectOf ?_
  have key := lp_from (gs := List.range 4) (P := fun i => K (some (.inl (if ((List.range 4).drop i).any (fun r => (pr_r M q r).any (fun a => decide (oo_h M a = h))) = true then 1 else 0))) M → mm_Z l G Y_Pr_holdsObjectOf K M 0 0 2 [some (.inr (some q)), some (.inl h), some (.inl (nI i)), none] [] M) ?_ ?_ 0 (Nat.zero_le _)
  · have k1 := key k
    rw [nI_0] at k1
    exact k1
  · intro k1
    rw [List.drop_length] at k1
    exact sg_Pr_holdsObjectOf_2 ⟨fun _ => k1, fun hc => absurd (show (4 : Int32) ≤ nI 4 by decide) hc⟩
  · intro i r hi ih k1
    have hil : i < 4 := by have := (List.getElem?_eq_some_iff.mp hi).1; simpa using this
    have hir : i = r := by
      have := (List.getElem?_eq_some_iff.mp hi).2
      simpa using this
    rw [dr_s hi, List.any_cons] at k1
    subst hir
    have h4 : ¬ (4 : Int32) ≤ nI i := by
      have : ¬ nI 4 ≤ nI i := nI_ge hil (by decide)
      exact this
    refine sg_Pr_holdsObjectOf_2 ⟨fun hc => absurd hc h4, fun _ => ⟨hq, pr_a M q, hP.2.1, hP.2.2.1, i, rfl, by omega, by rw [hP.2.2.2]; exact hil, fun hc => ?_, fun a ha => ?_⟩⟩
    · have e1 : pr_r M q i = none := hc
      rw [e1, Option.any_none, Bool.false_or] at k1
      have z := ih k1
      rw [nI_1]
      exact z
    · have e1 : pr_r M q i = some a := ha
      have hka := hT.2.2.1 _ _ _ hP.2.2.1 ha
      rw [e1, Option.any_some] at k1
      refine ⟨hka, ct_heap (hT.1 a hka) (fun _ => ⟨_, rfl, fun hc => ?_, fun hc => ?_⟩)⟩
      · rw [decide_eq_false hc, Bool.false_or] at k1
        have z := ih k1
        rw [nI_1]
        exact z
      · rw [decide_eq_true hc, Bool.true_or] at k1
        exact k1
end RD
