/-! THE COLLECTOR: what is reached -/
theorem nd_len : ∀ {l1 l2 : List Nat}, l1.Nodup → (∀ a, a ∈ l1 → a ∈ l2) → l1.length ≤ l2.length
  | [], _, _, _ => Nat.zero_le _
  | a :: t, l2, hn, hs => by
    have h1 := List.nodup_cons.mp hn
    have ha := hs a List.mem_cons_self
    have hlen : (l2.erase a).length = l2.length - 1 := List.length_erase_of_mem ha
    have hpos : 0 < l2.length := List.length_pos_of_mem ha
    have := nd_len (l2 := l2.erase a) h1.2 (fun b hb => by
      have hne : b ≠ a := fun q => by rw [q] at hb; exact h1.1 hb
      exact (List.mem_erase_of_ne hne).mpr (hs b (List.mem_cons_of_mem _ hb)))
    rw [List.length_cons]
    omega
def co_I (M : mm_M) (h : Int32) (xs : List Nat) (R : Nat → Prop) (rs : List Nat) : Prop := rs.Nodup ∧ ∀ a, a ∈ rs → a ∈ xs ∧ oo_h M a = h ∧ R a
section CP
variable {l : Launch} {G : mm_G} {K : Option mm_V → mm_M → Prop} {M : mm_M} {am LP LO eP eO ac cr ar : Nat} {gs xs rs : List Nat} {h : Int32} {R : Nat → Prop}
theorem co_I.len (hI : co_I M h xs R rs) : rs.length ≤ xs.length := nd_len hI.1 (fun a ha => (hI.2 a ha).1)
theorem co_I.lt (hI : co_I M h xs R rs) {a : Nat} (ha : a ∈ xs) (hn : a ∉ rs) : rs.length < xs.length := by
  have := nd_len (l1 := a :: rs) (l2 := xs) (List.nodup_cons.mpr ⟨hn, hI.1⟩) (fun b hb => by
    rcases List.mem_cons.mp hb with q | q
    · rw [q]
      exact ha
    · exact (hI.2 b q).1)
  exact this
theorem co_I.step (hI : co_I M h xs R rs) {ob : Option Nat} (ho : ∀ a, ob = some a → a ∈ xs ∧ (oo_h M a = h → R a)) : co_I M h xs R (rc_o M h rs ob) ∧ rs <+: rc_o M h rs ob ∧ ∀ a, ob = some a → oo_h M a = h → a ∈ rc_o M h rs ob := by
  cases ob with
  | none => exact ⟨hI, List.prefix_rfl, fun a q => by cases q⟩
  | some b =>
    show co_I M h xs R (if oo_h M b = h ∧ b ∉ rs then rs ++ [b] else rs) ∧ rs <+: (if oo_h M b = h ∧ b ∉ rs then rs ++ [b] else rs) ∧ ∀ a, some b = some a → oo_h M a = h → a ∈ (if oo_h M b = h ∧ b ∉ rs then rs ++ [b] else rs)
    obtain ⟨h1, h2⟩ := ho b rfl
    by_cases q : oo_h M b = h ∧ b ∉ rs
    · rw [if_pos q]
      refine ⟨⟨?_, fun a ha => ?_⟩, List.prefix_append _ _, fun a e _ => ?_⟩
      · rw [List.nodup_append]
        exact ⟨hI.1, by simp, fun a ha c hc z => by rw [List.mem_singleton.mp hc] at z; rw [z] at ha; exact q.2 ha⟩
      · rcases List.mem_append.mp ha with w | w
        · exact hI.2 a w
        · rw [List.mem_singleton.mp w]
          exact ⟨h1, q.1, h2 q.1⟩
      · have e' : b = a := Option.some.inj e
        rw [e']
        simp
    · rw [if_neg q]
      refine ⟨hI, List.prefix_rfl, fun a e hh => ?_⟩
      have e' : b = a := Option.some.inj e
      apply Decidable.byContradiction
      intro w
      rw [← e'] at hh w
      exact q ⟨hh, w⟩
theorem ct_reachI {ob : Option Nat} (hH : co_H M ac cr) (hx8 : ∀ a, a ∈ xs → mm_k M a = 8) (hxl : xs.length ≤ 60) (hI : co_I M h xs R rs) (ho : ∀ a, ob = some a → a ∈ xs ∧ (oo_h M a = h → R a))
    (k : ∀ rs1, co_I M h xs R rs1 → rs <+: rs1 → (∀ a, ob = some a → oo_h M a = h → a ∈ rs1) → K none (co_M M ac cr rs1)) : mm_Ok l G yy_Co_reachObject Y_Co_reachObject [.inr (some ac), .inl h, .inr ob] (co_M M ac cr rs) K := by
  have hl := hI.len
  obtain ⟨h1, h2, h3⟩ := hI.step ho
  exact ct_reach hH (fun a ha => hx8 a (hI.2 a ha).1) (by omega) (fun a e => ⟨hx8 a (ho a e).1, fun hn => by have := hI.lt (ho a e).1 hn; omega⟩) (k _ h1 h2 h3)
theorem ct_reachHeld (hH : co_H M ac cr) (hx8 : ∀ a, a ∈ xs → mm_k M a = 8) (hxl : xs.length ≤ 60) (kar : mm_k M ar = 104) (lar : mm_l M ar = 8) (hreg : ∀ p q r a, p < 8 → mm_p M ar p = some q → r < 4 → pr_r M q r = some a → a ∈ xs ∧ (oo_h M a = h → R a)) (hI : co_I M h xs R rs)
    (k : ∀ rs1, co_I M h xs R rs1 → (∀ p q r a, p < 8 → mm_p M ar p = some q → r < 4 → pr_r M q r = some a → oo_h M a = h → a ∈ rs1) → K none (co_M M ac cr rs1)) : mm_Ok l G yy_Co_reachHeld Y_Co_reachHeld [.inr (some ac), .inl h, .inr (some ar)] (co_M M ac cr rs) K := by
  have nar : ar ≠ cr := hH.ne (by rw [kar]; decide)
  have key : ∀ n p rs1, 8 - p = n → p ≤ 8 → co_I M h xs R rs1 → (∀ p' q r a, p' < p → mm_p M ar p' = some q → r < 4 → pr_r M q r = some a → oo_h M a = h → a ∈ rs1) → mm_Z l G Y_Co_reachHeld K (co_M M ac cr rs) 0 0 2 [some (.inr (some ac)), some (.inl h), some (.inr (some ar)), some (.inl (nI p)), none] [] (co_M M ac cr rs1) := by
    intro n
    induction n with
    | zero =>
      intro p rs1 hn hp hI1 hd
      have : p = 8 := by omega
      subst this
      exact sg_Co_reachHeld_2 ⟨fun _ => k rs1 hI1 hd, fun q => absurd (by decide) q⟩
    | succ n ih =>
      intro p rs1 hn hp hI1 hd
      refine sg_Co_reachHeld_2 ⟨fun q => absurd q (show ¬ nI 8 ≤ nI p from nI_ge (by omega) (by decide)), fun _ => ?_⟩
      have inner : ∀ m r rs2, 4 - r = m → r ≤ 4 → co_I M h xs R rs2 → (∀ p' q r a, p' < p → mm_p M ar p' = some q → r < 4 → pr_r M q r = some a → oo_h M a = h → a ∈ rs2) → (∀ q r' a, mm_p M ar p = some q → r' < r → pr_r M q r' = some a → oo_h M a = h → a ∈ rs2) → mm_Z l G Y_Co_reachHeld K (co_M M ac cr rs) 0 0 11 [some (.inr (some ac)), some (.inl h), some (.inr (some ar)), some (.inl (nI p)), some (.inl (nI r))] [] (co_M M ac cr rs2) := by
        intro m
        induction m with
        | zero =>
          intro r rs2 hm hr hI2 hd2 he2
          have : r = 4 := by omega
          subst this
          have fin : mm_Z l G Y_Co_reachHeld K (co_M M ac cr rs) 0 0 2 [some (.inr (some ac)), some (.inl h), some (.inr (some ar)), some (.inl (nI p + 1)), none] [] (co_M M ac cr rs2) := by
            rw [nI_1]
            refine ih (p + 1) rs2 (by omega) (by omega) hI2 (fun p' q r a hp' hq hr' ha hh => ?_)
            rcases Nat.lt_or_ge p' p with z | z
            · exact hd2 p' q r a z hq hr' ha hh
            · have : p' = p := by omega
              subst this
              exact he2 q r a hq hr' ha hh
          exact sg_Co_reachHeld_11 ⟨ar, rfl, kar, p, rfl, by omega, by show p < mm_l M ar; omega, fun _ => fin, fun q hq => ⟨fun _ => fin, fun z => absurd (by decide) z⟩⟩
        | succ m ihm =>
          intro r rs2 hm hr hI2 hd2 he2
          refine sg_Co_reachHeld_11 ⟨ar, rfl, kar, p, rfl, by omega, by show p < mm_l M ar; omega, fun hq => ?_, fun q hq => ⟨fun z => absurd z (show ¬ nI 4 ≤ nI r from nI_ge (by omega) (by decide)), fun _ => ?_⟩⟩
          · rw [co_pn nar] at hq
            rw [nI_1]
            refine ih (p + 1) rs2 (by omega) (by omega) hI2 (fun p' q r a hp' hq' hr' ha hh => ?_)
            rcases Nat.lt_or_ge p' p with z | z
            · exact hd2 p' q r a z hq' hr' ha hh
            · have : p' = p := by omega
              subst this
              rw [hq] at hq'
              cases hq'
          · have hq0 := hq
            rw [co_pn nar] at hq0
            have hq6 := hH.1.2.2.2.1 ar p q kar hq0
            have hP := hH.1.2.1 q hq6
            have nq : q ≠ cr := hH.ne (by rw [hq6]; decide)
            have nra : pr_a M q ≠ cr := hH.2.2.2.2.2.2 q hq6
            refine ⟨p, rfl, by omega, by show p < mm_l M ar; omega, q, hq, hq6, pr_a M q, by rw [co_pn nq]; exact hP.2.1, hP.2.2.1, r, rfl, by omega, by show r < mm_l M (pr_a M q); rw [hP.2.2.2]; omega, hH.2.1, ?_⟩
            rw [co_pn nra]
            refine ct_reachI hH hx8 hxl hI2 (fun a ha => hreg p q r a (by omega) hq0 (by omega) ha) (fun rs3 h3 hpre hin _ => ⟨rfl, ?_⟩)
            rw [nI_1]
            refine ihm (r + 1) rs3 (by omega) (by omega) h3 (fun p' q' r' a z1 z2 z3 z4 z5 => hpre.subset (hd2 p' q' r' a z1 z2 z3 z4 z5)) (fun q' r' a z1 z2 z3 z4 => ?_)
            rcases Nat.lt_or_ge r' r with z | z
            · exact hpre.subset (he2 q' r' a z1 z z3 z4)
            · have : r' = r := by omega
              subst this
              rw [hq0] at z1
              have e : q = q' := Option.some.inj z1
              subst e
              exact hin a z3 z4
      have z := inner 4 0 rs1 rfl (by omega) hI1 hd (fun _ _ _ _ z => absurd z (by omega))
      rw [nI_0] at z
      exact z
  have z := key 8 0 rs rfl (by omega) hI (fun _ _ _ _ z => absurd z (by omega))
  rw [nI_0] at z
  exact sg_Co_reachHeld z
theorem ct_reachNamed (hH : co_H M ac cr) (hW : me_W G M am LP LO eP eO gs xs) (hxl : xs.length ≤ 60) (hnam : ∀ a, a ∈ xs → mm_i M a 5 ≠ 0 → oo_h M a = h → R a) (hI : co_I M h xs R rs)
    (k : ∀ rs1, co_I M h xs R rs1 → (∀ a, a ∈ rs → a ∈ rs1) → (∀ a, a ∈ xs → mm_i M a 5 ≠ 0 → oo_h M a = h → a ∈ rs1) → K none (co_M M ac cr rs1)) : mm_Ok l G yy_Co_reachNamedFromOutside Y_Co_reachNamedFromOutside [.inr (some ac), .inl h, .inr (some am)] (co_M M ac cr rs) K := by
  have hx8 := hW.2.2.2.2.2.2.2.2.2.2.1
  have hle := hW.2.2.2.2.2.2.1.le
  have key := lp_from (gs := xs) (P := fun i => ∀ rs1, co_I M h xs R rs1 → (∀ a, a ∈ rs → a ∈ rs1) → (∀ a, a ∈ xs.take i → mm_i M a 5 ≠ 0 → oo_h M a = h → a ∈ rs1) → mm_Z l G Y_Co_reachNamedFromOutside K (co_M M ac cr rs) 0 0 2 [some (.inr (some ac)), some (.inl h), some (.inr (some am)), some (.inl (nI i))] [] (co_M M ac cr rs1)) ?_ ?_ 0 (Nat.zero_le _) rs hI (fun _ q => q) (fun a q => by simp at q)
  · rw [nI_0] at key
    exact sg_Co_reachNamedFromOutside key
  · intro rs1 h1 h2 h3
    have hW1 := hH.W (fun a ha => hx8 a (h1.2 a ha).1) hW
    have hL := hW1.2.2.2.2.2.2.1
    rw [List.take_length] at h3
    exact sg_Co_reachNamedFromOutside_2 ⟨am, rfl, hW1.2.2.1, LO, hW1.2.2.2.2.1, hL.1, ct_size hL (fun _ => ⟨_, rfl, fun _ => k rs1 h1 h2 h3, fun hc => absurd (nI_le (Nat.le_refl _) (by omega)) hc⟩)⟩
  · intro i a hi ih rs1 h1 h2 h3
    have hil : i < xs.length := (List.getElem?_eq_some_iff.mp hi).1
    have hW1 := hH.W (fun a ha => hx8 a (h1.2 a ha).1) hW
    have hL := hW1.2.2.2.2.2.2.1
    have hax := List.mem_of_getElem? hi
    have ha := hx8 a hax
    have e5 : mm_i (co_M M ac cr rs1) a 5 = mm_i M a 5 := co_in (by decide) (by decide)
    refine sg_Co_reachNamedFromOutside_2 ⟨am, rfl, hW1.2.2.1, LO, hW1.2.2.2.2.1, hL.1, ct_size hL (fun _ => ⟨_, rfl, fun hc => absurd hc (nI_ge hil (by omega)), fun _ => ⟨LO, hW1.2.2.2.2.1, hL.1, ct_get hL hi (fun _ => ⟨_, rfl, fun q hq => by cases hq; exact ha, a, rfl, ha, ct_anyItem ha (fun _ => ⟨_, rfl, fun hc => ?_, fun hc => ⟨LO, hW1.2.2.2.2.1, hL.1, ct_get hL hi (fun _ => ⟨_, rfl, fun q hq => by cases hq; exact ha, hH.2.1, ?_⟩)⟩⟩)⟩)⟩⟩)⟩
    · rw [e5] at hc
      have h0 : mm_i M a 5 = 0 := by
        apply Decidable.byContradiction
        intro q
        rw [if_neg q] at hc
        exact absurd hc (by decide)
      rw [nI_1]
      refine ih rs1 h1 h2 (fun b hb z1 z2 => ?_)
      rw [tk_s hi] at hb
      rcases List.mem_append.mp hb with w | w
      · exact h3 b w z1 z2
      · rw [List.mem_singleton.mp w] at z1
        exact absurd h0 z1
    · rw [e5] at hc
      have h0 : mm_i M a 5 ≠ 0 := fun q => by
        rw [if_pos q] at hc
        exact hc rfl
      refine ct_reachI hH hx8 hxl h1 (fun b e => ?_) (fun rs2 g1 g2 g3 _ => ⟨rfl, ?_⟩)
      · cases e
        exact ⟨hax, fun z => hnam a hax h0 z⟩
      · rw [nI_1]
        refine ih rs2 g1 (fun b hb => g2.subset (h2 b hb)) (fun b hb z1 z2 => ?_)
        rw [tk_s hi] at hb
        rcases List.mem_append.mp hb with w | w
        · exact g2.subset (h3 b w z1 z2)
        · rw [List.mem_singleton.mp w] at z2 ⊢
          exact g3 a rfl z2
end CP
