/-! THE COLLECTOR: fields are followed; items are lost -/
section CQ
variable {l : Launch} {G : mm_G} {K : Option mm_V → mm_M → Prop} {M : mm_M} {am LP LO eP eO ac cr ar : Nat} {gs xs rs : List Nat} {h : Int32} {R : Nat → Prop}
theorem px_get {l1 l2 : List Nat} (hp : l1 <+: l2) {i a : Nat} (h : l1[i]? = some a) : l2[i]? = some a := by
  obtain ⟨t, rfl⟩ := hp
  rw [List.getElem?_append_left (List.getElem?_eq_some_iff.mp h).1]
  exact h
theorem ct_follow (hH : co_H M ac cr) (hx8 : ∀ a, a ∈ xs → mm_k M a = 8) (hxl : xs.length ≤ 60) (hfld : ∀ a f b, a ∈ xs → f < 3 → oo_f M a f = some b → b ∈ xs ∧ (R a → oo_h M b = h → R b)) (hI : co_I M h xs R rs)
    (k : ∀ rs1, co_I M h xs R rs1 → (∀ a, a ∈ rs → a ∈ rs1) → (∀ a f b, a ∈ rs1 → f < 3 → oo_f M a f = some b → oo_h M b = h → b ∈ rs1) → K none (co_M M ac cr rs1)) : mm_Ok l G yy_Co_followFields Y_Co_followFields [.inr (some ac), .inl h] (co_M M ac cr rs) K := by
  have key : ∀ n i rs1, 60 - i = n → i ≤ 60 → co_I M h xs R rs1 → (∀ a, a ∈ rs → a ∈ rs1) → (∀ j a f b, j < i → rs1[j]? = some a → f < 3 → oo_f M a f = some b → oo_h M b = h → b ∈ rs1) → mm_Z l G Y_Co_followFields K (co_M M ac cr rs) 0 0 2 [some (.inr (some ac)), some (.inl h), some (.inl (nI i)), none] [] (co_M M ac cr rs1) := by
    intro n
    induction n with
    | zero =>
      intro i rs1 hn hi hI1 hs hd
      have hl := hI1.len
      have fin : K none (co_M M ac cr rs1) := k rs1 hI1 hs (fun a f b ha hf hb hh => by
        obtain ⟨j, hj⟩ := List.getElem?_of_mem ha
        have hjl : j < rs1.length := (List.getElem?_eq_some_iff.mp hj).1
        exact hd j a f b (by omega) hj hf hb hh)
      have : i = 60 := by omega
      subst this
      exact sg_Co_followFields_2 ⟨hH.2.1, fun _ => fin, fun _ => ⟨fun _ => fin, fun z => absurd (by decide) z⟩⟩
    | succ n ih =>
      intro i rs1 hn hi hI1 hs hd
      have hl := hI1.len
      have ei : mm_i (co_M M ac cr rs1) ac 1 = nI rs1.length := by rw [co_i, if_pos ⟨rfl, rfl⟩]
      refine sg_Co_followFields_2 ⟨hH.2.1, fun hc => ?_, fun hc => ⟨fun z => absurd z (show ¬ nI 60 ≤ nI i from nI_ge (by omega) (by decide)), fun _ => ?_⟩⟩
      · rw [ei] at hc
        have hc' : rs1.length ≤ i := by
          rw [nI_leI (by omega) (by omega)] at hc
          exact hc
        exact k rs1 hI1 hs (fun a f b ha hf hb hh => by
          obtain ⟨j, hj⟩ := List.getElem?_of_mem ha
          have hjl : j < rs1.length := (List.getElem?_eq_some_iff.mp hj).1
          exact hd j a f b (by omega) hj hf hb hh)
      · rw [ei] at hc
        have hc' : i < rs1.length := by
          rw [nI_leI (by omega) (by omega)] at hc
          omega
        obtain ⟨c, hcx⟩ : ∃ c, rs1[i]? = some c := ⟨rs1[i], List.getElem?_eq_getElem hc'⟩
        have hcI := hI1.2 c (List.mem_of_getElem? hcx)
        have hc8 := hx8 c hcI.1
        have hO := hH.1.1 c hc8
        have nc : c ≠ cr := hH.ne (by rw [hc8]; decide)
        have nca : oo_a M c ≠ cr := (hH.2.2.2.2.2.1 c hc8).1
        have nac : ac ≠ cr := hH.ne (by rw [hH.2.1]; decide)
        have inner : ∀ m f rs2, 3 - f = m → f ≤ 3 → co_I M h xs R rs2 → rs1 <+: rs2 → (∀ f' b, f' < f → oo_f M c f' = some b → oo_h M b = h → b ∈ rs2) → mm_Z l G Y_Co_followFields K (co_M M ac cr rs) 0 0 18 [some (.inr (some ac)), some (.inl h), some (.inl (nI i)), some (.inl (nI f))] [] (co_M M ac cr rs2) := by
          intro m
          induction m with
          | zero =>
            intro f rs2 hm hf hI2 hp he
            have : f = 3 := by omega
            subst this
            refine sg_Co_followFields_18 ⟨fun _ => ?_, fun z => absurd (by decide) z⟩
            rw [nI_1]
            refine ih (i + 1) rs2 (by omega) (by omega) hI2 (fun a ha => hp.subset (hs a ha)) (fun j a f b hj hja hf hb hh => ?_)
            rcases Nat.lt_or_ge j i with z | z
            · have hjl : j < rs1.length := by omega
              have hj1 : rs1[j]? = some a := by
                have := px_get hp (List.getElem?_eq_getElem hjl)
                rw [this] at hja
                rw [List.getElem?_eq_getElem hjl]
                exact hja
              exact hp.subset (hd j a f b z hj1 hf hb hh)
            · have : j = i := by omega
              subst this
              rw [px_get hp hcx] at hja
              have e : c = a := Option.some.inj hja
              subst e
              exact he f b hf hb hh
          | succ m ihm =>
            intro f rs2 hm hf hI2 hp he
            refine sg_Co_followFields_18 ⟨fun z => absurd z (show ¬ nI 3 ≤ nI f from nI_ge (by omega) (by decide)), fun _ => ⟨hH.2.1, cr, by rw [co_pn nac]; exact hH.2.2.1, hH.2.2.2.1, i, rfl, by omega, by show i < mm_l M cr; rw [hH.2.2.2.2.1]; omega, c, ?_, hc8, oo_a M c, by rw [co_pn nc]; exact hO.2.2.2.1, hO.2.2.2.2.1, f, rfl, by omega, by show f < mm_l M (oo_a M c); rw [hO.2.2.2.2.2]; omega, ?_⟩⟩
            · rw [co_p, if_pos rfl, px_get hp hcx]
            · rw [co_pn nca]
              refine ct_reachI hH hx8 hxl hI2 (fun b hb => ?_) (fun rs3 g1 g2 g3 _ => ⟨rfl, ?_⟩)
              · have := hfld c f b hcI.1 (by omega) hb
                exact ⟨this.1, fun z => this.2 hcI.2.2 z⟩
              · rw [nI_1]
                refine ihm (f + 1) rs3 (by omega) (by omega) g1 (hp.trans g2) (fun f' b hf' hb hh => ?_)
                rcases Nat.lt_or_ge f' f with z | z
                · exact g2.subset (he f' b z hb hh)
                · have : f' = f := by omega
                  subst this
                  exact g3 b hb hh
        have z := inner 3 0 rs1 rfl (by omega) hI1 List.prefix_rfl (fun _ _ z => absurd z (by omega))
        rw [nI_0] at z
        exact z
  have z := key 60 0 rs rfl (by omega) hI (fun _ q => q) (fun _ _ _ _ z => absurd z (by omega))
  rw [nI_0] at z
  exact sg_Co_followFields z
end CQ
