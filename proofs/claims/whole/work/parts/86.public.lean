/-! THE CLASS AS A WHOLE: its public questions -/
section QL
variable {l : Launch} {G : mm_G} {K : Option mm_V → mm_M → Prop} {M M1 Mb N : mm_M} {c : Nat → Nat} {F : Nat → Prop} {D D1 : ph_D} {eP eO eP1 eO1 : Nat} {x y : Int32}
theorem cp_state (h : ph_R G c F Mb M D eP eO) (k0 : (∀ p, p < d_m D → ¬ x = nI p) → K (some (.inl 0)) M) (k1 : ∀ p, p < d_m D → x = nI p → K (some (.inl (D.2.1 6 p))) M) : mm_Ok l G yy_PH_state Y_PH_state [.inr (some (c 0)), .inl x] M K := by
  have hX := h.2.1
  refine sg_PH_state ⟨hX.1, cw_made h (fun hn _ => ⟨_, rfl, fun _ => k0 hn, fun z => absurd rfl z⟩) (fun p hp e _ => ⟨_, rfl, fun z => absurd z (by decide), fun _ => ?_⟩)⟩
  obtain ⟨q, hq, h6, hQ⟩ := h.m.2.2.2.2.2 p hp
  have := h.m.2.1
  refine ⟨c 8, hX.2.2.2.2.1, h.kar, p, e, by omega, by rw [h.lar]; omega, q, hq, h6, ?_⟩
  rw [hQ.2.1]
  exact k1 p hp e
theorem cp_pages (h : ph_R G c F Mb M D eP eO) (k : K (some (.inl (nI (D.1.1.countP (fun g => decide (D.2.1 0 g = x)))))) M) : mm_Ok l G yy_PH_pages Y_PH_pages [.inr (some (c 0)), .inl x] M K := by
  have hX := h.2.1
  refine sg_PH_pages ⟨hX.1, c 1, hX.2.1, h.1.2.2.1, ct_countPages h.1.2.2.1 h.1.2.2.2.1 h.1.2.2.2.2.2.1 h.g7 (fun _ => ⟨_, rfl, ?_⟩)⟩
  have e : D.1.1.countP (fun g => decide (mm_i M g 0 = x)) = D.1.1.countP (fun g => decide (D.2.1 0 g = x)) := List.countP_congr (fun g hg => by rw [(h.2.2.2.2.1 g hg).1])
  rw [e]
  exact k
theorem cp_objects (hd : d_pg D) (h : ph_R G c F Mb M D eP eO) (k : K (some (.inl (nI (D.1.2.countP (fun a => decide (d_h D a = x)))))) M) : mm_Ok l G yy_PH_objects Y_PH_objects [.inr (some (c 0)), .inl x] M K := by
  have hX := h.2.1
  refine sg_PH_objects ⟨hX.1, c 1, hX.2.1, h.1.2.2.1, ct_countObjects h.1.2.2.1 h.1.2.2.2.2.1 h.1.2.2.2.2.2.2.1 (fun a ha => h.1.2.1.1 a (h.x8 a ha)) (fun _ => ⟨_, rfl, ?_⟩)⟩
  have e : D.1.2.countP (fun a => decide (oo_h M a = x)) = D.1.2.countP (fun a => decide (d_h D a = x)) := List.countP_congr (fun a ha => by rw [h.hh hd ha])
  rw [e]
  exact k
theorem cp_items (h : ph_R G c F Mb M D eP eO) (k0 : (∀ i, i < 13 → ¬ x = nI i) → K (some (.inl 0)) M) (k1 : ∀ i, i < 13 → x = nI i → K (some (.inl (nI (D.1.2.countP (fun a => bb_t (D.2.1 5 a) i))))) M) : mm_Ok l G yy_PH_items Y_PH_items [.inr (some (c 0)), .inl x] M K := by
  have hX := h.2.1
  refine sg_PH_items (cw_isHeap (fun hn _ => ⟨_, rfl, fun _ => k0 hn, fun z => absurd rfl z⟩) (fun i hi e _ => ⟨_, rfl, fun z => absurd z (by decide), fun _ => ⟨hX.1, c 1, hX.2.1, h.1.2.2.1, ?_⟩⟩))
  have z := k1 i hi e
  subst e
  refine ct_countItems (by omega) h.1.2.2.1 h.1.2.2.2.2.1 h.1.2.2.2.2.2.2.1 (fun a ha => h.1.2.1.1 a (h.x8 a ha)) (fun _ => ⟨_, rfl, ?_⟩)
  have e : D.1.2.countP (fun a => bb_t (mm_i M a 5) i) = D.1.2.countP (fun a => bb_t (D.2.1 5 a) i) := List.countP_congr (fun a ha => by rw [(h.2.2.2.2.2.1 a ha).2.2.2.1])
  rw [e]
  exact z
theorem cp_use (h : ph_R G c F Mb M D eP eO) (ht : d_tr D) (hgh : d_gh D) (k0 : ∀ M1, ph_R G c F Mb M1 D eP eO → (∀ p, p < d_m D → ¬ x = nI p) → K (some (.inl (-1))) M1) (k1 : ∀ M1 p, ph_R G c F Mb M1 D eP eO → p < d_m D → x = nI p → K (some (.inl (if d_E D p = 0 then -1 else d_U D p))) M1) : mm_Ok l G yy_PH_use Y_PH_use [.inr (some (c 0)), .inl x] M K := by
  have hX := h.2.1
  refine sg_PH_use ⟨hX.1, c 4, hX.2.2.2.1, h.lm.1, ?_⟩
  rw [hX.2.2.2.2.1, hX.2.1]
  refine cw_reckon h ht hgh (fun M1 h1 hv _ => ⟨rfl, cw_made h1 (fun hn _ => ⟨_, rfl, fun _ => k0 M1 h1 hn, fun z => absurd rfl z⟩) (fun p hp e _ => ⟨_, rfl, fun z => absurd z (by decide), fun _ => ?_⟩)⟩)
  have hX1 := h1.2.1
  have hm8 := h1.m.2.1
  have z := k1 M1 p h1 hp e
  refine ⟨c 4, hX1.2.2.2.1, h1.lm.1, c 7, h1.lm.2.2.2.1, h1.lm.2.2.2.2.2.2.1, p, e, by omega, by rw [h1.lm.2.2.2.2.2.2.2.2.2.1]; omega, fun hc => ?_, fun hc => ⟨c 5, h1.lm.2.1, h1.lm.2.2.2.2.1, p, e, by omega, by rw [h1.lm.2.2.2.2.2.2.2.1]; omega, ?_⟩⟩
  · rw [(hv p (by omega)).2.2] at hc
    rw [if_pos hc] at z
    exact z
  · rw [(hv p (by omega)).2.2] at hc
    rw [if_neg hc] at z
    rw [(hv p (by omega)).1]
    exact z
theorem cp_room (h : ph_R G c F Mb M D eP eO) (ht : d_tr D) (hgh : d_gh D) (k0 : ∀ M1, ph_R G c F Mb M1 D eP eO → (∀ p, p < d_m D → ¬ x = nI p) → K (some (.inl (-1))) M1) (k1 : ∀ M1 p, ph_R G c F Mb M1 D eP eO → p < d_m D → x = nI p → K (some (.inl (if d_E D p = 0 then -1 else d_S D p))) M1) : mm_Ok l G yy_PH_room Y_PH_room [.inr (some (c 0)), .inl x] M K := by
  have hX := h.2.1
  refine sg_PH_room ⟨hX.1, c 4, hX.2.2.2.1, h.lm.1, ?_⟩
  rw [hX.2.2.2.2.1, hX.2.1]
  refine cw_reckon h ht hgh (fun M1 h1 hv _ => ⟨rfl, cw_made h1 (fun hn _ => ⟨_, rfl, fun _ => k0 M1 h1 hn, fun z => absurd rfl z⟩) (fun p hp e _ => ⟨_, rfl, fun z => absurd z (by decide), fun _ => ?_⟩)⟩)
  have hX1 := h1.2.1
  have hm8 := h1.m.2.1
  have z := k1 M1 p h1 hp e
  refine ⟨c 4, hX1.2.2.2.1, h1.lm.1, c 7, h1.lm.2.2.2.1, h1.lm.2.2.2.2.2.2.1, p, e, by omega, by rw [h1.lm.2.2.2.2.2.2.2.2.2.1]; omega, fun hc => ?_, fun hc => ⟨c 6, h1.lm.2.2.1, h1.lm.2.2.2.2.2.1, p, e, by omega, by rw [h1.lm.2.2.2.2.2.2.2.2.1]; omega, ?_⟩⟩
  · rw [(hv p (by omega)).2.2] at hc
    rw [if_pos hc] at z
    exact z
  · rw [(hv p (by omega)).2.2] at hc
    rw [if_neg hc] at z
    rw [(hv p (by omega)).2.1]
    exact z
theorem cp_shares (h : ph_R G c F Mb M D eP eO) (k0 : (∀ p i, d_lv D p → i < 13 → x = nI p → y = nI i → bb_t (D.2.1 11 p) i = false) → K (some (.inl 0)) M) (k1 : ∀ p i, d_lv D p → i < 13 → x = nI p → y = nI i → bb_t (D.2.1 11 p) i = true → K (some (.inl 1)) M) : mm_Ok l G yy_PH_shares Y_PH_shares [.inr (some (c 0)), .inl x, .inl y] M K := by
  have hX := h.2.1
  have hm8 := h.m.2.1
  refine sg_PH_shares ⟨hX.1, cw_living h (fun hn _ => ⟨_, rfl, fun _ => k0 (fun p i hp _ e _ => absurd e (hn p hp)), fun a z => by cases z⟩) (fun p q hp hp8 e hq h6 hQ _ => ⟨_, rfl, fun z => (by cases z), fun a ha => ?_⟩)⟩
  have haq : q = a := Option.some.inj ha
  subst haq
  refine cw_isHeap (fun hn _ => ⟨_, rfl, fun _ => k0 (fun p i _ hi _ e2 => absurd e2 (hn i hi)), fun z => absurd rfl z⟩) (fun i hi e2 _ => ⟨_, rfl, fun z => absurd z (by decide), fun _ => ⟨h6, ?_⟩⟩)
  have k0' := k0
  have k1' := k1 p i hp hi e e2
  rw [e2]
  refine ct_charged h6 (by omega) (fun _ => ⟨_, rfl, fun hc => k0 (fun p' i' hp' hi' e3 e4 => ?_), fun hc => k1' ?_⟩)
  · rw [e] at e3
    rw [e2] at e4
    have h1 := hp'.1
    have ep : p = p' := (nI_eq (by omega) (by omega)).mp e3
    have ei : i = i' := (nI_eq (by omega) (by omega)).mp e4
    subst ep
    subst ei
    rw [hQ.2.2.2.2.2.2.1] at hc
    cases z : bb_t (D.2.1 11 p) i with
    | false => rfl
    | true =>
      rw [z, if_pos rfl] at hc
      exact absurd hc (by decide)
  · rw [hQ.2.2.2.2.2.2.1] at hc
    cases z : bb_t (D.2.1 11 p) i with
    | true => rfl
    | false =>
      rw [z] at hc
      exact absurd rfl hc
end QL
