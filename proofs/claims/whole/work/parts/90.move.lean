/-! THE CLASS AS A WHOLE: mayName, move, load -/
section QP
variable {l : Launch} {G : mm_G} {K : Option mm_V → mm_M → Prop} {M M1 Mb N : mm_M} {c : Nat → Nat} {F : Nat → Prop} {D D1 : ph_D} {eP eO eP1 eO1 : Nat} {p q a b i j : Nat} {x y z w : Int32}
theorem cw_mayName (hd : d_pg D) (h : ph_R G c F Mb M D eP eO) (h6 : mm_k M q = 6) (hp : p < 8) (hQ : ph_Q M D p q) (ha : a ∈ D.1.2) (hb : b ∈ D.1.2) (hi : i < 13) (ei : d_h D a = nI i) (hj : j < 13) (ej : d_h D b = nI j) (k : K (some (.inl (if d_mn D p i j = true then 1 else 0))) M) : mm_Ok l G yy_PH_mayName Y_PH_mayName [.inr (some (c 0)), .inr (some q), .inr (some a), .inr (some b)] M K := by
  have hX := h.2.1
  unfold d_mn at k
  refine sg_PH_mayName ⟨fun u => (by cases u), fun b' hb' => ?_⟩
  have eb : b = b' := Option.some.inj hb'
  subst eb
  refine ⟨a, rfl, h.x8 a ha, ct_heap (h.1.2.1.1 a (h.x8 a ha)) (fun _ => ⟨_, rfl, h.x8 b hb, ct_heap (h.1.2.1.1 b (h.x8 b hb)) (fun _ => ⟨_, rfl, ?_⟩)⟩)⟩
  rw [h.hh hd ha, h.hh hd hb, ei, ej]
  have n8 : ∀ {u : Nat}, u < 13 → (nI u = 8 ↔ u = 8) := fun {u} hu => nI_eq (a := u) (b := 8) (by omega) (by decide)
  have nn : ∀ {u v : Nat}, u < 13 → v < 13 → (nI u = nI v ↔ u = v) := fun {u v} hu hv => nI_eq (by omega) (by omega)
  refine ⟨fun h1 => ⟨fun h2 => ⟨q, rfl, h6, fun h3 => ?_, fun h3 => ⟨fun h4 => ?_, fun h4 => ⟨hX.1, cw_frozen h (fun u => absurd rfl (u j hj)) (fun j' hj' e _ => ?_)⟩⟩⟩, fun h2 => ⟨q, rfl, h6, fun h3 => ?_, fun h3 => ?_⟩⟩, fun h1 => ?_⟩
  · rw [nn hi hj] at h1
    rw [n8 hi] at h2
    rw [hQ.1, nn hi (by omega)] at h3
    rw [if_neg h1, if_neg h2, decide_eq_false h3] at k
    exact k
  · rw [nn hi hj] at h1
    rw [n8 hi] at h2
    rw [hQ.1, nn hi (by omega)] at h3
    rw [n8 hj] at h4
    rw [if_neg h1, if_neg h2, decide_eq_true h3, decide_eq_true h4] at k
    exact k
  · rw [nn hi hj] at h1
    rw [n8 hi] at h2
    rw [hQ.1, nn hi (by omega)] at h3
    rw [n8 hj] at h4
    have e2 : j = j' := (nn hj hj').mp e
    subst e2
    rw [if_neg h1, if_neg h2, decide_eq_true h3, decide_eq_false h4] at k
    refine ⟨_, rfl, fun u => ?_, fun u => ?_⟩
    · rw [b01] at u
      rw [u] at k
      exact k
    · have u' : (D.2.2 8 j).isSome = true := by
        cases v : (D.2.2 8 j).isSome with
        | true => rfl
        | false =>
          rw [v] at u
          exact absurd rfl u
      rw [u'] at k
      exact k
  · rw [nn hi hj] at h1
    rw [n8 hi] at h2
    rw [hQ.1, nn hj (by omega)] at h3
    rw [if_neg h1, if_pos h2, decide_eq_false h3] at k
    exact k
  · rw [nn hi hj] at h1
    rw [n8 hi] at h2
    rw [hQ.1, nn hj (by omega)] at h3
    rw [if_neg h1, if_pos h2, decide_eq_true h3] at k
    exact k
  · rw [nn hi hj] at h1
    rw [if_pos h1] at k
    exact k
theorem cp_move (hrg : d_rg D) (h : ph_R G c F Mb M D eP eO) (k0 : (∀ p r, d_lv D p → r < 4 → x = nI p → y = nI r → ¬ z = -1 ∧ ∀ s, s < 4 → ¬ z = nI s) → K (some (.inl 0)) M) (k1 : ∀ p r M1, d_lv D p → r < 4 → x = nI p → y = nI r → z = -1 → ph_R G c F Mb M1 (dp D (4 + r) p none) eP eO → K (some (.inl 1)) M1)
    (k2 : ∀ p r s M1, d_lv D p → r < 4 → s < 4 → x = nI p → y = nI r → z = nI s → ph_R G c F Mb M1 (dp D (4 + r) p (D.2.2 (4 + s) p)) eP eO → K (some (.inl 1)) M1) : mm_Ok l G yy_PH_move Y_PH_move [.inr (some (c 0)), .inl x, .inl y, .inl z] M K := by
  have hX := h.2.1
  refine sg_PH_move ⟨hX.1, cw_living h (fun hn _ => ⟨_, rfl, fun _ => k0 (fun p r hp _ e _ => absurd e (hn p hp)), fun a u => by cases u⟩) (fun p q hp hp8 e hq h6 hQ _ => ⟨_, rfl, fun u => (by cases u), fun a ha => ?_⟩)⟩
  have haq : q = a := Option.some.inj ha
  subst haq
  have hP := h.1.2.1.2.1 q h6
  refine cw_isRegister (fun hn _ => ⟨_, rfl, fun _ => k0 (fun p r _ hr _ e => absurd e (hn r hr)), fun u => absurd rfl u⟩) (fun r hr e2 _ => ⟨_, rfl, fun u => absurd u (by decide), fun _ => ⟨fun hz => ⟨h6, fun u => absurd hz u, fun _ => ⟨pr_a M q, hP.2.1, hP.2.2.1, r, e2, by omega, by rw [hP.2.2.2]; exact hr, ?_⟩⟩, fun hz => ?_⟩⟩)
  · exact k1 p r _ hp hr e e2 hz (h.reg hp8 hq hr (fun v hv => by cases hv))
  · refine cw_isRegister (fun hn _ => ⟨_, rfl, fun u => absurd rfl u, fun _ => k0 (fun p r _ hr _ e => ⟨hz, hn⟩)⟩) (fun s hs e3 _ => ⟨_, rfl, fun _ => ⟨h6, fun _ => ⟨pr_a M q, hP.2.1, hP.2.2.1, s, e3, by omega, by rw [hP.2.2.2]; exact hs, r, e2, by omega, by rw [hP.2.2.2]; exact hr, fun v hv => ?_, ?_⟩, fun u => absurd u hz⟩, fun u => absurd u (by decide)⟩)
    · exact h.1.2.1.2.2.1 (pr_a M q) s v hP.2.2.1 hv
    · have es : mm_p M (pr_a M q) s = D.2.2 (4 + s) p := hQ.2.2.2.2.2.2.2.1 s hs
      rw [es]
      refine k2 p r s _ hp hr hs e e2 e3 (h.reg hp8 hq hr (fun v hv => ?_))
      exact h.x8 v (hrg p s v hp.1 hs hv)
end QP
