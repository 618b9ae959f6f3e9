/-! THE CLASS AS A WHOLE: store -/
section QS
variable {l : Launch} {G : mm_G} {K : Option mm_V → mm_M → Prop} {M M1 Mb N : mm_M} {c : Nat → Nat} {F : Nat → Prop} {D D1 : ph_D} {eP eO eP1 eO1 : Nat} {p q a b i j : Nat} {x y z w : Int32}
theorem cp_store (hd : d_pg D) (hgh : d_gh D) (hrg : d_rg D) (h : ph_R G c F Mb M D eP eO) (k0 : (∀ p r s f, ¬ d_ar D x y w z p r s f) → K (some (.inl (-1))) M) (k1 : ∀ p r s f, d_ar D x y w z p r s f → D.2.2 (4 + r) p = none → K (some (.inl (-2))) M)
    (k2 : ∀ p r s f a, d_ar D x y w z p r s f → D.2.2 (4 + r) p = some a → (d_mc D p (d_hn D a) && d_mnv D p a (D.2.2 (4 + s) p)) = false → K (some (.inl (-3))) M)
    (k3 : ∀ p r s f a M1, d_ar D x y w z p r s f → D.2.2 (4 + r) p = some a → (d_mc D p (d_hn D a) && d_mnv D p a (D.2.2 (4 + s) p)) = true → ph_R G c F Mb M1 (d_sf D a f (d_hn D a) (D.2.2 (4 + s) p)) eP eO → K (some (.inl 0)) M1) : mm_Ok l G yy_PH_store Y_PH_store [.inr (some (c 0)), .inl x, .inl y, .inl z, .inl w] M K := by
  have hX := h.2.1
  refine sg_PH_store ⟨hX.1, cw_living h (fun hn _ => ⟨_, rfl, fun _ => k0 (fun p r s f e => hn p e.1 e.2.2.2.2.1), fun a u => by cases u⟩) (fun p q hp hp8 e hq h6 hQ _ => ⟨_, rfl, fun u => (by cases u), fun a ha => ?_⟩)⟩
  have haq : q = a := Option.some.inj ha
  subst haq
  have hP := h.1.2.1.2.1 q h6
  refine cw_isRegister (fun hn _ => ⟨_, rfl, fun _ => k0 (fun p r s f e => hn r e.2.1 e.2.2.2.2.2.1), fun u => absurd rfl u⟩) (fun r hr e2 _ => ⟨_, rfl, fun u => absurd u (by decide), fun _ => ?_⟩)
  refine cw_isRegister (fun hn _ => ⟨_, rfl, fun _ => k0 (fun p r s f e => hn s e.2.2.1 e.2.2.2.2.2.2.1), fun u => absurd rfl u⟩) (fun s hs e3 _ => ⟨_, rfl, fun u => absurd u (by decide), fun _ => ?_⟩)
  refine cw_isField (fun hn _ => ⟨_, rfl, fun u => absurd rfl u, fun _ => k0 (fun p r s f e => hn f e.2.2.2.1 e.2.2.2.2.2.2.2)⟩) (fun f hf e4 _ => ⟨_, rfl, fun _ => ?_, fun u => absurd u (by decide)⟩)
  have hA : d_ar D x y w z p r s f := ⟨hp, hr, hs, hf, e, e2, e3, e4⟩
  have er : mm_p M (pr_a M q) r = D.2.2 (4 + r) p := hQ.2.2.2.2.2.2.2.1 r hr
  have es : mm_p M (pr_a M q) s = D.2.2 (4 + s) p := hQ.2.2.2.2.2.2.2.1 s hs
  refine ⟨h6, pr_a M q, hP.2.1, hP.2.2.1, r, e2, by omega, by rw [hP.2.2.2]; exact hr, fun hc => ?_, fun a ha2 => ⟨s, e3, by omega, by rw [hP.2.2.2]; exact hs, ?_⟩⟩
  · rw [er] at hc
    exact k1 p r s f hA hc
  rw [er] at ha2
  rw [er, es, ha2]
  have hax := hrg p r a hp.1 hr ha2
  have ha8 := h.x8 a hax
  obtain ⟨hi, ei⟩ := d_hn_lt hd hgh hax
  have k2' := k2 p r s f a hA ha2
  have k3' := fun M1 => k3 p r s f a M1 hA ha2
  refine cw_mayChange hd h h6 hQ hax hi ei (fun _ => ⟨_, rfl, fun u => k2' ?_, fun u => ?_⟩)
  · rw [b01] at u
    rw [u]
    rfl
  have hc : d_mc D p (d_hn D a) = true := by
    cases t : d_mc D p (d_hn D a) with
    | true => rfl
    | false =>
      rw [t] at u
      exact absurd rfl u
  rw [hc, Bool.true_and] at k2' k3'
  have hsv : ∀ b, D.2.2 (4 + s) p = some b → b ∈ D.1.2 := fun b hb => hrg p s b hp.1 hs hb
  have fin : d_mnv D p a (D.2.2 (4 + s) p) = true → mm_Ok l G yy_Ob_setField Y_Ob_setField [.inr (some a), .inl z, .inr (D.2.2 (4 + s) p)] M (fun r M34 => mm_X M M34 → r = none ∧ K (some (.inl 0)) M34) := fun t => by
    rw [e4]
    exact cw_setField hd h hax hf hsv ei (fun M1 g1 _ => ⟨rfl, k3' M1 t g1⟩)
  generalize D.2.2 (4 + s) p = v at fin k2' hsv ⊢
  cases v with
  | none => exact sg_PH_mayName ⟨fun _ _ => ⟨_, rfl, fun _ => ⟨ha8, fin rfl⟩, fun u => absurd u (by decide)⟩, fun b hb => by cases hb⟩
  | some b =>
    have hbx := hsv b rfl
    obtain ⟨hj, ej⟩ := d_hn_lt hd hgh hbx
    refine cw_mayName hd h h6 hp8 hQ hax hbx hi ei hj ej (fun _ => ⟨_, rfl, fun u => ⟨ha8, fin ?_⟩, fun u => k2' ?_⟩)
    · show d_mn D p (d_hn D a) (d_hn D b) = true
      cases t : d_mn D p (d_hn D a) (d_hn D b) with
      | true => rfl
      | false =>
        rw [t] at u
        exact absurd rfl u
    · rw [b01] at u
      exact u
end QS
