/-! THE CLASS AS A WHOLE: load, store -/
def d_hn (D : ph_D) (a : Nat) : Nat := (d_h D a).toNatClampNeg
def d_mhv (D : ph_D) (p : Nat) (v : Option Nat) : Bool := match v with
  | none => true
  | some b => d_mh D p (d_hn D b)
def d_mnv (D : ph_D) (p a : Nat) (v : Option Nat) : Bool := match v with
  | none => true
  | some b => d_mn D p (d_hn D a) (d_hn D b)
section QR
variable {l : Launch} {G : mm_G} {K : Option mm_V → mm_M → Prop} {M M1 Mb N : mm_M} {c : Nat → Nat} {F : Nat → Prop} {D D1 : ph_D} {eP eO eP1 eO1 : Nat} {p q a b i j : Nat} {x y z w : Int32}
theorem d_hn_lt (hd : d_pg D) (hgh : d_gh D) (ha : a ∈ D.1.2) : d_hn D a < 13 ∧ d_h D a = nI (d_hn D a) := by
  obtain ⟨g, hg, e⟩ := hd a ha
  obtain ⟨n, hn, e2⟩ := hgh g hg
  have e3 : d_h D a = nI n := by
    unfold d_h
    rw [e]
    exact e2
  have e4 : d_hn D a = n := by
    unfold d_hn
    rw [e3, nI_clamp (by omega)]
  rw [e4]
  exact ⟨hn, e3⟩
/-- the arguments of load and store: a living process, two registers, a field -/
def d_ar (D : ph_D) (x y z w : Int32) (p r s f : Nat) : Prop := d_lv D p ∧ r < 4 ∧ s < 4 ∧ f < 3 ∧ x = nI p ∧ y = nI r ∧ z = nI s ∧ w = nI f
theorem cp_load (hd : d_pg D) (hgh : d_gh D) (hrg : d_rg D) (hfl : d_fl D) (h : ph_R G c F Mb M D eP eO) (k0 : (∀ p r s f, ¬ d_ar D x y z w p r s f) → K (some (.inl (-1))) M) (k1 : ∀ p r s f, d_ar D x y z w p r s f → D.2.2 (4 + s) p = none → K (some (.inl (-2))) M)
    (k2 : ∀ p r s f a, d_ar D x y z w p r s f → D.2.2 (4 + s) p = some a → d_mhv D p (D.2.2 (1 + f) a) = false → K (some (.inl (-3))) M)
    (k3 : ∀ p r s f a M1, d_ar D x y z w p r s f → D.2.2 (4 + s) p = some a → d_mhv D p (D.2.2 (1 + f) a) = true → ph_R G c F Mb M1 (dp D (4 + r) p (D.2.2 (1 + f) a)) eP eO → K (some (.inl 0)) M1) : mm_Ok l G yy_PH_load Y_PH_load [.inr (some (c 0)), .inl x, .inl y, .inl z, .inl w] M K := by
  have hX := h.2.1
  refine sg_PH_load ⟨hX.1, cw_living h (fun hn _ => ⟨_, rfl, fun _ => k0 (fun p r s f e => hn p e.1 e.2.2.2.2.1), fun a u => by cases u⟩) (fun p q hp hp8 e hq h6 hQ _ => ⟨_, rfl, fun u => (by cases u), fun a ha => ?_⟩)⟩
  have haq : q = a := Option.some.inj ha
  subst haq
  have hP := h.1.2.1.2.1 q h6
  refine cw_isRegister (fun hn _ => ⟨_, rfl, fun _ => k0 (fun p r s f e => hn r e.2.1 e.2.2.2.2.2.1), fun u => absurd rfl u⟩) (fun r hr e2 _ => ⟨_, rfl, fun u => absurd u (by decide), fun _ => ?_⟩)
  refine cw_isRegister (fun hn _ => ⟨_, rfl, fun _ => k0 (fun p r s f e => hn s e.2.2.1 e.2.2.2.2.2.2.1), fun u => absurd rfl u⟩) (fun s hs e3 _ => ⟨_, rfl, fun u => absurd u (by decide), fun _ => ?_⟩)
  refine cw_isField (fun hn _ => ⟨_, rfl, fun u => absurd rfl u, fun _ => k0 (fun p r s f e => hn f e.2.2.2.1 e.2.2.2.2.2.2.2)⟩) (fun f hf e4 _ => ⟨_, rfl, fun _ => ?_, fun u => absurd u (by decide)⟩)
  have hA : d_ar D x y z w p r s f := ⟨hp, hr, hs, hf, e, e2, e3, e4⟩
  have es : mm_p M (pr_a M q) s = D.2.2 (4 + s) p := hQ.2.2.2.2.2.2.2.1 s hs
  refine ⟨h6, pr_a M q, hP.2.1, hP.2.2.1, s, e3, by omega, by rw [hP.2.2.2]; exact hs, fun hc => ?_, fun a ha2 => ?_⟩
  · rw [es] at hc
    exact k1 p r s f hA hc
  rw [es] at ha2
  have hax := hrg p s a hp.1 hs ha2
  have ha8 := h.x8 a hax
  have hO := h.1.2.1.1 a ha8
  have ef : mm_p M (oo_a M a) f = D.2.2 (1 + f) a := (h.2.2.2.2.2.1 a hax).2.2.2.2 f hf
  refine ⟨ha8, oo_a M a, hO.2.2.2.1, hO.2.2.2.2.1, f, e4, by omega, by rw [hO.2.2.2.2.2]; exact hf, ?_⟩
  rw [ef]
  have fin : d_mhv D p (D.2.2 (1 + f) a) = true → ∃ a35 : Nat, mm_p M q 4 = some a35 ∧ mm_k M a35 = 103 ∧ ∃ j38 : Nat, y = nI j38 ∧ j38 < 2147483648 ∧ j38 < mm_l M a35 ∧ (∀ q, D.2.2 (1 + f) a = some q → mm_k M q = 8) ∧ K (some (.inl 0)) (mm_sp M a35 j38 (D.2.2 (1 + f) a)) := fun hc =>
    ⟨pr_a M q, hP.2.1, hP.2.2.1, r, e2, by omega, by rw [hP.2.2.2]; exact hr, fun v hv => h.x8 v (hfl a f v hax hf hv), k3 p r s f a _ hA ha2 hc (h.reg hp8 hq hr (fun v hv => h.x8 v (hfl a f v hax hf hv)))⟩
  have k2' := k2 p r s f a hA ha2
  generalize hv : D.2.2 (1 + f) a = v at fin k2' ⊢
  cases v with
  | none => exact sg_PH_mayHold ⟨fun _ _ => ⟨_, rfl, fun _ => fin rfl, fun u => absurd u (by decide)⟩, fun b hb => by cases hb⟩
  | some b =>
    have hbx := hfl a f b hax hf hv
    obtain ⟨hj, ej⟩ := d_hn_lt hd hgh hbx
    refine cw_mayHold hd h h6 hp8 hQ hbx hj ej (fun _ => ⟨_, rfl, fun u => fin ?_, fun u => k2' ?_⟩)
    · show d_mh D p (d_hn D b) = true
      cases t : d_mh D p (d_hn D b) with
      | true => rfl
      | false =>
        rw [t] at u
        exact absurd rfl u
    · rw [b01] at u
      exact u
end QR
