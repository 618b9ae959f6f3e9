/-! THE CLASS AS A WHOLE: lookup, the call -/
section QY
variable {l : Launch} {G : mm_G} {K : Option mm_V → mm_M → Prop} {M M1 Mb N : mm_M} {c : Nat → Nat} {F : Nat → Prop} {D D1 : ph_D} {eP eO eP1 eO1 : Nat} {p q a b i j : Nat} {x y z w s : Int32}
/-- what lookup needs to pay -/
def d_np (D : ph_D) (i : Nat) : Int32 := nI (D.1.1.countP (fun g => decide (D.2.1 0 g = nI i)))
theorem cp_lookup (hA : d_A D) (hrg : d_rg D) (hfl : d_fl D) (ht : d_tr D) (hgh : d_gh D) (h : ph_R G c F Mb M D eP eO) (k0 : (∀ p i r, ¬ d_lr D x y z p i r) → K (some (.inl (-1))) M)
    (k1 : ∀ p i r M1, d_lr D x y z p i r → bb_t (D.2.1 11 p) i = true → ph_R G c F Mb M1 (dp D (4 + r) p (D.2.2 8 i)) eP eO → K (some (.inl 0)) M1)
    (k2 : ∀ p i r M1, d_lr D x y z p i r → bb_t (D.2.1 11 p) i = false → ¬ d_S D p < d_np D i → ph_R G c F Mb M1 (d_lk D p i r) eP eO → K (some (.inl 0)) M1)
    (k3 : ∀ p i r M1 rs, d_lr D x y z p i r → bb_t (D.2.1 11 p) i = false → d_S D p < d_np D i → rs.Nodup → (∀ a, a ∈ rs ↔ a ∈ D.1.2 ∧ d_h D a = nI p ∧ d_Re D (nI p) a) → ph_R G c F Mb M1 (d_col D p rs) eP eO → (d_tr (d_col D p rs) ∧ d_gh (d_col D p rs)) ∧
      (∀ M2, d_S (d_col D p rs) p < d_np D i → ph_R G c F Mb M2 (d_col D p rs) eP eO → K (some (.inl (-5))) M2) ∧ (∀ M2, ¬ d_S (d_col D p rs) p < d_np D i → ph_R G c F Mb M2 (d_lk (d_col D p rs) p i r) eP eO → K (some (.inl 0)) M2)) : mm_Ok l G yy_PH_lookup Y_PH_lookup [.inr (some (c 0)), .inl x, .inl y, .inl z] M K := by
  have hX := h.2.1
  refine sg_PH_lookup ⟨hX.1, cw_living h (fun hn _ => ⟨_, rfl, fun _ => k0 (fun p i r e => hn p e.1 e.2.2.2.1), fun a u => by cases u⟩) (fun p q hp hp8 e hq h6 hQ _ => ⟨_, rfl, fun u => (by cases u), fun a ha => ?_⟩)⟩
  have haq : q = a := Option.some.inj ha
  subst haq
  refine cw_isRegister (fun hn _ => ⟨_, rfl, fun _ => k0 (fun p i r e => hn r e.2.2.1 e.2.2.2.2.2.1), fun u => absurd rfl u⟩) (fun r hr e2 _ => ⟨_, rfl, fun u => absurd u (by decide), fun _ => ?_⟩)
  refine cw_frozen h (fun hn _ => ⟨_, rfl, fun u => absurd rfl u, fun _ => k0 (fun p i r e => hn i e.2.1 e.2.2.2.2.1)⟩) (fun i hi e3 _ => ⟨_, rfl, fun u => ⟨h6, ?_⟩, fun u => k0 (fun p' i' r' e' => ?_)⟩)
  · have hsome : (D.2.2 8 i).isSome = true := by
      cases t : (D.2.2 8 i).isSome with
      | true => rfl
      | false =>
        rw [t] at u
        exact absurd rfl u
    have hL : d_lr D x y z p i r := ⟨hp, hi, hr, e, e3, e2, hsome⟩
    have hP := h.1.2.1.2.1 q h6
    subst e
    subst e2
    subst e3
    refine ct_charged h6 (by omega) (fun _ => ⟨_, rfl, fun hc => ?_, fun hc => ?_⟩)
    · have hb : bb_t (D.2.1 11 p) i = true := by
        rw [hQ.2.2.2.2.2.2.1] at hc
        cases t : bb_t (D.2.1 11 p) i with
        | true => rfl
        | false =>
          rw [t] at hc
          exact absurd rfl hc
      have h8 : ∀ v, mm_p M (c 9) i = some v → mm_k M v = 8 := fun v hv => h.1.2.1.2.2.1 (c 9) i v h.kah hv
      refine ⟨c 9, hX.2.2.2.2.2.1, h.kah, i, rfl, by omega, by rw [h.lah]; exact hi, pr_a M q, hP.2.1, hP.2.2.1, r, rfl, by omega, by rw [hP.2.2.2]; exact hr, h8, k1 p i r _ hL hb ?_⟩
      have g := h.reg (v := mm_p M (c 9) i) hp8 hq hr h8
      rw [h.2.2.2.2.2.2.1.1 i hi] at g ⊢
      exact g
    · have hb : bb_t (D.2.1 11 p) i = false := by
        rw [b01, hQ.2.2.2.2.2.2.1] at hc
        exact hc
      refine ⟨c 1, hX.2.1, h.1.2.2.1, ct_countPages h.1.2.2.1 h.1.2.2.2.1 h.1.2.2.2.2.2.1 h.g7 (fun _ => ⟨_, rfl, ?_⟩)⟩
      have en : nI (D.1.1.countP (fun g => decide (mm_i M g 0 = nI i))) = d_np D i := by
        unfold d_np
        congr 1
        exact List.countP_congr (fun g hg => by rw [(h.2.2.2.2.1 g hg).1])
      rw [en]
      have h9 := hQ.2.2.2.2.2.2.2.2
      refine cw_canPay h ht hgh hp8 (fun M1 g1 _ => ⟨_, rfl, fun hc1 => cw_canPay g1 ht hgh hp8 (fun M2 g2 _ => ⟨_, rfl, fun hc2 => cw_lkEnd hp.1 hp8 hi hr h9 g2 (fun M3 g3 => k2 p i r M3 hL hb ?_ g3), fun hc2 => ?_⟩), fun hc1 => ?_⟩)
      · intro t
        rw [if_pos t] at hc1
        exact hc1 rfl
      · by_cases t : d_S D p < d_np D i
        · rw [if_pos t] at hc1
          exact absurd rfl hc1
        · rw [if_neg t] at hc2
          exact absurd hc2 (by decide)
      · have hS : d_S D p < d_np D i := by
          apply Decidable.byContradiction
          intro t
          rw [if_neg t] at hc1
          exact absurd hc1 (by decide)
        refine cw_collectHeap hA hrg hfl (Or.inr hp.1) g1 (fun M2 rs n1 n2 g2 _ => ⟨_, rfl, ?_⟩)
        obtain ⟨⟨c1, c2⟩, c3, c4⟩ := k3 p i r M2 rs hL hb hS n1 n2 g2
        refine cw_canPay g2 c1 c2 hp8 (fun M3 g3 _ => ⟨_, rfl, fun hc2 => cw_lkEnd (by rw [d_col_m]; exact hp.1) hp8 hi hr (by rw [d_col_r (by decide)]; exact h9) g3 (fun M4 g4 => c4 M4 ?_ g4), fun hc2 => c3 M3 ?_ g3⟩)
        · intro t
          rw [if_pos t] at hc2
          exact hc2 rfl
        · apply Decidable.byContradiction
          intro t
          rw [if_neg t] at hc2
          exact absurd hc2 (by decide)
  · rw [b01] at u
    have e5 := e'.2.2.2.2.1
    rw [e3] at e5
    have e6 : i = i' := (nI_eq (by omega) (by have := e'.2.1; omega)).mp e5
    have e7 := e'.2.2.2.2.2.2
    rw [← e6, u] at e7
    cases e7
end QY
