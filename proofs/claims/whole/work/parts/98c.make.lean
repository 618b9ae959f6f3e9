/-! THE CLASS AS A WHOLE: make, the call -/
/-- a living process, a register, a size -/
def d_mk (D : ph_D) (x y z : Int32) (p r : Nat) : Prop := d_lv D p ∧ r < 4 ∧ x = nI p ∧ y = nI r ∧ ¬ z < 1 ∧ z ≤ 16
/-- the heap that is collected when p makes an object -/
def d_cn (D : ph_D) (p : Nat) : Nat := if D.2.1 6 p = 2 ∨ D.2.1 6 p = 3 then 8 else p
section RC
variable {l : Launch} {G : mm_G} {K : Option mm_V → mm_M → Prop} {M M1 Mb N : mm_M} {c : Nat → Nat} {F : Nat → Prop} {D D1 : ph_D} {eP eO eP1 eO1 : Nat} {p q a b i j r g : Nat} {x y z w s t : Int32}
theorem cp_make (hA : d_A D) (hrg : d_rg D) (hfl : d_fl D) (ht : d_tr D) (hgh : d_gh D) (hlg : D.1.1.length ≤ 60) (h : ph_R G c F Mb M D eP eO) (k0 : (∀ p r, ¬ d_mk D x y z p r) → K (some (.inl (-1))) M) (k1 : ∀ p r, d_mk D x y z p r → D.1.2.length = 60 → K (some (.inl (-4))) M)
    (k2 : ∀ p r M1 e1 e2 D2, d_mk D x y z p r → D.1.2.length < 60 → d_mks D p r z w D2 → ph_R G c F Mb M1 D2 e1 e2 → K (some (.inl 0)) M1)
    (k3 : ∀ p r M1 rs, d_mk D x y z p r → D.1.2.length < 60 → d_fp D p z = none → d_S D (d_pm D p) < 1 → rs.Nodup → (∀ a, a ∈ rs ↔ a ∈ D.1.2 ∧ d_h D a = nI (d_cn D p) ∧ d_Re D (nI (d_cn D p)) a) → ph_R G c F Mb M1 (d_col D (d_cn D p) rs) eP eO →
      (d_tr (d_col D (d_cn D p) rs) ∧ d_gh (d_col D (d_cn D p) rs) ∧ (d_col D (d_cn D p) rs).1.1.length ≤ 60 ∧ (d_col D (d_cn D p) rs).1.2.length ≤ 60) ∧
      (∀ M2, d_fp (d_col D (d_cn D p) rs) p z = none → d_S (d_col D (d_cn D p) rs) (d_pm (d_col D (d_cn D p) rs) p) < 1 → ph_R G c F Mb M2 (d_col D (d_cn D p) rs) eP eO → K (some (.inl (-5))) M2) ∧
      (∀ M2 e1 e2 D2, d_mks (d_col D (d_cn D p) rs) p r z w D2 → ph_R G c F Mb M2 D2 e1 e2 → K (some (.inl 0)) M2)) : mm_Ok l G yy_PH_make Y_PH_make [.inr (some (c 0)), .inl x, .inl y, .inl z, .inl w] M K := by
  have hX := h.2.1
  refine sg_PH_make ⟨hX.1, cw_living h (fun hn _ => ⟨_, rfl, fun _ => k0 (fun p r e => hn p e.1 e.2.2.1), fun a u => by cases u⟩) (fun p q hp hp8 e hq h6 hQ _ => ⟨_, rfl, fun u => (by cases u), fun a ha => ?_⟩)⟩
  have haq : q = a := Option.some.inj ha
  subst haq
  refine cw_isRegister (fun hn _ => ⟨_, rfl, fun _ => k0 (fun p r e => hn r e.2.1 e.2.2.2.1), fun u => absurd rfl u⟩) (fun r hr e2 _ => ⟨_, rfl, fun u => absurd u (by decide), fun _ => ⟨fun h1 => k0 (fun p r e => e.2.2.2.2.1 h1), fun h1 => ⟨fun h16 => ?_, fun h16 => k0 (fun p r e => h16 e.2.2.2.2.2)⟩⟩⟩)
  have hM : d_mk D x y z p r := ⟨hp, hr, e, e2, h1, h16⟩
  subst e
  subst e2
  have h9 := hQ.2.2.2.2.2.2.2.2
  have hle := hA.2.2.2
  refine ⟨c 1, hX.2.1, h.1.2.2.1, c 11, h.1.2.2.2.2.1, h.1.2.2.2.2.2.2.1.1, ct_size h.1.2.2.2.2.2.2.1 (fun _ => ⟨_, rfl, fun h60 => ?_, fun h60 => k1 p r hM ?_⟩)⟩
  · have hlt : D.1.2.length < 60 := by
      rcases Nat.lt_or_ge D.1.2.length 60 with u | u
      · exact u
      · exact absurd (show nI D.1.2.length < nI 60 from h60) (nI_nlt u (by omega))
    refine cw_mkTail (K := K) (t := w) ht hgh hlg hle hp.1 hr h9 h (fun M1 f1 f2 g1 => ⟨fun _ => ?_, fun a u => by cases u⟩) (fun M1 g hg hk6 => ⟨fun u => (by cases u), fun a u => ⟨fun u2 => (by cases u2), fun a2 u2 => ⟨hk6, hg⟩⟩⟩) (fun M1 e1 e2 D2 hmk g2 => k2 p r M1 e1 e2 D2 hM hlt hmk g2)
    have hq1 := g1.at hp.1 h9
    refine ⟨hq1.2.1, ct_kernel hq1.2.1 (fun _ => ⟨_, rfl, fun hc => ?_, fun hc => ?_⟩)⟩
    · have hcn : d_cn D p = p := if_neg (fun u => by rw [hq1.2.2.2.1, if_pos u] at hc; exact absurd hc (by decide))
      refine cw_collectHeap hA hrg hfl (Or.inr hp.1) g1 (fun M2 rs n1 n2 g2 _ => ⟨_, rfl, ?_⟩)
      have k3' := k3 p r M2 rs hM hlt f1 f2
      rw [hcn] at k3'
      obtain ⟨⟨c1, c2, c3, c4⟩, c5, c6⟩ := k3' n1 n2 g2
      exact cw_mkTail (K := K) (t := w) c1 c2 c3 c4 (by rw [d_col_m]; exact hp.1) hr (by rw [d_col_r (by decide)]; exact h9) g2 (fun M3 f3 f4 g3 => ⟨fun _ => c5 M3 f3 f4 g3, fun a u => by cases u⟩) (fun M3 g hg _ => ⟨fun u => (by cases u), fun a u => hg⟩) c6
    · have hcn : d_cn D p = 8 := if_pos (by
        apply Decidable.byContradiction
        intro u
        rw [hq1.2.2.2.1, if_neg u] at hc
        exact hc rfl)
      show mm_Ok l G yy_PH_collectHeap Y_PH_collectHeap [.inr (some (c 0)), .inl (nI 8)] M1 _
      refine cw_collectHeap hA hrg hfl (Or.inl rfl) g1 (fun M2 rs n1 n2 g2 _ => ⟨_, rfl, ?_⟩)
      have k3' := k3 p r M2 rs hM hlt f1 f2
      rw [hcn] at k3'
      obtain ⟨⟨c1, c2, c3, c4⟩, c5, c6⟩ := k3' n1 n2 g2
      exact cw_mkTail (K := K) (t := w) c1 c2 c3 c4 (by rw [d_col_m]; exact hp.1) hr (by rw [d_col_r (by decide)]; exact h9) g2 (fun M3 f3 f4 g3 => ⟨fun _ => c5 M3 f3 f4 g3, fun a u => by cases u⟩) (fun M3 g hg _ => ⟨fun u => (by cases u), fun a u => hg⟩) c6
  · rcases Nat.lt_or_ge D.1.2.length 60 with u | u
    · exact absurd (show nI D.1.2.length < nI 60 from nI_lt u (by decide)) h60
    · omega
end RC
