/-! THE CLASS AS A WHOLE: make, the call -/
section RB
variable {l : Launch} {G : mm_G} {K : Option mm_V → mm_M → Prop} {M M1 Mb N : mm_M} {c : Nat → Nat} {F : Nat → Prop} {D D1 : ph_D} {eP eO eP1 eO1 : Nat} {p q a b i j r g : Nat} {x y z w s t : Int32}
theorem d_fp_mem {g : Nat} (h : d_fp D p s = some g) : g ∈ D.1.1 := List.mem_of_find?_eq_some h
theorem cw_mkTail {K2 : Option Nat → mm_M → Prop} (ht : d_tr D) (hgh : d_gh D) (hlg : D.1.1.length ≤ 60) (hlen : D.1.2.length ≤ 60) (hp : p < d_m D) (hr : r < 4) (h9 : D.2.2 9 p = some q) (h : ph_R G c F Mb M D eP eO)
    (k0 : ∀ M1, d_fp D p s = none → d_S D (d_pm D p) < 1 → ph_R G c F Mb M1 D eP eO → K2 none M1)
    (k1 : ∀ M1 g, (∃ a35 : Nat, (mm_p M1 (c 0) 0) = some a35 ∧ mm_k M1 a35 = 2 ∧ mm_Ok l G yy_Me_putObject Y_Me_putObject [.inr (some a35), .inr (some g), .inl s, .inl t] M1 (fun r0 M33 => mm_X M1 M33 → ∃ o38 : Option Nat, r0 = some (.inr o38) ∧ ∃ a39 : Nat, (mm_p M1 q 4) = some a39 ∧ mm_k M33 a39 = 103 ∧ ∃ j42 : Nat, nI r = nI j42 ∧ j42 < 2147483648 ∧ j42 < mm_l M33 a39 ∧ (∀ q, o38 = some q → mm_k M33 q = 8) ∧ K (some (.inl 0)) (mm_sp M33 a39 j42 o38))) → mm_k M1 q = 6 → K2 (some g) M1)
    (k2 : ∀ M1 e1 e2 D2, d_mks D p r s t D2 → ph_R G c F Mb M1 D2 e1 e2 → K (some (.inl 0)) M1) : mm_Ok l G yy_PH_pageForMaking Y_PH_pageForMaking [.inr (some (c 0)), .inr (some q), .inl s] M (fun r0 M29 => mm_X M M29 → ∃ o31 : Option Nat, r0 = some (.inr o31) ∧ K2 o31 M29) := by
  refine cw_pageFor ht hgh hlg h hp h9 (fun g hg _ => ⟨_, rfl, ?_⟩) (fun M1 f1 f2 g1 _ => ⟨_, rfl, k0 M1 f1 f2 g1⟩) (fun M1 e1 g f1 f2 hgn g1 _ => ⟨_, rfl, ?_⟩)
  · exact k1 M g (cw_mkPut hlen (d_fp_mem hg) hp hr h9 h (fun M2 e2 q2 hq2 g2 => k2 M2 _ _ _ ⟨g, q2, hq2, Or.inl ⟨hg, rfl⟩⟩ g2)) (h.at hp h9).2.1
  · have em : d_m (d_ap D g (d_hm D p) (nI (d_pm D p))) = d_m D := d_m_c (by
      show (if 0 = g ∧ 12 = 0 then d_hm D p else if 0 = g ∧ 12 = 1 then nI (d_pm D p) else if 0 = g ∧ 12 = 2 then 16 else D.2.1 12 0) = _
      rw [if_neg (fun u => by cases u.2), if_neg (fun u => by cases u.2), if_neg (fun u => by cases u.2)])
    have hp1 : p < d_m (d_ap D g (d_hm D p) (nI (d_pm D p))) := by rw [em]; exact hp
    exact k1 M1 g (cw_mkPut (D := d_ap D g (d_hm D p) (nI (d_pm D p))) hlen (List.mem_append.mpr (Or.inr (List.mem_singleton.mpr rfl))) hp1 hr h9 g1 (fun M2 e2 q2 hq2 g2 => k2 M2 _ _ _ ⟨g, q2, hq2, Or.inr ⟨f1, f2, hgn, rfl⟩⟩ g2)) (g1.at hp1 h9).2.1
end RB
