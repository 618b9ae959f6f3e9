/-! THE CLASS AS A WHOLE: make -/
/-- p has an object q of s cells with the tag t in the page g, in its register r -/
def d_new (D : ph_D) (p r g q : Nat) (s t : Int32) : ph_D := dp (d_ao D g q s t) (4 + r) p (some q)
/-- where the object of a make comes to lie -/
def d_mks (D : ph_D) (p r : Nat) (s t : Int32) (D2 : ph_D) : Prop := ∃ g q, q ∉ D.1.2 ∧ ((d_fp D p s = some g ∧ D2 = d_new D p r g q s t) ∨ (d_fp D p s = none ∧ ¬ d_S D (d_pm D p) < 1 ∧ g ∉ D.1.1 ∧ D2 = d_new (d_ap D g (d_hm D p) (nI (d_pm D p))) p r g q s t))
section RA
variable {l : Launch} {G : mm_G} {K : Option mm_V → mm_M → Prop} {M M1 Mb N : mm_M} {c : Nat → Nat} {F : Nat → Prop} {D D1 : ph_D} {eP eO eP1 eO1 : Nat} {p q a b i j r g : Nat} {x y z w s t : Int32}
theorem cw_mkPut (hlen : D.1.2.length ≤ 60) (hg : g ∈ D.1.1) (hp : p < d_m D) (hr : r < 4) (h9 : D.2.2 9 p = some q) (h : ph_R G c F Mb M D eP eO) (k : ∀ M1 e1 q2, q2 ∉ D.1.2 → ph_R G c F Mb M1 (d_new D p r g q2 s t) eP e1 → K (some (.inl 0)) M1) :
    ∃ a35 : Nat, (mm_p M (c 0) 0) = some a35 ∧ mm_k M a35 = 2 ∧ mm_Ok l G yy_Me_putObject Y_Me_putObject [.inr (some a35), .inr (some g), .inl s, .inl t] M (fun r0 M33 => mm_X M M33 → ∃ o38 : Option Nat, r0 = some (.inr o38) ∧ ∃ a39 : Nat, (mm_p M q 4) = some a39 ∧ mm_k M33 a39 = 103 ∧ ∃ j42 : Nat, nI r = nI j42 ∧ j42 < 2147483648 ∧ j42 < mm_l M33 a39 ∧ (∀ q, o38 = some q → mm_k M33 q = 8) ∧ K (some (.inl 0)) (mm_sp M33 a39 j42 o38)) := by
  obtain ⟨hq, h6, hQ⟩ := h.at hp h9
  have hm8 := h.m.2.1
  refine ⟨c 1, h.2.1.2.1, h.1.2.2.1, cw_putObject h hlen hg (fun M1 e1 q2 hq2 hfp g1 _ => ⟨_, rfl, ?_⟩)⟩
  have em : d_m (d_ao D g q2 s t) = d_m D := d_m_c (by
    show (if 12 = 2 ∧ 0 = g then D.2.1 2 g - s else if 12 = 3 ∧ 0 = q2 then s else if 12 = 4 ∧ 0 = q2 then t else if 12 = 5 ∧ 0 = q2 then 0 else D.2.1 12 0) = _
    rw [if_neg (fun u => by cases u.1), if_neg (fun u => by cases u.1), if_neg (fun u => by cases u.1), if_neg (fun u => by cases u.1)])
  have e9 : (d_ao D g q2 s t).2.2 9 p = some q := by
    show (if 9 = 0 ∧ p = q2 then some g else if (9 = 1 ∨ 9 = 2 ∨ 9 = 3) ∧ p = q2 then none else D.2.2 9 p) = _
    rw [if_neg (fun u => by cases u.1), if_neg (fun u => by omega)]
    exact h9
  obtain ⟨hq1, h61, hQ1⟩ := g1.at (by rw [em]; exact hp) e9
  have hP := g1.1.2.1.2.1 q h61
  have ea : pr_a M1 q = pr_a M q := by unfold pr_a; rw [hfp q h6]
  have hk8 : mm_k M1 q2 = 8 := g1.x8 q2 (List.mem_append.mpr (Or.inr (List.mem_singleton.mpr rfl)))
  have g2 := g1.reg (v := some q2) (by omega) hq1 hr (fun u hu => by cases hu; exact hk8)
  refine ⟨pr_a M1 q, by rw [← hfp q h6]; exact hP.2.1, hP.2.2.1, r, rfl, by omega, by rw [hP.2.2.2]; exact hr, fun u hu => (by cases hu; exact hk8), k _ e1 q2 hq2 g2⟩
end RA
