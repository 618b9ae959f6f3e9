/-! THE CLASS AS A WHOLE: lookup -/
def d_lk (D : ph_D) (p i r : Nat) : ph_D := dp (di D 11 p (D.2.1 11 p ||| ((1 : Int32) <<< (nI i &&& 31)))) (4 + r) p (D.2.2 8 i)
section QX
variable {l : Launch} {G : mm_G} {K : Option mm_V → mm_M → Prop} {M M1 Mb N : mm_M} {c : Nat → Nat} {F : Nat → Prop} {D D1 : ph_D} {eP eO eP1 eO1 : Nat} {p q a b i j : Nat} {x y z w s : Int32}
/-- a living process, a frozen heap, a register -/
def d_lr (D : ph_D) (x y z : Int32) (p i r : Nat) : Prop := d_lv D p ∧ i < 13 ∧ r < 4 ∧ x = nI p ∧ y = nI i ∧ z = nI r ∧ (D.2.2 8 i).isSome = true
theorem cw_lkEnd {r : Nat} (hp : p < d_m D) (hp8 : p < 8) (hi : i < 13) (hr : r < 4) (h9 : D.2.2 9 p = some q) (h : ph_R G c F Mb M D eP eO) (k : ∀ M1, ph_R G c F Mb M1 (d_lk D p i r) eP eO → K (some (.inl 0)) M1) :
    mm_Ok l G yy_Pr_addCharge Y_Pr_addCharge [.inr (some q), .inl (nI i)] M (fun r0 M43 => mm_X M M43 → r0 = none ∧ ∃ a45 : Nat, (mm_p M43 (c 0) 4) = some a45 ∧ mm_k M43 a45 = 103 ∧ ∃ j48 : Nat, nI i = nI j48 ∧ j48 < 2147483648 ∧ j48 < mm_l M43 a45 ∧ ∃ a52 : Nat, (mm_p M43 q 4) = some a52 ∧ mm_k M43 a52 = 103 ∧ ∃ j55 : Nat, nI r = nI j55 ∧ j55 < 2147483648 ∧ j55 < mm_l M43 a52 ∧ (∀ q, (mm_p M43 a45 j48) = some q → mm_k M43 q = 8) ∧ K (some (.inl 0)) (mm_sp M43 a52 j55 (mm_p M43 a45 j48))) := by
  obtain ⟨hq, h6, hQ⟩ := h.at hp h9
  refine ct_addCharge h6 (fun _ => ⟨rfl, ?_⟩)
  have g1 := h.sq hp8 hq (Or.inr (Or.inr ⟨rfl, rfl⟩)) (mm_i M q 7 ||| ((1 : Int32) <<< (nI i &&& 31)))
  have hX := g1.2.1
  have hP := g1.1.2.1.2.1 q h6
  have eh : ∀ M2, ph_R G c F Mb M2 (di D 11 p (mm_i M q 7 ||| ((1 : Int32) <<< (nI i &&& 31)))) eP eO → mm_p M2 (c 9) i = D.2.2 8 i := fun M2 g => g.2.2.2.2.2.2.1.1 i hi
  have h8 : ∀ v, mm_p (mm_si M q 7 (mm_i M q 7 ||| ((1 : Int32) <<< (nI i &&& 31)))) (c 9) i = some v → mm_k M v = 8 := fun v hv => g1.1.2.1.2.2.1 (c 9) i v g1.kah hv
  refine ⟨c 9, hX.2.2.2.2.2.1, g1.kah, i, rfl, by omega, by rw [g1.lah]; exact hi, pr_a M q, hP.2.1, hP.2.2.1, r, rfl, by omega, by rw [show mm_l _ (pr_a M q) = 4 from hP.2.2.2]; exact hr, h8, k _ ?_⟩
  have g2 := g1.reg (v := mm_p (mm_si M q 7 (mm_i M q 7 ||| ((1 : Int32) <<< (nI i &&& 31)))) (c 9) i) hp8 hq hr h8
  rw [eh _ g1, hQ.2.2.2.2.2.2.1] at g2
  have e0 := eh _ g1
  rw [hQ.2.2.2.2.2.2.1] at e0 ⊢
  rw [e0]
  exact g2
end QX
