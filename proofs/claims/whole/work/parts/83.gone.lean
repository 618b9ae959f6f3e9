/-! THE CLASS AS A WHOLE: heaps that go; a collection; death -/
def d_gn (D : ph_D) : Nat → ph_D
  | 0 => D
  | n + 1 => if ((d_gn D n).2.2 8 (9 + n)).isSome = true ∧ d_sh (d_gn D n) (9 + n) = false ∧ d_it (d_gn D n) 8 (9 + n) = false then d_ep (d_fr (dp (d_gn D n) 8 (9 + n) none) (fun a => !decide (d_h (d_gn D n) a = nI (9 + n)))) (9 + n) else d_gn D n
/-- the first n registers of p are emptied -/
def d_er (D : ph_D) (p : Nat) : Nat → ph_D
  | 0 => D
  | n + 1 => dp (d_er D p n) (4 + n) p none
section QI
variable {l : Launch} {G : mm_G} {K : Option mm_V → mm_M → Prop} {M M1 Mb N : mm_M} {c : Nat → Nat} {F : Nat → Prop} {D D1 : ph_D} {eP eO eP1 eO1 : Nat}
theorem d_cd_1 (D : ph_D) : ∀ n, (d_cd D n).1 = D.1 ∧ (d_cd D n).2.2 = D.2.2
  | 0 => ⟨rfl, rfl⟩
  | n + 1 => by
    have ih := d_cd_1 D n
    show (if d_it (d_cd D n) 8 (9 + n) = true then d_cd D n else d_ep (d_cd D n) (9 + n)).1 = D.1 ∧ (if d_it (d_cd D n) 8 (9 + n) = true then d_cd D n else d_ep (d_cd D n) (9 + n)).2.2 = D.2.2
    by_cases w : d_it (d_cd D n) 8 (9 + n) = true
    · rw [if_pos w]
      exact ih
    · rw [if_neg w]
      exact ih
theorem cw_dropDead (hd : d_pg D) (h : ph_R G c F Mb M D eP eO) (k : ∀ M1, ph_R G c F Mb M1 (d_cd D 4) eP eO → K none M1) : mm_Ok l G yy_PH_dropChargesOfDead Y_PH_dropChargesOfDead [.inr (some (c 0))] M K := by
  have key : ∀ n i, 4 - i = n → i ≤ 4 → ∀ M1, ph_R G c F Mb M1 (d_cd D i) eP eO → mm_Z l G Y_PH_dropChargesOfDead K M 0 0 3 [some (.inr (some (c 0))), some (.inl (nI (9 + i)))] [] M1 := by
    intro n
    induction n with
    | zero =>
      intro i hn hi M1 h1
      have : i = 4 := by omega
      subst this
      exact sg_PH_dropChargesOfDead_3 ⟨fun _ => k M1 h1, fun z => absurd (by decide) z⟩
    | succ n ih =>
      intro i hn hi M1 h1
      have hX := h1.2.1
      have hd1 : d_pg (d_cd D i) := by
        obtain ⟨e1, e2⟩ := d_cd_1 D i
        unfold d_pg
        rw [e1, e2]
        exact hd
      refine sg_PH_dropChargesOfDead_3 ⟨fun z => absurd z (show ¬ nI 13 ≤ nI (9 + i) from nI_ge (by omega) (by decide)), fun _ => ⟨hX.1, c 1, hX.2.1, h1.1.2.2.1, cw_itemInto (hn := 8) (by decide) hd1 h1 (fun _ => ⟨_, rfl, fun hc => ?_, fun hc => ?_⟩)⟩⟩
      · have hb : d_it (d_cd D i) 8 (9 + i) = true := by
          cases z : d_it (d_cd D i) 8 (9 + i) with
          | true => rfl
          | false =>
            rw [z] at hc
            exact absurd rfl hc
        rw [nI_1]
        refine ih (i + 1) (by omega) (by omega) M1 ?_
        show ph_R G c F Mb M1 (if d_it (d_cd D i) 8 (9 + i) = true then d_cd D i else d_ep (d_cd D i) (9 + i)) eP eO
        rw [if_pos hb]
        exact h1
      · have hb : ¬ d_it (d_cd D i) 8 (9 + i) = true := fun z => by
          rw [if_pos z] at hc
          exact absurd hc (by decide)
        refine cw_endPayment h1 (fun M2 h2 _ => ⟨rfl, ?_⟩)
        rw [nI_1]
        refine ih (i + 1) (by omega) (by omega) M2 ?_
        show ph_R G c F Mb M2 (if d_it (d_cd D i) 8 (9 + i) = true then d_cd D i else d_ep (d_cd D i) (9 + i)) eP eO
        rw [if_neg hb]
        exact h2
  exact sg_PH_dropChargesOfDead (key 4 0 rfl (by omega) M h)
theorem cw_dropGone (hd : ∀ n, n < 4 → d_pg (d_gn D n)) (h : ph_R G c F Mb M D eP eO) (k : ∀ M1, ph_R G c F Mb M1 (d_gn D 4) eP eO → K none M1) : mm_Ok l G yy_PH_dropGoneHeaps Y_PH_dropGoneHeaps [.inr (some (c 0))] M K := by
  have key : ∀ n i, 4 - i = n → i ≤ 4 → ∀ M1, ph_R G c F Mb M1 (d_gn D i) eP eO → mm_Z l G Y_PH_dropGoneHeaps K M 0 0 3 [some (.inr (some (c 0))), some (.inl (nI (9 + i)))] [] M1 := by
    intro n
    induction n with
    | zero =>
      intro i hn hi M1 h1
      have : i = 4 := by omega
      subst this
      exact sg_PH_dropGoneHeaps_3 ⟨fun _ => k M1 h1, fun z => absurd (by decide) z⟩
    | succ n ih =>
      intro i hn hi M1 h1
      have hX := h1.2.1
      have hd1 := hd i (by omega)
      have stay : ¬ (((d_gn D i).2.2 8 (9 + i)).isSome = true ∧ d_sh (d_gn D i) (9 + i) = false ∧ d_it (d_gn D i) 8 (9 + i) = false) → mm_Z l G Y_PH_dropGoneHeaps K M 0 0 3 [some (.inr (some (c 0))), some (.inl (nI (9 + i) + 1))] [] M1 := by
        intro hb
        rw [nI_1]
        refine ih (i + 1) (by omega) (by omega) M1 ?_
        show ph_R G c F Mb M1 (if ((d_gn D i).2.2 8 (9 + i)).isSome = true ∧ d_sh (d_gn D i) (9 + i) = false ∧ d_it (d_gn D i) 8 (9 + i) = false then d_ep (d_fr (dp (d_gn D i) 8 (9 + i) none) (fun a => !decide (d_h (d_gn D i) a = nI (9 + i)))) (9 + i) else d_gn D i) eP eO
        rw [if_neg hb]
        exact h1
      refine sg_PH_dropGoneHeaps_3 ⟨fun z => absurd z (show ¬ nI 13 ≤ nI (9 + i) from nI_ge (by omega) (by decide)), fun _ => ⟨hX.1, cw_frozen h1 (fun z => absurd rfl (z (9 + i) (by omega))) (fun i' hi' e _ => ?_)⟩⟩
      have ei : 9 + i = i' := (nI_eq (by omega) (by omega)).mp e
      subst ei
      refine ⟨_, rfl, fun hc => stay (fun z => ?_), fun hc => cw_shared (by omega) h1 (fun _ => ⟨_, rfl, fun hc2 => stay (fun z => ?_), fun hc2 => ⟨c 1, hX.2.1, h1.1.2.2.1, cw_itemInto (hn := 8) (by decide) hd1 h1 (fun _ => ⟨_, rfl, fun hc3 => stay (fun z => ?_), fun hc3 => ⟨c 9, hX.2.2.2.2.2.1, h1.kah, 9 + i, rfl, by omega, by rw [h1.lah]; omega, c 1, ?_, h1.1.2.2.1, ?_⟩⟩)⟩⟩)⟩
      · rw [if_pos z.1] at hc
        exact absurd hc (by decide)
      · rw [z.2.1] at hc2
        exact hc2 rfl
      · rw [z.2.2] at hc3
        exact hc3 rfl
      · have hne : c 0 ≠ c 9 := fun z => by
          have := hX.1
          rw [z, h1.kah] at this
          cases this
        rw [mm_p_sp, if_neg (fun z => hne z.1)]
        exact hX.2.1
      · have h2 := h1.hd (i := 9 + i) (v := none) (fun w hw => by cases hw)
        refine cw_free (D := dp (d_gn D i) 8 (9 + i) none) hd1 h2 (fun M2 h3 _ => ⟨_, rfl, cw_endPayment h3 (fun M3 h4 _ => ⟨rfl, ?_⟩)⟩)
        rw [nI_1]
        refine ih (i + 1) (by omega) (by omega) M3 ?_
        show ph_R G c F Mb M3 (if ((d_gn D i).2.2 8 (9 + i)).isSome = true ∧ d_sh (d_gn D i) (9 + i) = false ∧ d_it (d_gn D i) 8 (9 + i) = false then d_ep (d_fr (dp (d_gn D i) 8 (9 + i) none) (fun a => !decide (d_h (d_gn D i) a = nI (9 + i)))) (9 + i) else d_gn D i) eP eO
        have b1 : ((d_gn D i).2.2 8 (9 + i)).isSome = true := by
          cases z : ((d_gn D i).2.2 8 (9 + i)).isSome with
          | true => rfl
          | false =>
            rw [z] at hc
            exact absurd rfl hc
        have b2 : d_sh (d_gn D i) (9 + i) = false := by
          cases z : d_sh (d_gn D i) (9 + i) with
          | false => rfl
          | true =>
            rw [z, if_pos rfl] at hc2
            exact absurd hc2 (by decide)
        have b3 : d_it (d_gn D i) 8 (9 + i) = false := by
          cases z : d_it (d_gn D i) 8 (9 + i) with
          | false => rfl
          | true =>
            rw [z, if_pos rfl] at hc3
            exact absurd hc3 (by decide)
        rw [if_pos ⟨b1, b2, b3⟩]
        exact h4
  exact sg_PH_dropGoneHeaps (key 4 0 rfl (by omega) M h)
end QI
