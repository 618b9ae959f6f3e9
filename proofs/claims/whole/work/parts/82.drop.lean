/-! THE CLASS AS A WHOLE: charges are dropped -/
def clr (x : Int32) (i : Nat) : Int32 := x &&& (((1 : Int32) <<< (nI i &&& 31)) ^^^ (-1))
def epn (D : ph_D) (i n : Nat) : ph_D := (D.1, fun k p => if k = 11 ∧ p < n ∧ D.2.1 6 p = 4 then clr (D.2.1 11 p) i else D.2.1 k p, D.2.2)
def d_ep (D : ph_D) (i : Nat) : ph_D := epn D i (d_m D)
/-- charges of p after the first n shared heaps -/
def du (D : ph_D) (p : Nat) : Nat → Int32
  | 0 => D.2.1 11 p
  | n + 1 => if d_ho D p (nI (9 + n)) = true ∨ d_it D p (9 + n) = true then du D p n else clr (du D p n) (9 + n)
def d_du (D : ph_D) (p : Nat) : ph_D := di D 11 p (du D p 4)
def d_cd (D : ph_D) : Nat → ph_D
  | 0 => D
  | n + 1 => if d_it (d_cd D n) 8 (9 + n) = true then d_cd D n else d_ep (d_cd D n) (9 + n)
section QH
variable {l : Launch} {G : mm_G} {K : Option mm_V → mm_M → Prop} {M M1 Mb N : mm_M} {c : Nat → Nat} {F : Nat → Prop} {D D1 : ph_D} {eP eO eP1 eO1 : Nat}
theorem epn_i (D : ph_D) (i n k p : Nat) : (epn D i n).2.1 k p = if k = 11 ∧ p < n ∧ D.2.1 6 p = 4 then clr (D.2.1 11 p) i else D.2.1 k p := rfl
theorem epn_n {i n k p : Nat} (hk : k ≠ 11) : (epn D i n).2.1 k p = D.2.1 k p := by rw [epn_i, if_neg (fun z => hk z.1)]
theorem epn_0 (i : Nat) : epn D i 0 = D := by
  have : (fun k p => if k = 11 ∧ p < 0 ∧ D.2.1 6 p = 4 then clr (D.2.1 11 p) i else D.2.1 k p) = D.2.1 := by
    funext k p
    exact if_neg (fun z => by omega)
  show (D.1, (fun k p => if k = 11 ∧ p < 0 ∧ D.2.1 6 p = 4 then clr (D.2.1 11 p) i else D.2.1 k p), D.2.2) = D
  rw [this]
theorem epn_s {i n : Nat} (h : ¬ D.2.1 6 n = 4) : epn D i (n + 1) = epn D i n := by
  have : (fun k p => if k = 11 ∧ p < n + 1 ∧ D.2.1 6 p = 4 then clr (D.2.1 11 p) i else D.2.1 k p) = fun k p => if k = 11 ∧ p < n ∧ D.2.1 6 p = 4 then clr (D.2.1 11 p) i else D.2.1 k p := by
    funext k p
    by_cases w : p = n
    · rw [w, if_neg (fun z => h z.2.2), if_neg (fun z => h z.2.2)]
    · by_cases u : k = 11 ∧ p < n ∧ D.2.1 6 p = 4
      · rw [if_pos u, if_pos ⟨u.1, by omega, u.2.2⟩]
      · rw [if_neg u, if_neg (fun z => u ⟨z.1, by omega, z.2.2⟩)]
  unfold epn
  rw [this]
theorem epn_d {i n : Nat} (h : D.2.1 6 n = 4) : epn D i (n + 1) = di (epn D i n) 11 n (clr ((epn D i n).2.1 11 n) i) := by
  have e : (epn D i n).2.1 11 n = D.2.1 11 n := by rw [epn_i, if_neg (fun z => by omega)]
  rw [e]
  have : (fun k p => if k = 11 ∧ p < n + 1 ∧ D.2.1 6 p = 4 then clr (D.2.1 11 p) i else D.2.1 k p) = fun k p => if k = 11 ∧ p = n then clr (D.2.1 11 n) i else if k = 11 ∧ p < n ∧ D.2.1 6 p = 4 then clr (D.2.1 11 p) i else D.2.1 k p := by
    funext k p
    by_cases w : k = 11
    · by_cases u : p = n
      · rw [if_pos ⟨w, by omega, by rw [u]; exact h⟩, if_pos ⟨w, u⟩, u]
      · rw [if_neg (show ¬ (k = 11 ∧ p = n) from fun z => u z.2)]
        by_cases v : p < n ∧ D.2.1 6 p = 4
        · rw [if_pos ⟨w, by omega, v.2⟩, if_pos ⟨w, v⟩]
        · rw [if_neg (fun z => v ⟨by omega, z.2.2⟩), if_neg (fun z => v z.2)]
    · rw [if_neg (fun z => w z.1), if_neg (fun z => w z.1), if_neg (fun z => w z.1)]
  unfold epn di
  rw [this]
theorem cw_endPayment {i : Nat} (h : ph_R G c F Mb M D eP eO) (k : ∀ M1, ph_R G c F Mb M1 (d_ep D i) eP eO → K none M1) : mm_Ok l G yy_PH_endPaymentOfDead Y_PH_endPaymentOfDead [.inr (some (c 0)), .inl (nI i)] M K := by
  have hm2 := h.m.2.1
  have key : ∀ n p, d_m D - p = n → p ≤ d_m D → ∀ M1, ph_R G c F Mb M1 (epn D i p) eP eO → mm_Z l G Y_PH_endPaymentOfDead K M 0 0 2 [some (.inr (some (c 0))), some (.inl (nI i)), some (.inl (nI p))] [] M1 := by
    intro n
    induction n with
    | zero =>
      intro p hn hp M1 h1
      have e : p = d_m D := by omega
      subst e
      refine sg_PH_endPaymentOfDead_2 ⟨h1.2.1.1, fun _ => k M1 h1, fun hc => absurd ?_ hc⟩
      have em : d_m (epn D i (d_m D)) = d_m D := by unfold d_m; rw [epn_n (by decide)]
      rw [h1.m.2.2.2.1, em]
      exact nI_le (Nat.le_refl _) (by omega)
    | succ n ih =>
      intro p hn hp M1 h1
      have em : d_m (epn D i p) = d_m D := by unfold d_m; rw [epn_n (by decide)]
      obtain ⟨q, hq, h6, hQ⟩ := h1.m.2.2.2.2.2 p (by rw [em]; omega)
      have hX := h1.2.1
      refine sg_PH_endPaymentOfDead_2 ⟨hX.1, fun hc => absurd hc ?_, fun _ => ⟨c 8, hX.2.2.2.2.1, h1.kar, p, rfl, by omega, by rw [h1.lar]; omega, q, hq, h6, ct_living h6 (fun _ => ⟨_, rfl, fun hc => ?_, fun hc => ⟨c 8, hX.2.2.2.2.1, h1.kar, p, rfl, by omega, by rw [h1.lar]; omega, q, hq, h6, ct_dropCharge h6 (fun _ => ⟨rfl, ?_⟩)⟩⟩)⟩⟩
      · rw [h1.m.2.2.2.1, em]
        exact nI_ge (by omega) (by omega)
      · have h4 : ¬ D.2.1 6 p = 4 := fun w => by
          rw [hQ.2.1, epn_n (by decide), if_pos w] at hc
          exact hc rfl
        rw [nI_1]
        refine ih (p + 1) (by omega) (by omega) M1 ?_
        rw [epn_s h4]
        exact h1
      · have h4 : D.2.1 6 p = 4 := by
          rw [hQ.2.1, epn_n (by decide)] at hc
          apply Decidable.byContradiction
          intro w
          rw [if_neg w] at hc
          exact absurd hc (by decide)
        rw [nI_1]
        refine ih (p + 1) (by omega) (by omega) _ ?_
        rw [epn_d h4, hQ.2.2.2.2.2.2.1]
        exact h1.sq (by omega) hq (Or.inr (Or.inr ⟨rfl, rfl⟩)) _
  have z := key (d_m D) 0 rfl (Nat.zero_le _) M (by rw [epn_0]; exact h)
  rw [nI_0] at z
  exact sg_PH_endPaymentOfDead z
theorem di_di (D : ph_D) (k j : Nat) (v w : Int32) : di (di D k j v) k j w = di D k j w := by
  unfold di
  have : (fun q i => if q = k ∧ i = j then w else if q = k ∧ i = j then v else D.2.1 q i) = fun q i => if q = k ∧ i = j then w else D.2.1 q i := by
    funext q i
    by_cases u : q = k ∧ i = j
    · rw [if_pos u, if_pos u]
    · rw [if_neg u, if_neg u, if_neg u]
  rw [this]
theorem di_rf (D : ph_D) (k j : Nat) : di D k j (D.2.1 k j) = D := by
  unfold di
  have : (fun q i => if q = k ∧ i = j then D.2.1 k j else D.2.1 q i) = D.2.1 := by
    funext q i
    by_cases u : q = k ∧ i = j
    · rw [if_pos u, u.1, u.2]
    · rw [if_neg u]
  rw [this]
theorem d_h_di {k j : Nat} {v : Int32} (hk : k ≠ 0) (a : Nat) : d_h (di D k j v) a = d_h D a := by
  unfold d_h
  show (match D.2.2 0 a with | some g => (di D k j v).2.1 0 g | none => 0) = _
  cases D.2.2 0 a with
  | none => rfl
  | some g => exact di_n (fun z => hk z.symm)
theorem cw_dropUnused {p q : Nat} (hd : d_pg D) (h : ph_R G c F Mb M D eP eO) (hp : p < 8) (hq : mm_p M (c 8) p = some q) (hrg : ∀ r a, r < 4 → D.2.2 (4 + r) p = some a → a ∈ D.1.2) (k : ∀ M1, ph_R G c F Mb M1 (d_du D p) eP eO → (∀ j, mm_p M1 (c 8) j = mm_p M (c 8) j) → K none M1) : mm_Ok l G yy_PH_dropUnusedCharges Y_PH_dropUnusedCharges [.inr (some (c 0)), .inr (some q)] M K := by
  have key : ∀ n i, 4 - i = n → i ≤ 4 → ∀ M1, ph_R G c F Mb M1 (di D 11 p (du D p i)) eP eO → (∀ j, mm_p M1 (c 8) j = mm_p M (c 8) j) → mm_Z l G Y_PH_dropUnusedCharges K M 0 0 3 [some (.inr (some (c 0))), some (.inr (some q)), some (.inl (nI (9 + i)))] [] M1 := by
    intro n
    induction n with
    | zero =>
      intro i hn hi M1 h1 hf
      have : i = 4 := by omega
      subst this
      exact sg_PH_dropUnusedCharges_3 ⟨fun _ => k M1 h1 hf, fun z => absurd (by decide) z⟩
    | succ n ih =>
      intro i hn hi M1 h1 hf
      have hq1 : mm_p M1 (c 8) p = some q := by rw [hf]; exact hq
      obtain ⟨h6, hQ⟩ := h1.prs hp hq1
      have hd1 : d_pg (di D 11 p (du D p i)) := hd
      have hX := h1.2.1
      have eho : d_ho (di D 11 p (du D p i)) p (nI (9 + i)) = d_ho D p (nI (9 + i)) := by
        unfold d_ho
        congr 1
      have eit : d_it (di D 11 p (du D p i)) p (9 + i) = d_it D p (9 + i) := by
        unfold d_it
        show D.1.2.any _ = _
        congr 1
      refine sg_PH_dropUnusedCharges_3 ⟨fun z => absurd z (show ¬ nI 13 ≤ nI (9 + i) from nI_ge (by omega) (by decide)), fun _ => ⟨q, rfl, h6, cw_holds hd1 h1 hp hq1 hrg (fun _ => ⟨_, rfl, fun hc => ?_, fun hc => ⟨hX.1, c 1, hX.2.1, h1.1.2.2.1, ?_⟩⟩)⟩⟩
      · have hb : d_ho D p (nI (9 + i)) = true := by
          rw [eho] at hc
          cases z : d_ho D p (nI (9 + i)) with
          | true => rfl
          | false =>
            rw [z] at hc
            exact absurd rfl hc
        rw [nI_1]
        refine ih (i + 1) (by omega) (by omega) M1 ?_ hf
        show ph_R G c F Mb M1 (di D 11 p (if d_ho D p (nI (9 + i)) = true ∨ d_it D p (9 + i) = true then du D p i else clr (du D p i) (9 + i))) eP eO
        rw [if_pos (Or.inl hb)]
        exact h1
      · have hb : ¬ d_ho D p (nI (9 + i)) = true := fun z => by
          rw [eho, if_pos z] at hc
          exact absurd hc (by decide)
        rw [hQ.1]
        refine cw_itemInto (by omega) hd1 h1 (fun _ => ⟨_, rfl, fun hc2 => ?_, fun hc2 => ct_dropCharge h6 (fun _ => ⟨rfl, ?_⟩)⟩)
        · have hb2 : d_it D p (9 + i) = true := by
            rw [eit] at hc2
            cases z : d_it D p (9 + i) with
            | true => rfl
            | false =>
              rw [z] at hc2
              exact absurd rfl hc2
          rw [nI_1]
          refine ih (i + 1) (by omega) (by omega) M1 ?_ hf
          show ph_R G c F Mb M1 (di D 11 p (if d_ho D p (nI (9 + i)) = true ∨ d_it D p (9 + i) = true then du D p i else clr (du D p i) (9 + i))) eP eO
          rw [if_pos (Or.inr hb2)]
          exact h1
        · have hb2 : ¬ d_it D p (9 + i) = true := fun z => by
            rw [eit, if_pos z] at hc2
            exact absurd hc2 (by decide)
          rw [nI_1]
          refine ih (i + 1) (by omega) (by omega) _ ?_ hf
          show ph_R G c F Mb _ (di D 11 p (if d_ho D p (nI (9 + i)) = true ∨ d_it D p (9 + i) = true then du D p i else clr (du D p i) (9 + i))) eP eO
          rw [if_neg (fun z => z.elim hb hb2)]
          have z := h1.sq (j := 7) (kd := 11) hp hq1 (Or.inr (Or.inr ⟨rfl, rfl⟩)) (mm_i M1 q 7 &&& (((1 : Int32) <<< (nI (9 + i) &&& 31)) ^^^ (-1)))
          have e7 : mm_i M1 q 7 = du D p i := by rw [hQ.2.2.2.2.2.2.1, di_i, if_pos ⟨rfl, rfl⟩]
          rw [e7, di_di] at z
          rw [e7]
          exact z
  have z := key 4 0 rfl (by omega) M (by show ph_R G c F Mb M (di D 11 p (D.2.1 11 p)) eP eO; rw [di_rf]; exact h) (fun _ => rfl)
  exact sg_PH_dropUnusedCharges z
end QH
