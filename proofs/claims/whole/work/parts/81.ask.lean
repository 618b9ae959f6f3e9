/-! THE CLASS AS A WHOLE: its small questions -/
def d_lv (D : ph_D) (p : Nat) : Prop := p < d_m D ∧ ¬ D.2.1 6 p = 4
/-- is a shared by a living process? has h an item into t? does p hold an object of h? -/
def d_sh (D : ph_D) (i : Nat) : Bool := (List.range (d_m D)).any (fun p => !decide (D.2.1 6 p = 4) && bb_t (D.2.1 11 p) i)
def d_it (D : ph_D) (h t : Nat) : Bool := D.1.2.any (fun a => decide (d_h D a = nI t) && bb_t (D.2.1 5 a) h)
def d_ho (D : ph_D) (p : Nat) (h : Int32) : Bool := (List.range 4).any (fun r => (D.2.2 (4 + r) p).any (fun a => decide (d_h D a = h)))
section QG
variable {l : Launch} {G : mm_G} {K : Option mm_V → mm_M → Prop} {M M1 Mb N : mm_M} {c : Nat → Nat} {F : Nat → Prop} {D D1 : ph_D} {eP eO eP1 eO1 : Nat}
theorem cw_isHeap {x : Int32} (k0 : (∀ i, i < 13 → ¬ x = nI i) → K (some (.inl 0)) M) (k1 : ∀ i, i < 13 → x = nI i → K (some (.inl 1)) M) : mm_Ok l G yy_PH_isHeap Y_PH_isHeap [.inl x] M K := by
  refine sg_PH_isHeap ⟨fun h => k0 (fun i hi e => ?_), fun h => ⟨fun h2 => k0 (fun i hi e => ?_), fun h2 => ?_⟩⟩
  · rw [e] at h
    exact nI_pos (by omega) h
  · rw [e] at h2
    exact nI_ge hi (by decide) h2
  · rcases pk_ix x (n := 13) (by decide) with z | z | ⟨j, hj, e⟩
    · exact absurd z h
    · exact absurd z h2
    · exact k1 j hj e
theorem cw_isRegister {x : Int32} (k0 : (∀ i, i < 4 → ¬ x = nI i) → K (some (.inl 0)) M) (k1 : ∀ i, i < 4 → x = nI i → K (some (.inl 1)) M) : mm_Ok l G yy_PH_isRegister Y_PH_isRegister [.inl x] M K := by
  refine sg_PH_isRegister ⟨fun h => k0 (fun i hi e => ?_), fun h => ⟨fun h2 => k0 (fun i hi e => ?_), fun h2 => ?_⟩⟩
  · rw [e] at h
    exact nI_pos (by omega) h
  · rw [e] at h2
    exact nI_ge hi (by decide) h2
  · rcases pk_ix x (n := 4) (by decide) with z | z | ⟨j, hj, e⟩
    · exact absurd z h
    · exact absurd z h2
    · exact k1 j hj e
theorem cw_isField {x : Int32} (k0 : (∀ i, i < 3 → ¬ x = nI i) → K (some (.inl 0)) M) (k1 : ∀ i, i < 3 → x = nI i → K (some (.inl 1)) M) : mm_Ok l G yy_PH_isField Y_PH_isField [.inl x] M K := by
  refine sg_PH_isField ⟨fun h => k0 (fun i hi e => ?_), fun h => ⟨fun h2 => k0 (fun i hi e => ?_), fun h2 => ?_⟩⟩
  · rw [e] at h
    exact nI_pos (by omega) h
  · rw [e] at h2
    exact nI_ge hi (by decide) h2
  · rcases pk_ix x (n := 3) (by decide) with z | z | ⟨j, hj, e⟩
    · exact absurd z h
    · exact absurd z h2
    · exact k1 j hj e
theorem cw_frozen {x : Int32} (h : ph_R G c F Mb M D eP eO) (k0 : (∀ i, i < 13 → ¬ x = nI i) → K (some (.inl 0)) M) (k1 : ∀ i, i < 13 → x = nI i → K (some (.inl (if (D.2.2 8 i).isSome = true then 1 else 0))) M) : mm_Ok l G yy_PH_isFrozen Y_PH_isFrozen [.inr (some (c 0)), .inl x] M K := by
  have hX := h.2.1
  refine sg_PH_isFrozen (cw_isHeap (fun hn _ => ⟨_, rfl, fun _ => k0 hn, fun z => absurd rfl z⟩) (fun i hi e _ => ⟨_, rfl, fun z => absurd z (by decide), fun _ => ⟨hX.1, c 9, hX.2.2.2.2.2.1, h.kah, i, e, by omega, by rw [h.lah]; exact hi, fun hc => ?_, fun a ha => ?_⟩⟩))
  · have z := k1 i hi e
    rw [← h.2.2.2.2.2.2.1.1 i hi, hc] at z
    exact z
  · have z := k1 i hi e
    rw [← h.2.2.2.2.2.2.1.1 i hi, ha] at z
    exact z
theorem cw_made {x : Int32} (h : ph_R G c F Mb M D eP eO) (k0 : (∀ p, p < d_m D → ¬ x = nI p) → K (some (.inl 0)) M) (k1 : ∀ p, p < d_m D → x = nI p → K (some (.inl 1)) M) : mm_Ok l G yy_PH_isMade Y_PH_isMade [.inr (some (c 0)), .inl x] M K := by
  have hX := h.2.1
  obtain ⟨m1, m2, m3, m4, m5, m6⟩ := h.m
  refine sg_PH_isMade ⟨fun h1 => k0 (fun i hi e => ?_), fun h1 => ⟨fun h2 => k0 (fun i hi e => ?_), fun h2 => ?_⟩⟩
  · rw [e] at h1
    exact nI_pos (by omega) h1
  · rw [e] at h2
    exact nI_ge (show i < 8 by omega) (by decide) h2
  · rcases pk_ix x (n := 8) (by decide) with z | z | ⟨j, hj, e⟩
    · exact absurd z h1
    · exact absurd z h2
    · refine ⟨hX.1, c 8, hX.2.2.2.2.1, h.kar, j, e, by omega, by rw [h.lar]; exact hj, fun hc => k0 (fun i hi e2 => ?_), fun q hq => k1 j ?_ e⟩
      · rw [e] at e2
        have e3 : j = i := (nI_eq (by omega) (by omega)).mp e2
        obtain ⟨q, hq, -⟩ := m6 i hi
        rw [e3, hq] at hc
        cases hc
      · rcases Nat.lt_or_ge j (d_m D) with z | z
        · exact z
        · rw [(m5 j z hj).1] at hq
          cases hq
theorem cw_living {x : Int32} (h : ph_R G c F Mb M D eP eO) (k0 : (∀ p, d_lv D p → ¬ x = nI p) → K (some (.inr none)) M) (k1 : ∀ p q, d_lv D p → p < 8 → x = nI p → mm_p M (c 8) p = some q → mm_k M q = 6 → ph_Q M D p q → K (some (.inr (some q))) M) : mm_Ok l G yy_PH_livingProcess Y_PH_livingProcess [.inr (some (c 0)), .inl x] M K := by
  have hX := h.2.1
  obtain ⟨m1, m2, m3, m4, m5, m6⟩ := h.m
  refine sg_PH_livingProcess ⟨hX.1, cw_made h (fun hn _ => ⟨_, rfl, fun _ => k0 (fun p hp => hn p hp.1), fun z => absurd rfl z⟩) (fun p hp e _ => ⟨_, rfl, fun z => absurd z (by decide), fun _ => ?_⟩)⟩
  obtain ⟨q, hq, h6, hQ⟩ := m6 p hp
  refine ⟨c 8, hX.2.2.2.2.1, h.kar, p, e, by omega, by rw [h.lar]; omega, q, hq, h6, ct_living h6 (fun _ => ⟨_, rfl, fun hc => k0 (fun p' hp' e2 => ?_), fun hc => ⟨c 8, hX.2.2.2.2.1, h.kar, p, e, by omega, by rw [h.lar]; omega, ?_⟩⟩)⟩
  · rw [e] at e2
    have hp8 := hp'.1
    have e3 : p = p' := (nI_eq (by omega) (by omega)).mp e2
    subst e3
    rw [hQ.2.1, if_neg hp'.2] at hc
    exact absurd hc (by decide)
  · rw [hq]
    refine k1 p q ⟨hp, fun z => ?_⟩ (by omega) e hq h6 hQ
    rw [hQ.2.1, if_pos z] at hc
    exact hc rfl
theorem cw_itemInto {hn t : Nat} (h32 : hn < 32) (hd : d_pg D) (h : ph_R G c F Mb M D eP eO) (k : K (some (.inl (if d_it D hn t = true then 1 else 0))) M) : mm_Ok l G yy_Me_hasItemInto Y_Me_hasItemInto [.inr (some (c 1)), .inl (nI hn), .inl (nI t)] M K := by
  refine ct_hasItemInto h32 h.1.2.2.1 h.1.2.2.2.2.1 h.1.2.2.2.2.2.2.1 (fun a ha => h.1.2.1.1 a (h.x8 a ha)) ?_
  have e : D.1.2.any (fun a => decide (oo_h M a = nI t) && bb_t (mm_i M a 5) hn) = d_it D hn t := by
    unfold d_it
    rw [Bool.eq_iff_iff, List.any_eq_true, List.any_eq_true]
    constructor
    · rintro ⟨a, ha, z⟩
      exact ⟨a, ha, by rw [← h.hh hd ha, ← (h.2.2.2.2.2.1 a ha).2.2.2.1]; exact z⟩
    · rintro ⟨a, ha, z⟩
      exact ⟨a, ha, by rw [h.hh hd ha, (h.2.2.2.2.2.1 a ha).2.2.2.1]; exact z⟩
  rw [e]
  exact k
theorem cw_holds {p q : Nat} {hn : Int32} (hd : d_pg D) (h : ph_R G c F Mb M D eP eO) (hp : p < 8) (hq : mm_p M (c 8) p = some q) (hrg : ∀ r a, r < 4 → D.2.2 (4 + r) p = some a → a ∈ D.1.2) (k : K (some (.inl (if d_ho D p hn = true then 1 else 0))) M) : mm_Ok l G yy_Pr_holdsObjectOf Y_Pr_holdsObjectOf [.inr (some q), .inl hn] M K := by
  obtain ⟨h6, hQ⟩ := h.prs hp hq
  refine ct_holds h.1.2.1 h6 ?_
  have e : (List.range 4).any (fun r => (pr_r M q r).any (fun a => decide (oo_h M a = hn))) = d_ho D p hn := by
    unfold d_ho
    have e1 : ∀ r, r < 4 → (pr_r M q r).any (fun a => decide (oo_h M a = hn)) = (D.2.2 (4 + r) p).any (fun a => decide (d_h D a = hn)) := by
      intro r hr
      rw [hQ.2.2.2.2.2.2.2.1 r hr]
      cases w : D.2.2 (4 + r) p with
      | none => rfl
      | some a =>
        rw [Option.any_some, Option.any_some, h.hh hd (hrg r a hr w)]
    rw [Bool.eq_iff_iff, List.any_eq_true, List.any_eq_true]
    constructor
    · rintro ⟨r, hr, z⟩
      exact ⟨r, hr, by rw [← e1 r (List.mem_range.mp hr)]; exact z⟩
    · rintro ⟨r, hr, z⟩
      exact ⟨r, hr, by rw [e1 r (List.mem_range.mp hr)]; exact z⟩
  rw [e]
  exact k
theorem cw_shared {i : Nat} (hi : i < 32) (h : ph_R G c F Mb M D eP eO) (k : K (some (.inl (if d_sh D i = true then 1 else 0))) M) : mm_Ok l G yy_PH_isSharedByLiving Y_PH_isSharedByLiving [.inr (some (c 0)), .inl (nI i)] M K := by
  have hX := h.2.1
  obtain ⟨m1, m2, m3, m4, m5, m6⟩ := h.m
  have key := lp_from (gs := List.range (d_m D)) (P := fun n => K (some (.inl (if ((List.range (d_m D)).drop n).any (fun p => !decide (D.2.1 6 p = 4) && bb_t (D.2.1 11 p) i) = true then 1 else 0))) M → mm_Z l G Y_PH_isSharedByLiving K M 0 0 2 [some (.inr (some (c 0))), some (.inl (nI i)), some (.inl (nI n))] [] M) ?_ ?_ 0 (Nat.zero_le _) k
  · rw [nI_0] at key
    exact sg_PH_isSharedByLiving key
  · intro k1
    rw [List.drop_length] at k1
    rw [List.length_range]
    refine sg_PH_isSharedByLiving_2 ⟨hX.1, fun _ => k1, fun hc => absurd ?_ hc⟩
    rw [m4]
    exact nI_le (Nat.le_refl _) (by omega)
  · intro n p hn ih k1
    have hnl : n < d_m D := by have := (List.getElem?_eq_some_iff.mp hn).1; simpa using this
    have hnp : n = p := by
      have := (List.getElem?_eq_some_iff.mp hn).2
      simpa using this
    subst hnp
    rw [dr_s hn, List.any_cons] at k1
    obtain ⟨q, hq, h6, hQ⟩ := m6 n hnl
    refine sg_PH_isSharedByLiving_2 ⟨hX.1, fun hc => absurd hc ?_, fun _ => ⟨c 8, hX.2.2.2.2.1, h.kar, n, rfl, by omega, by rw [h.lar]; omega, q, hq, h6, ct_living h6 (fun _ => ⟨_, rfl, fun hc => ?_, fun hc => ⟨c 8, hX.2.2.2.2.1, h.kar, n, rfl, by omega, by rw [h.lar]; omega, q, hq, h6, ct_charged h6 hi (fun _ => ⟨_, rfl, fun hc2 => ?_, fun hc2 => ?_⟩)⟩⟩)⟩⟩
    · rw [m4]
      exact nI_ge hnl (by omega)
    · have h4 : D.2.1 6 n = 4 := by
        rw [hQ.2.1] at hc
        apply Decidable.byContradiction
        intro w
        rw [if_neg w] at hc
        exact absurd hc (by decide)
      rw [decide_eq_true h4, Bool.not_true, Bool.false_and, Bool.false_or] at k1
      rw [nI_1]
      exact ih k1
    · have h4 : ¬ D.2.1 6 n = 4 := fun w => by
        rw [hQ.2.1, if_pos w] at hc
        exact hc rfl
      have hb : bb_t (D.2.1 11 n) i = false := by
        rw [hQ.2.2.2.2.2.2.1] at hc2
        cases z : bb_t (D.2.1 11 n) i with
        | false => rfl
        | true =>
          rw [z, if_pos rfl] at hc2
          exact absurd hc2 (by decide)
      rw [decide_eq_false h4, hb, Bool.and_false, Bool.false_or] at k1
      rw [nI_1]
      exact ih k1
    · have h4 : ¬ D.2.1 6 n = 4 := fun w => by
        rw [hQ.2.1, if_pos w] at hc
        exact hc rfl
      have hb : bb_t (D.2.1 11 n) i = true := by
        rw [hQ.2.2.2.2.2.2.1] at hc2
        cases z : bb_t (D.2.1 11 n) i with
        | true => rfl
        | false =>
          rw [z] at hc2
          exact absurd rfl hc2
      rw [decide_eq_false h4, hb] at k1
      exact k1
end QG
