/-! THE CLASS AS A WHOLE: what may be changed, named, held; a field is set -/
def d_mc (D : ph_D) (p i : Nat) : Bool := if i = 8 then decide (D.2.1 6 p = 2 ∨ D.2.1 6 p = 3) else !(D.2.2 8 i).isSome
/-- may an object of heap i name one of heap j? -/
def d_mn (D : ph_D) (p i j : Nat) : Bool := if i = j then true else if i = 8 then decide (j = p) else decide (i = p) && (decide (j = 8) || (D.2.2 8 j).isSome)
def d_mh (D : ph_D) (p j : Nat) : Bool := if j < 8 then decide (j = p) else !(D.2.2 8 j).isSome || bb_t (D.2.1 11 p) j
def d_sf (D : ph_D) (a f i : Nat) (v : Option Nat) : ph_D := match v with
  | none => dp D (1 + f) a none
  | some b => if d_h D b = d_h D a then dp D (1 + f) a (some b) else di (dp D (1 + f) a (some b)) 5 b (D.2.1 5 b ||| ((1 : Int32) <<< (nI i &&& 31)))
section QO
variable {l : Launch} {G : mm_G} {K : Option mm_V → mm_M → Prop} {M M1 Mb N : mm_M} {c : Nat → Nat} {F : Nat → Prop} {D D1 : ph_D} {eP eO eP1 eO1 : Nat} {p q a b i j : Nat}
theorem b01 (b : Bool) : (if b = true then (1 : Int32) else 0) = 0 ↔ b = false := by cases b <;> decide
theorem cw_mayChange (hd : d_pg D) (h : ph_R G c F Mb M D eP eO) (h6 : mm_k M q = 6) (hQ : ph_Q M D p q) (ha : a ∈ D.1.2) (hi : i < 13) (ei : d_h D a = nI i) (k : K (some (.inl (if d_mc D p i = true then 1 else 0))) M) : mm_Ok l G yy_PH_mayChange Y_PH_mayChange [.inr (some (c 0)), .inr (some q), .inr (some a)] M K := by
  have hX := h.2.1
  unfold d_mc at k
  refine sg_PH_mayChange ⟨a, rfl, h.x8 a ha, ct_heap (h.1.2.1.1 a (h.x8 a ha)) (fun _ => ⟨_, rfl, fun h8 => ⟨hX.1, ?_⟩, fun h8 => ⟨q, rfl, h6, ct_kernel h6 (fun _ => ⟨_, rfl, ?_, ?_⟩)⟩⟩)⟩
  · rw [h.hh hd ha, ei] at h8 ⊢
    have hi8 : ¬ i = 8 := fun w => h8 (by rw [w]; rfl)
    rw [if_neg hi8] at k
    refine cw_frozen h (fun w => absurd rfl (w i hi)) (fun i' hi' e _ => ?_)
    have e2 : i = i' := (nI_eq (by omega) (by omega)).mp e
    subst e2
    refine ⟨_, rfl, fun w => ?_, fun w => ?_⟩
    · cases u : (D.2.2 8 i).isSome with
      | true =>
        rw [u] at k
        exact k
      | false =>
        rw [u] at w
        exact absurd rfl w
    · rw [b01] at w
      rw [w] at k
      exact k
  · by_cases w : mm_i M q 5 = 2 ∨ mm_i M q 5 = 3
    · rw [if_pos w]
      exact Or.inr rfl
    · rw [if_neg w]
      exact Or.inl rfl
  · rw [h.hh hd ha, ei] at h8
    have hi8 : i = 8 := (nI_eq (by omega) (by decide)).mp h8
    rw [if_pos hi8] at k
    rw [hQ.2.1]
    by_cases w : D.2.1 6 p = 2 ∨ D.2.1 6 p = 3
    · rw [if_pos (decide_eq_true w)] at k
      rw [if_pos w]
      exact k
    · rw [if_neg (by simp [w])] at k
      rw [if_neg w]
      exact k
theorem cw_mayHold (hd : d_pg D) (h : ph_R G c F Mb M D eP eO) (h6 : mm_k M q = 6) (hp : p < 8) (hQ : ph_Q M D p q) (hb : b ∈ D.1.2) (hj : j < 13) (ej : d_h D b = nI j) (k : K (some (.inl (if d_mh D p j = true then 1 else 0))) M) : mm_Ok l G yy_PH_mayHold Y_PH_mayHold [.inr (some (c 0)), .inr (some q), .inr (some b)] M K := by
  have hX := h.2.1
  unfold d_mh at k
  refine sg_PH_mayHold ⟨fun w => (by cases w), fun b' hb' => ?_⟩
  have eb : b = b' := Option.some.inj hb'
  subst eb
  refine ⟨h.x8 b hb, ct_heap (h.1.2.1.1 b (h.x8 b hb)) (fun _ => ⟨_, rfl, fun h8 => ⟨hX.1, ?_⟩, fun h8 => ⟨q, rfl, h6, fun hc => ?_, fun hc => ?_⟩⟩)⟩
  · rw [h.hh hd hb, ej] at h8 ⊢
    have hj8 : ¬ j < 8 := fun w => nI_ge w (by decide) h8
    rw [if_neg hj8] at k
    refine cw_frozen h (fun w => absurd rfl (w j hj)) (fun i' hi' e _ => ?_)
    have e2 : j = i' := (nI_eq (by omega) (by omega)).mp e
    subst e2
    refine ⟨_, rfl, fun w => ?_, fun w => ⟨q, rfl, h6, ct_charged h6 (by omega) (fun _ => ⟨_, rfl, fun u => ?_, fun u => ?_⟩)⟩⟩
    · rw [b01] at w
      rw [w] at k
      exact k
    · have w' : (D.2.2 8 j).isSome = true := by
        cases v : (D.2.2 8 j).isSome with
        | true => rfl
        | false =>
          rw [v] at w
          exact absurd rfl w
      rw [b01, hQ.2.2.2.2.2.2.1] at u
      rw [w', u] at k
      exact k
    · have w' : (D.2.2 8 j).isSome = true := by
        cases v : (D.2.2 8 j).isSome with
        | true => rfl
        | false =>
          rw [v] at w
          exact absurd rfl w
      have u' : bb_t (D.2.1 11 p) j = true := by
        rw [hQ.2.2.2.2.2.2.1] at u
        cases v : bb_t (D.2.1 11 p) j with
        | true => rfl
        | false =>
          rw [v] at u
          exact absurd rfl u
      rw [w', u'] at k
      exact k
  · rw [h.hh hd hb, ej] at h8 hc
    have hj8 : j < 8 := by
      rcases Nat.lt_or_ge j 8 with w | w
      · exact w
      · exact absurd (show nI 8 ≤ nI j from nI_le w (by omega)) h8
    rw [hQ.1] at hc
    have hne : ¬ j = p := fun w => hc (by rw [w])
    rw [if_pos hj8, decide_eq_false hne] at k
    exact k
  · rw [h.hh hd hb, ej] at h8 hc
    have hj8 : j < 8 := by
      rcases Nat.lt_or_ge j 8 with w | w
      · exact w
      · exact absurd (show nI 8 ≤ nI j from nI_le w (by omega)) h8
    rw [hQ.1] at hc
    have he : j = p := (nI_eq (by omega) (by omega)).mp hc
    rw [if_pos hj8, decide_eq_true he] at k
    exact k
theorem cw_setField {f : Nat} {v : Option Nat} (hd : d_pg D) (h : ph_R G c F Mb M D eP eO) (ha : a ∈ D.1.2) (hf : f < 3) (hv : ∀ b, v = some b → b ∈ D.1.2) (ei : d_h D a = nI i) (k : ∀ M1, ph_R G c F Mb M1 (d_sf D a f i v) eP eO → K none M1) : mm_Ok l G yy_Ob_setField Y_Ob_setField [.inr (some a), .inl (nI f), .inr v] M K := by
  have ha8 := h.x8 a ha
  refine ct_setField (h := i) h.1.2.1 ha8 hf (fun b hb => h.x8 b (hv b hb)) (by rw [h.hh hd ha]; exact ei) (k _ ?_)
  have g1 := h.fld (v := v) ha hf (fun b hb => h.x8 b (hv b hb))
  cases v with
  | none => exact g1
  | some b =>
    have hb := hv b rfl
    have hd1 : d_pg (dp D (1 + f) a (some b)) := fun a' ha' => by
      obtain ⟨g, hg, e⟩ := hd a' ha'
      exact ⟨g, hg, by rw [dp_n (by omega)]; exact e⟩
    have edh : ∀ a', d_h (dp D (1 + f) a (some b)) a' = d_h D a' := fun a' => by
      unfold d_h
      rw [dp_n (by omega)]
      rfl
    have e1 := g1.hh hd1 (a := a) ha
    have e2 := g1.hh hd1 (a := b) hb
    rw [edh] at e1 e2
    show ph_R G c F Mb (if oo_h (mm_sp M (oo_a M a) f (some b)) b = oo_h (mm_sp M (oo_a M a) f (some b)) a then mm_sp M (oo_a M a) f (some b) else mm_si (mm_sp M (oo_a M a) f (some b)) b 5 (mm_i (mm_sp M (oo_a M a) f (some b)) b 5 ||| ((1 : Int32) <<< (nI i &&& 31)))) (if d_h D b = d_h D a then dp D (1 + f) a (some b) else di (dp D (1 + f) a (some b)) 5 b (D.2.1 5 b ||| ((1 : Int32) <<< (nI i &&& 31)))) eP eO
    rw [e1, e2]
    by_cases w : d_h D b = d_h D a
    · rw [if_pos w, if_pos w]
      exact g1
    · rw [if_neg w, if_neg w]
      have z := g1.item (a := b) hb (D.2.1 5 b ||| ((1 : Int32) <<< (nI i &&& 31)))
      rw [mm_i_sp, (h.2.2.2.2.2.1 b hb).2.2.2.1]
      exact z
end QO
