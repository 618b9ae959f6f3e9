/-! THE REFERENCE: its public methods by cases, first part -/
theorem bw_bw (b : rB) (U T U1 T1 : Nat → Nat) : bw (bw b U T) U1 T1 = bw b U1 T1 := by
  funext k j
  by_cases h1 : k = 22
  · simp [bw, h1]
  · by_cases h2 : k = 23
    · simp [bw, h1, h2]
    · simp [bw, h1, h2]
theorem rst_bw (b : rB) (U T U1 : Nat → Nat) (f : Nat) (v : Int32) (m : Nat) : rst (bw b U T) U1 f v m = rst b U1 f v m := by
  induction f generalizing v m with
  | zero => rfl
  | succ f ih =>
    show (if m = 0 ∨ b 3 m ≠ 0 then v else rst (bw b U T) U1 f _ (b 1 m)) = (if m = 0 ∨ b 3 m ≠ 0 then v else rst b U1 f _ (b 1 m))
    rw [ih]
    rfl
theorem rsn_bw (b : rB) (U T U1 : Nat → Nat) (n : Nat) : rsn (bw b U T) U1 n = rsn b U1 n := rst_bw b U T U1 8 _ n
section RL
variable {l : Launch} {G : mm_G} {K : Option mm_V → mo_A → Prop} {a0 : Nat} {ad : Nat → Nat} {Mb : mm_M} {L : Nat → Int32} {b : rB} {N h t p r k n s : Nat} {x y z w : Int32}
theorem in_or (c : Nat) (hc : c < 2 ^ 31) (x : Int32) : (∃ p, p < c ∧ x = nI p) ∨ (x < 0 ∨ nI c ≤ x) ∧ ∀ p, p < c → ¬ x = nI p := by
  by_cases h0 : x < 0
  · exact Or.inr ⟨Or.inl h0, fun p hp e => by rw [e] at h0; exact nI_pos (by omega) h0⟩
  · obtain ⟨j, hj, e⟩ := nI_of h0
    rcases Nat.lt_or_ge j c with h1 | h1
    · exact Or.inl ⟨j, h1, e⟩
    · exact Or.inr ⟨Or.inr (by rw [e]; exact nI_le h1 hj), fun p hp e2 => by
        rw [e] at e2
        have := eqN j p e2
        omega⟩
theorem cq_state (k0 : (∀ p, p < 8 → ¬ x = nI p) → K (some (.inl 0)) (ra L b)) (k1 : ∀ p, p < 8 → x = nI p → K (some (.inl (nI (b 0 p)))) (ra L b)) : mo_Ok l G yy_Mo_state Y_Mo_state [.inr (some a0), .inl x] a0 ad Mb (ra L b) K := by
  rcases in_or 8 (by decide) x with ⟨p, hp, rfl⟩ | ⟨h1, h2⟩
  · exact mg_state ⟨fun h => absurd h (nI_pos (by omega)), fun _ => ⟨fun _ => ⟨p, rfl, hp, k1 p hp rfl⟩, fun h => absurd (nI_le (show p ≤ 7 by omega) (by decide)) h⟩⟩
  · refine mg_state ⟨fun _ => k0 h2, fun hn => ⟨fun h7 => ?_, fun _ => k0 h2⟩⟩
    rcases h1 with h1 | h1
    · exact absurd h1 hn
    · exact absurd (Int32.le_trans h1 h7) (by decide)
theorem cq_pages (hb : rb N b) (k0 : (∀ i, i < 13 → ¬ x = nI i) → K (some (.inl 0)) (ra L b)) (k1 : ∀ i, i < 13 → x = nI i → K (some (.inl (nI (pc b i)))) (ra L b)) : mo_Ok l G yy_Mo_pages Y_Mo_pages [.inr (some a0), .inl x] a0 ad Mb (ra L b) K := by
  rcases in_or 13 (by decide) x with ⟨p, hp, rfl⟩ | ⟨h1, h2⟩
  · exact cr_pagesN hb hp (k1 p hp rfl)
  · refine mg_pages (up_ind (P := fun i => mo_Z l G Y_Mo_pages K a0 ad Mb 4 [some (.inr (some a0)), some (.inl x), some (.inl 0), some (.inl (nI i))] [] (ra L b)) 24 (mg_pages_4 ⟨fun _ => k0 h2, fun hc => absurd (nleN 24 24 hc) (by omega)⟩) (fun i hi ih => ?_) 0 (by omega))
    have ih2 : mo_Z l G Y_Mo_pages K a0 ad Mb 4 [some (.inr (some a0)), some (.inl x), some (.inl (0 + 0)), some (.inl (nI i + 1))] [] (ra L b) := by
      rw [nI_1]
      exact ih
    refine mg_pages_4 ⟨fun hc => absurd (leN 24 i hc) (by omega), fun _ => ⟨fun _ => ih2, fun hn => ⟨fun _ => ih2, fun h13 => ?_⟩⟩⟩
    exact (h1.elim hn h13).elim
theorem cq_objects (hb : rb N b) (k0 : (∀ i, i < 13 → ¬ x = nI i) → K (some (.inl 0)) (ra L b)) (k1 : ∀ i, i < 13 → x = nI i → K (some (.inl (nI (oc b i)))) (ra L b)) : mo_Ok l G yy_Mo_objects Y_Mo_objects [.inr (some a0), .inl x] a0 ad Mb (ra L b) K := by
  rcases in_or 13 (by decide) x with ⟨p, hp, rfl⟩ | ⟨h1, h2⟩
  · exact cr_objectsN hb hp (k1 p hp rfl)
  · refine mg_objects (up_ind (P := fun i => mo_Z l G Y_Mo_objects K a0 ad Mb 4 [some (.inr (some a0)), some (.inl x), some (.inl 0), some (.inl (nI i))] [] (ra L b)) 60 (mg_objects_4 ⟨fun _ => k0 h2, fun hc => absurd (nleN 60 60 hc) (by omega)⟩) (fun i hi ih => ?_) 0 (by omega))
    have ih2 : mo_Z l G Y_Mo_objects K a0 ad Mb 4 [some (.inr (some a0)), some (.inl x), some (.inl (0 + 0)), some (.inl (nI i + 1))] [] (ra L b) := by
      rw [nI_1]
      exact ih
    refine mg_objects_4 ⟨fun hc => absurd (leN 60 i hc) (by omega), fun _ => ⟨fun _ => ih2, fun hn => ⟨fun _ => ih2, fun h13 => ?_⟩⟩⟩
    exact (h1.elim hn h13).elim
theorem cq_items (hb : rb N b) (k0 : (∀ i, i < 13 → ¬ x = nI i) → K (some (.inl 0)) (ra L b)) (k1 : ∀ i, i < 13 → x = nI i → K (some (.inl (nI (ic b i)))) (ra L b)) : mo_Ok l G yy_Mo_items Y_Mo_items [.inr (some a0), .inl x] a0 ad Mb (ra L b) K := by
  rcases in_or 13 (by decide) x with ⟨p, hp, rfl⟩ | ⟨h1, h2⟩
  · exact cr_itemsN hb hp (k1 p hp rfl)
  · exact mg_items (mg_items_4 ⟨fun hc => absurd hc (by decide), fun _ => ⟨fun _ => k0 h2, fun hn => ⟨fun _ => k0 h2, fun h13 => (h1.elim hn h13).elim⟩⟩⟩)
theorem cr_exists (hb : rb N b) (k0 : ∀ U T, (∀ j, T j ≤ 1) → (∀ n, n < 8 → wkE b U T n) → (∀ p, p < 8 → x = nI p → b 0 p = 0 ∨ T p = 0) → K (some (.inl 0)) (ra L (bw b U T))) (k1 : ∀ U T p, (∀ j, T j ≤ 1) → (∀ n, n < 8 → wkE b U T n) → p < 8 → x = nI p → 0 < b 0 p → T p ≠ 0 → K (some (.inl 1)) (ra L (bw b U T))) : mo_Ok l G yy_Mo_exists Y_Mo_exists [.inr (some a0), .inl x] a0 ad Mb (ra L b) K := by
  refine mg_exists (cr_work hb (fun U T hT hE => ⟨rfl, ?_⟩))
  rcases in_or 8 (by decide) x with ⟨p, hp, rfl⟩ | ⟨h1, h2⟩
  · have h0 : b 0 p ≤ 4 := hb.2 0 p (by decide)
    have hTp := hT p
    refine ⟨fun h => absurd h (nI_pos (by omega)), fun _ => ⟨fun h => absurd (leN 8 p h) (by omega), fun _ => ⟨p, rfl, hp, fun e => k0 U T hT hE (fun q hq e2 => ?_), fun e => ⟨fun e2 => k0 U T hT hE (fun q hq e3 => ?_), fun e2 => k1 U T p hT hE hp rfl (nleN (b 0 p) 0 e) (neN (T p) 0 e2)⟩⟩⟩⟩
    · rw [← eqN p q e2]
      exact Or.inl (by have := leN (b 0 p) 0 e; omega)
    · rw [← eqN p q e3]
      exact Or.inr (eqN (T p) 0 e2)
  · have k0' := k0 U T hT hE (fun p hp e => absurd e (h2 p hp))
    exact ⟨fun _ => k0', fun hn => ⟨fun _ => k0', fun h8 => (h1.elim hn h8).elim⟩⟩
theorem cq_use (hb : rb N b) (k0 : ∀ U T, (∀ j, T j ≤ 1) → (∀ n, n < 8 → wkE b U T n) → (∀ p, p < 8 → x = nI p → b 0 p = 0 ∨ T p = 0) → K (some (.inl (-1))) (ra L (bw b U T))) (k1 : ∀ U T p, (∀ j, T j ≤ 1) → (∀ n, n < 8 → wkE b U T n) → p < 8 → x = nI p → 0 < b 0 p → T p ≠ 0 → K (some (.inl (nI (U p)))) (ra L (bw b U T))) : mo_Ok l G yy_Mo_use Y_Mo_use [.inr (some a0), .inl x] a0 ad Mb (ra L b) K :=
  mg_use (cr_exists hb (fun U T hT hE h => ⟨_, rfl, fun _ => k0 U T hT hE h, fun u => absurd rfl u⟩) (fun U T p hT hE hp e h1 h2 => ⟨_, rfl, fun u => absurd u (by decide), fun _ => ⟨p, e, hp, k1 U T p hT hE hp e h1 h2⟩⟩))
theorem cq_room (hb : rb N b) (k0 : ∀ U T, (∀ j, T j ≤ 1) → (∀ n, n < 8 → wkE b U T n) → (∀ p, p < 8 → x = nI p → b 0 p = 0 ∨ T p = 0) → K (some (.inl (-1))) (ra L (bw b U T))) (k1 : ∀ U T U1 T1 p, (∀ n, n < 8 → wkE b U T n) → (∀ j, T1 j ≤ 1) → (∀ n, n < 8 → wkE b U1 T1 n) → p < 8 → x = nI p → 0 < b 0 p → T p ≠ 0 → K (some (.inl (rsn b U1 p))) (ra L (bw b U1 T1))) : mo_Ok l G yy_Mo_room Y_Mo_room [.inr (some a0), .inl x] a0 ad Mb (ra L b) K := by
  refine mg_room (cr_exists hb (fun U T hT hE h => ⟨_, rfl, fun _ => k0 U T hT hE h, fun u => absurd rfl u⟩) (fun U T p hT hE hp e h1 h2 => ⟨_, rfl, fun u => absurd u (by decide), fun _ => ?_⟩))
  subst e
  refine cr_rest (rb_bw hb hT) hp (fun U1 T1 hT1 hE1 => ⟨_, rfl, ?_⟩)
  rw [rsn_bw, bw_bw]
  exact k1 U T U1 T1 p hE hT1 hE1 hp rfl h1 h2
theorem cq_shares (hb : rb N b) (k0 : (∀ p k, p < 8 → lv b p → k < 4 → x = nI p → y = nI (9 + k) → b 15 k = 2 → b 19 (4 * p + k) = 0) → K (some (.inl 0)) (ra L b)) (k1 : ∀ p k, p < 8 → lv b p → k < 4 → x = nI p → y = nI (9 + k) → b 15 k = 2 → b 19 (4 * p + k) ≠ 0 → K (some (.inl 1)) (ra L b)) : mo_Ok l G yy_Mo_shares Y_Mo_shares [.inr (some a0), .inl x, .inl y] a0 ad Mb (ra L b) K := by
  refine mg_shares (cr_lives hb (fun h => ⟨rfl, _, rfl, fun _ => k0 (fun p k hp hl _ e _ _ => absurd hl (h p hp e)), fun u => absurd rfl u⟩) (fun p hp e hl => ⟨rfl, _, rfl, fun u => absurd u (by decide), fun _ => ?_⟩))
  refine cr_frozen hb (fun h => ⟨rfl, _, rfl, fun _ => k0 (fun p k hp hl hk _ e e2 => absurd e2 (h k hk e)), fun u => absurd rfl u⟩) (fun k hk e2 hs => ⟨rfl, _, rfl, fun u => absurd u (by decide), fun _ => ?_⟩)
  subst e
  subst e2
  have ei : (4 : Int32) * nI p + nI (9 + k) - 9 = nI (4 * p + k) := by
    rw [show (4 : Int32) * nI p + nI (9 + k) = nI (4 * p + (9 + k)) from ixN 4 p (9 + k), show 4 * p + (9 + k) = 4 * p + k + 9 by omega, ← nI_add]
    exact Int32.add_sub_cancel _ _
  have h19 : b 19 (4 * p + k) ≤ 1 := hb.2 19 _ (by decide)
  refine ⟨4 * p + k, ei, by omega, fun e => k0 (fun p1 k1 hp1 _ hk1 e1 e2 _ => ?_), fun e => k1 p k hp hl hk rfl rfl hs (neN (b 19 (4 * p + k)) 0 e)⟩
  have e3 := eqN p p1 e1
  have e4 := eqN (9 + k) (9 + k1) e2
  rw [← e3, show k1 = k by omega]
  exact eqN (b 19 (4 * p + k)) 0 e
theorem cq_where (hb : rb N b) (k0 : (∀ p r, p < 8 → lv b p → r < 4 → ¬ (x = nI p ∧ y = nI r)) → K (some (.inl (-1))) (ra L b)) (k1 : ∀ p r, p < 8 → lv b p → r < 4 → x = nI p → y = nI r → b 5 (4 * p + r) = 0 → K (some (.inl (-2))) (ra L b)) (k2 : ∀ p r v, p < 8 → lv b p → r < 4 → x = nI p → y = nI r → b 5 (4 * p + r) = v + 1 → K (some (.inl (nI (b 6 v) - 1))) (ra L b)) : mo_Ok l G yy_Mo_where Y_Mo_where [.inr (some a0), .inl x, .inl y] a0 ad Mb (ra L b) K := by
  refine mg_where (cr_lives hb (fun h => ⟨rfl, _, rfl, fun _ => k0 (fun p r hp hl _ e => h p hp e.1 hl), fun u => absurd rfl u⟩) (fun p hp e hl => ⟨rfl, _, rfl, fun u => absurd u (by decide), fun _ => ?_⟩))
  refine cr_isRegister (fun h => ⟨rfl, _, rfl, fun u => absurd rfl u, fun _ => k0 (fun p r _ _ hr e => h r hr e.2)⟩) (fun r hr e2 => ⟨rfl, _, rfl, fun _ => ?_, fun u => absurd u (by decide)⟩)
  subst e
  subst e2
  have h5 : b 5 (4 * p + r) ≤ 60 := hb.2 5 _ (by decide)
  refine ⟨4 * p + r, ixN 4 p r, by omega, fun e => ?_, fun e => k1 p r hp hl hr rfl rfl ?_⟩
  · have e0 : 0 < b 5 (4 * p + r) := Nat.pos_of_ne_zero (fun u => by
      have e : (0 : Int32) ≤ nI (b 5 (4 * p + r)) - 1 := e
      rw [u] at e
      exact absurd e (by decide))
    exact ⟨b 5 (4 * p + r) - 1, nI_sub1 e0, by omega, k2 p r (b 5 (4 * p + r) - 1) hp hl hr rfl rfl (by omega)⟩
  · rcases Nat.eq_zero_or_pos (b 5 (4 * p + r)) with u | u
    · exact u
    · exfalso
      apply e
      show (0 : Int32) ≤ nI (b 5 (4 * p + r)) - 1
      rw [nI_sub1 u]
      exact nI_pos' (by omega)
theorem cq_tag (hb : rb N b) (k0 : (∀ p r v, p < 8 → lv b p → r < 4 → x = nI p → y = nI r → ¬ b 5 (4 * p + r) = v + 1) → K (some (.inl 0)) (ra L b)) (k2 : ∀ p r v, p < 8 → lv b p → r < 4 → x = nI p → y = nI r → b 5 (4 * p + r) = v + 1 → K (some (.inl (L v))) (ra L b)) : mo_Ok l G yy_Mo_tag Y_Mo_tag [.inr (some a0), .inl x, .inl y] a0 ad Mb (ra L b) K := by
  refine mg_tag (cr_lives hb (fun h => ⟨rfl, _, rfl, fun _ => k0 (fun p r _ hp hl _ e => absurd hl (h p hp e)), fun u => absurd rfl u⟩) (fun p hp e hl => ⟨rfl, _, rfl, fun u => absurd u (by decide), fun _ => ?_⟩))
  refine cr_isRegister (fun h => ⟨rfl, _, rfl, fun _ => k0 (fun p r _ _ _ hr _ e => absurd e (h r hr)), fun u => absurd rfl u⟩) (fun r hr e2 => ⟨rfl, _, rfl, fun u => absurd u (by decide), fun _ => ?_⟩)
  subst e
  subst e2
  have h5 : b 5 (4 * p + r) ≤ 60 := hb.2 5 _ (by decide)
  refine ⟨4 * p + r, ixN 4 p r, by omega, fun e => k0 (fun p1 r1 v hp1 _ hr1 e1 e2 e3 => ?_), fun e => ?_⟩
  · have e4 := eqN p p1 e1
    have e5 := eqN r r1 e2
    rw [← e4, ← e5] at e3
    have := leN (b 5 (4 * p + r)) 0 e
    omega
  · have e0 := nleN (b 5 (4 * p + r)) 0 e
    exact ⟨b 5 (4 * p + r) - 1, nI_sub1 e0, by omega, k2 p r (b 5 (4 * p + r) - 1) hp hl hr rfl rfl (by omega)⟩
theorem cq_move (hb : rb N b) (k0 : (∀ p r, p < 8 → lv b p → r < 4 → x = nI p → y = nI r → ¬ z = -1 ∧ ∀ s, s < 4 → ¬ z = nI s) → K (some (.inl 0)) (ra L b)) (k1 : ∀ p r, p < 8 → lv b p → r < 4 → x = nI p → y = nI r → z = -1 → K (some (.inl 1)) (ra L (bu b 5 (4 * p + r) 0)))
    (k2 : ∀ p r s, p < 8 → lv b p → r < 4 → s < 4 → x = nI p → y = nI r → z = nI s → K (some (.inl 1)) (ra L (bu b 5 (4 * p + r) (b 5 (4 * p + s))))) : mo_Ok l G yy_Mo_move Y_Mo_move [.inr (some a0), .inl x, .inl y, .inl z] a0 ad Mb (ra L b) K := by
  refine mg_move (cr_lives hb (fun h => ⟨rfl, _, rfl, fun _ => k0 (fun p r hp hl _ e => absurd hl (h p hp e)), fun u => absurd rfl u⟩) (fun p hp e hl => ⟨rfl, _, rfl, fun u => absurd u (by decide), fun _ => ?_⟩))
  refine cr_isRegister (fun h => ⟨rfl, _, rfl, fun _ => k0 (fun p r _ _ hr _ e => absurd e (h r hr)), fun u => absurd rfl u⟩) (fun r hr e2 => ⟨rfl, _, rfl, fun u => absurd u (by decide), fun _ => ?_⟩)
  subst e
  subst e2
  have bad : z < -1 ∨ ¬ z ≤ 3 → ∀ p r, p < 8 → lv b p → r < 4 → nI p = nI p → nI r = nI r → ¬ z = -1 ∧ ∀ s, s < 4 → ¬ z = nI s := by
    intro hz p r _ _ _ _ _
    constructor
    · intro e
      rw [e] at hz
      revert hz
      decide
    · intro s hs e
      rw [e] at hz
      rcases hz with hz | hz
      · exact nI_pos (by omega) (Int32.lt_trans hz (by decide))
      · exact hz (nI_le (show s ≤ 3 by omega) (by decide))
  have bad2 : z < -1 ∨ ¬ z ≤ 3 → K (some (.inl 0)) (ra L b) := fun hz => k0 (fun p1 r1 h1 h2 h3 _ _ => bad hz p1 r1 h1 h2 h3 rfl rfl)
  refine ⟨fun h => bad2 (Or.inl h), fun h => ⟨fun h3 => ⟨fun h0 => ?_, fun h0 => ?_⟩, fun h3 => bad2 (Or.inr h3)⟩⟩
  · obtain ⟨s, hs, e⟩ := nI_of (x := z) (fun u => by
      have a := Int32.lt_iff_toInt_lt.mp u
      have c := Int32.le_iff_toInt_le.mp h0
      omega)
    subst e
    have hs4 : s ≤ 3 := leN s 3 h3
    refine ⟨4 * p + s, ixN 4 p s, by omega, 4 * p + r, ixN 4 p r, by omega, ?_⟩
    rw [show mo_u (ra L b) 5 (4 * p + r) (ra L b 5 (4 * p + s)) = _ from ra_u (b 5 (4 * p + s)) (by decide)]
    exact k2 p r s hp hl hr (by omega) rfl rfl rfl
  · refine ⟨4 * p + r, ixN 4 p r, by omega, ?_⟩
    rw [show mo_u (ra L b) 5 (4 * p + r) 0 = _ from ra_u 0 (by decide)]
    refine k1 p r hp hl hr rfl rfl ?_
    have h1 : ¬ z.toInt < -1 := fun u => h (Int32.lt_iff_toInt_lt.mpr u)
    have h2 : ¬ 0 ≤ z.toInt := fun u => h0 (Int32.le_iff_toInt_le.mpr u)
    exact Int32.toInt_inj.mp (show z.toInt = -1 by omega)
end RL
