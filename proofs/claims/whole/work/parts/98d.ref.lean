/-! THE REFERENCE OVER NATURALS: its table holds b, its labels L -/
def ra (L : Nat → Int32) (b : Nat → Nat → Nat) : mo_A := fun k j => if k = 8 then L j else nI (b k j)
def bu (b : Nat → Nat → Nat) (k j v : Nat) : Nat → Nat → Nat := fun q i => if q = k ∧ i = j then v else b q i
theorem ra_u {L : Nat → Int32} {b : Nat → Nat → Nat} {k j : Nat} (v : Nat) (hk : k ≠ 8) : mo_u (ra L b) k j (nI v) = ra L (bu b k j v) := by
  funext q i
  unfold mo_u ra bu
  by_cases h : q = k ∧ i = j
  · rw [if_pos h, if_neg (by rw [h.1]; exact hk), if_pos h]
  · rw [if_neg h, if_neg h]
theorem bu_s (b : Nat → Nat → Nat) (k j v : Nat) : bu b k j v k j = v := if_pos ⟨rfl, rfl⟩
theorem bu_n {b : Nat → Nat → Nat} {k j v q i : Nat} (h : ¬ q = k) : bu b k j v q i = b q i := if_neg (fun z => h z.1)
theorem bu_m {b : Nat → Nat → Nat} {k j v q i : Nat} (h : ¬ i = j) : bu b k j v q i = b q i := if_neg (fun z => h z.2)
/-- what the tables hold at most; N bounds the orders -/
def mx (N k : Nat) : Nat := match k with
  | 0 => 4 | 1 => 7 | 2 => 24 | 3 => 1 | 4 => 8 | 5 => 60 | 6 => 13 | 7 => 16 | 9 => 23 | 10 => 60 | 11 => 13 | 12 => 7 | 13 => N | 14 => N | 15 => 3 | 16 => 7 | 17 => 59 | 18 => 4 | 19 => 1 | 20 => 1 | 21 => 1 | 23 => 1 | 24 => 1 | _ => 0
def rb (N : Nat) (b : Nat → Nat → Nat) : Prop := N < 1000000000 ∧ ∀ k j, k ≠ 22 → b k j ≤ mx N k
theorem rb.u {N : Nat} {b : Nat → Nat → Nat} (h : rb N b) {k j v : Nat} (hv : k ≠ 22 → v ≤ mx N k) : rb N (bu b k j v) := ⟨h.1, fun q i hq => by
  unfold bu
  split
  · rename_i z
    rw [z.1]
    exact hv (z.1 ▸ hq)
  · exact h.2 q i hq⟩
theorem leN (a b : Nat) (h : nI a ≤ nI b) (ha : a < 2 ^ 31 := by omega) (hb : b < 2 ^ 31 := by omega) : a ≤ b := (nI_leI ha hb).mp h
theorem nleN (a b : Nat) (h : ¬ nI a ≤ nI b) (ha : a < 2 ^ 31 := by omega) (hb : b < 2 ^ 31 := by omega) : b < a := Nat.lt_of_not_le (fun z => h ((nI_leI ha hb).mpr z))
theorem ltN (a b : Nat) (h : nI a < nI b) (ha : a < 2 ^ 31 := by omega) (hb : b < 2 ^ 31 := by omega) : a < b := (nI_ltI ha hb).mp h
theorem nltN (a b : Nat) (h : ¬ nI a < nI b) (ha : a < 2 ^ 31 := by omega) (hb : b < 2 ^ 31 := by omega) : b ≤ a := Nat.le_of_not_lt (fun z => h ((nI_ltI ha hb).mpr z))
theorem eqN (a b : Nat) (h : nI a = nI b) (ha : a < 2 ^ 31 := by omega) (hb : b < 2 ^ 31 := by omega) : a = b := (nI_eq ha hb).mp h
theorem neN (a b : Nat) (h : ¬ nI a = nI b) : ¬ a = b := fun z => h (by rw [z])
theorem ixN (c a i : Nat) : nI c * nI a + nI i = nI (c * a + i) := by
  rw [← nI_add]
  congr 1
  exact (Int32.ofNat_mul c a).symm
theorem bzN (t : Bool) : nI t.toNat = 0 ↔ t = false := by cases t <;> decide
theorem bzT {t : Bool} (h : ¬ nI t.toNat = 0) : t = true := by
  cases t with
  | true => rfl
  | false => exact absurd rfl h
theorem bz1 (t : Bool) : nI t.toNat = 0 ∨ nI t.toNat = 1 := by cases t <;> decide
theorem up_ind {P : Nat → Prop} (n : Nat) (h0 : P n) (hs : ∀ i, i < n → P (i + 1) → P i) : ∀ i, i ≤ n → P i := by
  have h : ∀ d i, i + d = n → P i := by
    intro d
    induction d with
    | zero => intro i hi; exact (show i = n from hi) ▸ h0
    | succ d ih => intro i hi; exact hs i (by omega) (ih (i + 1) (by omega))
  exact fun i hi => h (n - i) i (by omega)
theorem cnt_s (p : Nat → Bool) (i : Nat) : (List.range (i + 1)).countP p = (List.range i).countP p + if p i = true then 1 else 0 := by
  rw [List.range_succ, List.countP_append]
  congr 1
  by_cases h : p i = true
  · rw [if_pos h, List.countP_cons_of_pos h]
    rfl
  · rw [if_neg h, List.countP_cons_of_neg h]
    rfl
theorem any_s (p : Nat → Bool) (i : Nat) : (List.range (i + 1)).any p = ((List.range i).any p || p i) := by
  rw [List.range_succ, List.any_append, List.any_cons, List.any_nil, Bool.or_false]
theorem div3N : ∀ i, i < 180 → nI i / 3 = nI (i / 3) := by decide +kernel
theorem div4N : ∀ i, i < 32 → nI i / 4 = nI (i / 4) := by decide +kernel
theorem m1N {v : Nat} (hv : v < 2 ^ 31) : nI v - 1 < 0 ↔ v = 0 := by
  constructor
  · intro h
    rcases Nat.eq_zero_or_pos v with e | e
    · exact e
    · rw [nI_sub1 e] at h
      exact absurd h (nI_pos (by omega))
  · intro e
    subst e
    decide
def lv (b : Nat → Nat → Nat) (p : Nat) : Prop := 0 < b 0 p ∧ b 0 p < 4
def lvb (b : Nat → Nat → Nat) (p : Nat) : Bool := decide (0 < b 0 p) && decide (b 0 p < 4)
theorem lvb_t {b : Nat → Nat → Nat} {p : Nat} : lvb b p = true ↔ lv b p := by
  unfold lvb lv
  rw [Bool.and_eq_true, decide_eq_true_eq, decide_eq_true_eq]
def fzb (b : Nat → Nat → Nat) (h : Nat) : Bool := decide (9 ≤ h) && decide (h ≤ 12) && decide (b 15 (h - 9) = 2)
def pc (b : Nat → Nat → Nat) (h : Nat) : Nat := (List.range 24).countP (fun g => decide (b 11 g = h + 1))
def oc (b : Nat → Nat → Nat) (h : Nat) : Nat := (List.range 60).countP (fun x => decide (b 6 x = h + 1))
def ic (b : Nat → Nat → Nat) (h : Nat) : Nat := (List.range 60).countP (fun x => !decide (b 21 (60 * h + x) = 0))
def nmb (b : Nat → Nat → Nat) (h t : Nat) : Bool := (List.range 60).any (fun x => !decide (b 21 (60 * h + x) = 0) && decide (b 6 x = t + 1))
def hob (b : Nat → Nat → Nat) (p t : Nat) : Bool := (List.range 4).any (fun r => decide (0 < b 5 (4 * p + r)) && decide (b 6 (b 5 (4 * p + r) - 1) = t + 1))
def rtb (b : Nat → Nat → Nat) (h x : Nat) : Bool := (List.range 32).any (fun k => lvb b (k / 4) && decide (b 5 k = x + 1)) || (List.range 13).any (fun g => !decide (g = h) && !decide (b 21 (60 * g + x) = 0))
def fib (b : Nat → Nat → Nat) (h x : Nat) : Bool := (List.range 180).any (fun k => decide (b 6 (k / 3) = h + 1) && decide (b 10 k = x + 1))
section RD
variable {l : Launch} {G : mm_G} {K : Option mm_V → mo_A → Prop} {a0 : Nat} {ad : Nat → Nat} {Mb : mm_M} {L : Nat → Int32} {b : Nat → Nat → Nat} {N h t x y p r : Nat} {xa : Int32}
theorem cr_lives (hb : rb N b) (k0 : (∀ p, p < 8 → xa = nI p → ¬ lv b p) → K (some (.inl 0)) (ra L b)) (k1 : ∀ p, p < 8 → xa = nI p → lv b p → K (some (.inl 1)) (ra L b)) : mo_Ok l G yy_Mo_lives Y_Mo_lives [.inr (some a0), .inl xa] a0 ad Mb (ra L b) K := by
  refine mg_lives ⟨fun h => k0 (fun p hp e _ => ?_), fun h => ⟨fun h8 => k0 (fun p hp e _ => ?_), fun h8 => ?_⟩⟩
  · rw [e] at h
    exact nI_pos (by omega) h
  · rw [e] at h8
    have := leN 8 p h8
    omega
  · obtain ⟨j, hj, e⟩ := nI_of h
    subst e
    have hj8 : j < 8 := nleN 8 j h8
    have hl : b 0 j ≤ 4 := hb.2 0 j (by decide)
    have en : ∀ p, p < 8 → nI j = nI p → j = p := fun p hp e => eqN j p e
    refine ⟨j, rfl, hj8, fun h0 => k0 (fun p hp e z => ?_), fun h0 => ⟨fun h4 => k0 (fun p hp e z => ?_), fun h4 => k1 j hj8 rfl ⟨?_, ?_⟩⟩⟩
    · have := leN (b 0 j) 0 h0
      rw [← en p hp e] at z
      have := z.1
      omega
    · have := leN 4 (b 0 j) h4
      rw [← en p hp e] at z
      have := z.2
      omega
    · exact nleN (b 0 j) 0 h0
    · exact nleN 4 (b 0 j) h4
theorem cr_livesN (hb : rb N b) (hp : p < 8) (k0 : ¬ lv b p → K (some (.inl 0)) (ra L b)) (k1 : lv b p → K (some (.inl 1)) (ra L b)) : mo_Ok l G yy_Mo_lives Y_Mo_lives [.inr (some a0), .inl (nI p)] a0 ad Mb (ra L b) K :=
  cr_lives hb (fun h => k0 (h p hp rfl)) (fun q hq e h => k1 (by rw [eqN p q e]; exact h))
theorem cr_isRegister (k0 : (∀ r, r < 4 → ¬ xa = nI r) → K (some (.inl 0)) (ra L b)) (k1 : ∀ r, r < 4 → xa = nI r → K (some (.inl 1)) (ra L b)) : mo_Ok l G yy_Mo_isRegister Y_Mo_isRegister [.inl xa] a0 ad Mb (ra L b) K := by
  refine mg_isRegister ⟨fun h => k0 (fun p hp e => ?_), fun h => ⟨fun h8 => k0 (fun p hp e => ?_), fun h8 => ?_⟩⟩
  · rw [e] at h
    exact nI_pos (by omega) h
  · rw [e] at h8
    have := leN 4 p h8
    omega
  · obtain ⟨j, hj, e⟩ := nI_of h
    subst e
    exact k1 j (nleN 4 j h8) rfl
theorem cr_frozen (hb : rb N b) (k0 : (∀ k, k < 4 → xa = nI (9 + k) → ¬ b 15 k = 2) → K (some (.inl 0)) (ra L b)) (k1 : ∀ k, k < 4 → xa = nI (9 + k) → b 15 k = 2 → K (some (.inl 1)) (ra L b)) : mo_Ok l G yy_Mo_frozen Y_Mo_frozen [.inr (some a0), .inl xa] a0 ad Mb (ra L b) K := by
  refine mg_frozen ⟨fun h => k0 (fun k hk e _ => ?_), fun h => ⟨fun h8 => k0 (fun k hk e _ => ?_), fun h8 => ?_⟩⟩
  · rw [e] at h
    have := ltN (9 + k) 9 h
    omega
  · rw [e] at h8
    have := ltN 12 (9 + k) h8
    omega
  · obtain ⟨j, hj, e⟩ := nI_of (x := xa) (fun z => h (Int32.lt_trans z (by decide)))
    subst e
    have h9 : 9 ≤ j := nltN j 9 h
    have h12 : j ≤ 12 := nltN 12 j h8
    have e9 : nI j - 9 = nI (j - 9) := by
      have e : j = (j - 9) + 9 := by omega
      rw [e, ← nI_add]
      exact Int32.add_sub_cancel _ _
    have hs : b 15 (j - 9) ≤ 3 := hb.2 15 _ (by decide)
    have en : ∀ k, k < 4 → nI j = nI (9 + k) → j - 9 = k := fun k hk e => by have := eqN j (9 + k) e; omega
    refine ⟨j - 9, e9, by omega, fun h2 => k0 (fun k hk e z => h2 ?_), fun h2 => k1 (j - 9) (by omega) (by rw [show 9 + (j - 9) = j by omega]) (eqN (b 15 (j - 9)) 2 h2)⟩
    rw [← en k hk e] at z
    show nI (b 15 (j - 9)) = nI 2
    rw [z]
theorem cr_frozenN (hb : rb N b) (hh : h ≤ 12) (k : K (some (.inl (nI (fzb b h).toNat))) (ra L b)) : mo_Ok l G yy_Mo_frozen Y_Mo_frozen [.inr (some a0), .inl (nI h)] a0 ad Mb (ra L b) K := by
  refine cr_frozen hb (fun h0 => ?_) (fun i hi e h1 => ?_)
  · have e : fzb b h = false := by
      unfold fzb
      by_cases h9 : 9 ≤ h
      · rw [decide_eq_false (h0 (h - 9) (by omega) (by rw [show 9 + (h - 9) = h by omega])), Bool.and_false]
      · rw [decide_eq_false h9, Bool.false_and, Bool.false_and]
    rw [e] at k
    exact k
  · have e2 : h = 9 + i := eqN h (9 + i) e
    have e : fzb b h = true := by
      unfold fzb
      rw [decide_eq_true (by omega), decide_eq_true hh, show h - 9 = i by omega, decide_eq_true h1]
      rfl
    rw [e] at k
    exact k
theorem cr_pagesN (hb : rb N b) (hh : h < 13) (k : K (some (.inl (nI (pc b h)))) (ra L b)) : mo_Ok l G yy_Mo_pages Y_Mo_pages [.inr (some a0), .inl (nI h)] a0 ad Mb (ra L b) K := by
  refine mg_pages (up_ind (P := fun i => mo_Z l G Y_Mo_pages K a0 ad Mb 4 [some (.inr (some a0)), some (.inl (nI h)), some (.inl (nI ((List.range i).countP (fun g => decide (b 11 g = h + 1))))), some (.inl (nI i))] [] (ra L b)) 24 (mg_pages_4 ⟨fun _ => k, fun hc => absurd (nleN 24 24 hc) (by omega)⟩) (fun i hi ih => ?_) 0 (by omega))
  rw [cnt_s] at ih
  refine mg_pages_4 ⟨fun hc => absurd (leN 24 i hc) (by omega), fun _ => ⟨fun h0 => absurd h0 (nI_pos (by omega)), fun _ => ⟨fun h13 => absurd (leN 13 h h13) (by omega), fun _ => ⟨i, rfl, hi, fun e => ?_, fun e => ?_⟩⟩⟩⟩
  · rw [nI_1, Int32.add_zero]
    rw [if_neg (fun z => e (by rw [nI_1]; show nI (b 11 i) = _; rw [of_decide_eq_true z]))] at ih
    exact ih
  · rw [nI_1, nI_1]
    have hl : b 11 i ≤ 13 := hb.2 11 i (by decide)
    rw [nI_1] at e
    rw [if_pos (decide_eq_true (eqN (b 11 i) (h + 1) e))] at ih
    exact ih
theorem cr_objectsN (hb : rb N b) (hh : h < 13) (k : K (some (.inl (nI (oc b h)))) (ra L b)) : mo_Ok l G yy_Mo_objects Y_Mo_objects [.inr (some a0), .inl (nI h)] a0 ad Mb (ra L b) K := by
  refine mg_objects (up_ind (P := fun i => mo_Z l G Y_Mo_objects K a0 ad Mb 4 [some (.inr (some a0)), some (.inl (nI h)), some (.inl (nI ((List.range i).countP (fun g => decide (b 6 g = h + 1))))), some (.inl (nI i))] [] (ra L b)) 60 (mg_objects_4 ⟨fun _ => k, fun hc => absurd (nleN 60 60 hc) (by omega)⟩) (fun i hi ih => ?_) 0 (by omega))
  rw [cnt_s] at ih
  refine mg_objects_4 ⟨fun hc => absurd (leN 60 i hc) (by omega), fun _ => ⟨fun h0 => absurd h0 (nI_pos (by omega)), fun _ => ⟨fun h13 => absurd (leN 13 h h13) (by omega), fun _ => ⟨i, rfl, hi, fun e => ?_, fun e => ?_⟩⟩⟩⟩
  · rw [nI_1, Int32.add_zero]
    rw [if_neg (fun z => e (by rw [nI_1]; show nI (b 6 i) = _; rw [of_decide_eq_true z]))] at ih
    exact ih
  · rw [nI_1, nI_1]
    have hl : b 6 i ≤ 13 := hb.2 6 i (by decide)
    rw [nI_1] at e
    rw [if_pos (decide_eq_true (eqN (b 6 i) (h + 1) e))] at ih
    exact ih
theorem cr_itemsN (hb : rb N b) (hh : h < 13) (k : K (some (.inl (nI (ic b h)))) (ra L b)) : mo_Ok l G yy_Mo_items Y_Mo_items [.inr (some a0), .inl (nI h)] a0 ad Mb (ra L b) K := by
  refine mg_items (up_ind (P := fun i => mo_Z l G Y_Mo_items K a0 ad Mb 4 [some (.inr (some a0)), some (.inl (nI h)), some (.inl (nI ((List.range i).countP (fun x => !decide (b 21 (60 * h + x) = 0))))), some (.inl (nI i))] [] (ra L b)) 60 (mg_items_4 ⟨fun _ => k, fun hc => absurd (nleN 60 60 hc) (by omega)⟩) (fun i hi ih => ?_) 0 (by omega))
  rw [cnt_s] at ih
  have hl : b 21 (60 * h + i) ≤ 1 := hb.2 21 _ (by decide)
  refine mg_items_4 ⟨fun hc => absurd (leN 60 i hc) (by omega), fun _ => ⟨fun h0 => absurd h0 (nI_pos (by omega)), fun _ => ⟨fun h13 => absurd (leN 13 h h13) (by omega), fun _ => ⟨60 * h + i, ixN 60 h i, by omega, fun e => ?_, fun e => ?_⟩⟩⟩⟩
  · have e0 : b 21 (60 * h + i) = 0 := eqN _ 0 e
    rw [nI_1, Int32.add_zero]
    rw [if_neg (by rw [decide_eq_true e0]; decide)] at ih
    exact ih
  · have e0 : ¬ b 21 (60 * h + i) = 0 := neN _ 0 e
    rw [nI_1, nI_1]
    rw [if_pos (by rw [decide_eq_false e0]; rfl)] at ih
    exact ih
theorem cr_names (hb : rb N b) (hh : h < 13) (ht : t < 13) (k : K (some (.inl (nI (nmb b h t).toNat))) (ra L b)) : mo_Ok l G yy_Mo_names Y_Mo_names [.inr (some a0), .inl (nI h), .inl (nI t)] a0 ad Mb (ra L b) K := by
  refine mg_names (up_ind (P := fun i => mo_Z l G Y_Mo_names K a0 ad Mb 5 [some (.inr (some a0)), some (.inl (nI h)), some (.inl (nI t)), some (.inl (nI ((List.range i).any (fun x => !decide (b 21 (60 * h + x) = 0) && decide (b 6 x = t + 1))).toNat)), some (.inl (nI i))] [] (ra L b)) 60 (mg_names_5 ⟨fun _ => ⟨bz1 _, k⟩, fun hc => absurd (nleN 60 60 hc) (by omega)⟩) (fun i hi ih => ?_) 0 (by omega))
  rw [any_s] at ih
  have hl : b 21 (60 * h + i) ≤ 1 := hb.2 21 _ (by decide)
  have hm : b 6 i ≤ 13 := hb.2 6 _ (by decide)
  refine mg_names_5 ⟨fun hc => absurd (leN 60 i hc) (by omega), fun _ => ⟨fun hf => ?_, fun hf => ?_⟩⟩
  · rw [bzT hf, Bool.true_or] at ih
    rw [nI_1]
    exact ih
  · rw [(bzN _).mp hf, Bool.false_or] at ih
    refine ⟨60 * h + i, ixN 60 h i, by omega, fun e => ?_, fun e => ⟨i, rfl, hi, fun e2 => ?_, fun e2 => ?_⟩⟩
    · have e0 : b 21 (60 * h + i) = 0 := eqN _ 0 e
      rw [nI_1]
      rw [decide_eq_true e0, Bool.not_true, Bool.false_and] at ih
      exact ih
    · rw [nI_1] at e2 ⊢
      rw [decide_eq_false (neN (b 6 i) (t + 1) e2), Bool.and_false] at ih
      exact ih
    · rw [nI_1] at e2 ⊢
      rw [decide_eq_true (eqN (b 6 i) (t + 1) e2), decide_eq_false (neN _ 0 e)] at ih
      exact ih
theorem cr_holds (hb : rb N b) (hp : p < 8) (ht : t < 13) (k : K (some (.inl (nI (hob b p t).toNat))) (ra L b)) : mo_Ok l G yy_Mo_holds Y_Mo_holds [.inr (some a0), .inl (nI p), .inl (nI t)] a0 ad Mb (ra L b) K := by
  refine mg_holds (up_ind (P := fun i => mo_Z l G Y_Mo_holds K a0 ad Mb 5 [some (.inr (some a0)), some (.inl (nI p)), some (.inl (nI t)), some (.inl (nI ((List.range i).any (fun r => decide (0 < b 5 (4 * p + r)) && decide (b 6 (b 5 (4 * p + r) - 1) = t + 1))).toNat)), some (.inl (nI i)), none] [] (ra L b)) 4 (mg_holds_5 ⟨fun _ => ⟨bz1 _, k⟩, fun hc => absurd (nleN 4 4 hc) (by omega)⟩) (fun i hi ih => ?_) 0 (by omega))
  rw [any_s] at ih
  have hl : b 5 (4 * p + i) ≤ 60 := hb.2 5 _ (by decide)
  have hm : b 6 (b 5 (4 * p + i) - 1) ≤ 13 := hb.2 6 _ (by decide)
  refine mg_holds_5 ⟨fun hc => absurd (leN 4 i hc) (by omega), fun _ => ⟨4 * p + i, ixN 4 p i, by omega, fun hf => ?_, fun hf => ?_⟩⟩
  · rw [bzT hf, Bool.true_or] at ih
    rw [nI_1]
    exact ih
  · rw [(bzN _).mp hf, Bool.false_or] at ih
    refine ⟨fun e => ?_, fun e => ?_⟩
    · have e0 : b 5 (4 * p + i) = 0 := (m1N (by omega)).mp e
      rw [nI_1]
      rw [decide_eq_false (by omega), Bool.false_and] at ih
      exact ih
    · have e0 : 0 < b 5 (4 * p + i) := Nat.pos_of_ne_zero (fun z => e ((m1N (by omega)).mpr z))
      refine ⟨b 5 (4 * p + i) - 1, nI_sub1 e0, by omega, fun e2 => ?_, fun e2 => ?_⟩
      · rw [nI_1] at e2 ⊢
        rw [decide_eq_false (neN (b 6 (b 5 (4 * p + i) - 1)) (t + 1) e2), Bool.and_false] at ih
        exact ih
      · rw [nI_1] at e2 ⊢
        rw [decide_eq_true (eqN (b 6 (b 5 (4 * p + i) - 1)) (t + 1) e2), decide_eq_true e0] at ih
        exact ih
theorem cr_root (hb : rb N b) (hh : h < 13) (hx : x < 60) (k : K (some (.inl (nI (rtb b h x).toNat))) (ra L b)) : mo_Ok l G yy_Mo_root Y_Mo_root [.inr (some a0), .inl (nI h), .inl (nI x)] a0 ad Mb (ra L b) K := by
  refine mg_root (up_ind (P := fun i => mo_Z l G Y_Mo_root K a0 ad Mb 5 [some (.inr (some a0)), some (.inl (nI h)), some (.inl (nI x)), some (.inl (nI ((List.range i).any (fun k => lvb b (k / 4) && decide (b 5 k = x + 1))).toNat)), some (.inl (nI i))] [] (ra L b)) 32 (mg_root_5 ⟨fun _ => ?_, fun hc => absurd (nleN 32 32 hc) (by omega)⟩) (fun i hi ih => ?_) 0 (by omega))
  · have e0 : ((List.range 32).any (fun k => lvb b (k / 4) && decide (b 5 k = x + 1))) = ((List.range 32).any (fun k => lvb b (k / 4) && decide (b 5 k = x + 1)) || (List.range 0).any (fun g => !decide (g = h) && !decide (b 21 (60 * g + x) = 0))) := by rw [List.range_zero, List.any_nil, Bool.or_false]
    rw [e0]
    refine up_ind (P := fun i => mo_Z l G Y_Mo_root K a0 ad Mb 55 [some (.inr (some a0)), some (.inl (nI h)), some (.inl (nI x)), some (.inl (nI ((List.range 32).any (fun k => lvb b (k / 4) && decide (b 5 k = x + 1)) || (List.range i).any (fun g => !decide (g = h) && !decide (b 21 (60 * g + x) = 0))).toNat)), some (.inl (nI i))] [] (ra L b)) 13 (mg_root_55 ⟨fun _ => ⟨bz1 _, k⟩, fun hc => absurd (nleN 13 13 hc) (by omega)⟩) (fun i hi ih => ?_) 0 (by omega)
    rw [any_s (fun g => !decide (g = h) && !decide (b 21 (60 * g + x) = 0)) i, ← Bool.or_assoc] at ih
    have hl : b 21 (60 * i + x) ≤ 1 := hb.2 21 _ (by decide)
    refine mg_root_55 ⟨fun hc => absurd (leN 13 i hc) (by omega), fun _ => ⟨fun hf => ?_, fun hf => ?_⟩⟩
    · rw [bzT hf, Bool.true_or] at ih
      rw [nI_1]
      exact ih
    · rw [(bzN _).mp hf, Bool.false_or] at ih
      refine ⟨fun e => ?_, fun e => ⟨60 * i + x, ixN 60 i x, by omega, fun e2 => ?_, fun e2 => ?_⟩⟩
      · rw [nI_1]
        rw [decide_eq_true (eqN i h e), Bool.not_true, Bool.false_and] at ih
        exact ih
      · have e0 : b 21 (60 * i + x) = 0 := eqN _ 0 e2
        rw [nI_1]
        rw [decide_eq_true e0, Bool.not_true, Bool.and_false] at ih
        exact ih
      · rw [nI_1]
        rw [decide_eq_false (neN i h e), decide_eq_false (neN _ 0 e2)] at ih
        exact ih
  · rw [any_s] at ih
    have hl : b 5 i ≤ 60 := hb.2 5 _ (by decide)
    refine mg_root_5 ⟨fun hc => absurd (leN 32 i hc) (by omega), fun _ => ⟨fun hf => ?_, fun hf => ?_⟩⟩
    · rw [bzT hf, Bool.true_or] at ih
      rw [nI_1]
      exact ih
    · rw [(bzN _).mp hf, Bool.false_or] at ih
      rw [div4N i hi]
      refine cr_livesN hb (by omega) (fun e => ⟨rfl, _, rfl, fun _ => ?_, fun u => absurd rfl u⟩) (fun e => ⟨rfl, _, rfl, fun u => absurd u (by decide), fun _ => ⟨i, rfl, hi, fun e2 => ?_, fun e2 => ?_⟩⟩)
      · rw [nI_1]
        rw [Bool.eq_false_iff.mpr (fun z => e (lvb_t.mp z)), Bool.false_and] at ih
        exact ih
      · rw [nI_1] at e2 ⊢
        rw [decide_eq_false (neN (b 5 i) (x + 1) e2), Bool.and_false] at ih
        exact ih
      · rw [nI_1] at e2 ⊢
        rw [decide_eq_true (eqN (b 5 i) (x + 1) e2), lvb_t.mpr e] at ih
        exact ih
theorem cr_inField (hb : rb N b) (hh : h < 13) (hx : x < 60) (k : K (some (.inl (nI (fib b h x).toNat))) (ra L b)) : mo_Ok l G yy_Mo_inField Y_Mo_inField [.inr (some a0), .inl (nI h), .inl (nI x)] a0 ad Mb (ra L b) K := by
  refine mg_inField (up_ind (P := fun i => mo_Z l G Y_Mo_inField K a0 ad Mb 5 [some (.inr (some a0)), some (.inl (nI h)), some (.inl (nI x)), some (.inl (nI ((List.range i).any (fun k => decide (b 6 (k / 3) = h + 1) && decide (b 10 k = x + 1))).toNat)), some (.inl (nI i))] [] (ra L b)) 180 (mg_inField_5 ⟨fun _ => ⟨bz1 _, k⟩, fun hc => absurd (nleN 180 180 hc) (by omega)⟩) (fun i hi ih => ?_) 0 (by omega))
  rw [any_s] at ih
  have hl : b 6 (i / 3) ≤ 13 := hb.2 6 _ (by decide)
  have hm : b 10 i ≤ 60 := hb.2 10 _ (by decide)
  refine mg_inField_5 ⟨fun hc => absurd (leN 180 i hc) (by omega), fun _ => ⟨fun hf => ?_, fun hf => ?_⟩⟩
  · rw [bzT hf, Bool.true_or] at ih
    rw [nI_1]
    exact ih
  · rw [(bzN _).mp hf, Bool.false_or] at ih
    refine ⟨i / 3, div3N i hi, by omega, fun e => ?_, fun e => ⟨i, rfl, hi, fun e2 => ?_, fun e2 => ?_⟩⟩
    · rw [nI_1] at e ⊢
      rw [decide_eq_false (neN (b 6 (i / 3)) (h + 1) e), Bool.false_and] at ih
      exact ih
    · rw [nI_1] at e2 ⊢
      rw [decide_eq_false (neN (b 10 i) (x + 1) e2), Bool.and_false] at ih
      exact ih
    · rw [nI_1] at e e2 ⊢
      rw [decide_eq_true (eqN (b 10 i) (x + 1) e2), decide_eq_true (eqN (b 6 (i / 3)) (h + 1) e)] at ih
      exact ih
end RD
