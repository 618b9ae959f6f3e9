/-! CLASS AND REFERENCE: a heap is frozen; a process is made -/
/-- who holds an object of a heap that is being built builds it -/
def vR (b : rB) : Prop := ∀ q r k, q < 8 → r < 4 → k < 4 → 0 < b 5 (4 * q + r) → b 6 (b 5 (4 * q + r) - 1) = 10 + k → b 15 k = 1 → b 16 k = q
/-- what a collection leaves as it is -/
def leR (b b1 : rB) : Prop := (∀ k, k < 6 ∨ k = 7 ∨ k = 9 ∨ k = 10 ∨ k = 12 ∨ k = 13 ∨ k = 14 ∨ k = 16 ∨ k = 17 ∨ k = 18 → ∀ j, b1 k j = b k j) ∧ (∀ x, b1 6 x = b 6 x ∨ b1 6 x = 0) ∧ ∀ k, b1 15 k = b 15 k ∨ (b 15 k = 2 ∧ b1 15 k = 3)
section SZ3
variable {D D1 : ph_D} {b b1 b2 : rB} {L : Nat → Int32} {pg ob U T : Nat → Nat} {N n p h x y g k t r v u f c s : Nat} {F : Nat → Bool}
theorem leR.rfl' : leR b b := ⟨fun _ _ _ => rfl, fun _ => Or.inl rfl, fun _ => Or.inl rfl⟩
theorem leR.tr (h : leR b b1) (h1 : leR b1 b2) : leR b b2 := by
  refine ⟨fun k hk j => (h1.1 k hk j).trans (h.1 k hk j), fun x => ?_, fun k => ?_⟩
  · rcases h1.2.1 x with e | e
    · rw [e]
      exact h.2.1 x
    · exact Or.inr e
  · rcases h1.2.2 k with e | e
    · rw [e]
      exact h.2.2 k
    · rcases h.2.2 k with w | w
      · exact Or.inr ⟨by rw [← w]; exact e.1, e.2⟩
      · omega
theorem leR.fr (hz : fzR b F b1) : leR b b1 := by
  refine ⟨fun k hk j => hz.2.1 k j (by omega) (by omega) (by omega), fun x => ?_, fun k => Or.inl (hz.2.1 15 k (by decide) (by decide) (by decide))⟩
  rw [hz.1]
  split
  · exact Or.inr rfl
  · exact Or.inl rfl
theorem leR.vn (b : rB) (k : Nat) : leR b (vn1 b k) := by
  have hz := fzR_N b (fun x => decide (b 6 x = 10 + k)) 60 (Nat.le_refl 60)
  have hl := leR.fr hz
  unfold vn1
  split
  · rename_i c
    refine ⟨fun q hq j => ?_, fun x => ?_, fun q => ?_⟩
    · rw [bu_n (by omega)]
      show (if q = 20 ∧ _ then 0 else frN b _ 60 q j) = _
      rw [if_neg (fun w => by omega)]
      exact hl.1 q hq j
    · rw [bu_n (by decide)]
      exact hl.2.1 x
    · by_cases e : q = k
      · rw [e, bu_s]
        exact Or.inr ⟨c.1, rfl⟩
      · rw [bu_m e]
        exact Or.inl (hz.2.1 15 q (by decide) (by decide) (by decide))
  · exact leR.rfl'
theorem leR.vnN (b : rB) : ∀ n, leR b (vnN b n)
  | 0 => leR.rfl'
  | n + 1 => (leR.vnN b n).tr (leR.vn _ n)
theorem leR.ch (hh : h ≤ 8) (b : rB) : leR b (chN b h 4) := by
  rcases Nat.lt_or_ge h 8 with e | e
  · have hc := chN_p (b := b) e 4
    exact ⟨fun k hk j => by rw [hc, if_neg (fun w => by omega)], fun x => Or.inl (by rw [hc, if_neg (fun w => by omega)]), fun k => Or.inl (by rw [hc, if_neg (fun w => by omega)])⟩
  · rw [show h = 8 by omega]
    have hc := chN_8 (b := b) 4 (by omega)
    exact ⟨fun k hk j => by rw [hc, if_neg (fun w => by omega)], fun x => Or.inl (by rw [hc, if_neg (fun w => by omega)]), fun k => Or.inl (by rw [hc, if_neg (fun w => by omega)])⟩
theorem leR.swp (hh : h ≤ 8) (b : rB) (m : Nat → Nat) : leR b (swp b h m) := by
  have h1 : leR b (bm b m) := ⟨fun k hk j => bm_n (by omega), fun x => Or.inl rfl, fun k => Or.inl rfl⟩
  have h2 := leR.fr (fzR_N (bm b m) (unr b m h) 60 (Nat.le_refl 60))
  have h3 : leR (frN (bm b m) (unr b m h) 60) (itm (frN (bm b m) (unr b m h) 60) h 60) := ⟨fun k hk j => if_neg (fun w => by omega), fun x => Or.inl (if_neg (fun w => by cases w.1)), fun k => Or.inl (if_neg (fun w => by cases w.1))⟩
  exact (h1.tr (h2.tr (h3.tr (leR.ch hh _)))).tr (leR.vnN _ 4)
theorem vR.le (hr : vR b) (h : leR b b1) : vR b1 := by
  intro q r k hq hr4 hk h0 e e2
  rw [h.1 5 (by omega)] at h0 e
  rw [h.1 16 (by omega)]
  have h6 := (h.2.1 (b 5 (4 * q + r) - 1)).resolve_right (by omega)
  have h15 : b 15 k = 1 := by
    rcases h.2.2 k with w | w <;> omega
  exact hr q r k hq hr4 hk h0 (by omega) h15
theorem vR.mono (hr : vR b) (h5 : ∀ q r, q < 8 → r < 4 → b1 5 (4 * q + r) = 0 ∨ b1 5 (4 * q + r) = b 5 (4 * q + r)) (h6 : ∀ x k, x < 60 → k < 4 → b1 6 x = 10 + k → b 6 x = 10 + k) (h15 : ∀ k, k < 4 → b1 15 k = 1 → b 15 k = 1) (h16 : ∀ k, k < 4 → b1 16 k = b 16 k) (hb : rb N b) : vR b1 := by
  intro q r k hq hr4 hk h0 e e2
  have e5 := (h5 q r hq hr4).resolve_left (by omega)
  rw [e5] at h0 e
  have w : b 5 (4 * q + r) ≤ 60 := hb.2 5 _ (by decide)
  rw [h16 k hk]
  exact hr q r k hq hr4 hk h0 (h6 _ k (by omega) hk e) (h15 k hk e2)
theorem vR.reg (hr : vR b) (hp : p < 8) (hr4 : r < 4) (h : 0 < v → ∀ k, k < 4 → b 6 (v - 1) = 10 + k → b 15 k = 1 → b 16 k = p) : vR (bu b 5 (4 * p + r) v) := by
  intro q s k hq hs hk h0 e e2
  by_cases c : 4 * q + s = 4 * p + r
  · rw [c, bu_s] at h0 e
    rw [show q = p by omega]
    exact h h0 k hk e e2
  · rw [bu_m c] at h0 e
    exact hr q s k hq hs hk h0 e e2
/-- the heap 9 + k is frozen -/
theorem sR.frz (hs : sR D b L pg ob) (hb : rb N b) (h48 : b 4 0 ≤ 8) (hp : p < b 4 0) (hk : k < 4) (h1 : b 15 k = 1) (h2 : b 16 k = p) (hu : ∀ i, i < 4 → b 15 i = 1 → b 16 i = p → i = k) : sR (d_fz D p (9 + k) (ob u)) (chs (bu (bu b 15 k 2) 17 k u) p k) L pg ob := by
  obtain ⟨sx, so, sg, sp, sq, sh⟩ := hs
  have r1 : ∀ q j, q ≠ 15 → q ≠ 17 → bu (bu b 15 k 2) 17 k u q j = b q j := fun q j a1 a2 => by rw [bu_n a2, bu_n a1]
  have r15 : ∀ j, bu (bu b 15 k 2) 17 k u 15 j = if j = k then 2 else b 15 j := fun j => by
    rw [bu_n (by decide)]
    by_cases e : j = k
    · rw [if_pos e, e, bu_s]
    · rw [if_neg e, bu_m e]
  have hf1 : fzb (bu (bu b 15 k 2) 17 k u) (9 + k) = true := fzb_t.mpr ⟨by omega, by omega, by rw [show 9 + k - 9 = k by omega, r15, if_pos rfl]⟩
  have hf2 : ∀ i, i ≠ 9 + k → fzb (bu (bu b 15 k 2) 17 k u) i = fzb b i := fun i hi => by
    rw [Bool.eq_iff_iff, fzb_t, fzb_t]
    by_cases e : 9 ≤ i
    · rw [r15, if_neg (by omega)]
    · exact ⟨fun w => absurd w.1 e, fun w => absurd w.1 e⟩
  have hD : ∀ q j, q ≠ 1 → q ≠ 10 → (d_es (di (dp D 8 (9 + k) (some (ob u))) 10 p (-1)) (nI (9 + k))).2.1 q j = D.2.1 q j := fun q j a1 a2 => by
    rw [← d_es_n a1]
    exact di_n a2
  have hR : ∀ q j, (d_es (di (dp D 8 (9 + k) (some (ob u))) 10 p (-1)) (nI (9 + k))).2.2 q j = if q = 8 ∧ j = 9 + k then some (ob u) else D.2.2 q j := fun _ _ => rfl
  have mid : sR (d_es (di (dp D 8 (9 + k) (some (ob u))) 10 p (-1)) (nI (9 + k))) (bu (bu b 15 k 2) 17 k u) L pg ob := by
    refine ⟨sx, fun x hx h0 => (so x hx h0).cong (fun q hq j => hD q j (by omega) (by omega)) (fun q hq j => by rw [hR, if_neg (fun w => by omega)]) (fun q hq j => r1 q j (by omega) (by omega)), sg, fun g hg h0 => ?_, ⟨?_, fun q hq => ?_, fun q hq => ?_⟩, fun i h13 => ?_, ?_⟩
    · have h0 : 0 < b 11 g := h0
      obtain ⟨q1, q2⟩ := sp g hg h0
      have w : b 11 g ≤ 13 := hb.2 11 g (by decide)
      have hgm : pg g ∈ D.1.1 := sg.mem.mpr ⟨g, hg, h0, rfl⟩
      refine ⟨by rw [hD 0 _ (by decide) (by decide)]; exact q1, ?_⟩
      have d0 : (di (dp D 8 (9 + k) (some (ob u))) 10 p (-1)).2.1 0 (pg g) = nI (b 11 g - 1) := (di_n (by decide)).trans q1
      have d1 : (di (dp D 8 (9 + k) (some (ob u))) 10 p (-1)).2.1 1 (pg g) = D.2.1 1 (pg g) := di_n (by decide)
      by_cases e : b 11 g - 1 = 9 + k
      · have ea : (d_es (di (dp D 8 (9 + k) (some (ob u))) 10 p (-1)) (nI (9 + k))).2.1 1 (pg g) = -1 := if_pos (c := 1 = 1 ∧ pg g ∈ (di (dp D 8 (9 + k) (some (ob u))) 10 p (-1)).1.1 ∧ (di (dp D 8 (9 + k) (some (ob u))) 10 p (-1)).2.1 0 (pg g) = nI (9 + k)) ⟨rfl, hgm, by rw [d0, e]⟩
        have ef : fzb (bu (bu b 15 k 2) 17 k u) (bu (bu b 15 k 2) 17 k u 11 g - 1) = true := by
          show fzb (bu (bu b 15 k 2) 17 k u) (b 11 g - 1) = true
          rw [e]
          exact hf1
        rw [ea, if_pos ef]
      · have ea : (d_es (di (dp D 8 (9 + k) (some (ob u))) 10 p (-1)) (nI (9 + k))).2.1 1 (pg g) = D.2.1 1 (pg g) := (if_neg (c := 1 = 1 ∧ pg g ∈ (di (dp D 8 (9 + k) (some (ob u))) 10 p (-1)).1.1 ∧ (di (dp D 8 (9 + k) (some (ob u))) 10 p (-1)).2.1 0 (pg g) = nI (9 + k)) (fun w => e (by
          have w3 := w.2.2
          rw [d0] at w3
          exact eqN (b 11 g - 1) (9 + k) w3))).trans d1
        have ef : fzb (bu (bu b 15 k 2) 17 k u) (bu (bu b 15 k 2) 17 k u 11 g - 1) = fzb b (b 11 g - 1) := hf2 _ e
        rw [ea, ef]
        exact q2
    · rw [hD 12 0 (by decide) (by decide)]
      exact sq.1
    · rw [hD 6 _ (by decide) (by decide)]
      exact sq.2.1 q hq
    · obtain ⟨q1, q2, q3, q4, q5, q6⟩ := sq.2.2 q hq
      refine ⟨fun w => by rw [hD 7 _ (by decide) (by decide)]; exact q1 w, by rw [hD 8 _ (by decide) (by decide)]; exact q2, by rw [hD 9 _ (by decide) (by decide)]; exact q3, ?_, fun i => by rw [hD 11 _ (by decide) (by decide)]; exact q5 i, fun r h4 => by rw [hR, if_neg (fun w => by omega)]; exact q6 r h4⟩
      rw [← d_es_n (by decide), di_i]
      by_cases e : q = p
      · rw [if_pos ⟨rfl, e⟩, rbk_no, if_pos rfl]
        rintro i hi ⟨e1, e2⟩
        rw [r15] at e1
        have e2 : b 16 i = q := e2
        by_cases ei : i = k
        · rw [if_pos ei] at e1
          cases e1
        · rw [if_neg ei] at e1
          exact ei (hu i hi e1 (by rw [e2, e]))
      · rw [if_neg (fun w => e w.2)]
        have hall : ∀ n, n ≤ 4 → rbk (bu (bu b 15 k 2) 17 k u) q n = rbk b q n := by
          intro n
          induction n with
          | zero => intro _; rfl
          | succ n ih =>
            intro hn
            show (if bu (bu b 15 k 2) 17 k u 15 n = 1 ∧ b 16 n = q then 9 + n else rbk (bu (bu b 15 k 2) 17 k u) q n) = (if b 15 n = 1 ∧ b 16 n = q then 9 + n else rbk b q n)
            rw [ih (by omega), r15]
            by_cases en : n = k
            · rw [if_pos en, en, h2, if_neg (fun w => by cases w.1), if_neg (fun w => e w.2.symm)]
            · rw [if_neg en]
        rw [hall 4 (by omega)]
        exact q4
    · rw [hR]
      by_cases e : i = 9 + k
      · rw [if_pos ⟨rfl, e⟩, e, hf1, if_pos rfl, show 9 + k - 9 = k by omega, bu_s]
      · rw [if_neg (fun w => e w.2), hf2 i e, sh.1 i h13]
        by_cases c : fzb b i = true
        · have := fzb_t.mp c
          rw [if_pos c, if_pos c, bu_m (by omega), bu_n (by decide)]
        · rw [if_neg c, if_neg c]
    · rw [hD 12 1 (by decide) (by decide)]
      exact sh.2
  have e11 : (d_es (di (dp D 8 (9 + k) (some (ob u))) 10 p (-1)) (nI (9 + k))).2.1 11 p = D.2.1 11 p := hD 11 p (by decide) (by decide)
  have fin := mid.cgs (p := p) (k := k) h48 hp hk
  rw [e11] at fin
  exact fin
theorem iV.frz (hv : iV b) (hr : vR b) (hb : rb N b) (hp : p < 8) (hl : lv b p) (hk : k < 4) (h1 : b 15 k = 1) (h2 : b 16 k = p) (hu60 : u < 60) (h6 : b 6 u = 10 + k) : iV (chs (bu (bu b 15 k 2) 17 k u) p k) := by
  obtain ⟨hO, hG, ⟨s1, s2, s3, s4, s5⟩, ⟨w1, w2, w3, w4, w5⟩, hT, hU⟩ := hv
  have c15 : ∀ j, chs (bu (bu b 15 k 2) 17 k u) p k 15 j = if j = k then 2 else b 15 j := fun j => by
    rw [chs_n (by decide) (by decide), bu_n (by decide)]
    by_cases e : j = k
    · rw [if_pos e, e, bu_s]
    · rw [if_neg e, bu_m e]
  have c20 : ∀ j, chs (bu (bu b 15 k 2) 17 k u) p k 20 j = if j = 4 * p + k then 1 else b 20 j := fun j => chs_20 j
  have c19 : ∀ j, chs (bu (bu b 15 k 2) 17 k u) p k 19 j = if j = 4 * p + k then 1 else b 19 j := fun j => chs_19 j
  have hk0 : ∀ q, q < 8 → b 20 (4 * q + k) = 0 := fun q hq => Classical.byContradiction (fun w => by
    have := (s2 q k hq hk w).1
    omega)
  have hmono : ∀ j, b 20 j ≠ 0 → chs (bu (bu b 15 k 2) 17 k u) p k 20 j ≠ 0 := fun j w => by
    rw [c20]
    split
    · decide
    · exact w
  have hU' : ∀ n, n < 8 → ow (chs (bu (bu b 15 k 2) 17 k u) p k) n = ow b n := by
    intro n hn
    rw [ow_sm, ow_sm]
    refine sm_c (fun g hg => ?_)
    show (if opg (chs (bu (bu b 15 k 2) 17 k u) p k) n g = true then 1 else 0) + sm (fun i => if chs (bu (bu b 15 k 2) 17 k u) p k 20 (4 * n + i) = 0 then 0 else if b 11 g = 9 + i + 1 then 1 else 0) 4 = (if opg b n g = true then 1 else 0) + sm (fun i => if b 20 (4 * n + i) = 0 then 0 else if b 11 g = 9 + i + 1 then 1 else 0) 4
    have ho : opg (chs (bu (bu b 15 k 2) 17 k u) p k) n g = true ↔ opg b n g = true ∧ b 11 g ≠ 10 + k := by
      rw [opg_t, opg_t]
      show (0 < b 11 g ∧ fzb (chs (bu (bu b 15 k 2) 17 k u) p k) (b 11 g - 1) = false ∧ b 12 g = n) ↔ _
      by_cases e : b 11 g = 10 + k
      · rw [show fzb (chs (bu (bu b 15 k 2) 17 k u) p k) (b 11 g - 1) = true from fzb_t.mpr ⟨by omega, by omega, by rw [c15, if_pos (by omega)]⟩]
        exact ⟨fun w => (by cases w.2.1), fun w => absurd e w.2⟩
      · have : fzb (chs (bu (bu b 15 k 2) 17 k u) p k) (b 11 g - 1) = fzb b (b 11 g - 1) := by
          rw [Bool.eq_iff_iff, fzb_t, fzb_t, c15]
          by_cases e9 : 9 ≤ b 11 g - 1
          · rw [if_neg (by omega)]
          · exact ⟨fun w => absurd w.1 e9, fun w => absurd w.1 e9⟩
        rw [this]
        exact ⟨fun w => ⟨w, e⟩, fun w => w.1⟩
    by_cases e : b 11 g = 10 + k
    · have hpay : b 12 g = p := by
        rcases w1 g k hg hk e with w | w
        · omega
        · rw [w.2, h2]
      have hfz : fzb b (b 11 g - 1) = false := Bool.eq_false_iff.mpr (fun w => by
        have := (fzb_t.mp w).2.2
        rw [show b 11 g - 1 - 9 = k by omega] at this
        omega)
      rw [if_neg (fun w => (ho.mp w).2 e), sm_only (j := k) hk (fun i hi hik => ?_), sm_only (j := k) hk (fun i hi hik => ?_)]
      · have c1 : chs (bu (bu b 15 k 2) 17 k u) p k 20 (4 * n + k) = if n = p then 1 else 0 := by
          rw [c20]
          by_cases en : n = p
          · rw [if_pos (show 4 * n + k = 4 * p + k by omega), if_pos en]
          · rw [if_neg (show ¬ 4 * n + k = 4 * p + k by omega), if_neg en]
            exact hk0 n hn
        have c2 : opg b n g = true ↔ n = p := by
          rw [opg_t]
          exact ⟨fun w => by rw [← w.2.2, hpay], fun w => ⟨by omega, hfz, by rw [hpay, w]⟩⟩
        rw [hk0 n hn, if_pos rfl, c1, if_pos (show b 11 g = 9 + k + 1 by omega)]
        by_cases en : n = p
        · rw [if_pos en, if_neg (show ¬ (1 : Nat) = 0 by decide), if_pos (c2.mpr en)]
        · rw [if_neg en, if_pos rfl, if_neg (fun w => en (c2.mp w))]
      · show (if b 20 (4 * n + i) = 0 then 0 else if b 11 g = 9 + i + 1 then 1 else 0) = 0
        rw [if_neg (show ¬ b 11 g = 9 + i + 1 by omega)]
        split <;> rfl
      · show (if chs (bu (bu b 15 k 2) 17 k u) p k 20 (4 * n + i) = 0 then 0 else if b 11 g = 9 + i + 1 then 1 else 0) = 0
        rw [if_neg (show ¬ b 11 g = 9 + i + 1 by omega)]
        split <;> rfl
    · congr 1
      · by_cases c : opg b n g = true
        · rw [if_pos (ho.mpr ⟨c, e⟩), if_pos c]
        · rw [if_neg (fun w => c (ho.mp w).1), if_neg c]
      · refine sm_c (fun i hi => ?_)
        show (if chs (bu (bu b 15 k 2) 17 k u) p k 20 (4 * n + i) = 0 then 0 else if b 11 g = 9 + i + 1 then 1 else 0) = (if b 20 (4 * n + i) = 0 then 0 else if b 11 g = 9 + i + 1 then 1 else 0)
        rw [c20]
        by_cases ei : 4 * n + i = 4 * p + k
        · have z : ∀ (P : Prop) [Decidable P], (if P then 0 else 0 : Nat) = 0 := fun P _ => by split <;> rfl
          rw [if_neg (show ¬ b 11 g = 9 + i + 1 by omega), z, z]
        · rw [if_neg ei]
  refine ⟨hO, hG, ⟨fun q i hq hi => ?_, fun q i hq hi w => ?_, fun q r i hq hr4 hi a1 a2 a3 => ?_, fun q y i hq hy hi a1 a2 => hmono _ (s4 q y i hq hy hi a1 a2), fun y i hy hi a1 a2 => ?_⟩, ⟨fun g i hg hi e => ?_, fun i hi e => ?_, fun i j hi hj e1 e2 e3 => ?_, fun i hi e => ?_, fun i hi => ?_⟩, hT, vUo_c (b := b) hU hU'⟩
  · rw [c19, c20]
    show _ ↔ lv b q ∧ _
    by_cases c : 4 * q + i = 4 * p + k
    · rw [if_pos c, if_pos c, show q = p by omega]
      exact ⟨fun _ => ⟨hl, by decide⟩, fun _ => by decide⟩
    · rw [if_neg c, if_neg c]
      exact s1 q i hq hi
  · rw [c20] at w
    rw [c15]
    by_cases c : 4 * q + i = 4 * p + k
    · rw [if_pos (show i = k by omega), show q = p by omega]
      exact ⟨rfl, hl.1⟩
    · rw [if_neg c] at w
      have h := s2 q i hq hi w
      have hik : i ≠ k := fun z => by
        rw [z] at h
        omega
      rw [if_neg hik]
      exact h
  · rw [c15] at a3
    by_cases c : i = k
    · have hq16 := hr q r k hq hr4 hk a1 (by rw [← c]; exact a2) h1
      rw [c20, if_pos (show 4 * q + i = 4 * p + k by omega)]
      decide
    · rw [if_neg c] at a3
      exact hmono _ (s3 q r i hq hr4 hi a1 a2 a3)
  · obtain ⟨q, q1, q2, q3⟩ := s5 y i hy hi a1 a2
    exact ⟨q, q1, q2, hmono _ q3⟩
  · rw [c15]
    by_cases c : i = k
    · rw [if_pos c]
      exact Or.inl rfl
    · rw [if_neg c]
      exact w1 g i hg hi e
  · rw [c15] at e
    by_cases c : i = k
    · rw [if_pos c] at e
      cases e
    · rw [if_neg c] at e
      exact w2 i hi e
  · rw [c15] at e1 e2
    by_cases c : i = k
    · rw [if_pos c] at e1
      cases e1
    · by_cases d : j = k
      · rw [if_pos d] at e2
        cases e2
      · rw [if_neg c] at e1
        rw [if_neg d] at e2
        exact w3 i j hi hj e1 e2 e3
  · rw [c15] at e
    show b 6 (bu (bu b 15 k 2) 17 k u 17 i) = 10 + i
    by_cases c : i = k
    · rw [c, bu_s]
      exact h6
    · rw [if_neg c] at e
      rw [bu_m c, bu_n (by decide)]
      exact w4 i hi e
  · rw [c15]
    show b 18 0 ≤ i ↔ _
    rw [w5 i hi]
    by_cases c : i = k
    · rw [if_pos c, c, h1]
      exact ⟨fun w => (by cases w), fun w => (by cases w)⟩
    · rw [if_neg c]
end SZ3
