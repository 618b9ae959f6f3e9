/-! CLASS AND REFERENCE: shared heaps begun, frozen, shared; processes -/
section SZ2
variable {D D1 : ph_D} {b b1 : rB} {L : Nat → Int32} {pg ob U T : Nat → Nat} {N n p h x y g k t r v u f c s : Nat}
/-- a shared heap is begun -/
theorem sR.beg (hs : sR D b L pg ob) (hc : c < 4) (hp : p < 8) (h15 : b 15 c = 0) (hno : ∀ k, k < 4 → ¬ (b 15 k = 1 ∧ b 16 k = p)) (h18 : b 18 0 = c) : sR (di (di D 10 p (nI (9 + c))) 12 1 (nI (9 + c + 1))) (bu (bu (bu b 15 c 1) 16 c p) 18 0 (c + 1)) L pg ob := by
  obtain ⟨sx, so, sg, sp, sq, sh⟩ := hs
  have hi : ∀ q j, q ≠ 10 → (q = 12 → j ≠ 1) → (di (di D 10 p (nI (9 + c))) 12 1 (nI (9 + c + 1))).2.1 q j = D.2.1 q j := fun q j h1 h2 => by
    rw [di_i, if_neg (fun w => h2 w.1 w.2)]
    exact di_n h1
  have r1 : ∀ q j, q ≠ 15 → q ≠ 16 → q ≠ 18 → bu (bu (bu b 15 c 1) 16 c p) 18 0 (c + 1) q j = b q j := fun q j h1 h2 h3 => by rw [bu_n h3, bu_n h2, bu_n h1]
  have r15 : ∀ j, bu (bu (bu b 15 c 1) 16 c p) 18 0 (c + 1) 15 j = if j = c then 1 else b 15 j := fun j => by
    rw [bu_n (by decide), bu_n (by decide)]
    unfold bu
    by_cases e : j = c
    · rw [if_pos ⟨rfl, e⟩, if_pos e]
    · rw [if_neg (fun w => e w.2), if_neg e]
  have r16 : ∀ j, bu (bu (bu b 15 c 1) 16 c p) 18 0 (c + 1) 16 j = if j = c then p else b 16 j := fun j => by
    rw [bu_n (by decide)]
    by_cases e : j = c
    · rw [if_pos e, e, bu_s]
    · rw [if_neg e, bu_m e, bu_n (by decide)]
  have hf : ∀ i, fzb (bu (bu (bu b 15 c 1) 16 c p) 18 0 (c + 1)) i = fzb b i := fun i => by
    rw [Bool.eq_iff_iff, fzb_t, fzb_t, r15]
    by_cases e : i - 9 = c
    · rw [if_pos e, e, h15]
      exact ⟨fun w => by omega, fun w => by omega⟩
    · rw [if_neg e]
  refine ⟨sx, fun x hx h0 => (so x hx h0).cong (fun k hk j => hi k j (by omega) (by omega)) (fun _ _ _ => rfl) (fun k hk j => r1 k j (by omega) (by omega) (by omega)), sg, fun g hg h0 => ?_, ⟨?_, fun q hq => ?_, fun q hq => ?_⟩, fun i h13 => ?_, ?_⟩
  · rw [hf, hi 0 _ (by decide) (by omega), hi 1 _ (by decide) (by omega)]
    exact sp g hg h0
  · rw [hi 12 0 (by decide) (by omega)]
    exact sq.1
  · rw [hi 6 _ (by decide) (by omega)]
    exact sq.2.1 q hq
  · obtain ⟨q1, q2, q3, q4, q5, q6⟩ := sq.2.2 q hq
    refine ⟨fun w => by rw [hi 7 _ (by decide) (by omega)]; exact q1 w, by rw [hi 8 _ (by decide) (by omega)]; exact q2, by rw [hi 9 _ (by decide) (by omega)]; exact q3, ?_, fun i => by rw [hi 11 _ (by decide) (by omega)]; exact q5 i, q6⟩
    rw [di_n (by decide), di_i]
    have hall : ∀ n, n ≤ 4 → rbk (bu (bu (bu b 15 c 1) 16 c p) 18 0 (c + 1)) q n = if q = p ∧ c < n then 9 + c else rbk b q n := by
      intro n
      induction n with
      | zero =>
        intro _
        rw [if_neg (fun w => by omega)]
        rfl
      | succ n ih =>
        intro hn
        show (if bu (bu (bu b 15 c 1) 16 c p) 18 0 (c + 1) 15 n = 1 ∧ bu (bu (bu b 15 c 1) 16 c p) 18 0 (c + 1) 16 n = q then 9 + n else rbk (bu (bu (bu b 15 c 1) 16 c p) 18 0 (c + 1)) q n) = if q = p ∧ c < n + 1 then 9 + c else (if b 15 n = 1 ∧ b 16 n = q then 9 + n else rbk b q n)
        rw [ih (by omega), r15, r16]
        by_cases e : n = c
        · rw [if_pos e, if_pos e]
          by_cases e2 : q = p
          · rw [if_pos ⟨rfl, e2.symm⟩, if_pos ⟨e2, by omega⟩, e]
          · rw [if_neg (fun w => e2 w.2.symm), if_neg (fun w => e2 w.1), if_neg (fun w => e2 w.1), if_neg (fun w => by rw [e, h15] at w; cases w.1)]
        · rw [if_neg e, if_neg e]
          by_cases e2 : q = p
          · rw [e2, if_neg (hno n (by omega)), if_neg (hno n (by omega))]
            by_cases e3 : c < n
            · rw [if_pos ⟨rfl, e3⟩, if_pos ⟨rfl, by omega⟩]
            · rw [if_neg (fun w => e3 w.2), if_neg (fun w => by omega)]
          · rw [if_neg (show ¬ (q = p ∧ c < n) from fun w => e2 w.1), if_neg (show ¬ (q = p ∧ c < n + 1) from fun w => e2 w.1)]
    have h4 := hall 4 (by omega)
    by_cases e : q = p
    · rw [if_pos ⟨e, hc⟩] at h4
      rw [h4, if_pos ⟨rfl, e⟩, if_neg (show ¬ 9 + c = q by omega)]
    · rw [if_neg (fun w => e w.1)] at h4
      rw [h4, if_neg (fun w => e w.2)]
      exact q4
  · rw [hf]
    exact sh.1 i h13
  · rw [di_i, if_pos ⟨rfl, rfl⟩, bu_s]
    rfl
theorem iV.beg (hv : iV b) (hc : c < 4) (hp : p < 8) (hl : lv b p) (hno : ∀ k, k < 4 → ¬ (b 15 k = 1 ∧ b 16 k = p)) (h18 : b 18 0 = c) : iV (bu (bu (bu b 15 c 1) 16 c p) 18 0 (c + 1)) := by
  obtain ⟨hO, hG, ⟨s1, s2, s3, s4, s5⟩, ⟨w1, w2, w3, w4, w5⟩, hT, hU⟩ := hv
  have h15 : b 15 c = 0 := (w5 c hc).mp (by omega)
  have r15 : ∀ j, bu (bu (bu b 15 c 1) 16 c p) 18 0 (c + 1) 15 j = if j = c then 1 else b 15 j := fun j => by
    rw [bu_n (by decide), bu_n (by decide)]
    unfold bu
    by_cases e : j = c
    · rw [if_pos ⟨rfl, e⟩, if_pos e]
    · rw [if_neg (fun w => e w.2), if_neg e]
  have r16 : ∀ j, bu (bu (bu b 15 c 1) 16 c p) 18 0 (c + 1) 16 j = if j = c then p else b 16 j := fun j => by
    rw [bu_n (by decide)]
    by_cases e : j = c
    · rw [if_pos e, e, bu_s]
    · rw [if_neg e, bu_m e, bu_n (by decide)]
  have hf : ∀ i, fzb (bu (bu (bu b 15 c 1) 16 c p) 18 0 (c + 1)) i = fzb b i := fun i => by
    rw [Bool.eq_iff_iff, fzb_t, fzb_t, r15]
    by_cases e : i - 9 = c
    · rw [if_pos e, e, h15]
      exact ⟨fun w => by omega, fun w => by omega⟩
    · rw [if_neg e]
  have h2 : ∀ k, bu (bu (bu b 15 c 1) 16 c p) 18 0 (c + 1) 15 k = 2 ↔ b 15 k = 2 := fun k => by
    rw [r15]
    by_cases e : k = c
    · rw [if_pos e, e, h15]
      exact ⟨fun w => by omega, fun w => by omega⟩
    · rw [if_neg e]
  refine ⟨hO, hG, ⟨s1, fun q k hq hk h0 => ⟨(h2 k).mpr (s2 q k hq hk h0).1, (s2 q k hq hk h0).2⟩, fun q r k hq hr hk h0 e e2 => s3 q r k hq hr hk h0 e ((h2 k).mp e2), s4, s5⟩, ⟨fun g k hg hk e => ?_, fun k hk e => ?_, fun k q hk hq e1 e2 e3 => ?_, fun k hk e => w4 k hk ((h2 k).mp e), fun k hk => ?_⟩, hT, ?_⟩
  · have h := w1 g k hg hk e
    have hkc : k ≠ c := fun w => by
      rw [w, h15] at h
      omega
    rw [r15, r16, if_neg hkc, if_neg hkc]
    exact h
  · rw [r15] at e
    rw [r16]
    by_cases ek : k = c
    · rw [if_pos ek]
      exact hl
    · rw [if_neg ek] at e ⊢
      exact w2 k hk e
  · rw [r15] at e1 e2
    rw [r16, r16] at e3
    by_cases ek : k = c
    · by_cases eq : q = c
      · omega
      · rw [if_pos ek, if_neg eq] at e3
        rw [if_neg eq] at e2
        exact absurd ⟨e2, e3.symm⟩ (hno q hq)
    · by_cases eq : q = c
      · rw [if_neg ek, if_pos eq] at e3
        rw [if_neg ek] at e1
        exact absurd ⟨e1, e3⟩ (hno k hk)
      · rw [if_neg ek] at e1 e3
        rw [if_neg eq] at e2 e3
        exact w3 k q hk hq e1 e2 e3
  · rw [bu_s, r15]
    have h5 := w5 k hk
    by_cases ek : k = c
    · rw [if_pos ek]
      exact ⟨fun w => by omega, fun w => by omega⟩
    · rw [if_neg ek, ← h5]
      omega
  · exact hU.le (fun k hk j => by rw [bu_n (by omega), bu_n (by omega), bu_n (by omega)]) (fun n _ => ow_le3 (b := b) (b1 := bu (bu (bu b 15 c 1) 16 c p) 18 0 (c + 1)) (fun g _ => Or.inr rfl) (fun g _ => rfl) (fun g _ _ => hf _) (fun j => Or.inr rfl) n)
/-- p pays for k from now on, and holds it -/
def chs (b : rB) (p k : Nat) : rB := bu (bu b 19 (4 * p + k) 1) 20 (4 * p + k) 1
theorem chs_n {q j : Nat} (h1 : q ≠ 19) (h2 : q ≠ 20) : chs b p k q j = b q j := by
  unfold chs
  rw [bu_n h2, bu_n h1]
theorem chs_20 (j : Nat) : chs b p k 20 j = if j = 4 * p + k then 1 else b 20 j := by
  unfold chs
  by_cases e : j = 4 * p + k
  · rw [if_pos e, e, bu_s]
  · rw [if_neg e, bu_m e, bu_n (by decide)]
theorem chs_19 (j : Nat) : chs b p k 19 j = if j = 4 * p + k then 1 else b 19 j := by
  unfold chs
  rw [bu_n (by decide)]
  by_cases e : j = 4 * p + k
  · rw [if_pos e, e, bu_s]
  · rw [if_neg e, bu_m e]
theorem sR.cgs (hs : sR D b L pg ob) (h48 : b 4 0 ≤ 8) (hp : p < b 4 0) (hk : k < 4) : sR (di D 11 p (D.2.1 11 p ||| ((1 : Int32) <<< (nI (9 + k) &&& 31)))) (chs b p k) L pg ob := by
  refine hs.chg rfl (fun _ _ => rfl) (fun k j h => di_n h) (fun k j h1 h2 => chs_n h1 h2) (fun q hq i => ?_)
  have hold := (hs.2.2.2.2.1.2.2 q hq).2.2.2.2.1 i
  rw [Bool.eq_iff_iff, b9, di_i, chs_20]
  by_cases e : q = p
  · subst e
    rw [if_pos ⟨rfl, rfl⟩, bb_set _ (by omega), hold, Bool.or_eq_true, b9, decide_eq_true_eq]
    by_cases ei : i = 9 + k
    · rw [ei, if_pos (by omega)]
      exact ⟨fun _ => ⟨by omega, by omega, by omega⟩, fun _ => Or.inr rfl⟩
    · constructor
      · rintro (w | w)
        · rw [if_neg (by omega)]
          exact w
        · exact absurd w ei
      · intro w
        rw [if_neg (by omega)] at w
        exact Or.inl w
  · rw [if_neg (fun w => e w.2), hold, b9]
    constructor
    · intro w
      rw [if_neg (by omega)]
      exact w
    · intro w
      rw [if_neg (by omega)] at w
      exact w
theorem ow_chs (hp : p < 8) (hk : k < 4) (h0 : b 20 (4 * p + k) = 0) (n : Nat) (hn : n < 8) : ow (chs b p k) n = fup (ow b) p (ow b p + pc b (9 + k)) n := by
  have e1 : (List.range 24).countP (opg (chs b p k) n) = (List.range 24).countP (opg b n) := rfl
  have e2 : ∀ i, pc (chs b p k) i = pc b i := fun _ => rfl
  have e3 : ∀ i, i < 4 → opk (chs b p k) n i = opk b n i + if n = p ∧ i = k then pc b (9 + k) else 0 := fun i hi => by
    unfold opk
    rw [chs_20, e2]
    by_cases c : n = p ∧ i = k
    · rw [if_pos c, c.1, c.2, if_pos rfl, if_neg (by decide), if_pos h0]
      omega
    · rw [if_neg c, if_neg (show ¬ 4 * n + i = 4 * p + k by omega)]
      rfl
  unfold ow
  rw [e1]
  unfold fup
  by_cases c : n = p
  · rw [if_pos c, sm_one (g := opk b n) (j := k) (d := pc b (9 + k)) hk (fun i hi hik => by rw [e3 i hi, if_neg (fun w => hik w.2), Nat.add_zero]) (by rw [e3 k hk, if_pos ⟨c, rfl⟩]), c]
    omega
  · rw [if_neg c, sm_c (g := opk b n) (fun i hi => by rw [e3 i hi, if_neg (fun w => c w.1), Nat.add_zero])]
theorem vUo_c {o o1 : Nat → Nat} (h : vUo b o) (ho : ∀ n, n < 8 → o1 n = o n) : vUo b o1 := vUo_mono h (fun _ _ => Iff.rfl) (fun _ _ w => w) (fun _ _ => ⟨rfl, rfl, rfl⟩) (fun n hn => by rw [ho n hn]; exact Nat.le_refl _)
theorem iV.cgs (hv : iV b) (hb : rb N b) (hp : p < 8) (hl : lv b p) (hk : k < 4) (h2 : b 15 k = 2) (h0 : b 19 (4 * p + k) = 0) (hE : ∀ n, n < 8 → wkE b U T n) (hr : nI (pc b (9 + k)) ≤ rsn b U p) : iV (chs b p k) := by
  obtain ⟨hO, hG, ⟨s1, s2, s3, s4, s5⟩, hB, hT, hU⟩ := hv
  have h20 : b 20 (4 * p + k) = 0 := Classical.byContradiction (fun w => (s1 p k hp hk).mpr ⟨hl, w⟩ h0)
  have hmono : ∀ j, b 20 j ≠ 0 → chs b p k 20 j ≠ 0 := fun j w => by
    rw [chs_20]
    split
    · decide
    · exact w
  refine ⟨hO, hG, ⟨fun q i hq hi => ?_, fun q i hq hi w => ?_, fun q r i hq hr hi a1 a2 a3 => hmono _ (s3 q r i hq hr hi a1 a2 a3), fun q y i hq hy hi a1 a2 => hmono _ (s4 q y i hq hy hi a1 a2), fun y i hy hi a1 a2 => ?_⟩, hB, hT, ?_⟩
  · rw [chs_19, chs_20]
    show _ ↔ lv b q ∧ _
    by_cases c : 4 * q + i = 4 * p + k
    · rw [if_pos c, if_pos c, show q = p by omega]
      exact ⟨fun _ => ⟨hl, by decide⟩, fun _ => by decide⟩
    · rw [if_neg c, if_neg c]
      exact s1 q i hq hi
  · rw [chs_20] at w
    by_cases c : 4 * q + i = 4 * p + k
    · rw [show q = p by omega, show i = k by omega]
      exact ⟨h2, hl.1⟩
    · rw [if_neg c] at w
      exact s2 q i hq hi w
  · obtain ⟨q, q1, q2, q3⟩ := s5 y i hy hi a1 a2
    exact ⟨q, q1, q2, hmono _ q3⟩
  · have hbp := bump (d := pc b (9 + k)) hb hT hU hE hp hl (pc_le b _) hr
    have : vUo b (ow (chs b p k)) := vUo_c hbp (fun n hn => ow_chs hp hk h20 n hn)
    exact this
end SZ2
