/-! THE CLASS AS A WHOLE: limits -/
def d_par (D : ph_D) (p : Nat) : Nat := (D.2.1 7 p).toNatClampNeg
def d_pd (D : ph_D) (p : Nat) : Nat := D.1.1.countP (fun g => decide (D.2.1 1 g = nI p) || bb_t (D.2.1 11 p) (D.2.1 0 g).toNatClampNeg)
def d_U0 (D : ph_D) (p : Nat) : Int32 := if p < d_m D then nI (d_pd D p) else 0
def d_E0 (D : ph_D) (p : Nat) : Int32 := if p < d_m D ∧ (p = 0 ∨ ¬ D.2.1 6 p = 4 ∨ 0 < d_pd D p) then 1 else 0
def d_cs (D : ph_D) (s : (Nat → Int32) × (Nat → Int32)) (p : Nat) : (Nat → Int32) × (Nat → Int32) := if s.2 p = 0 then s else (lm_up s.1 (d_par D p) (s.1 (d_par D p) + (if D.2.1 9 p = 0 then s.1 p else D.2.1 8 p)), lm_up s.2 (d_par D p) 1)
def d_lc (D : ph_D) : Nat → (Nat → Int32) × (Nat → Int32) → (Nat → Int32) × (Nat → Int32)
  | 0, s => s
  | p + 1, s => d_lc D p (d_cs D s (p + 1))
def d_U (D : ph_D) : Nat → Int32 := (d_lc D 7 (d_U0 D, d_E0 D)).1
def d_E (D : ph_D) : Nat → Int32 := (d_lc D 7 (d_U0 D, d_E0 D)).2
def d_sv (D : ph_D) (S : Nat → Int32) (p : Nat) : Int32 := if p < d_m D then (if D.2.1 9 p = 0 then (if S (d_par D p) < D.2.1 8 p - d_U D p then S (d_par D p) else D.2.1 8 p - d_U D p) else D.2.1 8 p - d_U D p) else 0
def d_ss (D : ph_D) : Nat → (Nat → Int32)
  | 0 => fun _ => 0
  | n + 1 => lm_up (d_ss D n) n (d_sv D (d_ss D n) n)
def d_S (D : ph_D) : Nat → Int32 := d_ss D 8
/-- the tree of processes; the heaps' numbers -/
def d_tr (D : ph_D) : Prop := (∀ p, 0 < p → p < d_m D → ∃ j, j < p ∧ D.2.1 7 p = nI j) ∧ ¬ D.2.1 9 0 = 0
def d_gh (D : ph_D) : Prop := ∀ g, g ∈ D.1.1 → ∃ n, n < 13 ∧ D.2.1 0 g = nI n
section QF
variable {l : Launch} {G : mm_G} {K : Option mm_V → mm_M → Prop} {M M1 Mb N : mm_M} {c : Nat → Nat} {F : Nat → Prop} {D D1 : ph_D} {eP eO eP1 eO1 : Nat}
theorem ph_R.m (h : ph_R G c F Mb M D eP eO) : 1 ≤ d_m D ∧ d_m D ≤ 8 ∧ D.2.1 12 0 = nI (d_m D) ∧ mm_i M (c 0) 5 = nI (d_m D) ∧ (∀ p, d_m D ≤ p → p < 8 → mm_p M (c 8) p = none ∧ D.2.1 6 p = 0) ∧ ∀ p, p < d_m D → ∃ q, mm_p M (c 8) p = some q ∧ mm_k M q = 6 ∧ ph_Q M D p q := by
  obtain ⟨m, m1, m2, m3, m4, m5, m6⟩ := h.2.2.2.1
  have hm : d_m D = m := by unfold d_m; rw [m4, nI_clamp (by omega)]
  rw [hm]
  refine ⟨m1, m2, m4, m3, m5, fun p hp => ?_⟩
  obtain ⟨q, hq, hQ⟩ := m6 p hp
  exact ⟨q, hq, h.1.2.1.2.2.2.1 (c 8) p q h.kar hq, hQ⟩
theorem ph_R.tr (h : ph_R G c F Mb M D eP eO) (ht : d_tr D) : tr_H M (c 8) := by
  obtain ⟨m1, m2, m3, m4, m5, m6⟩ := h.m
  refine ⟨h.kar, h.lar, fun p q h0 hp hq => ?_, fun q hq => ?_⟩
  · have hpm : p < d_m D := by
      rcases Nat.lt_or_ge p (d_m D) with z | z
      · exact z
      · rw [(m5 p z hp).1] at hq
        cases hq
    obtain ⟨j, hj, e⟩ := ht.1 p h0 hpm
    obtain ⟨q', hq', -⟩ := m6 j (by omega)
    exact ⟨j, q', by rw [(h.prs hp hq).2.2.2.1]; exact e, hj, hq'⟩
  · rw [(h.prs (by omega) hq).2.2.2.2.2.1]
    exact ht.2
theorem ph_R.pd (h : ph_R G c F Mb M D eP eO) {p q : Nat} (hQ : ph_Q M D p q) : lm_pd M D.1.1 q = d_pd D p := by
  unfold lm_pd d_pd
  apply List.countP_congr
  intro g hg
  have z := h.2.2.2.2.1 g hg
  rw [z.1, z.2.1, hQ.1, hQ.2.2.2.2.2.2.1]
theorem ph_R.u0 (h : ph_R G c F Mb M D eP eO) {p : Nat} (hp : p < 8) : lm_U0 M (c 8) D.1.1 p = d_U0 D p ∧ lm_E0 M (c 8) D.1.1 p = d_E0 D p := by
  obtain ⟨m1, m2, m3, m4, m5, m6⟩ := h.m
  unfold lm_U0 lm_E0 d_U0 d_E0
  rcases Nat.lt_or_ge p (d_m D) with z | z
  · obtain ⟨q, hq, h6, hQ⟩ := m6 p z
    rw [hq, if_pos z]
    show nI (lm_pd M D.1.1 q) = nI (d_pd D p) ∧ (if p = 0 ∨ ¬ mm_i M q 5 = 4 ∨ 0 < lm_pd M D.1.1 q then (1 : Int32) else 0) = if p < d_m D ∧ (p = 0 ∨ ¬ D.2.1 6 p = 4 ∨ 0 < d_pd D p) then 1 else 0
    rw [h.pd hQ, hQ.2.1]
    refine ⟨rfl, ?_⟩
    by_cases w : p = 0 ∨ ¬ D.2.1 6 p = 4 ∨ 0 < d_pd D p
    · rw [if_pos w, if_pos ⟨z, w⟩]
    · rw [if_neg w, if_neg (fun u => w u.2)]
  · rw [(m5 p z hp).1, if_neg (by omega), if_neg (fun u => by omega)]
    exact ⟨rfl, rfl⟩
theorem qf_lc (h : ph_R G c F Mb M D eP eO) (ht : d_tr D) : ∀ (p : Nat) (s s' : (Nat → Int32) × (Nat → Int32)), p ≤ 7 → (∀ j, j < 8 → s.1 j = s'.1 j ∧ s.2 j = s'.2 j) → (∀ j, j < 8 → ¬ s.2 j = 0 → j < d_m D) → ∀ j, j < 8 → (lc M (c 8) p s).1 j = (d_lc D p s').1 j ∧ (lc M (c 8) p s).2 j = (d_lc D p s').2 j
  | 0, s, s', _, hs, _, j, hj => hs j hj
  | p + 1, s, s', hp, hs, hE, j, hj => by
    obtain ⟨m1, m2, m3, m4, m5, m6⟩ := h.m
    show (lc M (c 8) p (lc_s M (c 8) s (p + 1))).1 j = (d_lc D p (d_cs D s' (p + 1))).1 j ∧ (lc M (c 8) p (lc_s M (c 8) s (p + 1))).2 j = (d_lc D p (d_cs D s' (p + 1))).2 j
    unfold lc_s d_cs
    have e := (hs (p + 1) (by omega)).2
    by_cases w : s.2 (p + 1) = 0
    · rw [if_pos w, if_pos (e.symm.trans w)]
      exact qf_lc h ht p s s' (by omega) hs hE j hj
    · rw [if_neg w, if_neg (fun u => w (e.trans u))]
      have hpm := hE (p + 1) (by omega) w
      obtain ⟨q, hq, h6, hQ⟩ := m6 (p + 1) hpm
      obtain ⟨i, hi, ei⟩ := ht.1 (p + 1) (by omega) hpm
      have epn : pn M q = i := by unfold pn; rw [hQ.2.2.1, ei, nI_clamp (by omega)]
      have edp : d_par D (p + 1) = i := by unfold d_par; rw [ei, nI_clamp (by omega)]
      rw [hq, edp]
      show (lc M (c 8) p (lm_up s.1 (pn M q) (s.1 (pn M q) + (if mm_i M q 3 = 0 then s.1 (p + 1) else mm_i M q 2)), lm_up s.2 (pn M q) 1)).1 j = _ ∧ (lc M (c 8) p (lm_up s.1 (pn M q) (s.1 (pn M q) + (if mm_i M q 3 = 0 then s.1 (p + 1) else mm_i M q 2)), lm_up s.2 (pn M q) 1)).2 j = _
      rw [epn, hQ.2.2.2.1, hQ.2.2.2.2.1]
      refine qf_lc h ht p _ _ (by omega) (fun b hb => ?_) (fun b hb hb2 => ?_) j hj
      · show lm_up s.1 i _ b = lm_up s'.1 i _ b ∧ lm_up s.2 i 1 b = lm_up s'.2 i 1 b
        unfold lm_up
        by_cases u : b = i
        · rw [if_pos u, if_pos u, if_pos u, if_pos u, (hs i (by omega)).1, (hs (p + 1) (by omega)).1]
          exact ⟨rfl, rfl⟩
        · rw [if_neg u, if_neg u, if_neg u, if_neg u]
          exact hs b hb
      · have hb3 : ¬ lm_up s.2 i 1 b = 0 := hb2
        unfold lm_up at hb3
        by_cases u : b = i
        · omega
        · rw [if_neg u] at hb3
          exact hE b hb hb3
theorem ph_R.rk (h : ph_R G c F Mb M D eP eO) (ht : d_tr D) {j : Nat} (hj : j < 8) : (rk_P M (c 8) (c 5) (c 7) D.1.1).1 j = d_U D j ∧ (rk_P M (c 8) (c 5) (c 7) D.1.1).2 j = d_E D j := by
  unfold rk_P d_U d_E
  refine qf_lc h ht 7 _ _ (by omega) (fun i hi => ?_) (fun i hi hE => ?_) j hj
  · show (if i < 8 then lm_U0 M (c 8) D.1.1 i else mm_i M (c 5) i) = _ ∧ (if i < 8 then lm_E0 M (c 8) D.1.1 i else mm_i M (c 7) i) = _
    rw [if_pos hi, if_pos hi]
    exact h.u0 hi
  · have hE' : ¬ (if i < 8 then lm_E0 M (c 8) D.1.1 i else mm_i M (c 7) i) = 0 := hE
    rw [if_pos hi, (h.u0 hi).2] at hE'
    unfold d_E0 at hE'
    by_cases w : i < d_m D ∧ (i = 0 ∨ ¬ D.2.1 6 i = 4 ∨ 0 < d_pd D i)
    · exact w.1
    · rw [if_neg w] at hE'
      exact absurd rfl hE'
theorem qf_sr (h : ph_R G c F Mb M D eP eO) (ht : d_tr D) {U S : Nat → Int32} (hU : ∀ j, j < 8 → U j = d_U D j) : ∀ n, n ≤ 8 → ∀ j, j < n → sp M (c 8) U n S j = d_ss D n j
  | 0, _, j, hj => absurd hj (Nat.not_lt_zero j)
  | n + 1, hn, j, hj => by
    obtain ⟨m1, m2, m3, m4, m5, m6⟩ := h.m
    have ih := qf_sr h ht (S := S) hU n (by omega)
    show lm_up (sp M (c 8) U n S) n (sv M (c 8) U (sp M (c 8) U n S) n) j = lm_up (d_ss D n) n (d_sv D (d_ss D n) n) j
    unfold lm_up
    by_cases w : j = n
    · rw [if_pos w, if_pos w]
      unfold sv d_sv
      rcases Nat.lt_or_ge n (d_m D) with z | z
      · obtain ⟨q, hq, h6, hQ⟩ := m6 n z
        rw [hq, if_pos z]
        show (if mm_i M q 3 = 0 then (if sp M (c 8) U n S (pn M q) < mm_i M q 2 - U n then sp M (c 8) U n S (pn M q) else mm_i M q 2 - U n) else mm_i M q 2 - U n) = _
        rw [hQ.2.2.2.1, hQ.2.2.2.2.1, hU n (by omega)]
        by_cases u : D.2.1 9 n = 0
        · rw [if_pos u, if_pos u]
          have hn0 : 0 < n := by
            rcases Nat.eq_zero_or_pos n with v | v
            · subst v
              exact absurd u ht.2
            · exact v
          obtain ⟨i, hi, ei⟩ := ht.1 n hn0 z
          have epn : pn M q = i := by unfold pn; rw [hQ.2.2.1, ei, nI_clamp (by omega)]
          have edp : d_par D n = i := by unfold d_par; rw [ei, nI_clamp (by omega)]
          rw [epn, edp, ih i hi]
        · rw [if_neg u, if_neg u]
      · rw [(m5 n z (by omega)).1, if_neg (by omega)]
    · rw [if_neg w, if_neg w]
      exact ih j (by omega)
theorem cw_reckon (h : ph_R G c F Mb M D eP eO) (ht : d_tr D) (hgh : d_gh D) (k : ∀ M1, ph_R G c F Mb M1 D eP eO → (∀ p, p < 8 → mm_i M1 (c 5) p = d_U D p ∧ mm_i M1 (c 6) p = d_S D p ∧ mm_i M1 (c 7) p = d_E D p) → K none M1) : mm_Ok l G yy_Li_reckon Y_Li_reckon [.inr (some (c 4)), .inr (some (c 8)), .inr (some (c 1))] M K := by
  refine ct_reckon h.lm h.1 (fun g hg => ?_) (h.tr ht) (k _ (h.lim _ _ _) (fun p hp => ?_))
  · obtain ⟨n, hn, e⟩ := hgh g hg
    exact ⟨n, by omega, by rw [(h.2.2.2.2.1 g hg).1]; exact e⟩
  · rw [lm_iu, h.lm.is, h.lm.ie]
    exact ⟨(h.rk ht hp).1, qf_sr h ht (fun j hj => (h.rk ht hj).1) 8 (by omega) p hp, (h.rk ht hp).2⟩
theorem cw_canPay {p : Nat} {x : Int32} (h : ph_R G c F Mb M D eP eO) (ht : d_tr D) (hgh : d_gh D) (hp : p < 8) (k : ∀ M1, ph_R G c F Mb M1 D eP eO → K (some (.inl (if d_S D p < x then 0 else 1))) M1) : mm_Ok l G yy_PH_canPay Y_PH_canPay [.inr (some (c 0)), .inl (nI p), .inl x] M K := by
  have hX := h.2.1
  refine sg_PH_canPay ⟨hX.1, c 4, hX.2.2.2.1, h.lm.1, ?_⟩
  rw [hX.2.2.2.2.1, hX.2.1]
  refine cw_reckon h ht hgh (fun M1 h1 hv _ => ⟨rfl, c 4, h1.2.1.2.2.2.1, h1.lm.1, c 6, h1.lm.2.2.1, h1.lm.2.2.2.2.2.1, p, rfl, by omega, by rw [h1.lm.2.2.2.2.2.2.2.2.1]; exact hp, fun hc => ?_, fun hc => ?_⟩)
  · rw [(hv p hp).2.1] at hc
    have z := k M1 h1
    rw [if_pos hc] at z
    exact z
  · rw [(hv p hp).2.1] at hc
    have z := k M1 h1
    rw [if_neg hc] at z
    exact z
end QF
