/-! CLASS AND REFERENCE: the reference answers as the class, second part -/
section SZ9
variable {l : Launch} {G : mm_G} {a0 : Nat} {ad : Nat → Nat} {Mb : mm_M} {D D1 : ph_D} {b : rB} {L : Nat → Int32} {pg ob : Nat → Nat} {N p q r s i j k n m u f a : Nat} {x y z w v : Int32}
theorem pu_freeze0 (h : Rel N D b L pg ob) (hN : N + 200 < 1000000000) (k : ∀ p r i a, d_lv D p → r < 4 → x = nI p → y = nI r → 9 ≤ i → i < 13 → D.2.1 10 p = nI i → D.2.2 (4 + r) p = some a → ¬ d_h D a = nI i) : mo_Ok l G yy_Mo_freeze Y_Mo_freeze [.inr (some a0), .inl x, .inl y] a0 ad Mb (ra L b) (Nxt N D (-1)) := by
  refine cq_freeze h.2.2.2.2.1 (fun _ => h.nx hN rfl) (fun p r i u hp hl hr e1 e2 hi h1 h2 h3 h4 => ?_)
  obtain ⟨u1, u2⟩ := h.rl hp hr h3
  refine absurd ((h.1.hq h.2.1.2.1 h.2.2.2.2.1 u1 u2 (show 9 + i < 13 by omega)).mpr (by omega)) (k p r (9 + i) (ob u) (h.liv.mpr ⟨hp, hl⟩) hr e1 e2 (by omega) (by omega) ?_ (by rw [h.rg hp hl hr, h3]; rfl))
  rw [(h.1.2.2.2.2.1.2.2 p (lv_made h.2.1.2.2.2.2.1 hp hl)).2.2.2.1, rbk_at h.2.1.2.2.2.1 hp hi h1 h2, if_neg (by omega)]
theorem pu_freeze1 (h : Rel N D b L pg ob) (hN : N + 200 < 1000000000) (hd : d_lv D p) (hr : r < 4) (e1 : x = nI p) (e2 : y = nI r) (h9 : 9 ≤ i) (h13 : i < 13) (h10 : D.2.1 10 p = nI i) (hreg : D.2.2 (4 + r) p = some a) (hh : d_h D a = nI i) : mo_Ok l G yy_Mo_freeze Y_Mo_freeze [.inr (some a0), .inl x, .inl y] a0 ad Mb (ra L b) (Nxt N (d_fz D p i a) (nI i)) := by
  obtain ⟨hp, hl⟩ := h.liv.mp hd
  subst e1
  subst e2
  have hm := lv_made h.2.1.2.2.2.2.1 hp hl
  have hB := h.2.1.2.2.2.1
  rw [h.rg hp hl hr, rf_some] at hreg
  obtain ⟨u, u1, u2⟩ := hreg
  subst u2
  obtain ⟨u3, u4⟩ := h.rl hp hr u1
  have h6 := (h.1.hq h.2.1.2.1 h.2.2.2.2.1 u3 u4 h13).mp hh
  rw [(h.1.2.2.2.2.1.2.2 p hm).2.2.2.1] at h10
  have hrb : ∃ k, k < 4 ∧ i = 9 + k ∧ b 15 k = 1 ∧ b 16 k = p := by
    rcases rbk_or b p 4 with w | ⟨k, k1, k2, k3, k4⟩
    · rw [if_pos w] at h10
      exact absurd h10 (m1_ne (by omega))
    · rw [if_neg (show ¬ rbk b p 4 = p by omega), k2] at h10
      exact ⟨k, k1, (nIi h10).symm, k3, k4⟩
  obtain ⟨k, k1, k2, k3, k4⟩ := hrb
  subst k2
  refine cq_freeze h.2.2.2.2.1 (fun w => absurd (show b 6 u = 10 + k by omega) (w p r k u hp hl hr rfl rfl k1 k3 k4 u1)) (fun q s j t hq _ hs e1 e2 hj j1 j2 j3 j4 => ?_)
  have ep := nIi e1
  have es := nIi e2
  subst ep
  subst es
  have et : t = u := by omega
  subst et
  have ej : j = k := by omega
  subst ej
  refine ⟨rfl, _, L, pg, ob, rfl, h.1.frz h.2.2.2.2.1 h.2.1.2.2.2.2.1.2.1 hm hj j1 j2 (fun i hi w1 w2 => hB.2.2.1 i j hi hj w1 j1 (by rw [w2, j2])), h.2.1.frz h.2.2.1 h.2.2.2.2.1 hp hl hj j1 j2 u3 j4, ?_, ?_, ?_, ?_⟩
  · intro q s i hq hs hi h0 e3 e4
    have e4 : bu (bu b 15 j 2) 17 j t 15 i = 1 := e4
    rw [bu_n (by decide)] at e4
    by_cases ei : i = j
    · rw [ei, bu_s] at e4
      cases e4
    · rw [bu_m ei] at e4
      exact h.2.2.1 q s i hq hs hi h0 e3 e4
  · intro i hi e3
    have e3 : bu (bu b 15 j 2) 17 j t 15 i = 2 := e3
    rw [bu_n (by decide)] at e3
    by_cases ei : i = j
    · rw [ei]
      exact ndb_t.mpr (Or.inr ⟨p, hp, hl, by show chs (bu (bu b 15 j 2) 17 j t) p j 19 _ ≠ 0; rw [chs_19, if_pos rfl]; decide⟩)
    · rw [bu_m ei] at e3
      rcases ndb_t.mp (h.2.2.2.1 i hi e3) with w | ⟨q, q1, q2, q3⟩
      · exact ndb_t.mpr (Or.inl w)
      · refine ndb_t.mpr (Or.inr ⟨q, q1, q2, ?_⟩)
        show chs (bu (bu b 15 j 2) 17 j t) p j 19 _ ≠ 0
        rw [chs_19]
        split
        · decide
        · exact q3
  · exact ((((h.2.2.2.2.1.u (fun _ => show 2 ≤ 3 by omega)).u (fun _ => show t ≤ 59 by omega)).u (fun _ => show 1 ≤ 1 by omega)).u (fun _ => show 1 ≤ 1 by omega)).up (by omega) hN
  · exact (((h.2.2.2.2.2.ofp (by decide)).ofi (by decide) (by decide)).es _).ofi (by decide) (by decide)
theorem Rel.s6 (h : Rel N D b L pg ob) (hp : p < 8) : D.2.1 6 p = nI (b 0 p) := h.1.2.2.2.2.1.2.1 p hp
theorem Rel.st (h : Rel N D b L pg ob) (hN : N + 200 < 1000000000) {v : Nat} (hp : p < 8) (hl : lv b p) (h1 : 1 ≤ v) (h3 : v ≤ 3) : Rel (N + 200) (di D 6 p (nI v)) (bu b 0 p v) L pg ob := by
  have hlv : ∀ q, lv b q → lv (bu b 0 p v) q := fun q w => by
    unfold lv bu
    by_cases e : q = p
    · rw [if_pos ⟨rfl, e⟩]
      exact ⟨by omega, by omega⟩
    · rw [if_neg (fun z => e z.2)]
      exact w
  refine ⟨h.1.st v p, h.2.1.st hp hl h1 h3, h.2.2.1, fun k hk e => ?_, (h.2.2.2.2.1.u (fun _ => show v ≤ 4 by omega)).up (by omega) hN, h.2.2.2.2.2.ofi (by decide) (by decide)⟩
  rcases ndb_t.mp (h.2.2.2.1 k hk e) with w | ⟨q, q1, q2, q3⟩
  · exact ndb_t.mpr (Or.inl w)
  · exact ndb_t.mpr (Or.inr ⟨q, q1, hlv q q2, q3⟩)
theorem Rel.die (h : Rel N D b L pg ob) (hN : N + 200 < 1000000000) (hp : p < 8) (hl : lv b p) : Rel (N + 200) (d_die D p) (dth b p) L pg ob := by
  have hN1 : N + 120 < 1000000000 := by omega
  have hd := h.1.die h.2.1 h.2.2.2.2.1 hN1 h.2.2.2.2.2 hp hl
  obtain ⟨z1, z2, z3, z4, E, c, e1, e2, e3, e4, ⟨f1, f2, f3, f4⟩, e5⟩ := hd
  refine ⟨z1, z2, ?_, vN.die h.1 h.2.1 h.2.2.2.2.1 hN1 h.2.2.2.2.2 hp hl, by rw [e5]; exact (rb_vnN e3 4).up (by omega) hN, z3⟩
  rw [e5]
  exact (h.2.2.1.mono f1 f2 f3 f4 h.2.2.2.2.1).le (leR.vnN c 4)
theorem pu_kill0 (h : Rel N D b L pg ob) (hN : N + 200 < 1000000000) (k : ∀ p, d_lv D p → x = nI p → p = 0 ∨ D.2.1 6 p = 3) : mo_Ok l G yy_Mo_kill Y_Mo_kill [.inr (some a0), .inl x] a0 ad Mb (ra L b) (Nxt N D 0) := by
  have hb := h.2.2.2.2.1
  have bad : ∀ p, p < 8 → lv b p → x = nI p → p ≠ 0 → b 0 p ≠ 3 → False := fun p hp hl e h0 h3 => by
    rcases k p (h.liv.mpr ⟨hp, hl⟩) e with w | w
    · exact h0 w
    · rw [h.s6 hp] at w
      have := hl.2
      exact h3 (eqN (b 0 p) 3 w)
  exact cq_kill hb (by omega) (fun _ => h.nx hN rfl) (fun p hp hl e h0 h2 => (bad p hp hl e h0 (by omega)).elim) (fun p hp hl e h0 h2 => (bad p hp hl e h0 (by omega)).elim)
theorem pu_kill1 (h : Rel N D b L pg ob) (hN : N + 200 < 1000000000) (hd : d_lv D p) (e : x = nI p) (h0 : p ≠ 0) (h2 : D.2.1 6 p = 2) : mo_Ok l G yy_Mo_kill Y_Mo_kill [.inr (some a0), .inl x] a0 ad Mb (ra L b) (Nxt N (di D 6 p 3) 1) := by
  obtain ⟨hp, hl⟩ := h.liv.mp hd
  have hlt := hl.2
  rw [h.s6 hp] at h2
  have h2 : b 0 p = 2 := eqN (b 0 p) 2 h2
  subst e
  refine cq_kill h.2.2.2.2.1 (by omega) (fun w => ?_) (fun q hq hq2 e _ _ => ⟨rfl, _, L, pg, ob, rfl, ?_⟩) (fun q hq hq2 e _ w => ?_)
  · rcases w p hp hl rfl with w | w
    · exact absurd w h0
    · omega
  · rw [← nIi e]
    exact h.st (v := 3) hN hp hl (by omega) (by omega)
  · rw [← nIi e] at w
    omega
theorem pu_kill2 (h : Rel N D b L pg ob) (hN : N + 200 < 1000000000) (hd : d_lv D p) (e : x = nI p) (h0 : p ≠ 0) (h3 : D.2.1 6 p ≠ 3) (h2 : D.2.1 6 p ≠ 2) : mo_Ok l G yy_Mo_kill Y_Mo_kill [.inr (some a0), .inl x] a0 ad Mb (ra L b) (Nxt N (d_die D p) 1) := by
  obtain ⟨hp, hl⟩ := h.liv.mp hd
  have hlt := hl.2
  rw [h.s6 hp] at h2 h3
  have h2 : b 0 p ≠ 2 := neN (b 0 p) 2 h2
  have h3 : b 0 p ≠ 3 := neN (b 0 p) 3 h3
  subst e
  refine cq_kill h.2.2.2.2.1 (by omega) (fun w => ?_) (fun q hq hq2 e _ w => ?_) (fun q hq hq2 e _ _ => ⟨rfl, _, L, pg, ob, rfl, ?_⟩)
  · rcases w p hp hl rfl with w | w
    · exact absurd w h0
    · exact absurd w h3
  · rw [← nIi e] at w
    exact absurd w h2
  · rw [← nIi e]
    exact h.die hN hp hl
theorem Rel.km (h : Rel N D b L pg ob) (hp : p < 8) (hl : lv b p) (hy : y = 0 ∨ y = 1) : (if D.2.1 6 p = 2 ∨ D.2.1 6 p = 3 then (1 : Int32) else 0) = y ↔ (y = 1 ↔ 2 ≤ b 0 p) := by
  have hk := h.1.kmd h.2.2.2.2.1 hp hl
  by_cases c : 2 ≤ b 0 p
  · rw [if_pos (hk.mpr c)]
    exact ⟨fun w => ⟨fun _ => c, fun _ => w.symm⟩, fun w => (w.mpr c).symm⟩
  · rw [if_neg (fun w => c (hk.mp w))]
    constructor
    · intro w
      rw [← w]
      exact ⟨fun z => absurd z (by decide), fun z => absurd z c⟩
    · intro w
      rcases hy with z | z
      · exact z.symm
      · exact absurd (w.mp z) c
theorem pu_mode0 (h : Rel N D b L pg ob) (hN : N + 200 < 1000000000) (hy : y = 0 ∨ y = 1) (k : ∀ p, d_lv D p → x = nI p → (if D.2.1 6 p = 2 ∨ D.2.1 6 p = 3 then (1 : Int32) else 0) = y) : mo_Ok l G yy_Mo_mode Y_Mo_mode [.inr (some a0), .inl x, .inl y] a0 ad Mb (ra L b) (Nxt N D 0) := by
  have good : ∀ p, p < 8 → lv b p → x = nI p → (y = 1 ↔ 2 ≤ b 0 p) := fun p hp hl e => (h.km hp hl hy).mp (k p (h.liv.mpr ⟨hp, hl⟩) e)
  refine cq_mode h.2.2.2.2.1 (by omega) hy (fun _ => h.nx hN rfl) (fun p hp hl e w _ => absurd (good p hp hl e) w) (fun p hp hl e w h3 => ?_)
  have := (good p hp hl e).mpr (by omega)
  rw [w] at this
  exact absurd this (by decide)
theorem pu_mode1 (h : Rel N D b L pg ob) (hN : N + 200 < 1000000000) (hy : y = 0 ∨ y = 1) (hd : d_lv D p) (e : x = nI p) (hk : ¬ (if D.2.1 6 p = 2 ∨ D.2.1 6 p = 3 then (1 : Int32) else 0) = y) (h3 : D.2.1 6 p ≠ 3) : mo_Ok l G yy_Mo_mode Y_Mo_mode [.inr (some a0), .inl x, .inl y] a0 ad Mb (ra L b) (Nxt N (di D 6 p (if y = 0 then 1 else 2)) 1) := by
  obtain ⟨hp, hl⟩ := h.liv.mp hd
  have hlt := hl.2
  rw [h.km hp hl hy] at hk
  rw [h.s6 hp] at h3
  have h3 : b 0 p ≠ 3 := neN (b 0 p) 3 h3
  subst e
  refine cq_mode h.2.2.2.2.1 (by omega) hy (fun w => absurd (w p hp hl rfl) hk) (fun q hq _ e _ _ => ⟨rfl, _, L, pg, ob, rfl, ?_⟩) (fun q hq _ e _ w => ?_)
  · rw [← nIi e]
    have ev : (if y = 0 then (1 : Int32) else 2) = nI (if y = 0 then 1 else 2) := by
      split <;> rfl
    rw [ev]
    exact h.st hN hp hl (by split <;> omega) (by split <;> omega)
  · rw [← nIi e] at w
    exact absurd w h3
theorem pu_mode2 (h : Rel N D b L pg ob) (hN : N + 200 < 1000000000) (hy : y = 0 ∨ y = 1) (hd : d_lv D p) (e : x = nI p) (hk : ¬ (1 : Int32) = y) (h3 : D.2.1 6 p = 3) : mo_Ok l G yy_Mo_mode Y_Mo_mode [.inr (some a0), .inl x, .inl y] a0 ad Mb (ra L b) (Nxt N (d_die D p) 1) := by
  obtain ⟨hp, hl⟩ := h.liv.mp hd
  have hlt := hl.2
  rw [h.s6 hp] at h3
  have h3 : b 0 p = 3 := eqN (b 0 p) 3 h3
  subst e
  have hy0 : y = 0 := hy.resolve_right (fun w => hk w.symm)
  refine cq_mode h.2.2.2.2.1 (by omega) hy (fun w => ?_) (fun q hq _ e _ w => ?_) (fun q hq _ e _ _ => ⟨rfl, _, L, pg, ob, rfl, ?_⟩)
  · have := (w p hp hl rfl).mpr (by omega)
    rw [hy0] at this
    exact absurd this (by decide)
  · rw [← nIi e] at w
    exact absurd h3 w
  · rw [← nIi e]
    exact h.die hN hp hl
theorem Rel.col (h : Rel N D b L pg ob) (hn : n = 8 ∨ (n < 8 ∧ lv b n)) {m : Nat → Nat} (hm : rmk b n m) {rs : List Nat} (hr : ∀ a, a ∈ rs ↔ a ∈ D.1.2 ∧ d_h D a = nI n ∧ d_Re D (nI n) a) : Rel N (d_col D n rs) (swp b n m) L pg ob := by
  obtain ⟨z1, z2, z3, z4⟩ := h.1.col h.2.1 h.2.2.2.2.1 h.2.2.2.2.2 hn hm hr
  exact ⟨z1, z2, h.2.2.1.le (leR.swp (by omega) b m), vN.col h.1 h.2.1 h.2.2.2.2.1 h.2.2.2.2.2 hn hm hr, rb_swp h.2.2.2.2.1 hm.1 n, z3⟩
theorem pu_collect0 (h : Rel N D b L pg ob) (hN : N + 200 < 1000000000) (h8 : ¬ x = 8) (k : ∀ p, d_lv D p → ¬ x = nI p) : mo_Ok l G yy_Mo_collect Y_Mo_collect [.inr (some a0), .inl x] a0 ad Mb (ra L b) (Nxt N D (-1)) := by
  refine cq_collect h.2.2.2.2.1 (fun _ _ => h.nx hN rfl) (fun n m e hn hm => ?_)
  rcases hn with w | w
  · rw [w] at e
    exact absurd e h8
  · exact absurd e (k n (h.liv.mpr w))
theorem pu_collect1 (h : Rel N D b L pg ob) (hN : N + 200 < 1000000000) (e : x = nI n) (hn : n = 8 ∨ d_lv D n) {rs : List Nat} (hr : ∀ a, a ∈ rs ↔ a ∈ D.1.2 ∧ d_h D a = nI n ∧ d_Re D (nI n) a) : mo_Ok l G yy_Mo_collect Y_Mo_collect [.inr (some a0), .inl x] a0 ad Mb (ra L b) (Nxt N (d_col D n rs) (nI (D.1.2.filter (fun c => !d_kp D (nI n) rs c)).length)) := by
  have hn' : n = 8 ∨ (n < 8 ∧ lv b n) := hn.imp id (fun w => h.liv.mp w)
  subst e
  refine cq_collect h.2.2.2.2.1 (fun h8 w => ?_) (fun q m e hq hm => ?_)
  · rcases hn' with z | z
    · rw [z] at h8
      exact absurd rfl h8
    · exact absurd rfl (w n z.1 z.2)
  · have eq : n = q := nIi e
    subst eq
    refine ⟨?_, _, L, pg, ob, rfl, (h.col hn' hm hr).up hN⟩
    rw [h.1.cnt h.2.1 h.2.2.2.2.1 (show n ≤ 8 by omega) hm hr]
end SZ9
