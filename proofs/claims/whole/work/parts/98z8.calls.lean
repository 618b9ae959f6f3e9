/-! CLASS AND REFERENCE: the reference answers as the class, first part -/
def Rel (N : Nat) (D : ph_D) (b : rB) (L : Nat → Int32) (pg ob : Nat → Nat) : Prop := sR D b L pg ob ∧ iV b ∧ vR b ∧ vN b ∧ rb N b ∧ d_A D
def Nxt (N : Nat) (D1 : ph_D) (v : Int32) : Option mm_V → mo_A → Prop := fun r A1 => r = some (.inl v) ∧ ∃ b1 L1 pg1 ob1, A1 = ra L1 b1 ∧ Rel (N + 200) D1 b1 L1 pg1 ob1
section SZ8
variable {l : Launch} {G : mm_G} {a0 : Nat} {ad : Nat → Nat} {Mb : mm_M} {D D1 : ph_D} {b : rB} {L : Nat → Int32} {pg ob : Nat → Nat} {N p q r s i j k n m : Nat} {x y z w v : Int32}
theorem Rel.up (h : Rel N D b L pg ob) (hN : N + 200 < 1000000000) : Rel (N + 200) D b L pg ob := ⟨h.1, h.2.1, h.2.2.1, h.2.2.2.1, h.2.2.2.2.1.up (by omega) hN, h.2.2.2.2.2⟩
theorem Rel.sc (h : Rel N D b L pg ob) (hN : N + 200 < 1000000000) {U T : Nat → Nat} (hT : ∀ j, T j ≤ 1) : Rel (N + 200) D (bw b U T) L pg ob := ⟨h.1, h.2.1, h.2.2.1, h.2.2.2.1, (rb_bw h.2.2.2.2.1 hT).up (by omega) hN, h.2.2.2.2.2⟩
theorem Rel.md (h : Rel N D b L pg ob) : d_m D = b 4 0 := h.1.md h.2.1.2.2.2.2.1
theorem Rel.liv (h : Rel N D b L pg ob) : d_lv D p ↔ p < 8 ∧ lv b p := h.1.liv h.2.1.2.2.2.2.1 h.2.2.2.2.1
theorem Rel.nx (h : Rel N D b L pg ob) (hN : N + 200 < 1000000000) (e : v = w) : Nxt N D v (some (.inl w)) (ra L b) := ⟨by rw [e], b, L, pg, ob, rfl, h.up hN⟩
theorem Rel.nb (h : Rel N D b L pg ob) (hN : N + 200 < 1000000000) {U T : Nat → Nat} (hT : ∀ j, T j ≤ 1) (e : v = w) : Nxt N D v (some (.inl w)) (ra L (bw b U T)) := ⟨by rw [e], _, L, pg, ob, rfl, h.sc hN hT⟩
theorem nIi {a c : Nat} (e : nI a = nI c) (ha : a < 2 ^ 31 := by omega) (hc : c < 2 ^ 31 := by omega) : a = c := eqN a c e ha hc
theorem pu_state0 (h : Rel N D b L pg ob) (hN : N + 200 < 1000000000) (k : ∀ p, p < d_m D → ¬ x = nI p) : mo_Ok l G yy_Mo_state Y_Mo_state [.inr (some a0), .inl x] a0 ad Mb (ra L b) (Nxt N D 0) := by
  have hT := h.2.1.2.2.2.2.1
  refine cq_state (fun _ => h.nx hN rfl) (fun p hp e => h.nx hN ?_)
  have : b 0 p = 0 := Nat.eq_zero_of_not_pos (fun u => k p (by rw [h.md]; exact (hT.2.2.1 p hp).mp u) e)
  rw [this]
  rfl
theorem pu_state1 (h : Rel N D b L pg ob) (hN : N + 200 < 1000000000) (hp : p < d_m D) (e : x = nI p) : mo_Ok l G yy_Mo_state Y_Mo_state [.inr (some a0), .inl x] a0 ad Mb (ra L b) (Nxt N D (D.2.1 6 p)) := by
  have hT := h.2.1.2.2.2.2.1
  have h48 := hT.2.1
  rw [h.md] at hp
  subst e
  refine cq_state (fun u => absurd rfl (u p (by omega))) (fun q hq e => h.nx hN ?_)
  rw [← nIi e]
  exact h.1.2.2.2.2.1.2.1 p (by omega)
theorem pu_pages (h : Rel N D b L pg ob) (hN : N + 200 < 1000000000) : mo_Ok l G yy_Mo_pages Y_Mo_pages [.inr (some a0), .inl x] a0 ad Mb (ra L b) (Nxt N D (nI (D.1.1.countP (fun g => decide (D.2.1 0 g = x))))) := by
  have hb := h.2.2.2.2.1
  refine cq_pages hb (fun u => h.nx hN ?_) (fun i hi e => h.nx hN ?_)
  · have e0 : D.1.1.countP (fun g => decide (D.2.1 0 g = x)) = 0 := by
      rw [List.countP_eq_zero]
      intro g hg w
      obtain ⟨n, hn, e⟩ := h.1.gh hb g hg
      exact u n hn (by rw [← of_decide_eq_true w]; exact e)
    rw [e0]
    rfl
  · subst e
    congr 1
    unfold pc
    refine h.1.2.2.1.cnt (fun g hg h0 => ?_) (fun g hg h0 => ?_)
    · have w : b 11 g ≤ 13 := hb.2 11 g (by decide)
      rw [Bool.eq_iff_iff, decide_eq_true_eq, decide_eq_true_eq, (h.1.2.2.2.1 g hg h0).1, nI_eq (by omega) (by omega)]
      omega
    · rw [decide_eq_true_eq] at h0
      omega
theorem pu_objects (h : Rel N D b L pg ob) (hN : N + 200 < 1000000000) : mo_Ok l G yy_Mo_objects Y_Mo_objects [.inr (some a0), .inl x] a0 ad Mb (ra L b) (Nxt N D (nI (D.1.2.countP (fun a => decide (d_h D a = x))))) := by
  have hb := h.2.2.2.2.1
  have hG := h.2.1.2.1
  refine cq_objects hb (fun u => h.nx hN ?_) (fun i hi e => h.nx hN ?_)
  · have e0 : D.1.2.countP (fun a => decide (d_h D a = x)) = 0 := by
      rw [List.countP_eq_zero]
      intro a ha w
      obtain ⟨y, h1, h2, h3⟩ := h.1.1.mem.mp ha
      subst h3
      have w6 : b 6 y ≤ 13 := hb.2 6 y (by decide)
      exact u (b 6 y - 1) (by omega) (by rw [← of_decide_eq_true w]; exact h.1.hh hG hb h1 h2)
    rw [e0]
    rfl
  · subst e
    congr 1
    unfold oc
    refine h.1.1.cnt (fun y hy h0 => ?_) (fun y hy h0 => ?_)
    · rw [Bool.eq_iff_iff, decide_eq_true_eq, decide_eq_true_eq]
      exact h.1.hq hG hb hy h0 hi
    · rw [decide_eq_true_eq] at h0
      omega
theorem pu_items0 (h : Rel N D b L pg ob) (hN : N + 200 < 1000000000) (k : ∀ i, i < 13 → ¬ x = nI i) : mo_Ok l G yy_Mo_items Y_Mo_items [.inr (some a0), .inl x] a0 ad Mb (ra L b) (Nxt N D 0) :=
  cq_items h.2.2.2.2.1 (fun _ => h.nx hN rfl) (fun i hi e => absurd e (k i hi))
theorem pu_items1 (h : Rel N D b L pg ob) (hN : N + 200 < 1000000000) (hi : i < 13) (e : x = nI i) : mo_Ok l G yy_Mo_items Y_Mo_items [.inr (some a0), .inl x] a0 ad Mb (ra L b) (Nxt N D (nI (D.1.2.countP (fun a => bb_t (D.2.1 5 a) i)))) := by
  subst e
  refine cq_items h.2.2.2.2.1 (fun u => absurd rfl (u i hi)) (fun j hj e => h.nx hN ?_)
  rw [← nIi e]
  congr 1
  unfold ic
  refine h.1.1.cnt (fun y hy h0 => ?_) (fun y hy h0 => ?_)
  · rw [(h.1.2.1 y hy h0).2.2.2.1 i, decide_eq_true hi, Bool.true_and]
  · rw [Bool.not_eq_true', decide_eq_false_iff_not] at h0
    exact (h.2.1.1.2.2.2.1 i y hi hy h0).1
theorem pu_use0 (h : Rel N D b L pg ob) (hN : N + 200 < 1000000000) (k : ∀ p, p < d_m D → ¬ x = nI p) : mo_Ok l G yy_Mo_use Y_Mo_use [.inr (some a0), .inl x] a0 ad Mb (ra L b) (Nxt N D (-1)) :=
  cq_use h.2.2.2.2.1 (fun U T hT hE _ => h.nb hN hT rfl) (fun U T p hT hE hp e h0 _ => absurd e (k p (by rw [h.md]; exact (h.2.1.2.2.2.2.1.2.2.1 p hp).mp h0)))
theorem pu_use1 (h : Rel N D b L pg ob) (hN : N + 200 < 1000000000) (hp : p < d_m D) (e : x = nI p) : mo_Ok l G yy_Mo_use Y_Mo_use [.inr (some a0), .inl x] a0 ad Mb (ra L b) (Nxt N D (if d_E D p = 0 then -1 else d_U D p)) := by
  have hT := h.2.1.2.2.2.2.1
  have h48 := hT.2.1
  rw [h.md] at hp
  subst e
  have h0 := (hT.2.2.1 p (by omega)).mpr hp
  refine cq_use h.2.2.2.2.1 (fun U T hT1 hE u => h.nb hN hT1 ?_) (fun U T q hT1 hE hq e _ u => h.nb hN hT1 ?_)
  · have hz : T p = 0 := (u p (by omega) rfl).resolve_left (by omega)
    exact if_pos (Classical.byContradiction (fun w => (h.1.UE h.2.1 h.2.2.2.2.1 hE (show p < 8 by omega)).2.mp w hz))
  · have e2 := nIi e
    subst e2
    have hu := h.1.UE h.2.1 h.2.2.2.2.1 hE (show p < 8 by omega)
    rw [if_neg (hu.2.mpr u)]
    exact hu.1
theorem pu_room0 (h : Rel N D b L pg ob) (hN : N + 200 < 1000000000) (k : ∀ p, p < d_m D → ¬ x = nI p) : mo_Ok l G yy_Mo_room Y_Mo_room [.inr (some a0), .inl x] a0 ad Mb (ra L b) (Nxt N D (-1)) :=
  cq_room h.2.2.2.2.1 (fun U T hT hE _ => h.nb hN hT rfl) (fun U T U1 T1 p hE hT1 hE1 hp e h0 _ => absurd e (k p (by rw [h.md]; exact (h.2.1.2.2.2.2.1.2.2.1 p hp).mp h0)))
theorem pu_room1 (h : Rel N D b L pg ob) (hN : N + 200 < 1000000000) (hp : p < d_m D) (e : x = nI p) : mo_Ok l G yy_Mo_room Y_Mo_room [.inr (some a0), .inl x] a0 ad Mb (ra L b) (Nxt N D (if d_E D p = 0 then -1 else d_S D p)) := by
  have hT := h.2.1.2.2.2.2.1
  have h48 := hT.2.1
  rw [h.md] at hp
  subst e
  have h0 := (hT.2.2.1 p (by omega)).mpr hp
  refine cq_room h.2.2.2.2.1 (fun U T hT1 hE u => h.nb hN hT1 ?_) (fun U T U1 T1 q hE hT1 hE1 hq e _ u => h.nb hN hT1 ?_)
  · have hz : T p = 0 := (u p (by omega) rfl).resolve_left (by omega)
    exact if_pos (Classical.byContradiction (fun w => (h.1.UE h.2.1 h.2.2.2.2.1 hE (show p < 8 by omega)).2.mp w hz))
  · have e2 := nIi e
    subst e2
    have hu := h.1.UE h.2.1 h.2.2.2.2.1 hE (show p < 8 by omega)
    rw [if_neg (hu.2.mpr u)]
    exact h.1.S h.2.1 h.2.2.2.2.1 hE1 hp
theorem Rel.chb (h : Rel N D b L pg ob) (hp : p < 8) (hl : lv b p) : bb_t (D.2.1 11 p) i = true ↔ 9 ≤ i ∧ i < 13 ∧ b 19 (4 * p + (i - 9)) ≠ 0 := by
  have hm := lv_made h.2.1.2.2.2.2.1 hp hl
  rw [(h.1.2.2.2.2.1.2.2 p hm).2.2.2.2.1, b9]
  constructor
  · rintro ⟨a1, a2, a3⟩
    exact ⟨a1, a2, (h.2.1.2.2.1.1 p (i - 9) hp (by omega)).mpr ⟨hl, a3⟩⟩
  · rintro ⟨a1, a2, a3⟩
    exact ⟨a1, a2, ((h.2.1.2.2.1.1 p (i - 9) hp (by omega)).mp a3).2⟩
theorem pu_shares0 (h : Rel N D b L pg ob) (hN : N + 200 < 1000000000) (k : ∀ p i, d_lv D p → i < 13 → x = nI p → y = nI i → bb_t (D.2.1 11 p) i = false) : mo_Ok l G yy_Mo_shares Y_Mo_shares [.inr (some a0), .inl x, .inl y] a0 ad Mb (ra L b) (Nxt N D 0) := by
  refine cq_shares h.2.2.2.2.1 (fun _ => h.nx hN rfl) (fun p k' hp hl hk e1 e2 h2 h3 => ?_)
  have := k p (9 + k') (h.liv.mpr ⟨hp, hl⟩) (by omega) e1 e2
  rw [(h.chb hp hl).mpr ⟨by omega, by omega, by rw [show 9 + k' - 9 = k' by omega]; exact h3⟩] at this
  cases this
theorem pu_shares1 (h : Rel N D b L pg ob) (hN : N + 200 < 1000000000) (hd : d_lv D p) (hi : i < 13) (e1 : x = nI p) (e2 : y = nI i) (hb : bb_t (D.2.1 11 p) i = true) : mo_Ok l G yy_Mo_shares Y_Mo_shares [.inr (some a0), .inl x, .inl y] a0 ad Mb (ra L b) (Nxt N D 1) := by
  obtain ⟨hp, hl⟩ := h.liv.mp hd
  obtain ⟨a1, a2, a3⟩ := (h.chb hp hl).mp hb
  subst e1
  subst e2
  refine cq_shares h.2.2.2.2.1 (fun u => ?_) (fun p1 k1 _ _ _ _ _ _ _ => h.nx hN rfl)
  have h2 := (h.2.1.2.2.1.2.1 p (i - 9) hp (by omega) ((h.2.1.2.2.1.1 p (i - 9) hp (by omega)).mp a3).2).1
  exact absurd (u p (i - 9) hp hl (by omega) rfl (by rw [show 9 + (i - 9) = i by omega]) h2) a3
theorem Rel.rg (h : Rel N D b L pg ob) (hp : p < 8) (hl : lv b p) (hr : r < 4) : D.2.2 (4 + r) p = rf ob (b 5 (4 * p + r)) := (h.1.2.2.2.2.1.2.2 p (lv_made h.2.1.2.2.2.2.1 hp hl)).2.2.2.2.2 r hr
theorem Rel.rl (h : Rel N D b L pg ob) {u : Nat} (hp : p < 8) (hr : r < 4) (e : b 5 (4 * p + r) = u + 1) : u < 60 ∧ 0 < b 6 u := by
  have w : b 5 (4 * p + r) ≤ 60 := h.2.2.2.2.1.2 5 _ (by decide)
  have := h.2.1.1.1 p r hp hr (by omega)
  rw [e] at this
  exact ⟨by omega, this⟩
theorem pu_where0 (h : Rel N D b L pg ob) (hN : N + 200 < 1000000000) (k : ∀ p r, d_lv D p → r < 4 → ¬ (x = nI p ∧ y = nI r)) : mo_Ok l G yy_Mo_where Y_Mo_where [.inr (some a0), .inl x, .inl y] a0 ad Mb (ra L b) (Nxt N D (-1)) :=
  cq_where h.2.2.2.2.1 (fun _ => h.nx hN rfl) (fun p r hp hl hr e1 e2 _ => absurd ⟨e1, e2⟩ (k p r (h.liv.mpr ⟨hp, hl⟩) hr)) (fun p r v hp hl hr e1 e2 _ => absurd ⟨e1, e2⟩ (k p r (h.liv.mpr ⟨hp, hl⟩) hr))
theorem pu_where1 (h : Rel N D b L pg ob) (hN : N + 200 < 1000000000) (hd : d_lv D p) (hr : r < 4) (e1 : x = nI p) (e2 : y = nI r) : mo_Ok l G yy_Mo_where Y_Mo_where [.inr (some a0), .inl x, .inl y] a0 ad Mb (ra L b) (Nxt N D (match D.2.2 (4 + r) p with | none => -2 | some a => d_h D a)) := by
  obtain ⟨hp, hl⟩ := h.liv.mp hd
  subst e1
  subst e2
  refine cq_where h.2.2.2.2.1 (fun u => absurd ⟨rfl, rfl⟩ (u p r hp hl hr)) (fun q s hq _ hs e1 e2 e3 => h.nx hN ?_) (fun q s v hq _ hs e1 e2 e3 => h.nx hN ?_)
  · rw [← nIi e1, ← nIi e2] at e3
    rw [h.rg hp hl hr, e3]
    rfl
  · rw [← nIi e1, ← nIi e2] at e3
    obtain ⟨v1, v2⟩ := h.rl hp hr e3
    rw [h.rg hp hl hr, e3]
    show d_h D (ob v) = nI (b 6 v) - 1
    rw [h.1.hh h.2.1.2.1 h.2.2.2.2.1 v1 v2, nI_sub1 v2]
theorem pu_tag0 (h : Rel N D b L pg ob) (hN : N + 200 < 1000000000) (k : ∀ p r, d_lv D p → r < 4 → ¬ (x = nI p ∧ y = nI r)) : mo_Ok l G yy_Mo_tag Y_Mo_tag [.inr (some a0), .inl x, .inl y] a0 ad Mb (ra L b) (Nxt N D 0) :=
  cq_tag h.2.2.2.2.1 (fun _ => h.nx hN rfl) (fun p r v hp hl hr e1 e2 _ => absurd ⟨e1, e2⟩ (k p r (h.liv.mpr ⟨hp, hl⟩) hr))
theorem pu_tag1 (h : Rel N D b L pg ob) (hN : N + 200 < 1000000000) (hd : d_lv D p) (hr : r < 4) (e1 : x = nI p) (e2 : y = nI r) : mo_Ok l G yy_Mo_tag Y_Mo_tag [.inr (some a0), .inl x, .inl y] a0 ad Mb (ra L b) (Nxt N D (match D.2.2 (4 + r) p with | none => 0 | some a => D.2.1 4 a)) := by
  obtain ⟨hp, hl⟩ := h.liv.mp hd
  subst e1
  subst e2
  refine cq_tag h.2.2.2.2.1 (fun u => h.nx hN ?_) (fun q s v hq _ hs e1 e2 e3 => h.nx hN ?_)
  · have : b 5 (4 * p + r) = 0 := by
      rcases Nat.eq_zero_or_pos (b 5 (4 * p + r)) with w | w
      · exact w
      · exact absurd (show b 5 (4 * p + r) = (b 5 (4 * p + r) - 1) + 1 by omega) (u p r _ hp hl hr rfl rfl)
    rw [h.rg hp hl hr, this]
    rfl
  · rw [← nIi e1, ← nIi e2] at e3
    obtain ⟨v1, v2⟩ := h.rl hp hr e3
    rw [h.rg hp hl hr, e3]
    exact (h.1.2.1 v v1 v2).2.2.1
theorem Rel.reg (h : Rel N D b L pg ob) (hN : N + 200 < 1000000000) {v : Nat} (hp : p < 8) (hl : lv b p) (hr : r < 4) (hv : v ≤ 60) (h1 : 0 < v → 0 < b 6 (v - 1)) (h2 : 0 < v → ∀ k, k < 4 → b 6 (v - 1) = 10 + k → b 15 k = 2 → b 20 (4 * p + k) ≠ 0) (h3 : 0 < v → ∀ k, k < 4 → b 6 (v - 1) = 10 + k → b 15 k = 1 → b 16 k = p) : Rel (N + 200) (dp D (4 + r) p (rf ob v)) (bu b 5 (4 * p + r) v) L pg ob :=
  ⟨h.1.reg h.2.1.2.2.2.2.1.2.1 hp hr v, h.2.1.reg hp hr hl h1 h2, h.2.2.1.reg hp hr h3, h.2.2.2.1, (h.2.2.2.2.1.u (fun _ => hv)).up (by omega) hN, h.2.2.2.2.2.ofp (by omega)⟩
theorem Rel.regq (h : Rel N D b L pg ob) (hN : N + 200 < 1000000000) (hp : p < 8) (hl : lv b p) (hr : r < 4) (hs : s < 4) : Rel (N + 200) (dp D (4 + r) p (D.2.2 (4 + s) p)) (bu b 5 (4 * p + r) (b 5 (4 * p + s))) L pg ob := by
  rw [h.rg hp hl hs]
  exact h.reg hN hp hl hr (h.2.2.2.2.1.2 5 _ (by decide)) (fun w => h.2.1.1.1 p s hp hs w) (fun w k hk e1 e2 => h.2.1.2.2.1.2.2.1 p s k hp hs hk w e1 e2) (fun w k hk e1 e2 => h.2.2.1 p s k hp hs hk w e1 e2)
theorem pu_move0 (h : Rel N D b L pg ob) (hN : N + 200 < 1000000000) (k : ∀ p r, d_lv D p → r < 4 → x = nI p → y = nI r → ¬ z = -1 ∧ ∀ s, s < 4 → ¬ z = nI s) : mo_Ok l G yy_Mo_move Y_Mo_move [.inr (some a0), .inl x, .inl y, .inl z] a0 ad Mb (ra L b) (Nxt N D 0) :=
  cq_move h.2.2.2.2.1 (fun _ => h.nx hN rfl) (fun p r hp hl hr e1 e2 e3 => absurd e3 (k p r (h.liv.mpr ⟨hp, hl⟩) hr e1 e2).1) (fun p r s hp hl hr hs e1 e2 e3 => absurd e3 ((k p r (h.liv.mpr ⟨hp, hl⟩) hr e1 e2).2 s hs))
theorem pu_move1 (h : Rel N D b L pg ob) (hN : N + 200 < 1000000000) (hd : d_lv D p) (hr : r < 4) (e1 : x = nI p) (e2 : y = nI r) (e3 : z = -1) : mo_Ok l G yy_Mo_move Y_Mo_move [.inr (some a0), .inl x, .inl y, .inl z] a0 ad Mb (ra L b) (Nxt N (dp D (4 + r) p none) 1) := by
  obtain ⟨hp, hl⟩ := h.liv.mp hd
  subst e1
  subst e2
  refine cq_move h.2.2.2.2.1 (fun u => absurd e3 (u p r hp hl hr rfl rfl).1) (fun q s hq _ hs e1 e2 _ => ⟨rfl, _, L, pg, ob, rfl, ?_⟩) (fun q s i hq _ hs hi e1 e2 e4 => ?_)
  · rw [← nIi e1, ← nIi e2]
    exact h.reg (v := 0) hN hp hl hr (by omega) (fun w => by omega) (fun w => by omega) (fun w => by omega)
  · rw [e3] at e4
    exact absurd e4 (m1_ne (by omega))
theorem pu_move2 (h : Rel N D b L pg ob) (hN : N + 200 < 1000000000) (hd : d_lv D p) (hr : r < 4) (hs : s < 4) (e1 : x = nI p) (e2 : y = nI r) (e3 : z = nI s) : mo_Ok l G yy_Mo_move Y_Mo_move [.inr (some a0), .inl x, .inl y, .inl z] a0 ad Mb (ra L b) (Nxt N (dp D (4 + r) p (D.2.2 (4 + s) p)) 1) := by
  obtain ⟨hp, hl⟩ := h.liv.mp hd
  subst e1
  subst e2
  subst e3
  refine cq_move h.2.2.2.2.1 (fun u => absurd rfl ((u p r hp hl hr rfl rfl).2 s hs)) (fun q i hq _ hi e1 e2 e4 => absurd e4.symm (m1_ne (by omega))) (fun q i j hq _ hi hj e1 e2 e4 => ⟨rfl, _, L, pg, ob, rfl, ?_⟩)
  rw [← nIi e1, ← nIi e2, ← nIi e4]
  exact h.regq hN hp hl hr hs
theorem pu_begin0 (h : Rel N D b L pg ob) (hN : N + 200 < 1000000000) (k : ∀ p, d_lv D p → x = nI p → ¬ D.2.1 10 p = -1) : mo_Ok l G yy_Mo_begin Y_Mo_begin [.inr (some a0), .inl x] a0 ad Mb (ra L b) (Nxt N D (-1)) := by
  have hT := h.2.1.2.2.2.2.1
  have bad : ∀ p, p < 8 → lv b p → x = nI p → (∀ k, k < 4 → ¬ (b 15 k = 1 ∧ b 16 k = p)) → False := fun p hp hl e hno => k p (h.liv.mpr ⟨hp, hl⟩) e (by
    rw [(h.1.2.2.2.2.1.2.2 p (lv_made hT hp hl)).2.2.2.1, rbk_no hno, if_pos rfl])
  exact cq_begin h.2.2.2.2.1 (fun _ => h.nx hN rfl) (fun p hp hl e hno _ => (bad p hp hl e hno).elim) (fun p hp hl e hno _ => (bad p hp hl e hno).elim)
theorem Rel.bno (h : Rel N D b L pg ob) (hp : p < 8) (hl : lv b p) (e : D.2.1 10 p = -1) : ∀ k, k < 4 → ¬ (b 15 k = 1 ∧ b 16 k = p) := by
  rintro k hk ⟨e1, e2⟩
  rw [(h.1.2.2.2.2.1.2.2 p (lv_made h.2.1.2.2.2.2.1 hp hl)).2.2.2.1, rbk_at h.2.1.2.2.2.1 hp hk e1 e2, if_neg (by omega)] at e
  exact m1_ne (by omega) e.symm
theorem pu_begin1 (h : Rel N D b L pg ob) (hN : N + 200 < 1000000000) (hd : d_lv D p) (e : x = nI p) (e10 : D.2.1 10 p = -1) (h13 : ¬ D.2.1 12 1 < 13) : mo_Ok l G yy_Mo_begin Y_Mo_begin [.inr (some a0), .inl x] a0 ad Mb (ra L b) (Nxt N D (-4)) := by
  obtain ⟨hp, hl⟩ := h.liv.mp hd
  subst e
  rw [h.1.2.2.2.2.2.2] at h13
  have w : b 18 0 ≤ 4 := h.2.2.2.2.1.2 18 0 (by decide)
  refine cq_begin h.2.2.2.2.1 (fun u => ?_) (fun q hq _ e1 _ _ => h.nx hN rfl) (fun q hq _ e1 _ h4 => absurd (nI_lt (show 9 + b 18 0 < 13 by omega) (by decide)) h13)
  obtain ⟨k, hk, e1, e2⟩ := u p hp hl rfl
  exact absurd ⟨e1, e2⟩ (h.bno hp hl e10 k hk)
theorem pu_begin2 (h : Rel N D b L pg ob) (hN : N + 200 < 1000000000) (hd : d_lv D p) (e : x = nI p) (e10 : D.2.1 10 p = -1) (h13 : D.2.1 12 1 < 13) : mo_Ok l G yy_Mo_begin Y_Mo_begin [.inr (some a0), .inl x] a0 ad Mb (ra L b) (Nxt N (di (di D 10 p (D.2.1 12 1)) 12 1 (D.2.1 12 1 + 1)) (D.2.1 12 1)) := by
  obtain ⟨hp, hl⟩ := h.liv.mp hd
  subst e
  have e12 := h.1.2.2.2.2.2.2
  rw [e12] at h13 ⊢
  have w : b 18 0 ≤ 4 := h.2.2.2.2.1.2 18 0 (by decide)
  have hlt : 9 + b 18 0 < 13 := ltN (9 + b 18 0) 13 h13
  have hno := h.bno hp hl e10
  have h15 : b 15 (b 18 0) = 0 := (h.2.1.2.2.2.1.2.2.2.2 (b 18 0) (by omega)).mp (Nat.le_refl _)
  refine cq_begin h.2.2.2.2.1 (fun u => ?_) (fun q hq _ e1 _ h4 => absurd (show b 18 0 < 4 by omega) h4) (fun q hq _ e1 _ h4 => ⟨rfl, _, L, pg, ob, rfl, ?_⟩)
  · obtain ⟨k, hk, e1, e2⟩ := u p hp hl rfl
    exact absurd ⟨e1, e2⟩ (hno k hk)
  · rw [← nIi e1, nI_1]
    refine ⟨h.1.beg h4 hp h15 hno rfl, h.2.1.beg h4 hp hl hno rfl, ?_, ?_, ?_, (h.2.2.2.2.2.ofi (by decide) (by decide)).ofi (by decide) (by decide)⟩
    · intro q r k hq hr hk h0 e3 e4
      by_cases ek : k = b 18 0
      · exfalso
        have h0 : 0 < b 5 (4 * q + r) := h0
        have e3 : b 6 (b 5 (4 * q + r) - 1) = 10 + k := e3
        have w5 : b 5 (4 * q + r) ≤ 60 := h.2.2.2.2.1.2 5 _ (by decide)
        have hg := (h.2.1.2.1.1 (b 5 (4 * q + r) - 1) (by omega) (by omega)).1
        have w9 : b 9 (b 5 (4 * q + r) - 1) ≤ 23 := h.2.2.2.2.1.2 9 _ (by decide)
        rcases h.2.1.2.2.2.1.1 (b 9 (b 5 (4 * q + r) - 1)) k (by omega) hk (by omega) with z | z
        · rw [ek, h15] at z
          cases z
        · have := z.1
          rw [ek, h15] at this
          cases this
      · have e4' : b 15 k = 1 := by
          rw [bu_n (by decide), bu_n (by decide), bu_m ek] at e4
          exact e4
        rw [bu_n (by decide), bu_m ek, bu_n (by decide)]
        exact h.2.2.1 q r k hq hr hk h0 e3 e4'
    · intro k hk e3
      refine h.2.2.2.1 k hk ?_
      rw [bu_n (by decide), bu_n (by decide)] at e3
      by_cases ek : k = b 18 0
      · rw [ek, bu_s] at e3
        cases e3
      · rw [bu_m ek] at e3
        exact e3
    · exact (((h.2.2.2.2.1.u (fun _ => show 1 ≤ 3 by omega)).u (fun _ => show p ≤ 7 by omega)).u (fun _ => show b 18 0 + 1 ≤ 4 by omega)).up (by omega) hN
end SZ8
