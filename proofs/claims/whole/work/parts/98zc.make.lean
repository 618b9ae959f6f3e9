/-! CLASS AND REFERENCE: the reference answers as the class: make -/
section SZC
variable {l : Launch} {G : mm_G} {a0 : Nat} {ad : Nat → Nat} {Mb : mm_M} {D D1 D2 : ph_D} {b b1 c : rB} {L : Nat → Int32} {pg ob : Nat → Nat} {N p q r s i j k n m u f a g : Nat} {x y z w v : Int32}
theorem Rel.mkk (h : Rel N D b L pg ob) : d_mk D x y z p r ↔ ∃ s, rma b x y z p r s := by
  unfold d_mk rma
  rw [h.liv]
  constructor
  · rintro ⟨h1, h2, h3, h4, h5, h6⟩
    obtain ⟨s, hs, e⟩ := nI_of (x := z) (fun u => h5 (Int32.lt_trans u (by decide)))
    refine ⟨s, h1, h2, ?_, ?_, h3, h4, e⟩
    · exact nltN s 1 (by rw [← e]; exact h5)
    · exact leN s 16 (by rw [← e]; exact h6)
  · rintro ⟨s, h1, h2, h3, h4, h5, h6, h7⟩
    refine ⟨h1, h2, h5, h6, ?_, ?_⟩
    · rw [h7]
      intro u
      have := ltN s 1 u
      omega
    · rw [h7]
      exact nI_le h4 (by decide)
theorem rma_u {p' r' s' : Nat} (h1 : rma b x y z p r s) (h2 : rma b x y z p' r' s') : p' = p ∧ r' = r ∧ s' = s := by
  obtain ⟨a1, a2, a3, a4, a5, a6, a7⟩ := h1
  obtain ⟨c1, c2, c3, c4, c5, c6, c7⟩ := h2
  rw [a5] at c5
  rw [a6] at c6
  rw [a7] at c7
  have := nIi c5 (by omega) (by omega)
  have := nIi c6 (by omega) (by omega)
  have := nIi c7 (by omega) (by omega)
  omega
theorem Rel.ful (h : Rel N D b L pg ob) : D.1.2.length = 60 ↔ ∀ q, q < 60 → 0 < b 6 q := by
  rw [h.1.1.len]
  have e : (60 : Nat) = (List.range 60).length := List.length_range.symm
  constructor
  · intro w q hq
    have := List.countP_eq_length.mp (w.trans e) q (List.mem_range.mpr hq)
    exact of_decide_eq_true this
  · intro w
    exact (List.countP_eq_length.mpr (fun q hq => decide_eq_true (w q (List.mem_range.mp hq)))).trans List.length_range
theorem Rel.exf (h : Rel N D b L pg ob) (hl : D.1.2.length < 60) : ∃ q, q < 60 ∧ b 6 q = 0 := by
  apply Classical.byContradiction
  intro hn
  have := h.ful.mpr (fun q hq => Nat.pos_of_ne_zero (fun z => hn ⟨q, hq, z⟩))
  omega
theorem pu_make0 (h : Rel N D b L pg ob) (hN : N + 200 < 1000000000) (k : ∀ p r, ¬ d_mk D x y z p r) : mo_Ok l G yy_Mo_make Y_Mo_make [.inr (some a0), .inl x, .inl y, .inl z, .inl w] a0 ad Mb (ra L b) (Nxt N D (-1)) :=
  cq_make h.2.2.2.2.1 (by omega) (fun _ => h.nx hN rfl) (fun p r s e _ => absurd (h.mkk.mpr ⟨s, e⟩) (k p r)) (fun p r s e _ => absurd (h.mkk.mpr ⟨s, e⟩) (k p r))
theorem pu_make1 (h : Rel N D b L pg ob) (hN : N + 200 < 1000000000) (hd : d_mk D x y z p r) (h60 : D.1.2.length = 60) : mo_Ok l G yy_Mo_make Y_Mo_make [.inr (some a0), .inl x, .inl y, .inl z, .inl w] a0 ad Mb (ra L b) (Nxt N D (-4)) := by
  obtain ⟨s, hR⟩ := h.mkk.mp hd
  refine cq_make h.2.2.2.2.1 (by omega) (fun k => absurd hR (k p r s)) (fun p r s e _ => h.nx hN rfl) (fun p' r' s' e hex => ?_)
  obtain ⟨q, hq, hz⟩ := hex
  have := h.ful.mp h60 q hq
  omega
theorem Rel.n0 (b : rB) {p : Nat} (hl : lv b p) : rnm b p = 0 ∨ lv b (rnm b p) := by
  rcases rhm_or b p with ⟨_, _, c3⟩ | ⟨_, c2, _⟩
  · exact Or.inl c3
  · exact Or.inr (by rw [c2]; exact hl)
theorem rnm_lt (b : rB) {p : Nat} (hp : p < 8) : rnm b p < 8 := by
  unfold rnm
  split <;> omega
theorem Rel.hfp (h : Rel N D b L pg ob) (hn : n < 8) (hn0 : n = 0 ∨ lv b n) (hh s : Nat) : hfp b hh n s := fun U T _ hE hr => page_left2 h.2.2.2.2.1 h.2.1 (h.2.2.2.1.vf h.2.1.2.2.1) hE hn hn0 hr
theorem vN_new (hv : iV b) (hN : vN b) (hx : m < 60) (h0 : b 6 m = 0) (f6 : ∀ j, b1 6 j = if j = m then n else b 6 j) (fk : ∀ k, k = 0 ∨ k = 15 ∨ k = 19 ∨ k = 21 → ∀ j, b1 k j = b k j) : vN b1 := by
  intro k hk e
  rw [fk 15 (by omega)] at e
  rcases ndb_t.mp (hN k hk e) with c1 | ⟨j, j1, j2, j3⟩
  · obtain ⟨yy, y1, y2, y3⟩ := nmb_t.mp c1
    refine ndb_t.mpr (Or.inl (nmb_t.mpr ⟨yy, y1, by rw [fk 21 (by omega)]; exact y2, ?_⟩))
    rw [f6, if_neg (fun z => by rw [z] at y3; omega)]
    exact y3
  · exact ndb_t.mpr (Or.inr ⟨j, j1, (lv_c (fk 0 (by omega) j)).mpr j2, by rw [fk 19 (by omega)]; exact j3⟩)
theorem rb_rnw {N1 : Nat} (hb : rb N1 c) {h : Nat} (hm : m < 60) (hh : h < 13) (hs : s ≤ 16) (hg : g < 24) : rb N1 (rnw c m p r h s g) := by
  have h1 : rb N1 (bu (bu (bu c 6 m (h + 1)) 7 m s) 9 m g) := ((hb.u (fun _ => show h + 1 ≤ 13 by omega)).u (fun _ => show s ≤ 16 by omega)).u (fun _ => show g ≤ 23 by omega)
  have h2 : rb N1 (zfd (bu (bu (bu c 6 m (h + 1)) 7 m s) 9 m g) m 3) := rb_z h1 _
  exact h2.u (fun _ => show m + 1 ≤ 60 by omega)
theorem Rel.mkr (h : Rel N D b L pg ob) (hN : N + 200 < 1000000000) (hp : p < 8) (hl : lv b p) (hr : r < 4) (hs1 : 1 ≤ s) (hs16 : s ≤ 16) (hlen : D.1.2.length < 60) (hd : d_mks D p r (nI s) w D2) (hf : fnd b (rhm b p) (rnm b p) s c g) (hm : m < 60) (h0 : c 6 m = 0) : ∃ pg1 ob1, Rel (N + 200) D2 (rnw c m p r (rhm b p) s g) (lu L m w) pg1 ob1 := by
  have hb := h.2.2.2.2.1
  obtain ⟨pg1, ob1, z1, z2, z3, z4, z5⟩ := h.1.mk h.2.1 h.2.2.1 (h.2.2.2.1.vf h.2.1.2.2.1) hb (by omega) h.2.2.2.2.2 hp hl hr hs1 hs16 hlen hd hf hm h0
  have hlt := rhm_lt b p hp
  obtain ⟨hb1, hg⟩ := rb_fnd hb (by omega) hlt (rnm_lt b hp) hf
  refine ⟨pg1, ob1, z1, z2, z3, ?_, (rb_rnw hb1 hm hlt hs16 hg).up (by omega) hN, z5⟩
  rcases hf with ⟨_, m2⟩ | ⟨_, U, T, _, _, _, _, _, _, m8⟩
  · subst m2
    exact vN_new (n := rhm c p + 1) h.2.1 h.2.2.2.1 hm h0 (fun j => rnw_6 j) (fun k hk j => rnw_n (by omega) (by omega) (by omega) (by omega) (by omega))
  · subst m8
    exact vN_new (n := rhm b p + 1) h.2.1 h.2.2.2.1 hm h0 (fun j => rnw_6 j) (fun k hk j => by
      rw [rnw_n (by omega) (by omega) (by omega) (by omega) (by omega), npg_n (by omega) (by omega) (by omega) (by omega)]
      unfold bw
      rw [if_neg (by omega), if_neg (by omega)])
theorem Rel.mno (h : Rel N D b L pg ob) (hp : p < 8) (hl : lv b p) (hs16 : s ≤ 16) (hd : d_mks D p r (nI s) w D2) (hn : nof b (rhm b p) (rnm b p) s c) : False := by
  have hb := h.2.2.2.2.1
  have hT := h.2.1.2.2.2.2.1
  obtain ⟨e1, e2, _⟩ := h.1.hme hT hb hp hl
  have hfp := h.1.fp (s := s) h.2.1.2.1 hb h.2.2.2.2.2 hs16 (rhm_lt b p hp) e1
  obtain ⟨n1, U, T, n2, n3, n4, _⟩ := hn
  rw [n1] at hfp
  obtain ⟨ga, q, _, hd⟩ := hd
  rcases hd with ⟨d1, _⟩ | ⟨_, d2, _⟩
  · rw [hfp] at d1
    cases d1
  · have hm : rnm b p < b 4 0 := by
      rcases Rel.n0 b hl with z | z
      · rw [z]
        exact hT.1
      · exact lv_made hT (rnm_lt b hp) z
    rw [e2, h.1.S h.2.1 hb n3 hm] at d2
    exact n4 (i1le.mp d2)
theorem Rel.mnf (h : Rel N D b L pg ob) (hp : p < 8) (hl : lv b p) (hs16 : s ≤ 16) (hd1 : d_fp D p (nI s) = none) (hd2 : d_S D (d_pm D p) < 1) (hf : fnd b (rhm b p) (rnm b p) s c g) : False := by
  have hb := h.2.2.2.2.1
  have hT := h.2.1.2.2.2.2.1
  obtain ⟨e1, e2, _⟩ := h.1.hme hT hb hp hl
  have hfp := h.1.fp (s := s) h.2.1.2.1 hb h.2.2.2.2.2 hs16 (rhm_lt b p hp) e1
  rcases hf with ⟨m1, _⟩ | ⟨m1, U, T, m2, m3, m4, _⟩
  · rw [m1, hd1] at hfp
    cases hfp
  · have hm : rnm b p < b 4 0 := by
      rcases Rel.n0 b hl with z | z
      · rw [z]
        exact hT.1
      · exact lv_made hT (rnm_lt b hp) z
    rw [e2, h.1.S h.2.1 hb m3 hm] at hd2
    exact i1le.mpr m4 hd2
theorem pu_make2 (h : Rel N D b L pg ob) (hN : N + 200 < 1000000000) (hd : d_mk D x y z p r) (hlen : D.1.2.length < 60) (hmk : d_mks D p r z w D2) : mo_Ok l G yy_Mo_make Y_Mo_make [.inr (some a0), .inl x, .inl y, .inl z, .inl w] a0 ad Mb (ra L b) (Nxt N D2 0) := by
  obtain ⟨s, hR⟩ := h.mkk.mp hd
  refine cq_make h.2.2.2.2.1 (by omega) (fun k => absurd hR (k p r s)) (fun p' r' s' e w => ?_) (fun p' r' s' e hex => ?_)
  · have := h.ful.mpr w
    omega
  · obtain ⟨e1, e2, e3⟩ := rma_u hR e
    subst e1
    subst e2
    subst e3
    obtain ⟨⟨hp, hl⟩, hr, hs1, hs16, _, _, ez⟩ := id hR
    rw [ez] at hmk
    refine ⟨h.hfp (rnm_lt b hp) (Rel.n0 b hl) _ _, fun c g q hf hq hz _ => ⟨rfl, ?_⟩, fun c m hn _ => (h.mno hp hl hs16 hmk hn).elim⟩
    obtain ⟨pg1, ob1, hrel⟩ := h.mkr hN hp hl hr hs1 hs16 hlen hmk hf hq hz
    exact ⟨_, _, pg1, ob1, rfl, hrel⟩
theorem rhm_le (hle : leR b b1) (p : Nat) : rhm b1 p = rhm b p ∧ rnm b1 p = rnm b p := by
  have h0 := hle.1 0 (by omega) p
  have h16 := hle.1 16 (by omega)
  have hb : ∀ n, rbk b1 p n = rbk b p n := by
    intro n
    induction n with
    | zero => rfl
    | succ n ih =>
      show (if b1 15 n = 1 ∧ b1 16 n = p then 9 + n else rbk b1 p n) = (if b 15 n = 1 ∧ b 16 n = p then 9 + n else rbk b p n)
      rw [ih, h16]
      rcases hle.2.2 n with e | ⟨e1, e2⟩
      · rw [e]
      · rw [e1, e2, if_neg (fun z => by cases z.1), if_neg (fun z => by cases z.1)]
  unfold rhm rnm
  rw [h0, hb]
  exact ⟨rfl, rfl⟩
/-- make after a collection -/
theorem pu_make3 (h : Rel N D b L pg ob) (hN : N + 200 < 1000000000) (hd : d_mk D x y z p r) (hlen : D.1.2.length < 60) (hf1 : d_fp D p z = none) (hf2 : d_S D (d_pm D p) < 1) {rs : List Nat} (hrs : ∀ a, a ∈ rs ↔ a ∈ D.1.2 ∧ d_h D a = nI (d_cn D p) ∧ d_Re D (nI (d_cn D p)) a) :
    (d_fp (d_col D (d_cn D p) rs) p z = none → d_S (d_col D (d_cn D p) rs) (d_pm (d_col D (d_cn D p) rs) p) < 1 → mo_Ok l G yy_Mo_make Y_Mo_make [.inr (some a0), .inl x, .inl y, .inl z, .inl w] a0 ad Mb (ra L b) (Nxt N (d_col D (d_cn D p) rs) (-5))) ∧ (∀ D2, d_mks (d_col D (d_cn D p) rs) p r z w D2 → mo_Ok l G yy_Mo_make Y_Mo_make [.inr (some a0), .inl x, .inl y, .inl z, .inl w] a0 ad Mb (ra L b) (Nxt N D2 0)) := by
  obtain ⟨s, hR⟩ := h.mkk.mp hd
  obtain ⟨⟨hp, hl⟩, hr, hs1, hs16, _, _, ez⟩ := id hR
  have hT := h.2.1.2.2.2.2.1
  have hb := h.2.2.2.2.1
  obtain ⟨_, _, ecn⟩ := h.1.hme hT hb hp hl
  subst ez
  rw [ecn] at hrs ⊢
  have hcn : rcn b p = 8 ∨ (rcn b p < 8 ∧ lv b (rcn b p)) := by
    unfold rcn
    by_cases c2 : 2 ≤ b 0 p
    · rw [if_pos c2]
      exact Or.inl rfl
    · rw [if_neg c2]
      exact Or.inr ⟨hp, hl⟩
  have hlen1 : (d_col D (rcn b p) rs).1.2.length < 60 ∨ True := Or.inr trivial
  have aft : ∀ c m, nof b (rhm b p) (rnm b p) s c → rmk c (rcn b p) m → Rel N (d_col D (rcn b p) rs) (swp c (rcn b p) m) L pg ob ∧ leR b (swp c (rcn b p) m) ∧ lv (swp c (rcn b p) m) p := fun c m hn hmk => by
    obtain ⟨_, U, T, n2, n3, n4, n5⟩ := hn
    subst n5
    have hc0 := h.sc0 (U := U) n2
    have hl0 : leR b (bw b U T) := ⟨fun k hk j => by unfold bw; rw [if_neg (by omega), if_neg (by omega)], fun x => Or.inl rfl, fun k => Or.inl rfl⟩
    have hle := hl0.tr (leR.swp (h := rcn b p) (by omega) (bw b U T) m)
    exact ⟨hc0.col hcn hmk hrs, hle, (lv_c (hle.1 0 (by omega) p)).mpr hl⟩
  have hex0 := h.exf hlen
  have exq : ∀ b1, leR b b1 → ∃ q, q < 60 ∧ b1 6 q = 0 := fun b1 hle => by
    obtain ⟨q, hq, hz⟩ := hex0
    refine ⟨q, hq, ?_⟩
    rcases hle.2.1 q with e | e
    · rw [e]
      exact hz
    · exact e
  refine ⟨fun g1 g2 => ?_, fun D2 hmk => ?_⟩
  · refine cq_make hb (by omega) (fun k => absurd hR (k p r s)) (fun p' r' s' e w => ?_) (fun p' r' s' e hex => ?_)
    · have := h.ful.mpr w
      omega
    · obtain ⟨e1, e2, e3⟩ := rma_u hR e
      subst e1
      subst e2
      subst e3
      refine ⟨h.hfp (rnm_lt b hp) (Rel.n0 b hl) _ _, fun c g q hf hq hz _ => (h.mnf hp hl hs16 hf1 hf2 hf).elim, fun c m hn hmk => ?_⟩
      obtain ⟨z1, z2, z3⟩ := aft c m hn hmk
      obtain ⟨y1, y2⟩ := rhm_le z2 p'
      refine ⟨exq _ z2, z1.hfp (rnm_lt b hp) (by rw [← y2]; exact Rel.n0 _ z3) _ _, fun e hn2 => ?_, fun e g q hf _ _ _ => ?_⟩
      · obtain ⟨_, U1, T1, u2, u3, u4, u5⟩ := hn2
        subst u5
        exact ⟨rfl, _, L, pg, ob, rfl, z1.sc hN u2⟩
      · rw [← y1, ← y2] at hf
        exact (z1.mnf hp z3 hs16 g1 g2 hf).elim
  · refine cq_make hb (by omega) (fun k => absurd hR (k p r s)) (fun p' r' s' e w => ?_) (fun p' r' s' e hex => ?_)
    · have := h.ful.mpr w
      omega
    · obtain ⟨e1, e2, e3⟩ := rma_u hR e
      subst e1
      subst e2
      subst e3
      refine ⟨h.hfp (rnm_lt b hp) (Rel.n0 b hl) _ _, fun c g q hf hq hz _ => (h.mnf hp hl hs16 hf1 hf2 hf).elim, fun c m hn hmk2 => ?_⟩
      obtain ⟨z1, z2, z3⟩ := aft c m hn hmk2
      obtain ⟨y1, y2⟩ := rhm_le z2 p'
      refine ⟨exq _ z2, z1.hfp (rnm_lt b hp) (by rw [← y2]; exact Rel.n0 _ z3) _ _, fun e hn2 => ?_, fun e g q hf hq hz _ => ⟨rfl, ?_⟩⟩
      · rw [← y1, ← y2] at hn2
        exact (z1.mno hp z3 hs16 hmk hn2).elim
      · rw [← y1, ← y2] at hf
        have hl1 : (d_col D (rcn b p') rs).1.2.length < 60 := by
          have hle := z1.1.1.len60
          rcases Nat.lt_or_ge (d_col D (rcn b p') rs).1.2.length 60 with u | u
          · exact u
          · exfalso
            obtain ⟨q0, q1, q2⟩ := exq _ z2
            have := z1.ful.mp (by omega) q0 q1
            omega
        obtain ⟨pg1, ob1, hrel⟩ := z1.mkr hN hp z3 hr hs1 hs16 hl1 hmk hf hq hz
        rw [y1] at hrel
        exact ⟨_, _, pg1, ob1, rfl, hrel⟩
end SZC
