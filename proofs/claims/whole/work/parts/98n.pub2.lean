/-! THE REFERENCE: its public methods by cases, second part -/
theorem wkE_u {b : rB} {U T U1 T1 : Nat → Nat} (h : ∀ n, n < 8 → wkE b U T n) (h1 : ∀ n, n < 8 → wkE b U1 T1 n) : ∀ n, n < 8 → U1 n = U n ∧ T1 n = T n := by
  have main : ∀ d n, n + d = 8 → ∀ c, n ≤ c → c < 8 → U1 c = U c ∧ T1 c = T c := by
    intro d
    induction d with
    | zero => intro n hn c h2 h3; omega
    | succ d ih =>
      intro n hn c h2 h3
      have ih2 := ih (n + 1) (by omega)
      by_cases e : c = n
      · subst e
        have hw := wt_c (b := b) (n := c) (fun c' h4 h5 => ih2 c' (by omega) h5)
        have ht : thr b T1 c = thr b T c := by
          unfold thr
          rw [hw.2]
        constructor
        · rw [(h1 c h3).1, (h c h3).1, hw.1]
        · rw [(h1 c h3).2, (h c h3).2, ht]
      · exact ih2 c (by omega) h3
  exact fun n hn => main 8 0 (by omega) n (by omega) hn
theorem rst_c {N : Nat} {b : rB} {U U1 : Nat → Nat} (hb : rb N b) (h : ∀ n, n < 8 → U1 n = U n) (f : Nat) (v : Int32) (m : Nat) : rst b U1 f v m = rst b U f v m := by
  induction f generalizing v m with
  | zero => rfl
  | succ f ih =>
    have h1 : b 1 m ≤ 7 := hb.2 1 m (by decide)
    show (if m = 0 ∨ b 3 m ≠ 0 then v else rst b U1 f (if v ≤ nI (b 2 (b 1 m)) - nI (U1 (b 1 m)) then v else nI (b 2 (b 1 m)) - nI (U1 (b 1 m))) (b 1 m)) = (if m = 0 ∨ b 3 m ≠ 0 then v else rst b U f (if v ≤ nI (b 2 (b 1 m)) - nI (U (b 1 m)) then v else nI (b 2 (b 1 m)) - nI (U (b 1 m))) (b 1 m))
    rw [ih, h (b 1 m) (by omega)]
theorem rsn_c {N : Nat} {b : rB} {U U1 : Nat → Nat} (hb : rb N b) (h : ∀ n, n < 8 → U1 n = U n) {n : Nat} (hn : n < 8) : rsn b U1 n = rsn b U n := by
  unfold rsn
  rw [h n hn]
  exact rst_c hb h 8 _ n
def rlk (b : rB) (p k r : Nat) : rB := bu (bu (bu b 19 (4 * p + k) 1) 20 (4 * p + k) 1) 5 (4 * p + r) (b 17 k + 1)
def rlr (b : rB) (x y z : Int32) (p k r : Nat) : Prop := (p < 8 ∧ lv b p) ∧ k < 4 ∧ r < 4 ∧ x = nI p ∧ y = nI (9 + k) ∧ z = nI r ∧ b 15 k = 2
def rmk (b : rB) (h : Nat) (m : Nat → Nat) : Prop := (∀ x, m x ≤ 1) ∧ ∀ x, x < 60 → (m x ≠ 0 ↔ b 6 x = h + 1 ∧ rR b h x)
def rsp (b : rB) (p lim hard : Nat) : rB := bu (bu (bu (bu (bu b 0 (b 4 0) 1) 1 (b 4 0) p) 2 (b 4 0) lim) 3 (b 4 0) hard) 4 0 (b 4 0 + 1)
section RN
variable {l : Launch} {G : mm_G} {K : Option mm_V → mo_A → Prop} {a0 : Nat} {ad : Nat → Nat} {Mb : mm_M} {L : Nat → Int32} {b : rB} {N h t p r k n s : Nat} {x y z w : Int32}
theorem rb_swp (hb : rb N b) {m : Nat → Nat} (hm : ∀ x, m x ≤ 1) (h : Nat) : rb N (swp b h m) := by
  have h1 := rb_frN (rb_bm hb hm) (unr b m h) 60
  have h2 : rb N (itm (frN (bm b m) (unr b m h) 60) h 60) := rb_z h1 _
  exact rb_vnN (rb_chN h2 h 4) 4
theorem cq_begin (hb : rb N b) (k0 : (∀ p, p < 8 → lv b p → x = nI p → ∃ k, k < 4 ∧ b 15 k = 1 ∧ b 16 k = p) → K (some (.inl (-1))) (ra L b)) (k1 : ∀ p, p < 8 → lv b p → x = nI p → (∀ k, k < 4 → ¬ (b 15 k = 1 ∧ b 16 k = p)) → ¬ b 18 0 < 4 → K (some (.inl (-4))) (ra L b))
    (k2 : ∀ p, p < 8 → lv b p → x = nI p → (∀ k, k < 4 → ¬ (b 15 k = 1 ∧ b 16 k = p)) → b 18 0 < 4 → K (some (.inl (nI (9 + b 18 0)))) (ra L (bu (bu (bu b 15 (b 18 0) 1) 16 (b 18 0) p) 18 0 (b 18 0 + 1)))) : mo_Ok l G yy_Mo_begin Y_Mo_begin [.inr (some a0), .inl x] a0 ad Mb (ra L b) K := by
  refine mg_begin (cr_lives hb (fun h => ⟨rfl, _, rfl, fun u => absurd rfl u, fun _ => k0 (fun p hp hl e => absurd hl (h p hp e))⟩) (fun p hp e hl => ⟨rfl, _, rfl, fun _ => ?_, fun u => absurd u (by decide)⟩))
  subst e
  have h18 : b 18 0 ≤ 4 := hb.2 18 0 (by decide)
  refine up_ind (P := fun i => (∀ k, k < i → ¬ (b 15 k = 1 ∧ b 16 k = p)) → mo_Z l G Y_Mo_begin K a0 ad Mb 12 [some (.inr (some a0)), some (.inl (nI p)), some (.inl (nI i))] [] (ra L b)) 4 (fun hq => mg_begin_12 ⟨fun _ => ⟨fun e => ?_, fun e => ?_⟩, fun hc => absurd (nleN 4 4 hc) (by omega)⟩) (fun i hi ih hq => ?_) 0 (by omega) (fun k hk => by omega)
  · have hlt := ltN (b 18 0) 4 e
    have k2' := k2 p hp hl rfl hq hlt
    refine ⟨b 18 0, rfl, hlt, b 18 0, rfl, hlt, ?_⟩
    rw [show mo_u (ra L b) 15 (b 18 0) 1 = _ from ra_u 1 (by decide), ra_u p (by decide)]
    rw [show ra L (bu (bu b 15 (b 18 0) 1) 16 (b 18 0) p) 18 0 + 1 = nI (b 18 0 + 1) from nI_1 (b 18 0), ra_u _ (by decide)]
    rw [show (8 : Int32) + ra L (bu (bu (bu b 15 (b 18 0) 1) 16 (b 18 0) p) 18 0 (b 18 0 + 1)) 18 0 = nI (8 + (b 18 0 + 1)) from nI_add 8 _, show 8 + (b 18 0 + 1) = 9 + b 18 0 by omega]
    exact k2'
  · exact k1 p hp hl rfl hq (fun u => e (nI_lt u (by decide)))
  · have h15 : b 15 i ≤ 3 := hb.2 15 i (by decide)
    have h16 : b 16 i ≤ 7 := hb.2 16 i (by decide)
    have go : ¬ (b 15 i = 1 ∧ b 16 i = p) → mo_Z l G Y_Mo_begin K a0 ad Mb 12 [some (.inr (some a0)), some (.inl (nI p)), some (.inl (nI i + 1))] [] (ra L b) := by
      intro hn
      rw [nI_1]
      refine ih (fun k hk => ?_)
      by_cases e : k = i
      · rw [e]
        exact hn
      · exact hq k (by omega)
    refine mg_begin_12 ⟨fun hc => absurd (leN 4 i hc) (by omega), fun _ => ⟨i, rfl, hi, fun e => go (fun u => neN (b 15 i) 1 e u.1), fun e => ⟨fun e2 => go (fun u => neN (b 16 i) p e2 u.2), fun e2 => k0 (fun q hq2 hl2 e3 => ⟨i, hi, eqN (b 15 i) 1 e, ?_⟩)⟩⟩⟩
    rw [← eqN p q e3]
    exact eqN (b 16 i) p e2
theorem cq_freeze (hb : rb N b) (k0 : (∀ p r k u, p < 8 → lv b p → r < 4 → x = nI p → y = nI r → k < 4 → b 15 k = 1 → b 16 k = p → b 5 (4 * p + r) = u + 1 → ¬ b 6 u = 10 + k) → K (some (.inl (-1))) (ra L b))
    (k1 : ∀ p r k u, p < 8 → lv b p → r < 4 → x = nI p → y = nI r → k < 4 → b 15 k = 1 → b 16 k = p → b 5 (4 * p + r) = u + 1 → b 6 u = 10 + k → K (some (.inl (nI (9 + k)))) (ra L (bu (bu (bu (bu b 15 k 2) 17 k u) 19 (4 * p + k) 1) 20 (4 * p + k) 1))) : mo_Ok l G yy_Mo_freeze Y_Mo_freeze [.inr (some a0), .inl x, .inl y] a0 ad Mb (ra L b) K := by
  refine mg_freeze (cr_lives hb (fun h => ⟨rfl, _, rfl, fun _ => k0 (fun p r k u hp hl _ e => absurd hl (h p hp e)), fun u => absurd rfl u⟩) (fun p hp e hl => ⟨rfl, _, rfl, fun u => absurd u (by decide), fun _ => ?_⟩))
  refine cr_isRegister (fun h => ⟨rfl, _, rfl, fun u => absurd rfl u, fun _ => k0 (fun p r k u _ _ hr _ e => absurd e (h r hr))⟩) (fun r hr e2 => ⟨rfl, _, rfl, fun _ => ?_, fun u => absurd u (by decide)⟩)
  subst e
  subst e2
  have h5 : b 5 (4 * p + r) ≤ 60 := hb.2 5 _ (by decide)
  refine ⟨4 * p + r, ixN 4 p r, by omega, ?_⟩
  refine up_ind (P := fun i => (∀ k u, k < i → b 15 k = 1 → b 16 k = p → b 5 (4 * p + r) = u + 1 → ¬ b 6 u = 10 + k) → mo_Z l G Y_Mo_freeze K a0 ad Mb 33 [some (.inr (some a0)), some (.inl (nI p)), some (.inl (nI r)), some (.inl (nI (b 5 (4 * p + r)) - 1)), some (.inl (nI i))] [] (ra L b)) 4 (fun hq => mg_freeze_33 ⟨fun _ => k0 (fun p1 r1 k u h1 _ h3 e1 e2 h4 h6 h7 h8 => ?_), fun hc => absurd (nleN 4 4 hc) (by omega)⟩) (fun i hi ih hq => ?_) 0 (by omega) (fun k u hk => by omega)
  · have ep := eqN p p1 e1
    have er := eqN r r1 e2
    rw [← ep, ← er] at h8
    exact hq k u h4 h6 (by rw [h7, ep]) h8
  · have h15 : b 15 i ≤ 3 := hb.2 15 i (by decide)
    have h16 : b 16 i ≤ 7 := hb.2 16 i (by decide)
    have go : (∀ u, b 15 i = 1 → b 16 i = p → b 5 (4 * p + r) = u + 1 → ¬ b 6 u = 10 + i) → mo_Z l G Y_Mo_freeze K a0 ad Mb 33 [some (.inr (some a0)), some (.inl (nI p)), some (.inl (nI r)), some (.inl (nI (b 5 (4 * p + r)) - 1)), some (.inl (nI i + 1))] [] (ra L b) := by
      intro hn
      rw [nI_1]
      refine ih (fun k u hk => ?_)
      by_cases e : k = i
      · rw [e]
        exact hn u
      · exact hq k u (by omega)
    refine mg_freeze_33 ⟨fun hc => absurd (leN 4 i hc) (by omega), fun _ => ⟨i, rfl, hi, fun e => go (fun u e1 => absurd e1 (neN (b 15 i) 1 e)), fun e => ⟨fun e2 => go (fun u _ e3 => absurd e3 (neN (b 16 i) p e2)), fun e2 => ⟨fun e3 => go (fun u _ _ e4 => ?_), fun e3 => ?_⟩⟩⟩⟩
    · have := (m1N (v := b 5 (4 * p + r)) (by omega)).mp e3
      omega
    · have e0 : 0 < b 5 (4 * p + r) := Nat.pos_of_ne_zero (fun u => e3 ((m1N (v := b 5 (4 * p + r)) (by omega)).mpr u))
      obtain ⟨u, eu⟩ : ∃ u, b 5 (4 * p + r) = u + 1 := ⟨b 5 (4 * p + r) - 1, by omega⟩
      have h6 : b 6 u ≤ 13 := hb.2 6 u (by decide)
      have e10 : (10 : Int32) + nI i = nI (10 + i) := nI_add 10 i
      rw [e10]
      rw [eu] at go ⊢
      rw [nI_pred] at go ⊢
      refine ⟨u, rfl, by omega, fun e4 => go (fun u1 _ _ e5 => ?_), fun e4 => ⟨4 * p + i, ixN 4 p i, by omega, ?_⟩⟩
      · rw [show u1 = u by omega]
        exact neN (b 6 u) (10 + i) e4
      · rw [show mo_u (ra L b) 15 i 2 = _ from ra_u 2 (by decide), ra_u u (by decide), show mo_u (ra L _) 19 (4 * p + i) 1 = _ from ra_u 1 (by decide), show mo_u (ra L _) 20 (4 * p + i) 1 = _ from ra_u 1 (by decide), show (9 : Int32) + nI i = nI (9 + i) from nI_add 9 i]
        exact k1 p r i u hp hl hr rfl rfl hi (eqN (b 15 i) 1 e) (eqN (b 16 i) p e2) eu (eqN (b 6 u) (10 + i) e4)
theorem cq_lookup (hb : rb N b) (k0 : (∀ p k r, ¬ rlr b x y z p k r) → K (some (.inl (-1))) (ra L b)) (k1 : ∀ p k r, rlr b x y z p k r → b 19 (4 * p + k) ≠ 0 → K (some (.inl 0)) (ra L (bu b 5 (4 * p + r) (b 17 k + 1))))
    (k2 : ∀ p k r U T, rlr b x y z p k r → b 19 (4 * p + k) = 0 → (∀ j, T j ≤ 1) → (∀ n, n < 8 → wkE b U T n) → nI (pc b (9 + k)) ≤ rsn b U p → K (some (.inl 0)) (ra L (rlk (bw b U T) p k r)))
    (k3 : ∀ p k r U T m U1 T1, rlr b x y z p k r → b 19 (4 * p + k) = 0 → (∀ j, T j ≤ 1) → (∀ n, n < 8 → wkE b U T n) → ¬ nI (pc b (9 + k)) ≤ rsn b U p → rmk b p m → (∀ j, T1 j ≤ 1) → (∀ n, n < 8 → wkE (swp (bw b U T) p m) U1 T1 n) → (¬ nI (pc (swp (bw b U T) p m) (9 + k)) ≤ rsn (swp (bw b U T) p m) U1 p → K (some (.inl (-5))) (ra L (bw (swp (bw b U T) p m) U1 T1))) ∧ (nI (pc (swp (bw b U T) p m) (9 + k)) ≤ rsn (swp (bw b U T) p m) U1 p → K (some (.inl 0)) (ra L (rlk (bw (swp (bw b U T) p m) U1 T1) p k r)))) : mo_Ok l G yy_Mo_lookup Y_Mo_lookup [.inr (some a0), .inl x, .inl y, .inl z] a0 ad Mb (ra L b) K := by
  refine mg_lookup (cr_lives hb (fun h => ⟨rfl, _, rfl, fun _ => k0 (fun p k r e => h p e.1.1 e.2.2.2.1 e.1.2), fun u => absurd rfl u⟩) (fun p hp e hl => ⟨rfl, _, rfl, fun u => absurd u (by decide), fun _ => ?_⟩))
  refine cr_isRegister (fun h => ⟨rfl, _, rfl, fun _ => k0 (fun p k r e => h r e.2.2.1 e.2.2.2.2.2.1), fun u => absurd rfl u⟩) (fun r hr e2 => ⟨rfl, _, rfl, fun u => absurd u (by decide), fun _ => ?_⟩)
  refine cr_frozen hb (fun h => ⟨rfl, _, rfl, fun u => absurd rfl u, fun _ => k0 (fun p k r e => h k e.2.1 e.2.2.2.2.1 e.2.2.2.2.2.2)⟩) (fun k hk e3 hs => ⟨rfl, _, rfl, fun _ => ?_, fun u => absurd u (by decide)⟩)
  have hR : rlr b x y z p k r := ⟨⟨hp, hl⟩, hk, hr, e, e3, e2, hs⟩
  subst e
  subst e2
  subst e3
  have e9 : nI (9 + k) - 9 = nI k := by
    rw [show 9 + k = k + 9 by omega, ← nI_add]
    exact Int32.add_sub_cancel _ _
  have h19 : b 19 (4 * p + k) ≤ 1 := hb.2 19 _ (by decide)
  rw [e9]
  refine ⟨4 * p + k, ixN 4 p k, by omega, fun e => ⟨k, rfl, hk, 4 * p + r, ixN 4 p r, by omega, ?_⟩, fun e => ?_⟩
  · rw [show ra L b 17 k + 1 = nI (b 17 k + 1) from nI_1 _, ra_u _ (by decide)]
    exact k1 p k r hR (neN (b 19 (4 * p + k)) 0 e)
  · have e0 := eqN (b 19 (4 * p + k)) 0 e
    have fin : ∀ c : rB, K (some (.inl 0)) (ra L (rlk c p k r)) → ∃ j24 : Nat, nI k = nI j24 ∧ j24 < 4 ∧ ∃ j27 : Nat, 4 * nI p + nI r = nI j27 ∧ j27 < 32 ∧ K (some (.inl 0)) (mo_u (mo_u (mo_u (ra L c) 19 (4 * p + k) 1) 20 (4 * p + k) 1) 5 j27 (((mo_u (mo_u (ra L c) 19 (4 * p + k) 1) 20 (4 * p + k) 1) 17 j24) + 1)) := by
      intro c hc
      refine ⟨k, rfl, hk, 4 * p + r, ixN 4 p r, by omega, ?_⟩
      rw [show mo_u (ra L c) 19 (4 * p + k) 1 = _ from ra_u 1 (by decide), show mo_u (ra L (bu c 19 (4 * p + k) 1)) 20 (4 * p + k) 1 = _ from ra_u 1 (by decide)]
      rw [show ra L (bu (bu c 19 (4 * p + k) 1) 20 (4 * p + k) 1) 17 k + 1 = nI (c 17 k + 1) from nI_1 _, ra_u _ (by decide)]
      exact hc
    refine cr_rest hb hp (fun U T hT hE => ⟨_, rfl, ?_⟩)
    have hbw := rb_bw (U := U) hb hT
    refine cr_pagesN hbw (by omega) ⟨rfl, _, rfl, fun e4 => ?_, fun e4 => ?_⟩
    · refine cr_rest hbw hp (fun U1 T1 hT1 hE1 => ⟨_, rfl, ?_⟩)
      rw [bw_bw, rsn_bw]
      have hbw1 := rb_bw (U := U1) hb hT1
      have hu := wkE_u hE hE1
      refine cr_pagesN hbw1 (by omega) ⟨rfl, _, rfl, fun e5 => fin _ (k2 p k r U1 T1 hR e0 hT1 hE1 e5), fun e5 => ?_⟩
      rw [rsn_c hb (fun n hn => (hu n hn).1) hp] at e5
      exact absurd e4 e5
    · refine cr_sweep hbw (by omega) (fun m hm1 hm2 => ⟨_, rfl, ?_⟩)
      have hsw := rb_swp hbw hm1 p
      refine cr_rest hsw hp (fun U1 T1 hT1 hE1 => ⟨_, rfl, ?_⟩)
      obtain ⟨k4, k5⟩ := k3 p k r U T m U1 T1 hR e0 hT hE e4 ⟨hm1, hm2⟩ hT1 hE1
      exact cr_pagesN (rb_bw hsw hT1) (by omega) ⟨rfl, _, rfl, fun e5 => fin _ (k5 e5), fun e5 => k4 e5⟩
theorem cq_collect (hb : rb N b) (k0 : ¬ x = 8 → (∀ p, p < 8 → lv b p → ¬ x = nI p) → K (some (.inl (-1))) (ra L b)) (k1 : ∀ h m, x = nI h → (h = 8 ∨ h < 8 ∧ lv b h) → rmk b h m → K (some (.inl (nI ((List.range 60).countP (unr b m h))))) (ra L (swp b h m))) : mo_Ok l G yy_Mo_collect Y_Mo_collect [.inr (some a0), .inl x] a0 ad Mb (ra L b) K := by
  refine mg_collect ⟨fun e => ?_, fun e => cr_lives hb (fun h => ⟨rfl, _, rfl, fun _ => k0 e (fun p hp hl e2 => h p hp e2 hl), fun u => absurd rfl u⟩) (fun p hp e2 hl => ⟨rfl, _, rfl, fun u => absurd u (by decide), fun _ => ?_⟩)⟩
  · have e : x = nI 8 := e
    subst e
    exact cr_sweep hb (by omega) (fun m h1 h2 => ⟨_, rfl, k1 8 m rfl (Or.inl rfl) ⟨h1, h2⟩⟩)
  · subst e2
    exact cr_sweep hb (by omega) (fun m h1 h2 => ⟨_, rfl, k1 p m rfl (Or.inr ⟨hp, hl⟩) ⟨h1, h2⟩⟩)
theorem cq_kill (hb : rb N b) (hN : N + 120 < 1000000000) (k0 : (∀ p, p < 8 → lv b p → x = nI p → p = 0 ∨ b 0 p = 3) → K (some (.inl 0)) (ra L b)) (k1 : ∀ p, p < 8 → lv b p → x = nI p → p ≠ 0 → b 0 p = 2 → K (some (.inl 1)) (ra L (bu b 0 p 3))) (k2 : ∀ p, p < 8 → lv b p → x = nI p → p ≠ 0 → b 0 p = 1 → K (some (.inl 1)) (ra L (dth b p))) : mo_Ok l G yy_Mo_kill Y_Mo_kill [.inr (some a0), .inl x] a0 ad Mb (ra L b) K := by
  refine mg_kill (cr_lives hb (fun h => ⟨rfl, _, rfl, fun _ => k0 (fun p hp hl e => absurd hl (h p hp e)), fun u => absurd rfl u⟩) (fun p hp e hl => ⟨rfl, _, rfl, fun u => absurd u (by decide), fun _ => ?_⟩))
  subst e
  have h0 : b 0 p ≤ 4 := hb.2 0 p (by decide)
  refine ⟨fun e => k0 (fun q hq _ e2 => Or.inl ?_), fun e => ⟨p, rfl, hp, fun e2 => ⟨fun e3 => ?_, fun e3 => ?_⟩, fun e2 => k0 (fun q hq _ e3 => Or.inr ?_)⟩⟩
  · have := eqN p q e2
    have := eqN p 0 e
    omega
  · have h3 := neN (b 0 p) 3 e2
    have h1 := neN (b 0 p) 1 e3
    rw [show mo_u (ra L b) 0 p 3 = _ from ra_u 3 (by decide)]
    exact k1 p hp hl rfl (neN p 0 e) (by have := hl.1; have := hl.2; omega)
  · exact cr_die hb hp hN ⟨rfl, k2 p hp hl rfl (neN p 0 e) (eqN (b 0 p) 1 e3)⟩
  · rw [← eqN p q e3]
    exact eqN (b 0 p) 3 e2
theorem cq_mode (hb : rb N b) (hN : N + 120 < 1000000000) (hy : y = 0 ∨ y = 1) (k0 : (∀ p, p < 8 → lv b p → x = nI p → (y = 1 ↔ 2 ≤ b 0 p)) → K (some (.inl 0)) (ra L b)) (k1 : ∀ p, p < 8 → lv b p → x = nI p → ¬ (y = 1 ↔ 2 ≤ b 0 p) → b 0 p ≠ 3 → K (some (.inl 1)) (ra L (bu b 0 p (if y = 0 then 1 else 2)))) (k2 : ∀ p, p < 8 → lv b p → x = nI p → y = 0 → b 0 p = 3 → K (some (.inl 1)) (ra L (dth b p))) : mo_Ok l G yy_Mo_mode Y_Mo_mode [.inr (some a0), .inl x, .inl y] a0 ad Mb (ra L b) K := by
  refine mg_mode (cr_lives hb (fun h => ⟨rfl, _, rfl, fun _ => k0 (fun p hp hl e => absurd hl (h p hp e)), fun u => absurd rfl u⟩) (fun p hp e hl => ⟨rfl, _, rfl, fun u => absurd u (by decide), fun _ => ⟨p, e, hp, ?_⟩⟩))
  subst e
  have h0 : b 0 p ≤ 4 := hb.2 0 p (by decide)
  have k1' : ¬ (y = 1 ↔ 2 ≤ b 0 p) → ¬ (ra L b 0 p) = 3 → (y = 0 → K (some (.inl 1)) (mo_u (ra L b) 0 p 1)) ∧ (¬ y = 0 → K (some (.inl 1)) (mo_u (ra L b) 0 p 2)) := by
    intro e1 e2
    have k3 := k1 p hp hl rfl e1 (neN (b 0 p) 3 e2)
    refine ⟨fun e3 => ?_, fun e3 => ?_⟩
    · rw [if_pos e3] at k3
      rw [show mo_u (ra L b) 0 p 1 = _ from ra_u 1 (by decide)]
      exact k3
    · rw [if_neg e3] at k3
      rw [show mo_u (ra L b) 0 p 2 = _ from ra_u 2 (by decide)]
      exact k3
  have k0' : (y = 1 ↔ 2 ≤ b 0 p) → K (some (.inl 0)) (ra L b) := fun hh => k0 (fun q hq _ e => by rw [← eqN p q e]; exact hh)
  refine ⟨fun e => ⟨fun e2 => ⟨fun e3 => k1' ?_ e3, fun e3 => ?_⟩, fun e2 => k0' ?_⟩, fun e => ⟨fun e2 => ⟨fun e3 => k1' ?_ e3, fun e3 => cr_die hb hp hN ⟨rfl, k2 p hp hl rfl (hy.resolve_right e2) (eqN (b 0 p) 3 e3)⟩⟩, fun e2 => k0' ?_⟩⟩
  · have := ltN (b 0 p) 2 e
    exact fun u => by
      have := u.mp (hy.resolve_left e2)
      omega
  · have h2 := ltN (b 0 p) 2 e
    have h3 := eqN (b 0 p) 3 e3
    omega
  · have := ltN (b 0 p) 2 e
    exact ⟨fun u => by rw [e2] at u; exact absurd u (by decide), fun u => by omega⟩
  · have := nltN (b 0 p) 2 e
    exact fun u => e2 (u.mpr this)
  · have := nltN (b 0 p) 2 e
    exact ⟨fun _ => this, fun _ => e2⟩
theorem cq_spawn (hb : rb N b) (hz : z = 0 ∨ z = 1) (k0 : (∀ p, p < 8 → lv b p → x = nI p → y < 1 ∨ ¬ y ≤ 24) → K (some (.inl (-1))) (ra L b)) (k1 : ∀ p, p < 8 → lv b p → x = nI p → ¬ y < 1 → y ≤ 24 → ¬ b 4 0 < 8 → K (some (.inl (-4))) (ra L b))
    (k2 : ∀ p U T, p < 8 → lv b p → x = nI p → ¬ y < 1 → y ≤ 24 → b 4 0 < 8 → ¬ z = 0 → (∀ j, T j ≤ 1) → (∀ n, n < 8 → wkE b U T n) → ¬ y ≤ rsn b U p → K (some (.inl (-5))) (ra L (bw b U T)))
    (k3 : ∀ p s, p < 8 → lv b p → x = nI p → 1 ≤ s → s ≤ 24 → y = nI s → b 4 0 < 8 → z = 0 → K (some (.inl (nI (b 4 0)))) (ra L (rsp b p s 0)))
    (k4 : ∀ p s U T, p < 8 → lv b p → x = nI p → 1 ≤ s → s ≤ 24 → y = nI s → b 4 0 < 8 → ¬ z = 0 → (∀ j, T j ≤ 1) → (∀ n, n < 8 → wkE b U T n) → y ≤ rsn b U p → K (some (.inl (nI (b 4 0)))) (ra L (rsp (bw b U T) p s 1))) : mo_Ok l G yy_Mo_spawn Y_Mo_spawn [.inr (some a0), .inl x, .inl y, .inl z] a0 ad Mb (ra L b) K := by
  refine mg_spawn (cr_lives hb (fun h => ⟨rfl, _, rfl, fun _ => k0 (fun p hp hl e => absurd hl (h p hp e)), fun u => absurd rfl u⟩) (fun p hp e hl => ⟨rfl, _, rfl, fun u => absurd u (by decide), fun _ => ?_⟩))
  subst e
  have h4 : b 4 0 ≤ 8 := hb.2 4 0 (by decide)
  have fin : ∀ (c : rB) (s v : Nat), c 4 0 = b 4 0 → b 4 0 < 8 → y = nI s → z = nI v → K (some (.inl (nI (b 4 0)))) (ra L (rsp c p s v)) → ∃ j3 : Nat, (ra L c 4 0) = nI j3 ∧ j3 < 8 ∧ ∃ j6 : Nat, ((mo_u (ra L c) 0 j3 1) 4 0) = nI j6 ∧ j6 < 8 ∧ ∃ j9 : Nat, ((mo_u (mo_u (ra L c) 0 j3 1) 1 j6 (nI p)) 4 0) = nI j9 ∧ j9 < 8 ∧ ∃ j12 : Nat, ((mo_u (mo_u (mo_u (ra L c) 0 j3 1) 1 j6 (nI p)) 2 j9 y) 4 0) = nI j12 ∧ j12 < 8 ∧ (z = 0 ∨ z = 1) ∧ K (some (.inl (((mo_u (mo_u (mo_u (mo_u (mo_u (ra L c) 0 j3 1) 1 j6 (nI p)) 2 j9 y) 3 j12 z) 4 0 (((mo_u (mo_u (mo_u (mo_u (ra L c) 0 j3 1) 1 j6 (nI p)) 2 j9 y) 3 j12 z) 4 0) + 1)) 4 0) - 1))) (mo_u (mo_u (mo_u (mo_u (mo_u (ra L c) 0 j3 1) 1 j6 (nI p)) 2 j9 y) 3 j12 z) 4 0 (((mo_u (mo_u (mo_u (mo_u (ra L c) 0 j3 1) 1 j6 (nI p)) 2 j9 y) 3 j12 z) 4 0) + 1)) := by
    intro c s v hc hlt ey ez hk
    subst ey
    subst ez
    refine ⟨c 4 0, rfl, by omega, c 4 0, rfl, by omega, c 4 0, rfl, by omega, c 4 0, rfl, by omega, hz, ?_⟩
    rw [show mo_u (ra L c) 0 (c 4 0) 1 = _ from ra_u 1 (by decide), ra_u p (by decide), ra_u s (by decide), ra_u v (by decide)]
    rw [show ra L (bu (bu (bu (bu c 0 (c 4 0) 1) 1 (c 4 0) p) 2 (c 4 0) s) 3 (c 4 0) v) 4 0 + 1 = nI (c 4 0 + 1) from nI_1 _, ra_u _ (by decide)]
    rw [show ra L (bu (bu (bu (bu (bu c 0 (c 4 0) 1) 1 (c 4 0) p) 2 (c 4 0) s) 3 (c 4 0) v) 4 0 (c 4 0 + 1)) 4 0 - 1 = nI (b 4 0) from by rw [← hc]; exact nI_pred (c 4 0)]
    exact hk
  have k0' : y < 1 ∨ ¬ y ≤ 24 → K (some (.inl (-1))) (ra L b) := fun h => k0 (fun q _ _ _ => h)
  refine ⟨fun e => k0' (Or.inl e), fun e => ⟨fun e2 => ⟨fun e3 => ⟨fun e4 => ?_, fun e4 => ?_⟩, fun e3 => k1 p hp hl rfl e e2 (fun u => e3 (nI_lt u (by decide)))⟩, fun e2 => k0' (Or.inr e2)⟩⟩
  · obtain ⟨s, hs, ey⟩ := nI_of (x := y) (fun u => e (Int32.lt_trans u (by decide)))
    have hs1 : 1 ≤ s := nltN s 1 (by rw [← ey]; exact e)
    have hs2 : s ≤ 24 := leN s 24 (by rw [← ey]; exact e2)
    exact fin b s 0 rfl (ltN (b 4 0) 8 e3) ey e4 (k3 p s hp hl rfl hs1 hs2 ey (ltN (b 4 0) 8 e3) e4)
  · obtain ⟨s, hs, ey⟩ := nI_of (x := y) (fun u => e (Int32.lt_trans u (by decide)))
    have hs1 : 1 ≤ s := nltN s 1 (by rw [← ey]; exact e)
    have hs2 : s ≤ 24 := leN s 24 (by rw [← ey]; exact e2)
    refine cr_rest hb hp (fun U T hT hE => ⟨_, rfl, fun e5 => ?_, fun e5 => k2 p U T hp hl rfl e e2 (ltN (b 4 0) 8 e3) e4 hT hE e5⟩)
    exact fin (bw b U T) s 1 rfl (ltN (b 4 0) 8 e3) ey (hz.resolve_left e4) (k4 p s U T hp hl rfl hs1 hs2 ey (ltN (b 4 0) 8 e3) e4 hT hE e5)
end RN
