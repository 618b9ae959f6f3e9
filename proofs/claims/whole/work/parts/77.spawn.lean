/-! THE CLASS AS A WHOLE: a process is made -/
def d_sp (D : ph_D) (m q : Nat) (par lim hard : Int32) : ph_D := (D.1, fun k j => if k = 6 ∧ j = m then 1 else if k = 7 ∧ j = m then par else if k = 8 ∧ j = m then lim else if k = 9 ∧ j = m then hard else if k = 10 ∧ j = m then -1 else if k = 11 ∧ j = m then 0 else if k = 12 ∧ j = 0 then nI (m + 1) else D.2.1 k j, fun k j => if 4 ≤ k ∧ k < 8 ∧ j = m then none else if k = 9 ∧ j = m then some q else D.2.2 k j)
section QE
variable {l : Launch} {G : mm_G} {K : Option mm_V → mm_M → Prop} {M M1 Mb N : mm_M} {c : Nat → Nat} {F : Nat → Prop} {D D1 : ph_D} {eP eO eP1 eO1 am LP LO : Nat} {gs xs : List Nat}
theorem ti_T.sp4 {b j : Nat} {v : Option Nat} (h : ti_T M) (hb : mm_k M b = 104) (hv : ∀ w, v = some w → mm_k M w = 6) : ti_T (mm_sp M b j v) := by
  have n : ∀ a, mm_k M a ≠ 104 → ∀ i, mm_p (mm_sp M b j v) a i = mm_p M a i := fun a ha i => by rw [mm_p_sp, if_neg (fun z => ha (by rw [z.1]; exact hb))]
  have ea : ∀ a, mm_k M a = 8 → oo_a (mm_sp M b j v) a = oo_a M a := fun a ha => by unfold oo_a; rw [n a (by rw [ha]; decide)]
  have eg : ∀ a, mm_k M a = 8 → oo_g (mm_sp M b j v) a = oo_g M a := fun a ha => by unfold oo_g; rw [n a (by rw [ha]; decide)]
  have er : ∀ a, mm_k M a = 6 → pr_a (mm_sp M b j v) a = pr_a M a := fun a ha => by unfold pr_a; rw [n a (by rw [ha]; decide)]
  obtain ⟨h1, h2, h3, h4, h5, h6, h7⟩ := h
  refine ⟨fun a ha => ?_, fun q hq => ?_, fun f i w hf hw => ?_, fun f i w hf hw => ?_, fun a b' ha hb' e => ?_, fun p q hp hq e => ?_, fun a q ha hq => ?_⟩
  · have ha' : mm_k M a = 8 := ha
    unfold ti_O
    rw [eg a ha', ea a ha', n a (by rw [ha']; decide), n a (by rw [ha']; decide)]
    exact h1 a ha'
  · have hq' : mm_k M q = 6 := hq
    unfold ti_P
    rw [er q hq', n q (by rw [hq']; decide)]
    exact h2 q hq'
  · have hf' : mm_k M f = 103 := hf
    rw [n f (by rw [hf']; decide)] at hw
    exact h3 f i w hf hw
  · rw [mm_p_sp] at hw
    by_cases z : f = b ∧ i = j
    · rw [if_pos z] at hw
      exact hv w hw
    · rw [if_neg z] at hw
      exact h4 f i w hf hw
  · rw [ea a ha, ea b' hb'] at e
    exact h5 a b' ha hb' e
  · rw [er p hp, er q hq] at e
    exact h6 p q hp hq e
  · rw [ea a ha, er q hq]
    exact h7 a q ha hq
theorem me_W.sp4 {b j : Nat} {v : Option Nat} (h : me_W G M am LP LO eP eO gs xs) (hb : mm_k M b = 104) (hv : ∀ w, v = some w → mm_k M w = 6) : me_W G (mm_sp M b j v) am LP LO eP eO gs xs := by
  have n : ∀ a, mm_k M a ≠ 104 → ∀ i, mm_p (mm_sp M b j v) a i = mm_p M a i := fun a ha i => by rw [mm_p_sp, if_neg (fun z => ha (by rw [z.1]; exact hb))]
  have nL : ∀ {L e : Nat} {es : List Nat}, al_L G M L e es → al_L G (mm_sp M b j v) L e es := by
    intro L e es hL
    refine ⟨hL.1, by rw [n L (by rw [hL.1]; decide)]; exact hL.2.1, hL.2.2.1, hL.2.2.2.1, fun i w hi => ?_⟩
    rw [n e (by rcases hL.kind with z | z <;> rw [z] <;> decide)]
    exact hL.2.2.2.2 i w hi
  obtain ⟨f1, f2, f3, f4, f5, f6, f7, f8, f9, f10, f11, f12, f13⟩ := h
  exact ⟨f1, f2.sp4 hb hv, f3, by rw [n am (by rw [f3]; decide)]; exact f4, by rw [n am (by rw [f3]; decide)]; exact f5, nL f6, nL f7, f8, f9, f10, f11, f12, f13⟩
/-- N: a process q with its registers q' is made -/
def pr_N (M N : mm_M) (q q' : Nat) (x0 x1 x2 x3 : Int32) : Prop := mm_gr M N (fun _ => False) ∧ mm_k M q = 0 ∧ mm_k M q' = 0 ∧ q ≠ q' ∧ (∀ a, mm_k N a = if a = q' then 103 else if a = q then 6 else mm_k M a) ∧ mm_l N q' = 4 ∧ mm_p N q 4 = some q' ∧ (∀ j, mm_p N q' j = none) ∧ mm_i N q 0 = x0 ∧ mm_i N q 1 = x1 ∧ mm_i N q 2 = x2 ∧ mm_i N q 3 = x3 ∧ mm_i N q 5 = 1 ∧ mm_i N q 6 = -1 ∧ mm_i N q 7 = 0
theorem ct_prInit {q : Nat} {x0 x1 x2 x3 : Int32} (hf : mm_fr M) (hq : q = mm_z M) (h3 : x3 = 0 ∨ x3 = 1) (k : ∀ N q', pr_N M N q q' x0 x1 x2 x3 → K none N) : mm_Ok l G yy_Pr_init Y_Pr_init [.inr (some q), .inl x0, .inl x1, .inl x2, .inl x3] (mm_nw M 6 8) K := by
  have hz : ∀ a, mm_z M ≤ a → mm_k M a = 0 := fun a ha => by
    rcases Nat.eq_zero_or_pos (mm_k M a) with z | z
    · exact z
    · have := hf a (by omega)
      omega
  refine sg_Pr_init (fun q' hq' => ⟨?_, h3, ?_⟩)
  · have : q ≠ mm_z (mm_nw M 6 8) := by rw [mm_z_nw]; omega
    rw [mm_k_nw, if_neg this, mm_k_nw, if_pos hq]
  have hqz : mm_k M q = 0 := hz q (by omega)
  have hqz' : mm_k M q' = 0 := hz q' (by rw [hq', mm_z_nw]; omega)
  have hqq : q ≠ q' := by rw [hq', mm_z_nw]; omega
  have g1 : mm_gr M (mm_nw (mm_nw M 6 8) 103 4) (fun _ => False) := (mm_gr.nw hf).tr (mm_gr.nw (mm_gr.nw (S := fun _ => False) hf).2.1)
  have kk : ∀ a, mm_k (mm_nw (mm_nw M 6 8) 103 4) a = if a = q' then 103 else if a = q then 6 else mm_k M a := by
    intro a
    rw [mm_k_nw, mm_k_nw, ← hq, ← hq']
  have pp : ∀ j, mm_p (mm_nw (mm_nw M 6 8) 103 4) q' j = none := by
    intro j
    rw [mm_p_nw, if_pos hq']
  have ll : mm_l (mm_nw (mm_nw M 6 8) 103 4) q' = 4 := by rw [mm_l_nw, if_pos hq']
  generalize mm_nw (mm_nw M 6 8) 103 4 = N at g1 kk pp ll ⊢
  refine k _ q' ⟨⟨g1.1, g1.2.1, fun a ha hn j => ?_⟩, hqz, hqz', hqq, kk, ll, ?_, fun j => ?_, ?_, ?_, ?_, ?_, ?_, ?_, ?_⟩
  · have haq : a ≠ q := fun z => by rw [z] at ha; exact ha hqz
    have := g1.2.2 a ha hn j
    rw [mm_i_si, if_neg (fun z => haq z.1), mm_i_si, if_neg (fun z => haq z.1), mm_i_si, if_neg (fun z => haq z.1), mm_i_si, if_neg (fun z => haq z.1), mm_i_si, if_neg (fun z => haq z.1), mm_i_si, if_neg (fun z => haq z.1), mm_i_si, if_neg (fun z => haq z.1), mm_i_sp]
    refine ⟨this.1, ?_⟩
    show mm_p (mm_sp N q 4 (some q')) a j = _
    rw [mm_p_sp, if_neg (fun z => haq z.1)]
    exact this.2
  · show mm_p (mm_sp N q 4 (some q')) q 4 = _
    rw [mm_p_sp, if_pos ⟨rfl, rfl⟩]
  · show mm_p (mm_sp N q 4 (some q')) q' j = _
    rw [mm_p_sp, if_neg (fun z => hqq z.1.symm)]
    exact pp j
  · rw [mm_i_si, if_neg (fun z => by cases z.2), mm_i_si, if_neg (fun z => by cases z.2), mm_i_si, if_neg (fun z => by cases z.2), mm_i_si, if_pos ⟨rfl, rfl⟩]
  · rw [mm_i_si, if_neg (fun z => by cases z.2), mm_i_si, if_neg (fun z => by cases z.2), mm_i_si, if_pos ⟨rfl, rfl⟩]
  · rw [mm_i_si, if_neg (fun z => by cases z.2), mm_i_si, if_pos ⟨rfl, rfl⟩]
  · rw [mm_i_si, if_pos ⟨rfl, rfl⟩]
  · rw [mm_i_si, if_neg (fun z => by cases z.2), mm_i_si, if_neg (fun z => by cases z.2), mm_i_si, if_neg (fun z => by cases z.2), mm_i_si, if_neg (fun z => by cases z.2), mm_i_si, if_neg (fun z => by cases z.2), mm_i_si, if_neg (fun z => by cases z.2), mm_i_si, if_pos ⟨rfl, rfl⟩]
  · rw [mm_i_si, if_neg (fun z => by cases z.2), mm_i_si, if_neg (fun z => by cases z.2), mm_i_si, if_neg (fun z => by cases z.2), mm_i_si, if_neg (fun z => by cases z.2), mm_i_si, if_neg (fun z => by cases z.2), mm_i_si, if_pos ⟨rfl, rfl⟩]
  · rw [mm_i_si, if_neg (fun z => by cases z.2), mm_i_si, if_neg (fun z => by cases z.2), mm_i_si, if_neg (fun z => by cases z.2), mm_i_si, if_neg (fun z => by cases z.2), mm_i_si, if_pos ⟨rfl, rfl⟩]
theorem ph_R.spawn {m q q' : Nat} {x1 x2 x3 : Int32} (h : ph_R G c F Mb M D eP eO) (hm : mm_i M (c 0) 5 = nI m) (hm8 : m < 8) (hN : pr_N M N q q' (nI m) x1 x2 x3) : ph_R G c F Mb (mm_si (mm_sp N (c 8) m (some q)) (c 0) 5 (nI m + 1)) (d_sp D m q x1 x2 x3) eP eO := by
  obtain ⟨g1, n0, n1, n2, kN, lN', pN, nN, i0, i1, i2, i3, i5, i6, i7⟩ := hN
  have kar := h.kar
  have k1 := h.2.1.1
  have kah := h.kah
  have hqk : ∀ a, mm_k M a ≠ 0 → a ≠ q ∧ a ≠ q' := fun a ha => ⟨fun z => by rw [z] at ha; exact ha n0, fun z => by rw [z] at ha; exact ha n1⟩
  have kq : mm_k N q = 6 := by rw [kN, if_neg n2, if_pos rfl]
  have kq' : mm_k N q' = 103 := by rw [kN, if_pos rfl]
  have pa : pr_a N q = q' := by unfold pr_a; rw [pN]; rfl
  have hT : ti_T N := h.1.2.1.made g1 (fun _ z => z.elim) (fun a a1 a2 => Or.inl (by rw [kN, if_neg a2, if_neg a1])) n0 n1 kq' nN (Or.inr ⟨kq, ⟨kq, by rw [pa]; exact pN, by rw [pa]; exact kq', by rw [pa]; exact lN'⟩, pa⟩)
  have kc8 : mm_k N (c 8) = 104 := by rw [(g1.1.2.1 (c 8) (by rw [kar]; decide)).1]; exact kar
  have kc0 : mm_k N (c 0) = 1 := by rw [(g1.1.2.1 (c 0) (by rw [k1]; decide)).1]; exact k1
  have hW := ((h.1.grow g1 hT (fun _ z => z.elim)).sp4 (b := c 8) (j := m) (v := some q) kc8 (fun w hw => by cases hw; exact kq)).si (a := c 0) (j := 5) (x := nI m + 1) (by rw [mm_k_sp, kc0]; decide)
  have fi : ∀ a, mm_k M a ≠ 0 → ∀ j, ¬ (a = c 0 ∧ j = 5) → mm_i (mm_si (mm_sp N (c 8) m (some q)) (c 0) 5 (nI m + 1)) a j = mm_i M a j := fun a ha j hj => by
    rw [mm_i_si, if_neg hj, mm_i_sp]
    exact (g1.2.2 a ha id j).1
  have fp : ∀ a, mm_k M a ≠ 0 → ∀ j, ¬ (a = c 8 ∧ j = m) → mm_p (mm_si (mm_sp N (c 8) m (some q)) (c 0) 5 (nI m + 1)) a j = mm_p M a j := fun a ha j hj => by
    rw [mm_p_si, mm_p_sp, if_neg hj]
    exact (g1.2.2 a ha id j).2
  have qi : ∀ j, mm_i (mm_si (mm_sp N (c 8) m (some q)) (c 0) 5 (nI m + 1)) q j = mm_i N q j := fun j => by
    rw [mm_i_si, if_neg (fun z => by have z1 := z.1; rw [z1, kc0] at kq; cases kq), mm_i_sp]
  have qp : ∀ a j, mm_k M a = 0 → mm_p (mm_si (mm_sp N (c 8) m (some q)) (c 0) 5 (nI m + 1)) a j = mm_p N a j := fun a j ha => by
    rw [mm_p_si, mm_p_sp, if_neg (fun z => by rw [z.1, kar] at ha; cases ha)]
  have kk : ∀ a, mm_k (mm_si (mm_sp N (c 8) m (some q)) (c 0) 5 (nI m + 1)) a = if a = q' then 103 else if a = q then 6 else mm_k M a := kN
  have dI : ∀ kk j, (d_sp D m q x1 x2 x3).2.1 kk j = if kk = 6 ∧ j = m then 1 else if kk = 7 ∧ j = m then x1 else if kk = 8 ∧ j = m then x2 else if kk = 9 ∧ j = m then x3 else if kk = 10 ∧ j = m then -1 else if kk = 11 ∧ j = m then 0 else if kk = 12 ∧ j = 0 then nI (m + 1) else D.2.1 kk j := fun _ _ => rfl
  have dn : ∀ kk j, (kk < 6 ∨ kk < 12 ∧ j ≠ m ∨ kk = 12 ∧ j ≠ 0) → (d_sp D m q x1 x2 x3).2.1 kk j = D.2.1 kk j := fun kk j hk => by
    rw [dI, if_neg (fun z => by omega), if_neg (fun z => by omega), if_neg (fun z => by omega), if_neg (fun z => by omega), if_neg (fun z => by omega), if_neg (fun z => by omega), if_neg (fun z => by omega)]
  have dP : ∀ kk j, (d_sp D m q x1 x2 x3).2.2 kk j = if 4 ≤ kk ∧ kk < 8 ∧ j = m then none else if kk = 9 ∧ j = m then some q else D.2.2 kk j := fun _ _ => rfl
  have dpn : ∀ kk j, ¬ (4 ≤ kk ∧ kk < 10 ∧ kk ≠ 8 ∧ j = m) → (d_sp D m q x1 x2 x3).2.2 kk j = D.2.2 kk j := fun kk j hk => by rw [dP, if_neg (fun z => hk ⟨z.1, by omega, by omega, z.2.2⟩), if_neg (fun z => hk ⟨by omega, by omega, by omega, z.2⟩)]
  obtain ⟨f1, f2, f3, f4, f5, f6, f7, f8⟩ := h
  have hT0 := f1.2.1
  refine ⟨hW, f2.keep (fun a ha => ?_) (fun a ha j => fp a (by rcases ha with z | z | z <;> rw [z] <;> decide) j (fun z => by rw [z.1, kar] at ha; rcases ha with w | w | w <;> cases w)), ⟨fun a ha => ?_, fun p hp => ?_⟩, ?_, fun g hg => ?_, fun a ha => ?_, ⟨fun i hi => ?_, ?_⟩, fun a ha => ?_⟩
  · exact g1.1.2.1 a ha
  · rw [kk] at ha
    by_cases w : a = q'
    · rw [if_pos w] at ha
      cases ha
    · rw [if_neg w] at ha
      by_cases w2 : a = q
      · rw [if_pos w2] at ha
        cases ha
      · rw [if_neg w2] at ha
        have ne : mm_k M a ≠ 0 := by rw [ha]; decide
        have e : oo_a (mm_si (mm_sp N (c 8) m (some q)) (c 0) 5 (nI m + 1)) a = oo_a M a := by unfold oo_a; rw [fp a ne 3 (fun z => by rw [z.1, kar] at ha; cases ha)]
        rw [e, fi a ne 4 (fun z => by cases z.2)]
        exact f3.1 a ha
  · rw [kk] at hp
    by_cases w : p = q'
    · rw [if_pos w] at hp
      cases hp
    · rw [if_neg w] at hp
      by_cases w2 : p = q
      · have e : pr_a (mm_si (mm_sp N (c 8) m (some q)) (c 0) 5 (nI m + 1)) p = q' := by
          unfold pr_a
          rw [w2, qp q 4 n0, pN]
          rfl
        rw [e]
        refine ⟨fun z => ?_, fun z => ?_⟩
        · have := f2.2.2.2.2.2.2.2.2.1
          rw [← z, n1] at this
          cases this
        · rw [← z, n1] at kah
          cases kah
      · rw [if_neg w2] at hp
        have e : pr_a (mm_si (mm_sp N (c 8) m (some q)) (c 0) 5 (nI m + 1)) p = pr_a M p := by unfold pr_a; rw [fp p (by rw [hp]; decide) 4 (fun z => by rw [z.1, kar] at hp; cases hp)]
        rw [e]
        exact f3.2 p hp
  · obtain ⟨m', m1, m2, m3, m4, m5, m6⟩ := f4
    have em : m' = m := by
      rw [hm] at m3
      exact ((nI_eq (by omega) (by omega)).mp m3).symm
    subst em
    refine ⟨m' + 1, by omega, by omega, ?_, ?_, fun p z1 z2 => ?_, fun p z1 => ?_⟩
    · rw [mm_i_si, if_pos ⟨rfl, rfl⟩, nI_1]
    · rw [dI, if_neg (fun z => by omega), if_neg (fun z => by omega), if_neg (fun z => by omega), if_neg (fun z => by omega), if_neg (fun z => by omega), if_neg (fun z => by omega), if_pos ⟨rfl, rfl⟩]
    · rw [fp _ (by rw [kar]; decide) p (fun z => by omega), dn 6 p (Or.inr (Or.inl ⟨by omega, by omega⟩))]
      exact m5 p (by omega) z2
    · by_cases w : p = m'
      · subst w
        refine ⟨q, by rw [mm_p_si, mm_p_sp, if_pos ⟨rfl, rfl⟩], ?_⟩
        unfold ph_Q
        rw [qi, qi, qi, qi, qi, qi, qi, i0, i1, i2, i3, i5, i6, i7]
        refine ⟨rfl, ?_, ?_, ?_, ?_, ?_, ?_, fun r hr => ?_, by rw [dP, if_neg (fun z => by omega), if_pos ⟨rfl, rfl⟩]⟩
        · rw [dI, if_pos ⟨rfl, rfl⟩]
        · rw [dI, if_neg (fun z => by omega), if_pos ⟨rfl, rfl⟩]
        · rw [dI, if_neg (fun z => by omega), if_neg (fun z => by omega), if_pos ⟨rfl, rfl⟩]
        · rw [dI, if_neg (fun z => by omega), if_neg (fun z => by omega), if_neg (fun z => by omega), if_pos ⟨rfl, rfl⟩]
        · rw [dI, if_neg (fun z => by omega), if_neg (fun z => by omega), if_neg (fun z => by omega), if_neg (fun z => by omega), if_pos ⟨rfl, rfl⟩]
        · rw [dI, if_neg (fun z => by omega), if_neg (fun z => by omega), if_neg (fun z => by omega), if_neg (fun z => by omega), if_neg (fun z => by omega), if_pos ⟨rfl, rfl⟩]
        · have e : pr_a (mm_si (mm_sp N (c 8) p (some q)) (c 0) 5 (nI p + 1)) q = q' := by
            unfold pr_a
            rw [qp q 4 n0, pN]
            rfl
          unfold pr_r
          rw [e, qp q' r n1, nN]
          rw [dP, if_pos ⟨by omega, by omega, rfl⟩]
      · obtain ⟨u, q1, w1, w2, w3, w4, w5, w6, w7, w8, w9⟩ := m6 p (by omega)
        have hu6 := hT0.2.2.2.1 (c 8) p u kar q1
        have ne : mm_k M u ≠ 0 := by rw [hu6]; decide
        have ei : ∀ j, mm_i (mm_si (mm_sp N (c 8) m' (some q)) (c 0) 5 (nI m' + 1)) u j = mm_i M u j := fun j => fi u ne j (fun z => by rw [z.1, k1] at hu6; cases hu6)
        have kpa := (hT0.2.1 u hu6).2.2.1
        refine ⟨u, by rw [fp _ (by rw [kar]; decide) p (fun z => w z.2)]; exact q1, ?_⟩
        unfold ph_Q
        rw [ei, ei, ei, ei, ei, ei, ei, dn 6 p (Or.inr (Or.inl ⟨by omega, w⟩)), dn 7 p (Or.inr (Or.inl ⟨by omega, w⟩)), dn 8 p (Or.inr (Or.inl ⟨by omega, w⟩)), dn 9 p (Or.inr (Or.inl ⟨by omega, w⟩)), dn 10 p (Or.inr (Or.inl ⟨by omega, w⟩)), dn 11 p (Or.inr (Or.inl ⟨by omega, w⟩))]
        refine ⟨w1, w2, w3, w4, w5, w6, w7, fun r hr => ?_, by rw [dpn 9 p (fun z => w z.2.2.2)]; exact w9⟩
        have e : pr_a (mm_si (mm_sp N (c 8) m' (some q)) (c 0) 5 (nI m' + 1)) u = pr_a M u := by unfold pr_a; rw [fp u ne 4 (fun z => by rw [z.1, kar] at hu6; cases hu6)]
        unfold pr_r
        rw [e, fp _ (by rw [kpa]; decide) r (fun z => by rw [z.1, kar] at kpa; cases kpa), dpn (4 + r) p (fun z => w z.2.2.2)]
        exact w8 r hr
  · have n7 := f1.2.2.2.2.2.2.2.2.2.1 g hg
    have ei : ∀ j, mm_i (mm_si (mm_sp N (c 8) m (some q)) (c 0) 5 (nI m + 1)) g j = mm_i M g j := fun j => fi g (by rw [n7]; decide) j (fun z => by rw [z.1, k1] at n7; cases n7)
    rw [ei, ei, ei, dn 0 g (Or.inl (by omega)), dn 1 g (Or.inl (by omega)), dn 2 g (Or.inl (by omega))]
    exact f5 g hg
  · have n8 := f1.2.2.2.2.2.2.2.2.2.2.1 a ha
    have ne : mm_k M a ≠ 0 := by rw [n8]; decide
    have z := f6 a ha
    have ei : ∀ j, mm_i (mm_si (mm_sp N (c 8) m (some q)) (c 0) 5 (nI m + 1)) a j = mm_i M a j := fun j => fi a ne j (fun z => by rw [z.1, k1] at n8; cases n8)
    have ep : ∀ j, mm_p (mm_si (mm_sp N (c 8) m (some q)) (c 0) 5 (nI m + 1)) a j = mm_p M a j := fun j => fp a ne j (fun z => by rw [z.1, kar] at n8; cases n8)
    have eg : oo_g (mm_si (mm_sp N (c 8) m (some q)) (c 0) 5 (nI m + 1)) a = oo_g M a := by unfold oo_g; rw [ep]
    have ea : oo_a (mm_si (mm_sp N (c 8) m (some q)) (c 0) 5 (nI m + 1)) a = oo_a M a := by unfold oo_a; rw [ep]
    have kaa := (hT0.1 a n8).2.2.2.2.1
    rw [eg, ei, ei, ei, dn 3 a (Or.inl (by omega)), dn 4 a (Or.inl (by omega)), dn 5 a (Or.inl (by omega)), dpn 0 a (by omega)]
    refine ⟨z.1, z.2.1, z.2.2.1, z.2.2.2.1, fun f hf => ?_⟩
    unfold oo_f
    rw [ea, fp _ (by rw [kaa]; decide) f (fun z => by rw [z.1, kar] at kaa; cases kaa), dpn (1 + f) a (by omega)]
    exact z.2.2.2.2 f hf
  · rw [fp _ (by rw [kah]; decide) i (fun z => by rw [z.1, kar] at kah; cases kah), dpn 8 i (by omega)]
    exact f7.1 i hi
  · rw [fi _ (by rw [k1]; decide) 6 (fun z => by cases z.2), dn 12 1 (Or.inr (Or.inr ⟨rfl, by decide⟩))]
    exact f7.2
  · obtain ⟨z1, z2, z3, z4, z5⟩ := f8 a ha
    have ne : mm_k M a ≠ 0 := by rcases z1 with z | z | z | z <;> rw [z] <;> decide
    have hk := g1.1.2.1 a ne
    have e1 : mm_k (mm_si (mm_sp N (c 8) m (some q)) (c 0) 5 (nI m + 1)) a = mm_k M a := hk.1
    have e2 : mm_l (mm_si (mm_sp N (c 8) m (some q)) (c 0) 5 (nI m + 1)) a = mm_l M a := hk.2
    rw [e1, e2]
    refine ⟨z1, z2, z3, z4, fun j => ⟨?_, ?_⟩⟩
    · rw [fi a ne j (fun z => by rw [z.1, k1] at z1; rcases z1 with w | w | w | w <;> cases w)]
      exact (z5 j).1
    · rw [fp a ne j (fun z => by rw [z.1, kar] at z1; rcases z1 with w | w | w | w <;> cases w)]
      exact (z5 j).2
end QE
