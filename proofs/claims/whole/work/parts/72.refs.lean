/-! THE CLASS AS A WHOLE: registers, fields, heads -/
section PZ
variable {l : Launch} {G : mm_G} {K : Option mm_V → mm_M → Prop} {M M1 Mb : mm_M} {c : Nat → Nat} {F : Nat → Prop} {D D1 : ph_D} {eP eO eP1 eO1 am LP LO : Nat} {gs xs : List Nat}
theorem ti_T.sp {b j : Nat} {v : Option Nat} (h : ti_T M) (hb : mm_k M b = 103) (hv : ∀ w, v = some w → mm_k M w = 8) : ti_T (mm_sp M b j v) := by
  have n : ∀ a, mm_k M a ≠ 103 → ∀ i, mm_p (mm_sp M b j v) a i = mm_p M a i := fun a ha i => by rw [mm_p_sp, if_neg (fun z => ha (by rw [z.1]; exact hb))]
  have ea : ∀ a, mm_k M a = 8 → oo_a (mm_sp M b j v) a = oo_a M a := fun a ha => by unfold oo_a; rw [n a (by rw [ha]; decide)]
  have eg : ∀ a, mm_k M a = 8 → oo_g (mm_sp M b j v) a = oo_g M a := fun a ha => by unfold oo_g; rw [n a (by rw [ha]; decide)]
  have er : ∀ a, mm_k M a = 6 → pr_a (mm_sp M b j v) a = pr_a M a := fun a ha => by unfold pr_a; rw [n a (by rw [ha]; decide)]
  obtain ⟨h1, h2, h3, h4, h5, h6, h7⟩ := h
  refine ⟨fun a ha => ?_, fun q hq => ?_, fun f i w hf hw => ?_, fun f i w hf hw => ?_, fun a b' ha hb' e => ?_, fun p q hp hq e => ?_, fun a q ha hq => ?_⟩
  · have ha' : mm_k M a = 8 := ha
    unfold ti_O
    rw [eg a ha', ea a ha', n a (by rw [ha']; decide), n a (by rw [ha']; decide)]
    exact h1 a ha'
  · have hq' : mm_k M q = 6 := hq
    unfold ti_P
    rw [er q hq', n q (by rw [hq']; decide)]
    exact h2 q hq'
  · rw [mm_p_sp] at hw
    by_cases z : f = b ∧ i = j
    · rw [if_pos z] at hw
      exact hv w hw
    · rw [if_neg z] at hw
      exact h3 f i w hf hw
  · have hf' : mm_k M f = 104 := hf
    rw [n f (by rw [hf']; decide)] at hw
    exact h4 f i w hf hw
  · rw [ea a ha, ea b' hb'] at e
    exact h5 a b' ha hb' e
  · rw [er p hp, er q hq] at e
    exact h6 p q hp hq e
  · rw [ea a ha, er q hq]
    exact h7 a q ha hq
theorem me_W.sp {b j : Nat} {v : Option Nat} (h : me_W G M am LP LO eP eO gs xs) (hb : mm_k M b = 103) (hv : ∀ w, v = some w → mm_k M w = 8) : me_W G (mm_sp M b j v) am LP LO eP eO gs xs := by
  have n : ∀ a, mm_k M a ≠ 103 → ∀ i, mm_p (mm_sp M b j v) a i = mm_p M a i := fun a ha i => by rw [mm_p_sp, if_neg (fun z => ha (by rw [z.1]; exact hb))]
  have nL : ∀ {L e : Nat} {es : List Nat}, al_L G M L e es → al_L G (mm_sp M b j v) L e es := by
    intro L e es hL
    refine ⟨hL.1, by rw [n L (by rw [hL.1]; decide)]; exact hL.2.1, hL.2.2.1, hL.2.2.2.1, fun i w hi => ?_⟩
    rw [n e (by rcases hL.kind with z | z <;> rw [z] <;> decide)]
    exact hL.2.2.2.2 i w hi
  obtain ⟨f1, f2, f3, f4, f5, f6, f7, f8, f9, f10, f11, f12, f13⟩ := h
  exact ⟨f1, f2.sp hb hv, f3, by rw [n am (by rw [f3]; decide)]; exact f4, by rw [n am (by rw [f3]; decide)]; exact f5, nL f6, nL f7, f8, f9, f10, f11, f12, f13⟩
theorem ph_R.sp {b j : Nat} {v : Option Nat} (h : ph_R G c F Mb M D eP eO) (hb : mm_k M b = 103) (hv : ∀ w, v = some w → mm_k M w = 8) (e1 : D1.1 = D.1) (e2 : D1.2.1 = D.2.1)
    (hr : ∀ p q r, p < 8 → mm_p M (c 8) p = some q → r < 4 → mm_p (mm_sp M b j v) (pr_a M q) r = D1.2.2 (4 + r) p) (h0 : ∀ a, D1.2.2 0 a = D.2.2 0 a) (h9 : ∀ a, D1.2.2 9 a = D.2.2 9 a) (hf : ∀ a f, a ∈ D.1.2 → f < 3 → mm_p (mm_sp M b j v) (oo_a M a) f = D1.2.2 (1 + f) a) (hh : ∀ i, i < 13 → mm_p (mm_sp M b j v) (c 9) i = D1.2.2 8 i) : ph_R G c F Mb (mm_sp M b j v) D1 eP eO := by
  have n : ∀ a, mm_k M a ≠ 103 → ∀ i, mm_p (mm_sp M b j v) a i = mm_p M a i := fun a ha i => by rw [mm_p_sp, if_neg (fun z => ha (by rw [z.1]; exact hb))]
  have kar := h.kar
  obtain ⟨f1, f2, f3, f4, f5, f6, f7, f8⟩ := h
  have ea : ∀ a, mm_k M a = 8 → oo_a (mm_sp M b j v) a = oo_a M a := fun a ha => by unfold oo_a; rw [n a (by rw [ha]; decide)]
  have eg : ∀ a, mm_k M a = 8 → oo_g (mm_sp M b j v) a = oo_g M a := fun a ha => by unfold oo_g; rw [n a (by rw [ha]; decide)]
  have er : ∀ a, mm_k M a = 6 → pr_a (mm_sp M b j v) a = pr_a M a := fun a ha => by unfold pr_a; rw [n a (by rw [ha]; decide)]
  refine ⟨by rw [e1]; exact f1.sp hb hv, f2.keep (fun _ _ => ⟨rfl, rfl⟩) (fun a ha => n a (by rcases ha with z | z | z <;> rw [z] <;> decide)), ⟨fun a ha => ?_, fun q hq => ?_⟩, ?_, fun g hg => ?_, fun a ha => ?_, ⟨hh, by rw [e2]; exact f7.2⟩, fun a ha => ?_⟩
  · rw [ea a ha]
    exact f3.1 a ha
  · rw [er q hq]
    exact f3.2 q hq
  · obtain ⟨m, m1, m2, m3, m4, m5, m6⟩ := f4
    refine ⟨m, m1, m2, m3, by rw [e2]; exact m4, fun p z1 z2 => ?_, fun p z1 => ?_⟩
    · rw [n _ (by rw [kar]; decide), e2]
      exact m5 p z1 z2
    · obtain ⟨q, q1, w1, w2, w3, w4, w5, w6, w7, w8, w9⟩ := m6 p z1
      have hq6 := f1.2.1.2.2.2.1 (c 8) p q kar q1
      refine ⟨q, by rw [n _ (by rw [kar]; decide)]; exact q1, ?_⟩
      unfold ph_Q
      rw [e2]
      refine ⟨w1, w2, w3, w4, w5, w6, w7, fun r hr4 => ?_, by rw [h9]; exact w9⟩
      unfold pr_r
      rw [er q hq6]
      exact hr p q r (by omega) q1 hr4
  · rw [e2]
    rw [e1] at hg
    exact f5 g hg
  · rw [e1] at ha
    have ha8 := f1.2.2.2.2.2.2.2.2.2.2.1 a ha
    have z := f6 a ha
    rw [e2, h0, eg a ha8]
    refine ⟨z.1, z.2.1, z.2.2.1, z.2.2.2.1, fun f hf3 => ?_⟩
    unfold oo_f
    rw [ea a ha8]
    exact hf a f ha hf3
  · obtain ⟨z1, z2, z3, z4, z5⟩ := f8 a ha
    refine ⟨z1, z2, z3, z4, fun i => ⟨(z5 i).1, ?_⟩⟩
    rw [n a (by rcases z1 with z | z | z | z <;> rw [z] <;> decide)]
    exact (z5 i).2
/-- a register is written -/
theorem ph_R.reg {p q r : Nat} {v : Option Nat} (h : ph_R G c F Mb M D eP eO) (hp : p < 8) (hq : mm_p M (c 8) p = some q) (hr : r < 4) (hv : ∀ w, v = some w → mm_k M w = 8) : ph_R G c F Mb (mm_sp M (pr_a M q) r v) (dp D (4 + r) p v) eP eO := by
  obtain ⟨h6, hQ⟩ := h.prs hp hq
  have hT := h.1.2.1
  refine h.sp (hT.2.1 q h6).2.2.1 hv rfl rfl (fun p' q' r' hp' hq' hr' => ?_) (fun a => dp_n (by omega)) (fun a => dp_n (by omega)) (fun a f ha hf => ?_) (fun i hi => ?_)
  · obtain ⟨h6', hQ'⟩ := h.prs hp' hq'
    rw [mm_p_sp, dp_p]
    have e : mm_p M (pr_a M q') r' = D.2.2 (4 + r') p' := hQ'.2.2.2.2.2.2.2.1 r' hr'
    by_cases w : p' = p
    · subst w
      rw [hq] at hq'
      have e2 : q = q' := Option.some.inj hq'
      subst e2
      by_cases u : r' = r
      · rw [if_pos ⟨rfl, u⟩, if_pos ⟨by omega, rfl⟩]
      · rw [if_neg (fun z => u z.2), if_neg (fun z => u (by omega))]
        exact e
    · have hne : ¬ pr_a M q' = pr_a M q := fun z => by
        have z2 := hT.2.2.2.2.2.1 q' q h6' h6 z
        rw [z2] at hq'
        exact w (h.inj hp' hp hq' hq)
      rw [if_neg (fun z => hne z.1), if_neg (fun z => w z.2)]
      exact e
  · have ha8 := h.1.2.2.2.2.2.2.2.2.2.2.1 a ha
    rw [mm_p_sp, if_neg (fun z => hT.2.2.2.2.2.2 a q ha8 h6 z.1), dp_n (by omega)]
    exact (h.2.2.2.2.2.1 a ha).2.2.2.2 f hf
  · rw [mm_p_sp, if_neg (fun z => (h.2.2.1.2 q h6).2 z.1.symm), dp_n (by omega)]
    exact h.2.2.2.2.2.2.1.1 i hi
/-- a field is written -/
theorem ph_R.fld {a f : Nat} {v : Option Nat} (h : ph_R G c F Mb M D eP eO) (ha : a ∈ D.1.2) (hf : f < 3) (hv : ∀ w, v = some w → mm_k M w = 8) : ph_R G c F Mb (mm_sp M (oo_a M a) f v) (dp D (1 + f) a v) eP eO := by
  have hT := h.1.2.1
  have ha8 := h.1.2.2.2.2.2.2.2.2.2.2.1 a ha
  refine h.sp (hT.1 a ha8).2.2.2.2.1 hv rfl rfl (fun p' q' r' hp' hq' hr' => ?_) (fun b => dp_n (by omega)) (fun b => dp_n (by omega)) (fun b f' hb hf' => ?_) (fun i hi => ?_)
  · obtain ⟨h6', hQ'⟩ := h.prs hp' hq'
    rw [mm_p_sp, if_neg (fun z => hT.2.2.2.2.2.2 a q' ha8 h6' z.1.symm), dp_n (by omega)]
    exact hQ'.2.2.2.2.2.2.2.1 r' hr'
  · have hb8 := h.1.2.2.2.2.2.2.2.2.2.2.1 b hb
    have e : mm_p M (oo_a M b) f' = D.2.2 (1 + f') b := (h.2.2.2.2.2.1 b hb).2.2.2.2 f' hf'
    rw [mm_p_sp, dp_p]
    by_cases w : b = a
    · subst w
      by_cases u : f' = f
      · rw [if_pos ⟨rfl, u⟩, if_pos ⟨by omega, rfl⟩]
      · rw [if_neg (fun z => u z.2), if_neg (fun z => u (by omega))]
        exact e
    · rw [if_neg (fun z => w (hT.2.2.2.2.1 b a hb8 ha8 z.1)), if_neg (fun z => w z.2)]
      exact e
  · rw [mm_p_sp, if_neg (fun z => (h.2.2.1.1 a ha8).2.1 z.1.symm), dp_n (by omega)]
    exact h.2.2.2.2.2.2.1.1 i hi
/-- a head is written -/
theorem ph_R.hd {i : Nat} {v : Option Nat} (h : ph_R G c F Mb M D eP eO) (hv : ∀ w, v = some w → mm_k M w = 8) : ph_R G c F Mb (mm_sp M (c 9) i v) (dp D 8 i v) eP eO := by
  refine h.sp h.kah hv rfl rfl (fun p' q' r' hp' hq' hr' => ?_) (fun b => dp_n (by omega)) (fun b => dp_n (by omega)) (fun b f' hb hf' => ?_) (fun i' hi => ?_)
  · obtain ⟨h6', hQ'⟩ := h.prs hp' hq'
    rw [mm_p_sp, if_neg (fun z => (h.2.2.1.2 q' h6').2 z.1), dp_n (by omega)]
    exact hQ'.2.2.2.2.2.2.2.1 r' hr'
  · have hb8 := h.1.2.2.2.2.2.2.2.2.2.2.1 b hb
    rw [mm_p_sp, if_neg (fun z => (h.2.2.1.1 b hb8).2.1 z.1), dp_n (by omega)]
    exact (h.2.2.2.2.2.1 b hb).2.2.2.2 f' hf'
  · rw [mm_p_sp, dp_p, h.2.2.2.2.2.2.1.1 i' hi]
    by_cases w : i' = i
    · rw [if_pos ⟨rfl, w⟩, if_pos ⟨rfl, w⟩]
    · rw [if_neg (fun z => w z.2), if_neg (fun z => w z.2)]
end PZ
