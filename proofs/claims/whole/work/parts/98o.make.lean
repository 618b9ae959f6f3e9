/-! THE REFERENCE: make -/
def rbk (b : rB) (p : Nat) : Nat → Nat
  | 0 => p
  | k + 1 => if b 15 k = 1 ∧ b 16 k = p then 9 + k else rbk b p k
/-- the heap in which p makes objects; who pays there; what is collected -/
def rhm (b : rB) (p : Nat) : Nat := if 2 ≤ b 0 p then 8 else rbk b p 4
def rnm (b : rB) (p : Nat) : Nat := if 2 ≤ b 0 p then 0 else p
def rcn (b : rB) (p : Nat) : Nat := if 2 ≤ b 0 p then 8 else p
def zfd (b : rB) (x n : Nat) : rB := fun q j => if q = 10 ∧ 3 * x ≤ j ∧ j < 3 * x + n then 0 else b q j
def rnw (b : rB) (x p r h s g : Nat) : rB := bu (zfd (bu (bu (bu b 6 x (h + 1)) 7 x s) 9 x g) x 3) 5 (4 * p + r) (x + 1)
def lu (L : Nat → Int32) (x : Nat) (t : Int32) : Nat → Int32 := fun j => if j = x then t else L j
def rma (b : rB) (x y z : Int32) (p r s : Nat) : Prop := (p < 8 ∧ lv b p) ∧ r < 4 ∧ 1 ≤ s ∧ s ≤ 16 ∧ x = nI p ∧ y = nI r ∧ z = nI s
/-- a page g is found, c comes of it; none is found -/
def fnd (b : rB) (h n s : Nat) (c : rB) (g : Nat) : Prop := (mnP b (ftP b h s) 24 = some g ∧ c = b) ∨ (mnP b (ftP b h s) 24 = none ∧ ∃ U T, (∀ j, T j ≤ 1) ∧ (∀ n, n < 8 → wkE b U T n) ∧ 1 ≤ rsn b U n ∧ g < 24 ∧ b 11 g = 0 ∧ (∀ q, q < g → 0 < b 11 q) ∧ c = npg (bw b U T) g h n)
def nof (b : rB) (h n s : Nat) (c : rB) : Prop := mnP b (ftP b h s) 24 = none ∧ ∃ U T, (∀ j, T j ≤ 1) ∧ (∀ n, n < 8 → wkE b U T n) ∧ ¬ 1 ≤ rsn b U n ∧ c = bw b U T
def hfp (b : rB) (h n s : Nat) : Prop := ∀ U T, mnP b (ftP b h s) 24 = none → (∀ n, n < 8 → wkE b U T n) → 1 ≤ rsn b U n → ∃ g, g < 24 ∧ b 11 g = 0
theorem ra_L (L : Nat → Int32) (b : rB) (x : Nat) (t : Int32) : mo_u (ra L b) 8 x t = ra (lu L x t) b := by
  funext q i
  unfold mo_u ra lu
  by_cases h : q = 8
  · by_cases e : i = x
    · rw [if_pos ⟨h, e⟩, if_pos h, if_pos e]
    · rw [if_neg (fun u => e u.2), if_pos h, if_pos h, if_neg e]
  · rw [if_neg (fun u => h u.1), if_neg h, if_neg h]
theorem rbk_le (b : rB) (p : Nat) (hp : p < 8) (k : Nat) (hk : k ≤ 4) : rbk b p k < 13 := by
  induction k with
  | zero => exact (show p < 13 by omega)
  | succ k ih =>
    show (if b 15 k = 1 ∧ b 16 k = p then 9 + k else rbk b p k) < 13
    split
    · omega
    · exact ih (by omega)
theorem rhm_lt (b : rB) (p : Nat) (hp : p < 8) : rhm b p < 13 := by
  unfold rhm
  split
  · omega
  · exact rbk_le b p hp 4 (by omega)
theorem rb_fnd {N : Nat} {b c : rB} {h n s g : Nat} (hb : rb N b) (hN : N + 1 < 1000000000) (hh : h < 13) (hn : n < 8) (hf : fnd b h n s c g) : rb (N + 1) c ∧ g < 24 := by
  rcases hf with ⟨h1, h2⟩ | ⟨h1, U, T, h2, h3, h4, h5, h6, h7, h8⟩
  · rw [h2]
    exact ⟨hb.up (Nat.le_succ N) hN, (mnP_some h1).1⟩
  · rw [h8]
    exact ⟨rb_npg (rb_bw hb h2) hN hh hn, h5⟩
section RO
variable {l : Launch} {G : mm_G} {K : Option mm_V → mo_A → Prop} {a0 : Nat} {ad : Nat → Nat} {Mb : mm_M} {L : Nat → Int32} {b : rB} {N h t p r k n s g : Nat} {x y z w : Int32}
theorem cr_mk277 {y6 y8 : Int32} {c : rB} {q : Nat} (hq : q < 60) (hp : p < 8) (hr : r < 4) (kk : K (some (.inl 0)) (ra L (bu (zfd c q 3) 5 (4 * p + r) (q + 1)))) :
    mo_Z l G Y_Mo_make K a0 ad Mb 277 [some (.inr (some a0)), some (.inl (nI p)), some (.inl (nI r)), some (.inl z), some (.inl w), some (.inl (nI q)), some (.inl y6), some (.inl (nI h)), some (.inl y8), some (.inl (nI g)), some (.inl 0)] [] (ra L c) := by
  have e0 : c = zfd c q 0 := by
    funext k j
    exact (if_neg (fun u => by omega)).symm
  rw [e0]
  refine up_ind (P := fun i => mo_Z l G Y_Mo_make K a0 ad Mb 277 [some (.inr (some a0)), some (.inl (nI p)), some (.inl (nI r)), some (.inl z), some (.inl w), some (.inl (nI q)), some (.inl y6), some (.inl (nI h)), some (.inl y8), some (.inl (nI g)), some (.inl (nI i))] [] (ra L (zfd c q i))) 3 (mg_make_277 ⟨fun _ => ⟨4 * p + r, ixN 4 p r, by omega, ?_⟩, fun hc => absurd (nleN 3 3 hc) (by omega)⟩) (fun i hi ih => ?_) 0 (by omega)
  · rw [nI_1, ra_u _ (by decide)]
    exact kk
  · refine mg_make_277 ⟨fun hc => absurd (leN 3 i hc) (by omega), fun _ => ⟨3 * q + i, ixN 3 q i, by omega, ?_⟩⟩
    have e2 : bu (zfd c q i) 10 (3 * q + i) 0 = zfd c q (i + 1) := by
      funext k j
      unfold bu zfd
      by_cases h1 : k = 10 ∧ j = 3 * q + i
      · rw [if_pos h1, if_pos ⟨h1.1, by omega, by omega⟩]
      · rw [if_neg h1]
        by_cases h2 : k = 10 ∧ 3 * q ≤ j ∧ j < 3 * q + i
        · rw [if_pos h2, if_pos ⟨h2.1, h2.2.1, by omega⟩]
        · rw [if_neg h2, if_neg (fun u => h2 ⟨u.1, u.2.1, by
            have := u.1
            have := u.2.2
            omega⟩)]
    rw [show mo_u (ra L (zfd c q i)) 10 (3 * q + i) 0 = _ from ra_u 0 (by decide), e2, nI_1]
    exact ih
theorem cr_mk214 {y6 y8 : Int32} {c : rB} (hc : rb N c) (hp : p < 8) (hr : r < 4) (hex : ∃ q, q < 60 ∧ c 6 q = 0) (kk : ∀ q, q < 60 → c 6 q = 0 → (∀ i, i < q → 0 < c 6 i) → K (some (.inl 0)) (ra (lu L q w) (rnw c q p r h s g))) :
    mo_Z l G Y_Mo_make K a0 ad Mb 214 [some (.inr (some a0)), some (.inl (nI p)), some (.inl (nI r)), some (.inl (nI s)), some (.inl w), some (.inl 0), some (.inl y6), some (.inl (nI h)), some (.inl y8), some (.inl (nI g)), none] [] (ra L c) := by
  obtain ⟨q0, hq0, hz0⟩ := hex
  have fin : ∀ q, q < 60 → c 6 q = 0 → (∀ i, i < q → 0 < c 6 i) → mo_Z l G Y_Mo_make K a0 ad Mb 277 [some (.inr (some a0)), some (.inl (nI p)), some (.inl (nI r)), some (.inl (nI s)), some (.inl w), some (.inl (nI q)), some (.inl y6), some (.inl (nI h)), some (.inl y8), some (.inl (nI g)), some (.inl 0)] [] (mo_u (mo_u (mo_u (mo_u (ra L c) 6 q (nI h + 1)) 7 q (nI s)) 8 q w) 9 q (nI g)) := by
    intro q h1 h2 h3
    rw [nI_1, ra_u _ (by decide), ra_u _ (by decide), ra_L, ra_u _ (by decide)]
    exact cr_mk277 h1 hp hr (kk q h1 h2 h3)
  refine up_ind (P := fun i => (∀ j, j < i → 0 < c 6 j) → mo_Z l G Y_Mo_make K a0 ad Mb 214 [some (.inr (some a0)), some (.inl (nI p)), some (.inl (nI r)), some (.inl (nI s)), some (.inl w), some (.inl (nI i)), some (.inl y6), some (.inl (nI h)), some (.inl y8), some (.inl (nI g)), none] [] (ra L c)) q0 (fun hi => mg_make_214 ⟨fun _ => ⟨q0, rfl, hq0, fin q0 hq0 hz0 hi⟩, fun _ => ⟨q0, rfl, hq0, fun _ => fin q0 hq0 hz0 hi, fun e => ?_⟩⟩) (fun i hi ih hj => ?_) 0 (Nat.zero_le _) (fun j hj => by omega)
  · exact absurd (show nI (c 6 q0) ≤ nI 0 by rw [hz0]; decide) e
  · have h6 : c 6 i ≤ 13 := hc.2 6 i (by decide)
    refine mg_make_214 ⟨fun e => absurd (leN 59 i e) (by omega), fun _ => ⟨i, rfl, by omega, fun e => fin i (by omega) (by have := leN (c 6 i) 0 e; omega) hj, fun e => ?_⟩⟩
    rw [nI_1]
    refine ih (fun j h1 => ?_)
    by_cases e2 : j = i
    · rw [e2]
      exact nleN (c 6 i) 0 e
    · exact hj j (by omega)
theorem cq_make (hb : rb N b) (hN : N + 1 < 1000000000) (k0 : (∀ p r s, ¬ rma b x y z p r s) → K (some (.inl (-1))) (ra L b)) (k1 : ∀ p r s, rma b x y z p r s → (∀ q, q < 60 → 0 < b 6 q) → K (some (.inl (-4))) (ra L b))
    (k2 : ∀ p r s, rma b x y z p r s → (∃ q, q < 60 ∧ b 6 q = 0) → hfp b (rhm b p) (rnm b p) s ∧ (∀ c g q, fnd b (rhm b p) (rnm b p) s c g → q < 60 → c 6 q = 0 → (∀ i, i < q → 0 < c 6 i) → K (some (.inl 0)) (ra (lu L q w) (rnw c q p r (rhm b p) s g))) ∧
      ∀ c m, nof b (rhm b p) (rnm b p) s c → rmk c (rcn b p) m → (∃ q, q < 60 ∧ swp c (rcn b p) m 6 q = 0) ∧ hfp (swp c (rcn b p) m) (rhm b p) (rnm b p) s ∧ (∀ e, nof (swp c (rcn b p) m) (rhm b p) (rnm b p) s e → K (some (.inl (-5))) (ra L e)) ∧
        ∀ e g q, fnd (swp c (rcn b p) m) (rhm b p) (rnm b p) s e g → q < 60 → e 6 q = 0 → (∀ i, i < q → 0 < e 6 i) → K (some (.inl 0)) (ra (lu L q w) (rnw e q p r (rhm b p) s g))) : mo_Ok l G yy_Mo_make Y_Mo_make [.inr (some a0), .inl x, .inl y, .inl z, .inl w] a0 ad Mb (ra L b) K := by
  refine mg_make (cr_lives hb (fun h => ⟨rfl, _, rfl, fun _ => k0 (fun p r s e => h p e.1.1 e.2.2.2.2.1 e.1.2), fun u => absurd rfl u⟩) (fun p hp e hl => ⟨rfl, _, rfl, fun u => absurd u (by decide), fun _ => ?_⟩))
  refine cr_isRegister (fun h => ⟨rfl, _, rfl, fun _ => k0 (fun p r s e => h r e.2.1 e.2.2.2.2.2.1), fun u => absurd rfl u⟩) (fun r hr e2 => ⟨rfl, _, rfl, fun u => absurd u (by decide), fun _ => ⟨fun e3 => k0 (fun p r s e => ?_), fun e3 => ⟨fun e4 => ?_, fun e4 => k0 (fun p r s e => ?_)⟩⟩⟩)
  · rw [e.2.2.2.2.2.2] at e3
    have := ltN s 1 e3 (by have := e.2.2.2.1; omega)
    have := e.2.2.1
    omega
  · obtain ⟨s, hs, ez⟩ := nI_of (x := z) (fun u => e3 (Int32.lt_trans u (by decide)))
    have hs1 : 1 ≤ s := nltN s 1 (by rw [← ez]; exact e3)
    have hs2 : s ≤ 16 := leN s 16 (by rw [← ez]; exact e4)
    have hR : rma b x y z p r s := ⟨⟨hp, hl⟩, hr, hs1, hs2, e, e2, ez⟩
    have k1' := k1 p r s hR
    have k2' := k2 p r s hR
    subst e
    subst e2
    subst ez
    clear k0 k1 k2
    have h0 : b 0 p ≤ 4 := hb.2 0 p (by decide)
    have hh := rhm_lt b p hp
    have hn : rnm b p < 8 := by
      unfold rnm
      split <;> omega
    have tail : ∀ (y5 y6 : Int32) (v : Nat), (∃ q, q < 60 ∧ b 6 q = 0) → ((y6 = 0 ∧ ¬ 2 ≤ b 0 p ∧ v = p) ∨ (y6 = 1 ∧ 2 ≤ b 0 p ∧ v = 8)) → mo_Z l G Y_Mo_make K a0 ad Mb 97 [some (.inr (some a0)), some (.inl (nI p)), some (.inl (nI r)), some (.inl (nI s)), some (.inl w), some (.inl y5), some (.inl y6), some (.inl (nI v)), some (.inl 0), none, none] [] (ra L b) := by
      intro y5 y6 v hex hv
      obtain ⟨f1, f2, f3⟩ := k2' hex
      have fin : ∀ y8 : Int32, mo_Ok l G yy_Mo_find Y_Mo_find [.inr (some a0), .inl (nI (rhm b p)), .inl (nI (rnm b p)), .inl (nI s)] a0 ad Mb (ra L b) (fun r0 A1 => ∃ x2 : Int32, r0 = some (.inl x2) ∧ (0 ≤ x2 → (0 ≤ x2 → mo_Z l G Y_Mo_make K a0 ad Mb 214 [some (.inr (some a0)), some (.inl (nI p)), some (.inl (nI r)), some (.inl (nI s)), some (.inl w), some (.inl 0), some (.inl y6), some (.inl (nI (rhm b p))), some (.inl y8), some (.inl x2), none] [] A1) ∧ (¬ 0 ≤ x2 → K (some (.inl (-5))) A1)) ∧ (¬ 0 ≤ x2 → mo_Ok l G yy_Mo_sweep Y_Mo_sweep [.inr (some a0), .inl (nI (rcn b p))] a0 ad Mb A1 (fun r0 A3 => ∃ x4 : Int32, r0 = some (.inl x4) ∧ mo_Ok l G yy_Mo_find Y_Mo_find [.inr (some a0), .inl (nI (rhm b p)), .inl (nI (rnm b p)), .inl (nI s)] a0 ad Mb A3 (fun r0 A5 => ∃ x6 : Int32, r0 = some (.inl x6) ∧ (0 ≤ x6 → mo_Z l G Y_Mo_make K a0 ad Mb 214 [some (.inr (some a0)), some (.inl (nI p)), some (.inl (nI r)), some (.inl (nI s)), some (.inl w), some (.inl 0), some (.inl y6), some (.inl (nI (rhm b p))), some (.inl y8), some (.inl x6), none] [] A5) ∧ (¬ 0 ≤ x6 → K (some (.inl (-5))) A5))))) := by
        intro y8
        have got : ∀ (M : Nat) (d : rB), rb M d → M + 1 < 1000000000 → (∃ q, q < 60 ∧ d 6 q = 0) → ∀ e g, fnd d (rhm b p) (rnm b p) s e g → (∀ q, q < 60 → e 6 q = 0 → (∀ i, i < q → 0 < e 6 i) → K (some (.inl 0)) (ra (lu L q w) (rnw e q p r (rhm b p) s g))) → mo_Z l G Y_Mo_make K a0 ad Mb 214 [some (.inr (some a0)), some (.inl (nI p)), some (.inl (nI r)), some (.inl (nI s)), some (.inl w), some (.inl 0), some (.inl y6), some (.inl (nI (rhm b p))), some (.inl y8), some (.inl (nI g)), none] [] (ra L e) := by
          intro M d hd hM hex e g hf hk
          obtain ⟨hb1, hg⟩ := rb_fnd hd hM hh hn hf
          refine cr_mk214 hb1 hp hr ?_ hk
          obtain ⟨q, hq, hz⟩ := hex
          refine ⟨q, hq, ?_⟩
          rcases hf with ⟨_, h2⟩ | ⟨_, U, T, _, _, _, _, _, _, h8⟩
          · rw [h2]
            exact hz
          · rw [h8]
            exact hz
        have pos : ∀ g, g < 24 → (0 : Int32) ≤ nI g := fun g hg => nI_pos' (by omega)
        refine cr_find hb hh hn hs2 (fun g hg => ⟨_, rfl, fun _ => ⟨fun _ => got N b hb hN hex b g (Or.inl ⟨hg, rfl⟩) (fun q => f2 b g q (Or.inl ⟨hg, rfl⟩)), fun u => absurd (pos g (mnP_some hg).1) u⟩, fun u => absurd (pos g (mnP_some hg).1) u⟩) (fun U T hno hT hE hr0 => ⟨_, rfl, fun u => absurd u (by decide), fun _ => ?_⟩) (fun U T hno hT hE hr0 => ⟨f1 U T hno hE hr0, fun g hg hz hq => ?_⟩)
        · have hnf : nof b (rhm b p) (rnm b p) s (bw b U T) := ⟨hno, U, T, hT, hE, hr0, rfl⟩
          have hbw := rb_bw (U := U) hb hT
          have hcn : rcn b p ≤ 8 := by
            unfold rcn
            split <;> omega
          refine cr_sweep hbw hcn (fun m hm1 hm2 => ⟨_, rfl, ?_⟩)
          obtain ⟨g1, g2, g3, g4⟩ := f3 (bw b U T) m hnf ⟨hm1, hm2⟩
          have hsw := rb_swp hbw hm1 (rcn b p)
          refine cr_find hsw hh hn hs2 (fun g hg => ⟨_, rfl, fun _ => got N _ hsw hN g1 _ g (Or.inl ⟨hg, rfl⟩) (fun q => g4 _ g q (Or.inl ⟨hg, rfl⟩)), fun u => absurd (pos g (mnP_some hg).1) u⟩) (fun U1 T1 hno1 hT1 hE1 hr1 => ⟨_, rfl, fun u => absurd u (by decide), fun _ => g3 _ ⟨hno1, U1, T1, hT1, hE1, hr1, rfl⟩⟩) (fun U1 T1 hno1 hT1 hE1 hr1 => ⟨g2 U1 T1 hno1 hE1 hr1, fun g hg hz hq => ?_⟩)
          have hf : fnd (swp (bw b U T) (rcn b p) m) (rhm b p) (rnm b p) s (npg (bw (swp (bw b U T) (rcn b p) m) U1 T1) g (rhm b p) (rnm b p)) g := Or.inr ⟨hno1, U1, T1, hT1, hE1, hr1, hg, hz, hq, rfl⟩
          exact ⟨_, rfl, fun _ => got N _ hsw hN g1 _ g hf (fun q => g4 _ g q hf), fun u => absurd (pos g hg) u⟩
        · have hf : fnd b (rhm b p) (rnm b p) s (npg (bw b U T) g (rhm b p) (rnm b p)) g := Or.inr ⟨hno, U, T, hT, hE, hr0, hg, hz, hq, rfl⟩
          exact ⟨_, rfl, fun _ => ⟨fun _ => got N b hb hN hex _ g hf (fun q => f2 _ g q hf), fun u => absurd (pos g hg) u⟩, fun u => absurd (pos g hg) u⟩
      rcases hv with ⟨e6, h2, ev⟩ | ⟨e6, h2, ev⟩
      · subst e6
        subst ev
        have eh : rhm b v = rbk b v 4 := if_neg h2
        have en : rnm b v = v := if_neg h2
        have ec : rcn b v = v := if_neg h2
        rw [eh, en, ec] at fin
        refine up_ind (P := fun i => mo_Z l G Y_Mo_make K a0 ad Mb 97 [some (.inr (some a0)), some (.inl (nI v)), some (.inl (nI r)), some (.inl (nI s)), some (.inl w), some (.inl y5), some (.inl 0), some (.inl (nI (rbk b v i))), some (.inl (nI i)), none, none] [] (ra L b)) 4 (mg_make_97 ⟨fun _ => ⟨fun _ => ?_, fun u => absurd rfl u⟩, fun hc => absurd (nleN 4 4 hc) (by omega)⟩) (fun i hi ih => ?_) 0 (by omega)
        · refine (fin (nI v)).mono (fun r0 A1 hh => ?_)
          obtain ⟨x2, e1, e2, e3⟩ := hh
          exact ⟨x2, e1, e2, fun u => ⟨fun _ => e3 u, fun u2 => absurd rfl u2⟩⟩
        · have ih : mo_Z l G Y_Mo_make K a0 ad Mb 97 [some (.inr (some a0)), some (.inl (nI v)), some (.inl (nI r)), some (.inl (nI s)), some (.inl w), some (.inl y5), some (.inl 0), some (.inl (nI (if b 15 i = 1 ∧ b 16 i = v then 9 + i else rbk b v i))), some (.inl (nI (i + 1))), none, none] [] (ra L b) := ih
          have h15 : b 15 i ≤ 3 := hb.2 15 i (by decide)
          have h16 : b 16 i ≤ 7 := hb.2 16 i (by decide)
          refine mg_make_97 ⟨fun hc => absurd (leN 4 i hc) (by omega), fun _ => ⟨fun u => absurd rfl u, fun _ => ⟨i, rfl, hi, fun e => ?_, fun e => ⟨fun e2 => ?_, fun e2 => ?_⟩⟩⟩⟩
          · rw [if_neg (fun u => neN (b 15 i) 1 e u.1)] at ih
            rw [nI_1]
            exact ih
          · rw [if_neg (fun u => neN (b 16 i) v e2 u.2)] at ih
            rw [nI_1]
            exact ih
          · rw [if_pos ⟨eqN (b 15 i) 1 e, eqN (b 16 i) v e2⟩] at ih
            rw [nI_1, show (9 : Int32) + nI i = nI (9 + i) from nI_add 9 i]
            exact ih
      · subst e6
        subst ev
        have eh : rhm b p = 8 := if_pos h2
        have en : rnm b p = 0 := if_pos h2
        have ec : rcn b p = 8 := if_pos h2
        rw [eh, en, ec] at fin
        refine up_ind (P := fun i => mo_Z l G Y_Mo_make K a0 ad Mb 97 [some (.inr (some a0)), some (.inl (nI p)), some (.inl (nI r)), some (.inl (nI s)), some (.inl w), some (.inl y5), some (.inl 1), some (.inl (nI 8)), some (.inl (nI i)), none, none] [] (ra L b)) 4 (mg_make_97 ⟨fun _ => ⟨fun u => absurd u (by decide), fun _ => ?_⟩, fun hc => absurd (nleN 4 4 hc) (by omega)⟩) (fun i hi ih => ?_) 0 (by omega)
        · refine (fin 0).mono (fun r0 A1 hh => ?_)
          obtain ⟨x2, e1, e2, e3⟩ := hh
          exact ⟨x2, e1, e2, fun u => ⟨fun u2 => absurd u2 (by decide), fun _ => e3 u⟩⟩
        · exact mg_make_97 ⟨fun hc => absurd (leN 4 i hc) (by omega), fun _ => ⟨fun _ => by rw [nI_1]; exact ih, fun u => absurd u (by decide)⟩⟩
    have hsplit : ∀ (i : Nat) , i < 60 → b 6 i = 0 → (∃ j1 : Nat, nI p = nI j1 ∧ j1 < 8 ∧ ((ra L b 0 j1) < 2 → mo_Z l G Y_Mo_make K a0 ad Mb 97 [some (.inr (some a0)), some (.inl (nI p)), some (.inl (nI r)), some (.inl (nI s)), some (.inl w), some (.inl (nI i)), some (.inl 0), some (.inl (nI p)), some (.inl 0), none, none] [] (ra L b)) ∧ (¬ (ra L b 0 j1) < 2 → mo_Z l G Y_Mo_make K a0 ad Mb 97 [some (.inr (some a0)), some (.inl (nI p)), some (.inl (nI r)), some (.inl (nI s)), some (.inl w), some (.inl (nI i)), some (.inl 1), some (.inl 8), some (.inl 0), none, none] [] (ra L b))) := by
      intro i hi hz
      refine ⟨p, rfl, hp, fun e => tail (nI i) 0 p ⟨i, hi, hz⟩ (Or.inl ⟨rfl, ?_, rfl⟩), fun e => tail (nI i) 1 8 ⟨i, hi, hz⟩ (Or.inr ⟨rfl, nltN (b 0 p) 2 e, rfl⟩)⟩
      have := ltN (b 0 p) 2 e
      omega
    refine up_ind (P := fun i => (∀ q, q < i → 0 < b 6 q) → mo_Z l G Y_Mo_make K a0 ad Mb 31 [some (.inr (some a0)), some (.inl (nI p)), some (.inl (nI r)), some (.inl (nI s)), some (.inl w), some (.inl (nI i)), none, none, none, none, none] [] (ra L b)) 60 (fun hq => mg_make_31 ⟨fun _ => ⟨fun u => absurd rfl u, fun _ => k1' hq⟩, fun hc => absurd (nleN 60 60 hc) (by omega)⟩) (fun i hi ih hq => ?_) 0 (by omega) (fun q h1 => by omega)
    have h6 : b 6 i ≤ 13 := hb.2 6 i (by decide)
    refine mg_make_31 ⟨fun hc => absurd (leN 60 i hc) (by omega), fun _ => ⟨i, rfl, hi, fun e => ⟨fun _ => hsplit i hi (by have := leN (b 6 i) 0 e; omega), fun u => absurd (eqN i 60 u) (by omega)⟩, fun e => ?_⟩⟩
    rw [nI_1]
    refine ih (fun q h1 => ?_)
    by_cases e2 : q = i
    · rw [e2]
      exact nleN (b 6 i) 0 e
    · exact hq q (by omega)
  · rw [e.2.2.2.2.2.2] at e4
    exact e4 (nI_le (show s ≤ 16 from e.2.2.2.1) (by decide))
end RO
