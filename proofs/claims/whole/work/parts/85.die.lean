/-! THE CLASS AS A WHOLE: a collection; death -/
def d_col (D : ph_D) (n : Nat) (rs : List Nat) : ph_D := if n = 8 then d_gn (d_cd (d_run D n rs) 4) 4 else d_gn (d_du (d_run D n rs) n) 4
def d_d4 (D : ph_D) (p : Nat) : ph_D := d_mg (d_du (d_er (di D 6 p 4) p 4) p) (nI p)
def d_d5 (D : ph_D) (p : Nat) : ph_D := if (d_d4 D p).2.1 10 p = -1 then d_d4 D p else di (d_mg (d_d4 D p) ((d_d4 D p).2.1 10 p)) 10 p (-1)
def d_die (D : ph_D) (p : Nat) : ph_D := d_gn (d_hi (d_d5 D p) p) 4
section QK
variable {l : Launch} {G : mm_G} {K : Option mm_V → mm_M → Prop} {M M1 Mb N : mm_M} {c : Nat → Nat} {F : Nat → Prop} {D D1 : ph_D} {eP eO eP1 eO1 : Nat}
theorem ph_R.at (h : ph_R G c F Mb M D eP eO) {p q : Nat} (hp : p < d_m D) (h9 : D.2.2 9 p = some q) : mm_p M (c 8) p = some q ∧ mm_k M q = 6 ∧ ph_Q M D p q := by
  obtain ⟨q', hq, h6, hQ⟩ := h.m.2.2.2.2.2 p hp
  have e := hQ.2.2.2.2.2.2.2.2
  rw [h9] at e
  have e2 : q = q' := Option.some.inj e
  subst e2
  exact ⟨hq, h6, hQ⟩
theorem d_m_c {D D1 : ph_D} (e : D1.2.1 12 0 = D.2.1 12 0) : d_m D1 = d_m D := by unfold d_m; rw [e]
theorem d_m_run (D : ph_D) (n : Nat) (rs : List Nat) : d_m (d_run D n rs) = d_m D := d_m_c (by rw [d_run_n (by decide), ← d_fr_n (by decide)])
theorem cw_collectHeap {n : Nat} (hA : d_A D) (hrg : d_rg D) (hfl : d_fl D) (hn : n = 8 ∨ n < d_m D) (h : ph_R G c F Mb M D eP eO)
    (k : ∀ M1 rs, rs.Nodup → (∀ a, a ∈ rs ↔ a ∈ D.1.2 ∧ d_h D a = nI n ∧ d_Re D (nI n) a) → ph_R G c F Mb M1 (d_col D n rs) eP eO → K (some (.inl (nI (D.1.2.filter (fun b => !d_kp D (nI n) rs b)).length))) M1) : mm_Ok l G yy_PH_collectHeap Y_PH_collectHeap [.inr (some (c 0)), .inl (nI n)] M K := by
  have hX := h.2.1
  have hm := h.m
  refine sg_PH_collectHeap ⟨hX.1, c 2, hX.2.2.1, h.co.2.1, ?_⟩
  rw [hX.2.1, hX.2.2.2.2.1]
  refine cw_run hA.1 hrg hfl hA.2.2.2 h (fun M1 rs hnd hch h1 _ => ⟨_, rfl, fun h8 => ?_, fun h8 => ?_⟩)
  · have hn8 : n ≠ 8 := fun z => h8 (by rw [z]; rfl)
    have hnm : n < d_m D := hn.resolve_left hn8
    have hX1 := h1.2.1
    have em : d_m (d_run D n rs) = d_m D := d_m_run D n rs
    obtain ⟨q, hq, h6, hQ⟩ := h1.m.2.2.2.2.2 n (by rw [em]; exact hnm)
    refine ⟨c 8, hX1.2.2.2.2.1, h1.kar, n, rfl, by omega, by rw [h1.lar]; omega, ?_⟩
    rw [hq]
    refine cw_dropUnused (hA.run n rs).1 h1 (by omega) hq (fun r a hr ha => ?_) (fun M2 h2 _ _ => ⟨rfl, cw_dropGone (fun i _ => (((hA.run n rs).ofi (by decide) (by decide)).gn i).1) h2 (fun M3 h3 _ => ⟨rfl, ?_⟩)⟩)
    · have ha' : D.2.2 (4 + r) n = some a := ha
      have hax := hrg n r a hnm hr ha'
      refine List.mem_filter.mpr ⟨hax, ?_⟩
      unfold d_kp
      by_cases w : d_h D a = nI n
      · have : a ∈ rs := (hch a).mpr ⟨hax, w, fun P p1 _ => p1 a hax w (Or.inl ⟨n, r, hnm, hr, ha'⟩)⟩
        simp [this]
      · simp [w]
    · refine k M3 rs hnd hch ?_
      unfold d_col
      rw [if_neg hn8]
      exact h3
  · have hn8 : n = 8 := by
      rcases hn with z | z
      · exact z
      · exact (nI_eq (by omega) (by decide)).mp h8
    refine cw_dropDead (hA.run n rs).1 h1 (fun M2 h2 _ => ⟨rfl, cw_dropGone (fun i _ => (((hA.run n rs).cd 4).gn i).1) h2 (fun M3 h3 _ => ⟨rfl, ?_⟩)⟩)
    refine k M3 rs hnd hch ?_
    unfold d_col
    rw [if_pos hn8]
    exact h3
theorem d_er_1 (D : ph_D) (p : Nat) : ∀ n, (d_er D p n).1 = D.1 ∧ (d_er D p n).2.1 = D.2.1
  | 0 => ⟨rfl, rfl⟩
  | n + 1 => d_er_1 D p n
theorem d_er_p (D : ph_D) (p : Nat) : ∀ n k j, (d_er D p n).2.2 k j = if 4 ≤ k ∧ k < 4 + n ∧ j = p then none else D.2.2 k j
  | 0, k, j => (if_neg (fun z => by omega)).symm
  | n + 1, k, j => by
    show (dp (d_er D p n) (4 + n) p none).2.2 k j = _
    rw [dp_p, d_er_p D p n]
    by_cases w : k = 4 + n ∧ j = p
    · rw [if_pos w, if_pos ⟨by omega, by omega, w.2⟩]
    · rw [if_neg w]
      by_cases u : 4 ≤ k ∧ k < 4 + n ∧ j = p
      · rw [if_pos u, if_pos ⟨u.1, by omega, u.2.2⟩]
      · rw [if_neg u, if_neg (fun z => (by
          by_cases v : k = 4 + n
          · exact w ⟨v, z.2.2⟩
          · exact u ⟨z.1, by omega, z.2.2⟩))]
theorem d_A.er (h : d_A D) (p n : Nat) : d_A (d_er D p n) := by
  obtain ⟨e1, e2⟩ := d_er_1 D p n
  refine h.cong (by rw [e1]) (fun g => by rw [e1]) (fun _ => by rw [e2]) (fun _ => by rw [e2]) (fun j => ?_)
  rw [d_er_p, if_neg (fun z => by omega)]
theorem cw_die {p q : Nat} (hA : d_A D) (hp : p < d_m D) (h9 : D.2.2 9 p = some q) (h : ph_R G c F Mb M D eP eO) (k : ∀ M1, ph_R G c F Mb M1 (d_die D p) eP eO → K none M1) : mm_Ok l G yy_PH_die Y_PH_die [.inr (some (c 0)), .inr (some q)] M K := by
  have hm8 := h.m.2.1
  have h0 := h.at hp h9
  refine sg_PH_die ⟨q, rfl, h0.2.1, ?_⟩
  have h1 : ph_R G c F Mb (mm_si M q 5 4) (di D 6 p 4) eP eO := h.sq (by omega) h0.1 (Or.inl ⟨rfl, rfl⟩) 4
  have e1 : ∀ n, d_m (d_er (di D 6 p 4) p n) = d_m D := fun n => d_m_c (by rw [(d_er_1 _ p n).2, di_n (by decide)])
  have e9 : ∀ n, n ≤ 4 → (d_er (di D 6 p 4) p n).2.2 9 p = some q := fun n hn => by
    rw [d_er_p, if_neg (fun z => by omega)]
    exact h9
  have hA2 : d_A (d_er (di D 6 p 4) p 4) := (hA.ofi (by decide) (by decide)).er p 4
  have hA3 : d_A (d_du (d_er (di D 6 p 4) p 4) p) := hA2.ofi (by decide) (by decide)
  have hA4 : d_A (d_d4 D p) := hA3.mg _
  have m3 : d_m (d_du (d_er (di D 6 p 4) p 4) p) = d_m D := (d_m_c (di_n (by decide))).trans (e1 4)
  have m4 : d_m (d_d4 D p) = d_m D := (d_m_c (d_mg_n (by decide)).symm).trans m3
  have hA5 : d_A (d_d5 D p) := by
    unfold d_d5
    by_cases w : (d_d4 D p).2.1 10 p = -1
    · rw [if_pos w]
      exact hA4
    · rw [if_neg w]
      exact (hA4.mg _).ofi (by decide) (by decide)
  have key : ∀ n r, 4 - r = n → r ≤ 4 → ∀ M1, ph_R G c F Mb M1 (d_er (di D 6 p 4) p r) eP eO → mm_Z l G Y_PH_die K M 0 0 7 [some (.inr (some (c 0))), some (.inr (some q)), some (.inl (nI r))] [] M1 := by
    intro n
    induction n with
    | zero =>
      intro r hn hr M1 g1
      have : r = 4 := by omega
      subst this
      have a1 := g1.at (by rw [e1]; exact hp) (e9 4 (Nat.le_refl _))
      refine sg_PH_die_7 ⟨fun _ => ⟨g1.2.1.1, cw_dropUnused hA2.1 g1 (by omega) a1.1 (fun r a hr ha => ?_) (fun M2 g2 _ _ => ⟨rfl, q, rfl, ?_⟩)⟩, fun z => absurd (by decide) z⟩
      · rw [d_er_p, if_pos ⟨by omega, by omega, rfl⟩] at ha
        cases ha
      have a2 := g2.at (by rw [m3]; exact hp) (e9 4 (Nat.le_refl _))
      refine ⟨a2.2.1, c 1, g2.2.1.2.1, g2.1.2.2.1, ?_⟩
      rw [a2.2.2.1]
      refine cw_merge g2 (fun M3 g3 _ => ⟨rfl, ?_⟩)
      have g3' : ph_R G c F Mb M3 (d_d4 D p) eP eO := g3
      have a3 := g3'.at (by rw [m4]; exact hp) (e9 4 (Nat.le_refl _))
      refine ⟨fun hb => ?_, fun hb => ?_⟩
      · rw [a3.2.2.2.2.2.2.2.1] at hb
        have e5 : d_d5 D p = d_d4 D p := if_pos hb
        refine ⟨c 1, g3'.2.1.2.1, g3'.1.2.2.1, ?_⟩
        rw [a3.2.2.1]
        refine cw_handItems (by omega) hA4.1 g3' (fun M4 g4 _ => ⟨rfl, cw_dropGone (fun i _ => ((hA4.hi p).gn i).1) g4 (fun M5 g5 _ => ⟨rfl, k M5 ?_⟩)⟩)
        unfold d_die
        rw [e5]
        exact g5
      · rw [a3.2.2.2.2.2.2.2.1] at hb
        have e5 : d_d5 D p = di (d_mg (d_d4 D p) ((d_d4 D p).2.1 10 p)) 10 p (-1) := if_neg hb
        refine ⟨c 1, g3'.2.1.2.1, g3'.1.2.2.1, ?_⟩
        rw [a3.2.2.2.2.2.2.2.1]
        refine cw_merge g3' (fun M4 g4 _ => ⟨rfl, c 1, g4.2.1.2.1, g4.1.2.2.1, ?_⟩)
        have a4 := g4.at (p := p) (q := q) (by rw [d_m_c (d_mg_n (by decide)).symm, m4]; exact hp) (e9 4 (Nat.le_refl _))
        have g5 : ph_R G c F Mb (mm_si M4 q 6 (-1)) (d_d5 D p) eP eO := by
          rw [e5]
          exact g4.sq (by omega) a4.1 (Or.inr (Or.inl ⟨rfl, rfl⟩)) (-1)
        have en : mm_i (mm_si M4 q 6 (-1)) q 0 = nI p := by
          rw [mm_i_si, if_neg (fun z => by cases z.2)]
          exact a4.2.2.1
        rw [en]
        exact cw_handItems (by omega) hA5.1 g5 (fun M5 g6 _ => ⟨rfl, cw_dropGone (fun i _ => ((hA5.hi p).gn i).1) g6 (fun M6 g7 _ => ⟨rfl, k M6 g7⟩)⟩)
    | succ n ih =>
      intro r hn hr M1 g1
      have a1 := g1.at (by rw [e1]; exact hp) (e9 r hr)
      have hP := g1.1.2.1.2.1 q a1.2.1
      refine sg_PH_die_7 ⟨fun z => absurd z (show ¬ nI 4 ≤ nI r from nI_ge (by omega) (by decide)), fun _ => ⟨q, rfl, a1.2.1, pr_a M1 q, hP.2.1, hP.2.2.1, r, rfl, by omega, by rw [hP.2.2.2]; omega, ?_⟩⟩
      rw [nI_1]
      exact ih (r + 1) (by omega) (by omega) _ (g1.reg (by omega) a1.1 (by omega) (fun w hw => by cases hw))
  have z := key 4 0 rfl (by omega) _ h1
  rw [nI_0] at z
  exact z
end QK
