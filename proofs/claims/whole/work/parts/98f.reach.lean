/-! THE REFERENCE: what is reached -/
def rR (b : rB) (h x : Nat) : Prop := ∀ P : Nat → Prop, (∀ y, y < 60 → b 6 y = h + 1 → rtb b h y = true → P y) → (∀ y f z, y < 60 → f < 3 → P y → b 10 (3 * y + f) = z + 1 → b 6 z = h + 1 → P z) → P x
def bm (b : rB) (m : Nat → Nat) : rB := fun k j => if k = 24 then m j else b k j
def mu (m : Nat → Nat) (j : Nat) : Nat → Nat := fun i => if i = j then 1 else m i
def mcn (m : Nat → Nat) : Nat := (List.range 60).countP (fun x => !decide (m x = 0))
theorem cnt_up (q : Nat → Bool) (z : Nat) (hz : q z = false) (n : Nat) : (List.range n).countP (fun x => q x || decide (x = z)) = (List.range n).countP q + if z < n then 1 else 0 := by
  induction n with
  | zero => rfl
  | succ n ih =>
    rw [cnt_s, cnt_s, ih]
    by_cases e : n = z
    · subst e
      rw [hz, if_neg (Nat.lt_irrefl n), if_pos (Nat.lt_succ_self n)]
      simp
    · by_cases h2 : z < n
      · rw [if_pos h2, if_pos (show z < n + 1 by omega), decide_eq_false e, Bool.or_false]
        omega
      · rw [if_neg h2, if_neg (show ¬ z < n + 1 by omega), decide_eq_false e, Bool.or_false]
        omega
theorem mcn_le (m : Nat → Nat) : mcn m ≤ 60 := Nat.le_trans List.countP_le_length (by rw [List.length_range]; omega)
theorem mcn_up {m : Nat → Nat} {z : Nat} (hz : z < 60) (h0 : m z = 0) : mcn (mu m z) = mcn m + 1 := by
  have h := cnt_up (fun x => !decide (m x = 0)) z (by simp [h0]) 60
  rw [if_pos hz] at h
  rw [show mcn m = (List.range 60).countP (fun x => !decide (m x = 0)) from rfl, ← h]
  unfold mcn mu
  congr 1
  funext x
  by_cases e : x = z
  · simp [e]
  · simp [e]
theorem bm_n {b : rB} {m : Nat → Nat} {k j : Nat} (h : ¬ k = 24) : bm b m k j = b k j := if_neg h
theorem bm_u (b : rB) (m : Nat → Nat) (z : Nat) : bu (bm b m) 24 z 1 = bm b (mu m z) := by
  funext k j
  unfold bu bm mu
  by_cases h : k = 24
  · by_cases e : j = z
    · rw [if_pos ⟨h, e⟩, if_pos h, if_pos e]
    · rw [if_neg (fun u => e u.2), if_pos h, if_pos h, if_neg e]
  · rw [if_neg (fun u => h u.1), if_neg h, if_neg h]
theorem rb_bm {N : Nat} {b : rB} {m : Nat → Nat} (h : rb N b) (hm : ∀ x, m x ≤ 1) : rb N (bm b m) := ⟨h.1, fun k j hk => by
  unfold bm
  split
  · rename_i e
    rw [e]
    exact hm j
  · exact h.2 k j hk⟩
/-- marks that are rightly set, the roots among them -/
def mJ (b : rB) (h : Nat) (m : Nat → Nat) : Prop := (∀ x, m x ≤ 1) ∧ (∀ x, x < 60 → m x ≠ 0 → b 6 x = h + 1 ∧ rR b h x) ∧ ∀ x, x < 60 → b 6 x = h + 1 → rtb b h x = true → m x ≠ 0
def mC (b : rB) (h : Nat) (m : Nat → Nat) (n : Nat) : Prop := ∀ k z, k < n → m (k / 3) ≠ 0 → b 10 k = z + 1 → b 6 z = h + 1 → m z ≠ 0
/-- the roots among the first i objects are marked -/
def mI (b : rB) (h i x : Nat) : Nat := if x < i then (if b 6 x = h + 1 ∧ rtb b h x = true then 1 else 0) else b 24 x
section RF
variable {l : Launch} {G : mm_G} {K : Option mm_V → mo_A → Prop} {a0 : Nat} {ad : Nat → Nat} {Mb : mm_M} {L : Nat → Int32} {b : rB} {N h t x y p r : Nat} {xa : Int32}
theorem cr_pass (hb : rb N b) (hh : h < 13) (ht : t < 61) {m0 : Nat → Nat} (hm0 : mJ b h m0) (k0 : mC b h m0 180 → mo_Z l G Y_Mo_reach K a0 ad Mb 50 [some (.inr (some a0)), some (.inl (nI h)), some (.inl 0), some (.inl (nI (t + 1))), none, none] [] (ra L (bm b m0)))
    (k1 : ∀ m, mJ b h m → mcn m0 < mcn m → mo_Z l G Y_Mo_reach K a0 ad Mb 50 [some (.inr (some a0)), some (.inl (nI h)), some (.inl 1), some (.inl (nI (t + 1))), none, none] [] (ra L (bm b m))) :
    mo_Z l G Y_Mo_reach K a0 ad Mb 65 [some (.inr (some a0)), some (.inl (nI h)), some (.inl 0), some (.inl (nI t)), some (.inl 0), none] [] (ra L (bm b m0)) := by
  have main : ∀ i, i ≤ 180 → ∀ m v, mJ b h m → (v = 0 ∧ m = m0 ∧ mC b h m0 i) ∨ (v = 1 ∧ mcn m0 < mcn m) → mo_Z l G Y_Mo_reach K a0 ad Mb 65 [some (.inr (some a0)), some (.inl (nI h)), some (.inl (nI v)), some (.inl (nI t)), some (.inl (nI i)), none] [] (ra L (bm b m)) := by
    refine up_ind 180 (fun m v hJ hv => mg_reach_65 ⟨fun _ => ?_, fun hc => absurd (nleN 180 180 hc) (by omega)⟩) (fun i hi ih m v hJ hv => ?_)
    · rw [nI_1]
      rcases hv with ⟨rfl, rfl, hC⟩ | ⟨rfl, hC⟩
      · exact k0 hC
      · exact k1 m hJ hC
    · have hm1 : m (i / 3) ≤ 1 := hJ.1 _
      have h10 : b 10 i ≤ 60 := hb.2 10 i (by decide)
      have h6 : b 6 (b 10 i - 1) ≤ 13 := hb.2 6 _ (by decide)
      have hmz : m (b 10 i - 1) ≤ 1 := hJ.1 _
      have keep : (∀ z, m (i / 3) ≠ 0 → b 10 i = z + 1 → b 6 z = h + 1 → m z ≠ 0) → mo_Z l G Y_Mo_reach K a0 ad Mb 65 [some (.inr (some a0)), some (.inl (nI h)), some (.inl (nI v)), some (.inl (nI t)), some (.inl (nI i + 1)), none] [] (ra L (bm b m)) := by
        intro hc
        rw [nI_1]
        refine ih m v hJ ?_
        rcases hv with ⟨e1, e2, hC⟩ | hv
        · subst e2
          refine Or.inl ⟨e1, rfl, fun k z hk h1 h2 h3 => ?_⟩
          by_cases e : k = i
          · subst e
            exact hc z h1 h2 h3
          · exact hC k z (by omega) h1 h2 h3
        · exact Or.inr hv
      refine mg_reach_65 ⟨fun hc => absurd (leN 180 i hc) (by omega), fun _ => ⟨i, rfl, hi, i / 3, div3N i hi, by omega, fun e => ?_, fun e => ⟨fun e1 => ?_, fun e1 => ?_⟩⟩⟩
      · exact keep (fun z h1 _ _ => absurd (eqN (m (i / 3)) 0 e) h1)
      · exact keep (fun z _ h2 _ => by
          have := (m1N (v := b 10 i) (by omega)).mp e1
          omega)
      · have e0 : 0 < b 10 i := Nat.pos_of_ne_zero (fun u => e1 ((m1N (v := b 10 i) (by omega)).mpr u))
        have hmi : m (i / 3) ≠ 0 := neN (m (i / 3)) 0 e
        refine ⟨b 10 i - 1, nI_sub1 e0, by omega, fun e2 => ?_, fun e2 => ⟨fun e3 => ?_, fun e3 => ?_⟩⟩
        · rw [nI_1] at e2
          exact keep (fun z _ h2 h3 => absurd (show b 6 (b 10 i - 1) = h + 1 by rw [h2]; exact h3) (neN (b 6 (b 10 i - 1)) (h + 1) e2))
        · exact keep (fun z _ h2 _ => by
            have e4 : b 10 i - 1 = z := by omega
            rw [← e4]
            exact neN (m (b 10 i - 1)) 0 e3)
        · rw [nI_1] at e2
          have e5 : b 6 (b 10 i - 1) = h + 1 := eqN (b 6 (b 10 i - 1)) (h + 1) e2
          have e6 : m (b 10 i - 1) = 0 := eqN (m (b 10 i - 1)) 0 e3
          have e7 : mo_u (ra L (bm b m)) 24 (b 10 i - 1) 1 = ra L (bm b (mu m (b 10 i - 1))) := by
            rw [← bm_u]
            exact ra_u 1 (by decide)
          rw [e7, nI_1]
          refine ih _ 1 ⟨fun x => ?_, fun x hx hx0 => ?_, fun x hx h1 h2 => ?_⟩ (Or.inr ⟨rfl, ?_⟩)
          · unfold mu
            split
            · exact Nat.le_refl 1
            · exact hJ.1 x
          · by_cases e8 : x = b 10 i - 1
            · subst e8
              refine ⟨e5, fun P p1 p2 => p2 (i / 3) (i % 3) (b 10 i - 1) (by omega) (Nat.mod_lt _ (by decide)) ((hJ.2.1 (i / 3) (by omega) hmi).2 P p1 p2) ?_ e5⟩
              rw [show 3 * (i / 3) + i % 3 = i by omega]
              omega
            · exact hJ.2.1 x hx (by unfold mu at hx0; rw [if_neg e8] at hx0; exact hx0)
          · unfold mu
            split
            · decide
            · exact hJ.2.2 x hx h1 h2
          · rw [mcn_up (by omega) e6]
            rcases hv with ⟨_, e2, _⟩ | ⟨_, hv⟩
            · rw [e2]
              omega
            · omega
  exact main 0 (by omega) m0 0 hm0 (Or.inl ⟨rfl, rfl, fun k z hk => absurd hk (by omega)⟩)
theorem cr_reach (hb : rb N b) (hh : h < 13) (k : ∀ m : Nat → Nat, (∀ x, m x ≤ 1) → (∀ x, x < 60 → (m x ≠ 0 ↔ b 6 x = h + 1 ∧ rR b h x)) → K none (ra L (bm b m))) : mo_Ok l G yy_Mo_reach Y_Mo_reach [.inr (some a0), .inl (nI h)] a0 ad Mb (ra L b) K := by
  have kend : ∀ m, mJ b h m → mC b h m 180 → K none (ra L (bm b m)) := by
    intro m hJ hC
    refine k m hJ.1 (fun x hx => ⟨fun h0 => hJ.2.1 x hx h0, fun h0 => ?_⟩)
    refine (h0.2 (fun z => z < 60 ∧ m z ≠ 0) (fun y h1 h2 h3 => ⟨h1, hJ.2.2 y h1 h2 h3⟩) (fun y f z h1 h2 h3 h4 h5 => ⟨?_, ?_⟩)).2
    · have : b 10 (3 * y + f) ≤ 60 := hb.2 10 _ (by decide)
      omega
    · exact hC (3 * y + f) z (by omega) (by rw [show (3 * y + f) / 3 = y by omega]; exact h3.2) h4 h5
  have turns : ∀ t, t ≤ 61 → ∀ m, mJ b h m → t ≤ mcn m → mo_Z l G Y_Mo_reach K a0 ad Mb 50 [some (.inr (some a0)), some (.inl (nI h)), some (.inl 1), some (.inl (nI t)), none, none] [] (ra L (bm b m)) := by
    refine up_ind 61 (fun m hJ hc => absurd (mcn_le m) (by omega)) (fun t ht ih m hJ hc => ?_)
    refine mg_reach_50 ⟨fun h1 => absurd (leN 61 t h1) (by omega), fun _ => ⟨fun h1 => absurd h1 (by decide), fun _ => ?_⟩⟩
    refine cr_pass hb hh ht hJ (fun hC => ?_) (fun m1 hJ1 hc1 => ih m1 hJ1 (by omega))
    exact mg_reach_50 ⟨fun _ => kend m hJ hC, fun _ => ⟨fun _ => kend m hJ hC, fun h1 => absurd rfl h1⟩⟩
  refine mg_reach ?_
  have e0 : b = bm b (mI b h 0) := by
    funext k j
    unfold bm
    by_cases e : k = 24
    · rw [if_pos e, e]
      exact (if_neg (by omega)).symm
    · rw [if_neg e]
  rw [e0]
  have h24 : ∀ x, b 24 x ≤ 1 := fun x => hb.2 24 x (by decide)
  have hmi : ∀ i x, mI b h i x ≤ 1 := by
    intro i x
    unfold mI
    split
    · split <;> omega
    · exact h24 x
  have hu : ∀ i v, (v = if b 6 i = h + 1 ∧ rtb b h i = true then 1 else 0) → mo_u (ra L (bm b (mI b h i))) 24 i (nI v) = ra L (bm b (mI b h (i + 1))) := by
    intro i v hv
    rw [ra_u v (by decide)]
    congr 1
    funext k j
    unfold bu bm
    by_cases e : k = 24
    · by_cases e2 : j = i
      · subst e2
        rw [if_pos ⟨e, rfl⟩, if_pos e]
        unfold mI
        rw [if_pos (Nat.lt_succ_self j)]
        exact hv
      · rw [if_neg (fun u => e2 u.2), if_pos e, if_pos e]
        unfold mI
        by_cases e3 : j < i
        · rw [if_pos e3, if_pos (show j < i + 1 by omega)]
        · rw [if_neg e3, if_neg (show ¬ j < i + 1 by omega)]
    · rw [if_neg (fun u => e u.1), if_neg e, if_neg e]
  refine up_ind (P := fun i => mo_Z l G Y_Mo_reach K a0 ad Mb 2 [some (.inr (some a0)), some (.inl (nI h)), some (.inl (nI i)), none, none, none] [] (ra L (bm b (mI b h i)))) 60 (mg_reach_2 ⟨fun _ => turns 0 (by omega) _ ⟨hmi 60, fun x hx h0 => ?_, fun x hx h1 h2 => ?_⟩ (by omega), fun hc => absurd (nleN 60 60 hc) (by omega)⟩) (fun i hi ih => ?_) 0 (by omega)
  · have h0 : (if x < 60 then (if b 6 x = h + 1 ∧ rtb b h x = true then 1 else 0) else b 24 x) ≠ 0 := h0
    rw [if_pos hx] at h0
    by_cases e : b 6 x = h + 1 ∧ rtb b h x = true
    · exact ⟨e.1, fun P p1 _ => p1 x hx e.1 e.2⟩
    · rw [if_neg e] at h0
      exact absurd rfl h0
  · show (if x < 60 then (if b 6 x = h + 1 ∧ rtb b h x = true then 1 else 0) else b 24 x) ≠ 0
    rw [if_pos hx, if_pos ⟨h1, h2⟩]
    decide
  · have h6 : b 6 i ≤ 13 := hb.2 6 i (by decide)
    refine mg_reach_2 ⟨fun hc => absurd (leN 60 i hc) (by omega), fun _ => ⟨i, rfl, hi, fun e => ?_, fun e => ?_⟩⟩
    · rw [nI_1] at e ⊢
      have := hu i 0 (by rw [if_neg (fun u => neN (b 6 i) (h + 1) e u.1)])
      rw [show mo_u _ 24 i 0 = _ from this]
      exact ih
    · rw [nI_1] at e
      have e1 : b 6 i = h + 1 := eqN (b 6 i) (h + 1) e
      refine cr_root (rb_bm hb (hmi i)) hh hi ⟨rfl, _, rfl, fun e2 => ?_, fun e2 => ?_⟩
      · have e3 : rtb b h i = false := (bzN _).mp e2
        have := hu i 0 (by rw [if_neg (fun u => by rw [e3] at u; cases u.2)])
        rw [nI_1, show mo_u _ 24 i 0 = _ from this]
        exact ih
      · have e3 : rtb b h i = true := bzT e2
        have := hu i 1 (by rw [if_pos ⟨e1, e3⟩])
        rw [nI_1, show mo_u _ 24 i 1 = _ from this]
        exact ih
end RF
