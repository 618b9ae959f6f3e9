/-! THE REFERENCE: shared heaps that go, and a collection -/
def ndb (b : rB) (k : Nat) : Bool := nmb b 8 (9 + k) || (List.range 8).any (fun p => lvb b p && !decide (b 19 (4 * p + k) = 0))
def py0 (b : rB) (k n : Nat) : rB := fun q j => if q = 20 ∧ j % 4 = k ∧ j < 4 * n then 0 else b q j
def vn1 (b : rB) (k : Nat) : rB := if b 15 k = 2 ∧ ndb b k = false then bu (py0 (frN b (fun x => decide (b 6 x = 10 + k)) 60) k 8) 15 k 3 else b
def vnN (b : rB) : Nat → rB
  | 0 => b
  | n + 1 => vn1 (vnN b n) n
/-- the items of h that no field names go -/
def itm (b : rB) (h i : Nat) : rB := fun k j => if k = 21 ∧ 60 * h ≤ j ∧ j < 60 * h + i ∧ fib b h (j - 60 * h) = false then 0 else b k j
def chp (b : rB) (h k : Nat) : rB := if b 19 (4 * h + k) ≠ 0 ∧ nmb b h (9 + k) = false ∧ hob b h (9 + k) = false then bu (bu b 19 (4 * h + k) 0) 20 (4 * h + k) 0 else b
def ch8 (b : rB) (k n : Nat) : rB := fun q j => if q = 20 ∧ j % 4 = k ∧ j < 4 * n ∧ b 0 (j / 4) = 4 ∧ nmb b 8 (9 + k) = false then 0 else b q j
def chN (b : rB) (h : Nat) : Nat → rB
  | 0 => b
  | k + 1 => if h = 8 then ch8 (chN b h k) k 8 else chp (chN b h k) h k
def unr (b : rB) (m : Nat → Nat) (h x : Nat) : Bool := decide (b 6 x = h + 1) && decide (m x = 0)
def swp (b : rB) (h : Nat) (m : Nat → Nat) : rB := vnN (chN (itm (frN (bm b m) (unr b m h) 60) h 60) h 4) 4
theorem rb_z {N : Nat} {b : rB} (h : rb N b) (c : Nat → Nat → Prop) [∀ q j, Decidable (c q j)] : rb N (fun q j => if c q j then 0 else b q j) := ⟨h.1, fun q j hq => by
  show (if c q j then 0 else b q j) ≤ _
  split
  · exact Nat.zero_le _
  · exact h.2 q j hq⟩
theorem rb_vn1 {N : Nat} {b : rB} (h : rb N b) (k : Nat) : rb N (vn1 b k) := by
  unfold vn1
  split
  · exact (rb_z (rb_frN h _ 60) _).u (fun _ => show 3 ≤ 3 by omega)
  · exact h
theorem rb_vnN {N : Nat} {b : rB} (h : rb N b) (n : Nat) : rb N (vnN b n) := by
  induction n with
  | zero => exact h
  | succ n ih => exact rb_vn1 ih n
theorem rb_chN {N : Nat} {b : rB} (hb : rb N b) (h n : Nat) : rb N (chN b h n) := by
  induction n with
  | zero => exact hb
  | succ n ih =>
    show rb N (if h = 8 then ch8 (chN b h n) n 8 else chp (chN b h n) h n)
    split
    · exact rb_z ih _
    · unfold chp
      split
      · exact (ih.u (fun _ => Nat.zero_le _)).u (fun _ => Nat.zero_le _)
      · exact ih
section RG
variable {l : Launch} {G : mm_G} {K : Option mm_V → mo_A → Prop} {a0 : Nat} {ad : Nat → Nat} {Mb : mm_M} {L : Nat → Int32} {b : rB} {N h t x y p r k : Nat} {xa : Int32}
theorem cr_van79 {y2 : Int32} {P : Nat → Bool} (hb : rb N b) (hk : k < 4) (hP : P = fun x => decide (b 6 x = 10 + k)) (kk : mo_Z l G Y_Mo_vanish K a0 ad Mb 2 [some (.inr (some a0)), some (.inl (nI (k + 1))), none, none] [] (ra L (bu (py0 (frN b P 60) k 8) 15 k 3))) :
    mo_Z l G Y_Mo_vanish K a0 ad Mb 79 [some (.inr (some a0)), some (.inl (nI k)), some (.inl y2), some (.inl 0)] [] (ra L b) := by
  have hb60 := rb_frN hb P 60
  refine up_ind (P := fun i => mo_Z l G Y_Mo_vanish K a0 ad Mb 79 [some (.inr (some a0)), some (.inl (nI k)), some (.inl y2), some (.inl (nI i))] [] (ra L (frN b P i))) 60 (mg_vanish_79 ⟨fun _ => ?_, fun hc => absurd (nleN 60 60 hc) (by omega)⟩) (fun i hi ih => ?_) 0 (by omega)
  · have e0 : frN b P 60 = py0 (frN b P 60) k 0 := by
      funext q j
      exact (if_neg (fun u => by omega)).symm
    rw [e0]
    refine up_ind (P := fun i => mo_Z l G Y_Mo_vanish K a0 ad Mb 111 [some (.inr (some a0)), some (.inl (nI k)), some (.inl y2), some (.inl (nI i))] [] (ra L (py0 (frN b P 60) k i))) 8 (mg_vanish_111 ⟨fun _ => ⟨k, rfl, hk, ?_⟩, fun hc => absurd (nleN 8 8 hc) (by omega)⟩) (fun i hi ih => ?_) 0 (by omega)
    · have e : mo_u (ra L (py0 (frN b P 60) k 8)) 15 k 3 = _ := ra_u 3 (by decide)
      rw [e, nI_1]
      exact kk
    · refine mg_vanish_111 ⟨fun hc => absurd (leN 8 i hc) (by omega), fun _ => ⟨4 * i + k, ixN 4 i k, by omega, ?_⟩⟩
      have e : mo_u (ra L (py0 (frN b P 60) k i)) 20 (4 * i + k) 0 = _ := ra_u 0 (by decide)
      have e2 : bu (py0 (frN b P 60) k i) 20 (4 * i + k) 0 = py0 (frN b P 60) k (i + 1) := by
        funext q j
        unfold bu py0
        by_cases h1 : q = 20 ∧ j = 4 * i + k
        · rw [if_pos h1, if_pos ⟨h1.1, by omega, by omega⟩]
        · rw [if_neg h1]
          by_cases h2 : q = 20 ∧ j % 4 = k ∧ j < 4 * i
          · rw [if_pos h2, if_pos ⟨h2.1, h2.2.1, by omega⟩]
          · rw [if_neg h2, if_neg (fun u => h2 ⟨u.1, u.2.1, by
              have := u.1
              have := u.2.1
              have := u.2.2
              omega⟩)]
      rw [e, e2, nI_1]
      exact ih
  · have hbi := rb_frN hb P i
    have h6 : frN b P i 6 i ≤ 13 := hbi.2 6 i (by decide)
    have e6 : frN b P i 6 i = b 6 i := by
      rw [(fzR_N b P i (by omega)).1 i, if_neg (fun u => by
        have this : (decide (i < i) && P i) = true := u.2
        rw [decide_eq_false (Nat.lt_irrefl i)] at this
        cases this)]
    have ih2 : mo_Z l G Y_Mo_vanish K a0 ad Mb 79 [some (.inr (some a0)), some (.inl (nI k)), some (.inl y2), some (.inl (nI (i + 1)))] [] (ra L (if P i = true then fr1 (frN b P i) i else frN b P i)) := ih
    refine mg_vanish_79 ⟨fun hc => absurd (leN 60 i hc) (by omega), fun _ => ⟨i, rfl, hi, fun e => ?_, fun e => ?_⟩⟩
    · have e2 : ¬ P i = true := fun u => e (by
        show nI (frN b P i 6 i) = nI 10 + nI k
        rw [nI_add, e6]
        rw [hP] at u
        rw [of_decide_eq_true u])
      rw [if_neg e2] at ih2
      rw [nI_1]
      exact ih2
    · have e : nI (frN b P i 6 i) = nI 10 + nI k := e
      rw [nI_add] at e
      have e1 := eqN (frN b P i 6 i) (10 + k) e
      have e2 : P i = true := by
        rw [hP]
        exact decide_eq_true (by rw [← e6]; exact e1)
      rw [if_pos e2] at ih2
      refine cr_free hbi hi ⟨rfl, ?_⟩
      rw [nI_1]
      exact ih2
theorem cr_vanish (hb : rb N b) (kk : K none (ra L (vnN b 4))) : mo_Ok l G yy_Mo_vanish Y_Mo_vanish [.inr (some a0)] a0 ad Mb (ra L b) K := by
  refine mg_vanish (up_ind (P := fun k => mo_Z l G Y_Mo_vanish K a0 ad Mb 2 [some (.inr (some a0)), some (.inl (nI k)), none, none] [] (ra L (vnN b k))) 4 (mg_vanish_2 ⟨fun _ => kk, fun hc => absurd (nleN 4 4 hc) (by omega)⟩) (fun k hk ih => ?_) 0 (by omega))
  have hbk := rb_vnN hb k
  have ih2 : mo_Z l G Y_Mo_vanish K a0 ad Mb 2 [some (.inr (some a0)), some (.inl (nI (k + 1))), none, none] [] (ra L (vn1 (vnN b k) k)) := ih
  clear ih
  generalize vnN b k = c at *
  have h15 : c 15 k ≤ 3 := hbk.2 15 k (by decide)
  refine mg_vanish_2 ⟨fun hc => absurd (leN 4 k hc) (by omega), fun _ => ?_⟩
  have e9 : (9 : Int32) + nI k = nI (9 + k) := nI_add 9 k
  rw [e9]
  refine cr_names (h := 8) hbk (by omega) (by omega) ⟨rfl, _, rfl, ?_⟩
  have e0 : nmb c 8 (9 + k) = (nmb c 8 (9 + k) || (List.range 0).any (fun p => lvb c p && !decide (c 19 (4 * p + k) = 0))) := by rw [List.range_zero, List.any_nil, Bool.or_false]
  rw [e0]
  refine up_ind (P := fun i => mo_Z l G Y_Mo_vanish K a0 ad Mb 20 [some (.inr (some a0)), some (.inl (nI k)), some (.inl (nI (nmb c 8 (9 + k) || (List.range i).any (fun p => lvb c p && !decide (c 19 (4 * p + k) = 0))).toNat)), some (.inl (nI i))] [] (ra L c)) 8 (mg_vanish_20 ⟨fun _ => ⟨k, rfl, hk, fun e => ?_, fun e => ⟨fun e2 => ?_, fun e2 => ?_⟩⟩, fun hc => absurd (nleN 8 8 hc) (by omega)⟩) (fun i hi ih => ?_) 0 (by omega)
  · unfold vn1 at ih2
    rw [if_neg (fun u => neN (c 15 k) 2 e u.1)] at ih2
    rw [nI_1]
    exact ih2
  · unfold vn1 at ih2
    rw [if_neg (fun u => by
      have e3 : ndb c k = true := bzT e2
      rw [e3] at u
      cases u.2)] at ih2
    rw [nI_1]
    exact ih2
  · unfold vn1 at ih2
    rw [if_pos ⟨eqN (c 15 k) 2 e, (bzN _).mp e2⟩] at ih2
    exact cr_van79 hbk hk rfl ih2
  · rw [any_s, ← Bool.or_assoc] at ih
    have hl : c 19 (4 * i + k) ≤ 1 := hbk.2 19 _ (by decide)
    refine mg_vanish_20 ⟨fun hc => absurd (leN 8 i hc) (by omega), fun _ => ⟨fun hf => ?_, fun hf => ?_⟩⟩
    · rw [bzT hf, Bool.true_or] at ih
      rw [nI_1]
      exact ih
    · rw [(bzN _).mp hf, Bool.false_or] at ih
      refine cr_livesN hbk hi (fun e => ⟨rfl, _, rfl, fun _ => ?_, fun u => absurd rfl u⟩) (fun e => ⟨rfl, _, rfl, fun u => absurd u (by decide), fun _ => ⟨4 * i + k, ixN 4 i k, by omega, fun e2 => ?_, fun e2 => ?_⟩⟩)
      · rw [nI_1]
        rw [Bool.eq_false_iff.mpr (fun z => e (lvb_t.mp z)), Bool.false_and] at ih
        exact ih
      · rw [nI_1]
        rw [decide_eq_true (eqN (c 19 (4 * i + k)) 0 e2), Bool.not_true, Bool.and_false] at ih
        exact ih
      · rw [nI_1]
        rw [decide_eq_false (neN (c 19 (4 * i + k)) 0 e2), lvb_t.mpr e] at ih
        exact ih
/-- the last part of a collection -/
theorem cr_sweep105 {v : Int32} (hb : rb N b) (hh : h ≤ 8) (kk : K (some (.inl v)) (ra L (vnN (chN b h 4) 4))) : mo_Z l G Y_Mo_sweep K a0 ad Mb 105 [some (.inr (some a0)), some (.inl (nI h)), some (.inl v), some (.inl 0), none, none] [] (ra L b) := by
  refine up_ind (P := fun k => mo_Z l G Y_Mo_sweep K a0 ad Mb 105 [some (.inr (some a0)), some (.inl (nI h)), some (.inl v), some (.inl (nI k)), none, none] [] (ra L (chN b h k))) 4 (mg_sweep_105 ⟨fun _ => cr_vanish (rb_chN hb h 4) ⟨rfl, kk⟩, fun hc => absurd (nleN 4 4 hc) (by omega)⟩) (fun k hk ih => ?_) 0 (by omega)
  have hbk := rb_chN hb h k
  have ih2 : mo_Z l G Y_Mo_sweep K a0 ad Mb 105 [some (.inr (some a0)), some (.inl (nI h)), some (.inl v), some (.inl (nI (k + 1))), none, none] [] (ra L (if h = 8 then ch8 (chN b h k) k 8 else chp (chN b h k) h k)) := ih
  clear ih
  generalize chN b h k = c at *
  have e9 : (9 : Int32) + nI k = nI (9 + k) := nI_add 9 k
  rcases Nat.lt_or_ge h 8 with h8 | h8
  · rw [if_neg (by omega)] at ih2
    have loop : ∀ d : rB, mo_Z l G Y_Mo_sweep K a0 ad Mb 105 [some (.inr (some a0)), some (.inl (nI h)), some (.inl v), some (.inl (nI (k + 1))), none, none] [] (ra L d) → mo_Z l G Y_Mo_sweep K a0 ad Mb 180 [some (.inr (some a0)), some (.inl (nI h)), some (.inl v), some (.inl (nI k)), some (.inl (9 + nI k)), some (.inl 0)] [] (ra L d) := by
      intro d hd
      refine up_ind (P := fun i => mo_Z l G Y_Mo_sweep K a0 ad Mb 180 [some (.inr (some a0)), some (.inl (nI h)), some (.inl v), some (.inl (nI k)), some (.inl (9 + nI k)), some (.inl (nI i))] [] (ra L d)) 8 (mg_sweep_180 ⟨fun _ => by rw [nI_1]; exact hd, fun hc => absurd (nleN 8 8 hc) (by omega)⟩) (fun i hi ih => ?_) 0 (by omega)
      refine mg_sweep_180 ⟨fun hc => absurd (leN 8 i hc) (by omega), fun _ => ⟨fun _ => by rw [nI_1]; exact ih, fun e => absurd (eqN h 8 e) (by omega)⟩⟩
    have h19 : c 19 (4 * h + k) ≤ 1 := hbk.2 19 _ (by decide)
    unfold chp at ih2
    refine mg_sweep_105 ⟨fun hc => absurd (leN 4 k hc) (by omega), fun _ => ⟨fun hc => absurd (leN 8 h hc) (by omega), fun _ => ⟨4 * h + k, ixN 4 h k, by omega, fun e => loop _ ?_, fun e => ?_⟩⟩⟩
    · rw [if_neg (fun u => u.1 (eqN (c 19 (4 * h + k)) 0 e))] at ih2
      exact ih2
    · rw [e9]
      refine cr_names hbk (by omega) (by omega) ⟨rfl, _, rfl, fun e2 => ?_, fun e2 => cr_holds hbk (by omega) (by omega) ⟨rfl, _, rfl, fun e3 => ?_, fun e3 => ?_⟩⟩
      · rw [if_neg (fun u => by rw [bzT e2] at u; cases u.2.1)] at ih2
        rw [← e9]
        exact loop _ ih2
      · rw [if_neg (fun u => by rw [bzT e3] at u; cases u.2.2)] at ih2
        rw [← e9]
        exact loop _ ih2
      · rw [if_pos ⟨neN (c 19 (4 * h + k)) 0 e, (bzN _).mp e2, (bzN _).mp e3⟩] at ih2
        have e4 : mo_u (mo_u (ra L c) 19 (4 * h + k) 0) 20 (4 * h + k) 0 = ra L (bu (bu c 19 (4 * h + k) 0) 20 (4 * h + k) 0) := by
          rw [show mo_u (ra L c) 19 (4 * h + k) 0 = _ from ra_u 0 (by decide)]
          exact ra_u 0 (by decide)
        rw [e4, ← e9]
        exact loop _ ih2
  · have h8 : h = 8 := by omega
    subst h8
    rw [if_pos rfl] at ih2
    refine mg_sweep_105 ⟨fun hc => absurd (leN 4 k hc) (by omega), fun _ => ⟨fun _ => ?_, fun hc => absurd (nleN 8 8 hc) (by omega)⟩⟩
    rw [e9]
    have e0 : c = ch8 c k 0 := by
      funext q j
      exact (if_neg (fun u => by omega)).symm
    rw [e0]
    refine up_ind (P := fun i => mo_Z l G Y_Mo_sweep K a0 ad Mb 180 [some (.inr (some a0)), some (.inl (nI 8)), some (.inl v), some (.inl (nI k)), some (.inl (nI (9 + k))), some (.inl (nI i))] [] (ra L (ch8 c k i))) 8 (mg_sweep_180 ⟨fun _ => by rw [nI_1]; exact ih2, fun hc => absurd (nleN 8 8 hc) (by omega)⟩) (fun i hi ih => ?_) 0 (by omega)
    have hb8 : rb N (ch8 c k i) := rb_z hbk _
    have h0 : c 0 i ≤ 4 := hbk.2 0 _ (by decide)
    have same : ¬ (c 0 i = 4 ∧ nmb c 8 (9 + k) = false) → ch8 c k (i + 1) = ch8 c k i := by
      intro hn
      funext q j
      unfold ch8
      by_cases h2 : q = 20 ∧ j % 4 = k ∧ j < 4 * i ∧ c 0 (j / 4) = 4 ∧ nmb c 8 (9 + k) = false
      · rw [if_pos h2, if_pos ⟨h2.1, h2.2.1, by omega, h2.2.2.2⟩]
      · rw [if_neg h2, if_neg (fun u => h2 ⟨u.1, u.2.1, by
          have h3 := u.2.1
          have h4 := u.2.2.1
          have h5 : ¬ j = 4 * i + k := fun e => hn ⟨by
            have := u.2.2.2.1
            rw [show j / 4 = i by omega] at this
            exact this, u.2.2.2.2⟩
          omega, u.2.2.2⟩)]
    refine mg_sweep_180 ⟨fun hc => absurd (leN 8 i hc) (by omega), fun _ => ⟨fun e => absurd rfl e, fun _ => ⟨i, rfl, hi, fun e => ?_, fun e => ?_⟩⟩⟩
    · rw [same (fun u => neN (c 0 i) 4 e u.1)] at ih
      rw [nI_1]
      exact ih
    · have e4 : c 0 i = 4 := eqN (c 0 i) 4 e
      refine cr_names (h := 8) hb8 (by omega) (by omega) ⟨rfl, _, rfl, fun e2 => ?_, fun e2 => ⟨4 * i + k, ixN 4 i k, by omega, ?_⟩⟩
      · have e3 : nmb c 8 (9 + k) = true := bzT e2
        rw [same (fun u => by rw [e3] at u; cases u.2)] at ih
        rw [nI_1]
        exact ih
      · have e3 : nmb c 8 (9 + k) = false := (bzN _).mp e2
        have e5 : mo_u (ra L (ch8 c k i)) 20 (4 * i + k) 0 = _ := ra_u 0 (by decide)
        have e6 : bu (ch8 c k i) 20 (4 * i + k) 0 = ch8 c k (i + 1) := by
          funext q j
          unfold bu ch8
          by_cases h1 : q = 20 ∧ j = 4 * i + k
          · rw [if_pos h1, if_pos ⟨h1.1, by omega, by omega, by rw [show j / 4 = i by omega]; exact e4, e3⟩]
          · rw [if_neg h1]
            by_cases h2 : q = 20 ∧ j % 4 = k ∧ j < 4 * i ∧ c 0 (j / 4) = 4 ∧ nmb c 8 (9 + k) = false
            · rw [if_pos h2, if_pos ⟨h2.1, h2.2.1, by omega, h2.2.2.2⟩]
            · rw [if_neg h2, if_neg (fun u => h2 ⟨u.1, u.2.1, by
                have h3 := u.1
                have h4 := u.2.1
                have h5 := u.2.2.1
                omega, u.2.2.2⟩)]
        rw [e5, e6, nI_1]
        exact ih
/-- a collection: m marks what is reached -/
theorem cr_sweep (hb : rb N b) (hh : h ≤ 8) (kk : ∀ m : Nat → Nat, (∀ x, m x ≤ 1) → (∀ x, x < 60 → (m x ≠ 0 ↔ b 6 x = h + 1 ∧ rR b h x)) → K (some (.inl (nI ((List.range 60).countP (unr b m h))))) (ra L (swp b h m))) : mo_Ok l G yy_Mo_sweep Y_Mo_sweep [.inr (some a0), .inl (nI h)] a0 ad Mb (ra L b) K := by
  refine mg_sweep (cr_reach hb (by omega) (fun m hm1 hm2 => ⟨rfl, ?_⟩))
  have k0 := kk m hm1 hm2
  unfold swp at k0
  have hbm := rb_bm hb hm1
  refine up_ind (P := fun i => mo_Z l G Y_Mo_sweep K a0 ad Mb 9 [some (.inr (some a0)), some (.inl (nI h)), some (.inl (nI ((List.range i).countP (unr b m h)))), some (.inl (nI i)), none, none] [] (ra L (frN (bm b m) (unr b m h) i))) 60 (mg_sweep_9 ⟨fun _ => ?_, fun hc => absurd (nleN 60 60 hc) (by omega)⟩) (fun i hi ih => ?_) 0 (by omega)
  · have hbf := rb_frN hbm (unr b m h) 60
    generalize frN (bm b m) (unr b m h) 60 = c at *
    have e0 : c = itm c h 0 := by
      funext q j
      exact (if_neg (fun u => by omega)).symm
    rw [e0]
    refine up_ind (P := fun i => mo_Z l G Y_Mo_sweep K a0 ad Mb 52 [some (.inr (some a0)), some (.inl (nI h)), some (.inl (nI ((List.range 60).countP (unr b m h)))), some (.inl (nI i)), none, none] [] (ra L (itm c h i))) 60 (mg_sweep_52 ⟨fun _ => cr_sweep105 (rb_z hbf _) hh k0, fun hc => absurd (nleN 60 60 hc) (by omega)⟩) (fun i hi ih => ?_) 0 (by omega)
    have hbi : rb N (itm c h i) := rb_z hbf _
    have h21 : itm c h i 21 (60 * h + i) ≤ 1 := hbi.2 21 _ (by decide)
    have ev : itm c h i 21 (60 * h + i) = c 21 (60 * h + i) := if_neg (fun u => by omega)
    have upd : ∀ v, (v = if fib c h i = false then 0 else c 21 (60 * h + i)) → bu (itm c h i) 21 (60 * h + i) v = itm c h (i + 1) := by
      intro v hv
      funext q j
      unfold bu itm
      by_cases h1 : q = 21 ∧ j = 60 * h + i
      · obtain ⟨h1, h2⟩ := h1
        subst h1
        subst h2
        rw [if_pos ⟨rfl, rfl⟩, hv]
        by_cases h3 : fib c h i = false
        · rw [if_pos h3, if_pos ⟨rfl, by omega, by omega, by rw [show 60 * h + i - 60 * h = i by omega]; exact h3⟩]
        · rw [if_neg h3, if_neg (fun u => h3 (by
            have := u.2.2.2
            rw [show 60 * h + i - 60 * h = i by omega] at this
            exact this))]
      · rw [if_neg h1]
        by_cases h2 : q = 21 ∧ 60 * h ≤ j ∧ j < 60 * h + i ∧ fib c h (j - 60 * h) = false
        · rw [if_pos h2, if_pos ⟨h2.1, h2.2.1, by omega, h2.2.2.2⟩]
        · rw [if_neg h2, if_neg (fun u => h2 ⟨u.1, u.2.1, by
            have h3 := u.1
            have h4 := u.2.1
            have h5 := u.2.2.1
            omega, u.2.2.2⟩)]
    refine mg_sweep_52 ⟨fun hc => absurd (leN 60 i hc) (by omega), fun _ => ⟨60 * h + i, ixN 60 h i, by omega, fun e => ?_, fun e => ?_⟩⟩
    · have e1 : c 21 (60 * h + i) = 0 := by
        rw [← ev]
        exact eqN (itm c h i 21 (60 * h + i)) 0 e
      have e2 : mo_u (ra L (itm c h i)) 21 (60 * h + i) 0 = _ := ra_u 0 (by decide)
      rw [e2, upd 0 (by rw [e1]; split <;> rfl), nI_1]
      exact ih
    · have e1 : c 21 (60 * h + i) = 1 := by
        have := neN (itm c h i 21 (60 * h + i)) 0 e
        omega
      refine cr_inField hbi (by omega) hi ⟨rfl, _, rfl, fun e2 => ?_, fun e2 => ?_⟩
      · have e3 : fib c h i = false := (bzN _).mp e2
        have e4 : mo_u (ra L (itm c h i)) 21 (60 * h + i) 0 = _ := ra_u 0 (by decide)
        rw [e4, upd 0 (by rw [if_pos e3]), nI_1]
        exact ih
      · have e3 : fib c h i = true := bzT e2
        have e4 : mo_u (ra L (itm c h i)) 21 (60 * h + i) 1 = _ := ra_u 1 (by decide)
        rw [e4, upd 1 (by rw [if_neg (by rw [e3]; decide), e1]), nI_1]
        exact ih
  · have hbi := rb_frN hbm (unr b m h) i
    have h6 : frN (bm b m) (unr b m h) i 6 i ≤ 13 := hbi.2 6 i (by decide)
    have h24 : frN (bm b m) (unr b m h) i 24 i ≤ 1 := hbi.2 24 i (by decide)
    have hz := fzR_N (bm b m) (unr b m h) i (by omega)
    have e6 : frN (bm b m) (unr b m h) i 6 i = b 6 i := by
      rw [hz.1 i, if_neg (fun u => by
        have this : (decide (i < i) && unr b m h i) = true := u.2
        rw [decide_eq_false (Nat.lt_irrefl i)] at this
        cases this)]
      rfl
    have e24 : frN (bm b m) (unr b m h) i 24 i = m i := hz.2.1 24 i (by decide) (by decide) (by decide)
    have ih2 : mo_Z l G Y_Mo_sweep K a0 ad Mb 9 [some (.inr (some a0)), some (.inl (nI h)), some (.inl (nI ((List.range (i + 1)).countP (unr b m h)))), some (.inl (nI (i + 1))), none, none] [] (ra L (if unr b m h i = true then fr1 (frN (bm b m) (unr b m h) i) i else frN (bm b m) (unr b m h) i)) := ih
    rw [cnt_s] at ih2
    have hu : unr b m h i = (decide (b 6 i = h + 1) && decide (m i = 0)) := rfl
    refine mg_sweep_9 ⟨fun hc => absurd (leN 60 i hc) (by omega), fun _ => ⟨i, rfl, hi, fun e => ?_, fun e => ⟨fun e2 => ?_, fun e2 => ?_⟩⟩⟩
    · rw [nI_1] at e
      have e1 : ¬ b 6 i = h + 1 := by
        rw [← e6]
        exact neN (frN (bm b m) (unr b m h) i 6 i) (h + 1) e
      rw [decide_eq_false e1, Bool.false_and] at hu
      rw [if_neg (by rw [hu]; decide), if_neg (by rw [hu]; decide)] at ih2
      rw [nI_1]
      exact ih2
    · have e1 : ¬ m i = 0 := by
        rw [← e24]
        exact neN (frN (bm b m) (unr b m h) i 24 i) 0 e2
      rw [decide_eq_false e1, Bool.and_false] at hu
      rw [if_neg (by rw [hu]; decide), if_neg (by rw [hu]; decide)] at ih2
      rw [nI_1]
      exact ih2
    · rw [nI_1] at e
      have e1 : b 6 i = h + 1 := by
        rw [← e6]
        exact eqN (frN (bm b m) (unr b m h) i 6 i) (h + 1) e
      have e3 : m i = 0 := by
        rw [← e24]
        exact eqN (frN (bm b m) (unr b m h) i 24 i) 0 e2
      rw [decide_eq_true e1, decide_eq_true e3] at hu
      rw [if_pos (by rw [hu]; decide), if_pos (by rw [hu]; decide)] at ih2
      refine cr_free hbi hi ⟨rfl, ?_⟩
      rw [nI_1, nI_1]
      exact ih2
end RG
