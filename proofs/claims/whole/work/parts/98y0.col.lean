/-! CLASS AND REFERENCE: a whole collection -/
section SY0
variable {D D1 : ph_D} {b b1 : rB} {L : Nat → Int32} {pg ob : Nat → Nat} {N n p h x y g k t : Nat}
theorem d_A.gst (hA : d_A D) (n : Nat) : d_A (gst D n) := by
  show d_A (if _ then _ else _)
  split
  · exact ((hA.ofp (by decide)).fr _).ep _
  · exact hA
theorem sR.gn (hs : sR D b L pg ob) (hv : iV b) (hb : rb N b) (hA : d_A D) : ∀ n, n ≤ 4 → sR (d_gn D n) (vnN b n) L pg ob ∧ iV (vnN b n) ∧ d_A (d_gn D n) ∧ ∀ k, k < n → vnN b n 15 k = 2 → ∃ p, p < 8 ∧ vnN b n 20 (4 * p + k) ≠ 0 := by
  intro n
  induction n with
  | zero => intro _; exact ⟨hs, hv, hA, fun k hk => by omega⟩
  | succ n ih =>
    intro hn
    obtain ⟨h1, h2, h3, h4⟩ := ih (by omega)
    obtain ⟨g1, g2, g3⟩ := h1.van h2 (rb_vnN hb n) h3 (show n < 4 by omega)
    refine ⟨g1, g2, h3.gst n, fun k hk e => ?_⟩
    by_cases ek : k = n
    · subst ek
      exact g3 e
    · have e : vn1 (vnN b n) n 15 k = 2 := e
      have e15 : vn1 (vnN b n) n 15 k = vnN b n 15 k := by
        unfold vn1
        split
        · rw [bu_m ek]
          show (if 15 = 20 ∧ _ then 0 else frN (vnN b n) _ 60 15 k) = _
          rw [if_neg (fun u => by cases u.1)]
          exact (fzR_N (vnN b n) _ 60 (Nat.le_refl 60)).2.1 15 k (by decide) (by decide) (by decide)
        · rfl
      rw [e15] at e
      obtain ⟨p, hp, h5⟩ := h4 k (by omega) e
      refine ⟨p, hp, ?_⟩
      have e20 : vn1 (vnN b n) n 20 (4 * p + k) = vnN b n 20 (4 * p + k) := by
        unfold vn1
        split
        · rw [bu_n (by decide)]
          show (if 20 = 20 ∧ (4 * p + k) % 4 = n ∧ 4 * p + k < 4 * 8 then 0 else frN (vnN b n) _ 60 20 (4 * p + k)) = _
          rw [if_neg (fun u => by omega)]
          exact (fzR_N (vnN b n) _ 60 (Nat.le_refl 60)).2.1 20 _ (by decide) (by decide) (by decide)
        · rfl
      show vn1 (vnN b n) n 20 (4 * p + k) ≠ 0
      rw [e20]
      exact h5
/-- a collection of the heap h -/
theorem sR.col (hs : sR D b L pg ob) (hv : iV b) (hb : rb N b) (hA : d_A D) (hh : h = 8 ∨ (h < 8 ∧ lv b h)) {m : Nat → Nat} (hm : rmk b h m) {rs : List Nat} (hr : ∀ a, a ∈ rs ↔ a ∈ D.1.2 ∧ d_h D a = nI h ∧ d_Re D (nI h) a) :
    sR (d_col D h rs) (swp b h m) L pg ob ∧ iV (swp b h m) ∧ d_A (d_col D h rs) ∧ vF (swp b h m) := by
  have h8 : h ≤ 8 := by omega
  obtain ⟨h1, h2⟩ := hs.colA hv hb hA h8 hm hr
  have hA1 := hA.run h rs
  have hb1 : rb N (itm (frN (bm b m) (unr b m h) 60) h 60) := rb_z (rb_frN (rb_bm hb hm.1) (unr b m h) 60) _
  have hlv : h < 8 → lv b h → lv (itm (frN (bm b m) (unr b m h) 60) h 60) h := fun _ hl => by
    have e : itm (frN (bm b m) (unr b m h) 60) h 60 0 h = b 0 h := (fzR_N (bm b m) (unr b m h) 60 (Nat.le_refl 60)).2.1 0 h (by decide) (by decide) (by decide)
    exact (lv_c e).mpr hl
  unfold swp d_col
  by_cases e : h = 8
  · subst e
    rw [if_pos rfl]
    obtain ⟨h3, h4⟩ := h1.colK h2 hb1
    obtain ⟨g1, g2, g3, g4⟩ := h3.gn h4 (rb_chN hb1 8 4) (hA1.cd 4) 4 (Nat.le_refl 4)
    exact ⟨g1, g2, g3, g4⟩
  · rw [if_neg e]
    obtain ⟨q1, q2⟩ := hh.resolve_left e
    obtain ⟨h3, h4⟩ := h1.colP h2 hb1 q1 (hlv q1 q2)
    obtain ⟨g1, g2, g3, g4⟩ := h3.gn h4 (rb_chN hb1 h 4) (hA1.ofi (by decide) (by decide)) 4 (Nat.le_refl 4)
    exact ⟨g1, g2, g3, g4⟩
theorem sR.cnt (hs : sR D b L pg ob) (hv : iV b) (hb : rb N b) (hh : h ≤ 8) {m : Nat → Nat} (hm : rmk b h m) {rs : List Nat} (hr : ∀ a, a ∈ rs ↔ a ∈ D.1.2 ∧ d_h D a = nI h ∧ d_Re D (nI h) a) : (D.1.2.filter (fun c => !d_kp D (nI h) rs c)).length = (List.range 60).countP (unr b m h) := by
  rw [← List.countP_eq_length_filter]
  refine hs.1.cnt (fun x hx h0 => ?_) (fun x hx h0 => ?_)
  · rw [hs.kpe hv hb hh hm hr hx h0, Bool.not_not]
  · have := (unr_t.mp h0).1
    omega
theorem vnN_k (b : rB) {q : Nat} (h6 : q ≠ 6) (h11 : q ≠ 11) (h21 : q ≠ 21) (h20 : q ≠ 20) (h15 : q ≠ 15) (j : Nat) : ∀ n, vnN b n q j = b q j
  | 0 => rfl
  | n + 1 => (vn1_k (vnN b n) n h6 h11 h21 h20 h15 j).trans (vnN_k b h6 h11 h21 h20 h15 j n)
end SY0
