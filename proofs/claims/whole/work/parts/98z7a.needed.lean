/-! CLASS AND REFERENCE: a frozen heap is needed by somebody -/
def vN (b : rB) : Prop := ∀ k, k < 4 → b 15 k = 2 → ndb b k = true
section SZ7A
variable {D D1 D2 : ph_D} {b b1 b2 c f : rB} {L : Nat → Int32} {pg ob U T : Nat → Nat} {N n p h x y g k r v u s q a d : Nat} {t : Int32}
theorem vN.vf (hN : vN b) (hS : vS b) : vF b := by
  intro k hk h2
  rcases ndb_t.mp (hN k hk h2) with w | ⟨p, w1, w2, w3⟩
  · obtain ⟨y, y1, y2, y3⟩ := nmb_t.mp w
    obtain ⟨p, g1, g2, g3⟩ := hS.2.2.2.2 y k y1 hk y2 (by omega)
    exact ⟨p, g1, g3⟩
  · exact ⟨p, w1, ((hS.1 p k w1 hk).mp w3).2⟩
/-- what another heap's going leaves to the heap k -/
theorem vn1_o (hG : vG b) (hk : k < 4) (hn : n < 4) (hne : k ≠ n) : vn1 b n 15 k = b 15 k ∧ (ndb b k = true → ndb (vn1 b n) k = true) ∧ ∀ g, g < 24 → (vn1 b n 11 g = 10 + k ↔ b 11 g = 10 + k) := by
  unfold vn1
  split
  · have hz := fzR_N b (fun x => decide (b 6 x = 10 + n)) 60 (Nat.le_refl 60)
    have hF : ∀ x, x < 60 → ((fun x => decide (x < 60) && decide (b 6 x = 10 + n)) x = false ↔ ¬ b 6 x = 10 + n) := fun x hx => by
      show (decide (x < 60) && decide (b 6 x = 10 + n)) = false ↔ _
      rw [decide_eq_true hx, Bool.true_and, decide_eq_false_iff_not]
    have hk' : ∀ q j, q ≠ 6 → q ≠ 11 → q ≠ 21 → frN b (fun x => decide (b 6 x = 10 + n)) 60 q j = b q j := hz.2.1
    generalize frN b (fun x => decide (b 6 x = 10 + n)) 60 = e at *
    have r1 : ∀ q j, q ≠ 15 → q ≠ 20 → bu (py0 e n 8) 15 n 3 q j = e q j := fun q j h1 h2 => by
      rw [bu_n h1]
      exact if_neg (fun u => h2 u.1)
    refine ⟨?_, fun w => ?_, fun g hg => ?_⟩
    · rw [bu_m hne]
      exact hk' 15 k (by decide) (by decide) (by decide)
    · rcases ndb_t.mp w with w | ⟨p, w1, w2, w3⟩
      · obtain ⟨y, y1, y2, y3⟩ := nmb_t.mp w
        have hf := (hF y y1).mpr (by omega)
        refine ndb_t.mpr (Or.inl (nmb_t.mpr ⟨y, y1, ?_, ?_⟩))
        · rw [r1 21 _ (by decide) (by decide), hz.2.2.1 8 y (by omega) y1, hf, if_neg (by decide)]
          exact y2
        · rw [r1 6 _ (by decide) (by decide), hz.six hf]
          exact y3
      · refine ndb_t.mpr (Or.inr ⟨p, w1, (lv_c ((r1 0 p (by decide) (by decide)).trans (hk' 0 p (by decide) (by decide) (by decide)))).mpr w2, ?_⟩)
        rw [r1 19 _ (by decide) (by decide), hk' 19 _ (by decide) (by decide) (by decide)]
        exact w3
    · rw [r1 11 g (by decide) (by decide)]
      constructor
      · intro w
        rw [← (hz.2.2.2.2.2 g).resolve_left (by omega)]
        exact w
      · intro w
        obtain ⟨_, y, y1, y2, y3⟩ := hG.2.1 g (by omega)
        have hy := (hG.1 y y1 y2).1
        rw [y3] at hy
        have hf := (hF y y1).mpr (by omega)
        rw [hz.2.2.2.1 g ⟨y, y1, by rw [hz.six hf]; exact y2, y3⟩]
        exact w
  · exact ⟨rfl, fun w => w, fun _ _ => Iff.rfl⟩
theorem vn1_s (h : ndb b k = true) : vn1 b k = b := if_neg (fun w => by rw [h] at w; cases w.2)
/-- the heap k that is needed stays -/
theorem vnN_o (hs : sR D b L pg ob) (hv : iV b) (hb : rb N b) (hA : d_A D) (hk : k < 4) (h2 : b 15 k = 2) (hd : ndb b k = true) : ∀ n, n ≤ 4 → vnN b n 15 k = 2 ∧ ndb (vnN b n) k = true ∧ ∀ g, g < 24 → (vnN b n 11 g = 10 + k ↔ b 11 g = 10 + k) := by
  intro n
  induction n with
  | zero => intro _; exact ⟨h2, hd, fun _ _ => Iff.rfl⟩
  | succ n ih =>
    intro hn
    obtain ⟨i1, i2, i3⟩ := ih (by omega)
    have hG := (hs.gn hv hb hA n (by omega)).2.1.2.1
    show vn1 (vnN b n) n 15 k = 2 ∧ ndb (vn1 (vnN b n) n) k = true ∧ ∀ g, g < 24 → (vn1 (vnN b n) n 11 g = 10 + k ↔ b 11 g = 10 + k)
    by_cases e : k = n
    · rw [← e]
      rw [← e] at i1 i2 i3
      rw [vn1_s i2]
      exact ⟨i1, i2, i3⟩
    · obtain ⟨o1, o2, o3⟩ := vn1_o hG hk (show n < 4 by omega) e
      exact ⟨o1.trans i1, o2 i2, fun g hg => (o3 g hg).trans (i3 g hg)⟩
theorem vN_gn (hs : sR D b L pg ob) (hv : iV b) (hb : rb N b) (hA : d_A D) : vN (vnN b 4) := by
  have main : ∀ n, n ≤ 4 → ∀ k, k < n → vnN b n 15 k = 2 → ndb (vnN b n) k = true := by
    intro n
    induction n with
    | zero => intro _ k hk; omega
    | succ n ih =>
      intro hn k hk e
      have ih := ih (by omega)
      have hG := (hs.gn hv hb hA n (by omega)).2.1.2.1
      show ndb (vn1 (vnN b n) n) k = true
      have e : vn1 (vnN b n) n 15 k = 2 := e
      by_cases ek : k = n
      · rw [ek] at e ⊢
        unfold vn1 at e ⊢
        by_cases c : vnN b n 15 n = 2 ∧ ndb (vnN b n) n = false
        · rw [if_pos c, bu_s] at e
          cases e
        · rw [if_neg c] at e ⊢
          cases t : ndb (vnN b n) n with
          | true => rfl
          | false => exact absurd ⟨e, t⟩ c
      · obtain ⟨o1, o2, _⟩ := vn1_o hG (show k < 4 by omega) (show n < 4 by omega) ek
        exact o2 (ih k (by omega) (o1.symm.trans e))
  exact fun k hk e => main 4 (by omega) k hk e
theorem vN.col (hs : sR D b L pg ob) (hv : iV b) (hb : rb N b) (hA : d_A D) (hh : h = 8 ∨ (h < 8 ∧ lv b h)) {m : Nat → Nat} (hm : rmk b h m) {rs : List Nat} (hr : ∀ a, a ∈ rs ↔ a ∈ D.1.2 ∧ d_h D a = nI h ∧ d_Re D (nI h) a) : vN (swp b h m) := by
  have h8 : h ≤ 8 := by omega
  obtain ⟨h1, h2⟩ := hs.colA hv hb hA h8 hm hr
  have hA1 := hA.run h rs
  have hb1 : rb N (itm (frN (bm b m) (unr b m h) 60) h 60) := rb_z (rb_frN (rb_bm hb hm.1) (unr b m h) 60) _
  have hlv : h < 8 → lv b h → lv (itm (frN (bm b m) (unr b m h) 60) h 60) h := fun _ hl => by
    have e : itm (frN (bm b m) (unr b m h) 60) h 60 0 h = b 0 h := (fzR_N (bm b m) (unr b m h) 60 (Nat.le_refl 60)).2.1 0 h (by decide) (by decide) (by decide)
    exact (lv_c e).mpr hl
  unfold swp
  by_cases e : h = 8
  · subst e
    obtain ⟨h3, h4⟩ := h1.colK h2 hb1
    exact vN_gn h3 h4 (rb_chN hb1 8 4) (hA1.cd 4)
  · obtain ⟨q1, q2⟩ := hh.resolve_left e
    obtain ⟨h3, h4⟩ := h1.colP h2 hb1 q1 (hlv q1 q2)
    exact vN_gn h3 h4 (rb_chN hb1 h 4) (hA1.ofi (by decide) (by decide))
/-- a collection of p leaves a heap that p does not share as it is -/
theorem swp_o (hs : sR D b L pg ob) (hv : iV b) (hb : rb N b) (hA : d_A D) (hN : vN b) (hp : p < 8) (hl : lv b p) {m : Nat → Nat} (hm : rmk b p m) {rs : List Nat} (hr : ∀ a, a ∈ rs ↔ a ∈ D.1.2 ∧ d_h D a = nI p ∧ d_Re D (nI p) a) (hk : k < 4) (h2 : b 15 k = 2) (h19 : b 19 (4 * p + k) = 0) : swp b p m 15 k = 2 ∧ pc (swp b p m) (9 + k) = pc b (9 + k) := by
  obtain ⟨h1, hv1⟩ := hs.colA hv hb hA (show p ≤ 8 by omega) hm hr
  have hA1 := hA.run p rs
  have hb1 : rb N (itm (frN (bm b m) (unr b m p) 60) p 60) := rb_z (rb_frN (rb_bm hb hm.1) (unr b m p) 60) _
  have hz := fzR_N (bm b m) (unr b m p) 60 (Nat.le_refl 60)
  have hFk : ∀ y, y < 60 → b 6 y = 10 + k → (fun x => decide (x < 60) && unr b m p x) y = false := fun y hy e => by
    show (decide (y < 60) && unr b m p y) = false
    have hu : unr b m p y = false := Bool.eq_false_iff.mpr (fun w => by have := (unr_t.mp w).1; omega)
    rw [hu, Bool.and_false]
  have hlv : lv (itm (frN (bm b m) (unr b m p) 60) p 60) p := by
    have e : itm (frN (bm b m) (unr b m p) 60) p 60 0 p = b 0 p := hz.2.1 0 p (by decide) (by decide) (by decide)
    exact (lv_c e).mpr hl
  obtain ⟨h3, hv3⟩ := h1.colP hv1 hb1 hp hlv
  have hcp := chN_p (b := itm (frN (bm b m) (unr b m p) 60) p 60) hp 4
  have cn : ∀ q, q ≠ 19 → q ≠ 20 → ∀ j, chN (itm (frN (bm b m) (unr b m p) 60) p 60) p 4 q j = itm (frN (bm b m) (unr b m p) 60) p 60 q j := fun q a1 a2 j => by rw [hcp, if_neg (fun w => by omega)]
  have inn : ∀ q, q ≠ 21 → ∀ j, itm (frN (bm b m) (unr b m p) 60) p 60 q j = frN (bm b m) (unr b m p) 60 q j := fun q a1 j => if_neg (fun w => a1 w.1)
  have e15 : chN (itm (frN (bm b m) (unr b m p) 60) p 60) p 4 15 k = b 15 k := (cn 15 (by decide) (by decide) k).trans ((inn 15 (by decide) k).trans (hz.2.1 15 k (by decide) (by decide) (by decide)))
  have e0 : ∀ q, chN (itm (frN (bm b m) (unr b m p) 60) p 60) p 4 0 q = b 0 q := fun q => (cn 0 (by decide) (by decide) q).trans ((inn 0 (by decide) q).trans (hz.2.1 0 q (by decide) (by decide) (by decide)))
  have e11 : ∀ g, g < 24 → (chN (itm (frN (bm b m) (unr b m p) 60) p 60) p 4 11 g = 10 + k ↔ b 11 g = 10 + k) := fun g hg => by
    rw [cn 11 (by decide) (by decide), inn 11 (by decide)]
    constructor
    · intro w
      have := (hz.2.2.2.2.2 g).resolve_left (by omega)
      rw [this] at w
      exact w
    · intro w
      obtain ⟨_, y, y1, y2, y3⟩ := hv.2.1.2.1 g (by omega)
      have hy := (hv.2.1.1 y y1 y2).1
      rw [y3] at hy
      rw [hz.2.2.2.1 g ⟨y, y1, by rw [hz.six (hFk y y1 (by omega))]; exact y2, y3⟩]
      exact w
  have hd : ndb (chN (itm (frN (bm b m) (unr b m p) 60) p 60) p 4) k = true := by
    rcases ndb_t.mp (hN k hk h2) with w | ⟨q, w1, w2, w3⟩
    · obtain ⟨y, y1, y2, y3⟩ := nmb_t.mp w
      have hf := hFk y y1 (by omega)
      refine ndb_t.mpr (Or.inl (nmb_t.mpr ⟨y, y1, ?_, ?_⟩))
      · rw [cn 21 (by decide) (by decide), itm_21 _ p 8 y y1, if_neg (fun w => by omega), hz.2.2.1 8 y (by omega) y1, hf, if_neg (by decide)]
        exact y2
      · rw [cn 6 (by decide) (by decide), inn 6 (by decide), hz.six hf]
        exact y3
    · have hqp : q ≠ p := fun w => by
        rw [w] at w3
        exact w3 h19
      refine ndb_t.mpr (Or.inr ⟨q, w1, (lv_c (e0 q)).mpr w2, ?_⟩)
      rw [hcp, if_neg (fun w => by omega), inn 19 (by decide), hz.2.1 19 _ (by decide) (by decide) (by decide)]
      exact w3
  obtain ⟨o1, o2, o3⟩ := vnN_o h3 hv3 (rb_chN hb1 p 4) (hA1.ofi (by decide) (by decide)) hk (e15.trans h2) hd 4 (by omega)
  refine ⟨o1, ?_⟩
  unfold pc
  refine List.countP_congr (fun g hg => ?_)
  have hg := List.mem_range.mp hg
  rw [decide_eq_true_eq, decide_eq_true_eq, show 9 + k + 1 = 10 + k by omega]
  exact (o3 g hg).trans (e11 g hg)
theorem vN.die (hs : sR D b L pg ob) (hv : iV b) (hb : rb N b) (hN : N + 120 < 1000000000) (hA : d_A D) (hp : p < 8) (hl : lv b p) : vN (dth b p) := by
  obtain ⟨E, c, h1, h2, h3, h4, _, h5⟩ := (hs.die hv hb hN hA hp hl).2.2.2.2
  rw [h5]
  exact vN_gn h1 h2 h3 h4
end SZ7A
