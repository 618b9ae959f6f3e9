/-! CLASS AND REFERENCE: a process is made -/
section SZ4
variable {D D1 : ph_D} {b b1 b2 : rB} {L : Nat → Int32} {pg ob U T : Nat → Nat} {N n p h x y g k t r v u f c s hd m q : Nat}
theorem rsp_n {i j : Nat} (h0 : i ≠ 0) (h1 : i ≠ 1) (h2 : i ≠ 2) (h3 : i ≠ 3) (h4 : i ≠ 4) : rsp b p s hd i j = b i j := by
  unfold rsp
  rw [bu_n h4, bu_n h3, bu_n h2, bu_n h1, bu_n h0]
theorem rsp_0 (j : Nat) : rsp b p s hd 0 j = if j = b 4 0 then 1 else b 0 j := by
  unfold rsp
  rw [bu_n (by decide), bu_n (by decide), bu_n (by decide), bu_n (by decide)]
  unfold bu
  by_cases e : j = b 4 0
  · rw [if_pos ⟨rfl, e⟩, if_pos e]
  · rw [if_neg (fun w => e w.2), if_neg e]
theorem rsp_1 (j : Nat) : rsp b p s hd 1 j = if j = b 4 0 then p else b 1 j := by
  unfold rsp
  rw [bu_n (by decide), bu_n (by decide), bu_n (by decide)]
  by_cases e : j = b 4 0
  · rw [if_pos e, e, bu_s]
  · rw [if_neg e, bu_m e, bu_n (by decide)]
theorem rsp_2 (j : Nat) : rsp b p s hd 2 j = if j = b 4 0 then s else b 2 j := by
  unfold rsp
  rw [bu_n (by decide), bu_n (by decide)]
  by_cases e : j = b 4 0
  · rw [if_pos e, e, bu_s]
  · rw [if_neg e, bu_m e, bu_n (by decide), bu_n (by decide)]
theorem rsp_3 (j : Nat) : rsp b p s hd 3 j = if j = b 4 0 then hd else b 3 j := by
  unfold rsp
  rw [bu_n (by decide)]
  by_cases e : j = b 4 0
  · rw [if_pos e, e, bu_s]
  · rw [if_neg e, bu_m e, bu_n (by decide), bu_n (by decide), bu_n (by decide)]
theorem rsp_4 : rsp b p s hd 4 0 = b 4 0 + 1 := bu_s _ _ _ _
theorem sR.spn (hs : sR D b L pg ob) (hv : iV b) (hp : p < 8) (hl : lv b p) (hm : b 4 0 < 8) (q s hd : Nat) : sR (d_sp D (b 4 0) q (nI p) (nI s) (nI hd)) (rsp b p s hd) L pg ob := by
  obtain ⟨sx, so, sg, sp, sq, sh⟩ := hs
  obtain ⟨hO, hG, hS, hB, hT, hU⟩ := hv
  have hnl : ¬ lv b (b 4 0) := fun w => by
    have := (hT.2.2.1 (b 4 0) hm).mp w.1
    omega
  have hr : ∀ k j, k < 4 ∨ k = 8 → (d_sp D (b 4 0) q (nI p) (nI s) (nI hd)).2.2 k j = D.2.2 k j := fun k j hk => by
    show (if 4 ≤ k ∧ k < 8 ∧ j = b 4 0 then none else if k = 9 ∧ j = b 4 0 then some q else D.2.2 k j) = _
    rw [if_neg (fun w => by omega), if_neg (fun w => by omega)]
  have hi : ∀ k j, k < 6 → (d_sp D (b 4 0) q (nI p) (nI s) (nI hd)).2.1 k j = D.2.1 k j := fun k j hk => by
    show (if k = 6 ∧ j = b 4 0 then 1 else if k = 7 ∧ j = b 4 0 then nI p else if k = 8 ∧ j = b 4 0 then nI s else if k = 9 ∧ j = b 4 0 then nI hd else if k = 10 ∧ j = b 4 0 then -1 else if k = 11 ∧ j = b 4 0 then 0 else if k = 12 ∧ j = 0 then nI (b 4 0 + 1) else D.2.1 k j) = _
    rw [if_neg (fun w => by omega), if_neg (fun w => by omega), if_neg (fun w => by omega), if_neg (fun w => by omega), if_neg (fun w => by omega), if_neg (fun w => by omega), if_neg (fun w => by omega)]
  have hi2 : ∀ k j, j ≠ b 4 0 → ¬ (k = 12 ∧ j = 0) → (d_sp D (b 4 0) q (nI p) (nI s) (nI hd)).2.1 k j = D.2.1 k j := fun k j hk h12 => by
    show (if k = 6 ∧ j = b 4 0 then 1 else if k = 7 ∧ j = b 4 0 then nI p else if k = 8 ∧ j = b 4 0 then nI s else if k = 9 ∧ j = b 4 0 then nI hd else if k = 10 ∧ j = b 4 0 then -1 else if k = 11 ∧ j = b 4 0 then 0 else if k = 12 ∧ j = 0 then nI (b 4 0 + 1) else D.2.1 k j) = _
    rw [if_neg (fun w => hk w.2), if_neg (fun w => hk w.2), if_neg (fun w => hk w.2), if_neg (fun w => hk w.2), if_neg (fun w => hk w.2), if_neg (fun w => hk w.2), if_neg h12]
  have hr2 : ∀ k j, j ≠ b 4 0 → (d_sp D (b 4 0) q (nI p) (nI s) (nI hd)).2.2 k j = D.2.2 k j := fun k j hk => by
    show (if 4 ≤ k ∧ k < 8 ∧ j = b 4 0 then none else if k = 9 ∧ j = b 4 0 then some q else D.2.2 k j) = _
    rw [if_neg (fun w => hk w.2.2), if_neg (fun w => hk w.2)]
  have hrb : ∀ j, rbk (rsp b p s hd) j 4 = rbk b j 4 := fun j => rbk_c (fun k _ => ⟨rsp_n (by decide) (by decide) (by decide) (by decide) (by decide), rsp_n (by decide) (by decide) (by decide) (by decide) (by decide)⟩) j 4 (by omega)
  have hn : ∀ i, i ≠ 0 → i ≠ 1 → i ≠ 2 → i ≠ 3 → i ≠ 4 → ∀ j, rsp b p s hd i j = b i j := fun i a0 a1 a2 a3 a4 j => rsp_n a0 a1 a2 a3 a4
  refine ⟨sx.cong rfl (fun x => hn 6 (by decide) (by decide) (by decide) (by decide) (by decide) x), fun x hx h0 => ?_, sg.cong rfl (fun g => hn 11 (by decide) (by decide) (by decide) (by decide) (by decide) g) (fun g => hn 13 (by decide) (by decide) (by decide) (by decide) (by decide) g), sp.cong (fun j => hi 0 j (by decide)) (fun j => hi 1 j (by decide)) (fun k hk j => hn k (by omega) (by omega) (by omega) (by omega) (by omega) j), ⟨?_, fun j hj => ?_, fun j hj => ?_⟩, sh.cong ?_ (fun j => hr 8 j (Or.inr rfl)) (fun k hk j => hn k (by omega) (by omega) (by omega) (by omega) (by omega) j)⟩
  · rw [hn 6 (by decide) (by decide) (by decide) (by decide) (by decide)] at h0
    exact (so x hx h0).cong (fun k hk j => hi k j (by omega)) (fun k hk j => hr k j (Or.inl hk)) (fun k hk j => hn k (by omega) (by omega) (by omega) (by omega) (by omega) j)
  · rw [rsp_4]
    rfl
  · rw [rsp_0]
    by_cases e : j = b 4 0
    · rw [if_pos e, e]
      exact if_pos ⟨rfl, rfl⟩
    · rw [if_neg e, hi2 6 j e (fun w => by cases w.1)]
      exact sq.2.1 j hj
  · rw [rsp_4] at hj
    by_cases e : j = b 4 0
    · subst e
      refine ⟨fun _ => ?_, ?_, ?_, ?_, fun i => ?_, fun r h4 => ?_⟩
      · rw [rsp_1, if_pos rfl]
        exact if_pos ⟨rfl, rfl⟩
      · rw [rsp_2, if_pos rfl]
        exact if_pos ⟨rfl, rfl⟩
      · rw [rsp_3, if_pos rfl]
        exact if_pos ⟨rfl, rfl⟩
      · rw [hrb, rbk_no (fun k hk w => hnl (by rw [← w.2]; exact hB.2.1 k hk w.1)), if_pos rfl]
        exact if_pos ⟨rfl, rfl⟩
      · have e11 : (d_sp D (b 4 0) q (nI p) (nI s) (nI hd)).2.1 11 (b 4 0) = 0 := if_pos ⟨rfl, rfl⟩
        rw [e11, bb_0]
        symm
        refine Bool.eq_false_iff.mpr (fun w => ?_)
        obtain ⟨w1, w2, w3⟩ := b9.mp w
        rw [hn 20 (by decide) (by decide) (by decide) (by decide) (by decide)] at w3
        have := (hT.2.2.1 (b 4 0) hm).mp (hS.2.1 (b 4 0) (i - 9) hm (by omega) w3).2
        omega
      · rw [hn 5 (by decide) (by decide) (by decide) (by decide) (by decide), hO.2.2.2.2 (b 4 0) r hm h4 hnl]
        exact if_pos ⟨by omega, by omega, rfl⟩
    · obtain ⟨q1, q2, q3, q4, q5, q6⟩ := sq.2.2 j (by omega)
      refine ⟨fun w => by rw [rsp_1, if_neg e, hi2 7 j e (fun w => by cases w.1)]; exact q1 w, by rw [rsp_2, if_neg e, hi2 8 j e (fun w => by cases w.1)]; exact q2, by rw [rsp_3, if_neg e, hi2 9 j e (fun w => by cases w.1)]; exact q3, by rw [hrb, hi2 10 j e (fun w => by cases w.1)]; exact q4, fun i => by rw [hn 20 (by decide) (by decide) (by decide) (by decide) (by decide), hi2 11 j e (fun w => by cases w.1)]; exact q5 i, fun r h4 => by rw [hn 5 (by decide) (by decide) (by decide) (by decide) (by decide), hr2 _ j e]; exact q6 r h4⟩
  · show (if 12 = 6 ∧ 1 = b 4 0 then 1 else if 12 = 7 ∧ 1 = b 4 0 then nI p else if 12 = 8 ∧ 1 = b 4 0 then nI s else if 12 = 9 ∧ 1 = b 4 0 then nI hd else if 12 = 10 ∧ 1 = b 4 0 then -1 else if 12 = 11 ∧ 1 = b 4 0 then 0 else if 12 = 12 ∧ 1 = 0 then nI (b 4 0 + 1) else D.2.1 12 1) = _
    rw [if_neg (fun w => by cases w.1), if_neg (fun w => by cases w.1), if_neg (fun w => by cases w.1), if_neg (fun w => by cases w.1), if_neg (fun w => by cases w.1), if_neg (fun w => by cases w.1), if_neg (fun w => by cases w.2)]
theorem vU.spn (hv : iV b) (hb : rb N b) (hp : p < 8) (hl : lv b p) (hm : b 4 0 < 8) (hs24 : s ≤ 24) (hroom : hd = 0 ∨ ∃ U T, (∀ n, n < 8 → wkE b U T n) ∧ nI s ≤ rsn b U p) : vU (rsp b p s hd) := by
  obtain ⟨hO, hG, hS, hB, hT, hU⟩ := hv
  have hpm := lv_made hT hp hl
  have hbp : vUo b (fup (ow b) p (ow b p + if hd = 0 then 0 else s)) := by
    by_cases c : hd = 0
    · rw [if_pos c]
      refine vUo_c hU (fun n _ => ?_)
      unfold fup
      split
      · rename_i e
        rw [e]
        omega
      · rfl
    · rw [if_neg c]
      obtain ⟨U, T, h1, h2⟩ := hroom.resolve_left c
      exact bump hb hT hU h1 hp hl hs24 h2
  have hnl : ¬ lv b (b 4 0) := fun w => by
    have := (hT.2.2.1 (b 4 0) hm).mp w.1
    omega
  have hun : ∀ c, c < 8 → b 4 0 ≤ c → b 0 c = 0 := fun c hc h => Nat.eq_zero_of_not_pos (fun w => by
    have := (hT.2.2.1 c hc).mp w
    omega)
  have ho0 : ow b (b 4 0) = 0 := Nat.eq_zero_of_not_pos (fun w => by
    have := ow_made hG hS hm w
    have := hun (b 4 0) hm (Nat.le_refl _)
    omega)
  generalize hd2 : (if hd = 0 then 0 else s) = d at *
  obtain ⟨U2, T2, _, hE2⟩ := wkO_ex b (fup (ow b) p (ow b p + d))
  have hlv : ∀ n, n ≠ b 4 0 → lvb (rsp b p s hd) n = lvb b n := fun n hn => by
    unfold lvb
    rw [rsp_0, if_neg hn]
  have hchd : ∀ n c, c ≠ b 4 0 → chd (rsp b p s hd) (fup T2 (b 4 0) 1) n c = chd b T2 n c := fun n c hc => by
    unfold chd
    rw [rsp_0, rsp_1, if_neg hc, if_neg hc, show fup T2 (b 4 0) 1 c = T2 c from if_neg hc]
  have hchm : ∀ n, chd (rsp b p s hd) (fup T2 (b 4 0) 1) n (b 4 0) = true ↔ n = p := fun n => by
    rw [chd_t, rsp_0, rsp_1, if_pos rfl, if_pos rfl, show fup T2 (b 4 0) 1 (b 4 0) = 1 from if_pos rfl]
    exact ⟨fun w => w.2.2.1.symm, fun w => ⟨by omega, by omega, w.symm, by omega⟩⟩
  have hwt : ∀ n c, c ≠ b 4 0 → wt (rsp b p s hd) (fup U2 (b 4 0) 0) (fup T2 (b 4 0) 1) n c = wt b U2 T2 n c := fun n c hc => by
    unfold wt
    rw [hchd n c hc, rsp_3, rsp_2, if_neg hc, if_neg hc, show fup U2 (b 4 0) 0 c = U2 c from if_neg hc]
  have hwm : ∀ n, wt (rsp b p s hd) (fup U2 (b 4 0) 0) (fup T2 (b 4 0) 1) n (b 4 0) = wt b U2 T2 n (b 4 0) + if n = p then d else 0 := fun n => by
    have h0 : wt b U2 T2 n (b 4 0) = 0 := if_neg (fun w => by
      have := (chd_t.mp w).2.1
      have := hun (b 4 0) hm (Nat.le_refl _)
      omega)
    rw [h0, Nat.zero_add]
    unfold wt
    by_cases e : n = p
    · rw [if_pos ((hchm n).mpr e), if_pos e, rsp_3, rsp_2, if_pos rfl, if_pos rfl, show fup U2 (b 4 0) 0 (b 4 0) = 0 from if_pos rfl]
      exact hd2
    · rw [if_neg (fun w => e ((hchm n).mp w)), if_neg e]
  have hcand : ∀ n, n < 8 → wkO (rsp b p s hd) (ow b) (fup U2 (b 4 0) 0) (fup T2 (b 4 0) 1) n := by
    intro n hn
    by_cases em : n = b 4 0
    · subst em
      have hz : sm (wt (rsp b p s hd) (fup U2 (b 4 0) 0) (fup T2 (b 4 0) 1) (b 4 0)) 8 = 0 := sm_z (fun c hc => if_neg (fun w => by
        obtain ⟨w1, w2, w3, w4⟩ := chd_t.mp w
        rw [rsp_0, if_neg (by omega)] at w2
        have := hun c hc (by omega)
        omega))
      refine ⟨?_, ?_⟩
      · rw [hz, ho0]
        exact if_pos rfl
      · rw [show thO (rsp b p s hd) (ow b) (fup T2 (b 4 0) 1) (b 4 0) = true from thO_t.mpr (Or.inr (Or.inl ⟨by rw [rsp_0, if_pos rfl]; omega, by rw [rsp_0, if_pos rfl]; omega⟩))]
        exact if_pos rfl
    · have h1 := hE2 n hn
      refine ⟨?_, ?_⟩
      · rw [sm_one hm (fun c _ hc => hwt n c hc) (hwm n), show fup U2 (b 4 0) 0 n = U2 n from if_neg em, h1.1]
        unfold fup
        by_cases e : n = p
        · rw [if_pos e, if_pos e, e]
          omega
        · rw [if_neg e, if_neg e]
          omega
      · rw [show fup T2 (b 4 0) 1 n = T2 n from if_neg em, h1.2]
        congr 1
        by_cases e : n = p
        · have hlp : lv (rsp b p s hd) n := by
            unfold lv
            rw [rsp_0, if_neg em, e]
            exact hl
          rw [thO_t.mpr (Or.inr (Or.inl (by rw [e]; exact hl))), thO_t.mpr (Or.inr (Or.inl hlp))]
        · have ha : (List.range 8).any (chd (rsp b p s hd) (fup T2 (b 4 0) 1) n) = (List.range 8).any (chd b T2 n) := by
            rw [Bool.eq_iff_iff, List.any_eq_true, List.any_eq_true]
            constructor
            · rintro ⟨c, c1, c2⟩
              by_cases ec : c = b 4 0
              · rw [ec] at c2
                exact absurd ((hchm n).mp c2) e
              · exact ⟨c, c1, by rw [← hchd n c ec]; exact c2⟩
            · rintro ⟨c, c1, c2⟩
              by_cases ec : c = b 4 0
              · have := (chd_t.mp c2).2.1
                rw [ec, hun (b 4 0) hm (Nat.le_refl _)] at this
                omega
              · exact ⟨c, c1, by rw [hchd n c ec]; exact c2⟩
          unfold thO
          rw [hlv n em, ha, show fup (ow b) p (ow b p + d) n = ow b n from if_neg e]
  intro U1 T1 hE1 n hn h0 hT1
  have hE1 : ∀ n, n < 8 → wkO (rsp b p s hd) (ow b) U1 T1 n := hE1
  have hq := wkO_u (k := 0) (fun m _ hm => hcand m hm) (fun m _ hm => hE1 m hm) (fun _ _ _ => rfl) n (by omega) hn
  rw [hq.1]
  by_cases em : n = b 4 0
  · rw [show fup U2 (b 4 0) 0 n = 0 from if_pos em]
    exact Nat.zero_le _
  · rw [show fup U2 (b 4 0) 0 n = U2 n from if_neg em, rsp_2, if_neg em]
    rw [rsp_0, if_neg em] at h0
    rw [hq.2, show fup T2 (b 4 0) 1 n = T2 n from if_neg em] at hT1
    exact hbp U2 T2 hE2 n hn h0 hT1
theorem iV.spn (hv : iV b) (hb : rb N b) (hp : p < 8) (hl : lv b p) (hm : b 4 0 < 8) (hs24 : s ≤ 24) (hroom : hd = 0 ∨ ∃ U T, (∀ n, n < 8 → wkE b U T n) ∧ nI s ≤ rsn b U p) : iV (rsp b p s hd) := by
  have hu := hv.2.2.2.2.2
  have hU := vU.spn hv hb hp hl hm hs24 hroom
  obtain ⟨⟨o1, o2, o3, o4, o5⟩, ⟨g1, g2, g3, g4⟩, ⟨s1, s2, s3, s4, s5⟩, ⟨w1, w2, w3, w4, w5⟩, ⟨t1, t2, t3, t4, t5⟩, _⟩ := hv
  have hnl : ¬ lv b (b 4 0) := fun w => by
    have := (t3 (b 4 0) hm).mp w.1
    omega
  have hlv : ∀ q, lv b q → lv (rsp b p s hd) q := fun q w => by
    have e : q ≠ b 4 0 := fun z => hnl (by rw [← z]; exact w)
    unfold lv
    rw [rsp_0, if_neg e]
    exact w
  have hlv2 : ∀ q, q ≠ b 4 0 → lv (rsp b p s hd) q → lv b q := fun q e w => by
    unfold lv at w
    rw [rsp_0, if_neg e] at w
    exact w
  have hpos : ∀ q, 0 < b 0 q → 0 < rsp b p s hd 0 q := fun q w => by
    rw [rsp_0]
    split
    · omega
    · exact w
  have h20 : ∀ k, k < 4 → b 20 (4 * b 4 0 + k) = 0 := fun k hk => Classical.byContradiction (fun w => by
    have := (t3 (b 4 0) hm).mp (s2 (b 4 0) k hm hk w).2
    omega)
  refine ⟨⟨o1, o2, o3, fun i y hi hy h0 => ?_, fun q r hq hr hn => ?_⟩, ⟨g1, g2, fun g hg h0 => ⟨hpos _ (g3 g hg h0).1, (g3 g hg h0).2⟩, g4⟩, ⟨fun q k hq hk => ?_, fun q k hq hk h0 => ⟨(s2 q k hq hk h0).1, hpos q (s2 q k hq hk h0).2⟩, s3, s4, fun y k hy hk h0 e => ?_⟩, ⟨w1, fun k hk e => hlv _ (w2 k hk e), w3, w4, w5⟩, ⟨?_, ?_, fun q hq => ?_, fun q q0 hq => ?_, ?_⟩, hU⟩
  · obtain ⟨q1, q2, q3, q4⟩ := o4 i y hi hy h0
    exact ⟨q1, q2, q3, fun w => hlv i (q4 w)⟩
  · exact o5 q r hq hr (fun w => hn (hlv q w))
  · show b 19 (4 * q + k) ≠ 0 ↔ lv (rsp b p s hd) q ∧ b 20 (4 * q + k) ≠ 0
    rw [s1 q k hq hk]
    constructor
    · intro w
      exact ⟨hlv q w.1, w.2⟩
    · intro w
      by_cases e : q = b 4 0
      · rw [e] at w
        exact absurd (h20 k hk) w.2
      · exact ⟨hlv2 q e w.1, w.2⟩
  · obtain ⟨q, q1, q2, q3⟩ := s5 y k hy hk h0 e
    refine ⟨q, q1, ?_, q3⟩
    rw [rsp_0, if_neg (fun z => by rw [z] at q3; exact q3 (h20 k hk))]
    exact q2
  · rw [rsp_4]
    omega
  · rw [rsp_4]
    omega
  · rw [rsp_0, rsp_4]
    by_cases e : q = b 4 0
    · rw [if_pos e]
      exact ⟨fun _ => by omega, fun _ => by omega⟩
    · rw [if_neg e, t3 q hq]
      omega
  · rw [rsp_4] at hq
    rw [rsp_1]
    by_cases e : q = b 4 0
    · rw [if_pos e]
      have := (t3 p hp).mp hl.1
      omega
    · rw [if_neg e]
      exact t4 q q0 (by omega)
  · rw [rsp_3, if_neg (by omega)]
    exact t5
end SZ4
