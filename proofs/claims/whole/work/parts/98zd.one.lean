/-! CLASS AND REFERENCE IN ONE MEMORY -/
section SZD
variable {l : Launch} {G : mm_G} {M M1 M2 Mb : mm_M} {c : Nat → Nat} {F S : Nat → Prop} {D D1 : ph_D} {eP eO eP1 eO1 : Nat} {a0 : Nat} {ad : Nat → Nat} {b : rB} {L : Nat → Int32} {pg ob : Nat → Nat} {N scr : Nat} {v : Int32}
/-- what is not the class's is written -/
theorem ph_R.frn (h : ph_R G c F Mb M D eP eO) (hs : mm_sm M M2 S) (hS : ∀ a, S a → F a) : ph_R G c F M2 M2 D eP eO := by
  obtain ⟨f1, f2, f3, f4, f5, f6, f7, f8⟩ := h
  have hkF : ∀ a, S a → (mm_k M a = 9 ∨ mm_k M a = 100 ∨ mm_k M a = 101 ∨ mm_k M a = 106) := fun a ha => (f8 a (hS a ha)).1
  have hq : ∀ a, mm_k M a ≠ 9 → mm_k M a ≠ 100 → mm_k M a ≠ 101 → mm_k M a ≠ 106 → ∀ j, mm_i M2 a j = mm_i M a j ∧ mm_p M2 a j = mm_p M a j := fun a h1 h2 h3 h4 => hs.2.2.2 a (fun w => by rcases hkF a w with z | z | z | z <;> omega)
  have hk := hs.1
  have hl := hs.2.1
  have nk : ∀ {a d : Nat}, mm_k M a = d → (d < 9 ∨ (101 < d ∧ d < 106)) → ∀ j, mm_i M2 a j = mm_i M a j ∧ mm_p M2 a j = mm_p M a j := fun {a d} e hd => hq a (by omega) (by omega) (by omega) (by omega)
  have hT := f1.2.1
  have hT2 : ti_T M2 := hT.same hk hl (fun a ha j => by
    rcases ha with z | z | z | z
    · exact (nk z (by omega) j).2
    · exact (nk z (by omega) j).2
    · exact (nk z (by omega) j).2
    · exact (nk z (by omega) j).2)
  have kar : mm_k M (c 8) = 104 := f2.2.2.2.2.2.2.2.2.2.2.2.1
  have kah : mm_k M (c 9) = 103 := f2.2.2.2.2.2.2.2.2.2.2.2.2.2.1
  have k1 : mm_k M (c 0) = 1 := f2.1
  have ea : ∀ a, mm_k M a = 8 → oo_a M2 a = oo_a M a := fun a ha => by unfold oo_a; rw [(nk ha (by omega) 3).2]
  have eg : ∀ a, mm_k M a = 8 → oo_g M2 a = oo_g M a := fun a ha => by unfold oo_g; rw [(nk ha (by omega) 0).2]
  have er : ∀ a, mm_k M a = 6 → pr_a M2 a = pr_a M a := fun a ha => by unfold pr_a; rw [(nk ha (by omega) 4).2]
  refine ⟨f1.grow (mm_gr.of hs f1.1) hT2 (fun a ha => by rcases hkF a ha with z | z | z | z <;> omega), f2.keep (fun a _ => ⟨hk a, hl a⟩) (fun a ha j => ?_), ⟨fun a ha => ?_, fun q hq1 => ?_⟩, ?_, fun g hg => ?_, fun a ha => ?_, ⟨fun h hh => ?_, ?_⟩, fun a ha => ?_⟩
  · rcases ha with z | z | z
    · exact (nk z (by omega) j).2
    · exact (nk z (by omega) j).2
    · exact (nk z (by omega) j).2
  · rw [hk] at ha
    rw [ea a ha, (nk ha (by omega) 4).1]
    exact f3.1 a ha
  · rw [hk] at hq1
    rw [er q hq1]
    exact f3.2 q hq1
  · obtain ⟨m, m1, m2, m3, m4, m5, m6⟩ := f4
    refine ⟨m, m1, m2, by rw [(nk k1 (by omega) 5).1]; exact m3, m4, fun p z1 z2 => ?_, fun p z1 => ?_⟩
    · rw [(nk kar (by omega) p).2]
      exact m5 p z1 z2
    · obtain ⟨q, q1, q2⟩ := m6 p z1
      have hq6 := hT.2.2.2.1 (c 8) p q kar q1
      have hP := hT.2.1 q hq6
      obtain ⟨w1, w2, w3, w4, w5, w6, w7, w8, w9⟩ := q2
      refine ⟨q, by rw [(nk kar (by omega) p).2]; exact q1, by rw [(nk hq6 (by omega) _).1]; exact w1, by rw [(nk hq6 (by omega) _).1]; exact w2, by rw [(nk hq6 (by omega) _).1]; exact w3, by rw [(nk hq6 (by omega) _).1]; exact w4, by rw [(nk hq6 (by omega) _).1]; exact w5, by rw [(nk hq6 (by omega) _).1]; exact w6, by rw [(nk hq6 (by omega) _).1]; exact w7, fun r h4 => ?_, w9⟩
      unfold pr_r
      rw [er q hq6, (nk hP.2.2.1 (by omega) r).2]
      exact w8 r h4
  · have h7 := f1.2.2.2.2.2.2.2.2.2.1 g hg
    rw [(nk h7 (by omega) 0).1, (nk h7 (by omega) 1).1, (nk h7 (by omega) 2).1]
    exact f5 g hg
  · have h8 := f1.2.2.2.2.2.2.2.2.2.2.1 a ha
    obtain ⟨w1, w2, w3, w4, w5⟩ := f6 a ha
    refine ⟨by rw [eg a h8]; exact w1, by rw [(nk h8 (by omega) 1).1]; exact w2, by rw [(nk h8 (by omega) 2).1]; exact w3, by rw [(nk h8 (by omega) 5).1]; exact w4, fun f hf => ?_⟩
    unfold oo_f
    rw [ea a h8, (nk (hT.1 a h8).2.2.2.2.1 (by omega) f).2]
    exact w5 f hf
  · rw [(nk kah (by omega) h).2]
    exact f7.1 h hh
  · rw [(nk k1 (by omega) 6).1]
    exact f7.2
  · rw [hk]
    exact ⟨(f8 a ha).1, (f8 a ha).2.1, rfl, rfl, fun j => ⟨rfl, rfl⟩⟩
/-- the class's data, the reference's table and the script in one memory -/
def Tot (G : mm_G) (c : Nat → Nat) (F : Nat → Prop) (a0 : Nat) (ad : Nat → Nat) (scr len : Nat) (xs : Nat → Int32) (N : Nat) (M : mm_M) : Prop := (∀ a, mo_C a0 ad a → F a) ∧ (F scr ∧ ¬ mo_C a0 ad scr) ∧ (mm_k M scr = 106 ∧ mm_l M scr = len ∧ ∀ j, j < len → mm_i M scr j = xs j) ∧ mm_k M a0 = 9 ∧ mm_k M (c 0) = 1 ∧ ∃ D b L pg ob eP eO, ph_R G c F M M D eP eO ∧ mo_S a0 ad M M (ra L b) ∧ Rel N D b L pg ob
theorem mo_S.frn (h : mo_S a0 ad Mb M (ra L b)) (hF : ph_F F M M1 c) (hC : ∀ a, mo_C a0 ad a → F a) : mo_S a0 ad M1 M1 (ra L b) := by
  have h0 := hF a0 (hC a0 (Or.inl rfl))
  refine ⟨by rw [h0.2.2.1]; exact h.1, fun k hk hs => ?_, fun k hk hs => ?_, h.2.2.2.1, mm_sm.rf _ _⟩
  · obtain ⟨w1, w2, w3, w4⟩ := h.2.1 k hk hs
    have hk' := hF (ad k) (hC (ad k) (Or.inr ⟨k, hk, hs, rfl⟩))
    refine ⟨by rw [(h0.2.2.2.2 k).2]; exact w1, by rw [hk'.2.2.1]; exact w2, by rw [hk'.2.2.2.1]; exact w3, fun j hj => by rw [(hk'.2.2.2.2 j).1]; exact w4 j hj⟩
  · rw [(h0.2.2.2.2 k).1]
    exact h.2.2.1 k hk hs
/-- the reference answers, and all is as before -/
theorem jn {y : MethodName} {Y : mm_Y} {vs : List mm_V} {K' : mm_M → Prop} {len : Nat} {xs : Nat → Int32} (hC : ∀ a, mo_C a0 ad a → F a) (hsF : F scr ∧ ¬ mo_C a0 ad scr) (hsc : mm_k M scr = 106 ∧ mm_l M scr = len ∧ ∀ j, j < len → mm_i M scr j = xs j) (hS : mo_S a0 ad M M (ra L b)) (g1 : ph_R G c F M M1 D1 eP1 eO1) (hq : mo_Ok l G y Y vs a0 ad M1 (ra L b) (Nxt N D1 v)) (k : ∀ M2, Tot G c F a0 ad scr len xs (N + 200) M2 → K' M2) : mm_Ok l G y Y vs M1 (fun r M2 => r = some (.inl v) ∧ K' M2) := by
  have hF := g1.2.2.2.2.2.2.2
  have hS1 := hS.frn hF hC
  refine (hq M1 hS1).mono (fun r M2 z => ?_)
  obtain ⟨A1, hS2, hr, b1, L1, pg1, ob1, hA, hRel⟩ := z
  subst hA
  have hs := hF scr hsF.1
  have hsm := hS2.2.2.2.2
  refine ⟨hr, k M2 ⟨hC, hsF, ⟨?_, ?_, fun j hj => ?_⟩, hS2.1, ?_, D1, b1, L1, pg1, ob1, eP1, eO1, g1.frn hsm hC, ⟨hS2.1, hS2.2.1, hS2.2.2.1, hS2.2.2.2.1, mm_sm.rf _ _⟩, hRel⟩⟩
  · rw [hsm.1, hs.2.2.1]
    exact hsc.1
  · rw [hsm.2.1, hs.2.2.2.1]
    exact hsc.2.1
  · rw [(hsm.2.2.2 scr hsF.2 j).1, (hs.2.2.2.2 j).1]
    exact hsc.2.2 j hj
  · rw [hsm.1]
    exact g1.2.1.1
end SZD
