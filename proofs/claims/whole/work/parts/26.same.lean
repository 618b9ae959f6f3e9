/-! WHAT STAYS: memories that are the same but for some cells -/
def mm_fr (M : mm_M) : Prop := ∀ a, mm_k M a ≠ 0 → a < mm_z M
/-- the same but for the cells of S, nothing made -/
def mm_sm (M M1 : mm_M) (S : Nat → Prop) : Prop := (∀ a, mm_k M1 a = mm_k M a) ∧ (∀ a, mm_l M1 a = mm_l M a) ∧ mm_z M1 = mm_z M ∧ ∀ a, ¬ S a → ∀ j, mm_i M1 a j = mm_i M a j ∧ mm_p M1 a j = mm_p M a j
theorem mm_sm.rf (M : mm_M) (S : Nat → Prop) : mm_sm M M S := ⟨fun _ => rfl, fun _ => rfl, rfl, fun _ _ _ => ⟨rfl, rfl⟩⟩
theorem mm_sm.tr {M M1 M2 : mm_M} {S : Nat → Prop} (h1 : mm_sm M M1 S) (h2 : mm_sm M1 M2 S) : mm_sm M M2 S := ⟨fun a => (h2.1 a).trans (h1.1 a), fun a => (h2.2.1 a).trans (h1.2.1 a), h2.2.2.1.trans h1.2.2.1, fun a ha j => ⟨(h2.2.2.2 a ha j).1.trans (h1.2.2.2 a ha j).1, (h2.2.2.2 a ha j).2.trans (h1.2.2.2 a ha j).2⟩⟩
theorem mm_sm.mono {M M1 : mm_M} {S S' : Nat → Prop} (h : mm_sm M M1 S) (hs : ∀ a, S a → S' a) : mm_sm M M1 S' := ⟨h.1, h.2.1, h.2.2.1, fun a ha => h.2.2.2 a (fun q => ha (hs a q))⟩
theorem mm_sm.si {M : mm_M} {a j : Nat} {x : Int32} {S : Nat → Prop} (hS : S a) : mm_sm M (mm_si M a j x) S := ⟨fun _ => rfl, fun _ => rfl, rfl, fun b hb k => ⟨by rw [mm_i_si, if_neg]; exact fun q => hb (q.1 ▸ hS), rfl⟩⟩
theorem mm_sm.sp {M : mm_M} {a j : Nat} {x : Option Nat} {S : Nat → Prop} (hS : S a) : mm_sm M (mm_sp M a j x) S := ⟨fun _ => rfl, fun _ => rfl, rfl, fun b hb k => ⟨rfl, by rw [mm_p_sp, if_neg]; exact fun q => hb (q.1 ▸ hS)⟩⟩
theorem mm_sm.sf {M : mm_M} {a : Nat} {f : Nat → Option Nat} {S : Nat → Prop} (hS : S a) : mm_sm M (mm_sf M a f) S := ⟨fun _ => rfl, fun _ => rfl, rfl, fun b hb k => ⟨rfl, by rw [mm_p_sf, if_neg]; exact fun q => hb (q ▸ hS)⟩⟩
theorem mm_sm.fr {M M1 : mm_M} {S : Nat → Prop} (h : mm_sm M M1 S) (hf : mm_fr M) : mm_fr M1 := fun a ha => by
  rw [h.2.2.1]
  exact hf a (by rw [← h.1]; exact ha)
/-- the same but for the cells of S; cells may have been made -/
def mm_gr (M M1 : mm_M) (S : Nat → Prop) : Prop := mm_X M M1 ∧ mm_fr M1 ∧ ∀ a, mm_k M a ≠ 0 → ¬ S a → ∀ j, mm_i M1 a j = mm_i M a j ∧ mm_p M1 a j = mm_p M a j
theorem mm_gr.of {M M1 : mm_M} {S : Nat → Prop} (h : mm_sm M M1 S) (hf : mm_fr M) : mm_gr M M1 S := by
  refine ⟨⟨Nat.le_of_eq h.2.2.1.symm, fun a _ => ⟨h.1 a, h.2.1 a⟩, fun a ha => Or.inl (by rw [← h.1]; exact ha)⟩, h.fr hf, fun a _ ha => h.2.2.2 a ha⟩
theorem mm_gr.tr {M M1 M2 : mm_M} {S : Nat → Prop} (h1 : mm_gr M M1 S) (h2 : mm_gr M1 M2 S) : mm_gr M M2 S := by
  refine ⟨h1.1.tr h2.1, h2.2.1, fun a ha hs j => ?_⟩
  have ha1 : mm_k M1 a ≠ 0 := by rw [(h1.1.2.1 a ha).1]; exact ha
  exact ⟨(h2.2.2 a ha1 hs j).1.trans (h1.2.2 a ha hs j).1, (h2.2.2 a ha1 hs j).2.trans (h1.2.2 a ha hs j).2⟩
theorem mm_gr.mono {M M1 : mm_M} {S S' : Nat → Prop} (h : mm_gr M M1 S) (hs : ∀ a, S a → S' a) : mm_gr M M1 S' := ⟨h.1, h.2.1, fun a ha hn => h.2.2 a ha (fun q => hn (hs a q))⟩
theorem mm_gr.nw {M : mm_M} {kd n : Nat} {S : Nat → Prop} (hf : mm_fr M) : mm_gr M (mm_nw M kd n) S := by
  have hne : ∀ a, mm_k M a ≠ 0 → a ≠ mm_z M := fun a ha => Nat.ne_of_lt (hf a ha)
  refine ⟨⟨Nat.le_succ _, fun a ha => ⟨by rw [mm_k_nw, if_neg (hne a ha)], by rw [mm_l_nw, if_neg (hne a ha)]⟩, fun a ha => ?_⟩, fun a ha => ?_, fun a ha _ j => ⟨by rw [mm_i_nw, if_neg (hne a ha)], by rw [mm_p_nw, if_neg (hne a ha)]⟩⟩
  · by_cases he : a = mm_z M
    · exact Or.inr (Nat.le_of_eq he.symm)
    · rw [mm_k_nw, if_neg he] at ha
      exact Or.inl ha
  · rw [mm_z_nw]
    by_cases he : a = mm_z M
    · omega
    · rw [mm_k_nw, if_neg he] at ha
      have := hf a ha
      omega
