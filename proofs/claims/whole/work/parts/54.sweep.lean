/-! THE STORE: objects freed; pages merged -/
/-- is an object kept when the heap h is freed? -/
def fu_k (M : mm_M) (h : Int32) (a : Nat) : Bool := !(decide (oo_h M a = h) && decide (mm_i M a 4 = 0))
/-- cells that come back to the page g -/
def fu_s (M : mm_M) (g : Nat) : List Nat → Int32
  | [] => 0
  | a :: t => if oo_g M a = g then mm_i M a 1 + fu_s M g t else fu_s M g t
def fu_F (M : mm_M) (h : Int32) (ys : List Nat) (a j : Nat) : Int32 :=
  if j = 4 ∧ a ∈ ys then 0 else if j = 2 ∧ mm_k M a = 7 then mm_i M a 2 + fu_s M a (ys.filter (fun b => !fu_k M h b)) else mm_i M a j
section MG
variable {l : Launch} {G : mm_G} {K : Option mm_V → mm_M → Prop} {M M1 : mm_M} {am LP LO eP eO : Nat} {gs xs es : List Nat}
theorem ct_freeLoop {h : Int32} (hW : me_W G M am LP LO eP eO gs xs)
    (k : ∀ M1, me_W G M1 am LP LO eP eO gs (xs.filter (fu_k M h)) → me_R M M1 (me_S LP LO eP eO) (fu_F M h xs) → mm_Ok l G yy_Me_giveBackEmptyPages Y_Me_giveBackEmptyPages [.inr (some am)] M1 (fun r M2 => mm_X M1 M2 → r = none ∧ K (some (.inl (nI (xs.filter (fun b => !fu_k M h b)).length))) M2)) : mm_Ok l G yy_Me_freeUnreached Y_Me_freeUnreached [.inr (some am), .inl h] M K := by
  have hle := hW.2.2.2.2.2.2.1.le
  have hnd := hW.2.2.2.2.2.2.2.2.2.2.2.2
  have hx8 := hW.2.2.2.2.2.2.2.2.2.2.1
  have key : ∀ i, i ≤ xs.length → ∀ M2, me_W G M2 am LP LO eP eO gs (xs.take i ++ (xs.drop i).filter (fu_k M h)) → me_R M M2 (me_S LP LO eP eO) (fu_F M h (xs.drop i)) → mm_Z l G Y_Me_freeUnreached K M 0 0 12 [some (.inr (some am)), some (.inl h), some (.inl (nI ((xs.drop i).filter (fun b => !fu_k M h b)).length)), some (.inl (nI i - 1)), none] [] M2 := by
    intro i
    induction i with
    | zero =>
      intro _ M2 h1 h2
      refine sg_Me_freeUnreached_12 ⟨fun _ => ⟨h1.2.2.1, k M2 (by simpa using h1) (by simpa using h2)⟩, fun q => absurd (show (nI 0 - 1 : Int32) < 0 by decide) q⟩
    | succ i ih =>
      intro hi M2 h1 h2
      have hil : i < xs.length := hi
      obtain ⟨a, ha⟩ : ∃ a, xs[i]? = some a := ⟨xs[i], List.getElem?_eq_getElem hil⟩
      have ha8 := hx8 a (List.mem_of_getElem? ha)
      have hO := hW.2.1.1 a ha8
      have haS : ¬ me_S LP LO eP eO a := hW.nS (by rw [ha8]; decide) (by rw [ha8]; decide) (by rw [ha8]; decide)
      have hg7 := hO.2.2.1
      have hgS : ¬ me_S LP LO eP eO (oo_g M a) := hW.nS (by rw [hg7]; decide) (by rw [hg7]; decide) (by rw [hg7]; decide)
      have hnd' : a ∉ xs.drop (i + 1) := by
        have hd : (xs.drop i).Nodup := hnd.sublist (List.drop_sublist i xs)
        rw [dr_s ha] at hd
        exact (List.nodup_cons.mp hd).1
      have hag : a ≠ oo_g M a := fun q => by rw [← q, ha8] at hg7; cases hg7
      have eg : oo_g M2 a = oo_g M a := by
        unfold oo_g
        rw [(h2.2.2.2 a haS 0).1]
      have eh : oo_h M2 a = oo_h M a := by
        unfold oo_h
        rw [eg, (h2.2.2.2 (oo_g M a) hgS 0).2]
        unfold fu_F
        rw [if_neg (fun q => by cases q.1), if_neg (fun q => by cases q.1)]
      have e4 : mm_i M2 a 4 = mm_i M a 4 := by
        rw [(h2.2.2.2 a haS 4).2]
        unfold fu_F
        rw [if_neg (fun q => hnd' q.2), if_neg (fun q => by cases q.1)]
      have e1 : mm_i M2 a 1 = mm_i M a 1 := by
        rw [(h2.2.2.2 a haS 1).2]
        unfold fu_F
        rw [if_neg (fun q => by cases q.1), if_neg (fun q => by cases q.1)]
      have elist : xs.take (i + 1) ++ (xs.drop (i + 1)).filter (fu_k M h) = xs.take i ++ a :: (xs.drop (i + 1)).filter (fu_k M h) := by
        rw [tk_s ha, List.append_assoc]
        rfl
      have hti : (xs.take i).length = i := by rw [List.length_take]; omega
      have hget : (xs.take (i + 1) ++ (xs.drop (i + 1)).filter (fu_k M h))[i]? = some a := by
        rw [elist, List.getElem?_append_right (by omega), hti, Nat.sub_self]
        rfl
      have hL := h1.2.2.2.2.2.2.1
      have hO2 := h1.2.1.1 a (by rw [h2.1]; exact ha8)
      have keep : fu_k M h a = true → mm_Z l G Y_Me_freeUnreached K M 0 0 12 [some (.inr (some am)), some (.inl h), some (.inl (nI ((xs.drop (i + 1)).filter (fun b => !fu_k M h b)).length)), some (.inl (nI i + (-1))), none] [] (mm_si M2 a 4 0) := by
        intro hk
        have z := ih (by omega) (mm_si M2 a 4 0) ?_ ?_
        · rw [dr_s ha, List.filter_cons_of_neg (by simp [hk])] at z
          rw [i32_m1]
          exact z
        · rw [elist] at h1
          rw [dr_s ha, List.filter_cons_of_pos hk]
          exact h1.si (by rw [h2.1, ha8]; decide)
        · refine (h2.si a 4 0).ext (fun b hb j => ?_)
          unfold fu_F
          rw [dr_s ha, List.filter_cons_of_neg (by simp [hk])]
          by_cases q : b = a
          · subst q
            by_cases w : j = 4
            · simp [w]
            · simp [w]
          · simp [q]
      rw [nI_pred]
      refine sg_Me_freeUnreached_12 ⟨fun q => absurd q (nI_pos (by omega)), fun _ => ⟨h1.2.2.1, LO, h1.2.2.2.2.1, hL.1, ct_get hL hget (fun _ => ⟨_, rfl, fun q hq => by cases hq; rw [h2.1]; exact ha8, a, rfl, by rw [h2.1]; exact ha8, ct_heap hO2 (fun _ => ⟨_, rfl, fun hc => ?_, fun hc => ⟨fun hc2 => ?_, fun hc2 => ?_⟩⟩)⟩)⟩⟩
      · rw [eh] at hc
        exact keep (by unfold fu_k; rw [decide_eq_false hc]; rfl)
      · rw [e4] at hc2
        exact keep (by unfold fu_k; rw [decide_eq_false hc2]; simp)
      · rw [eh] at hc
        rw [e4] at hc2
        have hnk : fu_k M h a = false := by unfold fu_k; rw [decide_eq_true hc, decide_eq_true hc2]; rfl
        have hp0 : mm_p M2 a 0 = some (oo_g M a) := by rw [(h2.2.2.2 a haS 0).1]; exact hO.2.1
        have hg2 : mm_k M2 (oo_g M a) = 7 := by rw [h2.1]; exact hg7
        have hWs : me_W G (mm_si M2 (oo_g M a) 2 (mm_i M2 (oo_g M a) 2 + mm_i M2 a 1)) am LP LO eP eO gs (xs.take (i + 1) ++ (xs.drop (i + 1)).filter (fu_k M h)) := h1.si (by rw [hg2]; decide)
        have hLs := hWs.2.2.2.2.2.2.1
        refine ⟨oo_g M a, hp0, hg2, LO, hWs.2.2.2.2.1, hLs.1, ct_remove (ci := 7) hLs hWs.1 hget ca_7 hWs.2.2.2.2.2.2.2.2.2.2.1 (fun M3 h3 hs _ => ⟨_, rfl, ?_⟩)⟩
        have e9 : (xs.take i ++ a :: (xs.drop (i + 1)).filter (fu_k M h)).eraseIdx i = xs.take i ++ (xs.drop i).filter (fu_k M h) := by
          have := er_mid (l1 := xs.take i) (l2 := (xs.drop (i + 1)).filter (fu_k M h)) (a := a)
          rw [hti] at this
          rw [this, dr_s ha, List.filter_cons_of_neg (by simp [hnk])]
        have hsub : (xs.take i ++ (xs.drop i).filter (fu_k M h)).Sublist (xs.take i ++ a :: (xs.drop (i + 1)).filter (fu_k M h)) := by
          rw [← e9]
          exact List.eraseIdx_sublist _ _
        have hk2 := (hLs.arr hget).1
        rw [elist] at h3 hWs
        rw [e9] at h3
        have hW3 : me_W G M3 am LP LO eP eO gs (xs.take i ++ (xs.drop i).filter (fu_k M h)) := hWs.ob hk2 h3 hs (fun w hw => hWs.2.2.2.2.2.2.2.2.2.2.1 w (hsub.subset hw)) (hWs.2.2.2.2.2.2.2.2.2.2.2.2.sublist hsub)
        have hR3 : me_R M M3 (me_S LP LO eP eO) (fun b j => if b = oo_g M a ∧ j = 2 then mm_i M2 (oo_g M a) 2 + mm_i M2 a 1 else fu_F M h (xs.drop (i + 1)) b j) := (h2.si (oo_g M a) 2 _).tr (me_R.of hs (fun b q => q.elim (fun z => Or.inr (Or.inr (Or.inl z))) (fun z => Or.inr (Or.inr (Or.inr z)))))
        have z := ih (by omega) (mm_si M3 a 4 0) (hW3.si (by rw [hR3.1, ha8]; decide)) ((hR3.si a 4 0).ext (fun b hb j => ?_))
        · rw [dr_s ha, List.filter_cons_of_pos (by simp [hnk]), List.length_cons] at z
          rw [i32_m1, nI_1]
          exact z
        · have e2 : mm_i M2 (oo_g M a) 2 = mm_i M (oo_g M a) 2 + fu_s M (oo_g M a) ((xs.drop (i + 1)).filter (fun b => !fu_k M h b)) := by
            rw [(h2.2.2.2 (oo_g M a) hgS 2).2]
            unfold fu_F
            rw [if_neg (fun q => by cases q.1), if_pos ⟨rfl, hg7⟩]
          rw [e2, e1]
          unfold fu_F
          rw [dr_s ha, List.filter_cons_of_pos (by simp [hnk])]
          by_cases q : b = a
          · subst q
            by_cases w : j = 4
            · simp [w]
            · have hk7 : ¬ mm_k M b = 7 := by rw [ha8]; decide
              simp [w, hag, hk7]
          · by_cases q2 : b = oo_g M a
            · by_cases w : j = 2
              · subst w
                subst q2
                simp only [q, fu_s, hg7, false_and, if_false, and_self, if_true, List.mem_cons, false_or]
                simp
                rw [Int32.add_assoc, Int32.add_comm (fu_s M (oo_g M a) _) (mm_i M a 1)]
              · have q4 : ¬ oo_g M a = a := fun z => hag z.symm
                simp [q2, w, q4]
            · have q3 : ¬ oo_g M a = b := fun z => q2 z.symm
              simp [q, q2, fu_s, q3]
  refine sg_Me_freeUnreached ⟨hW.2.2.1, LO, hW.2.2.2.2.1, hW.2.2.2.2.2.2.1.1, ct_size hW.2.2.2.2.2.2.1 (fun _ => ⟨_, rfl, ?_⟩)⟩
  have z := key xs.length (Nat.le_refl _) M ?_ ?_
  · rw [List.drop_length] at z
    exact z
  · rw [List.take_length, List.drop_length]
    simpa using hW
  · refine (me_R.rf M _).ext (fun b _ j => ?_)
    unfold fu_F
    rw [List.drop_length]
    by_cases w : j = 2 ∧ mm_k M b = 7
    · simp [w.1, w.2, fu_s]
    · simp [w]
theorem ct_freeUnreached {h : Int32} (hW : me_W G M am LP LO eP eO gs xs)
    (k : ∀ M1, me_W G M1 am LP LO eP eO (gs.filter (fun g => !decide (fu_F M h xs g 2 = 16))) (xs.filter (fu_k M h)) → me_R M M1 (me_S LP LO eP eO) (fu_F M h xs) → K (some (.inl (nI (xs.filter (fun b => !fu_k M h b)).length))) M1) : mm_Ok l G yy_Me_freeUnreached Y_Me_freeUnreached [.inr (some am), .inl h] M K := by
  refine ct_freeLoop hW (fun M1 h1 h2 => ct_giveBack h1 (fun M2 h3 h4 _ => ⟨rfl, ?_⟩))
  refine k M2 ?_ (h2.tr h4)
  have e : gs.filter (fun g => !decide (mm_i M1 g 2 = 16)) = gs.filter (fun g => !decide (fu_F M h xs g 2 = 16)) := by
    apply List.filter_congr
    intro g hg
    have hg7 := hW.2.2.2.2.2.2.2.2.2.1 g hg
    rw [(h2.2.2.2 g (hW.nS (by rw [hg7]; decide) (by rw [hg7]; decide) (by rw [hg7]; decide)) 2).2]
  rw [e] at h3
  exact h3
end MG
