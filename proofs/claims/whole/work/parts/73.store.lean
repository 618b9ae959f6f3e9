/-! THE CLASS AS A WHOLE: the store's methods -/
/-- an object's heap -/
def d_h (D : ph_D) (a : Nat) : Int32 := match D.2.2 0 a with
  | some g => D.2.1 0 g
  | none => 0
/-- objects lie in pages that are there -/
def d_pg (D : ph_D) : Prop := ∀ a, a ∈ D.1.2 → ∃ g, g ∈ D.1.1 ∧ D.2.2 0 a = some g
def d_es (D : ph_D) (h : Int32) : ph_D := (D.1, fun k j => if k = 1 ∧ j ∈ D.1.1 ∧ D.2.1 0 j = h then -1 else D.2.1 k j, D.2.2)
def d_hd (D : ph_D) (d a : Nat) : Int32 :=
  if d_h D a = 8 then (D.2.1 5 a &&& (((1 : Int32) <<< (nI 8 &&& 31)) ^^^ (-1))) &&& (((1 : Int32) <<< (nI d &&& 31)) ^^^ (-1))
  else if bb_t (D.2.1 5 a) d = true then (D.2.1 5 a ||| ((1 : Int32) <<< (nI 8 &&& 31))) &&& (((1 : Int32) <<< (nI d &&& 31)) ^^^ (-1))
  else D.2.1 5 a &&& (((1 : Int32) <<< (nI d &&& 31)) ^^^ (-1))
def d_hi (D : ph_D) (d : Nat) : ph_D := (D.1, fun k a => if k = 5 ∧ a ∈ D.1.2 then d_hd D d a else D.2.1 k a, D.2.2)
def d_mg (D : ph_D) (h : Int32) : ph_D := ((D.1.1.filter (fun g => !decide (D.2.1 0 g = h)) ++ D.1.1.filter (fun g => decide (D.2.1 0 g = h)), D.1.2), fun k j => if k = 0 ∧ j ∈ D.1.1 ∧ D.2.1 0 j = h then 8 else D.2.1 k j, D.2.2)
/-- cells that come back to the page g when ys are freed -/
def d_s (D : ph_D) (g : Nat) : List Nat → Int32
  | [] => 0
  | a :: t => if D.2.2 0 a = some g then D.2.1 3 a + d_s D g t else d_s D g t
/-- the objects ys go, the others stay -/
def d_fr (D : ph_D) (kp : Nat → Bool) : ph_D := ((D.1.1.filter (fun g => !decide (D.2.1 2 g + d_s D g (D.1.2.filter (fun b => !kp b)) = 16)), D.1.2.filter kp), fun k j => if k = 2 ∧ j ∈ D.1.1 then D.2.1 2 j + d_s D j (D.1.2.filter (fun b => !kp b)) else D.2.1 k j, D.2.2)
theorem d_es_n {D : ph_D} {h : Int32} {k j : Nat} (hk : k ≠ 1) : D.2.1 k j = (d_es D h).2.1 k j := (if_neg (c := k = 1 ∧ j ∈ D.1.1 ∧ D.2.1 0 j = h) (fun z => hk z.1)).symm
theorem d_hi_n {D : ph_D} {d k j : Nat} (hk : k ≠ 5) : D.2.1 k j = (d_hi D d).2.1 k j := (if_neg (c := k = 5 ∧ j ∈ D.1.2) (fun z => hk z.1)).symm
theorem d_mg_n {D : ph_D} {h : Int32} {k j : Nat} (hk : k ≠ 0) : D.2.1 k j = (d_mg D h).2.1 k j := (if_neg (c := k = 0 ∧ j ∈ D.1.1 ∧ D.2.1 0 j = h) (fun z => hk z.1)).symm
theorem d_fr_n {D : ph_D} {kp : Nat → Bool} {k j : Nat} (hk : k ≠ 2) : D.2.1 k j = (d_fr D kp).2.1 k j := (if_neg (c := k = 2 ∧ j ∈ D.1.1) (fun z => hk z.1)).symm
section QA
variable {l : Launch} {G : mm_G} {K : Option mm_V → mm_M → Prop} {M M1 Mb : mm_M} {c : Nat → Nat} {F : Nat → Prop} {D D1 : ph_D} {eP eO eP1 eO1 : Nat}
theorem ph_R.mid (h : ph_R G c F Mb M D eP eO) (hk : ∀ a, mm_k M1 a = mm_k M a) (hl : ∀ a, mm_l M1 a = mm_l M a) (hW : me_W G M1 (c 1) (c 10) (c 11) eP1 eO1 D1.1.1 D1.1.2) (hx : ∀ a, a ∈ D1.1.2 → a ∈ D.1.2)
    (hp : ∀ a, mm_k M a ≠ 3 → mm_k M a ≠ 102 → mm_k M a ≠ 105 → a ≠ c 3 → ∀ j, mm_p M1 a j = mm_p M a j)
    (hi : ∀ a j, (mm_k M a = 1 ∧ (j = 5 ∨ j = 6)) ∨ mm_k M a = 6 ∨ (mm_k M a = 8 ∧ j = 4) ∨ F a → mm_i M1 a j = mm_i M a j) (he : ∀ k, 6 ≤ k → ∀ j, D1.2.1 k j = D.2.1 k j)
    (hg : ph_G M1 D1) (ho : ∀ a, a ∈ D1.1.2 → mm_i M1 a 1 = D1.2.1 3 a ∧ mm_i M1 a 2 = D1.2.1 4 a ∧ mm_i M1 a 5 = D1.2.1 5 a) (hr : ∀ k j, D1.2.2 k j = D.2.2 k j) : ph_R G c F Mb M1 D1 eP1 eO1 := by
  have k1 := h.2.1.1
  refine h.ints hk hl hW hx hp (fun a ha => ?_) (fun a ha j => ⟨hi a j (Or.inr (Or.inr (Or.inr ha))), ?_⟩) (hi _ 5 (Or.inl ⟨k1, Or.inl rfl⟩)) (he 12 (by omega) 0) ?_ (fun p q hp8 hq => ?_) (fun p hp8 hn => ?_) hg ho hr
  · rw [hi a 4 (Or.inr (Or.inr (Or.inl ⟨ha, rfl⟩)))]
    exact (h.2.2.1.1 a ha).2.2
  · have z := h.kp a ha
    exact hp a z.2.2.2.2.2.1 z.2.2.2.2.2.2.1 z.2.2.2.2.2.2.2.2.2 (fun w => z.2.2.2.2.2.2.2.1 (by rw [w]; exact h.2.1.2.2.2.2.2.2.2.2.1)) j
  · rw [hi _ 6 (Or.inl ⟨k1, Or.inr rfl⟩), he 12 (by omega)]
    exact h.2.2.2.2.2.2.1.2
  · obtain ⟨h6, z⟩ := h.prs hp8 hq
    have e : ∀ j, mm_i M1 q j = mm_i M q j := fun j => hi q j (Or.inr (Or.inl h6))
    rw [e, e, e, e, e, e, e, he 6 (by omega), he 7 (by omega), he 8 (by omega), he 9 (by omega), he 10 (by omega), he 11 (by omega)]
    exact ⟨z.1, z.2.1, z.2.2.1, z.2.2.2.1, z.2.2.2.2.1, z.2.2.2.2.2.1, z.2.2.2.2.2.2.1⟩
  · rw [he 6 (by omega)]
    rcases h.pr hp8 with ⟨-, z⟩ | ⟨q, z, -⟩
    · exact z
    · rw [z] at hn
      cases hn
theorem ph_R.g7 (h : ph_R G c F Mb M D eP eO) : ∀ g, g ∈ D.1.1 → mm_k M g = 7 := h.1.2.2.2.2.2.2.2.2.2.1
theorem ph_R.x8 (h : ph_R G c F Mb M D eP eO) : ∀ a, a ∈ D.1.2 → mm_k M a = 8 := h.1.2.2.2.2.2.2.2.2.2.2.1
theorem ph_R.hh (h : ph_R G c F Mb M D eP eO) (hd : d_pg D) {a : Nat} (ha : a ∈ D.1.2) : oo_h M a = d_h D a := by
  obtain ⟨g, hg, e⟩ := hd a ha
  have z := (h.2.2.2.2.2.1 a ha).1
  rw [e] at z
  have eg : g = oo_g M a := Option.some.inj z
  unfold d_h oo_h
  rw [e, ← eg]
  exact (h.2.2.2.2.1 g hg).1
/-- an object's items -/
theorem ph_R.item {a : Nat} (h : ph_R G c F Mb M D eP eO) (ha : a ∈ D.1.2) (v : Int32) : ph_R G c F Mb (mm_si M a 5 v) (di D 5 a v) eP eO := by
  have ha8 := h.x8 a ha
  have hi : ∀ b j, mm_k M b ≠ 8 ∨ j ≠ 5 → mm_i (mm_si M a 5 v) b j = mm_i M b j := fun b j hb => by
    rw [mm_i_si, if_neg (fun z => hb.elim (fun w => w (by rw [z.1]; exact ha8)) (fun w => w z.2))]
  refine h.mid (fun _ => rfl) (fun _ => rfl) (h.1.si (by rw [ha8]; decide)) (fun _ z => z) (fun _ _ _ _ _ _ => rfl) (fun b j hb => hi b j ?_) (fun k hk j => di_n (by omega)) (fun g hg => ?_) (fun b hb => ?_) (fun _ _ => rfl)
  · rcases hb with z | z | z | z
    · exact Or.inl (by rw [z.1]; decide)
    · exact Or.inl (by rw [z]; decide)
    · exact Or.inr (by omega)
    · exact Or.inl (h.kp b z).2.2.1
  · have n := h.g7 g hg
    rw [hi g 0 (Or.inl (by rw [n]; decide)), hi g 1 (Or.inl (by rw [n]; decide)), hi g 2 (Or.inl (by rw [n]; decide)), di_n (by omega), di_n (by omega), di_n (by omega)]
    exact h.2.2.2.2.1 g hg
  · have z := h.2.2.2.2.2.1 b hb
    rw [hi b 1 (Or.inr (by omega)), hi b 2 (Or.inr (by omega)), di_n (by omega), di_n (by omega), mm_i_si, di_i]
    refine ⟨z.2.1, z.2.2.1, ?_⟩
    by_cases w : b = a
    · rw [if_pos ⟨w, rfl⟩, if_pos ⟨rfl, w⟩]
    · rw [if_neg (fun u => w u.1), if_neg (fun u => w u.2)]
      exact z.2.2.2.1
theorem cw_endSingle {hn : Int32} (h : ph_R G c F Mb M D eP eO) (k : ∀ M1, ph_R G c F Mb M1 (d_es D hn) eP eO → K none M1) : mm_Ok l G yy_Me_endSinglePayment Y_Me_endSinglePayment [.inr (some (c 1)), .inl hn] M K := by
  refine ct_endSingle h.1 (k _ ?_)
  have hi : ∀ b j, mm_k M b ≠ 7 ∨ j ≠ 1 → mm_i (mm_mi M (fun a j => if j = 1 ∧ a ∈ D.1.1 ∧ mm_i M a 0 = hn then -1 else mm_i M a j)) b j = mm_i M b j := fun b j hb => by
    rw [mm_i_mi, if_neg (fun z => hb.elim (fun w => w (h.g7 b z.2.1)) (fun w => w z.1))]
  refine h.mid (fun _ => rfl) (fun _ => rfl) (h.1.mi (fun a ha => hi a 1 (Or.inl (by rw [ha]; decide)))) (fun _ z => z) (fun _ _ _ _ _ _ => rfl) (fun b j hb => hi b j ?_) (fun k hk j => (d_es_n (by omega)).symm) (fun g hg => ?_) (fun b hb => ?_) (fun _ _ => rfl)
  · rcases hb with z | z | z | z
    · exact Or.inl (by rw [z.1]; decide)
    · exact Or.inl (by rw [z]; decide)
    · exact Or.inl (by rw [z.1]; decide)
    · exact Or.inl (h.kp b z).2.1
  · have z := h.2.2.2.2.1 g hg
    refine ⟨by rw [hi g 0 (Or.inr (by omega))]; exact z.1.trans (d_es_n (by decide)), ?_, by rw [hi g 2 (Or.inr (by omega))]; exact z.2.2.trans (d_es_n (by decide))⟩
    show (if 1 = 1 ∧ g ∈ D.1.1 ∧ mm_i M g 0 = hn then (-1 : Int32) else mm_i M g 1) = if 1 = 1 ∧ g ∈ D.1.1 ∧ D.2.1 0 g = hn then -1 else D.2.1 1 g
    rw [z.1, z.2.1]
  · have z := h.2.2.2.2.2.1 b hb
    have n : mm_k M b ≠ 7 := by rw [h.x8 b hb]; decide
    rw [hi b 1 (Or.inl n), hi b 2 (Or.inl n), hi b 5 (Or.inl n)]
    exact ⟨z.2.1.trans (d_es_n (by decide)), z.2.2.1.trans (d_es_n (by decide)), z.2.2.2.1.trans (d_es_n (by decide))⟩
theorem cw_handItems {d : Nat} (hd32 : d < 32) (hd : d_pg D) (h : ph_R G c F Mb M D eP eO) (k : ∀ M1, ph_R G c F Mb M1 (d_hi D d) eP eO → K none M1) : mm_Ok l G yy_Me_handItemsToKernel Y_Me_handItemsToKernel [.inr (some (c 1)), .inl (nI d)] M K := by
  refine ct_handItems hd32 h.1 (k _ ?_)
  have hi : ∀ b j, mm_k M b ≠ 8 ∨ j ≠ 5 → mm_i (mm_mi M (fun a j => if j = 5 ∧ a ∈ D.1.2 then hd_i M d a else mm_i M a j)) b j = mm_i M b j := fun b j hb => by
    rw [mm_i_mi, if_neg (fun z => hb.elim (fun w => w (h.x8 b z.2)) (fun w => w z.1))]
  refine h.mid (fun _ => rfl) (fun _ => rfl) (h.1.mi (fun a ha => hi a 1 (Or.inl (by rw [ha]; decide)))) (fun _ z => z) (fun _ _ _ _ _ _ => rfl) (fun b j hb => hi b j ?_) (fun k hk j => (d_hi_n (by omega)).symm) (fun g hg => ?_) (fun b hb => ?_) (fun _ _ => rfl)
  · rcases hb with z | z | z | z
    · exact Or.inl (by rw [z.1]; decide)
    · exact Or.inl (by rw [z]; decide)
    · exact Or.inr (by omega)
    · exact Or.inl (h.kp b z).2.2.1
  · have z := h.2.2.2.2.1 g hg
    have n : mm_k M g ≠ 8 := by rw [h.g7 g hg]; decide
    rw [hi g 0 (Or.inl n), hi g 1 (Or.inl n), hi g 2 (Or.inl n)]
    exact ⟨z.1.trans (d_hi_n (by decide)), z.2.1.trans (d_hi_n (by decide)), z.2.2.trans (d_hi_n (by decide))⟩
  · have z := h.2.2.2.2.2.1 b hb
    rw [hi b 1 (Or.inr (by omega)), hi b 2 (Or.inr (by omega))]
    refine ⟨z.2.1.trans (d_hi_n (by decide)), z.2.2.1.trans (d_hi_n (by decide)), ?_⟩
    rw [mm_i_mi, if_pos ⟨rfl, hb⟩]
    show hd_i M d b = if 5 = 5 ∧ b ∈ D.1.2 then d_hd D d b else D.2.1 5 b
    rw [if_pos ⟨rfl, hb⟩]
    unfold hd_i d_hd
    rw [h.hh hd hb, z.2.2.2.1]
theorem cw_merge {hn : Int32} (h : ph_R G c F Mb M D eP eO) (k : ∀ M1, ph_R G c F Mb M1 (d_mg D hn) eP eO → K none M1) : mm_Ok l G yy_Me_mergeIntoKernel Y_Me_mergeIntoKernel [.inr (some (c 1)), .inl hn] M K := by
  refine ct_merge h.1 (fun M1 hW hR => k _ ?_)
  have ef1 : D.1.1.filter (fun g => !decide (mm_i M g 0 = hn)) = D.1.1.filter (fun g => !decide (D.2.1 0 g = hn)) := List.filter_congr (fun g hg => by rw [(h.2.2.2.2.1 g hg).1])
  have ef2 : D.1.1.filter (fun g => decide (mm_i M g 0 = hn)) = D.1.1.filter (fun g => decide (D.2.1 0 g = hn)) := List.filter_congr (fun g hg => by rw [(h.2.2.2.2.1 g hg).1])
  rw [ef1, ef2] at hW
  have nS : ∀ a, mm_k M a ≠ 3 → mm_k M a ≠ 102 → mm_k M a ≠ 105 → ¬ me_S (c 10) (c 11) eP eO a := fun a => h.1.nS
  have hi : ∀ b j, mm_k M b ≠ 3 → mm_k M b ≠ 102 → mm_k M b ≠ 105 → mm_k M b ≠ 7 ∨ j ≠ 0 → mm_i M1 b j = mm_i M b j := fun b j b1 b2 b3 hb => by
    rw [(hR.2.2.2 b (nS b b1 b2 b3) j).2]
    exact if_neg (fun z => hb.elim (fun w => w (h.g7 b z.2.1)) (fun w => w z.1))
  refine h.mid hR.1 hR.2.1 hW (fun _ z => z) (fun a a1 a2 a3 _ j => (hR.2.2.2 a (nS a a1 a2 a3) j).1) (fun b j hb => ?_) (fun k hk j => (d_mg_n (by omega)).symm) (fun g hg => ?_) (fun b hb => ?_) (fun _ _ => rfl)
  · rcases hb with z | z | z | z
    · exact hi b j (by rw [z.1]; decide) (by rw [z.1]; decide) (by rw [z.1]; decide) (Or.inl (by rw [z.1]; decide))
    · exact hi b j (by rw [z]; decide) (by rw [z]; decide) (by rw [z]; decide) (Or.inl (by rw [z]; decide))
    · exact hi b j (by rw [z.1]; decide) (by rw [z.1]; decide) (by rw [z.1]; decide) (Or.inl (by rw [z.1]; decide))
    · have w := h.kp b z
      exact hi b j w.2.2.2.2.2.1 w.2.2.2.2.2.2.1 w.2.2.2.2.2.2.2.2.2 (Or.inl w.2.1)
  · have hg' : g ∈ D.1.1 := by
      rcases List.mem_append.mp hg with w | w
      · exact (List.mem_filter.mp w).1
      · exact (List.mem_filter.mp w).1
    have z := h.2.2.2.2.1 g hg'
    have n := h.g7 g hg'
    refine ⟨?_, ?_, ?_⟩
    · rw [(hR.2.2.2 g (nS g (by rw [n]; decide) (by rw [n]; decide) (by rw [n]; decide)) 0).2]
      show (if 0 = 0 ∧ g ∈ D.1.1 ∧ mm_i M g 0 = hn then (8 : Int32) else mm_i M g 0) = if 0 = 0 ∧ g ∈ D.1.1 ∧ D.2.1 0 g = hn then 8 else D.2.1 0 g
      rw [z.1]
    · rw [hi g 1 (by rw [n]; decide) (by rw [n]; decide) (by rw [n]; decide) (Or.inr (by omega))]
      exact z.2.1.trans (d_mg_n (by decide))
    · rw [hi g 2 (by rw [n]; decide) (by rw [n]; decide) (by rw [n]; decide) (Or.inr (by omega))]
      exact z.2.2.trans (d_mg_n (by decide))
  · have z := h.2.2.2.2.2.1 b hb
    have n := h.x8 b hb
    have e : ∀ j, mm_i M1 b j = mm_i M b j := fun j => hi b j (by rw [n]; decide) (by rw [n]; decide) (by rw [n]; decide) (Or.inl (by rw [n]; decide))
    rw [e, e, e]
    exact ⟨z.2.1.trans (d_mg_n (by decide)), z.2.2.1.trans (d_mg_n (by decide)), z.2.2.2.1.trans (d_mg_n (by decide))⟩
end QA
