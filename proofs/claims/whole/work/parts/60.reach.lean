/-! THE COLLECTOR: its row of reached objects -/
/-- the memory M where the row cr of the collector ac holds rs, whose objects are marked -/
def co_M (M : mm_M) (ac cr : Nat) (rs : List Nat) : mm_M := (M.1, M.2.1, fun a j => if a = ac ∧ j = 1 then nI rs.length else if j = 4 ∧ a ∈ rs then 1 else mm_i M a j, fun a j => if a = cr then (match rs[j]? with | some b => some b | none => mm_p M cr j) else mm_p M a j, M.2.2.2.2)
def co_H (M : mm_M) (ac cr : Nat) : Prop := ti_T M ∧ mm_k M ac = 4 ∧ mm_p M ac 0 = some cr ∧ mm_k M cr = 103 ∧ mm_l M cr = 60 ∧ (∀ a, mm_k M a = 8 → oo_a M a ≠ cr ∧ mm_i M a 4 = 0) ∧ ∀ q, mm_k M q = 6 → pr_a M q ≠ cr
def rc_o (M : mm_M) (h : Int32) (rs : List Nat) (ob : Option Nat) : List Nat := match ob with
  | none => rs
  | some a => if oo_h M a = h ∧ a ∉ rs then rs ++ [a] else rs
section CO
variable {l : Launch} {G : mm_G} {K : Option mm_V → mm_M → Prop} {M : mm_M} {am LP LO eP eO ac cr : Nat} {gs xs rs : List Nat} {h : Int32}
theorem co_k (a : Nat) : mm_k (co_M M ac cr rs) a = mm_k M a := rfl
theorem co_l (a : Nat) : mm_l (co_M M ac cr rs) a = mm_l M a := rfl
theorem co_i (a j : Nat) : mm_i (co_M M ac cr rs) a j = if a = ac ∧ j = 1 then nI rs.length else if j = 4 ∧ a ∈ rs then 1 else mm_i M a j := rfl
theorem co_p (a j : Nat) : mm_p (co_M M ac cr rs) a j = if a = cr then (match rs[j]? with | some b => some b | none => mm_p M cr j) else mm_p M a j := rfl
theorem co_pn {a j : Nat} (ha : a ≠ cr) : mm_p (co_M M ac cr rs) a j = mm_p M a j := by rw [co_p, if_neg ha]
theorem co_in {a j : Nat} (h1 : j ≠ 1) (h4 : j ≠ 4) : mm_i (co_M M ac cr rs) a j = mm_i M a j := by rw [co_i, if_neg (fun q => h1 q.2), if_neg (fun q => h4 q.1)]
theorem co_g {a : Nat} (ha : a ≠ cr) : oo_g (co_M M ac cr rs) a = oo_g M a := by unfold oo_g; rw [co_pn ha]
theorem co_h {a : Nat} (ha : a ≠ cr) : oo_h (co_M M ac cr rs) a = oo_h M a := by unfold oo_h; rw [co_g ha, co_in (by decide) (by decide)]
theorem co_a {a : Nat} (ha : a ≠ cr) : oo_a (co_M M ac cr rs) a = oo_a M a := by unfold oo_a; rw [co_pn ha]
theorem co_r {q : Nat} (ha : q ≠ cr) : pr_a (co_M M ac cr rs) q = pr_a M q := by unfold pr_a; rw [co_pn ha]
theorem co_0 (hT : mm_i M ac 1 = 0) : co_M M ac cr [] = M := by
  show (M.1, M.2.1, (fun a j => if a = ac ∧ j = 1 then nI 0 else if j = 4 ∧ a ∈ [] then 1 else mm_i M a j), (fun a j => if a = cr then mm_p M cr j else mm_p M a j), M.2.2.2.2) = (M.1, M.2.1, M.2.2.1, M.2.2.2.1, M.2.2.2.2)
  have e1 : (fun a j => if a = ac ∧ j = 1 then nI 0 else if j = 4 ∧ a ∈ ([] : List Nat) then 1 else mm_i M a j) = M.2.2.1 := by
    funext a j
    by_cases q : a = ac ∧ j = 1
    · rw [if_pos q, q.1, q.2, nI_0]
      exact hT.symm
    · rw [if_neg q, if_neg (fun z => by cases z.2)]
      rfl
  have e2 : (fun a j => if a = cr then mm_p M cr j else mm_p M a j) = M.2.2.2.1 := by
    funext a j
    by_cases q : a = cr
    · rw [if_pos q, q]
      rfl
    · rw [if_neg q]
      rfl
  rw [e1, e2]
theorem co_H.ne (hH : co_H M ac cr) {a : Nat} (ha : mm_k M a ≠ 103) : a ≠ cr := fun q => ha (by rw [q]; exact hH.2.2.2.1)
theorem co_H.T (hH : co_H M ac cr) (h8 : ∀ a, a ∈ rs → mm_k M a = 8) : ti_T (co_M M ac cr rs) := by
  obtain ⟨⟨h1, h2, h3, h4, h5, h6, h7⟩, f2, f3, f4, f5, f6, f7⟩ := hH
  have n : ∀ a, mm_k M a ≠ 103 → a ≠ cr := fun a ha q => ha (by rw [q]; exact f4)
  have n8 : ∀ a, mm_k M a = 8 → a ≠ cr := fun a ha => n a (by rw [ha]; decide)
  have n6 : ∀ a, mm_k M a = 6 → a ≠ cr := fun a ha => n a (by rw [ha]; decide)
  refine ⟨fun a ha => ?_, fun q hq => ?_, fun f j v hf hv => ?_, fun f j v hf hv => ?_, fun a b ha hb e => ?_, fun p q hp hq e => ?_, fun a q ha hq => ?_⟩
  · have ha' : mm_k M a = 8 := ha
    obtain ⟨g1, g2, g3, g4, g5, g6⟩ := h1 a ha'
    unfold ti_O
    rw [co_g (n8 a ha'), co_a (n8 a ha'), co_pn (n8 a ha'), co_pn (n8 a ha')]
    exact ⟨g1, g2, g3, g4, g5, g6⟩
  · have hq' : mm_k M q = 6 := hq
    obtain ⟨g1, g2, g3, g4⟩ := h2 q hq'
    unfold ti_P
    rw [co_r (n6 q hq'), co_pn (n6 q hq')]
    exact ⟨g1, g2, g3, g4⟩
  · rw [co_p] at hv
    by_cases z : f = cr
    · rw [if_pos z] at hv
      cases w : rs[j]? with
      | some b =>
        rw [w] at hv
        have : b = v := Option.some.inj hv
        rw [← this]
        exact h8 b (List.mem_of_getElem? w)
      | none =>
        rw [w] at hv
        exact h3 cr j v f4 hv
    · rw [if_neg z] at hv
      exact h3 f j v hf hv
  · rw [co_pn (n f (by rw [show mm_k M f = 104 from hf]; decide))] at hv
    exact h4 f j v hf hv
  · rw [co_a (n8 a ha), co_a (n8 b hb)] at e
    exact h5 a b ha hb e
  · rw [co_r (n6 p hp), co_r (n6 q hq)] at e
    exact h6 p q hp hq e
  · rw [co_a (n8 a ha), co_r (n6 q hq)]
    exact h7 a q ha hq
theorem co_H.W (hH : co_H M ac cr) (h8 : ∀ a, a ∈ rs → mm_k M a = 8) (hW : me_W G M am LP LO eP eO gs xs) : me_W G (co_M M ac cr rs) am LP LO eP eO gs xs := by
  have hT := hH.T h8
  obtain ⟨f1, f2, f3, f4, f5, f6, f7, f8, f9, f10, f11, f12, f13⟩ := hW
  have nL : ∀ {L e : Nat} {es : List Nat}, al_L G M L e es → al_L G (co_M M ac cr rs) L e es := by
    intro L e es hL
    have n1 : L ≠ cr := hH.ne (by rw [hL.1]; decide)
    have n2 : e ≠ cr := hH.ne (by rcases hL.kind with z | z <;> rw [z] <;> decide)
    have n3 : L ≠ ac := fun q => by have := hL.1; rw [q, hH.2.1] at this; cases this
    refine ⟨hL.1, by rw [co_pn n1]; exact hL.2.1, ?_, hL.2.2.2.1, fun j v hj => by rw [co_pn n2]; exact hL.2.2.2.2 j v hj⟩
    rw [co_i, if_neg (fun q => n3 q.1), if_neg (fun q => by cases q.1)]
    exact hL.2.2.1
  have na : am ≠ cr := hH.ne (by rw [f3]; decide)
  exact ⟨f1, hT, f3, by rw [co_pn na]; exact f4, by rw [co_pn na]; exact f5, nL f6, nL f7, f8, f9, f10, f11, f12, f13⟩
theorem co_push {a : Nat} (hH : co_H M ac cr) (ha : mm_k M a = 8) (hn : a ∉ rs) : mm_si (mm_sp (mm_si (co_M M ac cr rs) a 4 1) cr rs.length (some a)) ac 1 (nI rs.length + 1) = co_M M ac cr (rs ++ [a]) := by
  have e1 : (fun b k => if b = ac ∧ k = 1 then nI rs.length + 1 else if b = a ∧ k = 4 then (1 : Int32) else if b = ac ∧ k = 1 then nI rs.length else if k = 4 ∧ b ∈ rs then 1 else mm_i M b k) = fun b k => if b = ac ∧ k = 1 then nI (rs ++ [a]).length else if k = 4 ∧ b ∈ rs ++ [a] then 1 else mm_i M b k := by
    funext b k
    by_cases q : b = ac ∧ k = 1
    · rw [if_pos q, if_pos q, nI_1, List.length_append]
      rfl
    · rw [if_neg q, if_neg q, if_neg q]
      by_cases w : k = 4
      · by_cases u : b = a
        · simp [w, u]
        · simp [w, u]
      · simp [w]
  have e2 : (fun b k => if b = cr ∧ k = rs.length then some a else if b = cr then (match rs[k]? with | some c => some c | none => mm_p M cr k) else mm_p M b k) = fun b k => if b = cr then (match (rs ++ [a])[k]? with | some c => some c | none => mm_p M cr k) else mm_p M b k := by
    funext b k
    by_cases q : b = cr
    · rw [if_pos q, if_pos q]
      by_cases w : k = rs.length
      · rw [if_pos ⟨q, w⟩, w, List.getElem?_append_right (Nat.le_refl _), Nat.sub_self]
        rfl
      · rw [if_neg (fun z => w z.2)]
        rcases Nat.lt_or_ge k rs.length with u | u
        · rw [List.getElem?_append_left u]
        · rw [List.getElem?_eq_none u, List.getElem?_eq_none (by rw [List.length_append]; show rs.length + 1 ≤ k; omega)]
    · rw [if_neg q, if_neg q, if_neg (fun z => q z.1)]
  show (M.1, M.2.1, _, _, M.2.2.2.2) = (M.1, M.2.1, _, _, M.2.2.2.2)
  exact congrArg (fun z => (M.1, M.2.1, z)) (Prod.ext e1 (Prod.ext e2 rfl))
theorem ct_reach {ob : Option Nat} (hH : co_H M ac cr) (h8 : ∀ a, a ∈ rs → mm_k M a = 8) (hr : rs.length ≤ 60) (ho : ∀ a, ob = some a → mm_k M a = 8 ∧ (a ∉ rs → rs.length < 60))
    (k : K none (co_M M ac cr (rc_o M h rs ob))) : mm_Ok l G yy_Co_reachObject Y_Co_reachObject [.inr (some ac), .inl h, .inr ob] (co_M M ac cr rs) K := by
  refine sg_Co_reachObject ⟨fun e => by subst e; exact k, fun a e => ?_⟩
  subst e
  obtain ⟨ha, hlt⟩ := ho a rfl
  have hT := hH.T h8
  have na : a ≠ cr := hH.ne (by rw [ha]; decide)
  have nac : a ≠ ac := fun q => by rw [q, hH.2.1] at ha; cases ha
  have ncc : ac ≠ cr := hH.ne (by rw [hH.2.1]; decide)
  have ei : mm_i (co_M M ac cr rs) ac 1 = nI rs.length := by rw [co_i, if_pos ⟨rfl, rfl⟩]
  have k' : K none (co_M M ac cr (if oo_h M a = h ∧ a ∉ rs then rs ++ [a] else rs)) := k
  refine ⟨ha, ct_heap (hT.1 a ha) (fun _ => ⟨_, rfl, fun hc => ?_, fun hc => ⟨fun hm => ?_, fun hm => ⟨hH.2.1, fun hlt2 => ?_, fun hlt2 => ?_⟩⟩⟩)⟩
  · rw [co_h na] at hc
    rw [if_neg (fun q => hc q.1)] at k'
    exact k'
  · have hin : a ∈ rs := by
      apply Decidable.byContradiction
      intro q
      rw [co_i, if_neg (fun z => nac z.1), if_neg (fun z => q z.2)] at hm
      exact hm (hH.2.2.2.2.2.1 a ha).2
    rw [if_neg (fun q => q.2 hin)] at k'
    exact k'
  · have hin : a ∉ rs := fun q => by
      rw [co_i, if_neg (fun z => nac z.1), if_pos ⟨rfl, q⟩] at hm
      exact absurd hm (by decide)
    have hl := hlt hin
    rw [co_h na] at hc
    rw [if_pos ⟨hc, hin⟩] at k'
    refine ⟨cr, by rw [mm_p_si, co_pn ncc]; exact hH.2.2.1, hH.2.2.2.1, rs.length, ?_, by omega, ?_, fun q hq => by cases hq; exact ha, ?_⟩
    · rw [mm_i_si, if_neg (fun q => nac q.1.symm), ei]
    · show rs.length < mm_l M cr
      rw [hH.2.2.2.2.1]
      exact hl
    · rw [mm_i_sp, mm_i_si, if_neg (fun q => nac q.1.symm), ei, co_push hH ha hin]
      exact k'
  · have hin : a ∉ rs := fun q => by
      rw [co_i, if_neg (fun z => nac z.1), if_pos ⟨rfl, q⟩] at hm
      exact absurd hm (by decide)
    rw [ei] at hlt2
    exact absurd (show nI rs.length < nI 60 from nI_lt (hlt hin) (by decide)) hlt2
end CO
