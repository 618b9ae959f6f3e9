/-! THE COLLECTOR: a run -/
/-- held by a register, or named from outside -/
def co_Rt (M : mm_M) (ar : Nat) (a : Nat) : Prop := (∃ p q r, p < 8 ∧ mm_p M ar p = some q ∧ r < 4 ∧ pr_r M q r = some a) ∨ mm_i M a 5 ≠ 0
/-- reached in the heap h -/
def co_Re (M : mm_M) (ar : Nat) (xs : List Nat) (h : Int32) (a : Nat) : Prop := ∀ P : Nat → Prop, (∀ b, b ∈ xs → oo_h M b = h → co_Rt M ar b → P b) → (∀ b f c, P b → f < 3 → oo_f M b f = some c → oo_h M c = h → P c) → P a
/-- kept where rs is what is reached in h -/
def kp (M : mm_M) (h : Int32) (rs : List Nat) (a : Nat) : Bool := !(decide (oo_h M a = h) && !decide (a ∈ rs))
/-- the ints after a run -/
def cl_F (M : mm_M) (n : Nat) (xs rs : List Nat) (a j : Nat) : Int32 :=
  if j = 2 ∧ mm_k M a = 7 then mm_i M a 2 + fu_s M a (xs.filter (fun b => !kp M (nI n) rs b))
  else if j = 5 ∧ a ∈ xs.filter (kp M (nI n) rs) then (if rs.any (fun b => nf M b 3 a) = true then (mm_i M a 5 &&& (((1 : Int32) <<< (nI n &&& 31)) ^^^ (-1))) ||| ((1 : Int32) <<< (nI n &&& 31)) else mm_i M a 5 &&& (((1 : Int32) <<< (nI n &&& 31)) ^^^ (-1)))
  else mm_i M a j
def co_R (M M1 : mm_M) (S : Nat → Prop) (ac cr : Nat) (F : Nat → Nat → Int32) : Prop := (∀ a, mm_k M1 a = mm_k M a) ∧ (∀ a, mm_l M1 a = mm_l M a) ∧ mm_z M1 = mm_z M ∧ (∀ a, ¬ S a → a ≠ cr → ∀ j, mm_p M1 a j = mm_p M a j) ∧ ∀ a, ¬ S a → ∀ j, ¬ (a = ac ∧ j = 1) → mm_i M1 a j = F a j
section CS
variable {l : Launch} {G : mm_G} {K : Option mm_V → mm_M → Prop} {M M1 : mm_M} {am LP LO eP eO ac cr ar : Nat} {gs xs rs : List Nat}
theorem co_start : mm_si M ac 1 0 = co_M M ac cr [] := by
  have e1 : (fun b k => if b = ac ∧ k = 1 then (0 : Int32) else M.2.2.1 b k) = fun a j => if a = ac ∧ j = 1 then nI 0 else if j = 4 ∧ a ∈ ([] : List Nat) then 1 else mm_i M a j := by
    funext a j
    by_cases q : a = ac ∧ j = 1
    · rw [if_pos q, if_pos q, nI_0]
    · rw [if_neg q, if_neg q, if_neg (fun z => by cases z.2)]
      rfl
  have e2 : M.2.2.2.1 = fun a j => if a = cr then mm_p M cr j else mm_p M a j := by
    funext a j
    by_cases q : a = cr
    · rw [if_pos q, q]
      rfl
    · rw [if_neg q]
      rfl
  show (M.1, M.2.1, _, _, M.2.2.2.2) = (M.1, M.2.1, _, _, M.2.2.2.2)
  exact congrArg (fun z => (M.1, M.2.1, z)) (Prod.ext e1 (Prod.ext e2 rfl))
theorem fu_s_co (hn : ∀ a, a ∈ xs → a ≠ cr ∧ a ≠ ac) (g : Nat) : ∀ ys : List Nat, (∀ a, a ∈ ys → a ∈ xs) → fu_s (co_M M ac cr rs) g ys = fu_s M g ys
  | [], _ => rfl
  | a :: t, hs => by
    have ha := hn a (hs a List.mem_cons_self)
    have e : mm_i (co_M M ac cr rs) a 1 = mm_i M a 1 := by rw [co_i, if_neg (fun q => ha.2 q.1), if_neg (fun q => by cases q.1)]
    have ih := fu_s_co hn g t (fun b hb => hs b (List.mem_cons_of_mem _ hb))
    show (if oo_g (co_M M ac cr rs) a = g then mm_i (co_M M ac cr rs) a 1 + fu_s (co_M M ac cr rs) g t else fu_s (co_M M ac cr rs) g t) = _
    rw [co_g ha.1, e, ih]
    rfl
theorem ct_run {n : Nat} (hH : co_H M ac cr) (hW : me_W G M am LP LO eP eO gs xs) (hxl : xs.length ≤ 60) (kar : mm_k M ar = 104) (lar : mm_l M ar = 8)
    (hreg : ∀ p q r a, p < 8 → mm_p M ar p = some q → r < 4 → pr_r M q r = some a → a ∈ xs) (hfld : ∀ a f b, a ∈ xs → f < 3 → oo_f M a f = some b → b ∈ xs)
    (k : ∀ M1 rs, rs.Nodup → (∀ a, a ∈ rs ↔ a ∈ xs ∧ oo_h M a = nI n ∧ co_Re M ar xs (nI n) a) → me_W G M1 am LP LO eP eO (gs.filter (fun g => !decide (mm_i M g 2 + fu_s M g (xs.filter (fun b => !kp M (nI n) rs b)) = 16))) (xs.filter (kp M (nI n) rs)) → co_R M M1 (me_S LP LO eP eO) ac cr (cl_F M n xs rs) → K (some (.inl (nI (xs.filter (fun b => !kp M (nI n) rs b)).length))) M1) : mm_Ok l G yy_Co_run Y_Co_run [.inr (some ac), .inl (nI n), .inr (some am), .inr (some ar)] M K := by
  have hx8 := hW.2.2.2.2.2.2.2.2.2.2.1
  have hg7 := hW.2.2.2.2.2.2.2.2.2.1
  have hstep : ∀ b f c, co_Re M ar xs (nI n) b → f < 3 → oo_f M b f = some c → oo_h M c = nI n → co_Re M ar xs (nI n) c := fun b f c hb hf hc hh P h1 h2 => h2 b f c (hb P h1 h2) hf hc hh
  have hroot : ∀ b, b ∈ xs → oo_h M b = nI n → co_Rt M ar b → co_Re M ar xs (nI n) b := fun b hb hh hr P h1 _ => h1 b hb hh hr
  refine sg_Co_run ⟨hH.2.1, ?_⟩
  rw [co_start (cr := cr)]
  refine ct_reachHeld (R := co_Re M ar xs (nI n)) hH hx8 hxl kar lar (fun p q r a hp hq hr ha => ⟨hreg p q r a hp hq hr ha, fun hh => hroot a (hreg p q r a hp hq hr ha) hh (Or.inl ⟨p, q, r, hp, hq, hr, ha⟩)⟩) ⟨List.nodup_nil, fun a q => by cases q⟩ (fun rs1 hI1 hd1 _ => ⟨rfl, ?_⟩)
  refine ct_reachNamed hH hW hxl (fun a ha h5 hh => hroot a ha hh (Or.inr h5)) hI1 (fun rs2 hI2 hs2 hd2 _ => ⟨rfl, ?_⟩)
  refine ct_follow hH hx8 hxl (fun a f b ha hf hb => ⟨hfld a f b ha hf hb, fun hr hh => hstep a f b hr hf hb hh⟩) hI2 (fun rs hI hs3 hd3 _ => ⟨rfl, am, rfl, hW.2.2.1, ?_⟩)
  have h8 : ∀ a, a ∈ rs → mm_k M a = 8 := fun a ha => hx8 a (hI.2 a ha).1
  have hchar : ∀ a, a ∈ rs ↔ a ∈ xs ∧ oo_h M a = nI n ∧ co_Re M ar xs (nI n) a := by
    intro a
    constructor
    · exact hI.2 a
    · rintro ⟨-, -, h3⟩
      refine h3 (fun b => b ∈ rs) (fun b hb hh hr => ?_) (fun b f c hb hf hc hh => hd3 b f c hb hf hc hh)
      rcases hr with ⟨p, q, r, hp, hq, hr, ha⟩ | h5
      · exact hs3 b (hs2 b (hd1 p q r b hp hq hr ha hh))
      · exact hs3 b (hd2 b hb h5 hh)
  have hWc := hH.W h8 hW
  have ncr : ∀ a, mm_k M a ≠ 103 → a ≠ cr := fun a ha => hH.ne ha
  have nac : ∀ a, mm_k M a ≠ 4 → a ≠ ac := fun a ha q => ha (by rw [q]; exact hH.2.1)
  have hxn : ∀ a, a ∈ xs → a ≠ cr ∧ a ≠ ac := fun a ha => ⟨ncr a (by rw [hx8 a ha]; decide), nac a (by rw [hx8 a ha]; decide)⟩
  have ek : ∀ a, a ∈ xs → fu_k (co_M M ac cr rs) (nI n) a = kp M (nI n) rs a := by
    intro a ha
    unfold fu_k kp
    rw [co_h (hxn a ha).1, co_i, if_neg (fun q => (hxn a ha).2 q.1)]
    by_cases q : a ∈ rs
    · rw [if_pos ⟨rfl, q⟩]
      simp [q]
    · rw [if_neg (fun z => q z.2), (hH.2.2.2.2.2.1 a (hx8 a ha)).2]
      simp [q]
  have ef1 : xs.filter (fu_k (co_M M ac cr rs) (nI n)) = xs.filter (kp M (nI n) rs) := List.filter_congr ek
  have ef2 : xs.filter (fun b => !fu_k (co_M M ac cr rs) (nI n) b) = xs.filter (fun b => !kp M (nI n) rs b) := List.filter_congr (fun a ha => by rw [ek a ha])
  have es : ∀ g, fu_s (co_M M ac cr rs) g (xs.filter (fun b => !kp M (nI n) rs b)) = fu_s M g (xs.filter (fun b => !kp M (nI n) rs b)) := fun g => fu_s_co hxn g _ (fun a ha => (List.mem_filter.mp ha).1)
  have eF2 : ∀ g, mm_k M g = 7 → fu_F (co_M M ac cr rs) (nI n) xs g 2 = mm_i M g 2 + fu_s M g (xs.filter (fun b => !kp M (nI n) rs b)) := by
    intro g hg
    unfold fu_F
    rw [if_neg (fun q => by cases q.1), if_pos ⟨rfl, hg⟩, ef2, es, co_in (by decide) (by decide)]
  refine ct_freeUnreached hWc (fun M1 hW1 hR1 _ => ⟨_, rfl, ?_⟩)
  have eg : gs.filter (fun g => !decide (fu_F (co_M M ac cr rs) (nI n) xs g 2 = 16)) = gs.filter (fun g => !decide (mm_i M g 2 + fu_s M g (xs.filter (fun b => !kp M (nI n) rs b)) = 16)) := List.filter_congr (fun g hg => by rw [eF2 g (hg7 g hg)])
  rw [ef1, eg] at hW1
  rw [ef2]
  have nS : ∀ a, mm_k M a ≠ 3 → mm_k M a ≠ 102 → mm_k M a ≠ 105 → ¬ me_S LP LO eP eO a := fun a h1 h2 h3 => hW.nS h1 h2 h3
  have Sac : ¬ me_S LP LO eP eO ac := nS ac (by rw [hH.2.1]; decide) (by rw [hH.2.1]; decide) (by rw [hH.2.1]; decide)
  have Scr : ¬ me_S LP LO eP eO cr := nS cr (by rw [hH.2.2.2.1]; decide) (by rw [hH.2.2.2.1]; decide) (by rw [hH.2.2.2.1]; decide)
  have S8 : ∀ a, mm_k M a = 8 → ¬ me_S LP LO eP eO a := fun a ha => nS a (by rw [ha]; decide) (by rw [ha]; decide) (by rw [ha]; decide)
  have S7 : ∀ a, mm_k M a = 7 → ¬ me_S LP LO eP eO a := fun a ha => nS a (by rw [ha]; decide) (by rw [ha]; decide) (by rw [ha]; decide)
  have S103 : ∀ a, mm_k M a = 103 → ¬ me_S LP LO eP eO a := fun a ha => nS a (by rw [ha]; decide) (by rw [ha]; decide) (by rw [ha]; decide)
  have hncc : ac ≠ cr := ncr ac (by rw [hH.2.1]; decide)
  have eg1 : ∀ a, mm_k M a = 8 → oo_g M1 a = oo_g M a := by
    intro a ha
    unfold oo_g
    rw [(hR1.2.2.2 a (S8 a ha) 0).1, co_pn (ncr a (by rw [ha]; decide))]
  have eh1 : ∀ a, mm_k M a = 8 → oo_h M1 a = oo_h M a := by
    intro a ha
    have hO := hH.1.1 a ha
    unfold oo_h
    rw [eg1 a ha, (hR1.2.2.2 _ (S7 _ hO.2.2.1) 0).2]
    unfold fu_F
    rw [if_neg (fun q => by cases q.1), if_neg (fun q => by cases q.1), co_in (by decide) (by decide)]
  have ef : ∀ a f, mm_k M a = 8 → oo_f M1 a f = oo_f M a f := by
    intro a f ha
    have hO := hH.1.1 a ha
    have e1 : oo_a M1 a = oo_a M a := by
      unfold oo_a
      rw [(hR1.2.2.2 a (S8 a ha) 3).1, co_pn (ncr a (by rw [ha]; decide))]
    unfold oo_f
    rw [e1, (hR1.2.2.2 _ (S103 _ hO.2.2.2.2.1) f).1, co_pn (hH.2.2.2.2.2.1 a ha).1]
  have enf : ∀ a m c, mm_k M a = 8 → nf M1 a m c = nf M a m c := by
    intro a m c ha
    unfold nf
    congr 1
    funext f
    rw [ef a f ha, eh1 a ha]
    by_cases q : oo_f M a f = some c
    · have hc8 := hH.1.2.2.1 (oo_a M a) f c (hH.1.1 a ha).2.2.2.2.1 q
      rw [eh1 c hc8]
    · simp [q]
  refine ct_loseItems (rs := rs) (cr := cr) hW1 (by rw [hR1.1]; exact hH.2.1) ?_ (by rw [hR1.1]; exact hH.2.2.2.1) (by rw [hR1.2.1]; exact hH.2.2.2.2.1) (fun j a hj => ?_) ?_ (by have := hI.len; omega) (fun a ha => ⟨by rw [hR1.1]; exact h8 a ha, by rw [eh1 a (h8 a ha)]; exact (hI.2 a ha).2.1⟩) (fun _ => ⟨rfl, k _ rs hI.1 hchar ?_ ⟨fun a => ?_, fun a => ?_, ?_, fun a hS hcr j => ?_, fun a hS j hne => ?_⟩⟩)
  · rw [(hR1.2.2.2 ac Sac 0).1, co_pn hncc]
    exact hH.2.2.1
  · rw [(hR1.2.2.2 cr Scr j).1, co_p, if_pos rfl, hj]
  · rw [(hR1.2.2.2 ac Sac 1).2]
    unfold fu_F
    rw [if_neg (fun q => by cases q.1), if_neg (fun q => by cases q.1), co_i, if_pos ⟨rfl, rfl⟩]
  · have z1 : me_W G (li_M M1 (xs.filter (kp M (nI n) rs)) n) am LP LO eP eO (gs.filter (fun g => !decide (mm_i M g 2 + fu_s M g (xs.filter (fun b => !kp M (nI n) rs b)) = 16))) (xs.filter (kp M (nI n) rs)) := hW1.mi (fun a _ => if_neg (fun z => by cases z.1))
    exact z1.mi (fun a _ => if_neg (fun z => by cases z.1))
  · exact hR1.1 a
  · exact hR1.2.1 a
  · exact hR1.2.2.1
  · show mm_p M1 a j = _
    rw [(hR1.2.2.2 a hS j).1, co_pn hcr]
  · have eF : fu_F (co_M M ac cr rs) (nI n) xs a j = if j = 2 ∧ mm_k M a = 7 then mm_i M a 2 + fu_s M a (xs.filter (fun b => !kp M (nI n) rs b)) else mm_i M a j := by
      by_cases w : j = 2 ∧ mm_k M a = 7
      · rw [if_pos w, w.1]
        exact eF2 a w.2
      · rw [if_neg w]
        unfold fu_F
        by_cases u : j = 4 ∧ a ∈ xs
        · rw [if_pos u, u.1, (hH.2.2.2.2.2.1 a (hx8 a u.2)).2]
        · rw [if_neg u, co_k, if_neg w, co_i, if_neg hne]
          by_cases v : j = 4 ∧ a ∈ rs
          · exact absurd ⟨v.1, (hI.2 a v.2).1⟩ u
          · rw [if_neg v]
    have e1 : mm_i M1 a j = if j = 2 ∧ mm_k M a = 7 then mm_i M a 2 + fu_s M a (xs.filter (fun b => !kp M (nI n) rs b)) else mm_i M a j := by
      rw [(hR1.2.2.2 a hS j).2, eF]
    have eP : rs.any (fun b => nf M1 b 3 a) = rs.any (fun b => nf M b 3 a) := by
      rw [Bool.eq_iff_iff, List.any_eq_true, List.any_eq_true]
      constructor
      · rintro ⟨b, hb, h1⟩
        exact ⟨b, hb, by rw [← enf b 3 a (h8 b hb)]; exact h1⟩
      · rintro ⟨b, hb, h1⟩
        exact ⟨b, hb, by rw [enf b 3 a (h8 b hb)]; exact h1⟩
    show (if j = 5 ∧ rs.any (fun b => nf M1 b 3 a) = true then (if 5 = 5 ∧ a ∈ xs.filter (kp M (nI n) rs) then mm_i M1 a 5 &&& (((1 : Int32) <<< (nI n &&& 31)) ^^^ (-1)) else mm_i M1 a 5) ||| ((1 : Int32) <<< (nI n &&& 31)) else if j = 5 ∧ a ∈ xs.filter (kp M (nI n) rs) then mm_i M1 a 5 &&& (((1 : Int32) <<< (nI n &&& 31)) ^^^ (-1)) else mm_i M1 a j) = cl_F M n xs rs a j
    rw [eP]
    unfold cl_F
    by_cases w5 : j = 5
    · subst w5
      have e5 : mm_i M1 a 5 = mm_i M a 5 := by rw [e1, if_neg (fun q => by cases q.1)]
      rw [e5, if_neg (fun q : (5 = 2 ∧ mm_k M a = 7) => by cases q.1)]
      by_cases wP : rs.any (fun b => nf M b 3 a) = true
      · have hin : a ∈ xs.filter (kp M (nI n) rs) := by
          obtain ⟨b, hb, h1⟩ := List.any_eq_true.mp wP
          unfold nf at h1
          obtain ⟨f, hf, h2⟩ := List.any_eq_true.mp h1
          simp only [Bool.and_eq_true, decide_eq_true_eq, Bool.not_eq_true', decide_eq_false_iff_not] at h2
          refine List.mem_filter.mpr ⟨hfld b f a (hI.2 b hb).1 (List.mem_range.mp hf) h2.1, ?_⟩
          unfold kp
          rw [(hI.2 b hb).2.1] at h2
          simp [h2.2]
        rw [if_pos ⟨rfl, wP⟩, if_pos ⟨rfl, hin⟩, if_pos ⟨rfl, hin⟩, if_pos wP]
      · rw [if_neg (fun q => wP q.2), if_neg wP]
    · rw [if_neg (fun q => w5 q.1), if_neg (fun q => w5 q.1), e1]
      by_cases w : j = 2 ∧ mm_k M a = 7
      · rw [if_pos w, if_pos w]
      · rw [if_neg w, if_neg w, if_neg (fun q => w5 q.1)]
end CS
