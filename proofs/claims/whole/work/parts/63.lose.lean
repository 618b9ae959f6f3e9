/-! THE COLLECTOR: items are lost -/
/-- the item n is given to all of P -/
def it_M (M : mm_M) (P : Nat → Bool) (n : Nat) : mm_M := mm_mi M (fun b j => if j = 5 ∧ P b = true then mm_i M b 5 ||| ((1 : Int32) <<< (nI n &&& 31)) else mm_i M b j)
/-- is b named from outside its heap by one of the first n fields of a? -/
def nf (M : mm_M) (a n b : Nat) : Bool := (List.range n).any (fun f => decide (oo_f M a f = some b) && !decide (oo_h M b = oo_h M a))
section CR
variable {l : Launch} {G : mm_G} {K : Option mm_V → mm_M → Prop} {M : mm_M} {am LP LO eP eO ac cr ar : Nat} {gs xs rs : List Nat}
theorem it_h (P : Nat → Bool) (n a : Nat) : oo_h (it_M M P n) a = oo_h M a := by
  unfold it_M
  rw [oo_h_mi]
  exact if_neg (fun q => by cases q.1)
theorem it_ext {P Q : Nat → Bool} {n : Nat} (h : ∀ b, P b = Q b) : it_M M P n = it_M M Q n := by
  have : P = Q := funext h
  rw [this]
theorem or_idem (x t : Int32) : x ||| t ||| t = x ||| t := by
  apply bb_ext
  intro i _
  unfold bb_t
  rw [Int32.toBitVec_or, BitVec.getLsbD_or, Int32.toBitVec_or, BitVec.getLsbD_or, Bool.or_assoc, Bool.or_self]
theorem it_set (P : Nat → Bool) (n b : Nat) : mm_si (it_M M P n) b 5 (mm_i (it_M M P n) b 5 ||| ((1 : Int32) <<< (nI n &&& 31))) = it_M M (fun c => P c || decide (c = b)) n := by
  unfold it_M
  rw [mm_mi_si]
  congr 1
  funext c j
  rw [mm_i_mi]
  by_cases q : c = b
  · by_cases w : j = 5
    · subst q
      subst w
      by_cases u : P c = true
      · simp [u, or_idem]
      · simp [u]
    · simp [w]
  · simp [q]
theorem it_add (a : Nat) (v : Option Nat) (P : Nat → Bool) (n : Nat) : oo_add (it_M M P n) a v n = it_M M (fun c => P c || (decide (v = some c) && !decide (oo_h M c = oo_h M a))) n := by
  cases v with
  | none =>
    show it_M M P n = _
    exact it_ext (fun b => by simp)
  | some b =>
    show (if oo_h (it_M M P n) b = oo_h (it_M M P n) a then it_M M P n else _) = _
    rw [it_h, it_h]
    by_cases q : oo_h M b = oo_h M a
    · rw [if_pos q]
      refine it_ext (fun c => ?_)
      by_cases w : b = c
      · subst w
        simp [q]
      · simp [w]
    · rw [if_neg q, it_set]
      refine it_ext (fun c => ?_)
      by_cases w : b = c
      · subst w
        simp [q]
      · have w' : ¬ c = b := fun z => w z.symm
        simp [w, w']
theorem nf_s (a n b : Nat) : nf M a (n + 1) b = (nf M a n b || (decide (oo_f M a n = some b) && !decide (oo_h M b = oo_h M a))) := by
  unfold nf
  rw [List.range_succ, List.any_append]
  simp
theorem ct_addItems {a n : Nat} {P : Nat → Bool} (hT : ti_T M) (ha : mm_k M a = 8) (hh : oo_h M a = nI n) (k : K none (it_M M (fun c => P c || nf M a 3 c) n)) : mm_Ok l G yy_Ob_addItemsForFields Y_Ob_addItemsForFields [.inr (some a)] (it_M M P n) K := by
  have hO := hT.1 a ha
  have key : ∀ m f, 3 - f = m → f ≤ 3 → mm_Z l G Y_Ob_addItemsForFields K (it_M M P n) 0 0 2 [some (.inr (some a)), some (.inl (nI f))] [] (it_M M (fun c => P c || nf M a f c) n) := by
    intro m
    induction m with
    | zero =>
      intro f hm hf
      have : f = 3 := by omega
      subst this
      exact sg_Ob_addItemsForFields_2 ⟨fun _ => k, fun z => absurd (by decide) z⟩
    | succ m ih =>
      intro f hm hf
      refine sg_Ob_addItemsForFields_2 ⟨fun z => absurd z (show ¬ nI 3 ≤ nI f from nI_ge (by omega) (by decide)), fun _ => ⟨ha, oo_a M a, hO.2.2.2.1, hO.2.2.2.2.1, f, rfl, by omega, by show f < mm_l M (oo_a M a); rw [hO.2.2.2.2.2]; omega, ?_⟩⟩
      have hT1 : ti_T (it_M M (fun c => P c || nf M a f c) n) := hT.mi _
      refine ct_addItemFor (h := n) (hT1.1 a ha) (fun b hb => hT1.1 b (hT1.2.2.1 (oo_a M a) f b hO.2.2.2.2.1 hb)) (by rw [it_h]; exact hh) (fun _ => ⟨rfl, ?_⟩)
      rw [nI_1, it_add]
      have z := ih (f + 1) (by omega) (by omega)
      have e : it_M M (fun c => P c || nf M a (f + 1) c) n = it_M M (fun c => P c || nf M a f c || (decide (mm_p (it_M M (fun c => P c || nf M a f c) n) (oo_a M a) f = some c) && !decide (oo_h M c = oo_h M a))) n := it_ext (fun c => by
        rw [nf_s, Bool.or_assoc]
        rfl)
      rw [e] at z
      exact z
  have z := key 3 0 rfl (by omega)
  have e : it_M M (fun c => P c || nf M a 0 c) n = it_M M P n := it_ext (fun c => by simp [nf])
  rw [e, nI_0] at z
  exact sg_Ob_addItemsForFields z
/-- the memory M without the item n -/
def li_M (M : mm_M) (xs : List Nat) (n : Nat) : mm_M := mm_mi M (fun a j => if j = 5 ∧ a ∈ xs then mm_i M a 5 &&& (((1 : Int32) <<< (nI n &&& 31)) ^^^ (-1)) else mm_i M a j)
theorem ct_loseItems {n : Nat} (hW : me_W G M am LP LO eP eO gs xs) (kac : mm_k M ac = 4) (hcr : mm_p M ac 0 = some cr) (kcr : mm_k M cr = 103) (lcr : mm_l M cr = 60) (hrow : ∀ j a, rs[j]? = some a → mm_p M cr j = some a) (hcnt : mm_i M ac 1 = nI rs.length) (hr : rs.length ≤ 60) (hrs : ∀ a, a ∈ rs → mm_k M a = 8 ∧ oo_h M a = nI n)
    (k : K none (it_M (li_M M xs n) (fun c => rs.any (fun a => nf M a 3 c)) n)) : mm_Ok l G yy_Co_loseItems Y_Co_loseItems [.inr (some ac), .inl (nI n), .inr (some am)] M K := by
  have hle := hW.2.2.2.2.2.2.1.le
  have hnd := hW.2.2.2.2.2.2.2.2.2.2.2.2
  have hx8 := hW.2.2.2.2.2.2.2.2.2.2.1
  have hW1 : ∀ i, me_W G (li_M M (xs.take i) n) am LP LO eP eO gs xs := fun i => hW.mi (fun a ha => if_neg (fun z => by cases z.1))
  have hlh : ∀ a, oo_h (li_M M xs n) a = oo_h M a := fun a => by
    unfold li_M
    rw [oo_h_mi]
    exact if_neg (fun q => by cases q.1)
  have hnf : ∀ a m c, nf (li_M M xs n) a m c = nf M a m c := fun a m c => by
    unfold nf
    rw [hlh, hlh]
    rfl
  -- the second loop
  have second := lp_from (gs := rs) (P := fun i => mm_Z l G Y_Co_loseItems K M 0 0 36 [some (.inr (some ac)), some (.inl (nI n)), some (.inr (some am)), some (.inl (nI i))] [] (it_M (li_M M xs n) (fun c => (rs.take i).any (fun a => nf M a 3 c)) n)) ?_ ?_ 0 (Nat.zero_le _)
  rotate_left
  · rw [List.take_length]
    refine sg_Co_loseItems_36 ⟨kac, fun _ => k, fun hc => absurd ?_ hc⟩
    have e1 : mm_i (it_M (li_M M xs n) (fun c => rs.any (fun a => nf M a 3 c)) n) ac 1 = nI rs.length := by
      unfold it_M li_M
      rw [mm_i_mi, if_neg (fun z => by cases z.1), mm_i_mi, if_neg (fun z => by cases z.1)]
      exact hcnt
    rw [e1]
    exact nI_le (Nat.le_refl _) (by omega)
  · intro i a hi ih
    have hil : i < rs.length := (List.getElem?_eq_some_iff.mp hi).1
    obtain ⟨ha, hah⟩ := hrs a (List.mem_of_getElem? hi)
    have e1 : mm_i (it_M (li_M M xs n) (fun c => (rs.take i).any (fun a => nf M a 3 c)) n) ac 1 = nI rs.length := by
      unfold it_M li_M
      rw [mm_i_mi, if_neg (fun z => by cases z.1), mm_i_mi, if_neg (fun z => by cases z.1)]
      exact hcnt
    refine sg_Co_loseItems_36 ⟨kac, fun hc => absurd hc ?_, fun _ => ⟨cr, hcr, kcr, i, rfl, by omega, by show i < mm_l M cr; omega, a, hrow i a hi, ha, ?_⟩⟩
    · rw [e1]
      exact nI_ge hil (by omega)
    · refine ct_addItems (hW.2.1.mi _) ha (by rw [hlh]; exact hah) (fun _ => ⟨rfl, ?_⟩)
      rw [nI_1]
      have e : it_M (li_M M xs n) (fun c => (rs.take (i + 1)).any (fun a => nf M a 3 c)) n = it_M (li_M M xs n) (fun c => (rs.take i).any (fun a => nf M a 3 c) || nf (li_M M xs n) a 3 c) n := it_ext (fun c => by rw [tk_any hi, hnf])
      rw [e] at ih
      exact ih
  -- the first loop
  have e0 : it_M (li_M M xs n) (fun c => (rs.take 0).any (fun a => nf M a 3 c)) n = li_M M xs n := by
    unfold it_M
    have : (fun b j => if j = 5 ∧ (rs.take 0).any (fun a => nf M a 3 b) = true then mm_i (li_M M xs n) b 5 ||| ((1 : Int32) <<< (nI n &&& 31)) else mm_i (li_M M xs n) b j) = mm_i (li_M M xs n) := by
      funext b j
      rw [List.take_zero, List.any_nil]
      exact if_neg (fun z => by cases z.2)
    rw [this, mm_mi_rf]
  rw [e0, nI_0] at second
  have first := lp_from (gs := xs) (P := fun i => mm_Z l G Y_Co_loseItems K M 0 0 2 [some (.inr (some ac)), some (.inl (nI n)), some (.inr (some am)), some (.inl (nI i))] [] (li_M M (xs.take i) n)) ?_ ?_ 0 (Nat.zero_le _)
  · have e : li_M M (xs.take 0) n = M := by
      unfold li_M
      have : (fun a j => if j = 5 ∧ a ∈ xs.take 0 then mm_i M a 5 &&& (((1 : Int32) <<< (nI n &&& 31)) ^^^ (-1)) else mm_i M a j) = mm_i M := by
        funext a j
        rw [List.take_zero]
        exact if_neg (fun z => by cases z.2)
      rw [this, mm_mi_rf]
    rw [e, nI_0] at first
    exact sg_Co_loseItems first
  · have hL := (hW1 xs.length).2.2.2.2.2.2.1
    refine sg_Co_loseItems_2 ⟨am, rfl, (hW1 xs.length).2.2.1, LO, (hW1 xs.length).2.2.2.2.1, hL.1, ct_size hL (fun _ => ⟨_, rfl, fun _ => ?_, fun hc => absurd (nI_le (Nat.le_refl _) (by omega)) hc⟩)⟩
    rw [List.take_length]
    exact second
  · intro i a hi ih
    have hil : i < xs.length := (List.getElem?_eq_some_iff.mp hi).1
    have ha := hx8 a (List.mem_of_getElem? hi)
    have hL := (hW1 i).2.2.2.2.2.2.1
    have hni : a ∉ xs.take i := nd_take hnd hi
    refine sg_Co_loseItems_2 ⟨am, rfl, (hW1 i).2.2.1, LO, (hW1 i).2.2.2.2.1, hL.1, ct_size hL (fun _ => ⟨_, rfl, fun hc => absurd hc (nI_ge hil (by omega)), fun _ => ⟨LO, (hW1 i).2.2.2.2.1, hL.1, ct_get hL hi (fun _ => ⟨_, rfl, fun q hq => by cases hq; exact ha, a, rfl, ha, ct_dropItem ha (fun _ => ⟨rfl, ?_⟩)⟩)⟩⟩)⟩
    have e5 : mm_i (li_M M (xs.take i) n) a 5 = mm_i M a 5 := by
      unfold li_M
      rw [mm_i_mi]
      exact if_neg (fun z => hni z.2)
    rw [nI_1, e5]
    have e : mm_si (li_M M (xs.take i) n) a 5 (mm_i M a 5 &&& (((1 : Int32) <<< (nI n &&& 31)) ^^^ (-1))) = li_M M (xs.take (i + 1)) n := by
      unfold li_M
      rw [mm_mi_si]
      congr 1
      funext b j
      rw [tk_s hi]
      by_cases q : b = a
      · subst q
        by_cases w : j = 5 <;> simp [w]
      · simp [q]
    rw [e]
    exact ih
end CR
