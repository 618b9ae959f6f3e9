/-! THE CLASS'S LEAVES: bits; what is read of an object, a process, a page -/
def bb_t (x : Int32) (i : Nat) : Bool := x.toBitVec.getLsbD i
theorem bb_sh : ∀ i, i < 32 → ((1 : Int32) <<< (nI i &&& 31)).toBitVec = BitVec.twoPow 32 i := by decide +kernel
theorem bb_ext {x y : Int32} (h : ∀ i, i < 32 → bb_t x i = bb_t y i) : x = y := Int32.toBitVec_inj.mp (BitVec.eq_of_getLsbD_eq (fun i hi => h i hi))
theorem bb_0 (i : Nat) : bb_t 0 i = false := by
  unfold bb_t
  simp
theorem bb_one {i : Nat} (hi : i < 32) (j : Nat) : bb_t ((1 : Int32) <<< (nI i &&& 31)) j = decide (j = i) := by
  unfold bb_t
  rw [bb_sh i hi, BitVec.getLsbD_twoPow]
  by_cases h : j = i
  · subst h
    simp [hi]
  · simp [h, Ne.symm h]
theorem bb_m1 : ∀ j, j < 32 → bb_t (-1) j = true := by decide +kernel
theorem bb_big {x : Int32} {j : Nat} (h : 32 ≤ j) : bb_t x j = false := BitVec.getLsbD_of_ge _ _ h
theorem bb_has (x : Int32) {i : Nat} (hi : i < 32) : (x &&& ((1 : Int32) <<< (nI i &&& 31))) = 0 ↔ bb_t x i = false := by
  have e : ∀ j, bb_t (x &&& ((1 : Int32) <<< (nI i &&& 31))) j = (bb_t x j && decide (j = i)) := by
    intro j
    have h1 := bb_one hi j
    unfold bb_t at h1 ⊢
    rw [Int32.toBitVec_and, BitVec.getLsbD_and, h1]
  constructor
  · intro h
    have h1 := e i
    rw [h, bb_0] at h1
    simpa using h1.symm
  · intro h
    apply bb_ext
    intro j _
    rw [e, bb_0]
    by_cases q : j = i
    · subst q
      rw [h]
      rfl
    · simp [q]
theorem bb_set (x : Int32) {i : Nat} (hi : i < 32) (j : Nat) : bb_t (x ||| ((1 : Int32) <<< (nI i &&& 31))) j = (bb_t x j || decide (j = i)) := by
  have h1 := bb_one hi j
  unfold bb_t at h1 ⊢
  rw [Int32.toBitVec_or, BitVec.getLsbD_or, h1]
theorem bb_clr (x : Int32) {i : Nat} (hi : i < 32) (j : Nat) : bb_t (x &&& (((1 : Int32) <<< (nI i &&& 31)) ^^^ (-1))) j = (bb_t x j && !decide (j = i)) := by
  rcases Nat.lt_or_ge j 32 with hj | hj
  · have h1 := bb_one hi j
    have h2 := bb_m1 j hj
    unfold bb_t at h1 h2 ⊢
    rw [Int32.toBitVec_and, BitVec.getLsbD_and, Int32.toBitVec_xor, BitVec.getLsbD_xor, h1, h2]
    simp
  · rw [bb_big hj, bb_big hj]
    rfl
/-- a page, an object, its fields' array, a process's registers' array -/
def oo_g (M : mm_M) (a : Nat) : Nat := (mm_p M a 0).getD 0
def oo_h (M : mm_M) (a : Nat) : Int32 := mm_i M (oo_g M a) 0
def oo_a (M : mm_M) (a : Nat) : Nat := (mm_p M a 3).getD 0
def oo_f (M : mm_M) (a f : Nat) : Option Nat := mm_p M (oo_a M a) f
def pr_a (M : mm_M) (q : Nat) : Nat := (mm_p M q 4).getD 0
def pr_r (M : mm_M) (q r : Nat) : Option Nat := mm_p M (pr_a M q) r
/-- what the kinds of cells promise -/
def ti_O (M : mm_M) (a : Nat) : Prop := mm_k M a = 8 ∧ mm_p M a 0 = some (oo_g M a) ∧ mm_k M (oo_g M a) = 7 ∧ mm_p M a 3 = some (oo_a M a) ∧ mm_k M (oo_a M a) = 103 ∧ mm_l M (oo_a M a) = 3
def ti_P (M : mm_M) (q : Nat) : Prop := mm_k M q = 6 ∧ mm_p M q 4 = some (pr_a M q) ∧ mm_k M (pr_a M q) = 103 ∧ mm_l M (pr_a M q) = 4
def ti_T (M : mm_M) : Prop := (∀ a, mm_k M a = 8 → ti_O M a) ∧ (∀ q, mm_k M q = 6 → ti_P M q) ∧ (∀ f j v, mm_k M f = 103 → mm_p M f j = some v → mm_k M v = 8) ∧ (∀ f j v, mm_k M f = 104 → mm_p M f j = some v → mm_k M v = 6) ∧
  (∀ a b, mm_k M a = 8 → mm_k M b = 8 → oo_a M a = oo_a M b → a = b) ∧ (∀ p q, mm_k M p = 6 → mm_k M q = 6 → pr_a M p = pr_a M q → p = q) ∧ ∀ a q, mm_k M a = 8 → mm_k M q = 6 → oo_a M a ≠ pr_a M q
/-- a list's elements one by one -/
theorem lp_list {gs : List Nat} {P : Nat → Prop} (he : P gs.length) (hs : ∀ i g, gs[i]? = some g → P (i + 1) → P i) : P 0 := by
  have key : ∀ n i, gs.length - i = n → i ≤ gs.length → P i := by
    intro n
    induction n with
    | zero =>
      intro i h1 h2
      have : i = gs.length := by omega
      subst this
      exact he
    | succ n ih =>
      intro i h1 h2
      exact hs i (gs[i]'(by omega)) (List.getElem?_eq_getElem (by omega)) (ih (i + 1) (by omega) (by omega))
  exact key _ 0 rfl (Nat.zero_le _)
theorem tk_s {gs : List Nat} {i g : Nat} (h : gs[i]? = some g) : gs.take (i + 1) = gs.take i ++ [g] := by
  rw [List.take_add_one, h]
  rfl
theorem tk_count {gs : List Nat} {p : Nat → Bool} {i g : Nat} (h : gs[i]? = some g) : (gs.take (i + 1)).countP p = (gs.take i).countP p + if p g = true then 1 else 0 := by
  rw [tk_s h, List.countP_append]
  simp [List.countP_cons]
theorem tk_any {gs : List Nat} {p : Nat → Bool} {i g : Nat} (h : gs[i]? = some g) : (gs.take (i + 1)).any p = ((gs.take i).any p || p g) := by
  rw [tk_s h, List.any_append]
  simp
section CL
variable {l : Launch} {G : mm_G} {K : Option mm_V → mm_M → Prop} {M : mm_M} {a q L e : Nat} {xs gs : List Nat}
theorem ct_living (hk : mm_k M q = 6) (k : K (some (.inl (if mm_i M q 5 = 4 then 0 else 1))) M) : mm_Ok l G yy_Pr_isLiving Y_Pr_isLiving [.inr (some q)] M K :=
  sg_Pr_isLiving ⟨hk, fun h => by rw [if_pos h] at k; exact k, fun h => by rw [if_neg h] at k; exact k⟩
theorem ct_kernel (hk : mm_k M q = 6) (k : K (some (.inl (if mm_i M q 5 = 2 ∨ mm_i M q 5 = 3 then 1 else 0))) M) : mm_Ok l G yy_Pr_isInKernelMode Y_Pr_isInKernelMode [.inr (some q)] M K :=
  sg_Pr_isInKernelMode ⟨hk, fun h => by rw [if_pos (Or.inl h)] at k; exact k, fun h => ⟨fun h2 => by rw [if_neg (fun z => z.elim h h2)] at k; exact k, fun h2 => by rw [if_pos (Or.inr h2)] at k; exact k⟩⟩
theorem ct_charged {i : Nat} (hk : mm_k M q = 6) (hi : i < 32) (k : K (some (.inl (if bb_t (mm_i M q 7) i = true then 1 else 0))) M) : mm_Ok l G yy_Pr_isCharged Y_Pr_isCharged [.inr (some q), .inl (nI i)] M K :=
  sg_Pr_isCharged ⟨hk, fun h => by rw [bb_has _ hi] at h; rw [h] at k; exact k, fun h => by rw [bb_has _ hi] at h; rw [if_pos (by simpa using h)] at k; exact k⟩
theorem ct_addCharge {i : Nat} (hk : mm_k M q = 6) (k : K none (mm_si M q 7 (mm_i M q 7 ||| ((1 : Int32) <<< (nI i &&& 31))))) : mm_Ok l G yy_Pr_addCharge Y_Pr_addCharge [.inr (some q), .inl (nI i)] M K := sg_Pr_addCharge ⟨hk, k⟩
theorem ct_dropCharge {i : Nat} (hk : mm_k M q = 6) (k : K none (mm_si M q 7 (mm_i M q 7 &&& (((1 : Int32) <<< (nI i &&& 31)) ^^^ (-1))))) : mm_Ok l G yy_Pr_dropCharge Y_Pr_dropCharge [.inr (some q), .inl (nI i)] M K := sg_Pr_dropCharge ⟨hk, k⟩
theorem ct_heapFor (hk : mm_k M q = 6) (k : K (some (.inl (if mm_i M q 5 = 2 ∨ mm_i M q 5 = 3 then 8 else if mm_i M q 6 = -1 then mm_i M q 0 else mm_i M q 6))) M) : mm_Ok l G yy_Pr_heapForMaking Y_Pr_heapForMaking [.inr (some q)] M K := by
  refine sg_Pr_heapForMaking ⟨hk, ct_kernel hk (fun _ => ⟨_, rfl, fun h => ?_, fun h => ?_⟩)⟩
  · have hn : ¬ (mm_i M q 5 = 2 ∨ mm_i M q 5 = 3) := fun z => by rw [if_pos z] at h; exact absurd h (by decide)
    rw [if_neg hn] at k
    exact ⟨fun h2 => by rw [if_neg h2] at k; exact k, fun h2 => by rw [if_pos h2] at k; exact k⟩
  · have hn : mm_i M q 5 = 2 ∨ mm_i M q 5 = 3 := by
      by_cases z : mm_i M q 5 = 2 ∨ mm_i M q 5 = 3
      · exact z
      · rw [if_neg z] at h
        exact absurd rfl h
    rw [if_pos hn] at k
    exact k
theorem ct_heap (ho : ti_O M a) (k : K (some (.inl (oo_h M a))) M) : mm_Ok l G yy_Ob_heapNumber Y_Ob_heapNumber [.inr (some a)] M K := sg_Ob_heapNumber ⟨ho.1, oo_g M a, ho.2.1, ho.2.2.1, k⟩
theorem ct_anyItem (hk : mm_k M a = 8) (k : K (some (.inl (if mm_i M a 5 = 0 then 0 else 1))) M) : mm_Ok l G yy_Ob_hasAnyItem Y_Ob_hasAnyItem [.inr (some a)] M K :=
  sg_Ob_hasAnyItem ⟨hk, fun h => by rw [if_pos h] at k; exact k, fun h => by rw [if_neg h] at k; exact k⟩
theorem ct_hasItem {i : Nat} (hk : mm_k M a = 8) (hi : i < 32) (k : K (some (.inl (if bb_t (mm_i M a 5) i = true then 1 else 0))) M) : mm_Ok l G yy_Ob_hasItem Y_Ob_hasItem [.inr (some a), .inl (nI i)] M K :=
  sg_Ob_hasItem ⟨hk, fun h => by rw [bb_has _ hi] at h; rw [h] at k; exact k, fun h => by rw [bb_has _ hi] at h; rw [if_pos (by simpa using h)] at k; exact k⟩
theorem ct_addItem {i : Nat} (hk : mm_k M a = 8) (k : K none (mm_si M a 5 (mm_i M a 5 ||| ((1 : Int32) <<< (nI i &&& 31))))) : mm_Ok l G yy_Ob_addItem Y_Ob_addItem [.inr (some a), .inl (nI i)] M K := sg_Ob_addItem ⟨hk, k⟩
theorem ct_dropItem {i : Nat} (hk : mm_k M a = 8) (k : K none (mm_si M a 5 (mm_i M a 5 &&& (((1 : Int32) <<< (nI i &&& 31)) ^^^ (-1))))) : mm_Ok l G yy_Ob_dropItem Y_Ob_dropItem [.inr (some a), .inl (nI i)] M K := sg_Ob_dropItem ⟨hk, k⟩
/-- an object's item for what it names: h is its heap's number -/
def oo_add (M : mm_M) (a : Nat) (v : Option Nat) (h : Nat) : mm_M := match v with
  | none => M
  | some b => if oo_h M b = oo_h M a then M else mm_si M b 5 (mm_i M b 5 ||| ((1 : Int32) <<< (nI h &&& 31)))
theorem ct_addItemFor {v : Option Nat} {h : Nat} (ho : ti_O M a) (hv : ∀ b, v = some b → ti_O M b) (hh : oo_h M a = nI h) (k : K none (oo_add M a v h)) : mm_Ok l G yy_Ob_addItemFor Y_Ob_addItemFor [.inr (some a), .inr v] M K := by
  refine sg_Ob_addItemFor ⟨fun e => by subst e; exact k, fun b e => ?_⟩
  subst e
  refine ⟨(hv b rfl).1, ct_heap (hv b rfl) (fun _ => ⟨_, rfl, ho.1, ct_heap ho (fun _ => ⟨_, rfl, fun e => ?_, fun e => ?_⟩)⟩)⟩
  · have k' : K none (if oo_h M b = oo_h M a then M else _) := k
    rw [if_pos e] at k'
    exact k'
  · have k' : K none (if oo_h M b = oo_h M a then M else mm_si M b 5 (mm_i M b 5 ||| ((1 : Int32) <<< (nI h &&& 31)))) := k
    rw [if_neg e] at k'
    refine ct_heap ho (fun _ => ⟨_, rfl, ?_⟩)
    rw [hh]
    exact ct_addItem (hv b rfl).1 (fun _ => ⟨rfl, k'⟩)
theorem ct_setField {v : Option Nat} {f h : Nat} (hT : ti_T M) (hk : mm_k M a = 8) (hf : f < 3) (hv : ∀ b, v = some b → mm_k M b = 8) (hh : oo_h M a = nI h)
    (k : K none (oo_add (mm_sp M (oo_a M a) f v) a v h)) : mm_Ok l G yy_Ob_setField Y_Ob_setField [.inr (some a), .inl (nI f), .inr v] M K := by
  have ho := hT.1 a hk
  have hne : ∀ b, mm_k M b = 8 → b ≠ oo_a M a := fun b hb e => by
    have h5 := ho.2.2.2.2.1
    rw [← e, hb] at h5
    exact absurd h5 (by decide)
  have hO : ∀ b, mm_k M b = 8 → ti_O (mm_sp M (oo_a M a) f v) b := by
    intro b hb
    have h1 := hT.1 b hb
    have n1 := hne b hb
    have eg : oo_g (mm_sp M (oo_a M a) f v) b = oo_g M b := by
      unfold oo_g
      rw [mm_p_sp, if_neg (fun z => n1 z.1)]
    have ea : oo_a (mm_sp M (oo_a M a) f v) b = oo_a M b := by
      unfold oo_a
      rw [mm_p_sp, if_neg (fun z => n1 z.1)]
    refine ⟨hb, ?_, ?_, ?_, ?_, ?_⟩
    · rw [eg, mm_p_sp, if_neg (fun z => n1 z.1)]
      exact h1.2.1
    · rw [eg]
      exact h1.2.2.1
    · rw [ea, mm_p_sp, if_neg (fun z => n1 z.1)]
      exact h1.2.2.2.1
    · rw [ea]
      exact h1.2.2.2.2.1
    · rw [ea]
      exact h1.2.2.2.2.2
  have hh' : oo_h (mm_sp M (oo_a M a) f v) a = nI h := by
    rw [← hh]
    unfold oo_h oo_g
    rw [mm_p_sp, if_neg (fun z => hne a hk z.1)]
    rfl
  refine sg_Ob_setField ⟨hk, oo_a M a, ho.2.2.2.1, ho.2.2.2.2.1, f, rfl, by omega, by rw [ho.2.2.2.2.2]; exact hf, hv, ?_⟩
  exact ct_addItemFor (hO a hk) (fun b e => hO b (hv b e)) hh' (fun _ => ⟨rfl, k⟩)
theorem ct_countPages {am : Nat} {h : Int32} (hm : mm_k M am = 2) (hp : mm_p M am 0 = some L) (hL : al_L G M L e gs) (hk : ∀ g, g ∈ gs → mm_k M g = 7)
    (k : K (some (.inl (nI (gs.countP (fun g => decide (mm_i M g 0 = h)))))) M) : mm_Ok l G yy_Me_countPages Y_Me_countPages [.inr (some am), .inl h] M K := by
  have hle := hL.le
  refine sg_Me_countPages ?_
  have key := lp_list (gs := gs) (P := fun i => mm_Z l G Y_Me_countPages K M 0 0 4 [some (.inr (some am)), some (.inl h), some (.inl (nI ((gs.take i).countP (fun g => decide (mm_i M g 0 = h))))), some (.inl (nI i))] [] M) ?_ ?_
  · simp only [List.take_zero, List.countP_nil, nI_0] at key
    exact key
  · refine sg_Me_countPages_4 ⟨hm, L, hp, hL.1, ct_size hL (fun _ => ⟨_, rfl, fun _ => ?_, fun hc => absurd (nI_le (Nat.le_refl _) (by omega)) hc⟩)⟩
    rw [List.take_length]
    exact k
  · intro i g hi ih
    have hil : i < gs.length := (List.getElem?_eq_some_iff.mp hi).1
    have hg := hk g (List.mem_of_getElem? hi)
    rw [tk_count hi] at ih
    refine sg_Me_countPages_4 ⟨hm, L, hp, hL.1, ct_size hL (fun _ => ⟨_, rfl, fun hc => absurd hc (nI_ge hil (by omega)), fun _ => ⟨L, hp, hL.1, ct_get hL hi (fun _ => ⟨_, rfl, fun q hq => by cases hq; exact hg, g, rfl, hg, fun hc => ?_, fun hc => ?_⟩)⟩⟩)⟩
    · rw [if_neg (by simpa using hc), Nat.add_zero] at ih
      rw [nI_1]
      exact ih
    · rw [if_pos (by simpa using hc)] at ih
      rw [nI_1, nI_1]
      exact ih
end CL
