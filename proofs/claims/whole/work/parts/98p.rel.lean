/-! CLASS AND REFERENCE: the relation, and what holds of the reference by itself -/
def rf (ob : Nat → Nat) (v : Nat) : Option Nat := match v with
  | 0 => none
  | y + 1 => some (ob y)
/-- the objects that exist -/
def lvs (b : rB) : List Nat := (List.range 60).filter (fun x => decide (0 < b 6 x))
def sX (D : ph_D) (b : rB) (ob : Nat → Nat) : Prop := D.1.2.Perm ((lvs b).map ob) ∧ ∀ x y, x < 60 → y < 60 → 0 < b 6 x → 0 < b 6 y → ob x = ob y → x = y
def sO1 (D : ph_D) (b : rB) (L : Nat → Int32) (pg ob : Nat → Nat) (x : Nat) : Prop := D.2.2 0 (ob x) = some (pg (b 9 x)) ∧ D.2.1 3 (ob x) = nI (b 7 x) ∧ D.2.1 4 (ob x) = L x ∧ (∀ i, bb_t (D.2.1 5 (ob x)) i = (decide (i < 13) && !decide (b 21 (60 * i + x) = 0))) ∧ ∀ f, f < 3 → D.2.2 (1 + f) (ob x) = rf ob (b 10 (3 * x + f))
def sO (D : ph_D) (b : rB) (L : Nat → Int32) (pg ob : Nat → Nat) : Prop := ∀ x, x < 60 → 0 < b 6 x → sO1 D b L pg ob x
def sG (D : ph_D) (b : rB) (pg : Nat → Nat) : Prop := (∃ so : List Nat, D.1.1 = so.map pg ∧ so.Pairwise (fun g q => b 13 g < b 13 q) ∧ ∀ g, g ∈ so ↔ g < 24 ∧ 0 < b 11 g) ∧ ∀ g q, g < 24 → q < 24 → 0 < b 11 g → 0 < b 11 q → pg g = pg q → g = q
def sP (D : ph_D) (b : rB) (pg : Nat → Nat) : Prop := ∀ g, g < 24 → 0 < b 11 g → D.2.1 0 (pg g) = nI (b 11 g - 1) ∧ D.2.1 1 (pg g) = if fzb b (b 11 g - 1) = true then -1 else nI (b 12 g)
def sQ1 (D : ph_D) (b : rB) (ob : Nat → Nat) (p : Nat) : Prop := (0 < p → D.2.1 7 p = nI (b 1 p)) ∧ D.2.1 8 p = nI (b 2 p) ∧ D.2.1 9 p = nI (b 3 p) ∧ D.2.1 10 p = (if rbk b p 4 = p then -1 else nI (rbk b p 4)) ∧ (∀ i, bb_t (D.2.1 11 p) i = (decide (9 ≤ i) && decide (i < 13) && !decide (b 20 (4 * p + (i - 9)) = 0))) ∧ ∀ r, r < 4 → D.2.2 (4 + r) p = rf ob (b 5 (4 * p + r))
def sQ (D : ph_D) (b : rB) (ob : Nat → Nat) : Prop := D.2.1 12 0 = nI (b 4 0) ∧ (∀ p, p < 8 → D.2.1 6 p = nI (b 0 p)) ∧ ∀ p, p < b 4 0 → sQ1 D b ob p
def sH (D : ph_D) (b : rB) (ob : Nat → Nat) : Prop := (∀ i, i < 13 → D.2.2 8 i = if fzb b i = true then some (ob (b 17 (i - 9))) else none) ∧ D.2.1 12 1 = nI (9 + b 18 0)
def sR (D : ph_D) (b : rB) (L : Nat → Int32) (pg ob : Nat → Nat) : Prop := sX D b ob ∧ sO D b L pg ob ∧ sG D b pg ∧ sP D b pg ∧ sQ D b ob ∧ sH D b ob
/-- objects: what is named exists; what is named across heaps has its item; items are right; pages belong to their objects' heaps -/
def vO (b : rB) : Prop := (∀ p r, p < 8 → r < 4 → 0 < b 5 (4 * p + r) → 0 < b 6 (b 5 (4 * p + r) - 1)) ∧ (∀ x f, x < 60 → 0 < b 6 x → f < 3 → 0 < b 10 (3 * x + f) → 0 < b 6 (b 10 (3 * x + f) - 1)) ∧
  (∀ x f, x < 60 → 0 < b 6 x → f < 3 → 0 < b 10 (3 * x + f) → b 6 (b 10 (3 * x + f) - 1) ≠ b 6 x → b 21 (60 * (b 6 x - 1) + (b 10 (3 * x + f) - 1)) ≠ 0) ∧
  (∀ h y, h < 13 → y < 60 → b 21 (60 * h + y) ≠ 0 → 0 < b 6 y ∧ b 6 y ≠ h + 1 ∧ h ≤ 8 ∧ (h < 8 → lv b h)) ∧ (∀ p r, p < 8 → r < 4 → ¬ lv b p → b 5 (4 * p + r) = 0)
def vG (b : rB) : Prop := (∀ x, x < 60 → 0 < b 6 x → b 11 (b 9 x) = b 6 x ∧ 1 ≤ b 7 x) ∧ (∀ g, 0 < b 11 g → g < 24 ∧ ∃ y, y < 60 ∧ 0 < b 6 y ∧ b 9 y = g) ∧ (∀ g, g < 24 → 0 < b 11 g → 0 < b 0 (b 12 g) ∧ b 13 g ≤ b 14 0) ∧ ∀ g q, g < 24 → q < 24 → 0 < b 11 g → 0 < b 11 q → b 13 g = b 13 q → g = q
/-- shared heaps: who shares pays; who names shares; who builds lives -/
def vS (b : rB) : Prop := (∀ p k, p < 8 → k < 4 → (b 19 (4 * p + k) ≠ 0 ↔ lv b p ∧ b 20 (4 * p + k) ≠ 0)) ∧ (∀ p k, p < 8 → k < 4 → b 20 (4 * p + k) ≠ 0 → b 15 k = 2 ∧ 0 < b 0 p) ∧ (∀ p r k, p < 8 → r < 4 → k < 4 → 0 < b 5 (4 * p + r) → b 6 (b 5 (4 * p + r) - 1) = 10 + k → b 15 k = 2 → b 20 (4 * p + k) ≠ 0) ∧
  (∀ p y k, p < 8 → y < 60 → k < 4 → b 21 (60 * p + y) ≠ 0 → b 6 y = 10 + k → b 20 (4 * p + k) ≠ 0) ∧ (∀ y k, y < 60 → k < 4 → b 21 (480 + y) ≠ 0 → b 6 y = 10 + k → ∃ p, p < 8 ∧ b 0 p = 4 ∧ b 20 (4 * p + k) ≠ 0)
def vB (b : rB) : Prop := (∀ g k, g < 24 → k < 4 → b 11 g = 10 + k → b 15 k = 2 ∨ (b 15 k = 1 ∧ b 12 g = b 16 k)) ∧ (∀ k, k < 4 → b 15 k = 1 → lv b (b 16 k)) ∧ (∀ k q, k < 4 → q < 4 → b 15 k = 1 → b 15 q = 1 → b 16 k = b 16 q → k = q) ∧ (∀ k, k < 4 → b 15 k = 2 → b 6 (b 17 k) = 10 + k) ∧ ∀ k, k < 4 → (b 18 0 ≤ k ↔ b 15 k = 0)
def vT (b : rB) : Prop := 1 ≤ b 4 0 ∧ b 4 0 ≤ 8 ∧ (∀ p, p < 8 → (0 < b 0 p ↔ p < b 4 0)) ∧ (∀ p, 0 < p → p < b 4 0 → b 1 p < p) ∧ b 3 0 ≠ 0
/-- nobody uses more than his limit -/
def vU (b : rB) : Prop := ∀ U T, (∀ n, n < 8 → wkE b U T n) → ∀ n, n < 8 → 0 < b 0 n → T n ≠ 0 → U n ≤ b 2 n
/-- a frozen heap has somebody who pays -/
def vF (b : rB) : Prop := ∀ k, k < 4 → b 15 k = 2 → ∃ p, p < 8 ∧ b 20 (4 * p + k) ≠ 0
def iV (b : rB) : Prop := vO b ∧ vG b ∧ vS b ∧ vB b ∧ vT b ∧ vU b
section SP
variable {D D1 : ph_D} {b b1 : rB} {L : Nat → Int32} {pg ob : Nat → Nat} {N h x y p g : Nat}
theorem lvs_m : x ∈ lvs b ↔ x < 60 ∧ 0 < b 6 x := by
  unfold lvs
  rw [List.mem_filter, List.mem_range, decide_eq_true_eq]
theorem sX.mem (h : sX D b ob) {a : Nat} : a ∈ D.1.2 ↔ ∃ x, x < 60 ∧ 0 < b 6 x ∧ ob x = a := by
  rw [h.1.mem_iff, List.mem_map]
  constructor
  · rintro ⟨x, h1, h2⟩
    exact ⟨x, (lvs_m.mp h1).1, (lvs_m.mp h1).2, h2⟩
  · rintro ⟨x, h1, h2, h3⟩
    exact ⟨x, lvs_m.mpr ⟨h1, h2⟩, h3⟩
theorem sX.obm (h : sX D b ob) (hx : x < 60) (h0 : 0 < b 6 x) : ob x ∈ D.1.2 := h.mem.mpr ⟨x, hx, h0, rfl⟩
theorem sX.cnt (h : sX D b ob) {Q q : Nat → Bool} (hq : ∀ x, x < 60 → 0 < b 6 x → Q (ob x) = q x) (h0 : ∀ x, x < 60 → q x = true → 0 < b 6 x) : D.1.2.countP Q = (List.range 60).countP q := by
  rw [h.1.countP_eq, List.countP_map]
  unfold lvs
  rw [List.countP_filter]
  refine List.countP_congr (fun x hx => ?_)
  have hx := List.mem_range.mp hx
  show (Q (ob x) && decide (0 < b 6 x)) = true ↔ q x = true
  rcases Nat.eq_zero_or_pos (b 6 x) with e | e
  · rw [decide_eq_false (show ¬ 0 < b 6 x by omega), Bool.and_false]
    constructor
    · intro u
      cases u
    · intro u
      have := h0 x hx u
      omega
  · rw [decide_eq_true e, Bool.and_true, hq x hx e]
theorem sX.any (h : sX D b ob) {Q q : Nat → Bool} (hq : ∀ x, x < 60 → 0 < b 6 x → Q (ob x) = q x) (h0 : ∀ x, x < 60 → q x = true → 0 < b 6 x) : D.1.2.any Q = (List.range 60).any q := by
  rw [Bool.eq_iff_iff, List.any_eq_true, List.any_eq_true]
  constructor
  · rintro ⟨a, h1, h2⟩
    obtain ⟨x, h3, h4, h5⟩ := h.mem.mp h1
    subst h5
    exact ⟨x, List.mem_range.mpr h3, by rw [← hq x h3 h4]; exact h2⟩
  · rintro ⟨x, h1, h2⟩
    have h1 := List.mem_range.mp h1
    have h3 := h0 x h1 h2
    exact ⟨ob x, h.obm h1 h3, by rw [hq x h1 h3]; exact h2⟩
theorem sX.len (h : sX D b ob) : D.1.2.length = (List.range 60).countP (fun x => decide (0 < b 6 x)) := by
  rw [h.1.length_eq, List.length_map]
  unfold lvs
  rw [← List.countP_eq_length_filter]
theorem rf_some {v a : Nat} : rf ob v = some a ↔ ∃ y, v = y + 1 ∧ ob y = a := by
  cases v with
  | zero => exact ⟨fun u => (by cases u), fun ⟨y, e, _⟩ => (by omega)⟩
  | succ y => exact ⟨fun u => ⟨y, rfl, Option.some.inj u⟩, fun ⟨z, e, e2⟩ => by rw [show y = z by omega]; exact congrArg some e2⟩
theorem rf_none {v : Nat} : rf ob v = none ↔ v = 0 := by
  cases v with
  | zero => exact ⟨fun _ => rfl, fun _ => rfl⟩
  | succ y => exact ⟨fun u => (by cases u), fun u => (by cases u)⟩
/-- an object's heap -/
theorem sR.hh (hs : sR D b L pg ob) (hG : vG b) (hb : rb N b) (hx : x < 60) (h0 : 0 < b 6 x) : d_h D (ob x) = nI (b 6 x - 1) := by
  have h1 := (hs.2.1 x hx h0).1
  have h9 : b 9 x ≤ 23 := hb.2 9 x (by decide)
  have e := (hG.1 x hx h0).1
  have h2 := (hs.2.2.2.1 (b 9 x) (by omega) (by rw [e]; exact h0)).1
  unfold d_h
  rw [h1]
  show D.2.1 0 (pg (b 9 x)) = _
  rw [h2, e]
theorem sR.hq (hs : sR D b L pg ob) (hG : vG b) (hb : rb N b) (hx : x < 60) (h0 : 0 < b 6 x) (hh : h < 13) : d_h D (ob x) = nI h ↔ b 6 x = h + 1 := by
  rw [hs.hh hG hb hx h0]
  have h6 : b 6 x ≤ 13 := hb.2 6 x (by decide)
  rw [nI_eq (by omega) (by omega)]
  omega
theorem sR.md (hs : sR D b L pg ob) (hT : vT b) : d_m D = b 4 0 := by
  unfold d_m
  rw [hs.2.2.2.2.1.1]
  exact nI_clamp (by have := hT.2.1; omega)
theorem sR.liv (hs : sR D b L pg ob) (hT : vT b) (hb : rb N b) : d_lv D p ↔ p < 8 ∧ lv b p := by
  unfold d_lv
  rw [hs.md hT]
  have h48 := hT.2.1
  constructor
  · rintro ⟨h1, h2⟩
    have h0 : b 0 p ≤ 4 := hb.2 0 p (by decide)
    have h3 := (hT.2.2.1 p (by omega)).mpr h1
    refine ⟨by omega, h3, ?_⟩
    rw [hs.2.2.2.2.1.2.1 p (by omega)] at h2
    have : ¬ b 0 p = 4 := neN (b 0 p) 4 h2
    omega
  · rintro ⟨h1, h2⟩
    have h3 := h2.1
    have h4 := h2.2
    refine ⟨(hT.2.2.1 p h1).mp h3, ?_⟩
    rw [hs.2.2.2.2.1.2.1 p h1]
    intro e
    have := eqN (b 0 p) 4 e
    omega
theorem sG.mem (h : sG D b pg) {a : Nat} : a ∈ D.1.1 ↔ ∃ g, g < 24 ∧ 0 < b 11 g ∧ pg g = a := by
  obtain ⟨⟨so, h1, h2, h3⟩, h4⟩ := h
  rw [h1, List.mem_map]
  constructor
  · rintro ⟨g, h5, h6⟩
    exact ⟨g, ((h3 g).mp h5).1, ((h3 g).mp h5).2, h6⟩
  · rintro ⟨g, h5, h6, h7⟩
    exact ⟨g, (h3 g).mpr ⟨h5, h6⟩, h7⟩
theorem sG.perm {so : List Nat} (h2 : so.Pairwise (fun g q => b 13 g < b 13 q)) (h3 : ∀ g, g ∈ so ↔ g < 24 ∧ 0 < b 11 g) : so.Perm ((List.range 24).filter (fun g => decide (0 < b 11 g))) := by
  have hn : so.Nodup := h2.imp (fun {a c} hlt e => by rw [e] at hlt; omega)
  refine (List.perm_ext_iff_of_nodup hn (List.nodup_range.filter _)).mpr (fun g => ?_)
  rw [h3 g, List.mem_filter, List.mem_range, decide_eq_true_eq]
theorem sG.cnt (h : sG D b pg) {Q q : Nat → Bool} (hq : ∀ g, g < 24 → 0 < b 11 g → Q (pg g) = q g) (h0 : ∀ g, g < 24 → q g = true → 0 < b 11 g) : D.1.1.countP Q = (List.range 24).countP q := by
  obtain ⟨⟨so, h1, h2, h3⟩, h4⟩ := h
  rw [h1, List.countP_map, (sG.perm h2 h3).countP_eq, List.countP_filter]
  refine List.countP_congr (fun x hx => ?_)
  have hx := List.mem_range.mp hx
  show (Q (pg x) && decide (0 < b 11 x)) = true ↔ q x = true
  rcases Nat.eq_zero_or_pos (b 11 x) with e | e
  · rw [decide_eq_false (show ¬ 0 < b 11 x by omega), Bool.and_false]
    constructor
    · intro u
      cases u
    · intro u
      have := h0 x hx u
      omega
  · rw [decide_eq_true e, Bool.and_true, hq x hx e]
theorem sG.len (h : sG D b pg) : D.1.1.length ≤ 24 := by
  obtain ⟨⟨so, h1, h2, h3⟩, h4⟩ := h
  rw [h1, List.length_map, (sG.perm h2 h3).length_eq]
  exact Nat.le_trans (List.length_filter_le _ _) (by rw [List.length_range]; omega)
theorem sX.len60 (h : sX D b ob) : D.1.2.length ≤ 60 := by
  rw [h.len]
  exact Nat.le_trans List.countP_le_length (by rw [List.length_range]; omega)
/-- what the class's methods want -/
theorem sR.rg (hs : sR D b L pg ob) (hv : iV b) (hb : rb N b) : d_rg D := by
  intro p r a hp hr ha
  have hT := hv.2.2.2.2.1
  rw [hs.md hT] at hp
  have h48 := hT.2.1
  rw [(hs.2.2.2.2.1.2.2 p hp).2.2.2.2.2 r hr, rf_some] at ha
  obtain ⟨y, e1, e2⟩ := ha
  have h5 : b 5 (4 * p + r) ≤ 60 := hb.2 5 _ (by decide)
  have := hv.1.1 p r (by omega) hr (by omega)
  rw [e1] at this
  rw [← e2]
  exact hs.1.obm (by omega) this
theorem sR.fl (hs : sR D b L pg ob) (hv : iV b) (hb : rb N b) : d_fl D := by
  intro a f c ha hf hc
  obtain ⟨x, h1, h2, h3⟩ := hs.1.mem.mp ha
  subst h3
  rw [(hs.2.1 x h1 h2).2.2.2.2 f hf, rf_some] at hc
  obtain ⟨y, e1, e2⟩ := hc
  have h10 : b 10 (3 * x + f) ≤ 60 := hb.2 10 _ (by decide)
  have := hv.1.2.1 x f h1 h2 hf (by omega)
  rw [e1] at this
  rw [← e2]
  exact hs.1.obm (by omega) this
theorem sR.pgd (hs : sR D b L pg ob) (hG : vG b) (hb : rb N b) : d_pg D := by
  intro a ha
  obtain ⟨x, h1, h2, h3⟩ := hs.1.mem.mp ha
  subst h3
  have h9 : b 9 x ≤ 23 := hb.2 9 x (by decide)
  exact ⟨pg (b 9 x), hs.2.2.1.mem.mpr ⟨b 9 x, by omega, by rw [(hG.1 x h1 h2).1]; exact h2, rfl⟩, (hs.2.1 x h1 h2).1⟩
theorem sR.gh (hs : sR D b L pg ob) (hb : rb N b) : d_gh D := by
  intro a ha
  obtain ⟨g, h1, h2, h3⟩ := hs.2.2.1.mem.mp ha
  subst h3
  have h11 : b 11 g ≤ 13 := hb.2 11 g (by decide)
  exact ⟨b 11 g - 1, by omega, (hs.2.2.2.1 g h1 h2).1⟩
theorem sR.tr (hs : sR D b L pg ob) (hT : vT b) (hb : rb N b) : d_tr D := by
  constructor
  · intro p h0 hp
    rw [hs.md hT] at hp
    exact ⟨b 1 p, hT.2.2.2.1 p h0 hp, (hs.2.2.2.2.1.2.2 p hp).1 h0⟩
  · rw [(hs.2.2.2.2.1.2.2 0 (by have := hT.1; omega)).2.2.1]
    intro e
    have h3 : b 3 0 ≤ 1 := hb.2 3 0 (by decide)
    exact hT.2.2.2.2 (eqN (b 3 0) 0 e)
theorem rbk_or (b : rB) (p k : Nat) : rbk b p k = p ∨ ∃ i, i < k ∧ rbk b p k = 9 + i ∧ b 15 i = 1 ∧ b 16 i = p := by
  induction k with
  | zero => exact Or.inl rfl
  | succ k ih =>
    show (if b 15 k = 1 ∧ b 16 k = p then 9 + k else rbk b p k) = p ∨ _
    by_cases c : b 15 k = 1 ∧ b 16 k = p
    · refine Or.inr ⟨k, Nat.lt_succ_self k, ?_, c.1, c.2⟩
      show (if b 15 k = 1 ∧ b 16 k = p then 9 + k else rbk b p k) = 9 + k
      rw [if_pos c]
    · rw [if_neg c]
      rcases ih with h | ⟨i, h1, h2, h3⟩
      · exact Or.inl h
      · refine Or.inr ⟨i, by omega, ?_, h3⟩
        show (if b 15 k = 1 ∧ b 16 k = p then 9 + k else rbk b p k) = 9 + i
        rw [if_neg c]
        exact h2
theorem rbk_at (hB : vB b) {k p : Nat} (hp : p < 8) (hk : k < 4) (h1 : b 15 k = 1) (h2 : b 16 k = p) : rbk b p 4 = 9 + k := by
  rcases rbk_or b p 4 with h | ⟨i, h3, h4, h5, h6⟩
  · exfalso
    have : ∀ n, k < n → rbk b p n ≠ p := by
      intro n
      induction n with
      | zero => intro u; omega
      | succ n ih =>
        intro u e
        have e : (if b 15 n = 1 ∧ b 16 n = p then 9 + n else rbk b p n) = p := e
        by_cases c : b 15 n = 1 ∧ b 16 n = p
        · rw [if_pos c] at e
          omega
        · rw [if_neg c] at e
          by_cases e2 : k = n
          · subst e2
            exact c ⟨h1, h2⟩
          · exact ih (by omega) e
    exact this 4 hk h
  · rw [h4, hB.2.2.1 i k h3 hk h5 h1 (by rw [h6, h2])]
theorem rbk_no {p : Nat} (h : ∀ k, k < 4 → ¬ (b 15 k = 1 ∧ b 16 k = p)) : rbk b p 4 = p := by
  rcases rbk_or b p 4 with h1 | ⟨i, h3, h4, h5, h6⟩
  · exact h1
  · exact absurd ⟨h5, h6⟩ (h i h3)
theorem sR.bl (hs : sR D b L pg ob) (hT : vT b) : d_bl D := by
  intro p hp
  rw [hs.md hT] at hp
  have h := (hs.2.2.2.2.1.2.2 p hp).2.2.2.1
  rcases rbk_or b p 4 with h1 | ⟨i, h3, h4, h5, h6⟩
  · rw [if_pos h1] at h
    exact Or.inl h
  · have h48 := hT.2.1
    rw [if_neg (by omega), h4] at h
    exact Or.inr ⟨9 + i, by omega, by omega, h⟩
end SP
