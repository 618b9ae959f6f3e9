/-! MEMORY: values, a memory of cells (kind, length, ints, references, the next address), and what it is for a heap to hold it. Kinds: 0 nothing; c + 1 an object of class c of vwCl; 100 + t an array of the type t of mm_ty (105: an empty array that is never written; 106: an int array that is never written) -/
abbrev mm_V : Type := Int32 ⊕ Option Nat
def mm_v (x : mm_V) : Value := match x with
  | .inl n => .int n
  | .inr o => va_rf o
theorem mm_v_cat (x : mm_V) : (mm_v x).category = 1 := by
  rcases x with n | o
  · rfl
  · cases o <;> rfl
abbrev mm_M : Type := (Nat → Nat) × (Nat → Nat) × (Nat → Nat → Int32) × (Nat → Nat → Option Nat) × Nat
def mm_k (M : mm_M) (a : Nat) : Nat := M.1 a
def mm_l (M : mm_M) (a : Nat) : Nat := M.2.1 a
def mm_i (M : mm_M) (a j : Nat) : Int32 := M.2.2.1 a j
def mm_p (M : mm_M) (a j : Nat) : Option Nat := M.2.2.2.1 a j
def mm_z (M : mm_M) : Nat := M.2.2.2.2
def mm_si (M : mm_M) (a j : Nat) (x : Int32) : mm_M := (M.1, M.2.1, fun b k => if b = a ∧ k = j then x else M.2.2.1 b k, M.2.2.2.1, M.2.2.2.2)
def mm_sp (M : mm_M) (a j : Nat) (x : Option Nat) : mm_M := (M.1, M.2.1, M.2.2.1, fun b k => if b = a ∧ k = j then x else M.2.2.2.1 b k, M.2.2.2.2)
def mm_sf (M : mm_M) (a : Nat) (f : Nat → Option Nat) : mm_M := (M.1, M.2.1, M.2.2.1, fun b k => if b = a then f k else M.2.2.2.1 b k, M.2.2.2.2)
def mm_nw (M : mm_M) (kd n : Nat) : mm_M := (fun b => if b = M.2.2.2.2 then kd else M.1 b, fun b => if b = M.2.2.2.2 then n else M.2.1 b, fun b k => if b = M.2.2.2.2 then 0 else M.2.2.1 b k, fun b k => if b = M.2.2.2.2 then none else M.2.2.2.1 b k, M.2.2.2.2 + 1)
theorem mm_k_si (M : mm_M) (a j : Nat) (x : Int32) (b : Nat) : mm_k (mm_si M a j x) b = mm_k M b := rfl
theorem mm_l_si (M : mm_M) (a j : Nat) (x : Int32) (b : Nat) : mm_l (mm_si M a j x) b = mm_l M b := rfl
theorem mm_p_si (M : mm_M) (a j : Nat) (x : Int32) (b k : Nat) : mm_p (mm_si M a j x) b k = mm_p M b k := rfl
theorem mm_z_si (M : mm_M) (a j : Nat) (x : Int32) : mm_z (mm_si M a j x) = mm_z M := rfl
theorem mm_i_si (M : mm_M) (a j : Nat) (x : Int32) (b k : Nat) : mm_i (mm_si M a j x) b k = if b = a ∧ k = j then x else mm_i M b k := rfl
theorem mm_k_sp (M : mm_M) (a j : Nat) (x : Option Nat) (b : Nat) : mm_k (mm_sp M a j x) b = mm_k M b := rfl
theorem mm_l_sp (M : mm_M) (a j : Nat) (x : Option Nat) (b : Nat) : mm_l (mm_sp M a j x) b = mm_l M b := rfl
theorem mm_i_sp (M : mm_M) (a j : Nat) (x : Option Nat) (b k : Nat) : mm_i (mm_sp M a j x) b k = mm_i M b k := rfl
theorem mm_z_sp (M : mm_M) (a j : Nat) (x : Option Nat) : mm_z (mm_sp M a j x) = mm_z M := rfl
theorem mm_p_sp (M : mm_M) (a j : Nat) (x : Option Nat) (b k : Nat) : mm_p (mm_sp M a j x) b k = if b = a ∧ k = j then x else mm_p M b k := rfl
theorem mm_k_sf (M : mm_M) (a : Nat) (f : Nat → Option Nat) (b : Nat) : mm_k (mm_sf M a f) b = mm_k M b := rfl
theorem mm_l_sf (M : mm_M) (a : Nat) (f : Nat → Option Nat) (b : Nat) : mm_l (mm_sf M a f) b = mm_l M b := rfl
theorem mm_i_sf (M : mm_M) (a : Nat) (f : Nat → Option Nat) (b k : Nat) : mm_i (mm_sf M a f) b k = mm_i M b k := rfl
theorem mm_z_sf (M : mm_M) (a : Nat) (f : Nat → Option Nat) : mm_z (mm_sf M a f) = mm_z M := rfl
theorem mm_p_sf (M : mm_M) (a : Nat) (f : Nat → Option Nat) (b k : Nat) : mm_p (mm_sf M a f) b k = if b = a then f k else mm_p M b k := rfl
theorem mm_k_nw (M : mm_M) (kd n b : Nat) : mm_k (mm_nw M kd n) b = if b = mm_z M then kd else mm_k M b := rfl
theorem mm_l_nw (M : mm_M) (kd n b : Nat) : mm_l (mm_nw M kd n) b = if b = mm_z M then n else mm_l M b := rfl
theorem mm_i_nw (M : mm_M) (kd n b k : Nat) : mm_i (mm_nw M kd n) b k = if b = mm_z M then 0 else mm_i M b k := rfl
theorem mm_p_nw (M : mm_M) (kd n b k : Nat) : mm_p (mm_nw M kd n) b k = if b = mm_z M then none else mm_p M b k := rfl
theorem mm_z_nw (M : mm_M) (kd n : Nat) : mm_z (mm_nw M kd n) = mm_z M + 1 := rfl
/-- is a slot one of references? -/
def mm_rd (d : String) : Bool := !(decide (d = "I") || decide (d = "Z"))
def mm_rs (k j : Nat) : Bool := if k < 100 then (match vwCl[k - 1]? with | some r => mm_rd (r.2.1 j).2.2.1 | none => false) else decide (102 ≤ k)
def mm_c (M : mm_M) (a j : Nat) : Value := if mm_rs (mm_k M a) j = true then va_rf (mm_p M a j) else .int (mm_i M a j)
/-- the classes' numbers, the arrays' classes, the first address that may be written, the array that is never written, the class object of Object[] -/
abbrev mm_G : Type := va_G × (Nat → ClassId) × Nat × Nat × Nat
def mm_tys (E : Nat → ClassId) : List (ClassId × FieldType) := [(E 0, .int), (E 1, .boolean), (E 2, .object "java/lang/Object"), (E 3, .object "ProcessHeaps$HeapObject"), (E 4, .object "ProcessHeaps$HeapProcess"), (E 5, .object "java/lang/Object")]
def mm_at (G : mm_G) (M : mm_M) (H : Heap) (a : Nat) : Prop :=
  (mm_k M a < 100 ∧ G.2.2.1 ≤ a ∧ ∃ r : vw_C, vwCl[mm_k M a - 1]? = some r ∧ mm_l M a = r.2.2 ∧ t_OB a (G.1.1 (mm_k M a - 1)) r.2.2 (G.1.2 (mm_k M a - 1)) H (mm_c M a)) ∨
  (100 ≤ mm_k M a ∧ mm_k M a < 105 ∧ G.2.2.1 ≤ a ∧ H[a]? = some (arrV (G.2.1 (mm_k M a - 100)) (mm_l M a) (mm_c M a))) ∨
  (mm_k M a = 105 ∧ ∃ cell : Cell, H[a]? = some cell ∧ cell.cls = G.2.1 5 ∧ (∀ q, cell.vm ≠ .statics q) ∧ cell.slots.size = mm_l M a) ∨
  (mm_k M a = 106 ∧ ∃ cell : Cell, H[a]? = some cell ∧ cell.cls = G.2.1 6 ∧ (∀ q, cell.vm ≠ .statics q) ∧ cell.vm ≠ .unknown ∧ cell.slots.size = mm_l M a ∧ ∀ j, j < mm_l M a → cell.slots[j]? = some (.int (mm_i M a j)))
def mm_H (G : mm_G) (M : mm_M) (H : Heap) : Prop := H.size = mm_z M ∧ ∀ a, mm_k M a ≠ 0 → mm_at G M H a
/-- what a later memory keeps of an earlier one -/
def mm_X (M0 M : mm_M) : Prop := mm_z M0 ≤ mm_z M ∧ (∀ a, mm_k M0 a ≠ 0 → mm_k M a = mm_k M0 a ∧ mm_l M a = mm_l M0 a) ∧ ∀ a, mm_k M a ≠ 0 → mm_k M0 a ≠ 0 ∨ mm_z M0 ≤ a
theorem mm_X.rf (M : mm_M) : mm_X M M := ⟨Nat.le_refl _, fun _ _ => ⟨rfl, rfl⟩, fun _ h => Or.inl h⟩
theorem mm_X.tr {M0 M1 M2 : mm_M} (h1 : mm_X M0 M1) (h2 : mm_X M1 M2) : mm_X M0 M2 := by
  refine ⟨Nat.le_trans h1.1 h2.1, fun a h => ?_, fun a h => ?_⟩
  · have e1 := h1.2.1 a h
    have e2 := h2.2.1 a (by rw [e1.1]; exact h)
    exact ⟨e2.1.trans e1.1, e2.2.trans e1.2⟩
  · rcases h2.2.2 a h with h3 | h3
    · exact h1.2.2 a h3
    · exact Or.inr (Nat.le_trans h1.1 h3)
def mm_A (G : mm_G) (M0 : mm_M) : Nat → Prop := fun q => G.2.2.1 ≤ q ∧ (mm_k M0 q ≠ 0 ∨ mm_z M0 ≤ q)
theorem mm_A.of {G : mm_G} {M0 M : mm_M} (h : mm_X M0 M) {q : Nat} (hq : mm_A G M q) : mm_A G M0 q := by
  refine ⟨hq.1, ?_⟩
  rcases hq.2 with h1 | h1
  · exact h.2.2 q h1
  · exact Or.inr (Nat.le_trans h.1 h1)
theorem mm_at.lt {G : mm_G} {M : mm_M} {H : Heap} {a : Nat} (h : mm_at G M H a) : a < H.size := by
  rcases h with ⟨-, -, r, -, -, cell, h1, -⟩ | ⟨-, -, -, h1⟩ | ⟨-, cell, h1, -⟩ | ⟨-, cell, h1, -⟩
  · exact (Array.getElem?_eq_some_iff.mp h1).1
  · exact (Array.getElem?_eq_some_iff.mp h1).1
  · exact (Array.getElem?_eq_some_iff.mp h1).1
  · exact (Array.getElem?_eq_some_iff.mp h1).1
theorem mm_at.same {G : mm_G} {M M1 : mm_M} {H H1 : Heap} {a : Nat} (h : mm_at G M H a) (hq : H1[a]? = H[a]?) (hk : mm_k M1 a = mm_k M a) (hl : mm_l M1 a = mm_l M a) (hi : ∀ j, mm_i M1 a j = mm_i M a j) (hp : ∀ j, mm_p M1 a j = mm_p M a j) : mm_at G M1 H1 a := by
  have hc : mm_c M1 a = mm_c M a := by
    funext j
    unfold mm_c
    rw [hk, hi, hp]
  unfold mm_at
  rw [hk, hl, hc]
  rcases h with ⟨h1, h2, r, h3, h4, h5⟩ | ⟨h1, h2, h3, h4⟩ | ⟨h1, cell, h2, h3⟩ | ⟨h1, cell, h2, h3, h4, h5, h6, h7⟩
  · exact Or.inl ⟨h1, h2, r, h3, h4, h5.kept hq⟩
  · exact Or.inr (Or.inl ⟨h1, h2, h3, by rw [hq]; exact h4⟩)
  · exact Or.inr (Or.inr (Or.inl ⟨h1, cell, by rw [hq]; exact h2, h3⟩))
  · exact Or.inr (Or.inr (Or.inr ⟨h1, cell, by rw [hq]; exact h2, h3, h4, h5, h6, fun j hj => by rw [hi]; exact h7 j hj⟩))
/-- one cell is written -/
theorem mm_H.put {G : mm_G} {M M1 : mm_M} {H H1 : Heap} {a : Nat} (h : mm_H G M H) (hz : H1.size = H.size) (oq : ∀ q : Nat, q ≠ a → H1[q]? = H[q]?) (e0 : mm_z M1 = mm_z M) (e1 : ∀ b, mm_k M1 b = mm_k M b) (e2 : ∀ b, mm_l M1 b = mm_l M b) (e3 : ∀ b, b ≠ a → ∀ j, mm_i M1 b j = mm_i M b j) (e4 : ∀ b, b ≠ a → ∀ j, mm_p M1 b j = mm_p M b j) (ha : mm_at G M1 H1 a) : mm_H G M1 H1 := by
  refine ⟨by rw [hz, h.1, e0], fun b hb => ?_⟩
  by_cases hba : b = a
  · subst hba
    exact ha
  · exact (h.2 b (by rw [← e1]; exact hb)).same (oq b hba) (e1 b) (e2 b) (e3 b hba) (e4 b hba)
/-- a cell is made -/
theorem mm_H.new {G : mm_G} {M : mm_M} {H H1 : Heap} {kd n : Nat} (h : mm_H G M H) (hz : H1.size = H.size + 1) (oq : ∀ q : Nat, q < H.size → H1[q]? = H[q]?) (ha : mm_at G (mm_nw M kd n) H1 (mm_z M)) : mm_H G (mm_nw M kd n) H1 := by
  refine ⟨by rw [hz, h.1]; rfl, fun b hb => ?_⟩
  by_cases hba : b = mm_z M
  · subst hba
    exact ha
  · have hb' : mm_k M b ≠ 0 := by
      rw [mm_k_nw, if_neg hba] at hb
      exact hb
    have hat := h.2 b hb'
    exact hat.same (oq b hat.lt) (by rw [mm_k_nw, if_neg hba]) (by rw [mm_l_nw, if_neg hba]) (fun j => by rw [mm_i_nw, if_neg hba]) (fun j => by rw [mm_p_nw, if_neg hba])
theorem mm_X.si {M0 M : mm_M} {a j : Nat} {x : Int32} (h : mm_X M0 M) : mm_X M0 (mm_si M a j x) := h
theorem mm_X.sp {M0 M : mm_M} {a j : Nat} {x : Option Nat} (h : mm_X M0 M) : mm_X M0 (mm_sp M a j x) := h
theorem mm_X.sf {M0 M : mm_M} {a : Nat} {f : Nat → Option Nat} (h : mm_X M0 M) : mm_X M0 (mm_sf M a f) := h
theorem mm_fresh {G : mm_G} {M : mm_M} {H : Heap} (h : mm_H G M H) {a : Nat} (ha : mm_k M a ≠ 0) : a < mm_z M := by
  rw [← h.1]
  exact (h.2 a ha).lt
theorem mm_X.nw {G : mm_G} {M0 M : mm_M} {H : Heap} (hH : mm_H G M H) {kd n : Nat} (h : mm_X M0 M) : mm_X M0 (mm_nw M kd n) := by
  have h2 : mm_X M (mm_nw M kd n) := by
    refine ⟨Nat.le_succ _, fun a ha => ?_, fun a ha => ?_⟩
    · have hne : a ≠ mm_z M := Nat.ne_of_lt (mm_fresh hH ha)
      exact ⟨by rw [mm_k_nw, if_neg hne], by rw [mm_l_nw, if_neg hne]⟩
    · by_cases he : a = mm_z M
      · exact Or.inr (Nat.le_of_eq he.symm)
      · rw [mm_k_nw, if_neg he] at ha
        exact Or.inl ha
  exact h.tr h2
/-- locals: what is known of each -/
def mm_ps : Nat → List (Option mm_V) → List (Nat × Value)
  | _, [] => []
  | i, none :: t => mm_ps (i + 1) t
  | i, some v :: t => (i, mm_v v) :: mm_ps (i + 1) t
theorem mm_ps_mem : ∀ (ls : List (Option mm_V)) (i : Nat) (q : Nat × Value), q ∈ mm_ps i ls ↔ ∃ (j : Nat) (v : mm_V), ls[j]? = some (some v) ∧ q = (i + j, mm_v v)
  | [], i, q => by
    constructor
    · intro h
      cases h
    · rintro ⟨j, v, h, -⟩
      simp at h
  | none :: t, i, q => by
    show q ∈ mm_ps (i + 1) t ↔ _
    rw [mm_ps_mem t (i + 1) q]
    constructor
    · rintro ⟨j, v, h, e⟩
      exact ⟨j + 1, v, h, by rw [e]; congr 1; omega⟩
    · rintro ⟨j, v, h, e⟩
      cases j with
      | zero => simp at h
      | succ j => exact ⟨j, v, h, by rw [e]; congr 1; omega⟩
  | some w :: t, i, q => by
    show q ∈ (i, mm_v w) :: mm_ps (i + 1) t ↔ _
    rw [List.mem_cons, mm_ps_mem t (i + 1) q]
    constructor
    · rintro (h | ⟨j, v, h, e⟩)
      · exact ⟨0, w, rfl, h⟩
      · exact ⟨j + 1, v, h, by rw [e]; congr 1; omega⟩
    · rintro ⟨j, v, h, e⟩
      cases j with
      | zero =>
        simp at h
        subst h
        exact Or.inl e
      | succ j => exact Or.inr ⟨j, v, h, by rw [e]; congr 1; omega⟩
abbrev mm_L (la : Array Slot) (nL : Nat) (ls : List (Option mm_V)) : Prop := lv_has la nL (mm_ps 0 ls)
theorem mm_L.at {la : Array Slot} {nL : Nat} {ls : List (Option mm_V)} (h : mm_L la nL ls) {i : Nat} {v : mm_V} (hi : ls[i]? = some (some v)) : la[i]? = some (.val (mm_v v)) :=
  h.2.2 (i, mm_v v) ((mm_ps_mem ls 0 _).mpr ⟨i, v, hi, by rw [Nat.zero_add]⟩)
theorem mm_L.less {la : Array Slot} {nL : Nat} {ls ls' : List (Option mm_V)} (h : mm_L la nL ls) (hs : ∀ (i : Nat) (v : mm_V), ls'[i]? = some (some v) → ls[i]? = some (some v)) : mm_L la nL ls' := by
  refine ⟨h.1, h.2.1, fun q hq => ?_⟩
  obtain ⟨j, v, hj, e⟩ := (mm_ps_mem ls' 0 q).mp hq
  rw [e, Nat.zero_add]
  exact h.at (hs j v hj)
theorem mm_L.store {la : Array Slot} {nL i : Nat} {ls : List (Option mm_V)} {v : mm_V} (h : lv_has la nL ((i, mm_v v) :: (mm_ps 0 ls).filter (fun q => !(q.1 == i) && !(q.1 + 1 == i && q.2.category == 2)))) : mm_L la nL (ls.set i (some v)) := by
  refine ⟨h.1, h.2.1, fun q hq => ?_⟩
  obtain ⟨j, w, hj, e⟩ := (mm_ps_mem _ 0 q).mp hq
  rw [Nat.zero_add] at e
  by_cases hji : i = j
  · subst hji
    rw [List.getElem?_set] at hj
    by_cases hlt : i < ls.length
    · rw [if_pos rfl, if_pos hlt] at hj
      have hw : v = w := by simpa using hj
      subst hw
      rw [e]
      exact h.2.2 _ List.mem_cons_self
    · rw [if_pos rfl, if_neg hlt] at hj
      cases hj
  · rw [List.getElem?_set_ne hji] at hj
    refine h.2.2 q (List.mem_cons_of_mem _ (List.mem_filter.mpr ⟨(mm_ps_mem ls 0 q).mpr ⟨j, w, hj, by rw [e, Nat.zero_add]⟩, ?_⟩))
    rw [e]
    simp [mm_v_cat, Ne.symm hji]
theorem mm_L.entry (vs : List mm_V) {n : Nat} (h : vs.length ≤ n) : mm_L ((lg_sl (vs.map mm_v) ++ List.replicate (n - (lg_sl (vs.map mm_v)).length) Slot.unset).toArray) n (vs.map some) := by
  have e1 : ∀ vs : List mm_V, (lg_sl (vs.map mm_v)).length = vs.length := by
    intro vs
    induction vs with
    | nil => rfl
    | cons v t ih =>
      have hc := mm_v_cat v
      simp only [lg_sl, List.map_cons, List.flatMap_cons, List.length_append, List.length_cons] at ih ⊢
      rw [ih, hc]
      simp
      omega
  have e2 : ∀ (vs : List mm_V) (i : Nat), lv_args i (vs.map mm_v) = mm_ps i (vs.map some) := by
    intro vs
    induction vs with
    | nil => intro i; rfl
    | cons v t ih =>
      intro i
      show (i, mm_v v) :: lv_args (if (mm_v v).category = 2 then i + 2 else i + 1) (t.map mm_v) = (i, mm_v v) :: mm_ps (i + 1) (t.map some)
      rw [mm_v_cat, if_neg (by decide), ih]
  have h1 := lv_entry (vs.map mm_v) (n := n) (by rw [e1]; exact h)
  rw [e2] at h1
  exact h1
