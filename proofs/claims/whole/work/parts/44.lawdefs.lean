/-! THE CLAIM OUT OF ONE WALK OF THE LAW'S BODY. Your part is whole_start (and what it stands on); all else here is the same for every law, but numbers. -/
def R_law : String := "ProcessHeapsLaw"
def lw_P (b : Addr) (xs : List Int32) (args : Array Value) (s : State) : Prop := args = #[.ref b] ∧ s.IntsAt b xs ∧ xs.length ≤ 2561 ∧ (Jvm.Cond.and given_1 narrow_1).before args s = true
def lw_Q (_ : Array Value) (s : State) (o : Outcome) (t : State) : Prop := o = .returned (some (.int 1)) ∧ Framed s o t [] room_1.cells room_1.slots
def lw_Z (below : List Frame) (a : Array Value) (s : State) : State → Prop := fun t => ∃ o, t.status = .running ∧ Ended t below o ∧ lw_Q a s o t
/-- the law's own end, with 1 on the stack, nothing written that was there before, its room as the claim has it -/
theorem lw_ret {p : Program} {l : Launch} {e : Env} {s : State} {m : MethodId} {below : List Frame} {meth : Method} {c : Code} {b : Nat} (hx : p.tables.exec = Jvm.exec) (hb : c.code = code) (hr : meth.sig.returnType = ret) (hlocks : meth.locks = false) {pc : Nat} {H : Heap} {ls : Array Slot} (hdg : decode code pc = .ok (.ireturn, 1)) : W p l e room_1 s m #[Value.ref b] below meth c H [] room_1.cells room_1.slots (lw_Z below #[Value.ref b] s) (F0 m pc ls [.int 1]) := by
  intro T hT X
  obtain ⟨fs, hret, hrun, hended, hW, hframe⟩ := X.leave (v := some (.int 1)) (hlocks := hlocks) (fun h => by rw [hr] at h; cases h)
  have hmeth' : T.vm.method? m = some meth := X.method'
  refine ⟨T.setFrames fs, ?_, .returned (some (.int 1)), hrun, hended, rfl, ⟨_, rfl⟩, hW, hframe⟩
  jvm_step X.here [X.here.top, hx, hb, hdg, hmeth', hr, ret, narrow_b1]
  (try refine ⟨rfl, ?_⟩); (try refine ⟨rfl, ?_⟩)
  first | (intro acts; rw [hret _ acts rfl rfl rfl]) | rw [hret _ _ rfl rfl rfl]
  exact Steps.refl _
/-- what holds at the law's entry: the machine, the code, the tables' words (any of lw_tbl by 'hts w (by decide +kernel)'), the script of L ints xs at the cell b, what the Statement gives of the start (any of its parts by flat_of_before) -/
def lw_At (p : Program) (s : State) (m : MethodId) (meth : Method) (c : Code) (b L : Nat) (xs : Nat → Int32) : Prop :=
  p.tables.exec = Jvm.exec ∧ c.code = code ∧ meth.sig.returnType = ret ∧ c.maxLocals = 4 ∧ s.vm.findClass R_law = some m.cls ∧ (∀ w ∈ lw_tbl, w.before #[Value.ref b] s = true) ∧ va_X b L xs s s.heap ∧ b < s.heap.size ∧ meth.locks = false ∧ (Jvm.Cond.and given_1 narrow_1).before #[Value.ref b] s = true
/-! the law's own rows -/
abbrev Y_La_law : ByteArray × String × Nat × Option FieldType × Bool × Room := (code, "ProcessHeapsLaw", 4, ret, false, room_1)
def lx_E (G : mm_G) (b : Nat) : State → Array Value → Prop := fun s args => args = #[Value.ref b] ∧ s.heap.size ≤ G.2.2.1
def lx_Qf : List Frame → Array Value → State → State → Prop := fun below args s => lw_Z below args s
section RW6
variable {l : Launch} {G : mm_G} {Ex : State → Array Value → Prop} {Qf : List Frame → Array Value → State → State → Prop} {Y : mm_Y} {M0 M : mm_M} {bc bs pc : Nat} {ls : List (Option mm_V)} {st : List mm_V}
theorem mr_lawret {b : Nat} (hd : decode code pc = .ok (.ireturn, 1)) : mm_Zq l G Y_La_law (lx_E G b) lx_Qf M0 bc bs pc ls [.inl 1] M := by
  intro p e s m args below meth c H locs cells slots la hJ hT hL hc hs
  obtain ⟨hx, hb, hml, hr, hlk, -, hown, hts, hCx, hsz, ha, hba⟩ := hJ
  subst ha
  refine va_forget (fun q hq => Nat.le_trans hba (hT.2.1.2.2 q hq).1) ?_
  refine W.widen (k := room_1.cells) (n := room_1.slots) (by have h1 : cells + bc ≤ room_1.cells := hc; omega) (by have h1 : slots + bs ≤ room_1.slots := hs; omega) ?_
  exact lw_ret hx hb hr hlk hd
theorem mr_tab {d : Int} {offs : Array Int} {len j : Nat} {x : Int32} (hd : decode Y.1 pc = .ok (.tableswitch d 0 19 offs, len)) (hx : x = nI j) (hj : j < 32) (kd : 20 ≤ j → ∃ tgt : Nat, (pc : Int) + d = (tgt : Int) ∧ mm_Zq l G Y Ex Qf M0 bc bs tgt ls st M) (kt : ∀ off : Int, j < 20 → offs[j]? = some off → ∃ tgt : Nat, (pc : Int) + off = (tgt : Int) ∧ mm_Zq l G Y Ex Qf M0 bc bs tgt ls st M) (hs : offs.size = 20 := by decide) : mm_Zq l G Y Ex Qf M0 bc bs pc ls (.inl x :: st) M := by
  subst hx
  intro p e s m args below meth c H locs cells slots la hJ hT hL hc hs'
  have hi : (nI j).toInt = (j : Int) := nI_toInt (by omega)
  by_cases h : 20 ≤ j
  · obtain ⟨tgt, ht, k⟩ := kd h
    exact lv_tableOut hJ.1 hJ.2.1 hd (Or.inr (by rw [hi]; omega)) ht (k p e s m args below meth c H locs cells slots la hJ hT hL hc hs')
  · obtain ⟨tgt, ht, k⟩ := kt (offs[j]'(by omega)) (by omega) (Array.getElem?_eq_getElem (by omega))
    exact lv_tableIn hJ.1 hJ.2.1 hd (by rw [hi]; omega) (by rw [hi]; omega) (off := offs[j]'(by omega)) (by rw [hi]; simp) ht (k p e s m args below meth c H locs cells slots la hJ hT hL hc hs')
end RW6
