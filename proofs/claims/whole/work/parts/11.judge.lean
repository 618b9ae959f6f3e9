/-! JUDGEMENT: a method's run over the memory (mm_Z), a method's contract (mm_Ok), the entry, the frame -/
abbrev mm_Em (G : mm_G) (s : State) (H : Heap) : Prop := va_Z "java/util/ArrayList" "DEFAULTCAPACITY_EMPTY_ELEMENTDATA" "[Ljava/lang/Object;" (.ref G.2.2.2.1) (fun q => G.2.2.1 ≤ q) s H ∧ va_Mi "[Ljava/lang/Object;" G.2.2.2.2 s ∧ ArrOfT s (G.2.1 6) .int
def mm_Cx (G : mm_G) (s : State) : Prop := va_K G.1 vwCl (mm_tys G.2.1) s ∧ mm_Em G s s.heap ∧ (∀ w ∈ lw_tbl.filter mm_isN, va_Nw w s) ∧ G.2.2.1 ≤ s.heap.size
/-- a method: its code, its class, its locals, what it returns, whether it is a constructor, its room -/
abbrev mm_Y : Type := ByteArray × String × Nat × Option FieldType × Bool × Room
def mm_J (G : mm_G) (Y : mm_Y) (Ex : State → Array Value → Prop) (M0 : mm_M) (p : Program) (s : State) (m : MethodId) (args : Array Value) (meth : Method) (c : Code) : Prop :=
  p.tables.exec = Jvm.exec ∧ c.code = Y.1 ∧ c.maxLocals = Y.2.2.1 ∧ meth.sig.returnType = Y.2.2.2.1 ∧ meth.locks = false ∧ (Y.2.2.2.2.1 = true → meth.name = "<init>") ∧ s.vm.findClass Y.2.1 = some m.cls ∧ (∀ w ∈ mm_B, w.before args s = true) ∧ mm_Cx G s ∧ s.heap.size = mm_z M0 ∧ Ex s args
def mm_T (G : mm_G) (M0 M : mm_M) (s : State) (H : Heap) (locs : List Loc) : Prop := mm_H G M H ∧ va_S (mm_A G M0) s.heap H locs ∧ mm_X M0 M
def mm_Q (G : mm_G) (K : Option mm_V → mm_M → Prop) (M0 : mm_M) : Array Value → State → Outcome → State → Prop := fun _ st oc t =>
  ∃ (r : Option mm_V) (M1 : mm_M), oc = .returned (r.map mm_v) ∧ mm_H G M1 t.heap ∧ mm_X M0 M1 ∧ K r M1 ∧ va_F (mm_A G M0) st t
def mm_Zq (l : Launch) (G : mm_G) (Y : mm_Y) (Ex : State → Array Value → Prop) (Qf : List Frame → Array Value → State → State → Prop) (M0 : mm_M) (bc bs pc : Nat) (ls : List (Option mm_V)) (st : List mm_V) (M : mm_M) : Prop :=
  ∀ (p : Program) (e : Env) (s : State) (m : MethodId) (args : Array Value) (below : List Frame) (meth : Method) (c : Code) (H : Heap) (locs : List Loc) (cells slots : Nat) (la : Array Slot),
    mm_J G Y Ex M0 p s m args meth c → mm_T G M0 M s H locs → mm_L la Y.2.2.1 ls → cells + bc ≤ Y.2.2.2.2.2.cells → slots + bs ≤ Y.2.2.2.2.2.slots →
    W p l e Y.2.2.2.2.2 s m args below meth c H locs cells slots (Qf below args s) (F0 m pc la (st.map mm_v))
abbrev mm_Qf (G : mm_G) (Y : mm_Y) (K : Option mm_V → mm_M → Prop) (M0 : mm_M) : List Frame → Array Value → State → State → Prop := fun below args s => MQ below (mm_Q G K M0) args s Y.2.2.2.2.2.cells Y.2.2.2.2.2.slots (mm_A G M0)
abbrev mm_Tt : State → Array Value → Prop := fun _ _ => True
abbrev mm_Z (l : Launch) (G : mm_G) (Y : mm_Y) (K : Option mm_V → mm_M → Prop) (M0 : mm_M) (bc bs pc : Nat) (ls : List (Option mm_V)) (st : List mm_V) (M : mm_M) : Prop := mm_Zq l G Y mm_Tt (mm_Qf G Y K M0) M0 bc bs pc ls st M
abbrev mm_ws (y : MethodName) (Y : mm_Y) : List Cond := Cond.code y Y.1 Y.2.2.1 Y.2.2.2.1 :: mm_B
def mm_Ok (l : Launch) (G : mm_G) (y : MethodName) (Y : mm_Y) (vs : List mm_V) (M : mm_M) (K : Option mm_V → mm_M → Prop) : Prop :=
  Met l y (mm_ws y Y) Y.2.2.2.2.2 (va_Pc (vs.map mm_v) (fun U => mm_Cx G U ∧ mm_H G M U.heap)) (mm_Q G K M) Y.2.2.2.2.2.cells Y.2.2.2.2.2.slots (mm_A G M)
section MM
variable {l : Launch} {G : mm_G} {Y : mm_Y} {K : Option mm_V → mm_M → Prop} {Ex : State → Array Value → Prop} {Qf : List Frame → Array Value → State → State → Prop} {M0 M : mm_M} {bc bs pc : Nat} {ls ls' : List (Option mm_V)} {st : List mm_V}
/-- the entry -/
theorem mm_go {y : MethodName} {vs : List mm_V} (hy : plainName y.cls = true) (hcls : y.cls = Y.2.1) (hini : Y.2.2.2.2.1 = true → y.name = "<init>") (hlen : vs.length ≤ Y.2.2.1)
    (h : mm_Z l G Y K M Y.2.2.2.2.2.cells Y.2.2.2.2.2.slots 0 (vs.map some ++ List.replicate (Y.2.2.1 - vs.length) none) [] M) : mm_Ok l G y Y vs M K := by
  refine Met.ofW (cc := Y.1) (maxL := Y.2.2.1) (ret := Y.2.2.2.1) hy rfl ?_
  intro p e s m args below meth c s₁ B hml hv
  obtain ⟨rfl, hCx, hH⟩ := hv
  have hts := atoms_spec (ws := mm_ws y Y) B.pre
  have hown : s.vm.findClass Y.2.1 = some m.cls := hcls ▸ findClass_of_methodNamed B.named
  rw [lg_entry_eq]
  have hl := mm_L.entry vs (n := Y.2.2.1) hlen
  generalize (lg_sl (vs.map mm_v) ++ List.replicate (Y.2.2.1 - (lg_sl (vs.map mm_v)).length) Slot.unset).toArray = la at hl ⊢
  have hl2 : mm_L la Y.2.2.1 (vs.map some ++ List.replicate (Y.2.2.1 - vs.length) none) := hl.less (fun i v hi => by
    by_cases hlt : i < vs.length
    · rw [List.getElem?_append_left (by simpa using hlt)] at hi
      exact hi
    · rw [List.getElem?_append_right (by simpa using hlt), List.getElem?_replicate] at hi
      split at hi <;> simp at hi)
  refine h p e s m _ below meth c s.heap [] 0 0 la ⟨B.exec, B.bytes, hml, B.returns, B.notSynchronized, fun q => ?_, hown, fun w hw => hts w (List.mem_cons_of_mem _ hw), hCx, hH.1, trivial⟩ ⟨hH, va_S.rf, mm_X.rf M⟩ hl2 (by rw [Nat.zero_add]; exact Nat.le_refl _) (by rw [Nat.zero_add]; exact Nat.le_refl _)
  rw [(name_of_methodNamed B.named B.method).1]
  exact hini q
/-- a weaker end -/
theorem mm_Ok.mono {y : MethodName} {vs : List mm_V} {K' : Option mm_V → mm_M → Prop} (h : mm_Ok l G y Y vs M K) (hk : ∀ r M1, K r M1 → K' r M1) : mm_Ok l G y Y vs M K' := by
  intro p e h1 h2 h3 s m args below hf ha hP hK
  obtain ⟨n, o, q1, q2, q3, ⟨r, M1, c1, c2, c3, c4, c5⟩, q5⟩ := h p e h1 h2 h3 s m args below hf ha hP hK
  exact ⟨n, o, q1, q2, q3, ⟨r, M1, c1, c2, c3, hk r M1 c4, c5⟩, q5⟩
theorem mm_Z.mono {K' : Option mm_V → mm_M → Prop} (h : mm_Z l G Y K M0 bc bs pc ls st M) (hk : ∀ r M1, K r M1 → K' r M1) : mm_Z l G Y K' M0 bc bs pc ls st M := by
  intro p e s m args below meth c H locs cells slots la hJ hT hL hc hs T hT0 X
  obtain ⟨t, a, o, b1, b2, ⟨r, M1, c1, c2, c3, c4, c5⟩, b4⟩ := h p e s m args below meth c H locs cells slots la hJ hT hL hc hs T hT0 X
  exact ⟨t, a, o, b1, b2, ⟨r, M1, c1, c2, c3, hk r M1 c4, c5⟩, b4⟩
/-- less room is asked -/
theorem mm_less {bc' bs' : Nat} (h1 : bc' ≤ bc) (h2 : bs' ≤ bs) (h : mm_Zq l G Y Ex Qf M0 bc' bs' pc ls st M) : mm_Zq l G Y Ex Qf M0 bc bs pc ls st M :=
  fun p e s m args below meth c H locs cells slots la hJ hT hL hc hs => h p e s m args below meth c H locs cells slots la hJ hT hL (Nat.le_trans (Nat.add_le_add_left h1 _) hc) (Nat.le_trans (Nat.add_le_add_left h2 _) hs)
/-- fewer locals are known -/
theorem mm_fg (hs : ∀ (i : Nat) (v : mm_V), ls'[i]? = some (some v) → ls[i]? = some (some v)) (h : mm_Zq l G Y Ex Qf M0 bc bs pc ls' st M) : mm_Zq l G Y Ex Qf M0 bc bs pc ls st M :=
  fun p e s m args below meth c H locs cells slots la hJ hT hL hc hs' => h p e s m args below meth c H locs cells slots la hJ hT (hL.less hs) hc hs'
end MM
