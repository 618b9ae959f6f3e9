/-! CALLS -/
theorem mm_Cx.same {G : mm_G} {u U : State} (hv : u.vm = U.vm) (hh : u.heap = U.heap) (h : mm_Cx G u) : mm_Cx G U := by
  have hal : u.vm.Alike U.vm := hv ▸ Vm.Alike.refl u.vm
  refine ⟨va_K.moved hal h.1, ?_, fun w hw => ?_, by rw [← hh]; exact h.2.2.2⟩
  · rw [← hh]
    exact ⟨va_Z.moved hal h.2.1.1, va_Mi.moved hal h.2.1.2.1, arrOfT_moved hal h.2.1.2.2⟩
  · have hn := (List.mem_filter.mp hw).2
    have h1 := h.2.2.1 w hw
    unfold mm_isN at hn
    split at hn
    · exact va_Nw.same rfl hv h1
    · exact va_Nw.same rfl hv h1
    · exact va_Nw.same rfl hv h1
    · exact va_Nw.same rfl hv h1
    · exact va_AO.moved hal h1
    · cases hn
theorem mm_Cx.later {G : mm_G} {s U : State} (hW : s.WarmedH U.vm) (hz : s.heap.size ≤ U.heap.size) (hq : ∀ a : Nat, a < s.heap.size → ¬ G.2.2.1 ≤ a → U.heap[a]? = s.heap[a]?) (h : mm_Cx G s) : mm_Cx G U := by
  refine ⟨va_K.moved hW.alike h.1, ⟨(va_Z.moved hW.alike h.2.1.1).kept hq, va_Mi.moved hW.alike h.2.1.2.1, arrOfT_moved hW.alike h.2.1.2.2⟩, fun w hw => mm_isN.moved (List.mem_filter.mp hw).2 hW (h.2.2.1 w hw), Nat.le_trans h.2.2.2 hz⟩
theorem mm_sumcat (st : List mm_V) : ((st.map mm_v).map fun v => v.category).sum = st.length := by
  induction st with
  | nil => rfl
  | cons v t ih =>
    simp only [List.map_cons, List.sum_cons, List.length_cons, mm_v_cat]
    rw [ih]
    omega
section RW3
variable {l : Launch} {G : mm_G} {Y : mm_Y} {K : Option mm_V → mm_M → Prop} {Ex : State → Array Value → Prop} {Qf : List Frame → Array Value → State → State → Prop} {M0 M : mm_M} {bc bs pc : Nat} {ls : List (Option mm_V)} {st : List mm_V}
theorem mm_blind {vs : List mm_V} : FrameBlind (va_Pc (vs.map mm_v) (fun U => mm_Cx G U ∧ mm_H G M U.heap)) := by
  intro a U g mk q
  obtain ⟨q0, q1, q2⟩ := q
  exact ⟨q0, mm_Cx.same (u := U) (U := U.calling g mk a) rfl rfl q1, q2⟩
theorem mm_pre {vs : List mm_V} {p : Program} {s : State} {m : MethodId} {args : Array Value} {meth : Method} {c : Code} {H : Heap} {locs : List Loc} (hJ : mm_J G Y Ex M0 p s m args meth c) (hT : mm_T G M0 M s H locs) : ∀ U : State, U.heap = H → s.WarmedH U.vm → va_Pc (vs.map mm_v) (fun U => mm_Cx G U ∧ mm_H G M U.heap) (vs.map mm_v).toArray U := by
  intro U hU hW
  refine ⟨rfl, mm_Cx.later hW (by rw [hU]; exact hT.2.1.1) (fun a h1 h2 => by rw [hU]; exact hT.2.1.2.1 a h1 (fun z => h2 z.1)) hJ.2.2.2.2.2.2.2.2.1, by rw [hU]; exact hT.1⟩
theorem mm_ret {K' : Option mm_V → mm_M → Prop} {mc ms : Nat} {p : Program} {e : Env} {s : State} {m : MethodId} {args : Array Value} {below : List Frame} {meth : Method} {c : Code} {H : Heap} {locs : List Loc} {cells slots : Nat} {la : Array Slot} {st0 : List Value} {a : Array Value}
    (hr : va_Run p l e Y.2.2.2.2.2 s m args below meth c H locs cells slots mc ms (F0 m pc la st0) (st.map mm_v) (mm_Q G K' M a) (mm_A G M)) (hJ : mm_J G Y Ex M0 p s m args meth c) (hT : mm_T G M0 M s H locs) (hL : mm_L la Y.2.2.1 ls) (hc : cells + (bc + mc) ≤ Y.2.2.2.2.2.cells) (hs : slots + (bs + ms) ≤ Y.2.2.2.2.2.slots)
    (kk : ∀ r M1, mm_X M M1 → K' r M1 → mm_Zq l G Y Ex Qf M0 bc bs (pc + 3) ls (r.toList ++ st) M1) : W p l e Y.2.2.2.2.2 s m args below meth c H locs cells slots (Qf below args s) (F0 m pc la st0) := by
  intro T hT0 X
  obtain ⟨v, st₀, t, T', L, h0, X', hLc, e1, e2, ⟨r, M1, hv, hH1, hX1, hK1, hF⟩, hgo⟩ := hr T hT0 X
  have hvr : v = r.map mm_v := by
    cases hv
    rfl
  subst hvr
  have hz : H.size ≤ T'.heap.size := by rw [e1, ← h0]; exact hF.1
  have k1 := kk r M1 hX1 hK1 p e s m args below meth c T'.heap (locs ++ L) (cells + mc) (slots + ms) la hJ ⟨by rw [e1]; exact hH1, ⟨Nat.le_trans hT.2.1.1 hz, fun q g1 g2 => ?_, fun q hq => ?_⟩, hT.2.2.tr hX1⟩ hL (by omega) (by omega)
  · obtain ⟨t2, a1, b1⟩ := k1 T' rfl X'
    have est : (r.toList ++ st).map mm_v = (r.map mm_v).toList ++ st.map mm_v := by
      cases r <;> rfl
    rw [est] at a1
    exact ⟨t2, hgo t2 a1, b1⟩
  · rw [e1, hF.2 q (by rw [h0]; exact Nat.lt_of_lt_of_le g1 hT.2.1.1) (fun z => g2 (mm_A.of hT.2.2 z)), h0]
    exact hT.2.1.2.1 q g1 g2
  · rcases List.mem_append.mp hq with h | h
    · exact hT.2.1.2.2 q h
    · exact mm_A.of hT.2.2 (hLc q h)
/-- what a call stands on -/
def mm_Fc (own : String) (idx : Nat) (y : MethodName) (Yc : mm_Y) (n : Nat) : Prop :=
  Cond.code y Yc.1 Yc.2.2.1 Yc.2.2.2.1 ∈ mm_B ∧ Cond.initialized y.cls ∈ mm_B ∧ (y.cls ≠ "java/lang/invoke/MethodHandle" ∧ y.cls ≠ "java/lang/invoke/VarHandle" ∧ (parseMethodDescriptor y.desc).map (fun d => d.parameters.length) = some n) ∧ (Cond.methodLink own idx y ∈ mm_B ∨ ∃ host : String, Cond.methodLinkNest own idx y host ∈ lw_tbl.filter mm_isN)
def mm_Rm (R Rc : Room) (nL : Nat) : Prop := Rc.frames + 1 ≤ R.frames ∧ 8 + (nL + 11) + Rc.locals ≤ R.locals
theorem mm_wsB {y : MethodName} {Yc : mm_Y} (h : Cond.code y Yc.1 Yc.2.2.1 Yc.2.2.2.1 ∈ mm_B) : GoodIn mm_B (mm_ws y Yc) := mm_goodB (fun w hw => by
  rcases List.mem_cons.mp hw with h1 | h1
  · rw [h1]; exact h
  · exact h1)
theorem mr_callV {idx ci b : Nat} {y : MethodName} {Yc : mm_Y} {vs : List mm_V} {st0 : List mm_V} {o : Option Nat} {K' : Option mm_V → mm_M → Prop} {T : u_T} {N : Nat} (hF : mm_Fc Y.2.1 idx y Yc vs.length) (h1 : Cond.instanceMethod y ∈ mm_B) (h2 : Cond.selects y.cls y y ∈ mm_B) (hd : decode Y.1 pc = .ok (.invokevirtual idx, 3)) (hR : mm_Rm Y.2.2.2.2.2 Yc.2.2.2.2.2 Yc.2.2.1) (hci : ci < 99) (hcl : vwCl[ci]? = some (y.cls, T, N)) (hst : st0 = vs.reverse ++ .inr o :: st) (hlen : st.length ≤ 8) (ho : o = some b) (hk : mm_k M b = ci + 1) (hOk : mm_Ok l G y Yc (.inr (some b) :: vs) M K')
    (kk : ∀ r M1, mm_X M M1 → K' r M1 → mm_Zq l G Y Ex Qf M0 bc bs (pc + 3) ls (r.toList ++ st) M1) : mm_Zq l G Y Ex Qf M0 (bc + Yc.2.2.2.2.2.cells) (bs + Yc.2.2.2.2.2.slots) pc ls st0 M := by
  subst hst ho
  intro p e s m args below meth c H locs cells slots la hJ hT hL hc hs
  have hJ0 := hJ
  obtain ⟨hx, hb, hml, -, -, -, hown, hts, hCx, hsz⟩ := hJ
  obtain ⟨hcode, hini, hy, hlk⟩ := hF
  obtain ⟨-, r, hr, -, cell, q1, q2, q3, -⟩ := mm_obj hT.1 hk hci
  have hkn := (hCx.1.1 ci _ hcl).2.1
  have hpre : PreV s H y.cls b (va_Pc ((.inr (some b) :: vs).map mm_v) (fun U => mm_Cx G U ∧ mm_H G M U.heap)) (vs.map mm_v) := ⟨mm_blind, ⟨cell, q1, by rw [q3]; rfl, by rw [q2]; exact hkn⟩, mm_pre (vs := .inr (some b) :: vs) hJ0 hT⟩
  have hstk : ((vs.reverse ++ .inr (some b) :: st).map mm_v) = (vs.map mm_v).reverse ++ .ref b :: st.map mm_v := by
    rw [List.map_append, List.map_reverse]
    rfl
  have hroom : 2 * (F0 m pc la ((vs.reverse ++ .inr (some b) :: st).map mm_v)).monitorRoom + ((st.map mm_v).map fun v => v.category).sum ≤ 8 := lv_room (by rw [mm_sumcat]; exact hlen)
  rcases hlk with h | ⟨host, h⟩
  · have cw : CallW Y.2.2.2.2.2 s args Y.2.1 y.cls idx y Yc.1 Yc.2.2.1 Yc.2.2.2.1 (mm_ws y Yc) Yc.2.2.2.2.2 Yc.2.2.2.2.2.cells Yc.2.2.2.2.2.slots vs.length := ⟨callB_of _ hts (mm_wsB hcode) rfl rfl rfl (hts _ hini) (hts _ h) hy hR, hts _ h1, hts _ h2⟩
    exact mm_ret (va_runV (Ts := mm_B) ⟨hx, hb, hml, hown, hts⟩ hOk cw hpre rfl (by simp) hL.1 hstk hroom hd ⟨by omega, by omega⟩) hJ0 hT hL hc hs kk
  · have cw : va_CN Y.2.2.2.2.2 s args Y.2.1 idx y host Yc.1 Yc.2.2.1 Yc.2.2.2.1 (mm_ws y Yc) Yc.2.2.2.2.2 Yc.2.2.2.2.2.cells Yc.2.2.2.2.2.slots vs.length := va_cnB _ hts (mm_wsB hcode) rfl rfl rfl (hCx.2.2.1 _ h) (hts _ hini) hy hR
    exact mm_ret (va_runVN (Ts := mm_B) ⟨hx, hb, hml, hown, hts⟩ hOk ⟨cw, hts _ h1, hts _ h2⟩ hpre rfl (by simp) hL.1 hstk hroom hd ⟨by omega, by omega⟩) hJ0 hT hL hc hs kk
theorem mr_callI {idx b : Nat} {y : MethodName} {Yc : mm_Y} {vs : List mm_V} {st0 : List mm_V} {o : Option Nat} {K' : Option mm_V → mm_M → Prop} (hF : mm_Fc Y.2.1 idx y Yc vs.length) (h1 : Cond.instanceMethod y ∈ mm_B) (h2 : y.name = "<init>" ∧ Yc.2.2.2.1 = none) (hd : decode Y.1 pc = .ok (.invokespecial idx, 3)) (hR : mm_Rm Y.2.2.2.2.2 Yc.2.2.2.2.2 Yc.2.2.1) (hst : st0 = vs.reverse ++ .inr o :: st) (hlen : st.length ≤ 8) (ho : o = some b) (hOk : mm_Ok l G y Yc (.inr (some b) :: vs) M K')
    (kk : ∀ r M1, mm_X M M1 → K' r M1 → mm_Zq l G Y Ex Qf M0 bc bs (pc + 3) ls (r.toList ++ st) M1) : mm_Zq l G Y Ex Qf M0 (bc + Yc.2.2.2.2.2.cells) (bs + Yc.2.2.2.2.2.slots) pc ls st0 M := by
  subst hst ho
  intro p e s m args below meth c H locs cells slots la hJ hT hL hc hs
  have hJ0 := hJ
  obtain ⟨hx, hb, hml, -, -, -, hown, hts, hCx, hsz⟩ := hJ
  obtain ⟨hcode, hini, hy, hlk⟩ := hF
  have hpre : PreS s H (va_Pc ((.inr (some b) :: vs).map mm_v) (fun U => mm_Cx G U ∧ mm_H G M U.heap)) (.ref b :: vs.map mm_v) := ⟨mm_blind, mm_pre (vs := .inr (some b) :: vs) hJ0 hT⟩
  have hstk : ((vs.reverse ++ .inr (some b) :: st).map mm_v) = (vs.map mm_v).reverse ++ .ref b :: st.map mm_v := by
    rw [List.map_append, List.map_reverse]
    rfl
  have hroom : 2 * (F0 m pc la ((vs.reverse ++ .inr (some b) :: st).map mm_v)).monitorRoom + ((st.map mm_v).map fun v => v.category).sum ≤ 8 := lv_room (by rw [mm_sumcat]; exact hlen)
  rcases hlk with h | ⟨host, h⟩
  · have cw : CallB Y.2.2.2.2.2 s args Y.2.1 idx y Yc.1 Yc.2.2.1 none (mm_ws y Yc) Yc.2.2.2.2.2 Yc.2.2.2.2.2.cells Yc.2.2.2.2.2.slots vs.length := h2.2 ▸ callB_of _ hts (mm_wsB hcode) rfl rfl rfl (hts _ hini) (hts _ h) hy hR
    exact mm_ret (va_runI (Ts := mm_B) ⟨hx, hb, hml, hown, hts⟩ hOk ⟨cw, h2.1, hts _ h1⟩ hpre rfl (by simp) hL.1 hstk hroom hd ⟨by omega, by omega⟩) hJ0 hT hL hc hs kk
  · have cw : va_CN Y.2.2.2.2.2 s args Y.2.1 idx y host Yc.1 Yc.2.2.1 none (mm_ws y Yc) Yc.2.2.2.2.2 Yc.2.2.2.2.2.cells Yc.2.2.2.2.2.slots vs.length := h2.2 ▸ va_cnB _ hts (mm_wsB hcode) rfl rfl rfl (hCx.2.2.1 _ h) (hts _ hini) hy hR
    exact mm_ret (va_runIN (Ts := mm_B) ⟨hx, hb, hml, hown, hts⟩ hOk ⟨cw, h2.1, hts _ h1⟩ hpre rfl (by simp) hL.1 hstk hroom hd ⟨by omega, by omega⟩) hJ0 hT hL hc hs kk
theorem mr_callS {idx : Nat} {y : MethodName} {Yc : mm_Y} {vs : List mm_V} {st0 : List mm_V} {K' : Option mm_V → mm_M → Prop} (hF : mm_Fc Y.2.1 idx y Yc vs.length) (h1 : Cond.static y ∈ mm_B) (hd : decode Y.1 pc = .ok (.invokestatic idx, 3)) (hR : mm_Rm Y.2.2.2.2.2 Yc.2.2.2.2.2 Yc.2.2.1) (hst : st0 = vs.reverse ++ st) (hlen : st.length ≤ 8) (hOk : mm_Ok l G y Yc vs M K')
    (kk : ∀ r M1, mm_X M M1 → K' r M1 → mm_Zq l G Y Ex Qf M0 bc bs (pc + 3) ls (r.toList ++ st) M1) : mm_Zq l G Y Ex Qf M0 (bc + Yc.2.2.2.2.2.cells) (bs + Yc.2.2.2.2.2.slots) pc ls st0 M := by
  subst hst
  intro p e s m args below meth c H locs cells slots la hJ hT hL hc hs
  have hJ0 := hJ
  obtain ⟨hx, hb, hml, -, -, -, hown, hts, hCx, hsz⟩ := hJ
  obtain ⟨hcode, hini, hy, hlk⟩ := hF
  have hpre : PreS s H (va_Pc (vs.map mm_v) (fun U => mm_Cx G U ∧ mm_H G M U.heap)) (vs.map mm_v) := ⟨mm_blind, mm_pre (vs := vs) hJ0 hT⟩
  have hstk : ((vs.reverse ++ st).map mm_v) = (vs.map mm_v).reverse ++ st.map mm_v := by
    rw [List.map_append, List.map_reverse]
  have hroom : 2 * (F0 m pc la ((vs.reverse ++ st).map mm_v)).monitorRoom + ((st.map mm_v).map fun v => v.category).sum ≤ 8 := lv_room (by rw [mm_sumcat]; exact hlen)
  rcases hlk with h | ⟨host, h⟩
  · have cw : CallB Y.2.2.2.2.2 s args Y.2.1 idx y Yc.1 Yc.2.2.1 Yc.2.2.2.1 (mm_ws y Yc) Yc.2.2.2.2.2 Yc.2.2.2.2.2.cells Yc.2.2.2.2.2.slots vs.length := callB_of _ hts (mm_wsB hcode) rfl rfl rfl (hts _ hini) (hts _ h) hy hR
    exact mm_ret (va_runS (Ts := mm_B) ⟨hx, hb, hml, hown, hts⟩ hOk ⟨cw, hts _ h1⟩ hpre rfl (by simp) hL.1 hstk hroom hd ⟨by omega, by omega⟩) hJ0 hT hL hc hs kk
  · have cw : va_CN Y.2.2.2.2.2 s args Y.2.1 idx y host Yc.1 Yc.2.2.1 Yc.2.2.2.1 (mm_ws y Yc) Yc.2.2.2.2.2 Yc.2.2.2.2.2.cells Yc.2.2.2.2.2.slots vs.length := va_cnB _ hts (mm_wsB hcode) rfl rfl rfl (hCx.2.2.1 _ h) (hts _ hini) hy hR
    exact mm_ret (va_runSN (Ts := mm_B) ⟨hx, hb, hml, hown, hts⟩ hOk ⟨cw, hts _ h1, trivial⟩ hpre rfl (by simp) hL.1 hstk hroom hd ⟨by omega, by omega⟩) hJ0 hT hL hc hs kk
theorem mr_obji {idx : Nat} {x : Option Nat} (hd : decode Y.1 pc = .ok (.invokespecial idx, 3)) (h1 : Cond.methodLink Y.2.1 idx Lib.objectInit ∈ mm_B) (h2 : Cond.instanceMethod Lib.objectInit ∈ mm_B) (h3 : Cond.code Lib.objectInit ⟨#[0xb1]⟩ 1 none ∈ mm_B) (hR : 1 ≤ Y.2.2.2.2.2.frames ∧ st.length + 12 ≤ Y.2.2.2.2.2.locals) {a : Nat} (ho : x = some a)
    (kk : mm_Zq l G Y Ex Qf M0 bc bs (pc + 3) ls st M) : mm_Zq l G Y Ex Qf M0 bc bs pc ls (.inr x :: st) M := by
  subst ho
  intro p e s m args below meth c H locs cells slots la hJ hT hL hc hs
  have k1 := kk p e s m args below meth c H locs cells slots la hJ hT hL hc hs
  obtain ⟨hx, hb, hml, -, -, -, hown, hts, hCx, hsz⟩ := hJ
  exact W.objInit hx hb hown (hts _ h1) (hts _ h2) (hts _ h3) rfl (by rw [hml]; exact hL.1) rfl hd hR.1 (by show 2 * 0 + ((st.map mm_v).map fun v => v.category).sum + 12 ≤ _; rw [mm_sumcat]; omega) k1
theorem mr_mmax {idx : Nat} {x y : Int32} (hd : decode Y.1 pc = .ok (.invokestatic idx, 3)) (h1 : Cond.methodLink Y.2.1 idx Lib.Math.max.name ∈ mm_B) (h2 : Cond.static Lib.Math.max.name ∈ mm_B) (h3 : Cond.initialized "java/lang/Math" ∈ mm_B) (h4 : Cond.code Lib.Math.max.name Lib.Math.max.code 2 (some .int) ∈ mm_B) (hR : 1 ≤ Y.2.2.2.2.2.frames ∧ st.length + 13 ≤ Y.2.2.2.2.2.locals)
    (kk : mm_Zq l G Y Ex Qf M0 bc bs (pc + 3) ls (.inl (if x < y then y else x) :: st) M) : mm_Zq l G Y Ex Qf M0 bc bs pc ls (.inl y :: .inl x :: st) M := by
  intro p e s m args below meth c H locs cells slots la hJ hT hL hc hs
  have k1 := kk p e s m args below meth c H locs cells slots la hJ hT hL hc hs
  obtain ⟨hx, hb, hml, -, -, -, hown, hts, hCx, hsz⟩ := hJ
  exact va_mmax hx hb (by rw [hml]; exact hL.1.symm) hown (hts _ h1) (hts _ h2) (hts _ h3) (hts _ h4) hR.1 (by rw [mm_sumcat]; exact hR.2) (by omega) (by omega) hd k1
theorem mr_mmin {idx : Nat} {x y : Int32} (hd : decode Y.1 pc = .ok (.invokestatic idx, 3)) (h1 : Cond.methodLink Y.2.1 idx Lib.Math.min.name ∈ mm_B) (h2 : Cond.static Lib.Math.min.name ∈ mm_B) (h3 : Cond.initialized "java/lang/Math" ∈ mm_B) (h4 : Cond.code Lib.Math.min.name Lib.Math.min.code 2 (some .int) ∈ mm_B) (hR : 1 ≤ Y.2.2.2.2.2.frames ∧ st.length + 13 ≤ Y.2.2.2.2.2.locals)
    (kk : mm_Zq l G Y Ex Qf M0 bc bs (pc + 3) ls (.inl (if y < x then y else x) :: st) M) : mm_Zq l G Y Ex Qf M0 bc bs pc ls (.inl y :: .inl x :: st) M := by
  intro p e s m args below meth c H locs cells slots la hJ hT hL hc hs
  have k1 := kk p e s m args below meth c H locs cells slots la hJ hT hL hc hs
  obtain ⟨hx, hb, hml, -, -, -, hown, hts, hCx, hsz⟩ := hJ
  exact va_mmin hx hb (by rw [hml]; exact hL.1.symm) hown (hts _ h1) (hts _ h2) (hts _ h3) (hts _ h4) hR.1 (by rw [mm_sumcat]; exact hR.2) (by omega) (by omega) hd k1
end RW3
