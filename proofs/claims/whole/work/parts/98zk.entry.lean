/-! THE LAW'S ENTRY -/
section SZK
variable {s : State} {args : Array Value}
theorem wn_of {w : Cond} (hw : mm_isN w = true) (h : w.before args s = true) : va_Nw w s := by
  unfold mm_isN at hw
  split at hw
  · exact va_any rfl h
  · exact va_any rfl h
  · exact va_any rfl h
  · exact va_any rfl h
  · exact h
  · cases hw
theorem cl_of (hts : ∀ w ∈ mm_B, w.before args s = true) : ∃ D : va_G, ∀ (c : Nat) (q : vw_C), vwCl[c]? = some q → u_Kn s q.1 q.2.1 q.2.2 (D.1 c) (D.2 c) := by
  have h : ∀ c : Nat, ∃ (cC : ClassId) (iS : Nat → Nat), ∀ q : vw_C, vwCl[c]? = some q → u_Kn s q.1 q.2.1 q.2.2 cC iS := by
    intro c
    match c with
    | 0 => obtain ⟨cC, iS, h⟩ := u_known hts uw_0 (hts _ tb_19); exact ⟨cC, iS, fun q hq => by cases Option.some.inj hq; exact h⟩
    | 1 => obtain ⟨cC, iS, h⟩ := u_known hts uw_1 (hts _ tb_27); exact ⟨cC, iS, fun q hq => by cases Option.some.inj hq; exact h⟩
    | 2 => obtain ⟨cC, iS, h⟩ := u_known hts uw_2 (hts _ tb_33); exact ⟨cC, iS, fun q hq => by cases Option.some.inj hq; exact h⟩
    | 3 => obtain ⟨cC, iS, h⟩ := u_known hts uw_3 (hts _ tb_68); exact ⟨cC, iS, fun q hq => by cases Option.some.inj hq; exact h⟩
    | 4 => obtain ⟨cC, iS, h⟩ := u_known hts uw_4 (hts _ tb_83); exact ⟨cC, iS, fun q hq => by cases Option.some.inj hq; exact h⟩
    | 5 => obtain ⟨cC, iS, h⟩ := u_known hts uw_5 (hts _ tb_112); exact ⟨cC, iS, fun q hq => by cases Option.some.inj hq; exact h⟩
    | 6 => obtain ⟨cC, iS, h⟩ := u_known hts uw_6 (hts _ tb_411); exact ⟨cC, iS, fun q hq => by cases Option.some.inj hq; exact h⟩
    | 7 => obtain ⟨cC, iS, h⟩ := u_known hts uw_7 (hts _ tb_474); exact ⟨cC, iS, fun q hq => by cases Option.some.inj hq; exact h⟩
    | 8 => obtain ⟨cC, iS, h⟩ := u_known hts uw_8 (hts _ tb_625); exact ⟨cC, iS, fun q hq => by cases Option.some.inj hq; exact h⟩
    | n + 9 => exact ⟨0, fun _ => 0, fun q hq => by cases hq⟩
  exact ⟨(fun c => Classical.choose (h c), fun c => Classical.choose (Classical.choose_spec (h c))), fun c q hq => Classical.choose_spec (Classical.choose_spec (h c)) q hq⟩
theorem ar_c {ty : FieldType} (h : (Cond.arrayClass ty).before args s = true) : ∃ cA, ArrOfT s cA ty ∧ s.vm.findClass ("[" ++ ty.toString) = some cA := by
  obtain ⟨cA, kA, comp, h1, h2, h3⟩ := Cond.arrayClass_spec h
  exact ⟨cA, fun n z => ⟨fun k h => (by cases h), kA, h2, comp, h3⟩, h1⟩
theorem ar_o {C : String} (h : (Cond.arrayOver (.object C)).before args s = true) : ∃ cA, ArrOfT s cA (.object C) ∧ va_RA s cA (.object C) := by
  obtain ⟨comp, cA, kA, h1, -, h3, h4, h5⟩ := Cond.arrayOver_spec h
  exact ⟨cA, fun n z => ⟨fun k h => (by cases h), kA, h3, comp, h4⟩, kA, comp, h3, h4, h1, h5⟩
theorem small_of {t : Term} {v : Value} {a : Nat} {cell : Cell} (h : (Term.length t).eval args s none [] s = some v) (h1 : t.eval args s none [] s = some (.ref a)) (h2 : s.arrayAt? a = some cell) : cell.slots.size < 2 ^ 31 := by
  refine Classical.byContradiction (fun w => ?_)
  have e : (Term.length t).eval args s none [] s = none := by
    simp only [Term.eval, h1, h2, Option.bind_eq_bind, Option.bind_some]
    exact if_neg w
  rw [e] at h
  cases h
theorem k_of {D : va_G} {E : Nat → ClassId} (hD : ∀ (c : Nat) (q : vw_C), vwCl[c]? = some q → u_Kn s q.1 q.2.1 q.2.2 (D.1 c) (D.2 c)) (h0 : ArrOfT s (E 0) .int ∧ va_RA s (E 0) .int) (h1 : ArrOfT s (E 1) .boolean ∧ va_RA s (E 1) .boolean) (h2 : ArrOfT s (E 2) (.object "java/lang/Object") ∧ va_RA s (E 2) (.object "java/lang/Object")) (h3 : ArrOfT s (E 3) (.object "ProcessHeaps$HeapObject") ∧ va_RA s (E 3) (.object "ProcessHeaps$HeapObject")) (h4 : ArrOfT s (E 4) (.object "ProcessHeaps$HeapProcess") ∧ va_RA s (E 4) (.object "ProcessHeaps$HeapProcess")) (h5 : ArrOfT s (E 5) (.object "java/lang/Object") ∧ va_RA s (E 5) (.object "java/lang/Object")) : va_K D vwCl (mm_tys E) s := by
  refine ⟨hD, fun k q hq => ?_⟩
  match k with
  | 0 => cases Option.some.inj hq; exact h0
  | 1 => cases Option.some.inj hq; exact h1
  | 2 => cases Option.some.inj hq; exact h2
  | 3 => cases Option.some.inj hq; exact h3
  | 4 => cases Option.some.inj hq; exact h4
  | 5 => cases Option.some.inj hq; exact h5
  | n + 6 => cases hq
theorem whole_start (l : Launch) {p : Program} {e : Env} {s : State} {m : MethodId} {below : List Frame} {meth : Method} {c : Code} {b L : Nat} {xs : Nat → Int32} (hL : L ≤ 2561) (h : lw_At p s m meth c b L xs) : W p l e room_1 s m #[Value.ref b] below meth c s.heap [] 0 0 (lw_Z below #[Value.ref b] s) (entryFrame m ([Value.ref b] : List Value).toArray 4) := by
  obtain ⟨hx, hb, hr, hml, hown, hts, ⟨scr, sc1, sc2, sc3, sc4, sc5⟩, hbl, hlk, hgv⟩ := h
  have hs := flat_of_before _ hgv
  have harr : (Cond.arrayOf (Term.static "java/util/ArrayList" "DEFAULTCAPACITY_EMPTY_ELEMENTDATA" "[Ljava/lang/Object;") (.object "java/lang/Object")).before #[Value.ref b] s = true := hs _ (by decide +kernel)
  have hex : (Cond.exactly (Term.static "java/util/ArrayList" "DEFAULTCAPACITY_EMPTY_ELEMENTDATA" "[Ljava/lang/Object;") "[Ljava/lang/Object;").before #[Value.ref b] s = true := hs _ (by decide +kernel)
  have hle : (Cond.eq (.length (Term.static "java/util/ArrayList" "DEFAULTCAPACITY_EMPTY_ELEMENTDATA" "[Ljava/lang/Object;")) (.int 0)).before #[Value.ref b] s = true := hs _ (by decide +kernel)
  have hmi : (Cond.isRef (.mirror "[Ljava/lang/Object;")).before #[Value.ref b] s = true := hs _ (by decide +kernel)
  have hB : ∀ w ∈ mm_B, w.before #[Value.ref b] s = true := fun w hw => hts w (List.mem_filter.mp hw).1
  have hNw : ∀ w ∈ lw_tbl.filter mm_isN, va_Nw w s := fun w hw => wn_of (List.mem_filter.mp hw).2 (hts w (List.mem_filter.mp hw).1)
  have hlay : (Cond.laysStatic "java/util/ArrayList" "DEFAULTCAPACITY_EMPTY_ELEMENTDATA" "[Ljava/lang/Object;").before #[Value.ref b] s = true := hts _ (List.mem_append_right _ (by decide +kernel))
  obtain ⟨ea, eC, eq1, eq2, eq3⟩ := Term.length_spec (va_eqt hle)
  obtain ⟨ec1, ec2, ec3, -⟩ := State.arrayAt?_spec eq2
  obtain ⟨ho, -⟩ := Cond.arrayOf_spec harr eq1 ec1
  have hz0 : eC.slots.size = 0 := by
    have e0 := Value.int.inj eq3
    have hsm := small_of (va_eqt hle) eq1 eq2
    exact ((nI_eq (by decide) hsm).mp e0).symm
  obtain ⟨a', cX, eC', kX, x1, x2, x3, x4, x5, x6, -⟩ := Cond.exactly_spec hex
  obtain ⟨D, hD⟩ := cl_of hB
  obtain ⟨cI, i1, i2⟩ := ar_c (hB _ tb_101)
  obtain ⟨cZ, z1, z2⟩ := ar_c (hB _ tb_102)
  obtain ⟨cO, o1, o2⟩ := ar_o (hNw _ tn_336)
  obtain ⟨cH, h1, h2⟩ := ar_o (hNw _ tn_74)
  obtain ⟨cP, p1, p2⟩ := ar_o (hNw _ tn_104)
  obtain ⟨mi, hMi⟩ := va_Mi.of hmi
  have eC1 : ea = a' := by
    have := eq1.symm.trans x1
    exact Value.ref.inj (Option.some.inj this)
  subst eC1
  have eC2 : eC = eC' := Option.some.inj (ec1.symm.trans x3)
  subst eC2
  have hcO : eC.cls = cO := by
    have w := va_nmO o2 (nm := "[Ljava/lang/Object;") (by decide +kernel)
    rw [x6]
    exact Option.some.inj (x2.symm.trans w)
  have hne : ea ≠ b := fun w => by
    subst w
    have w2 : eC = scr := Option.some.inj (ec1.symm.trans sc1)
    subst w2
    obtain ⟨-, k1, a1, comp1, a2⟩ := ho
    obtain ⟨-, k2, a3, comp2, a4⟩ := sc2
    have w3 := Option.some.inj (a1.symm.trans a3)
    subst w3
    rw [a2] at a4
    cases a4
  have hel : ea < s.heap.size := (Array.getElem?_eq_some_iff.mp ec1).1
  let E : Nat → ClassId := fun i => match i with
    | 0 => cI | 1 => cZ | 2 => cO | 3 => cH | 4 => cP | 5 => cO | _ => scr.cls
  let G : mm_G := (D, E, s.heap.size, ea, mi)
  let M : mm_M := (fun a => if a = ea then 105 else if a = b then 106 else 0, fun a => if a = ea then 0 else L, fun a j => xs j, fun _ _ => none, s.heap.size)
  have hst : st_0 G b L xs M := ⟨fun a => rfl, if_pos rfl, hel, hbl, hne, if_neg (fun w => hne w.symm), fun j _ => rfl⟩
  have hK : va_K G.1 vwCl (mm_tys G.2.1) s := k_of hD ⟨i1, i2⟩ ⟨z1, z2⟩ ⟨o1, o2⟩ ⟨h1, h2⟩ ⟨p1, p2⟩ ⟨o1, o2⟩
  have hCx : mm_Cx G s := ⟨hK, ⟨va_Zref hlay (hB _ tb_5) eq1 (fun a ha w => absurd ha (Nat.not_lt.mpr w)), hMi, fun n z => ⟨fun k h => (by cases h), sc2.2⟩⟩, hNw, Nat.le_refl _⟩
  have nst : ∀ (cell : Cell), cell.vm.isStatics = false → ∀ q, cell.vm ≠ .statics q := fun cell h q w => by rw [w] at h; cases h
  have hH : mm_H G M s.heap := by
    refine ⟨rfl, fun a ha => ?_⟩
    by_cases e1 : a = ea
    · subst e1
      refine Or.inr (Or.inr (Or.inl ⟨if_pos rfl, eC, ec1, hcO, nst eC ec3, ?_⟩))
      rw [hz0]
      exact (if_pos rfl).symm
    · by_cases e2 : a = b
      · subst e2
        refine Or.inr (Or.inr (Or.inr ⟨(if_neg e1).trans (if_pos rfl), scr, sc1, rfl, sc2.1, sc3, ?_, fun j hj => ?_⟩))
        · rw [sc4]
          exact (if_neg e1).symm
        · exact sc5 j (by rw [← show mm_l M a = L from if_neg e1]; exact hj)
      · exact absurd ((if_neg e1).trans (if_neg e2)) ha
  have hl := mm_L.entry [.inr (some b)] (n := 4) (Nat.le_of_ble_eq_true rfl)
  have hq := law_start (l := l) (M0 := M) hst hL
  have e0 : ([Value.ref b] : List Value) = [.inr (some b)].map mm_v := rfl
  rw [e0, lg_entry_eq]
  generalize (lg_sl ([.inr (some b)].map mm_v) ++ List.replicate (4 - (lg_sl ([.inr (some b)].map mm_v)).length) Slot.unset).toArray = la at hl ⊢
  have hl2 : mm_L la 4 [some (.inr (some b)), none, none, none] := hl.less (fun i v hi => by
    match i with
    | 0 => exact hi
    | 1 => cases hi
    | 2 => cases hi
    | 3 => cases hi
    | n + 4 => cases hi)
  exact hq p e s m _ below meth c s.heap [] 0 0 la ⟨hx, hb, hml, hr, hlk, (fun q => by cases q), hown, hB, hCx, rfl, rfl, Nat.le_refl _⟩ ⟨hH, va_S.rf, mm_X.rf M⟩ hl2 (Nat.le_of_ble_eq_true rfl) (Nat.le_of_ble_eq_true rfl)
end SZK
