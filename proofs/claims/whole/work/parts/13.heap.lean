/-! ROWS OF THE HEAP: fields, arrays, new cells, casts -/
/-- a field k of the class number ci, as the pool of own names it at idx: plain, or by the nest -/
def mm_Fg (own : String) (idx ci k : Nat) (C : String) (T : u_T) (N : Nat) : Prop :=
  ci < 99 ∧ vwCl[ci]? = some (C, T, N) ∧ k < N ∧ (∀ w ∈ u_ws C T N, w ∈ mm_B) ∧ ∃ ref : String, (Cond.fieldLink own idx ref (T k).2.1 (T k).2.2.1 ∈ mm_B ∨ ∃ host : String, Cond.fieldLinkNest own idx ref (T k).2.1 (T k).2.2.1 host ∈ lw_tbl.filter mm_isN) ∧ (ref = (T k).1 ∨ Cond.sameField ref (T k).1 (T k).2.1 (T k).2.2.1 ∈ mm_B)
/-- and of what may be put there -/
def mm_Fp (C : String) (T : u_T) (N : Nat) : Prop :=
  (∃ ty : Nat → FieldType, ∀ k, k < N → parseFieldDescriptor (T k).2.2.1 = some (ty k)) ∧ ∀ a, a < N → ∀ b, b < N → a ≠ b → (T a).2.1 ≠ (T b).2.1
theorem mm_obj {G : mm_G} {M : mm_M} {H : Heap} (hH : mm_H G M H) {a ci : Nat} (hk : mm_k M a = ci + 1) (hci : ci < 99) : G.2.2.1 ≤ a ∧ ∃ r : vw_C, vwCl[ci]? = some r ∧ mm_l M a = r.2.2 ∧ t_OB a (G.1.1 ci) r.2.2 (G.1.2 ci) H (mm_c M a) := by
  rcases hH.2 a (by rw [hk]; exact Nat.succ_ne_zero _) with ⟨h1, h2, h3⟩ | ⟨h1, -⟩ | ⟨h1, -⟩ | ⟨h1, -⟩
  · rw [hk] at h3
    exact ⟨h2, h3⟩
  · rw [hk] at h1
    omega
  · rw [hk] at h1
    omega
  · rw [hk] at h1
    omega
theorem mm_arr {G : mm_G} {M : mm_M} {H : Heap} (hH : mm_H G M H) {a t : Nat} (hk : mm_k M a = 100 + t) (ht : t < 5) : G.2.2.1 ≤ a ∧ H[a]? = some (arrV (G.2.1 t) (mm_l M a) (mm_c M a)) := by
  rcases hH.2 a (by rw [hk]; omega) with ⟨h1, -⟩ | ⟨h1, h2, h3, h4⟩ | ⟨h1, -⟩ | ⟨h1, -⟩
  · rw [hk] at h1
    omega
  · have e : mm_k M a - 100 = t := by omega
    rw [e] at h4
    exact ⟨h3, h4⟩
  · omega
  · omega
theorem mm_aro {G : mm_G} {M : mm_M} {H : Heap} (hH : mm_H G M H) {a : Nat} (hk : mm_k M a = 105) : ∃ cell : Cell, H[a]? = some cell ∧ cell.cls = G.2.1 5 ∧ (∀ q, cell.vm ≠ .statics q) ∧ cell.slots.size = mm_l M a := by
  rcases hH.2 a (by rw [hk]; omega) with ⟨h1, -⟩ | ⟨h1, h2, -⟩ | ⟨-, h⟩ | ⟨h1, -⟩
  · omega
  · omega
  · exact h
  · omega
theorem mm_ari {G : mm_G} {M : mm_M} {H : Heap} (hH : mm_H G M H) {a : Nat} (hk : mm_k M a = 106) : ∃ cell : Cell, H[a]? = some cell ∧ cell.cls = G.2.1 6 ∧ (∀ q, cell.vm ≠ .statics q) ∧ cell.vm ≠ .unknown ∧ cell.slots.size = mm_l M a ∧ ∀ j, j < mm_l M a → cell.slots[j]? = some (.int (mm_i M a j)) := by
  rcases hH.2 a (by rw [hk]; omega) with ⟨h1, -⟩ | ⟨h1, h2, -⟩ | ⟨h1, -⟩ | ⟨-, h⟩
  · omega
  · omega
  · omega
  · exact h
theorem mm_rsO {ci k : Nat} {r : vw_C} (hci : ci < 99) (hcl : vwCl[ci]? = some r) : mm_rs (ci + 1) k = mm_rd (r.2.1 k).2.2.1 := by
  unfold mm_rs
  rw [if_pos (show ci + 1 < 100 by omega), show ci + 1 - 1 = ci from rfl, hcl]
theorem mm_rsA {t k : Nat} (h2 : 2 ≤ t) : mm_rs (100 + t) k = true := by
  unfold mm_rs
  rw [if_neg (show ¬ 100 + t < 100 by omega)]
  simp
  omega
theorem mm_rs0 (k : Nat) : mm_rs 100 k = false := rfl
theorem mm_rs1 (k : Nat) : mm_rs 101 k = false := rfl
theorem mm_cI {M : mm_M} {a j : Nat} (h : mm_rs (mm_k M a) j = false) : mm_c M a j = .int (mm_i M a j) := by
  unfold mm_c
  rw [h]
  rfl
theorem mm_cR {M : mm_M} {a j : Nat} (h : mm_rs (mm_k M a) j = true) : mm_c M a j = va_rf (mm_p M a j) := by
  unfold mm_c
  rw [h]
  rfl
section RW2
variable {l : Launch} {G : mm_G} {Y : mm_Y} {K : Option mm_V → mm_M → Prop} {Ex : State → Array Value → Prop} {Qf : List Frame → Array Value → State → State → Prop} {M0 M : mm_M} {bc bs pc : Nat} {ls : List (Option mm_V)} {st : List mm_V}
theorem mr_get {idx ci k a : Nat} {C : String} {T : u_T} {N : Nat} {o : Option Nat} (hF : mm_Fg Y.2.1 idx ci k C T N) (hd : decode Y.1 pc = .ok (.getfield idx, 3)) (ho : o = some a) (hk : mm_k M a = ci + 1) (w : mm_V) (hw : mm_v w = mm_c M a k)
    (kk : mm_Zq l G Y Ex Qf M0 bc bs (pc + 3) ls (w :: st) M) : mm_Zq l G Y Ex Qf M0 bc bs pc ls (.inr o :: st) M := by
  subst ho
  intro p e s m args below meth c H locs cells slots la hJ hT hL hc hs
  have k1 := kk p e s m args below meth c H locs cells slots la hJ hT hL hc hs
  obtain ⟨hci, hcl, hkN, hin, ref, hlk, hsm⟩ := hF
  obtain ⟨hba, r, hr, hl, hob⟩ := mm_obj hT.1 hk hci
  have hre : r = (C, T, N) := Option.some.inj (hr.symm.trans hcl)
  subst hre
  obtain ⟨hx, hb, -, -, -, -, hown, hts, ⟨hK, -, hN, -⟩, -⟩ := hJ
  have hv : ((List.range N).map (mm_c M a))[k]? = some (mm_v w) := by
    rw [hw, List.getElem?_map, List.getElem?_range hkN]
    rfl
  have hP : va_P G.1 vwCl [(a, .inr (ci, (List.range N).map (mm_c M a)))] H := by
    intro j q hj
    have hz : j < 1 := (List.getElem?_eq_some_iff.mp hj).1
    rw [show j = 0 by omega] at hj
    cases hj
    refine ⟨_, hcl, hob.to (fun i hi => ?_)⟩
    simp [vp_V, List.getElem?_range hi]
  have hsame : ∀ x, s.fieldFound? (T k).1 (T k).2.1 (T k).2.2.1 = some x → s.fieldFound? ref (T k).2.1 (T k).2.2.1 = some x := by
    rcases hsm with h | h
    · intro x hx'
      rw [h]
      exact hx'
    · exact fun x hx' => u_same (hts _ h) x hx'
  rcases hlk with h | ⟨host, h⟩
  · exact va_get (D := G.1) (ci := ci) (v := mm_v w) hx hb hts hin hown hK hP 0 rfl hcl k hkN (hts _ h) hsame hv hd k1
  · exact va_getN (D := G.1) (ci := ci) (v := mm_v w) hx hb hts hin hown hK hP 0 rfl hcl k hkN (va_Nw.use rfl (hN _ h)) hsame hv hd k1
theorem mr_geti {idx ci k a : Nat} {C : String} {T : u_T} {N : Nat} {o : Option Nat} (hF : mm_Fg Y.2.1 idx ci k C T N) (hd : decode Y.1 pc = .ok (.getfield idx, 3)) (hrs : mm_rs (ci + 1) k = false) (ho : o = some a) (hk : mm_k M a = ci + 1)
    (kk : mm_Zq l G Y Ex Qf M0 bc bs (pc + 3) ls (.inl (mm_i M a k) :: st) M) : mm_Zq l G Y Ex Qf M0 bc bs pc ls (.inr o :: st) M :=
  mr_get hF hd ho hk (.inl (mm_i M a k)) (by unfold mm_c; rw [hk, hrs]; rfl) kk
theorem mr_getr {idx ci k a : Nat} {C : String} {T : u_T} {N : Nat} {o : Option Nat} (hF : mm_Fg Y.2.1 idx ci k C T N) (hd : decode Y.1 pc = .ok (.getfield idx, 3)) (hrs : mm_rs (ci + 1) k = true) (ho : o = some a) (hk : mm_k M a = ci + 1)
    (kk : mm_Zq l G Y Ex Qf M0 bc bs (pc + 3) ls (.inr (mm_p M a k) :: st) M) : mm_Zq l G Y Ex Qf M0 bc bs pc ls (.inr o :: st) M :=
  mr_get hF hd ho hk (.inr (mm_p M a k)) (by unfold mm_c; rw [hk, hrs]; rfl) kk
theorem mr_put {idx ci k a : Nat} {C : String} {T : u_T} {N : Nat} {o : Option Nat} {w : mm_V} {M1 : mm_M} (hF : mm_Fg Y.2.1 idx ci k C T N) (hP : mm_Fp C T N) (hfin : (T k).2.2.2 = false ∨ (Y.2.2.2.2.1 = true ∧ (T k).1 = Y.2.1 ∧ Cond.fieldLink Y.2.1 idx (T k).1 (T k).2.1 (T k).2.2.1 ∈ mm_B)) (hd : decode Y.1 pc = .ok (.putfield idx, 3)) {ty : FieldType} (hty : parseFieldDescriptor (T k).2.2.1 = some ty) (hn : narrow ty (mm_v w) = mm_v w) (hfit : fits ty (mm_v w) = true) (ho : o = some a) (hk : mm_k M a = ci + 1)
    (e0 : mm_z M1 = mm_z M) (e1 : ∀ b, mm_k M1 b = mm_k M b) (e2 : ∀ b, mm_l M1 b = mm_l M b) (e3 : ∀ b, b ≠ a → ∀ j, mm_i M1 b j = mm_i M b j) (e4 : ∀ b, b ≠ a → ∀ j, mm_p M1 b j = mm_p M b j) (e5 : ∀ j, j ≠ k → mm_c M1 a j = mm_c M a j) (e6 : mm_c M1 a k = mm_v w)
    (kk : mm_Zq l G Y Ex Qf M0 bc bs (pc + 3) ls st M1) : mm_Zq l G Y Ex Qf M0 bc bs pc ls (w :: .inr o :: st) M := by
  subst ho
  intro p e s m args below meth c H locs cells slots la hJ hT hL hc hs
  have hJ0 := hJ
  obtain ⟨hci, hcl, hkN, hin, ref, hlk, hsm⟩ := hF
  obtain ⟨hba, r, hr, hl, hob⟩ := mm_obj hT.1 hk hci
  have hre : r = (C, T, N) := Option.some.inj (hr.symm.trans hcl)
  subst hre
  obtain ⟨hx, hb, -, -, -, hini, hown, hts, ⟨hK, -, hNn, -⟩, -⟩ := hJ
  obtain ⟨⟨ty0, hty0⟩, hnm⟩ := hP
  have hap := va_apart (own := Y.2.1) hts hin ty0 hty0 hnm hK hcl
  obtain ⟨cell, q1, q2, q3, q4⟩ := hob
  obtain ⟨hS, hfc, kC, hkC, hkind⟩ := hK.1 ci _ hcl
  obtain ⟨cf, kf, fi, f, hi, hsl⟩ := hS k hkN
  have hst := (u_facts hfc hkC (u_lays hts hin hkN) hi).1
  have hlay := hts _ (hin _ (u_in_lay hkN))
  have hsame : ∀ x, s.fieldFound? (T k).1 (T k).2.1 (T k).2.2.1 = some x → s.fieldFound? ref (T k).2.1 (T k).2.2.1 = some x := by
    rcases hsm with h | h
    · intro x hx'
      rw [h]
      exact hx'
    · exact fun x hx' => u_same (hts _ h) x hx'
  have hA : mm_A G M0 a := mm_A.of hT.2.2 ⟨hba, Or.inl (by rw [hk]; exact Nat.succ_ne_zero _)⟩
  have fin : ∀ H' : Heap, H'[a]? = some (cell.setSlot f.slot (mm_v w)) → H'.size = H.size → (∀ q, q ≠ a → H'[q]? = H[q]?) → W p l e Y.2.2.2.2.2 s m args below meth c H' (locs ++ [⟨a, f.slot⟩]) cells slots (Qf below args s) (F0 m (pc + 3) la (st.map mm_v)) := by
    intro H' g1 g2 g3
    refine kk p e s m args below meth c H' _ cells slots la hJ0 ⟨hT.1.put g2 g3 e0 e1 e2 e3 e4 (Or.inl ⟨by rw [e1, hk]; omega, hba, ?_⟩), hT.2.1.put g2 g3 hA, ?_⟩ hL hc hs
    · rw [e1, hk]
      refine ⟨_, hcl, by rw [e2]; exact hl, t_OB.to (V := updV (mm_c M a) k (mm_v w)) ⟨_, g1, q2, q3, by rw [hsl]; exact t_set q4 hap hkN (mm_v w)⟩ (fun j _ => ?_)⟩
      by_cases hjk : j = k
      · subst hjk
        rw [e6]
        simp [updV]
      · rw [e5 j hjk]
        simp [updV, hjk]
    · refine ⟨by rw [e0]; exact hT.2.2.1, fun b hb => ?_, fun b hb => ?_⟩
      · rw [e1, e2]
        exact hT.2.2.2.1 b hb
      · rw [e1] at hb
        exact hT.2.2.2.2 b hb
  rcases hfin with hfin | ⟨hin1, hdecl, hlkF⟩
  · unfold u_lay at hlay
    rw [if_neg (by rw [hfin]; decide)] at hlay
    have h6 := u_store hfc hkC hkind hlay hi hty hn hfit
    rcases hlk with h | ⟨host, h⟩
    · exact W.putK hx hb (f := f) ⟨hown, hts _ h, ⟨_, _, _, hsame _ hi⟩, hst⟩ (by rw [q2]; exact h6) q1 q3 (by rw [hsl]; exact k2_hasslot (q4 k hkN)) rfl rfl hd fin
    · exact va_WputK hx hb (f := f) hown (va_Nw.use rfl (hNn _ h)) (hsame _ hi) hst (by rw [q2]; exact h6) q1 q3 (by rw [hsl]; exact k2_hasslot (q4 k hkN)) rfl rfl hd fin
  · by_cases hf2 : (T k).2.2.2 = true
    · unfold u_lay at hlay
      rw [if_pos hf2] at hlay
      have hcf : m.cls = cf := by
        obtain ⟨_, _, c', _, _, _, -, -, hf', -, -, -, hown2, -⟩ := Cond.laysFinal_spec hlay
        have z1 : c' = cf := by have := hi.symm.trans hf'; simp at this; exact this.1.symm
        rw [hdecl] at hown2
        rw [← z1]; exact Option.some.inj (hown.symm.trans hown2)
      have h6 := u_fits hfc hkC hkind (Or.inr hlay) hi hty hn hfit
      exact W.putFinK hx hb hown (hts _ hlkF) hi hst hcf (hini hin1) (by rw [q2]; exact h6) q1 q3 (by rw [hsl]; exact k2_hasslot (q4 k hkN)) rfl rfl hd fin
    · unfold u_lay at hlay
      rw [if_neg hf2] at hlay
      have h6 := u_store hfc hkC hkind hlay hi hty hn hfit
      exact W.putK hx hb (f := f) ⟨hown, hts _ hlkF, ⟨_, _, _, hi⟩, hst⟩ (by rw [q2]; exact h6) q1 q3 (by rw [hsl]; exact k2_hasslot (q4 k hkN)) rfl rfl hd fin
theorem mm_c_si {a ci k : Nat} {x : Int32} (hk : mm_k M a = ci + 1) (hrs : mm_rs (ci + 1) k = false) : (∀ j, j ≠ k → mm_c (mm_si M a k x) a j = mm_c M a j) ∧ mm_c (mm_si M a k x) a k = .int x := by
  refine ⟨fun j hj => ?_, ?_⟩
  · unfold mm_c
    have hn : ¬ (a = a ∧ j = k) := fun q => hj q.2
    rw [mm_k_si, mm_p_si, mm_i_si, if_neg hn]
  · rw [mm_cI (by rw [mm_k_si, hk]; exact hrs), mm_i_si, if_pos (⟨rfl, rfl⟩ : a = a ∧ k = k)]
theorem mm_c_sp {a ci k : Nat} {x : Option Nat} (hk : mm_k M a = ci + 1) (hrs : mm_rs (ci + 1) k = true) : (∀ j, j ≠ k → mm_c (mm_sp M a k x) a j = mm_c M a j) ∧ mm_c (mm_sp M a k x) a k = va_rf x := by
  refine ⟨fun j hj => ?_, ?_⟩
  · unfold mm_c
    have hn : ¬ (a = a ∧ j = k) := fun q => hj q.2
    rw [mm_k_sp, mm_i_sp, mm_p_sp, if_neg hn]
  · rw [mm_cR (by rw [mm_k_sp, hk]; exact hrs), mm_p_sp, if_pos (⟨rfl, rfl⟩ : a = a ∧ k = k)]
theorem mr_puti {idx ci k a : Nat} {C : String} {T : u_T} {N : Nat} {o : Option Nat} {x : Int32} (hF : mm_Fg Y.2.1 idx ci k C T N) (hP : mm_Fp C T N) (hfin : (T k).2.2.2 = false ∨ (Y.2.2.2.2.1 = true ∧ (T k).1 = Y.2.1 ∧ Cond.fieldLink Y.2.1 idx (T k).1 (T k).2.1 (T k).2.2.1 ∈ mm_B)) (hd : decode Y.1 pc = .ok (.putfield idx, 3)) (hty : parseFieldDescriptor (T k).2.2.1 = some .int ∨ (parseFieldDescriptor (T k).2.2.1 = some .boolean ∧ (x = 0 ∨ x = 1))) (hrs : mm_rs (ci + 1) k = false) (ho : o = some a) (hk : mm_k M a = ci + 1)
    (kk : mm_Zq l G Y Ex Qf M0 bc bs (pc + 3) ls st (mm_si M a k x)) : mm_Zq l G Y Ex Qf M0 bc bs pc ls (.inl x :: .inr o :: st) M := by
  have hc := mm_c_si (x := x) hk hrs
  rcases hty with hty | ⟨hty, hx⟩
  · exact mr_put (w := .inl x) (M1 := mm_si M a k x) hF hP hfin hd hty rfl rfl ho hk rfl (fun _ => rfl) (fun _ => rfl) (fun b hb j => by rw [mm_i_si, if_neg (fun q => hb q.1)]) (fun _ _ _ => rfl) hc.1 hc.2 kk
  · exact mr_put (w := .inl x) (M1 := mm_si M a k x) hF hP hfin hd hty (by rcases hx with rfl | rfl <;> decide) (by rcases hx with rfl | rfl <;> decide) ho hk rfl (fun _ => rfl) (fun _ => rfl) (fun b hb j => by rw [mm_i_si, if_neg (fun q => hb q.1)]) (fun _ _ _ => rfl) hc.1 hc.2 kk
theorem mr_putr {idx ci k a : Nat} {C : String} {T : u_T} {N : Nat} {o x : Option Nat} (hF : mm_Fg Y.2.1 idx ci k C T N) (hP : mm_Fp C T N) (hfin : (T k).2.2.2 = false ∨ (Y.2.2.2.2.1 = true ∧ (T k).1 = Y.2.1 ∧ Cond.fieldLink Y.2.1 idx (T k).1 (T k).2.1 (T k).2.2.1 ∈ mm_B)) (hd : decode Y.1 pc = .ok (.putfield idx, 3)) {ty : FieldType} (hty : parseFieldDescriptor (T k).2.2.1 = some ty) (hrt : (∃ n, ty = .object n) ∨ ∃ t, ty = .array t) (hrs : mm_rs (ci + 1) k = true) (ho : o = some a) (hk : mm_k M a = ci + 1)
    (kk : mm_Zq l G Y Ex Qf M0 bc bs (pc + 3) ls st (mm_sp M a k x)) : mm_Zq l G Y Ex Qf M0 bc bs pc ls (.inr x :: .inr o :: st) M := by
  have hc := mm_c_sp (x := x) hk hrs
  exact mr_put (w := .inr x) (M1 := mm_sp M a k x) hF hP hfin hd hty (by rcases hrt with ⟨n, rfl⟩ | ⟨t, rfl⟩ <;> cases x <;> rfl) (by rcases hrt with ⟨n, rfl⟩ | ⟨t, rfl⟩ <;> cases x <;> rfl) ho hk rfl (fun _ => rfl) (fun _ => rfl) (fun _ _ _ => rfl) (fun b hb j => by rw [mm_p_sp, if_neg (fun q => hb q.1)]) hc.1 hc.2 kk
-- arrays
theorem mm_tyAt (E : Nat → ClassId) {t : Nat} {ty : FieldType} (h : (mm_tys E)[t]? = some (E t, ty)) : (mm_tys E)[t]? = some (E t, ty) := h
theorem mm_ix {j n : Nat} (hm : j < 2147483648) (hj : j < n) : vp_in (nI j) n := by
  intro q
  rcases q with q | q
  · exact nI_pos (by omega) q
  · rw [nI_clamp (by omega)] at q
    omega
theorem mr_alen {a t : Nat} {o : Option Nat} {ty : FieldType} (hd : decode Y.1 pc = .ok (.arraylength, 1)) (ho : o = some a) (hk : mm_k M a = 100 + t) (h5 : t < 5) (ht : ∀ E, (mm_tys E)[t]? = some (E t, ty))
    (kk : mm_Zq l G Y Ex Qf M0 bc bs (pc + 1) ls (.inl (nI (mm_l M a)) :: st) M) : mm_Zq l G Y Ex Qf M0 bc bs pc ls (.inr o :: st) M := by
  subst ho
  intro p e s m args below meth c H locs cells slots la hJ hT hL hc hs
  have k1 := kk p e s m args below meth c H locs cells slots la hJ hT hL hc hs
  obtain ⟨-, hA⟩ := mm_arr hT.1 hk h5
  obtain ⟨hx, hb, -, -, -, -, hown, hts, ⟨hK, -, -, -⟩, -⟩ := hJ
  exact W.alen (n := Int32.ofNat (mm_l M a)) hx hb hA ((hK.2 t _ (ht G.2.1)).1 _ _) (by rw [arrV_size] <;> rfl) rfl rfl hd k1
theorem mr_aleno {a : Nat} {o : Option Nat} (hd : decode Y.1 pc = .ok (.arraylength, 1)) (ho : o = some a) (hk : mm_k M a = 105)
    (kk : mm_Zq l G Y Ex Qf M0 bc bs (pc + 1) ls (.inl (nI (mm_l M a)) :: st) M) : mm_Zq l G Y Ex Qf M0 bc bs pc ls (.inr o :: st) M := by
  subst ho
  intro p e s m args below meth c H locs cells slots la hJ hT hL hc hs
  have k1 := kk p e s m args below meth c H locs cells slots la hJ hT hL hc hs
  obtain ⟨cell, hA, hcl, hvm, hsz⟩ := mm_aro hT.1 hk
  obtain ⟨hx, hb, -, -, -, -, hown, hts, ⟨hK, -, -, -⟩, -⟩ := hJ
  obtain ⟨-, kA, hkA, comp, hkind⟩ := (hK.2 5 _ rfl).1 0 (fun _ => .null)
  exact W.alen (n := Int32.ofNat (mm_l M a)) (ty := .object "java/lang/Object") hx hb hA ⟨hvm, kA, by rw [hcl]; exact hkA, comp, hkind⟩ (by rw [hsz] <;> rfl) rfl rfl hd k1
theorem mr_alens {a : Nat} {o : Option Nat} (hd : decode Y.1 pc = .ok (.arraylength, 1)) (ho : o = some a) (hk : mm_k M a = 106)
    (kk : mm_Zq l G Y Ex Qf M0 bc bs (pc + 1) ls (.inl (nI (mm_l M a)) :: st) M) : mm_Zq l G Y Ex Qf M0 bc bs pc ls (.inr o :: st) M := by
  subst ho
  intro p e s m args below meth c H locs cells slots la hJ hT hL hc hs
  have k1 := kk p e s m args below meth c H locs cells slots la hJ hT hL hc hs
  obtain ⟨cell, hA, hcl, hvm, -, hsz, -⟩ := mm_ari hT.1 hk
  obtain ⟨hx, hb, -, -, -, -, hown, hts, ⟨-, hE, -, -⟩, -⟩ := hJ
  obtain ⟨-, kA, hkA, comp, hkind⟩ := hE.2.2 0 (fun _ => .null)
  exact W.alen (n := Int32.ofNat (mm_l M a)) (ty := .int) hx hb hA ⟨hvm, kA, by rw [hcl]; exact hkA, comp, hkind⟩ (by rw [hsz] <;> rfl) rfl rfl hd k1
theorem mr_ialds {a j : Nat} {o : Option Nat} {x : Int32} (hd : decode Y.1 pc = .ok (.iaload, 1)) (ho : o = some a) (hk : mm_k M a = 106) (hx : x = nI j) (hm : j < 2147483648) (hj : j < mm_l M a)
    (kk : mm_Zq l G Y Ex Qf M0 bc bs (pc + 1) ls (.inl (mm_i M a j) :: st) M) : mm_Zq l G Y Ex Qf M0 bc bs pc ls (.inl x :: .inr o :: st) M := by
  subst ho hx
  intro p e s m args below meth c H locs cells slots la hJ hT hL hc hs
  have k1 := kk p e s m args below meth c H locs cells slots la hJ hT hL hc hs
  obtain ⟨cell, hA, hcl, hvm, hun, hsz, hsl⟩ := mm_ari hT.1 hk
  obtain ⟨hx, hb, -, -, -, -, hown, hts, ⟨-, hE, -, -⟩, -⟩ := hJ
  obtain ⟨-, kA, hkA, comp, hkind⟩ := hE.2.2 0 (fun _ => .null)
  refine W.iald (v := .int (mm_i M a j)) hx hb hA ⟨hvm, kA, by rw [hcl]; exact hkA, comp, hkind⟩ hun (by rw [hsz]; exact mm_ix hm hj) (by rw [nI_clamp (by omega)]; exact hsl j hj) rfl rfl hd k1
theorem mr_iald {a j : Nat} {o : Option Nat} {x : Int32} (hd : decode Y.1 pc = .ok (.iaload, 1)) (ho : o = some a) (hk : mm_k M a = 100) (hx : x = nI j) (hm : j < 2147483648) (hj : j < mm_l M a)
    (kk : mm_Zq l G Y Ex Qf M0 bc bs (pc + 1) ls (.inl (mm_i M a j) :: st) M) : mm_Zq l G Y Ex Qf M0 bc bs pc ls (.inl x :: .inr o :: st) M := by
  subst ho hx
  intro p e s m args below meth c H locs cells slots la hJ hT hL hc hs
  have k1 := kk p e s m args below meth c H locs cells slots la hJ hT hL hc hs
  obtain ⟨-, hA⟩ := mm_arr (t := 0) hT.1 hk (by decide)
  obtain ⟨hx, hb, -, -, -, -, hown, hts, ⟨hK, -, -, -⟩, -⟩ := hJ
  have e1 : mm_c M a j = .int (mm_i M a j) := by unfold mm_c; rw [hk]; rfl
  refine W.iald (v := .int (mm_i M a j)) hx hb hA ((hK.2 0 _ rfl).1 _ _) (fun q => by cases q) (by rw [arrV_size]; exact mm_ix hm hj) (by rw [nI_clamp (by omega), arrV_read _ _ hj, e1]) rfl rfl hd k1
theorem mr_zald {a j : Nat} {o : Option Nat} {x : Int32} (hd : decode Y.1 pc = .ok (.baload, 1)) (ho : o = some a) (hk : mm_k M a = 101) (hx : x = nI j) (hm : j < 2147483648) (hj : j < mm_l M a)
    (kk : mm_Zq l G Y Ex Qf M0 bc bs (pc + 1) ls (.inl (mm_i M a j) :: st) M) : mm_Zq l G Y Ex Qf M0 bc bs pc ls (.inl x :: .inr o :: st) M := by
  subst ho hx
  intro p e s m args below meth c H locs cells slots la hJ hT hL hc hs
  have k1 := kk p e s m args below meth c H locs cells slots la hJ hT hL hc hs
  obtain ⟨-, hA⟩ := mm_arr (t := 1) hT.1 hk (by decide)
  obtain ⟨hx, hb, -, -, -, -, hown, hts, ⟨hK, -, -, -⟩, -⟩ := hJ
  have e1 : mm_c M a j = .int (mm_i M a j) := by unfold mm_c; rw [hk]; rfl
  refine W.zald (v := .int (mm_i M a j)) hx hb hA ((hK.2 1 _ rfl).1 _ _) (fun q => by cases q) (by rw [arrV_size]; exact mm_ix hm hj) (by rw [nI_clamp (by omega), arrV_read _ _ hj, e1]) rfl rfl hd k1
theorem mr_aald {a j t : Nat} {o : Option Nat} {x : Int32} {C : String} (hd : decode Y.1 pc = .ok (.aaload, 1)) (ho : o = some a) (hk : mm_k M a = 100 + t) (ht : ∀ E, (mm_tys E)[t]? = some (E t, .object C)) (h2 : 2 ≤ t ∧ t < 5) (hx : x = nI j) (hm : j < 2147483648) (hj : j < mm_l M a)
    (kk : mm_Zq l G Y Ex Qf M0 bc bs (pc + 1) ls (.inr (mm_p M a j) :: st) M) : mm_Zq l G Y Ex Qf M0 bc bs pc ls (.inl x :: .inr o :: st) M := by
  subst ho hx
  intro p e s m args below meth c H locs cells slots la hJ hT hL hc hs
  have k1 := kk p e s m args below meth c H locs cells slots la hJ hT hL hc hs
  obtain ⟨-, hA⟩ := mm_arr hT.1 hk h2.2
  obtain ⟨hx, hb, -, -, -, -, hown, hts, ⟨hK, -, -, -⟩, -⟩ := hJ
  have e1 : mm_c M a j = va_rf (mm_p M a j) := mm_cR (by rw [hk]; exact mm_rsA h2.1)
  refine W.aald (v := va_rf (mm_p M a j)) (ty := .object C) hx hb hA ((hK.2 t _ (ht G.2.1)).1 _ _) rfl (fun q => by cases q) (by rw [arrV_size]; exact mm_ix hm hj) (by rw [nI_clamp (by omega), arrV_read _ _ hj, e1]) rfl rfl hd k1
/-- an array's cell is written -/
theorem mm_T.arr {M1 : mm_M} {s : State} {H H1 : Heap} {locs : List Loc} {a t i : Nat} (hT : mm_T G M0 M s H locs) (hk : mm_k M a = 100 + t) (h5 : t < 5) (z : H1.size = H.size) (oq : ∀ q : Nat, q ≠ a → H1[q]? = H[q]?) (e0 : mm_z M1 = mm_z M) (e1 : ∀ b, mm_k M1 b = mm_k M b) (e2 : ∀ b, mm_l M1 b = mm_l M b) (e3 : ∀ b, b ≠ a → ∀ j, mm_i M1 b j = mm_i M b j) (e4 : ∀ b, b ≠ a → ∀ j, mm_p M1 b j = mm_p M b j) (ha : H1[a]? = some (arrV (G.2.1 t) (mm_l M a) (mm_c M1 a))) : mm_T G M0 M1 s H1 (locs ++ [⟨a, i⟩]) := by
  obtain ⟨hba, hA⟩ := mm_arr hT.1 hk h5
  refine ⟨hT.1.put z oq e0 e1 e2 e3 e4 (Or.inr (Or.inl ?_)), hT.2.1.put z oq (mm_A.of hT.2.2 ⟨hba, Or.inl (by rw [hk]; omega)⟩), ?_⟩
  · rw [e1, e2, hk]
    exact ⟨by omega, by omega, hba, by rw [show 100 + t - 100 = t by omega]; exact ha⟩
  · refine ⟨by rw [e0]; exact hT.2.2.1, fun b hb => ?_, fun b hb => ?_⟩
    · rw [e1, e2]
      exact hT.2.2.2.1 b hb
    · rw [e1] at hb
      exact hT.2.2.2.2 b hb
theorem mr_iast {a j : Nat} {o : Option Nat} {x y : Int32} (hd : decode Y.1 pc = .ok (.iastore, 1)) (ho : o = some a) (hk : mm_k M a = 100) (hx : x = nI j) (hm : j < 2147483648) (hj : j < mm_l M a)
    (kk : mm_Zq l G Y Ex Qf M0 bc bs (pc + 1) ls st (mm_si M a j y)) : mm_Zq l G Y Ex Qf M0 bc bs pc ls (.inl y :: .inl x :: .inr o :: st) M := by
  subst ho hx
  intro p e s m args below meth c H locs cells slots la hJ hT hL hc hs
  have hJ0 := hJ
  obtain ⟨-, hA⟩ := mm_arr (t := 0) hT.1 hk (by decide)
  obtain ⟨hx, hb, -, -, -, -, hown, hts, ⟨hK, -, -, -⟩, -⟩ := hJ
  refine W.iast hx hb hA ((hK.2 0 _ rfl).1 _ _) (fun q => by cases q) (by rw [arrV_size]; exact mm_ix hm hj) rfl rfl hd fun H1 g1 g2 g3 => ?_
  refine kk p e s m args below meth c H1 _ cells slots la hJ0 (hT.arr (t := 0) hk (by decide) g2 g3 rfl (fun _ => rfl) (fun _ => rfl) (fun b hb j' => by rw [mm_i_si, if_neg (fun q => hb q.1)]) (fun _ _ _ => rfl) ?_) hL hc hs
  rw [g1, arrV_store, nI_clamp (by omega)]
  congr 2
  funext q
  unfold updV mm_c
  rw [mm_k_si, hk, mm_p_si, mm_i_si]
  by_cases hq : q = j
  · subst hq
    simp [mm_rs]
  · simp [hq]
theorem mr_zast {a j : Nat} {o : Option Nat} {x y : Int32} (hd : decode Y.1 pc = .ok (.bastore, 1)) (ho : o = some a) (hk : mm_k M a = 101) (hx : x = nI j) (hm : j < 2147483648) (hj : j < mm_l M a) (hy : y = 0 ∨ y = 1)
    (kk : mm_Zq l G Y Ex Qf M0 bc bs (pc + 1) ls st (mm_si M a j y)) : mm_Zq l G Y Ex Qf M0 bc bs pc ls (.inl y :: .inl x :: .inr o :: st) M := by
  subst ho hx
  intro p e s m args below meth c H locs cells slots la hJ hT hL hc hs
  have hJ0 := hJ
  obtain ⟨-, hA⟩ := mm_arr (t := 1) hT.1 hk (by decide)
  obtain ⟨hx, hb, -, -, -, -, hown, hts, ⟨hK, -, -, -⟩, -⟩ := hJ
  refine W.zast hx hb hA ((hK.2 1 _ rfl).1 _ _) (fun q => by cases q) (by rw [arrV_size]; exact mm_ix hm hj) rfl rfl hd fun H1 g1 g2 g3 => ?_
  refine kk p e s m args below meth c H1 _ cells slots la hJ0 (hT.arr (t := 1) hk (by decide) g2 g3 rfl (fun _ => rfl) (fun _ => rfl) (fun b hb j' => by rw [mm_i_si, if_neg (fun q => hb q.1)]) (fun _ _ _ => rfl) ?_) hL hc hs
  have hn : narrow .boolean (.int y) = .int y := by rcases hy with rfl | rfl <;> decide
  rw [g1, hn, arrV_store, nI_clamp (by omega)]
  congr 2
  funext q
  unfold updV mm_c
  rw [mm_k_si, hk, mm_p_si, mm_i_si]
  by_cases hq : q = j
  · subst hq
    simp [mm_rs]
  · simp [hq]
/-- an object of class number ci may stand in an array of E -/
def mm_As (E : String) (ci : Nat) : Prop := ci < 99 ∧ ∃ (C : String) (T : u_T) (N : Nat), vwCl[ci]? = some (C, T, N) ∧ (C = E ∨ Cond.castable C E ∈ lw_tbl.filter mm_isN)
theorem mm_any {s : State} {H : Heap} {E : String} {ci v : Nat} (hCx : mm_Cx G s) (hH : mm_H G M H) (hv : mm_k M v = ci + 1) (ha : mm_As E ci) : va_Any E s H v := by
  obtain ⟨hci, C, T, N, hcl, hc⟩ := ha
  obtain ⟨-, r, hr, -, cell, q1, q2, q3, -⟩ := mm_obj hH hv hci
  obtain ⟨hK, -, hN, -⟩ := hCx
  have hkn := hK.1 ci _ hcl
  obtain ⟨-, hfc, kC, hkC, hkind⟩ := hkn
  refine ⟨cell, q1, by rw [q3]; rfl, ⟨kC, by rw [q2]; exact hkC⟩, fun comp h => ?_⟩
  rw [q2]
  rcases hc with h1 | h1
  · subst h1
    have : comp = G.1.1 ci := Option.some.inj (h.symm.trans hfc)
    rw [this]
    exact va_assign ⟨hfc, kC, hkC, hkind⟩
  · obtain ⟨c0, t0, f1, f2, f3⟩ := Cond.castable_spec (va_Nw.use (A := #[]) rfl (hN _ h1))
    cases hfc.symm.trans f1
    cases h.symm.trans f2
    exact f3
theorem mr_aast {a j t : Nat} {o v : Option Nat} {x : Int32} {E : String} (hd : decode Y.1 pc = .ok (.aastore, 1)) (ho : o = some a) (hk : mm_k M a = 100 + t) (ht : ∀ E', (mm_tys E')[t]? = some (E' t, .object E)) (h2 : 2 ≤ t) (h5 : t < 5) (hx : x = nI j) (hm : j < 2147483648) (hj : j < mm_l M a) (hv : ∀ q, v = some q → ∃ ci, mm_k M q = ci + 1 ∧ mm_As E ci)
    (kk : mm_Zq l G Y Ex Qf M0 bc bs (pc + 1) ls st (mm_sp M a j v)) : mm_Zq l G Y Ex Qf M0 bc bs pc ls (.inr v :: .inl x :: .inr o :: st) M := by
  subst ho hx
  intro p e s m args below meth c H locs cells slots la hJ hT hL hc hs
  have hJ0 := hJ
  obtain ⟨-, hA⟩ := mm_arr hT.1 hk h5
  obtain ⟨hx, hb, -, -, -, -, hown, hts, hCx, -⟩ := hJ
  have hK := hCx.1
  have fin : ∀ H1 : Heap, H1[a]? = some ((arrV (G.2.1 t) (mm_l M a) (mm_c M a)).setSlot (nI j).toNatClampNeg (va_rf v)) → H1.size = H.size → (∀ q, q ≠ a → H1[q]? = H[q]?) → W p l e Y.2.2.2.2.2 s m args below meth c H1 (locs ++ [⟨a, (nI j).toNatClampNeg⟩]) cells slots (Qf below args s) (F0 m (pc + 1) la (st.map mm_v)) := by
    intro H1 g1 g2 g3
    refine kk p e s m args below meth c H1 _ cells slots la hJ0 (hT.arr hk h5 g2 g3 rfl (fun _ => rfl) (fun _ => rfl) (fun _ _ _ => rfl) (fun b hb j' => by rw [mm_p_sp, if_neg (fun q => hb q.1)]) ?_) hL hc hs
    rw [g1, arrV_store, nI_clamp (by omega)]
    congr 2
    funext q
    have hrs : mm_rs (100 + t) q = true := mm_rsA h2
    unfold updV mm_c
    rw [mm_k_sp, hk, mm_i_sp, mm_p_sp, if_pos hrs, if_pos hrs]
    by_cases hq : q = j
    · subst hq
      simp
    · simp [hq]
  cases v with
  | none => exact va_WaastN (C := E) hx hb hA ((hK.2 t _ (ht G.2.1)).1 _ _) (fun h => by cases h) (by rw [arrV_size]; exact mm_ix hm hj) rfl rfl hd fin
  | some q =>
    obtain ⟨ci, hq, hAs⟩ := hv q rfl
    obtain ⟨cellV, g1, g3, ⟨kC, hkC⟩, hasg⟩ := mm_any hCx hT.1 hq hAs
    obtain ⟨kA, comp, k1, k2, k3, -⟩ := (hK.2 t _ (ht G.2.1)).2
    obtain ⟨kE, hkE, -⟩ := Vm.findClass_spec k3
    exact W.aast hx hb hA (fun q h => by cases h) (fun h => by cases h) k1 k2 rfl hkE ⟨nI_pos (by omega), by rw [arrV_size, nI_clamp (by omega)]; exact hj⟩ g1 (fun q h => by rw [h] at g3; cases g3) hkC (hasg _ k3) rfl rfl hd fin
-- new cells
def mm_Fn (own : String) (idx ci : Nat) (C : String) (T : u_T) (N : Nat) : Prop :=
  ci < 99 ∧ vwCl[ci]? = some (C, T, N) ∧ (∀ w ∈ u_ws C T N, w ∈ mm_B) ∧ Cond.classLink own idx C ∈ mm_B ∧ Cond.instantiable C N ∈ mm_B ∧ Cond.initialized C ∈ mm_B ∧ ∃ ty : Nat → FieldType, (∀ k, k < N → parseFieldDescriptor (T k).2.2.1 = some (ty k)) ∧ ∀ k, k < N → defaultValue (ty k) = if mm_rd (T k).2.2.1 = true then .null else .int 0
theorem mr_new {idx ci : Nat} {C : String} {T : u_T} {N : Nat} (hF : mm_Fn Y.2.1 idx ci C T N) (hd : decode Y.1 pc = .ok (.new idx, 3))
    (kk : mm_Zq l G Y Ex Qf M0 bc bs (pc + 3) ls (.inr (some (mm_z M)) :: st) (mm_nw M (ci + 1) N)) : mm_Zq l G Y Ex Qf M0 (bc + 1) (bs + N) pc ls st M := by
  intro p e s m args below meth c H locs cells slots la hJ hT hL hc hs
  have hJ0 := hJ
  obtain ⟨hx, hb, -, -, -, -, hown, hts, ⟨hK, hE, hNn, hbs⟩, hsz⟩ := hJ
  obtain ⟨hci, hcl, hin, h1, h2, h3, ty, hty, hdf⟩ := hF
  have hKn := hK.1 ci _ hcl
  refine W.newcK hx hb hown (hts _ h1) (hts _ h2) (hts _ h3) rfl hd (by omega) (by omega) hKn.2.1 hT.1.1 fun H1 kC hkC e1 z1 o1 => ?_
  have z1' : H1.size = H.size + 1 := by rw [z1, hT.1.1]
  have o1' : ∀ q, q < H.size → H1[q]? = H[q]? := fun q hq => o1 q (by rw [← hT.1.1]; exact hq)
  have hba : G.2.2.1 ≤ mm_z M := by
    have h4 := hT.2.1.1
    rw [hT.1.1] at h4
    omega
  refine kk p e s m args below meth c H1 locs (cells + 1) (slots + N) la hJ0 ⟨hT.1.new z1' o1' (Or.inl ?_), ⟨by have := hT.2.1.1; omega, fun q g1 g2 => (o1' q (Nat.lt_of_lt_of_le g1 hT.2.1.1)).trans (hT.2.1.2.1 q g1 g2), hT.2.1.2.2⟩, hT.2.2.nw hT.1⟩ hL (by omega) (by omega)
  have hkk : mm_k (mm_nw M (ci + 1) N) (mm_z M) = ci + 1 := by rw [mm_k_nw, if_pos rfl]
  rw [hkk]
  refine ⟨by omega, hba, _, hcl, by rw [mm_l_nw, if_pos rfl], (u_born ty hts hin hKn hkC e1 hty).to (fun k hk => ?_)⟩
  rw [hdf k hk]
  unfold mm_c
  rw [hkk, mm_rsO hci hcl, mm_p_nw, mm_i_nw, if_pos (rfl : mm_z M = mm_z M), if_pos (rfl : mm_z M = mm_z M)]
  rfl
theorem mr_newa {t n : Nat} {x : Int32} {atype : ArrayType} {ty : FieldType} (hd : decode Y.1 pc = .ok (.newarray atype, 2)) (hty : newarray.typeOf atype = ty) (hw : Cond.arrayClass ty ∈ mm_B) (ht : (t = 0 ∧ ty = .int) ∨ (t = 1 ∧ ty = .boolean)) (hx : x = nI n) (hn : n < 100000)
    (kk : mm_Zq l G Y Ex Qf M0 bc bs (pc + 2) ls (.inr (some (mm_z M)) :: st) (mm_nw M (100 + t) n)) : mm_Zq l G Y Ex Qf M0 (bc + 1) (bs + n) pc ls (.inl x :: st) M := by
  subst hx hty
  intro p e s m args below meth c H locs cells slots la hJ hT hL hc hs
  have hJ0 := hJ
  obtain ⟨hx, hb, -, -, -, -, hown, hts, ⟨hK, hE, hNn, hbs⟩, hsz⟩ := hJ
  have hb2 : n * componentBytes (newarray.typeOf atype) ≤ 536870912 := by
    have hc8 : componentBytes (newarray.typeOf atype) ≤ 8 := by cases atype <;> decide
    calc n * componentBytes (newarray.typeOf atype) ≤ n * 8 := Nat.mul_le_mul_left n hc8
      _ ≤ 536870912 := by omega
  refine va_newaK hx hb (hts _ hw) rfl hd rfl (nI_pos (by omega)) (nI_clamp (by omega)) hb2 (by omega) (by omega) hT.1.1 fun H1 cA e1 z1 o1 hAr hNm => ?_
  have z1' : H1.size = H.size + 1 := by rw [z1, hT.1.1]
  have o1' : ∀ q, q < H.size → H1[q]? = H[q]? := fun q hq => o1 q (by rw [← hT.1.1]; exact hq)
  have hba : G.2.2.1 ≤ mm_z M := by
    have h4 := hT.2.1.1
    rw [hT.1.1] at h4
    omega
  refine kk p e s m args below meth c H1 locs (cells + 1) (slots + n) la hJ0 ⟨hT.1.new z1' o1' (Or.inr (Or.inl ?_)), ⟨by have := hT.2.1.1; omega, fun q g1 g2 => (o1' q (Nat.lt_of_lt_of_le g1 hT.2.1.1)).trans (hT.2.1.2.1 q g1 g2), hT.2.1.2.2⟩, hT.2.2.nw hT.1⟩ hL (by omega) (by omega)
  have hkk : mm_k (mm_nw M (100 + t) n) (mm_z M) = 100 + t := by rw [mm_k_nw, if_pos rfl]
  rw [hkk]
  refine ⟨by omega, by rcases ht with ⟨rfl, -⟩ | ⟨rfl, -⟩ <;> omega, hba, ?_⟩
  rw [e1, mm_l_nw, if_pos rfl, show 100 + t - 100 = t by omega]
  have hcA : cA = G.2.1 t := by
    rcases ht with ⟨rfl, h⟩ | ⟨rfl, h⟩
    · have h3 := (hK.2 0 _ rfl).2
      rw [h] at hNm
      exact Option.some.inj (hNm.symm.trans h3)
    · have h3 := (hK.2 1 _ rfl).2
      rw [h] at hNm
      exact Option.some.inj (hNm.symm.trans h3)
  rw [hcA]
  congr 2
  funext q
  rw [mm_cI (by rw [hkk]; rcases ht with ⟨rfl, -⟩ | ⟨rfl, -⟩ <;> rfl), mm_i_nw, if_pos (rfl : mm_z M = mm_z M)]
  rcases ht with ⟨-, h⟩ | ⟨-, h⟩ <;> rw [h] <;> rfl
theorem mr_newq {t n idx : Nat} {x : Int32} {C : String} (hd : decode Y.1 pc = .ok (.anewarray idx, 3)) (hw : Cond.classLink Y.2.1 idx C ∈ mm_B) (hov : Cond.arrayOver (.object C) ∈ lw_tbl.filter mm_isN) (h2 : 2 ≤ t) (h5 : t < 5) (ht : ∀ E', (mm_tys E')[t]? = some (E' t, .object C)) (hx : x = nI n) (hn : n < 100000)
    (kk : mm_Zq l G Y Ex Qf M0 bc bs (pc + 3) ls (.inr (some (mm_z M)) :: st) (mm_nw M (100 + t) n)) : mm_Zq l G Y Ex Qf M0 (bc + 1) (bs + n) pc ls (.inl x :: st) M := by
  subst hx
  intro p e s m args below meth c H locs cells slots la hJ hT hL hc hs
  have hJ0 := hJ
  obtain ⟨hx, hb, -, -, -, -, hown, hts, ⟨hK, hE, hNn, hbs⟩, hsz⟩ := hJ
  have hcl : (nI n).toNatClampNeg = n := nI_clamp (by omega)
  refine W.anew hx hb hown (hts _ hw) (va_AO.use (hNn _ hov)) rfl hd rfl (nI_pos (by omega)) (by rw [hcl]; omega) (by omega) (by rw [hcl]; omega) fun cA kA comp f1 f2 f3 f4 => ?_
  rw [hcl, hT.1.1]
  generalize hH1 : H.push ({ cls := cA, slots := Array.replicate n .null, vm := .none } : Cell) = H1
  have z1' : H1.size = H.size + 1 := by rw [← hH1, Array.size_push]
  have e1 : H1[H.size]? = some (arrV cA n (fun _ => .null)) := by rw [← hH1, Array.getElem?_push_size, ← arrV_new]
  have o1' : ∀ q, q < H.size → H1[q]? = H[q]? := fun q hq => by rw [← hH1, Array.getElem?_push, if_neg (Nat.ne_of_lt hq)]
  have hba : G.2.2.1 ≤ mm_z M := by
    have h4 := hT.2.1.1
    rw [hT.1.1] at h4
    omega
  refine kk p e s m args below meth c H1 locs (cells + 1) (slots + n) la hJ0 ⟨hT.1.new z1' o1' (Or.inr (Or.inl ?_)), ⟨by have := hT.2.1.1; omega, fun q g1 g2 => (o1' q (Nat.lt_of_lt_of_le g1 hT.2.1.1)).trans (hT.2.1.2.1 q g1 g2), hT.2.1.2.2⟩, hT.2.2.nw hT.1⟩ hL (by omega) (by omega)
  have hkk : mm_k (mm_nw M (100 + t) n) (mm_z M) = 100 + t := by rw [mm_k_nw, if_pos rfl]
  rw [hkk]
  refine ⟨by omega, by omega, hba, ?_⟩
  rw [← hT.1.1, e1, hT.1.1, mm_l_nw, if_pos rfl, show 100 + t - 100 = t by omega]
  have hcA : cA = G.2.1 t := by
    obtain ⟨_, _, _, _, _, h3⟩ := (hK.2 t _ (ht G.2.1)).2
    exact Option.some.inj (f1.symm.trans h3)
  rw [hcA]
  congr 2
  funext q
  rw [mm_cR (by rw [hkk]; exact mm_rsA h2), mm_p_nw, if_pos (rfl : mm_z M = mm_z M)]
  rfl
-- a cast
theorem mr_cast {idx ci : Nat} {nm : String} {o : Option Nat} (hd : decode Y.1 pc = .ok (.checkcast idx, 3)) (hw : Cond.classLink Y.2.1 idx nm ∈ mm_B) (ho : ∀ a, o = some a → mm_k M a = ci + 1) (hA : mm_As nm ci)
    (kk : mm_Zq l G Y Ex Qf M0 bc bs (pc + 3) ls (.inr o :: st) M) : mm_Zq l G Y Ex Qf M0 bc bs pc ls (.inr o :: st) M := by
  intro p e s m args below meth c H locs cells slots la hJ hT hL hc hs
  have k1 := kk p e s m args below meth c H locs cells slots la hJ hT hL hc hs
  obtain ⟨hx, hb, -, -, -, -, hown, hts, hCx, hsz⟩ := hJ
  cases o with
  | none => exact lv_castN hx hb hd k1
  | some a =>
    obtain ⟨hci, C, T, N, hcl, hC⟩ := hA
    obtain ⟨-, r, hr, -, cell, q1, q2, q3, -⟩ := mm_obj hT.1 (ho a rfl) hci
    have hkn := (hCx.1.1 ci _ hcl).2
    rcases hC with h | h
    · subst h
      exact va_castS hx hb hown (hts _ hw) hkn ⟨cell, q1, by rw [q3]; rfl, by rw [q2]; exact hkn.1⟩ hd k1
    · exact va_castY hx hb hown (hts _ hw) (hCx.2.2.1 _ h) ⟨cell, q1, by rw [q3]; rfl, by rw [q2]; exact hkn.1⟩ hd k1
-- the empty list's array
theorem mr_empty {idx : Nat} {ref : String} (hd : decode Y.1 pc = .ok (.getstatic idx, 3)) (hw : Cond.fieldLink Y.2.1 idx ref "DEFAULTCAPACITY_EMPTY_ELEMENTDATA" "[Ljava/lang/Object;" ∈ mm_B) (hr : ref = "java/util/ArrayList")
    (kk : mm_Zq l G Y Ex Qf M0 bc bs (pc + 3) ls (.inr (some G.2.2.2.1) :: st) M) : mm_Zq l G Y Ex Qf M0 bc bs pc ls st M := by
  subst hr
  intro p e s m args below meth c H locs cells slots la hJ hT hL hc hs
  have k1 := kk p e s m args below meth c H locs cells slots la hJ hT hL hc hs
  obtain ⟨hx, hb, -, -, -, -, hown, hts, hCx, hsz⟩ := hJ
  have hS : va_S (fun q => G.2.2.1 ≤ q) s.heap H locs := ⟨hT.2.1.1, fun q h1 h2 => hT.2.1.2.1 q h1 (fun z => h2 z.1), fun q hq => (hT.2.1.2.2 q hq).1⟩
  exact va_gets hx hb hCx.2.1.1 hS hown (hts _ hw) (fun x h => h) hd k1
end RW2
