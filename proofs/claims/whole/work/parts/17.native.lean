/-! NATIVES AND CONSTANTS that the lists' own methods come to -/
theorem mm_aq {G : mm_G} {M : mm_M} {H : Heap} (hH : mm_H G M H) {a t : Nat} (h2 : 2 ≤ t ∧ t < 5) (hk : mm_k M a = 100 + t) : H[a]? = some (arrV (G.2.1 t) (mm_l M a) (fun j => va_rf (mm_p M a j))) := by
  rw [(mm_arr hH hk h2.2).2]
  congr 2
  funext j
  exact mm_cR (by rw [hk]; exact mm_rsA h2.1)
section RW4
variable {l : Launch} {G : mm_G} {Y : mm_Y} {K : Option mm_V → mm_M → Prop} {Ex : State → Array Value → Prop} {Qf : List Frame → Array Value → State → State → Prop} {M0 M : mm_M} {bc bs pc : Nat} {ls : List (Option mm_V)} {st : List mm_V}
theorem mr_ldci {idx : Nat} {v : Int32} (hd : decode Y.1 pc = .ok (.ldc idx, 2)) (hw : Cond.constant Y.2.1 idx v ∈ mm_B) (kk : mm_Zq l G Y Ex Qf M0 bc bs (pc + 2) ls (.inl v :: st) M) : mm_Zq l G Y Ex Qf M0 bc bs pc ls st M := by
  intro p e s m args below meth c H locs cells slots la hJ hT hL hc hs
  have k1 := kk p e s m args below meth c H locs cells slots la hJ hT hL hc hs
  obtain ⟨hx, hb, hml, -, -, -, hown, hts, hCx, hsz⟩ := hJ
  exact W.ldc hx hb hown (hts _ hw) rfl hd k1
theorem mr_ldcM {idx : Nat} (hd : decode Y.1 pc = .ok (.ldc idx, 2)) (hw : Cond.classLink Y.2.1 idx "[Ljava/lang/Object;" ∈ mm_B) (kk : mm_Zq l G Y Ex Qf M0 bc bs (pc + 2) ls (.inr (some G.2.2.2.2) :: st) M) : mm_Zq l G Y Ex Qf M0 bc bs pc ls st M := by
  intro p e s m args below meth c H locs cells slots la hJ hT hL hc hs
  have k1 := kk p e s m args below meth c H locs cells slots la hJ hT hL hc hs
  obtain ⟨hx, hb, hml, -, -, -, hown, hts, hCx, hsz⟩ := hJ
  exact va_ldcM hx hb hown (hts _ hw) hCx.2.1.2.1 hd k1
theorem mr_getC {idx a : Nat} {o : Option Nat} (hd : decode Y.1 pc = .ok (.invokevirtual idx, 3)) (hw : Cond.methodLink Y.2.1 idx ⟨"java/lang/Object", "getClass", "()Ljava/lang/Class;"⟩ ∈ mm_B) (ho : o = some a) (hk : mm_k M a = 102) (hR : 1 ≤ Y.2.2.2.2.2.frames ∧ st.length + 14 ≤ Y.2.2.2.2.2.locals) (kk : mm_Zq l G Y Ex Qf M0 bc bs (pc + 3) ls (.inr (some G.2.2.2.2) :: st) M) : mm_Zq l G Y Ex Qf M0 bc bs pc ls (.inr o :: st) M := by
  subst ho
  intro p e s m args below meth c H locs cells slots la hJ hT hL hc hs
  have k1 := kk p e s m args below meth c H locs cells slots la hJ hT hL hc hs
  obtain ⟨hx, hb, hml, -, -, -, hown, hts, hCx, hsz⟩ := hJ
  have hA := mm_aq hT.1 (t := 2) (by decide) hk
  have hcls : s.vm.findClass "[Ljava/lang/Object;" = some (G.2.1 2) := va_nmO ((hCx.1.2 2 _ rfl).2) (by decide)
  exact va_getC (C := "[Ljava/lang/Object;") hx hb (by rw [hml]; exact hL.1.symm) hown (hts _ hw) (va_Nw.use rfl (hCx.2.2.1 _ tn_862)) (hts _ tb_861) (hts _ tb_320) (hts _ tb_331) hCx.2.1.2.1 ⟨_, hA, rfl, hcls⟩ hR.1 (by rw [mm_sumcat]; exact hR.2) hd k1
theorem mr_copy {idx a0 a i0 i1 n : Nat} {x0 x1 : Option Nat} {sp dp len : Int32} (hd : decode Y.1 pc = .ok (.invokestatic idx, 3)) (hw : Cond.methodLink Y.2.1 idx arraycopyName ∈ mm_B) (hx0 : x0 = some a0) (hx1 : x1 = some a) (hk0 : mm_k M a0 = 102) (hk1 : mm_k M a = 102) (hsp : sp = nI i0) (hdp : dp = nI i1) (hn : len = nI n) (h1 : i0 + n ≤ mm_l M a0) (h2 : i1 + n ≤ mm_l M a) (hb0 : i0 + n < 2147483648) (hb1 : i1 + n < 2147483648) (hel : ∀ i, i < n → ∀ y, mm_p M a0 (i0 + i) = some y → ∃ ci, mm_k M y = ci + 1 ∧ mm_As "java/lang/Object" ci) (hR : 1 ≤ Y.2.2.2.2.2.frames ∧ st.length + 18 ≤ Y.2.2.2.2.2.locals)
    (kk : mm_Zq l G Y Ex Qf M0 bc bs (pc + 3) ls st (mm_sf M a (va_cpy (mm_p M a0) (mm_p M a) i0 i1 n))) : mm_Zq l G Y Ex Qf M0 bc bs pc ls (.inl len :: .inl dp :: .inr x1 :: .inl sp :: .inr x0 :: st) M := by
  subst hx0 hx1 hsp hdp hn
  intro p e s m args below meth c H locs cells slots la hJ hT hL hc hs
  have hJ0 := hJ
  obtain ⟨hx, hb, hml, -, -, -, hown, hts, hCx, hsz⟩ := hJ
  have hK := hCx.1
  have hc0 : H[a0]? = some (vp_cell (G.2.1 2) (mm_l M a0, .inr (.inr (.inr (.inr (mm_p M a0)))))) := mm_aq hT.1 (t := 2) (by decide) hk0
  have hc1 : H[a]? = some (vp_cell (G.2.1 2) (mm_l M a, .inr (.inr (.inr (.inr (mm_p M a)))))) := mm_aq hT.1 (t := 2) (by decide) hk1
  have ht0 : (mm_tys G.2.1)[2]? = some (G.2.1 2, .object "java/lang/Object") := rfl
  have e0 : (nI i0).toNatClampNeg = i0 := nI_clamp (by omega)
  have e1' : (nI i1).toNatClampNeg = i1 := nI_clamp (by omega)
  have e2 : (nI n).toNatClampNeg = n := nI_clamp (by omega)
  have t0 : (nI i0).toInt = (i0 : Int) := nI_toInt (by omega)
  have t1 : (nI i1).toInt = (i1 : Int) := nI_toInt (by omega)
  have t2 : (nI n).toInt = (n : Int) := nI_toInt (by omega)
  intro T hT0 X
  obtain ⟨-, k0, hk0', cm0, hkk0⟩ := (hK.2 2 _ ht0).1 (mm_l M a0) (fun j => va_rf (mm_p M a0 j))
  obtain ⟨-, k1, hk1', cm1, hkk1⟩ := (hK.2 2 _ ht0).1 (mm_l M a) (fun j => va_rf (mm_p M a j))
  obtain ⟨vm', X', step⟩ := X.arraycopy hx hown (hts _ hw) (hts _ tb_291) (hts _ tb_290) (hts _ tb_13) (src := a0) (dst := a) (cs := vp_cell (G.2.1 2) (mm_l M a0, .inr (.inr (.inr (.inr (mm_p M a0)))))) (cd := vp_cell (G.2.1 2) (mm_l M a, .inr (.inr (.inr (.inr (mm_p M a)))))) (srcPos := nI i0) (destPos := nI i1) (n := nI n) (by rw [hT0]; exact hc0) (by rw [hT0]; exact hc1)
    (fun _ h => by cases h) (fun _ h => by cases h) (fun h => by cases h) (fun h => by cases h) hk0' hk1' hkk0 hkk1 rfl (nI_pos (by omega)) (nI_pos (by omega)) (nI_pos (by omega))
    (by rw [t0, t2]; show ¬ _ > ((arrV (G.2.1 2) (mm_l M a0) (fun j => va_rf (mm_p M a0 j))).slots.size : Int); rw [arrV_size]; omega)
    (by rw [t1, t2]; show ¬ _ > ((arrV (G.2.1 2) (mm_l M a) (fun j => va_rf (mm_p M a j))).slots.size : Int); rw [arrV_size]; omega)
    (fun vm₁ hal i hi => by
      rw [e2] at hi
      have ee : (vp_cell (G.2.1 2) (mm_l M a0, .inr (.inr (.inr (.inr (mm_p M a0)))))).slots.getD ((nI i0).toNatClampNeg + i) .null = va_rf (mm_p M a0 (i0 + i)) := by
        show (arrV (G.2.1 2) (mm_l M a0) (fun j => va_rf (mm_p M a0 j))).slots.getD _ _ = _
        rw [e0, Array.getD_eq_getD_getElem?, arrV_read _ _ (by omega)]
        rfl
      rw [ee]
      cases hy : mm_p M a0 (i0 + i) with
      | none => exact ⟨rfl, trivial⟩
      | some y =>
        obtain ⟨ci, hky, hAs⟩ := hel i hi y hy
        obtain ⟨cellV, g1, g2, ⟨kC, hkC⟩, hasg⟩ := mm_any hCx hT.1 hky hAs
        obtain ⟨kA, comp, r1, r2, r3, -⟩ := (hK.2 2 _ ht0).2
        cases hk1'.symm.trans r1
        cases hkk1.symm.trans r2
        obtain ⟨kE, hkE, -⟩ := Vm.findClass_spec r3
        obtain ⟨kC', hkC', -⟩ := hal.2.2 _ _ hkC
        obtain ⟨kE', hkE', -⟩ := hal.2.2 _ _ hkE
        refine ⟨rfl, cellV, (show T.heap[y]? = some cellV by rw [hT0]; exact g1), (fun q h => by rw [h] at g2; cases g2), ⟨kC', hkC'⟩, ?_, ?_⟩
        · exact ⟨kE', hkE'⟩
        · show vm₁.assignable _ _ = true
          rw [hal.assignable]
          exact hasg _ r3)
    (g := F0 m pc la (List.map mm_v (.inl (nI n) :: .inl (nI i1) :: .inr (some a) :: .inl (nI i0) :: .inr (some a0) :: st))) rfl (by rw [hml]; exact hL.1) (rest := st.map mm_v) rfl (by rw [hb]; exact hd) hR.1 (by show 2 * 0 + _ + _ ≤ _; rw [mm_sumcat]; have hw : nativeFrameWords "java/lang/System" "arraycopy" 5 = 7 := (by decide); omega)
  have e1 : copied (vp_cell (G.2.1 2) (mm_l M a0, .inr (.inr (.inr (.inr (mm_p M a0)))))) (vp_cell (G.2.1 2) (mm_l M a, .inr (.inr (.inr (.inr (mm_p M a)))))) (nI i0) (nI i1) (nI n) = vp_cell (G.2.1 2) (mm_l M a, .inr (.inr (.inr (.inr (va_cpy (mm_p M a0) (mm_p M a) i0 i1 n))))) := by
    rw [vp_cell_q, vp_cell_q, vp_cell_q]
    have h9 := va_copied (n1 := mm_l M a) (dp := (nI i1).toNatClampNeg) (fun z => va_rf z) (G.2.1 2) (G.2.1 2) (mm_p M a0) (mm_p M a) (n0 := mm_l M a0) (sp := (nI i0).toNatClampNeg) (n := (nI n).toNatClampNeg) (by rw [e0, e2]; exact h1)
    exact h9.trans (by rw [e0, e1', e2])
  rw [e1] at X' step
  have hl : a < H.size := (Array.getElem?_eq_some_iff.mp hc1).1
  generalize hH1 : H.setIfInBounds a (vp_cell (G.2.1 2) (mm_l M a, .inr (.inr (.inr (.inr (va_cpy (mm_p M a0) (mm_p M a) i0 i1 n)))))) = H1
  have hheap : ((T.setVm vm').setCell a (vp_cell (G.2.1 2) (mm_l M a, .inr (.inr (.inr (.inr (va_cpy (mm_p M a0) (mm_p M a) i0 i1 n))))))).heap = H1 := by rw [← hH1, ← hT0]; rfl
  have oq : ∀ q : Nat, q ≠ a → H1[q]? = H[q]? := fun q hq => by rw [← hH1]; simp [Array.getElem?_setIfInBounds, Ne.symm hq]
  have haq : H1[a]? = some (vp_cell (G.2.1 2) (mm_l M a, .inr (.inr (.inr (.inr (va_cpy (mm_p M a0) (mm_p M a) i0 i1 n)))))) := by rw [← hH1]; simp [Array.getElem?_setIfInBounds, hl]
  have hz : H1.size = H.size := by rw [← hH1]; simp
  obtain ⟨hba, -⟩ := mm_arr hT.1 (t := 2) hk1 (by decide)
  have hA : mm_A G M0 a := mm_A.of hT.2.2 ⟨hba, Or.inl (by rw [hk1]; decide)⟩
  have hH2 : mm_H G (mm_sf M a (va_cpy (mm_p M a0) (mm_p M a) i0 i1 n)) H1 := by
    refine hT.1.put hz oq rfl (fun _ => rfl) (fun _ => rfl) (fun _ _ _ => rfl) (fun b hb j => by rw [mm_p_sf, if_neg hb]) (Or.inr (Or.inl ?_))
    rw [mm_k_sf, mm_l_sf, hk1]
    refine ⟨by decide, by decide, hba, ?_⟩
    rw [haq, vp_cell_q, show 102 - 100 = 2 from rfl]
    congr 2
    funext j
    rw [mm_cR (M := mm_sf M a _) (by rw [mm_k_sf, hk1]; rfl), mm_p_sf, if_pos (rfl : a = a)]
  obtain ⟨t, a1, b1⟩ := kk p e s m args below meth c H1 _ cells slots la hJ0 ⟨hH2, ⟨by rw [hz]; exact hT.2.1.1, fun q g1 g2 => by
      rw [oq q (fun e => g2 (by rw [e]; exact hA))]
      exact hT.2.1.2.1 q g1 g2, fun q hq => by
      rcases List.mem_append.mp hq with h | h
      · exact hT.2.1.2.2 q h
      · obtain ⟨z, -, hz⟩ := List.mem_map.mp h
        rw [← hz]
        exact hA⟩, hT.2.2⟩ hL hc hs _ hheap X'
  exact ⟨t, step t a1, b1⟩
end RW4
