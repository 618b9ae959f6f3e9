/-! THE CLASS AS A WHOLE: a page is added, an object is put -/
def d_ap (D : ph_D) (q : Nat) (hn pn : Int32) : ph_D := ((D.1.1 ++ [q], D.1.2), fun k j => if j = q ∧ k = 0 then hn else if j = q ∧ k = 1 then pn else if j = q ∧ k = 2 then 16 else D.2.1 k j, D.2.2)
def d_ao (D : ph_D) (g q : Nat) (s t : Int32) : ph_D := ((D.1.1, D.1.2 ++ [q]), fun k j => if k = 2 ∧ j = g then D.2.1 2 g - s else if k = 3 ∧ j = q then s else if k = 4 ∧ j = q then t else if k = 5 ∧ j = q then 0 else D.2.1 k j, fun k j => if k = 0 ∧ j = q then some g else if (k = 1 ∨ k = 2 ∨ k = 3) ∧ j = q then none else D.2.2 k j)
section QC
variable {l : Launch} {G : mm_G} {K : Option mm_V → mm_M → Prop} {M M1 Mb : mm_M} {c : Nat → Nat} {F : Nat → Prop} {D D1 : ph_D} {eP eO eP1 eO1 : Nat}
theorem ph_R.gr (h : ph_R G c F Mb M D eP eO) (hk : ∀ a, mm_k M a ≠ 0 → mm_k M1 a = mm_k M a ∧ mm_l M1 a = mm_l M a) (hW : me_W G M1 (c 1) (c 10) (c 11) eP1 eO1 D1.1.1 D1.1.2)
    (hp : ∀ a, mm_k M a ≠ 0 → mm_k M a ≠ 3 → mm_k M a ≠ 102 → mm_k M a ≠ 105 → ∀ j, mm_p M1 a j = mm_p M a j) (hi : ∀ a j, mm_k M a = 1 ∨ mm_k M a = 6 ∨ F a → mm_i M1 a j = mm_i M a j) (hY : ph_Y M1 c) (hg : ph_G M1 D1) (ho : ph_O M1 D1)
    (he : ∀ k, 6 ≤ k → ∀ j, D1.2.1 k j = D.2.1 k j) (hr : ∀ k, 4 ≤ k → ∀ j, D1.2.2 k j = D.2.2 k j) : ph_R G c F Mb M1 D1 eP1 eO1 := by
  have kar := h.kar
  have kah := h.kah
  obtain ⟨f1, f2, f3, f4, f5, f6, f7, f8⟩ := h
  have hT := f1.2.1
  have k1 := f2.1
  refine ⟨hW, f2.keep hk (fun a ha => hp a (by rcases ha with z | z | z <;> rw [z] <;> decide) (by rcases ha with z | z | z <;> rw [z] <;> decide) (by rcases ha with z | z | z <;> rw [z] <;> decide) (by rcases ha with z | z | z <;> rw [z] <;> decide)), hY, ?_, hg, ho, ⟨fun i hi13 => ?_, ?_⟩, fun a ha => ?_⟩
  · obtain ⟨m, m1, m2, m3, m4, m5, m6⟩ := f4
    have par : ∀ j, mm_p M1 (c 8) j = mm_p M (c 8) j := hp _ (by rw [kar]; decide) (by rw [kar]; decide) (by rw [kar]; decide) (by rw [kar]; decide)
    refine ⟨m, m1, m2, by rw [hi _ 5 (Or.inl k1)]; exact m3, by rw [he 12 (by omega)]; exact m4, fun p z1 z2 => ?_, fun p z1 => ?_⟩
    · rw [par, he 6 (by omega)]
      exact m5 p z1 z2
    · obtain ⟨q, q1, w1, w2, w3, w4, w5, w6, w7, w8, w9⟩ := m6 p z1
      have hq6 := hT.2.2.2.1 (c 8) p q kar q1
      have e : ∀ j, mm_i M1 q j = mm_i M q j := fun j => hi q j (Or.inr (Or.inl hq6))
      have kpa := (hT.2.1 q hq6).2.2.1
      refine ⟨q, by rw [par]; exact q1, ?_⟩
      unfold ph_Q
      rw [e, e, e, e, e, e, e, he 6 (by omega), he 7 (by omega), he 8 (by omega), he 9 (by omega), he 10 (by omega), he 11 (by omega)]
      refine ⟨w1, w2, w3, w4, w5, w6, w7, fun r hr4 => ?_, by rw [hr 9 (by omega)]; exact w9⟩
      have ea : pr_a M1 q = pr_a M q := by unfold pr_a; rw [hp q (by rw [hq6]; decide) (by rw [hq6]; decide) (by rw [hq6]; decide) (by rw [hq6]; decide)]
      unfold pr_r
      rw [ea, hp _ (by rw [kpa]; decide) (by rw [kpa]; decide) (by rw [kpa]; decide) (by rw [kpa]; decide), hr _ (by omega)]
      exact w8 r hr4
  · rw [hp _ (by rw [kah]; decide) (by rw [kah]; decide) (by rw [kah]; decide) (by rw [kah]; decide), hr 8 (by omega)]
    exact f7.1 i hi13
  · rw [hi _ 6 (Or.inl k1), he 12 (by omega)]
    exact f7.2
  · obtain ⟨z1, z2, z3, z4, z5⟩ := f8 a ha
    have ne : mm_k M a ≠ 0 := by rcases z1 with z | z | z | z <;> rw [z] <;> decide
    have n3 : mm_k M a ≠ 3 := by rcases z1 with z | z | z | z <;> rw [z] <;> decide
    have n102 : mm_k M a ≠ 102 := by rcases z1 with z | z | z | z <;> rw [z] <;> decide
    have n105 : mm_k M a ≠ 105 := by rcases z1 with z | z | z | z <;> rw [z] <;> decide
    rw [(hk a ne).1, (hk a ne).2]
    exact ⟨z1, z2, z3, z4, fun j => ⟨(hi a j (Or.inr (Or.inr ha))).trans (z5 j).1, (hp a ne n3 n102 n105 j).trans (z5 j).2⟩⟩
theorem cw_addPage {hn pn : Int32} (h : ph_R G c F Mb M D eP eO) (hlen : D.1.1.length ≤ 60) (k : ∀ M1 e1 q, q ∉ D.1.1 → ph_R G c F Mb M1 (d_ap D q hn pn) e1 eO → K (some (.inr (some q))) M1) : mm_Ok l G yy_Me_addPage Y_Me_addPage [.inr (some (c 1)), .inl hn, .inl pn] M K := by
  refine ct_addPage h.1 hlen (fun M1 e1 q hq hW hA => ?_)
  obtain ⟨a1, a2, a3, a4, a5, a6⟩ := hA
  have hqz : mm_k M q = 0 := by
    rcases Nat.eq_zero_or_pos (mm_k M q) with z | z
    · exact z
    · have := h.1.1 q (by omega)
      omega
  have hqg : q ∉ D.1.1 := fun z => by have := h.g7 q z; rw [hqz] at this; cases this
  have nS : ∀ a, mm_k M a ≠ 3 → mm_k M a ≠ 102 → ¬ (a = c 10 ∨ (a = eP ∧ mm_k M eP = 102)) := fun a b1 b2 z => by
    rcases z with z | z
    · rw [z] at b1
      exact b1 h.1.2.2.2.2.2.1.1
    · rw [z.1] at b2
      exact b2 z.2
  have fr : ∀ a, mm_k M a ≠ 0 → mm_k M a ≠ 3 → mm_k M a ≠ 102 → ∀ j, mm_i M1 a j = mm_i M a j ∧ mm_p M1 a j = mm_p M a j := fun a a0 b1 b2 => a1.2.2 a a0 (nS a b1 b2)
  have o8 : ∀ a, mm_k M1 a = 8 → mm_k M a = 8 := fun a ha => by
    rcases a6 a with z | z | z
    · exact z.symm.trans ha
    · rw [z, a2] at ha
      cases ha
    · rw [z] at ha
      cases ha
  have o6 : ∀ a, mm_k M1 a = 6 → mm_k M a = 6 := fun a ha => by
    rcases a6 a with z | z | z
    · exact z.symm.trans ha
    · rw [z, a2] at ha
      cases ha
    · rw [z] at ha
      cases ha
  have f8 : ∀ a, mm_k M a = 8 → ∀ j, mm_i M1 a j = mm_i M a j ∧ mm_p M1 a j = mm_p M a j := fun a ha => fr a (by rw [ha]; decide) (by rw [ha]; decide) (by rw [ha]; decide)
  have f6 : ∀ a, mm_k M a = 6 → ∀ j, mm_i M1 a j = mm_i M a j ∧ mm_p M1 a j = mm_p M a j := fun a ha => fr a (by rw [ha]; decide) (by rw [ha]; decide) (by rw [ha]; decide)
  have ea : ∀ a, mm_k M a = 8 → oo_a M1 a = oo_a M a := fun a ha => by unfold oo_a; rw [(f8 a ha 3).2]
  have eg : ∀ a, mm_k M a = 8 → oo_g M1 a = oo_g M a := fun a ha => by unfold oo_g; rw [(f8 a ha 0).2]
  have dn : ∀ kk j, j ≠ q → (d_ap D q hn pn).2.1 kk j = D.2.1 kk j := fun kk j hj => by
    show (if j = q ∧ kk = 0 then hn else if j = q ∧ kk = 1 then pn else if j = q ∧ kk = 2 then 16 else D.2.1 kk j) = _
    rw [if_neg (fun z => hj z.1), if_neg (fun z => hj z.1), if_neg (fun z => hj z.1)]
  have dk : ∀ kk j, 3 ≤ kk → (d_ap D q hn pn).2.1 kk j = D.2.1 kk j := fun kk j hj => by
    show (if j = q ∧ kk = 0 then hn else if j = q ∧ kk = 1 then pn else if j = q ∧ kk = 2 then 16 else D.2.1 kk j) = _
    rw [if_neg (fun z => by omega), if_neg (fun z => by omega), if_neg (fun z => by omega)]
  refine k M1 e1 q hqg (h.gr (D1 := d_ap D q hn pn) a1.1.2.1 hW (fun a z0 z3 z102 _ j => (fr a z0 z3 z102 j).2) (fun a j ha => ?_) ⟨fun a ha => ?_, fun p hp => ?_⟩ (fun g hg => ?_) (fun a ha => ?_) (fun kk hk j => dk kk j (by omega)) (fun _ _ _ => rfl))
  · rcases ha with z | z | z
    · exact (fr a (by rw [z]; decide) (by rw [z]; decide) (by rw [z]; decide) j).1
    · exact (f6 a z j).1
    · have w := (h.2.2.2.2.2.2.2 a z).1
      exact (fr a (by rcases w with z | z | z | z <;> rw [z] <;> decide) (by rcases w with z | z | z | z <;> rw [z] <;> decide) (by rcases w with z | z | z | z <;> rw [z] <;> decide) j).1
  · have z := o8 a ha
    rw [ea a z, (f8 a z 4).1]
    exact h.2.2.1.1 a z
  · have z := o6 p hp
    have e : pr_a M1 p = pr_a M p := by unfold pr_a; rw [(f6 p z 4).2]
    rw [e]
    exact h.2.2.1.2 p z
  · rcases List.mem_append.mp hg with z | z
    · have hne : g ≠ q := fun w => hqg (by rw [← w]; exact z)
      have hg7 := h.g7 g z
      have e := fr g (by rw [hg7]; decide) (by rw [hg7]; decide) (by rw [hg7]; decide)
      rw [dn 0 g hne, dn 1 g hne, dn 2 g hne, (e 0).1, (e 1).1, (e 2).1]
      exact h.2.2.2.2.1 g z
    · rw [List.mem_singleton.mp z, a3, a4, a5]
      refine ⟨?_, ?_, ?_⟩
      · show _ = if q = q ∧ 0 = 0 then hn else _
        rw [if_pos ⟨rfl, rfl⟩]
      · show _ = if q = q ∧ 1 = 0 then hn else if q = q ∧ 1 = 1 then pn else _
        rw [if_neg (fun z => by cases z.2), if_pos ⟨rfl, rfl⟩]
      · show _ = if q = q ∧ 2 = 0 then hn else if q = q ∧ 2 = 1 then pn else if q = q ∧ 2 = 2 then 16 else _
        rw [if_neg (fun z => by cases z.2), if_neg (fun z => by cases z.2), if_pos ⟨rfl, rfl⟩]
  · have z := h.2.2.2.2.2.1 a ha
    have n := h.x8 a ha
    rw [eg a n, (f8 a n 1).1, (f8 a n 2).1, (f8 a n 5).1, dk 3 a (by omega), dk 4 a (by omega), dk 5 a (by omega)]
    refine ⟨z.1, z.2.1, z.2.2.1, z.2.2.2.1, fun f hf => ?_⟩
    have kaa := (h.1.2.1.1 a n).2.2.2.2.1
    unfold oo_f
    rw [ea a n, (fr _ (by rw [kaa]; decide) (by rw [kaa]; decide) (by rw [kaa]; decide) f).2]
    exact z.2.2.2.2 f hf
end QC
