/-! THE LAW'S LOOP -/
section SZF
variable {l : Launch} {G : mm_G} {M M1 M2 M0 : mm_M} {c : Nat → Nat} {F : Nat → Prop} {a0 : Nat} {ad : Nat → Nat} {N scr len i bc bs : Nat} {xs : Nat → Int32} {K' : mm_M → Prop} {yc ym : MethodName} {Yc Ym : mm_Y}
theorem and31 (x : Int32) : ∃ j : Nat, (x &&& 31) = nI j ∧ j < 32 := by
  refine ⟨(x &&& 31).toBitVec.toNat, ?_, ?_⟩
  · refine Int32.toBitVec_inj.mp ?_
    show _ = BitVec.ofNat 32 _
    rw [BitVec.ofNat_toNat, BitVec.setWidth_eq]
  · have e : (x &&& 31).toBitVec.toNat = x.toBitVec.toNat &&& 31 := rfl
    rw [e]
    exact Nat.lt_succ_of_le Nat.and_le_right
theorem sub5 {i len : Nat} (h1 : i ≤ 3000) (h2 : len ≤ 2561) : (nI len - 5 < nI i) ↔ len < i + 5 := by
  have e5 : (5 : Int32) = nI 5 := rfl
  have a1 : (nI len).toInt = (len : Int) := nI_toInt (by omega)
  have a2 : (nI 5).toInt = ((5 : Nat) : Int) := nI_toInt (by omega)
  have a3 : (nI i).toInt = (i : Int) := nI_toInt (by omega)
  have ed : (nI len - nI 5).toInt = (len : Int) - 5 := by
    rw [Int32.toInt_sub, a1, a2]
    rw [Int.bmod_eq_of_le (by omega) (by omega)]
    rfl
  rw [e5, Int32.lt_iff_toInt_lt, ed, a3]
  omega
theorem afk {vs : List mm_V} {M1 : mm_M} {v : Int32} (h : mm_Ok l G ym Ym (.inr (some a0) :: vs) M1 (fun r M2 => r = some (.inl v) ∧ K' M2)) : mm_Ok l G ym Ym (.inr (some a0) :: vs) M1 (fun r M14 => mm_X M1 M14 → ∃ x17 : Int32, r = some (.inl x17) ∧ (v = x17 → K' M14) ∧ (¬ v = x17 → False)) := h.mono (fun r M2 z _ => ⟨v, z.1, fun _ => z.2, fun w => absurd rfl w⟩)
theorem la1 (hT : Tot G c F a0 ad scr len xs N M) (hi : i + 4 < len) (hlen : len ≤ 2561) (st : mm_Ok l G yc Yc [.inr (some (c 0)), .inl (xs (i + 1))] M (Aft l G a0 scr len xs ym Ym [.inl (xs (i + 1))] K')) :
    mm_k M scr = 106 ∧ ∃ j2 : Nat, (nI i + 1) = nI j2 ∧ j2 < 2147483648 ∧ j2 < mm_l M scr ∧ mm_k M (c 0) = 1 ∧ mm_Ok l G yc Yc [.inr (some (c 0)), .inl (mm_i M scr j2)] M (fun r M6 => mm_X M M6 → ∃ x9 : Int32, r = some (.inl x9) ∧ ∃ j10 : Nat, (nI i + 1) = nI j10 ∧ j10 < 2147483648 ∧ j10 < mm_l M6 scr ∧ mm_k M6 a0 = 9 ∧ mm_Ok l G ym Ym [.inr (some a0), .inl (mm_i M6 scr j10)] M6 (fun r M14 => mm_X M6 M14 → ∃ x17 : Int32, r = some (.inl x17) ∧ (x9 = x17 → K' M14) ∧ (¬ x9 = x17 → False))) := by
  obtain ⟨_, _, ⟨s1, s2, s3⟩, h9, h1, _⟩ := hT
  refine ⟨s1, i + 1, nI_1 i, by omega, by rw [s2]; omega, h1, ?_⟩
  rw [s3 (i + 1) (by omega)]
  refine st.mono (fun r M6 z _ => ?_)
  obtain ⟨v, hr, ⟨l1, l2⟩, k9, ok⟩ := z
  refine ⟨v, hr, i + 1, nI_1 i, by omega, by rw [l1]; omega, k9, ?_⟩
  rw [l2 (i + 1) (by omega)]
  exact afk ok
theorem la2 (hT : Tot G c F a0 ad scr len xs N M) (hi : i + 4 < len) (hlen : len ≤ 2561) (st : mm_Ok l G yc Yc [.inr (some (c 0)), .inl (xs (i + 1)), .inl (xs (i + 2))] M (Aft l G a0 scr len xs ym Ym [.inl (xs (i + 1)), .inl (xs (i + 2))] K')) :
    mm_k M scr = 106 ∧ ∃ j2 : Nat, (nI i + 1) = nI j2 ∧ j2 < 2147483648 ∧ j2 < mm_l M scr ∧ ∃ j6 : Nat, (nI i + 2) = nI j6 ∧ j6 < 2147483648 ∧ j6 < mm_l M scr ∧ mm_k M (c 0) = 1 ∧ mm_Ok l G yc Yc [.inr (some (c 0)), .inl (mm_i M scr j2), .inl (mm_i M scr j6)] M (fun r M10 => mm_X M M10 → ∃ x13 : Int32, r = some (.inl x13) ∧ ∃ j14 : Nat, (nI i + 1) = nI j14 ∧ j14 < 2147483648 ∧ j14 < mm_l M10 scr ∧ ∃ j18 : Nat, (nI i + 2) = nI j18 ∧ j18 < 2147483648 ∧ j18 < mm_l M10 scr ∧ mm_k M10 a0 = 9 ∧ mm_Ok l G ym Ym [.inr (some a0), .inl (mm_i M10 scr j14), .inl (mm_i M10 scr j18)] M10 (fun r M14 => mm_X M10 M14 → ∃ x17 : Int32, r = some (.inl x17) ∧ (x13 = x17 → K' M14) ∧ (¬ x13 = x17 → False))) := by
  obtain ⟨_, _, ⟨s1, s2, s3⟩, h9, h1, _⟩ := hT
  refine ⟨s1, i + 1, nI_1 i, by omega, by rw [s2]; omega, i + 2, nI_add i 2, by omega, by rw [s2]; omega, h1, ?_⟩
  rw [s3 (i + 1) (by omega), s3 (i + 2) (by omega)]
  refine st.mono (fun r M6 z _ => ?_)
  obtain ⟨v, hr, ⟨l1, l2⟩, k9, ok⟩ := z
  refine ⟨v, hr, i + 1, nI_1 i, by omega, by rw [l1]; omega, i + 2, nI_add i 2, by omega, by rw [l1]; omega, k9, ?_⟩
  rw [l2 (i + 1) (by omega), l2 (i + 2) (by omega)]
  exact afk ok
theorem la3 (hT : Tot G c F a0 ad scr len xs N M) (hi : i + 4 < len) (hlen : len ≤ 2561) (st : mm_Ok l G yc Yc [.inr (some (c 0)), .inl (xs (i + 1)), .inl (xs (i + 2)), .inl (xs (i + 3))] M (Aft l G a0 scr len xs ym Ym [.inl (xs (i + 1)), .inl (xs (i + 2)), .inl (xs (i + 3))] K')) :
    mm_k M scr = 106 ∧ ∃ j2 : Nat, (nI i + 1) = nI j2 ∧ j2 < 2147483648 ∧ j2 < mm_l M scr ∧ ∃ j6 : Nat, (nI i + 2) = nI j6 ∧ j6 < 2147483648 ∧ j6 < mm_l M scr ∧ ∃ j10 : Nat, (nI i + 3) = nI j10 ∧ j10 < 2147483648 ∧ j10 < mm_l M scr ∧ mm_k M (c 0) = 1 ∧ mm_Ok l G yc Yc [.inr (some (c 0)), .inl (mm_i M scr j2), .inl (mm_i M scr j6), .inl (mm_i M scr j10)] M (fun r M10 => mm_X M M10 → ∃ x13 : Int32, r = some (.inl x13) ∧ ∃ j14 : Nat, (nI i + 1) = nI j14 ∧ j14 < 2147483648 ∧ j14 < mm_l M10 scr ∧ ∃ j18 : Nat, (nI i + 2) = nI j18 ∧ j18 < 2147483648 ∧ j18 < mm_l M10 scr ∧ ∃ j22 : Nat, (nI i + 3) = nI j22 ∧ j22 < 2147483648 ∧ j22 < mm_l M10 scr ∧ mm_k M10 a0 = 9 ∧ mm_Ok l G ym Ym [.inr (some a0), .inl (mm_i M10 scr j14), .inl (mm_i M10 scr j18), .inl (mm_i M10 scr j22)] M10 (fun r M14 => mm_X M10 M14 → ∃ x17 : Int32, r = some (.inl x17) ∧ (x13 = x17 → K' M14) ∧ (¬ x13 = x17 → False))) := by
  obtain ⟨_, _, ⟨s1, s2, s3⟩, h9, h1, _⟩ := hT
  refine ⟨s1, i + 1, nI_1 i, by omega, by rw [s2]; omega, i + 2, nI_add i 2, by omega, by rw [s2]; omega, i + 3, nI_add i 3, by omega, by rw [s2]; omega, h1, ?_⟩
  rw [s3 (i + 1) (by omega), s3 (i + 2) (by omega), s3 (i + 3) (by omega)]
  refine st.mono (fun r M6 z _ => ?_)
  obtain ⟨v, hr, ⟨l1, l2⟩, k9, ok⟩ := z
  refine ⟨v, hr, i + 1, nI_1 i, by omega, by rw [l1]; omega, i + 2, nI_add i 2, by omega, by rw [l1]; omega, i + 3, nI_add i 3, by omega, by rw [l1]; omega, k9, ?_⟩
  rw [l2 (i + 1) (by omega), l2 (i + 2) (by omega), l2 (i + 3) (by omega)]
  exact afk ok
theorem la4 (hT : Tot G c F a0 ad scr len xs N M) (hi : i + 4 < len) (hlen : len ≤ 2561) (st : mm_Ok l G yc Yc [.inr (some (c 0)), .inl (xs (i + 1)), .inl (xs (i + 2)), .inl (xs (i + 3)), .inl (xs (i + 4))] M (Aft l G a0 scr len xs ym Ym [.inl (xs (i + 1)), .inl (xs (i + 2)), .inl (xs (i + 3)), .inl (xs (i + 4))] K')) :
    mm_k M scr = 106 ∧ ∃ j2 : Nat, (nI i + 1) = nI j2 ∧ j2 < 2147483648 ∧ j2 < mm_l M scr ∧ ∃ j6 : Nat, (nI i + 2) = nI j6 ∧ j6 < 2147483648 ∧ j6 < mm_l M scr ∧ ∃ j10 : Nat, (nI i + 3) = nI j10 ∧ j10 < 2147483648 ∧ j10 < mm_l M scr ∧ ∃ j14 : Nat, (nI i + 4) = nI j14 ∧ j14 < 2147483648 ∧ j14 < mm_l M scr ∧ mm_k M (c 0) = 1 ∧ mm_Ok l G yc Yc [.inr (some (c 0)), .inl (mm_i M scr j2), .inl (mm_i M scr j6), .inl (mm_i M scr j10), .inl (mm_i M scr j14)] M (fun r M10 => mm_X M M10 → ∃ x13 : Int32, r = some (.inl x13) ∧ ∃ j14 : Nat, (nI i + 1) = nI j14 ∧ j14 < 2147483648 ∧ j14 < mm_l M10 scr ∧ ∃ j18 : Nat, (nI i + 2) = nI j18 ∧ j18 < 2147483648 ∧ j18 < mm_l M10 scr ∧ ∃ j22 : Nat, (nI i + 3) = nI j22 ∧ j22 < 2147483648 ∧ j22 < mm_l M10 scr ∧ ∃ j26 : Nat, (nI i + 4) = nI j26 ∧ j26 < 2147483648 ∧ j26 < mm_l M10 scr ∧ mm_k M10 a0 = 9 ∧ mm_Ok l G ym Ym [.inr (some a0), .inl (mm_i M10 scr j14), .inl (mm_i M10 scr j18), .inl (mm_i M10 scr j22), .inl (mm_i M10 scr j26)] M10 (fun r M14 => mm_X M10 M14 → ∃ x17 : Int32, r = some (.inl x17) ∧ (x13 = x17 → K' M14) ∧ (¬ x13 = x17 → False))) := by
  obtain ⟨_, _, ⟨s1, s2, s3⟩, h9, h1, _⟩ := hT
  refine ⟨s1, i + 1, nI_1 i, by omega, by rw [s2]; omega, i + 2, nI_add i 2, by omega, by rw [s2]; omega, i + 3, nI_add i 3, by omega, by rw [s2]; omega, i + 4, nI_add i 4, by omega, by rw [s2]; omega, h1, ?_⟩
  rw [s3 (i + 1) (by omega), s3 (i + 2) (by omega), s3 (i + 3) (by omega), s3 (i + 4) (by omega)]
  refine st.mono (fun r M6 z _ => ?_)
  obtain ⟨v, hr, ⟨l1, l2⟩, k9, ok⟩ := z
  refine ⟨v, hr, i + 1, nI_1 i, by omega, by rw [l1]; omega, i + 2, nI_add i 2, by omega, by rw [l1]; omega, i + 3, nI_add i 3, by omega, by rw [l1]; omega, i + 4, nI_add i 4, by omega, by rw [l1]; omega, k9, ?_⟩
  rw [l2 (i + 1) (by omega), l2 (i + 2) (by omega), l2 (i + 3) (by omega), l2 (i + 4) (by omega)]
  exact afk ok
theorem mm_Zq.up {Y : mm_Y} {Ex : State → Array Value → Prop} {Qf : List Frame → Array Value → State → State → Prop} {pc bc1 bs1 : Nat} {ls : List (Option mm_V)} {st : List mm_V} (h : mm_Zq l G Y Ex Qf M0 bc bs pc ls st M) (h1 : bc ≤ bc1) (h2 : bs ≤ bs1) : mm_Zq l G Y Ex Qf M0 bc1 bs1 pc ls st M := by
  intro p e s m args below meth c' H locs cells slots la hJ hT hL hc hs
  exact h p e s m args below meth c' H locs cells slots la hJ hT hL (by omega) (by omega)
/-- one call -/
theorem law_call (hT : Tot G c F a0 ad scr len xs N M) (hN : N + 200 < 1000000000) (hi : i + 4 < len) (hlen : len ≤ 2561) (k : ∀ M2, Tot G c F a0 ad scr len xs (N + 200) M2 → mm_Zq l G Y_La_law (lx_E G scr) lx_Qf M0 bc bs 828 [some (.inr (some scr)), some (.inr (some (c 0))), some (.inr (some a0)), some (.inl (nI i))] [] M2) (kn : mm_Zq l G Y_La_law (lx_E G scr) lx_Qf M0 bc bs 828 [some (.inr (some scr)), some (.inr (some (c 0))), some (.inr (some a0)), some (.inl (nI i))] [] M) :
    mm_Zq l G Y_La_law (lx_E G scr) lx_Qf M0 (bc + 7) (bs + 315) 36 [some (.inr (some scr)), some (.inr (some (c 0))), some (.inr (some a0)), some (.inl (nI i))] [] M := by
  obtain ⟨_, _, ⟨s1, s2, s3⟩, h9, h1, _⟩ := id hT
  obtain ⟨j, hj, hj32⟩ := and31 (mm_i M scr i)
  refine sg_La_law_36 ⟨s1, i, rfl, by omega, by rw [s2]; omega, j, hj, hj32, fun _ => kn.up (by omega) (by omega), fun _ => ?_, fun _ => (sg_La_law_195 (la1 hT hi hlen (st_kill hT hN k))).up (by omega) (by omega), fun _ => ?_, fun _ => sg_La_law_267 (la4 hT hi hlen (st_make hT hN k)), fun _ => (sg_La_law_320 (la4 hT hi hlen (st_store hT hN k))).up (by omega) (by omega), fun _ => (sg_La_law_373 (la4 hT hi hlen (st_load hT hN k))).up (by omega) (by omega), fun _ => (sg_La_law_426 (la3 hT hi hlen (st_move hT hN k))).up (by omega) (by omega), fun _ => (sg_La_law_469 (la1 hT hi hlen (st_begin hT hN k))).up (by omega) (by omega), fun _ => (sg_La_law_492 (la2 hT hi hlen (st_freeze hT hN k))).up (by omega) (by omega), fun _ => (sg_La_law_525 (la3 hT hi hlen (st_lookup hT hN k))).up (by omega) (by omega), fun _ => (sg_La_law_568 (la1 hT hi hlen (st_collect hT hN k))).up (by omega) (by omega), fun _ => (sg_La_law_591 (la1 hT hi hlen (st_state hT hN k))).up (by omega) (by omega), fun _ => (sg_La_law_614 (la1 hT hi hlen (st_pages hT hN k))).up (by omega) (by omega), fun _ => (sg_La_law_637 (la1 hT hi hlen (st_objects hT hN k))).up (by omega) (by omega), fun _ => (sg_La_law_660 (la1 hT hi hlen (st_items hT hN k))).up (by omega) (by omega), fun _ => (sg_La_law_683 (la1 hT hi hlen (st_use hT hN k))).up (by omega) (by omega), fun _ => (sg_La_law_706 (la1 hT hi hlen (st_room hT hN k))).up (by omega) (by omega), fun _ => (sg_La_law_729 (la2 hT hi hlen (st_shares hT hN k))).up (by omega) (by omega), fun _ => (sg_La_law_762 (la2 hT hi hlen (st_where hT hN k))).up (by omega) (by omega), fun _ => (sg_La_law_795 (la2 hT hi hlen (st_tag hT hN k))).up (by omega) (by omega)⟩
  · refine mm_Zq.up (bc := bc + 2) (bs := bs + 12) (sg_La_law_136 ⟨s1, i + 1, nI_1 i, by omega, by rw [s2]; omega, i + 2, nI_add i 2, by omega, by rw [s2]; omega, i + 3, nI_add i 3, by omega, by rw [s2]; omega, fun w => ⟨h1, ?_⟩, fun w => ⟨h1, ?_⟩⟩) (by omega) (by omega)
    · rw [s3 (i + 1) (by omega), s3 (i + 2) (by omega)]
      rw [s3 (i + 3) (by omega)] at w
      refine (st_spawn (z := 0) hT hN k (Or.inl rfl)).mono (fun r M6 zz _ => ?_)
      obtain ⟨v, hr, ⟨l1, l2⟩, k9, ok⟩ := zz
      refine ⟨v, hr, i + 1, nI_1 i, by omega, by rw [l1]; omega, i + 2, nI_add i 2, by omega, by rw [l1]; omega, i + 3, nI_add i 3, by omega, by rw [l1]; omega, fun _ => ⟨k9, ?_⟩, fun w2 => absurd (by rw [l2 (i + 3) (by omega)]; exact w) w2⟩
      rw [l2 (i + 1) (by omega), l2 (i + 2) (by omega)]
      exact afk ok
    · rw [s3 (i + 1) (by omega), s3 (i + 2) (by omega)]
      rw [s3 (i + 3) (by omega)] at w
      refine (st_spawn (z := 1) hT hN k (Or.inr rfl)).mono (fun r M6 zz _ => ?_)
      obtain ⟨v, hr, ⟨l1, l2⟩, k9, ok⟩ := zz
      refine ⟨v, hr, i + 1, nI_1 i, by omega, by rw [l1]; omega, i + 2, nI_add i 2, by omega, by rw [l1]; omega, i + 3, nI_add i 3, by omega, by rw [l1]; omega, fun w2 => absurd (by rw [l2 (i + 3) (by omega)] at w2; exact w2) w, fun _ => ⟨k9, ?_⟩⟩
      rw [l2 (i + 1) (by omega), l2 (i + 2) (by omega)]
      exact afk ok
  · refine mm_Zq.up (bc := bc) (bs := bs) (sg_La_law_218 ⟨s1, i + 1, nI_1 i, by omega, by rw [s2]; omega, i + 2, nI_add i 2, by omega, by rw [s2]; omega, fun w => ⟨h1, ?_⟩, fun w => ⟨h1, ?_⟩⟩) (by omega) (by omega)
    · rw [s3 (i + 1) (by omega)]
      rw [s3 (i + 2) (by omega)] at w
      refine (st_mode (y := 0) hT hN k (Or.inl rfl)).mono (fun r M6 zz _ => ?_)
      obtain ⟨v, hr, ⟨l1, l2⟩, k9, ok⟩ := zz
      refine ⟨v, hr, i + 1, nI_1 i, by omega, by rw [l1]; omega, i + 2, nI_add i 2, by omega, by rw [l1]; omega, fun _ => ⟨k9, ?_⟩, fun w2 => absurd (by rw [l2 (i + 2) (by omega)]; exact w) w2⟩
      rw [l2 (i + 1) (by omega)]
      exact afk ok
    · rw [s3 (i + 1) (by omega)]
      rw [s3 (i + 2) (by omega)] at w
      refine (st_mode (y := 1) hT hN k (Or.inr rfl)).mono (fun r M6 zz _ => ?_)
      obtain ⟨v, hr, ⟨l1, l2⟩, k9, ok⟩ := zz
      refine ⟨v, hr, i + 1, nI_1 i, by omega, by rw [l1]; omega, i + 2, nI_add i 2, by omega, by rw [l1]; omega, fun w2 => absurd (by rw [l2 (i + 2) (by omega)] at w2; exact w2) w, fun _ => ⟨k9, ?_⟩⟩
      rw [l2 (i + 1) (by omega)]
      exact afk ok
theorem law_loop (hlen : len ≤ 2561) : ∀ (d i N : Nat) (M : mm_M), Tot G c F a0 ad scr len xs N M → N + 200 * d < 1000000000 → len ≤ i + 5 * d + 4 → i ≤ 3000 → mm_Zq l G Y_La_law (lx_E G scr) lx_Qf M0 (bc + 7 * d) (bs + 315 * d) 28 [some (.inr (some scr)), some (.inr (some (c 0))), some (.inr (some a0)), some (.inl (nI i))] [] M := by
  intro d
  induction d with
  | zero =>
    intro i N M hT hN hl hi
    obtain ⟨_, _, ⟨s1, s2, s3⟩, h9, h1, _⟩ := id hT
    refine sg_La_law_28 ⟨s1, fun _ => trivial, fun w => ?_⟩
    rw [s2] at w
    exact absurd ((sub5 hi hlen).mpr (by omega)) w
  | succ d ih =>
    intro i N M hT hN hl hi
    obtain ⟨_, _, ⟨s1, s2, s3⟩, h9, h1, _⟩ := id hT
    refine sg_La_law_28 ⟨s1, fun _ => trivial, fun w => ?_⟩
    rw [s2] at w
    have hle : i + 4 < len := Nat.lt_of_not_le fun z => w ((sub5 hi hlen).mpr (by omega))
    have nxt : ∀ N1 M2, Tot G c F a0 ad scr len xs N1 M2 → N1 + 200 * d < 1000000000 → mm_Zq l G Y_La_law (lx_E G scr) lx_Qf M0 (bc + 7 * d) (bs + 315 * d) 828 [some (.inr (some scr)), some (.inr (some (c 0))), some (.inr (some a0)), some (.inl (nI i))] [] M2 := fun N1 M2 hT2 hN2 => by
      refine sg_La_law_828 ?_
      rw [show nI i + 5 = nI (i + 5) from nI_add i 5]
      exact ih (i + 5) N1 M2 hT2 hN2 (by omega) (by omega)
    rw [show bc + 7 * (d + 1) = bc + 7 * d + 7 from by omega, show bs + 315 * (d + 1) = bs + 315 * d + 315 from by omega]
    exact law_call (bc := bc + 7 * d) (bs := bs + 315 * d) hT (by omega) hle hlen (fun M2 hT2 => nxt (N + 200) M2 hT2 (by omega)) (nxt N M hT (by omega))
end SZF
