/-! EACH CALL ON BOTH: the same answer -/
def Aft (l : Launch) (G : mm_G) (a0 scr len : Nat) (xs : Nat → Int32) (y : MethodName) (Y : mm_Y) (vs : List mm_V) (K' : mm_M → Prop) : Option mm_V → mm_M → Prop := fun r M1 => ∃ v : Int32, r = some (.inl v) ∧ (mm_l M1 scr = len ∧ ∀ j, j < len → mm_i M1 scr j = xs j) ∧ mm_k M1 a0 = 9 ∧ mm_Ok l G y Y (.inr (some a0) :: vs) M1 (fun r M2 => r = some (.inl v) ∧ K' M2)
section SZE
variable {l : Launch} {G : mm_G} {M M1 M2 Mb : mm_M} {c : Nat → Nat} {F S : Nat → Prop} {D D1 : ph_D} {eP eO eP1 eO1 : Nat} {a0 : Nat} {ad : Nat → Nat} {b : rB} {L : Nat → Int32} {pg ob : Nat → Nat} {N scr len : Nat} {xs : Nat → Int32} {K' : mm_M → Prop} {v x y z w : Int32}
theorem aft {ym : MethodName} {Ym : mm_Y} {vs : List mm_V} (hC : ∀ a, mo_C a0 ad a → F a) (hsF : F scr ∧ ¬ mo_C a0 ad scr) (hsc : mm_k M scr = 106 ∧ mm_l M scr = len ∧ ∀ j, j < len → mm_i M scr j = xs j) (h9 : mm_k M a0 = 9) (hS : mo_S a0 ad M M (ra L b)) (k : ∀ M2, Tot G c F a0 ad scr len xs (N + 200) M2 → K' M2) (g1 : ph_R G c F M M1 D1 eP1 eO1) (hq : mo_Ok l G ym Ym (.inr (some a0) :: vs) a0 ad M1 (ra L b) (Nxt N D1 v)) : Aft l G a0 scr len xs ym Ym vs K' (some (.inl v)) M1 := by
  have hF := g1.2.2.2.2.2.2.2
  have hs := hF scr hsF.1
  refine ⟨v, rfl, ⟨?_, fun j hj => ?_⟩, ?_, jn hC hsF hsc hS g1 hq k⟩
  · rw [hs.2.2.2.1]
    exact hsc.2.1
  · rw [(hs.2.2.2.2 j).1]
    exact hsc.2.2 j hj
  · rw [(hF a0 (hC a0 (Or.inl rfl))).2.2.1]
    exact h9
theorem rmk_ex (b : rB) (h : Nat) : ∃ m : Nat → Nat, rmk b h m := by
  refine ⟨fun x => @ite Nat (b 6 x = h + 1 ∧ rR b h x) (Classical.propDecidable _) 1 0, fun x => ?_, fun x hx => ?_⟩
  · show @ite Nat (b 6 x = h + 1 ∧ rR b h x) (Classical.propDecidable _) 1 0 ≤ 1
    split <;> omega
  · show @ite Nat (b 6 x = h + 1 ∧ rR b h x) (Classical.propDecidable _) 1 0 ≠ 0 ↔ _
    split
    · rename_i c
      exact ⟨fun _ => c, fun _ => by decide⟩
    · rename_i c
      exact ⟨fun z => absurd rfl z, fun z => absurd z c⟩
theorem st_state (hT : Tot G c F a0 ad scr len xs N M) (hN : N + 200 < 1000000000) (k : ∀ M2, Tot G c F a0 ad scr len xs (N + 200) M2 → K' M2) : mm_Ok l G yy_PH_state Y_PH_state [.inr (some (c 0)), .inl x] M (Aft l G a0 scr len xs yy_Mo_state Y_Mo_state [.inl x] K') := by
  obtain ⟨hC, hsF, hsc, h9, h1, D, b, L, pg, ob, eP, eO, hR, hS, h⟩ := hT
  exact cp_state hR (fun w => aft hC hsF hsc h9 hS k hR (pu_state0 h hN w)) (fun p hp e => aft hC hsF hsc h9 hS k hR (pu_state1 h hN hp e))
theorem st_pages (hT : Tot G c F a0 ad scr len xs N M) (hN : N + 200 < 1000000000) (k : ∀ M2, Tot G c F a0 ad scr len xs (N + 200) M2 → K' M2) : mm_Ok l G yy_PH_pages Y_PH_pages [.inr (some (c 0)), .inl x] M (Aft l G a0 scr len xs yy_Mo_pages Y_Mo_pages [.inl x] K') := by
  obtain ⟨hC, hsF, hsc, h9, h1, D, b, L, pg, ob, eP, eO, hR, hS, h⟩ := hT
  exact cp_pages hR (aft hC hsF hsc h9 hS k hR (pu_pages h hN))
theorem st_objects (hT : Tot G c F a0 ad scr len xs N M) (hN : N + 200 < 1000000000) (k : ∀ M2, Tot G c F a0 ad scr len xs (N + 200) M2 → K' M2) : mm_Ok l G yy_PH_objects Y_PH_objects [.inr (some (c 0)), .inl x] M (Aft l G a0 scr len xs yy_Mo_objects Y_Mo_objects [.inl x] K') := by
  obtain ⟨hC, hsF, hsc, h9, h1, D, b, L, pg, ob, eP, eO, hR, hS, h⟩ := hT
  exact cp_objects h.2.2.2.2.2.1 hR (aft hC hsF hsc h9 hS k hR (pu_objects h hN))
theorem st_items (hT : Tot G c F a0 ad scr len xs N M) (hN : N + 200 < 1000000000) (k : ∀ M2, Tot G c F a0 ad scr len xs (N + 200) M2 → K' M2) : mm_Ok l G yy_PH_items Y_PH_items [.inr (some (c 0)), .inl x] M (Aft l G a0 scr len xs yy_Mo_items Y_Mo_items [.inl x] K') := by
  obtain ⟨hC, hsF, hsc, h9, h1, D, b, L, pg, ob, eP, eO, hR, hS, h⟩ := hT
  exact cp_items hR (fun w => aft hC hsF hsc h9 hS k hR (pu_items0 h hN w)) (fun i hi e => aft hC hsF hsc h9 hS k hR (pu_items1 h hN hi e))
theorem st_use (hT : Tot G c F a0 ad scr len xs N M) (hN : N + 200 < 1000000000) (k : ∀ M2, Tot G c F a0 ad scr len xs (N + 200) M2 → K' M2) : mm_Ok l G yy_PH_use Y_PH_use [.inr (some (c 0)), .inl x] M (Aft l G a0 scr len xs yy_Mo_use Y_Mo_use [.inl x] K') := by
  obtain ⟨hC, hsF, hsc, h9, h1, D, b, L, pg, ob, eP, eO, hR, hS, h⟩ := hT
  exact cp_use hR (h.1.tr h.2.1.2.2.2.2.1 h.2.2.2.2.1) (h.1.gh h.2.2.2.2.1) (fun M1 g w => aft hC hsF hsc h9 hS k g (pu_use0 h hN w)) (fun M1 p g hp e => aft hC hsF hsc h9 hS k g (pu_use1 h hN hp e))
theorem st_room (hT : Tot G c F a0 ad scr len xs N M) (hN : N + 200 < 1000000000) (k : ∀ M2, Tot G c F a0 ad scr len xs (N + 200) M2 → K' M2) : mm_Ok l G yy_PH_room Y_PH_room [.inr (some (c 0)), .inl x] M (Aft l G a0 scr len xs yy_Mo_room Y_Mo_room [.inl x] K') := by
  obtain ⟨hC, hsF, hsc, h9, h1, D, b, L, pg, ob, eP, eO, hR, hS, h⟩ := hT
  exact cp_room hR (h.1.tr h.2.1.2.2.2.2.1 h.2.2.2.2.1) (h.1.gh h.2.2.2.2.1) (fun M1 g w => aft hC hsF hsc h9 hS k g (pu_room0 h hN w)) (fun M1 p g hp e => aft hC hsF hsc h9 hS k g (pu_room1 h hN hp e))
theorem st_shares (hT : Tot G c F a0 ad scr len xs N M) (hN : N + 200 < 1000000000) (k : ∀ M2, Tot G c F a0 ad scr len xs (N + 200) M2 → K' M2) : mm_Ok l G yy_PH_shares Y_PH_shares [.inr (some (c 0)), .inl x, .inl y] M (Aft l G a0 scr len xs yy_Mo_shares Y_Mo_shares [.inl x, .inl y] K') := by
  obtain ⟨hC, hsF, hsc, h9, h1, D, b, L, pg, ob, eP, eO, hR, hS, h⟩ := hT
  exact cp_shares hR (fun w => aft hC hsF hsc h9 hS k hR (pu_shares0 h hN w)) (fun p i hd hi e1 e2 hb => aft hC hsF hsc h9 hS k hR (pu_shares1 h hN hd hi e1 e2 hb))
theorem st_where (hT : Tot G c F a0 ad scr len xs N M) (hN : N + 200 < 1000000000) (k : ∀ M2, Tot G c F a0 ad scr len xs (N + 200) M2 → K' M2) : mm_Ok l G yy_PH_where Y_PH_where [.inr (some (c 0)), .inl x, .inl y] M (Aft l G a0 scr len xs yy_Mo_where Y_Mo_where [.inl x, .inl y] K') := by
  obtain ⟨hC, hsF, hsc, h9, h1, D, b, L, pg, ob, eP, eO, hR, hS, h⟩ := hT
  exact cp_where h.2.2.2.2.2.1 (h.1.rg h.2.1 h.2.2.2.2.1) hR (fun w => aft hC hsF hsc h9 hS k hR (pu_where0 h hN w)) (fun p r hd hr e1 e2 => aft hC hsF hsc h9 hS k hR (pu_where1 h hN hd hr e1 e2))
theorem st_tag (hT : Tot G c F a0 ad scr len xs N M) (hN : N + 200 < 1000000000) (k : ∀ M2, Tot G c F a0 ad scr len xs (N + 200) M2 → K' M2) : mm_Ok l G yy_PH_tag Y_PH_tag [.inr (some (c 0)), .inl x, .inl y] M (Aft l G a0 scr len xs yy_Mo_tag Y_Mo_tag [.inl x, .inl y] K') := by
  obtain ⟨hC, hsF, hsc, h9, h1, D, b, L, pg, ob, eP, eO, hR, hS, h⟩ := hT
  exact cp_tag (h.1.rg h.2.1 h.2.2.2.2.1) hR (fun w => aft hC hsF hsc h9 hS k hR (pu_tag0 h hN w)) (fun p r hd hr e1 e2 => aft hC hsF hsc h9 hS k hR (pu_tag1 h hN hd hr e1 e2))
theorem st_collect (hT : Tot G c F a0 ad scr len xs N M) (hN : N + 200 < 1000000000) (k : ∀ M2, Tot G c F a0 ad scr len xs (N + 200) M2 → K' M2) : mm_Ok l G yy_PH_collect Y_PH_collect [.inr (some (c 0)), .inl x] M (Aft l G a0 scr len xs yy_Mo_collect Y_Mo_collect [.inl x] K') := by
  obtain ⟨hC, hsF, hsc, h9, h1, D, b, L, pg, ob, eP, eO, hR, hS, h⟩ := hT
  exact cp_collect h.2.2.2.2.2 (h.1.rg h.2.1 h.2.2.2.2.1) (h.1.fl h.2.1 h.2.2.2.2.1) hR (fun h8 w => aft hC hsF hsc h9 hS k hR (pu_collect0 h hN h8 w)) (fun n M1 rs e hn _ hrs g => aft hC hsF hsc h9 hS k g (pu_collect1 h hN e hn hrs))
theorem st_kill (hT : Tot G c F a0 ad scr len xs N M) (hN : N + 200 < 1000000000) (k : ∀ M2, Tot G c F a0 ad scr len xs (N + 200) M2 → K' M2) : mm_Ok l G yy_PH_kill Y_PH_kill [.inr (some (c 0)), .inl x] M (Aft l G a0 scr len xs yy_Mo_kill Y_Mo_kill [.inl x] K') := by
  obtain ⟨hC, hsF, hsc, h9, h1, D, b, L, pg, ob, eP, eO, hR, hS, h⟩ := hT
  exact cp_kill h.2.2.2.2.2 hR (fun w => aft hC hsF hsc h9 hS k hR (pu_kill0 h hN w)) (fun p M1 hd e h0 _ h2 g => aft hC hsF hsc h9 hS k g (pu_kill1 h hN hd e h0 h2)) (fun p M1 hd e h0 h3 h2 g => aft hC hsF hsc h9 hS k g (pu_kill2 h hN hd e h0 h3 h2))
theorem st_mode (hT : Tot G c F a0 ad scr len xs N M) (hN : N + 200 < 1000000000) (k : ∀ M2, Tot G c F a0 ad scr len xs (N + 200) M2 → K' M2) (hy : y = 0 ∨ y = 1) : mm_Ok l G yy_PH_mode Y_PH_mode [.inr (some (c 0)), .inl x, .inl y] M (Aft l G a0 scr len xs yy_Mo_mode Y_Mo_mode [.inl x, .inl y] K') := by
  obtain ⟨hC, hsF, hsc, h9, h1, D, b, L, pg, ob, eP, eO, hR, hS, h⟩ := hT
  exact cp_mode h.2.2.2.2.2 hR (fun w => aft hC hsF hsc h9 hS k hR (pu_mode0 h hN hy w)) (fun p M1 hd e hk h3 g => aft hC hsF hsc h9 hS k g (pu_mode1 h hN hy hd e hk h3)) (fun p M1 hd e hk h3 g => aft hC hsF hsc h9 hS k g (pu_mode2 h hN hy hd e hk h3))
theorem st_begin (hT : Tot G c F a0 ad scr len xs N M) (hN : N + 200 < 1000000000) (k : ∀ M2, Tot G c F a0 ad scr len xs (N + 200) M2 → K' M2) : mm_Ok l G yy_PH_begin Y_PH_begin [.inr (some (c 0)), .inl x] M (Aft l G a0 scr len xs yy_Mo_begin Y_Mo_begin [.inl x] K') := by
  obtain ⟨hC, hsF, hsc, h9, h1, D, b, L, pg, ob, eP, eO, hR, hS, h⟩ := hT
  exact cp_begin hR (fun w => aft hC hsF hsc h9 hS k hR (pu_begin0 h hN w)) (fun p hd e e10 h13 => aft hC hsF hsc h9 hS k hR (pu_begin1 h hN hd e e10 h13)) (fun p M1 hd e e10 h13 g => aft hC hsF hsc h9 hS k g (pu_begin2 h hN hd e e10 h13))
theorem st_move (hT : Tot G c F a0 ad scr len xs N M) (hN : N + 200 < 1000000000) (k : ∀ M2, Tot G c F a0 ad scr len xs (N + 200) M2 → K' M2) : mm_Ok l G yy_PH_move Y_PH_move [.inr (some (c 0)), .inl x, .inl y, .inl z] M (Aft l G a0 scr len xs yy_Mo_move Y_Mo_move [.inl x, .inl y, .inl z] K') := by
  obtain ⟨hC, hsF, hsc, h9, h1, D, b, L, pg, ob, eP, eO, hR, hS, h⟩ := hT
  exact cp_move (h.1.rg h.2.1 h.2.2.2.2.1) hR (fun w => aft hC hsF hsc h9 hS k hR (pu_move0 h hN w)) (fun p r M1 hd hr e1 e2 e3 g => aft hC hsF hsc h9 hS k g (pu_move1 h hN hd hr e1 e2 e3)) (fun p r s M1 hd hr hs e1 e2 e3 g => aft hC hsF hsc h9 hS k g (pu_move2 h hN hd hr hs e1 e2 e3))
theorem st_load (hT : Tot G c F a0 ad scr len xs N M) (hN : N + 200 < 1000000000) (k : ∀ M2, Tot G c F a0 ad scr len xs (N + 200) M2 → K' M2) : mm_Ok l G yy_PH_load Y_PH_load [.inr (some (c 0)), .inl x, .inl y, .inl z, .inl w] M (Aft l G a0 scr len xs yy_Mo_load Y_Mo_load [.inl x, .inl y, .inl z, .inl w] K') := by
  obtain ⟨hC, hsF, hsc, h9, h1, D, b, L, pg, ob, eP, eO, hR, hS, h⟩ := hT
  exact cp_load h.2.2.2.2.2.1 (h.1.gh h.2.2.2.2.1) (h.1.rg h.2.1 h.2.2.2.2.1) (h.1.fl h.2.1 h.2.2.2.2.1) hR (fun w => aft hC hsF hsc h9 hS k hR ((pu_load h hN).1 w)) (fun p r s f hd e => aft hC hsF hsc h9 hS k hR ((pu_load h hN).2.1 p r s f hd e)) (fun p r s f a hd e e2 => aft hC hsF hsc h9 hS k hR ((pu_load h hN).2.2.1 p r s f a hd e e2)) (fun p r s f a M1 hd e e2 g => aft hC hsF hsc h9 hS k g ((pu_load h hN).2.2.2 p r s f a hd e e2))
theorem st_store (hT : Tot G c F a0 ad scr len xs N M) (hN : N + 200 < 1000000000) (k : ∀ M2, Tot G c F a0 ad scr len xs (N + 200) M2 → K' M2) : mm_Ok l G yy_PH_store Y_PH_store [.inr (some (c 0)), .inl x, .inl y, .inl z, .inl w] M (Aft l G a0 scr len xs yy_Mo_store Y_Mo_store [.inl x, .inl y, .inl z, .inl w] K') := by
  obtain ⟨hC, hsF, hsc, h9, h1, D, b, L, pg, ob, eP, eO, hR, hS, h⟩ := hT
  exact cp_store h.2.2.2.2.2.1 (h.1.gh h.2.2.2.2.1) (h.1.rg h.2.1 h.2.2.2.2.1) hR (fun w => aft hC hsF hsc h9 hS k hR ((pu_store h hN).1 w)) (fun p r s f hd e => aft hC hsF hsc h9 hS k hR ((pu_store h hN).2.1 p r s f hd e)) (fun p r s f a hd e e2 => aft hC hsF hsc h9 hS k hR ((pu_store h hN).2.2.1 p r s f a hd e e2)) (fun p r s f a M1 hd e e2 g => aft hC hsF hsc h9 hS k g ((pu_store h hN).2.2.2 p r s f a hd e e2))
theorem st_freeze (hT : Tot G c F a0 ad scr len xs N M) (hN : N + 200 < 1000000000) (k : ∀ M2, Tot G c F a0 ad scr len xs (N + 200) M2 → K' M2) : mm_Ok l G yy_PH_freeze Y_PH_freeze [.inr (some (c 0)), .inl x, .inl y] M (Aft l G a0 scr len xs yy_Mo_freeze Y_Mo_freeze [.inl x, .inl y] K') := by
  obtain ⟨hC, hsF, hsc, h9, h1, D, b, L, pg, ob, eP, eO, hR, hS, h⟩ := hT
  exact cp_freeze h.2.2.2.2.2.1 (h.1.bl h.2.1.2.2.2.2.1) (h.1.rg h.2.1 h.2.2.2.2.1) hR (fun w => aft hC hsF hsc h9 hS k hR (pu_freeze0 h hN w)) (fun p r i a M1 hd hr e1 e2 i9 i13 e10 hreg hh g => aft hC hsF hsc h9 hS k g (pu_freeze1 h hN hd hr e1 e2 i9 i13 e10 hreg hh))
theorem st_spawn (hT : Tot G c F a0 ad scr len xs N M) (hN : N + 200 < 1000000000) (k : ∀ M2, Tot G c F a0 ad scr len xs (N + 200) M2 → K' M2) (hz : z = 0 ∨ z = 1) : mm_Ok l G yy_PH_spawn Y_PH_spawn [.inr (some (c 0)), .inl x, .inl y, .inl z] M (Aft l G a0 scr len xs yy_Mo_spawn Y_Mo_spawn [.inl x, .inl y, .inl z] K') := by
  obtain ⟨hC, hsF, hsc, h9, h1, D, b, L, pg, ob, eP, eO, hR, hS, h⟩ := hT
  exact cp_spawn hz (h.1.tr h.2.1.2.2.2.2.1 h.2.2.2.2.1) (h.1.gh h.2.2.2.2.1) hR (fun w => aft hC hsF hsc h9 hS k hR (pu_spawn0 h hN hz w)) (fun p hd e y1 y2 e8 => aft hC hsF hsc h9 hS k hR (pu_spawn1 h hN hz hd e y1 y2 e8)) (fun p M1 hd e y1 y2 e8 z0 hS' g => aft hC hsF hsc h9 hS k g (pu_spawn2 h hN hz hd e y1 y2 e8 z0 hS')) (fun p q M1 hd e y1 y2 e8 hS' g => aft hC hsF hsc h9 hS k g (pu_spawn3 h hN hz hd e y1 y2 e8 hS' q))
theorem st_lookup (hT : Tot G c F a0 ad scr len xs N M) (hN : N + 200 < 1000000000) (k : ∀ M2, Tot G c F a0 ad scr len xs (N + 200) M2 → K' M2) : mm_Ok l G yy_PH_lookup Y_PH_lookup [.inr (some (c 0)), .inl x, .inl y, .inl z] M (Aft l G a0 scr len xs yy_Mo_lookup Y_Mo_lookup [.inl x, .inl y, .inl z] K') := by
  obtain ⟨hC, hsF, hsc, h9, h1, D, b, L, pg, ob, eP, eO, hR, hS, h⟩ := hT
  refine cp_lookup h.2.2.2.2.2 (h.1.rg h.2.1 h.2.2.2.2.1) (h.1.fl h.2.1 h.2.2.2.2.1) (h.1.tr h.2.1.2.2.2.2.1 h.2.2.2.2.1) (h.1.gh h.2.2.2.2.1) hR (fun w => aft hC hsF hsc h9 hS k hR (pu_lookup0 h hN w)) (fun p i r M1 hd hc g => aft hC hsF hsc h9 hS k g (pu_lookup1 h hN hd hc)) (fun p i r M1 hd hc hn g => aft hC hsF hsc h9 hS k g (pu_lookup2 h hN hd hc hn)) (fun p i r M1 rs hd hc hn _ hrs g => ⟨?_, fun M2 e g2 => aft hC hsF hsc h9 hS k g2 ((pu_lookup3 h hN hd hc hn hrs).1 e), fun M2 e g2 => aft hC hsF hsc h9 hS k g2 ((pu_lookup3 h hN hd hc hn hrs).2 e)⟩)
  have hl := h.liv.mp hd.1
  obtain ⟨m, hm⟩ := rmk_ex b p
  have hcol := h.col (Or.inr hl) hm hrs
  exact ⟨hcol.1.tr hcol.2.1.2.2.2.2.1 hcol.2.2.2.2.1, hcol.1.gh hcol.2.2.2.2.1⟩
theorem st_make (hT : Tot G c F a0 ad scr len xs N M) (hN : N + 200 < 1000000000) (k : ∀ M2, Tot G c F a0 ad scr len xs (N + 200) M2 → K' M2) : mm_Ok l G yy_PH_make Y_PH_make [.inr (some (c 0)), .inl x, .inl y, .inl z, .inl w] M (Aft l G a0 scr len xs yy_Mo_make Y_Mo_make [.inl x, .inl y, .inl z, .inl w] K') := by
  obtain ⟨hC, hsF, hsc, h9, h1, D, b, L, pg, ob, eP, eO, hR, hS, h⟩ := hT
  refine cp_make h.2.2.2.2.2 (h.1.rg h.2.1 h.2.2.2.2.1) (h.1.fl h.2.1 h.2.2.2.2.1) (h.1.tr h.2.1.2.2.2.2.1 h.2.2.2.2.1) (h.1.gh h.2.2.2.2.1) (Nat.le_trans h.1.2.2.1.len (by omega)) hR (fun w => aft hC hsF hsc h9 hS k hR (pu_make0 h hN w)) (fun p r hd e => aft hC hsF hsc h9 hS k hR (pu_make1 h hN hd e)) (fun p r M1 e1 e2 D2 hd hl hmk g => aft hC hsF hsc h9 hS k g (pu_make2 h hN hd hl hmk)) (fun p r M1 rs hd hlen f1 f2 _ hrs g => ⟨?_, fun M2 e3 e4 g2 => aft hC hsF hsc h9 hS k g2 ((pu_make3 h hN hd hlen f1 f2 hrs).1 e3 e4), fun M2 e1 e2 D2 hmk g2 => aft hC hsF hsc h9 hS k g2 ((pu_make3 h hN hd hlen f1 f2 hrs).2 D2 hmk)⟩)
  have hl := h.liv.mp hd.1
  have hcn : d_cn D p = 8 ∨ (d_cn D p < 8 ∧ lv b (d_cn D p)) := by
    unfold d_cn
    split
    · exact Or.inl rfl
    · exact Or.inr hl
  obtain ⟨m, hm⟩ := rmk_ex b (d_cn D p)
  have hcol := h.col hcn hm hrs
  exact ⟨hcol.1.tr hcol.2.1.2.2.2.2.1 hcol.2.2.2.2.1, hcol.1.gh hcol.2.2.2.2.1, Nat.le_trans hcol.1.2.2.1.len (by omega), hcol.1.1.len60⟩
end SZE
