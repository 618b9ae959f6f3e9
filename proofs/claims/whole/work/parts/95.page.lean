/-! THE CLASS AS A WHOLE: a page for making -/
/-- the heap in which p makes objects; who pays there -/
def d_hm (D : ph_D) (p : Nat) : Int32 := if D.2.1 6 p = 2 ∨ D.2.1 6 p = 3 then 8 else if D.2.1 10 p = -1 then nI p else D.2.1 10 p
def d_pm (D : ph_D) (p : Nat) : Nat := if d_hm D p = 8 then 0 else p
def d_fp (D : ph_D) (p : Nat) (s : Int32) : Option Nat := D.1.1.find? (fun g => decide (D.2.1 0 g = d_hm D p) && !decide (D.2.1 2 g < s))
section QV
variable {l : Launch} {G : mm_G} {K : Option mm_V → mm_M → Prop} {M M1 Mb N : mm_M} {c : Nat → Nat} {F : Nat → Prop} {D D1 : ph_D} {eP eO eP1 eO1 : Nat} {p q a b i j : Nat} {x y z w s : Int32}
theorem fd_cong {P Q : Nat → Bool} : ∀ {gs : List Nat}, (∀ g, g ∈ gs → P g = Q g) → gs.find? P = gs.find? Q
  | [], _ => rfl
  | g :: t, h => by
    rw [List.find?_cons, List.find?_cons, h g List.mem_cons_self, fd_cong (fun b hb => h b (List.mem_cons_of_mem _ hb))]
theorem cw_pageFor (ht : d_tr D) (hgh : d_gh D) (hlen : D.1.1.length ≤ 60) (h : ph_R G c F Mb M D eP eO) (hp : p < d_m D) (h9 : D.2.2 9 p = some q)
    (k0 : ∀ g, d_fp D p s = some g → K (some (.inr (some g))) M) (k1 : ∀ M1, d_fp D p s = none → d_S D (d_pm D p) < 1 → ph_R G c F Mb M1 D eP eO → K (some (.inr none)) M1)
    (k2 : ∀ M1 e1 g, d_fp D p s = none → ¬ d_S D (d_pm D p) < 1 → g ∉ D.1.1 → ph_R G c F Mb M1 (d_ap D g (d_hm D p) (nI (d_pm D p))) e1 eO → K (some (.inr (some g))) M1) : mm_Ok l G yy_PH_pageForMaking Y_PH_pageForMaking [.inr (some (c 0)), .inr (some q), .inl s] M K := by
  have hX := h.2.1
  have hm8 := h.m.2.1
  obtain ⟨hq, h6, hQ⟩ := h.at hp h9
  have eh : (if mm_i M q 5 = 2 ∨ mm_i M q 5 = 3 then (8 : Int32) else if mm_i M q 6 = -1 then mm_i M q 0 else mm_i M q 6) = d_hm D p := by
    unfold d_hm
    rw [hQ.2.1, hQ.2.2.2.2.2.1, hQ.1]
  refine sg_PH_pageForMaking ⟨q, rfl, h6, ct_heapFor h6 (fun _ => ⟨_, rfl, hX.1, c 1, hX.2.1, h.1.2.2.1, ?_⟩)⟩
  rw [eh]
  refine ct_findPage h.1.2.2.1 h.1.2.2.2.1 h.1.2.2.2.2.2.1 h.g7 (fun _ => ⟨_, rfl, ?_⟩)
  have ef : D.1.1.find? (fun g => decide (mm_i M g 0 = d_hm D p) && !decide (mm_i M g 2 < s)) = d_fp D p s := fd_cong (fun g hg => by rw [(h.2.2.2.2.1 g hg).1, (h.2.2.2.2.1 g hg).2.2])
  rw [ef]
  refine ⟨fun hn => ⟨fun h8 => ?_, fun h8 => ?_⟩, fun g hg => by rw [hg]; exact k0 g hg⟩
  · have ep : d_pm D p = p := if_neg h8
    rw [ep] at k1 k2
    rw [hQ.1]
    refine cw_canPay h ht hgh (by omega) (fun M1 g1 _ => ⟨_, rfl, fun hc => k1 M1 hn ?_ g1, fun hc => ⟨c 1, g1.2.1.2.1, g1.1.2.2.1, cw_addPage g1 hlen (fun M2 e1 g hg g2 _ => ⟨_, rfl, k2 M2 e1 g hn ?_ hg g2⟩)⟩⟩)
    · apply Decidable.byContradiction
      intro u
      rw [if_neg u] at hc
      exact absurd hc (by decide)
    · intro u
      rw [if_pos u] at hc
      exact hc rfl
  · have ep : d_pm D p = 0 := if_pos h8
    rw [ep] at k1 k2
    refine cw_canPay (p := 0) h ht hgh (by omega) (fun M1 g1 _ => ⟨_, rfl, fun hc => k1 M1 hn ?_ g1, fun hc => ⟨c 1, g1.2.1.2.1, g1.1.2.2.1, cw_addPage g1 hlen (fun M2 e1 g hg g2 _ => ⟨_, rfl, k2 M2 e1 g hn ?_ hg g2⟩)⟩⟩)
    · apply Decidable.byContradiction
      intro u
      rw [if_neg u] at hc
      exact absurd hc (by decide)
    · intro u
      rw [if_pos u] at hc
      exact hc rfl
end QV
