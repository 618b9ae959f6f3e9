/-! THE CLASS AS A WHOLE: objects freed, a collector's run -/
/-- how many processes are made -/
def d_m (D : ph_D) : Nat := (D.2.1 12 0).toNatClampNeg
def d_rg (D : ph_D) : Prop := ∀ p r a, p < d_m D → r < 4 → D.2.2 (4 + r) p = some a → a ∈ D.1.2
def d_fl (D : ph_D) : Prop := ∀ a f b, a ∈ D.1.2 → f < 3 → D.2.2 (1 + f) a = some b → b ∈ D.1.2
def d_Rt (D : ph_D) (a : Nat) : Prop := (∃ p r, p < d_m D ∧ r < 4 ∧ D.2.2 (4 + r) p = some a) ∨ D.2.1 5 a ≠ 0
def d_Re (D : ph_D) (h : Int32) (a : Nat) : Prop := ∀ P : Nat → Prop, (∀ b, b ∈ D.1.2 → d_h D b = h → d_Rt D b → P b) → (∀ b f c, b ∈ D.1.2 → P b → f < 3 → D.2.2 (1 + f) b = some c → d_h D c = h → P c) → P a
def d_kp (D : ph_D) (h : Int32) (rs : List Nat) (a : Nat) : Bool := !(decide (d_h D a = h) && !decide (a ∈ rs))
def d_nm (D : ph_D) (rs : List Nat) (a : Nat) : Bool := rs.any (fun b => (List.range 3).any (fun f => decide (D.2.2 (1 + f) b = some a) && !decide (d_h D a = d_h D b)))
def d_run (D : ph_D) (n : Nat) (rs : List Nat) : ph_D := ((d_fr D (d_kp D (nI n) rs)).1, fun k a => if k = 5 ∧ a ∈ D.1.2.filter (d_kp D (nI n) rs) then (if d_nm D rs a = true then (D.2.1 5 a &&& (((1 : Int32) <<< (nI n &&& 31)) ^^^ (-1))) ||| ((1 : Int32) <<< (nI n &&& 31)) else D.2.1 5 a &&& (((1 : Int32) <<< (nI n &&& 31)) ^^^ (-1))) else (d_fr D (d_kp D (nI n) rs)).2.1 k a, D.2.2)
section QB
variable {l : Launch} {G : mm_G} {K : Option mm_V → mm_M → Prop} {M M1 Mb : mm_M} {c : Nat → Nat} {F : Nat → Prop} {D D1 : ph_D} {eP eO eP1 eO1 : Nat}
theorem ph_R.ds (h : ph_R G c F Mb M D eP eO) (g : Nat) : ∀ ys : List Nat, (∀ a, a ∈ ys → a ∈ D.1.2) → fu_s M g ys = d_s D g ys
  | [], _ => rfl
  | a :: t, hs => by
    have z := h.2.2.2.2.2.1 a (hs a List.mem_cons_self)
    have ih := h.ds g t (fun b hb => hs b (List.mem_cons_of_mem _ hb))
    show (if oo_g M a = g then mm_i M a 1 + fu_s M g t else fu_s M g t) = if D.2.2 0 a = some g then D.2.1 3 a + d_s D g t else d_s D g t
    rw [ih, z.1, z.2.1]
    by_cases w : oo_g M a = g
    · rw [if_pos w, if_pos (by rw [w])]
    · rw [if_neg w, if_neg (fun u => w (Option.some.inj u))]
/-- the memory after objects are freed -/
theorem ph_R.fr {kp : Nat → Bool} (h : ph_R G c F Mb M D eP eO) (hk : ∀ a, mm_k M1 a = mm_k M a) (hl : ∀ a, mm_l M1 a = mm_l M a) (hW : me_W G M1 (c 1) (c 10) (c 11) eP1 eO1 (d_fr D kp).1.1 (d_fr D kp).1.2) (hR : D1.1 = (d_fr D kp).1) (hR2 : ∀ k j, D1.2.2 k j = D.2.2 k j)
    (hp : ∀ a, mm_k M a ≠ 3 → mm_k M a ≠ 102 → mm_k M a ≠ 105 → a ≠ c 3 → ∀ j, mm_p M1 a j = mm_p M a j)
    (hi : ∀ a j, (mm_k M a = 1 ∧ (j = 5 ∨ j = 6)) ∨ mm_k M a = 6 ∨ (mm_k M a = 8 ∧ j = 4) ∨ F a → mm_i M1 a j = mm_i M a j)
    (hg : ∀ g, g ∈ D.1.1 → mm_i M1 g 0 = mm_i M g 0 ∧ mm_i M1 g 1 = mm_i M g 1 ∧ mm_i M1 g 2 = mm_i M g 2 + fu_s M g (D.1.2.filter (fun b => !kp b)))
    (ho : ∀ a, a ∈ D.1.2 → mm_i M1 a 1 = mm_i M a 1 ∧ mm_i M1 a 2 = mm_i M a 2) (ho5 : ∀ a, a ∈ D.1.2.filter kp → mm_i M1 a 5 = D1.2.1 5 a) (he : ∀ k j, k ≠ 5 → D1.2.1 k j = (d_fr D kp).2.1 k j) : ph_R G c F Mb M1 D1 eP1 eO1 := by
  refine h.mid hk hl (by rw [hR]; exact hW) (fun a ha => ?_) hp hi (fun k hk6 j => ?_) (fun g hg1 => ?_) (fun a ha => ?_) hR2
  · rw [hR] at ha
    exact (List.mem_filter.mp ha).1
  · rw [he k j (by omega), ← d_fr_n (by omega)]
  · rw [hR] at hg1
    have hgD := (List.mem_filter.mp hg1).1
    have z := h.2.2.2.2.1 g hgD
    have w := hg g hgD
    rw [he 0 g (by omega), he 1 g (by omega), he 2 g (by omega), ← d_fr_n (by decide), ← d_fr_n (by decide), w.1, w.2.1, w.2.2]
    refine ⟨z.1, z.2.1, ?_⟩
    show _ = if 2 = 2 ∧ g ∈ D.1.1 then D.2.1 2 g + d_s D g (D.1.2.filter (fun b => !kp b)) else D.2.1 2 g
    rw [if_pos ⟨rfl, hgD⟩, z.2.2, h.ds g _ (fun a ha => (List.mem_filter.mp ha).1)]
  · rw [hR] at ha
    have haD := (List.mem_filter.mp ha).1
    have z := h.2.2.2.2.2.1 a haD
    have w := ho a haD
    rw [he 3 a (by omega), he 4 a (by omega), ← d_fr_n (by decide), ← d_fr_n (by decide), w.1, w.2]
    exact ⟨z.2.1, z.2.2.1, ho5 a ha⟩
theorem cw_free {hn : Int32} (hd : d_pg D) (h : ph_R G c F Mb M D eP eO) (k : ∀ M1, ph_R G c F Mb M1 (d_fr D (fun a => !decide (d_h D a = hn))) eP eO → K (some (.inl (nI (D.1.2.filter (fun a => decide (d_h D a = hn))).length))) M1) : mm_Ok l G yy_Me_freeUnreached Y_Me_freeUnreached [.inr (some (c 1)), .inl hn] M K := by
  refine ct_freeUnreached h.1 (fun M1 hW hR => ?_)
  have ek : ∀ a, a ∈ D.1.2 → fu_k M hn a = !decide (d_h D a = hn) := fun a ha => by
    unfold fu_k
    rw [h.hh hd ha, (h.2.2.1.1 a (h.x8 a ha)).2.2]
    simp
  have ef1 : D.1.2.filter (fu_k M hn) = D.1.2.filter (fun a => !decide (d_h D a = hn)) := List.filter_congr ek
  have ef2 : D.1.2.filter (fun b => !fu_k M hn b) = D.1.2.filter (fun b => !!decide (d_h D b = hn)) := List.filter_congr (fun a ha => by rw [ek a ha])
  have ef3 : D.1.2.filter (fun b => !!decide (d_h D b = hn)) = D.1.2.filter (fun b => decide (d_h D b = hn)) := List.filter_congr (fun a _ => by simp)
  have eF2 : ∀ g, g ∈ D.1.1 → fu_F M hn D.1.2 g 2 = mm_i M g 2 + fu_s M g (D.1.2.filter (fun b => !!decide (d_h D b = hn))) := fun g hg => by
    unfold fu_F
    rw [if_neg (fun z => by cases z.1), if_pos ⟨rfl, h.g7 g hg⟩, ef2]
  have eg : D.1.1.filter (fun g => !decide (fu_F M hn D.1.2 g 2 = 16)) = (d_fr D (fun a => !decide (d_h D a = hn))).1.1 := by
    refine List.filter_congr (fun g hg => ?_)
    rw [eF2 g hg, (h.2.2.2.2.1 g hg).2.2, h.ds g _ (fun a ha => (List.mem_filter.mp ha).1)]
  rw [ef2, ef3]
  rw [ef1, eg] at hW
  refine k M1 ?_
  have nS : ∀ a, mm_k M a ≠ 3 → mm_k M a ≠ 102 → mm_k M a ≠ 105 → ¬ me_S (c 10) (c 11) eP eO a := fun a => h.1.nS
  have hi : ∀ b j, mm_k M b ≠ 3 → mm_k M b ≠ 102 → mm_k M b ≠ 105 → mm_k M b ≠ 7 ∨ j ≠ 2 → mm_i M1 b j = mm_i M b j := fun b j b1 b2 b3 hb => by
    rw [(hR.2.2.2 b (nS b b1 b2 b3) j).2]
    unfold fu_F
    by_cases w : j = 4 ∧ b ∈ D.1.2
    · rw [if_pos w, w.1]
      exact (h.2.2.1.1 b (h.x8 b w.2)).2.2.symm
    · rw [if_neg w, if_neg (fun z => hb.elim (fun u => u z.2) (fun u => u z.1))]
  refine h.fr (kp := fun a => !decide (d_h D a = hn)) hR.1 hR.2.1 hW rfl (fun _ _ => rfl) (fun a a1 a2 a3 _ j => (hR.2.2.2 a (nS a a1 a2 a3) j).1) (fun b j hb => ?_) (fun g hg => ?_) (fun a ha => ?_) (fun a ha => ?_) (fun _ _ _ => rfl)
  · rcases hb with z | z | z | z
    · exact hi b j (by rw [z.1]; decide) (by rw [z.1]; decide) (by rw [z.1]; decide) (Or.inl (by rw [z.1]; decide))
    · exact hi b j (by rw [z]; decide) (by rw [z]; decide) (by rw [z]; decide) (Or.inl (by rw [z]; decide))
    · exact hi b j (by rw [z.1]; decide) (by rw [z.1]; decide) (by rw [z.1]; decide) (Or.inl (by rw [z.1]; decide))
    · have w := h.kp b z
      exact hi b j w.2.2.2.2.2.1 w.2.2.2.2.2.2.1 w.2.2.2.2.2.2.2.2.2 (Or.inl w.2.1)
  · have n := h.g7 g hg
    refine ⟨hi g 0 (by rw [n]; decide) (by rw [n]; decide) (by rw [n]; decide) (Or.inr (by omega)), hi g 1 (by rw [n]; decide) (by rw [n]; decide) (by rw [n]; decide) (Or.inr (by omega)), ?_⟩
    rw [(hR.2.2.2 g (nS g (by rw [n]; decide) (by rw [n]; decide) (by rw [n]; decide)) 2).2, eF2 g hg]
  · have n := h.x8 a ha
    exact ⟨hi a 1 (by rw [n]; decide) (by rw [n]; decide) (by rw [n]; decide) (Or.inr (by omega)), hi a 2 (by rw [n]; decide) (by rw [n]; decide) (by rw [n]; decide) (Or.inl (by rw [n]; decide))⟩
  · have haD := (List.mem_filter.mp ha).1
    have n := h.x8 a haD
    rw [hi a 5 (by rw [n]; decide) (by rw [n]; decide) (by rw [n]; decide) (Or.inr (by omega)), ← d_fr_n (by decide)]
    exact (h.2.2.2.2.2.1 a haD).2.2.2.1
theorem cw_run {n : Nat} (hd : d_pg D) (hrg : d_rg D) (hfl : d_fl D) (hxl : D.1.2.length ≤ 60) (h : ph_R G c F Mb M D eP eO)
    (k : ∀ M1 rs, rs.Nodup → (∀ a, a ∈ rs ↔ a ∈ D.1.2 ∧ d_h D a = nI n ∧ d_Re D (nI n) a) → ph_R G c F Mb M1 (d_run D n rs) eP eO → K (some (.inl (nI (D.1.2.filter (fun b => !d_kp D (nI n) rs b)).length))) M1) : mm_Ok l G yy_Co_run Y_Co_run [.inr (some (c 2)), .inl (nI n), .inr (some (c 1)), .inr (some (c 8))] M K := by
  obtain ⟨m, m1, m2, m3, m4, m5, m6⟩ := h.2.2.2.1
  have hm : d_m D = m := by unfold d_m; rw [m4, nI_clamp (by omega)]
  have hreg' : ∀ p q r a, p < 8 → mm_p M (c 8) p = some q → r < 4 → pr_r M q r = some a → p < d_m D ∧ D.2.2 (4 + r) p = some a := by
    intro p q r a hp hq hr ha
    have hpm : p < m := by
      rcases Nat.lt_or_ge p m with z | z
      · exact z
      · rw [(m5 p z hp).1] at hq
        cases hq
    have z := (h.prs hp hq).2.2.2.2.2.2.2.2.1 r hr
    rw [ha] at z
    exact ⟨by omega, z.symm⟩
  have hfld' : ∀ a f b, a ∈ D.1.2 → f < 3 → oo_f M a f = some b → D.2.2 (1 + f) a = some b := fun a f b ha hf hb => by rw [← (h.2.2.2.2.2.1 a ha).2.2.2.2 f hf]; exact hb
  refine ct_run h.co h.1 hxl h.kar h.lar (fun p q r a hp hq hr ha => hrg p r a (hreg' p q r a hp hq hr ha).1 hr (hreg' p q r a hp hq hr ha).2) (fun a f b ha hf hb => hfl a f b ha hf (hfld' a f b ha hf hb)) (fun M1 rs hnd hchar hW hR => ?_)
  have hrt : ∀ b, b ∈ D.1.2 → (co_Rt M (c 8) b ↔ d_Rt D b) := by
    intro b hb
    unfold co_Rt d_Rt
    rw [(h.2.2.2.2.2.1 b hb).2.2.2.1]
    constructor
    · rintro (⟨p, q, r, hp, hq, hr, ha⟩ | z)
      · exact Or.inl ⟨p, r, (hreg' p q r b hp hq hr ha).1, hr, (hreg' p q r b hp hq hr ha).2⟩
      · exact Or.inr z
    · rintro (⟨p, r, hp, hr, ha⟩ | z)
      · rw [hm] at hp
        obtain ⟨q, hq, hQ⟩ := m6 p hp
        exact Or.inl ⟨p, q, r, by omega, hq, hr, by rw [hQ.2.2.2.2.2.2.2.1 r hr]; exact ha⟩
      · exact Or.inr z
  have hre : ∀ a, co_Re M (c 8) D.1.2 (nI n) a ↔ d_Re D (nI n) a := by
    intro a
    constructor
    · intro z P p1 p2
      refine (z (fun b => b ∈ D.1.2 ∧ P b) (fun b hb hh hr => ⟨hb, p1 b hb (by rw [← h.hh hd hb]; exact hh) ((hrt b hb).mp hr)⟩) (fun b f e hb hf he hh => ?_)).2
      have e1 := hfld' b f e hb.1 hf he
      have e2 := hfl b f e hb.1 hf e1
      exact ⟨e2, p2 b f e hb.1 hb.2 hf e1 (by rw [← h.hh hd e2]; exact hh)⟩
    · intro z P p1 p2
      refine z P (fun b hb hh hr => p1 b hb (by rw [h.hh hd hb]; exact hh) ((hrt b hb).mpr hr)) (fun b f e hb hP hf he hh => ?_)
      have e2 := hfl b f e hb hf he
      exact p2 b f e hP hf (by rw [(h.2.2.2.2.2.1 b hb).2.2.2.2 f hf]; exact he) (by rw [h.hh hd e2]; exact hh)
  have hchar' : ∀ a, a ∈ rs ↔ a ∈ D.1.2 ∧ d_h D a = nI n ∧ d_Re D (nI n) a := by
    intro a
    rw [hchar a]
    constructor
    · rintro ⟨z1, z2, z3⟩
      exact ⟨z1, by rw [← h.hh hd z1]; exact z2, (hre a).mp z3⟩
    · rintro ⟨z1, z2, z3⟩
      exact ⟨z1, by rw [h.hh hd z1]; exact z2, (hre a).mpr z3⟩
  have ek : ∀ a, a ∈ D.1.2 → kp M (nI n) rs a = d_kp D (nI n) rs a := fun a ha => by
    unfold kp d_kp
    rw [h.hh hd ha]
  have ef1 : D.1.2.filter (kp M (nI n) rs) = D.1.2.filter (d_kp D (nI n) rs) := List.filter_congr ek
  have ef2 : D.1.2.filter (fun b => !kp M (nI n) rs b) = D.1.2.filter (fun b => !d_kp D (nI n) rs b) := List.filter_congr (fun a ha => by rw [ek a ha])
  have eg : D.1.1.filter (fun g => !decide (mm_i M g 2 + fu_s M g (D.1.2.filter (fun b => !kp M (nI n) rs b)) = 16)) = (d_fr D (d_kp D (nI n) rs)).1.1 := by
    refine List.filter_congr (fun g hg => ?_)
    rw [ef2, (h.2.2.2.2.1 g hg).2.2, h.ds g _ (fun a ha => (List.mem_filter.mp ha).1)]
  rw [ef2]
  rw [ef1, eg] at hW
  refine k M1 rs hnd hchar' ?_
  have nS : ∀ a, mm_k M a ≠ 3 → mm_k M a ≠ 102 → mm_k M a ≠ 105 → ¬ me_S (c 10) (c 11) eP eO a := fun a => h.1.nS
  have kac := h.co.2.1
  have hF : ∀ b j, mm_k M b ≠ 3 → mm_k M b ≠ 102 → mm_k M b ≠ 105 → mm_k M b ≠ 4 → mm_i M1 b j = cl_F M n D.1.2 rs b j := fun b j b1 b2 b3 b4 => hR.2.2.2.2 b (nS b b1 b2 b3) j (fun z => b4 (by rw [z.1]; exact kac))
  have hi : ∀ b j, mm_k M b ≠ 3 → mm_k M b ≠ 102 → mm_k M b ≠ 105 → mm_k M b ≠ 4 → mm_k M b ≠ 7 ∨ j ≠ 2 → mm_k M b ≠ 8 ∨ j ≠ 5 → mm_i M1 b j = mm_i M b j := fun b j b1 b2 b3 b4 hb hb5 => by
    rw [hF b j b1 b2 b3 b4]
    unfold cl_F
    rw [if_neg (fun z => hb.elim (fun u => u z.2) (fun u => u z.1)), if_neg (fun z => hb5.elim (fun u => u (h.x8 b (List.mem_filter.mp z.2).1)) (fun u => u z.1))]
  refine h.fr (kp := d_kp D (nI n) rs) hR.1 hR.2.1 hW rfl (fun _ _ => rfl) (fun a a1 a2 a3 a4 j => hR.2.2.2.1 a (nS a a1 a2 a3) a4 j) (fun b j hb => ?_) (fun g hg => ?_) (fun a ha => ?_) (fun a ha => ?_) (fun k j hk => ?_)
  · rcases hb with z | z | z | z
    · exact hi b j (by rw [z.1]; decide) (by rw [z.1]; decide) (by rw [z.1]; decide) (by rw [z.1]; decide) (Or.inl (by rw [z.1]; decide)) (Or.inl (by rw [z.1]; decide))
    · exact hi b j (by rw [z]; decide) (by rw [z]; decide) (by rw [z]; decide) (by rw [z]; decide) (Or.inl (by rw [z]; decide)) (Or.inl (by rw [z]; decide))
    · exact hi b j (by rw [z.1]; decide) (by rw [z.1]; decide) (by rw [z.1]; decide) (by rw [z.1]; decide) (Or.inl (by rw [z.1]; decide)) (Or.inr (by omega))
    · have w := h.kp b z
      exact hi b j w.2.2.2.2.2.1 w.2.2.2.2.2.2.1 w.2.2.2.2.2.2.2.2.2 w.2.2.2.2.1 (Or.inl w.2.1) (Or.inl w.2.2.1)
  · have q := h.g7 g hg
    refine ⟨hi g 0 (by rw [q]; decide) (by rw [q]; decide) (by rw [q]; decide) (by rw [q]; decide) (Or.inr (by omega)) (Or.inr (by omega)), hi g 1 (by rw [q]; decide) (by rw [q]; decide) (by rw [q]; decide) (by rw [q]; decide) (Or.inr (by omega)) (Or.inr (by omega)), ?_⟩
    rw [hF g 2 (by rw [q]; decide) (by rw [q]; decide) (by rw [q]; decide) (by rw [q]; decide)]
    unfold cl_F
    rw [if_pos ⟨rfl, q⟩, ef2]
  · have q := h.x8 a ha
    exact ⟨hi a 1 (by rw [q]; decide) (by rw [q]; decide) (by rw [q]; decide) (by rw [q]; decide) (Or.inr (by omega)) (Or.inr (by omega)), hi a 2 (by rw [q]; decide) (by rw [q]; decide) (by rw [q]; decide) (by rw [q]; decide) (Or.inl (by rw [q]; decide)) (Or.inr (by omega))⟩
  · have haD := (List.mem_filter.mp ha).1
    have q := h.x8 a haD
    rw [hF a 5 (by rw [q]; decide) (by rw [q]; decide) (by rw [q]; decide) (by rw [q]; decide)]
    unfold cl_F
    rw [if_neg (fun z => by cases z.1), ef1, if_pos ⟨rfl, ha⟩]
    show _ = if 5 = 5 ∧ a ∈ D.1.2.filter (d_kp D (nI n) rs) then (if d_nm D rs a = true then (D.2.1 5 a &&& (((1 : Int32) <<< (nI n &&& 31)) ^^^ (-1))) ||| ((1 : Int32) <<< (nI n &&& 31)) else D.2.1 5 a &&& (((1 : Int32) <<< (nI n &&& 31)) ^^^ (-1))) else (d_fr D (d_kp D (nI n) rs)).2.1 5 a
    rw [if_pos (show 5 = 5 ∧ a ∈ D.1.2.filter (d_kp D (nI n) rs) from ⟨rfl, ha⟩), (h.2.2.2.2.2.1 a haD).2.2.2.1]
    have en : rs.any (fun b => nf M b 3 a) = d_nm D rs a := by
      unfold d_nm
      rw [Bool.eq_iff_iff, List.any_eq_true, List.any_eq_true]
      have e1 : ∀ b, b ∈ rs → nf M b 3 a = (List.range 3).any (fun f => decide (D.2.2 (1 + f) b = some a) && !decide (d_h D a = d_h D b)) := by
        intro b hb
        have hbD := ((hchar' b).mp hb).1
        unfold nf
        rw [h.hh hd haD, h.hh hd hbD, Bool.eq_iff_iff, List.any_eq_true, List.any_eq_true]
        constructor
        · rintro ⟨f, hf, z⟩
          exact ⟨f, hf, by rw [← (h.2.2.2.2.2.1 b hbD).2.2.2.2 f (List.mem_range.mp hf)]; exact z⟩
        · rintro ⟨f, hf, z⟩
          exact ⟨f, hf, by rw [(h.2.2.2.2.2.1 b hbD).2.2.2.2 f (List.mem_range.mp hf)]; exact z⟩
      constructor
      · rintro ⟨b, hb, z⟩
        exact ⟨b, hb, by rw [← e1 b hb]; exact z⟩
      · rintro ⟨b, hb, z⟩
        exact ⟨b, hb, by rw [e1 b hb]; exact z⟩
    rw [en]
  · exact if_neg (fun z => hk z.1)
end QB
