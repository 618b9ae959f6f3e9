/-! THE CONSTRUCTORS: the class makes its cells -/
section SZH2
variable {l : Launch} {G : mm_G} {K : Option mm_V → mm_M → Prop} {M M0 M1 N : mm_M} {a0 t scr : Nat} {xa : Int32}
set_option maxHeartbeats 4000000 in
theorem cp_init (hs : st_M G scr a0 M) (ht : (if 4 < (if xa < 24 then xa else 24) then (if xa < 24 then xa else 24) else 4) = nI t) (k : ∀ N, ci_N G scr a0 t M N → K none N) : mm_Ok l G yy_PH_init Y_PH_init [.inr (some a0), .inl xa] M K := by
  obtain ⟨hz, hk, hlE, hE, hsc, hEs, hi, hp⟩ := hs
  have k0 : mm_k M a0 = 1 := by rw [hk, if_pos rfl]
  refine sg_PH_init (fun q1 h1 => ?_)
  have h1 : q1 = a0 + 1 := by rw [h1, hz]
  subst h1
  refine sg_Me_init (fun q2 h2 => ?_)
  have h2 : q2 = a0 + 2 := by rw [h2, mm_z_nw, hz]
  subst h2
  refine sg_AL_init (sg_Ab_init (sg_Ac_init (fun _ => ⟨rfl, ?_, fun _ => ⟨rfl, ?_, fun _ => ⟨rfl, ?_, fun q3 h3 => ?_⟩⟩⟩)))
  · simp [mm_k_nw, mm_k_sp, mm_k_si, mm_z_nw, mm_z_sp, mm_z_si, hz, Nat.add_assoc]
  · simp [mm_k_nw, mm_k_sp, mm_k_si, mm_z_nw, mm_z_sp, mm_z_si, hz, Nat.add_assoc]
  · simp [mm_k_nw, mm_k_sp, mm_k_si, mm_z_nw, mm_z_sp, mm_z_si, hz, Nat.add_assoc]
  have h3 : q3 = a0 + 3 := by rw [h3]; simp [mm_z_nw, mm_z_sp, mm_z_si, hz, Nat.add_assoc]
  subst h3
  refine sg_AL_init (sg_Ab_init (sg_Ac_init (fun _ => ⟨rfl, ?_, fun _ => ⟨rfl, ?_, fun _ => ⟨rfl, ?_, fun _ => ⟨rfl, ?_, fun q4 h4 => ?_⟩⟩⟩⟩)))
  · simp [mm_k_nw, mm_k_sp, mm_k_si, mm_z_nw, mm_z_sp, mm_z_si, hz, Nat.add_assoc]
  · simp [mm_k_nw, mm_k_sp, mm_k_si, mm_z_nw, mm_z_sp, mm_z_si, hz, Nat.add_assoc]
  · simp [mm_k_nw, mm_k_sp, mm_k_si, mm_z_nw, mm_z_sp, mm_z_si, hz, Nat.add_assoc]
  · simp [mm_k_nw, mm_k_sp, mm_k_si, mm_z_nw, mm_z_sp, mm_z_si, hz, Nat.add_assoc, k0]
  have h4 : q4 = a0 + 4 := by rw [h4]; simp [mm_z_nw, mm_z_sp, mm_z_si, hz, Nat.add_assoc]
  subst h4
  refine sg_Co_init (fun q5 h5 => ?_)
  have h5 : q5 = a0 + 5 := by rw [h5]; simp [mm_z_nw, mm_z_sp, mm_z_si, hz, Nat.add_assoc]
  subst h5
  refine ⟨?_, fun _ => ⟨rfl, ?_, fun q6 h6 => ?_⟩⟩
  · simp [mm_k_nw, mm_k_sp, mm_k_si, mm_z_nw, mm_z_sp, mm_z_si, hz, Nat.add_assoc]
  · simp [mm_k_nw, mm_k_sp, mm_k_si, mm_z_nw, mm_z_sp, mm_z_si, hz, Nat.add_assoc, k0]
  have h6 : q6 = a0 + 6 := by rw [h6]; simp [mm_z_nw, mm_z_sp, mm_z_si, hz, Nat.add_assoc]
  subst h6
  refine sg_Li_init (fun q7 h7 => ?_)
  have h7 : q7 = a0 + 7 := by rw [h7]; simp [mm_z_nw, mm_z_sp, mm_z_si, hz, Nat.add_assoc]
  subst h7
  refine ⟨?_, fun q8 h8 => ?_⟩
  · simp [mm_k_nw, mm_k_sp, mm_k_si, mm_z_nw, mm_z_sp, mm_z_si, hz, Nat.add_assoc]
  have h8 : q8 = a0 + 8 := by rw [h8]; simp [mm_z_nw, mm_z_sp, mm_z_si, hz, Nat.add_assoc]
  subst h8
  refine ⟨?_, fun q9 h9 => ?_⟩
  · simp [mm_k_nw, mm_k_sp, mm_k_si, mm_z_nw, mm_z_sp, mm_z_si, hz, Nat.add_assoc]
  have h9 : q9 = a0 + 9 := by rw [h9]; simp [mm_z_nw, mm_z_sp, mm_z_si, hz, Nat.add_assoc]
  subst h9
  refine ⟨?_, fun _ => ⟨rfl, ?_, fun q10 h10 => ?_⟩⟩
  · simp [mm_k_nw, mm_k_sp, mm_k_si, mm_z_nw, mm_z_sp, mm_z_si, hz, Nat.add_assoc]
  · simp [mm_k_nw, mm_k_sp, mm_k_si, mm_z_nw, mm_z_sp, mm_z_si, hz, Nat.add_assoc, k0]
  have h10 : q10 = a0 + 10 := by rw [h10]; simp [mm_z_nw, mm_z_sp, mm_z_si, hz, Nat.add_assoc]
  subst h10
  refine ⟨?_, fun q11 h11 => ?_⟩
  · simp [mm_k_nw, mm_k_sp, mm_k_si, mm_z_nw, mm_z_sp, mm_z_si, hz, Nat.add_assoc, k0]
  have h11 : q11 = a0 + 11 := by rw [h11]; simp [mm_z_nw, mm_z_sp, mm_z_si, hz, Nat.add_assoc]
  subst h11
  refine ⟨?_, fun q12 h12 => ?_⟩
  · simp [mm_k_nw, mm_k_sp, mm_k_si, mm_z_nw, mm_z_sp, mm_z_si, hz, Nat.add_assoc, k0]
  have h12 : q12 = a0 + 12 := by rw [h12]; simp [mm_z_nw, mm_z_sp, mm_z_si, hz, Nat.add_assoc]
  subst h12
  refine sg_Pr_init (fun q13 h13 => ?_)
  have h13 : q13 = a0 + 13 := by rw [h13]; simp [mm_z_nw, mm_z_sp, mm_z_si, hz, Nat.add_assoc]
  subst h13
  rw [ht]
  refine ⟨?_, Or.inr rfl, fun _ => ⟨rfl, a0 + 10, ?_, ?_, 0, rfl, by decide, ?_, fun q hq => ?_, ?_⟩⟩
  · simp [mm_k_nw, mm_k_sp, mm_k_si, mm_z_nw, mm_z_sp, mm_z_si, hz, Nat.add_assoc]
  · simp [mm_p_nw, mm_p_sp, mm_p_si, mm_z_nw, mm_z_sp, mm_z_si, hz, Nat.add_assoc]
  · simp [mm_k_nw, mm_k_sp, mm_k_si, mm_z_nw, mm_z_sp, mm_z_si, hz, Nat.add_assoc]
  · simp [mm_l_nw, mm_l_sp, mm_l_si, mm_z_nw, mm_z_sp, mm_z_si, hz, Nat.add_assoc]
  · have e := Option.some.inj hq
    subst e
    simp [mm_k_nw, mm_k_sp, mm_k_si, mm_z_nw, mm_z_sp, mm_z_si, hz, Nat.add_assoc]
  have ne0 : ¬ G.2.2.2.1 = a0 := by omega
  have se0 : ¬ scr = a0 := by omega
  have ne1 : ¬ G.2.2.2.1 = a0 + 1 := by omega
  have se1 : ¬ scr = a0 + 1 := by omega
  have ne2 : ¬ G.2.2.2.1 = a0 + 2 := by omega
  have se2 : ¬ scr = a0 + 2 := by omega
  have ne3 : ¬ G.2.2.2.1 = a0 + 3 := by omega
  have se3 : ¬ scr = a0 + 3 := by omega
  have ne4 : ¬ G.2.2.2.1 = a0 + 4 := by omega
  have se4 : ¬ scr = a0 + 4 := by omega
  have ne5 : ¬ G.2.2.2.1 = a0 + 5 := by omega
  have se5 : ¬ scr = a0 + 5 := by omega
  have ne6 : ¬ G.2.2.2.1 = a0 + 6 := by omega
  have se6 : ¬ scr = a0 + 6 := by omega
  have ne7 : ¬ G.2.2.2.1 = a0 + 7 := by omega
  have se7 : ¬ scr = a0 + 7 := by omega
  have ne8 : ¬ G.2.2.2.1 = a0 + 8 := by omega
  have se8 : ¬ scr = a0 + 8 := by omega
  have ne9 : ¬ G.2.2.2.1 = a0 + 9 := by omega
  have se9 : ¬ scr = a0 + 9 := by omega
  have ne10 : ¬ G.2.2.2.1 = a0 + 10 := by omega
  have se10 : ¬ scr = a0 + 10 := by omega
  have ne11 : ¬ G.2.2.2.1 = a0 + 11 := by omega
  have se11 : ¬ scr = a0 + 11 := by omega
  have ne12 : ¬ G.2.2.2.1 = a0 + 12 := by omega
  have se12 : ¬ scr = a0 + 12 := by omega
  have ne13 : ¬ G.2.2.2.1 = a0 + 13 := by omega
  have se13 : ¬ scr = a0 + 13 := by omega
  refine fin (P := K none) (ci_N G scr a0 t M) ⟨⟨fun a => ?_, ?_⟩, ⟨?_, ?_, ?_, ?_, ?_, ?_, ?_, ?_, ?_⟩, ⟨?_, ?_, ?_, ?_, ?_⟩, ⟨?_, ?_, ?_, ?_, ?_, ?_⟩, ⟨?_, ?_, ?_, ?_⟩, ⟨fun j => ?_, fun j => ?_, fun j => ?_, fun j => ?_, ?_⟩, ⟨?_, ?_, ?_, ?_, ?_, ?_, ?_, ?_, ?_⟩, fun j => ?_⟩ k
  · unfold ci_K
    simp only [mm_k_nw, mm_k_sp, mm_k_si, mm_z_nw, mm_z_sp, mm_z_si, hz, Nat.add_assoc, hk]
  · simp [mm_z_nw, mm_z_sp, mm_z_si, hz, Nat.add_assoc]
  · simp [mm_l_nw, mm_l_sp, mm_l_si, mm_z_nw, mm_z_sp, mm_z_si, hz, Nat.add_assoc]
  · simp [mm_l_nw, mm_l_sp, mm_l_si, mm_z_nw, mm_z_sp, mm_z_si, hz, Nat.add_assoc]
  · simp [mm_l_nw, mm_l_sp, mm_l_si, mm_z_nw, mm_z_sp, mm_z_si, hz, Nat.add_assoc]
  · simp [mm_l_nw, mm_l_sp, mm_l_si, mm_z_nw, mm_z_sp, mm_z_si, hz, Nat.add_assoc]
  · simp [mm_l_nw, mm_l_sp, mm_l_si, mm_z_nw, mm_z_sp, mm_z_si, hz, Nat.add_assoc]
  · simp [mm_l_nw, mm_l_sp, mm_l_si, mm_z_nw, mm_z_sp, mm_z_si, hz, Nat.add_assoc]
  · simp [mm_l_nw, mm_l_sp, mm_l_si, mm_z_nw, mm_z_sp, mm_z_si, hz, Nat.add_assoc]
  · simp [mm_l_nw, mm_l_sp, mm_l_si, mm_z_nw, mm_z_sp, mm_z_si, hz, Nat.add_assoc, ne0, ne1, ne2, ne3, ne4, ne5, ne6, ne7, ne8, ne9, ne10, ne11, ne12, ne13, hlE]
  · simp [mm_l_nw, mm_l_sp, mm_l_si, mm_z_nw, mm_z_sp, mm_z_si, hz, Nat.add_assoc, se0, se1, se2, se3, se4, se5, se6, se7, se8, se9, se10, se11, se12, se13]
  · simp [mm_p_nw, mm_p_sp, mm_p_si, mm_z_nw, mm_z_sp, mm_z_si, hz, Nat.add_assoc]
  · simp [mm_p_nw, mm_p_sp, mm_p_si, mm_z_nw, mm_z_sp, mm_z_si, hz, Nat.add_assoc]
  · simp [mm_p_nw, mm_p_sp, mm_p_si, mm_z_nw, mm_z_sp, mm_z_si, hz, Nat.add_assoc]
  · simp [mm_p_nw, mm_p_sp, mm_p_si, mm_z_nw, mm_z_sp, mm_z_si, hz, Nat.add_assoc]
  · simp [mm_p_nw, mm_p_sp, mm_p_si, mm_z_nw, mm_z_sp, mm_z_si, hz, Nat.add_assoc]
  · simp [mm_p_nw, mm_p_sp, mm_p_si, mm_z_nw, mm_z_sp, mm_z_si, hz, Nat.add_assoc]
  · simp [mm_p_nw, mm_p_sp, mm_p_si, mm_z_nw, mm_z_sp, mm_z_si, hz, Nat.add_assoc]
  · simp [mm_p_nw, mm_p_sp, mm_p_si, mm_z_nw, mm_z_sp, mm_z_si, hz, Nat.add_assoc]
  · simp [mm_p_nw, mm_p_sp, mm_p_si, mm_z_nw, mm_z_sp, mm_z_si, hz, Nat.add_assoc]
  · simp [mm_i_nw, mm_i_sp, mm_i_si, mm_z_nw, mm_z_sp, mm_z_si, hz, Nat.add_assoc]
  · simp [mm_i_nw, mm_i_sp, mm_i_si, mm_z_nw, mm_z_sp, mm_z_si, hz, Nat.add_assoc]
  · simp [mm_p_nw, mm_p_sp, mm_p_si, mm_z_nw, mm_z_sp, mm_z_si, hz, Nat.add_assoc]
  · simp [mm_p_nw, mm_p_sp, mm_p_si, mm_z_nw, mm_z_sp, mm_z_si, hz, Nat.add_assoc]
  · simp [mm_p_nw, mm_p_sp, mm_p_si, mm_z_nw, mm_z_sp, mm_z_si, hz, Nat.add_assoc]
  · simp [mm_p_nw, mm_p_sp, mm_p_si, mm_z_nw, mm_z_sp, mm_z_si, hz, Nat.add_assoc]
  · simp [mm_p_nw, mm_p_sp, mm_p_si, mm_z_nw, mm_z_sp, mm_z_si, hz, Nat.add_assoc]
  · simp [mm_p_nw, mm_p_sp, mm_p_si, mm_z_nw, mm_z_sp, mm_z_si, hz, Nat.add_assoc]
  · simp [mm_p_nw, mm_p_sp, mm_p_si, mm_z_nw, mm_z_sp, mm_z_si, hz, Nat.add_assoc]
  · simp [mm_p_nw, mm_p_sp, mm_p_si, mm_z_nw, mm_z_sp, mm_z_si, hz, Nat.add_assoc]
  · simp [mm_p_nw, mm_p_sp, mm_p_si, mm_z_nw, mm_z_sp, mm_z_si, hz, Nat.add_assoc]
  · simp [mm_i_nw, mm_i_sp, mm_i_si, mm_z_nw, mm_z_sp, mm_z_si, hz, Nat.add_assoc]
  · simp [mm_i_nw, mm_i_sp, mm_i_si, mm_z_nw, mm_z_sp, mm_z_si, hz, Nat.add_assoc]
  · simp [mm_i_nw, mm_i_sp, mm_i_si, mm_z_nw, mm_z_sp, mm_z_si, hz, Nat.add_assoc]
  · simp [mm_i_nw, mm_i_sp, mm_i_si, mm_z_nw, mm_z_sp, mm_z_si, hz, Nat.add_assoc]
  · simp [mm_i_nw, mm_i_sp, mm_i_si, mm_z_nw, mm_z_sp, mm_z_si, hz, Nat.add_assoc]
  · simp [mm_i_nw, mm_i_sp, mm_i_si, mm_z_nw, mm_z_sp, mm_z_si, hz, Nat.add_assoc]
  · simp [mm_i_nw, mm_i_sp, mm_i_si, mm_z_nw, mm_z_sp, mm_z_si, hz, Nat.add_assoc]
  · simp [mm_i_nw, mm_i_sp, mm_i_si, mm_z_nw, mm_z_sp, mm_z_si, hz, Nat.add_assoc]
  · simp [mm_i_nw, mm_i_sp, mm_i_si, mm_z_nw, mm_z_sp, mm_z_si, hz, Nat.add_assoc]
  · simp [mm_i_nw, mm_i_sp, mm_i_si, mm_z_nw, mm_z_sp, mm_z_si, hz, Nat.add_assoc, se0, se1, se2, se3, se4, se5, se6, se7, se8, se9, se10, se11, se12, se13]
end SZH2
