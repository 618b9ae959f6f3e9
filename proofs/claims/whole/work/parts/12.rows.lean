/-! ROWS: an instruction, a row -/
section RW1
variable {l : Launch} {G : mm_G} {Y : mm_Y} {K : Option mm_V → mm_M → Prop} {Ex : State → Array Value → Prop} {Qf : List Frame → Array Value → State → State → Prop} {M0 M : mm_M} {bc bs pc : Nat} {ls : List (Option mm_V)} {st : List mm_V}
-- constants
theorem mr_iconst {n : Int} (v : Int32) (hd : decode Y.1 pc = .ok (.iconst n, 1)) (hv : Int32.ofInt n = v) (k : mm_Zq l G Y Ex Qf M0 bc bs (pc + 1) ls (.inl v :: st) M) : mm_Zq l G Y Ex Qf M0 bc bs pc ls st M :=
  fun p e s m args below meth c H locs cells slots la hJ hT hL hc hs => lv_iconst hJ.1 hJ.2.1 hd hv (k p e s m args below meth c H locs cells slots la hJ hT hL hc hs)
theorem mr_bipush {n : Int} (v : Int32) (hd : decode Y.1 pc = .ok (.bipush n, 2)) (hv : (Int8.ofInt n).toInt32 = v) (k : mm_Zq l G Y Ex Qf M0 bc bs (pc + 2) ls (.inl v :: st) M) : mm_Zq l G Y Ex Qf M0 bc bs pc ls st M :=
  fun p e s m args below meth c H locs cells slots la hJ hT hL hc hs => lv_bipush hJ.1 hJ.2.1 hd hv (k p e s m args below meth c H locs cells slots la hJ hT hL hc hs)
theorem mr_sipush {n : Int} (v : Int32) (hd : decode Y.1 pc = .ok (.sipush n, 3)) (hv : (Int16.ofInt n).toInt32 = v) (k : mm_Zq l G Y Ex Qf M0 bc bs (pc + 3) ls (.inl v :: st) M) : mm_Zq l G Y Ex Qf M0 bc bs pc ls st M :=
  fun p e s m args below meth c H locs cells slots la hJ hT hL hc hs => lv_sipush hJ.1 hJ.2.1 hd hv (k p e s m args below meth c H locs cells slots la hJ hT hL hc hs)
theorem mr_null (hd : decode Y.1 pc = .ok (.aconst_null, 1)) (k : mm_Zq l G Y Ex Qf M0 bc bs (pc + 1) ls (.inr none :: st) M) : mm_Zq l G Y Ex Qf M0 bc bs pc ls st M :=
  fun p e s m args below meth c H locs cells slots la hJ hT hL hc hs => lv_null hJ.1 hJ.2.1 hd (k p e s m args below meth c H locs cells slots la hJ hT hL hc hs)
-- locals
theorem mr_iload_n {i : Fin 4} {x : Int32} (hd : decode Y.1 pc = .ok (.iload_n i, 1)) (hi : ls[(i : Nat)]? = some (some (.inl x))) (k : mm_Zq l G Y Ex Qf M0 bc bs (pc + 1) ls (.inl x :: st) M) : mm_Zq l G Y Ex Qf M0 bc bs pc ls st M :=
  fun p e s m args below meth c H locs cells slots la hJ hT hL hc hs => lv_iload_n hJ.1 hJ.2.1 hd rfl (hL.at hi) (k p e s m args below meth c H locs cells slots la hJ hT hL hc hs)
theorem mr_iload {i : Nat} {x : Int32} (hd : decode Y.1 pc = .ok (.iload i, 2)) (hi : ls[i]? = some (some (.inl x))) (k : mm_Zq l G Y Ex Qf M0 bc bs (pc + 2) ls (.inl x :: st) M) : mm_Zq l G Y Ex Qf M0 bc bs pc ls st M :=
  fun p e s m args below meth c H locs cells slots la hJ hT hL hc hs => lv_iload hJ.1 hJ.2.1 hd (hL.at hi) (k p e s m args below meth c H locs cells slots la hJ hT hL hc hs)
theorem mr_aload_n {i : Fin 4} {x : Option Nat} (hd : decode Y.1 pc = .ok (.aload_n i, 1)) (hi : ls[(i : Nat)]? = some (some (.inr x))) (k : mm_Zq l G Y Ex Qf M0 bc bs (pc + 1) ls (.inr x :: st) M) : mm_Zq l G Y Ex Qf M0 bc bs pc ls st M := by
  intro p e s m args below meth c H locs cells slots la hJ hT hL hc hs
  have k1 := k p e s m args below meth c H locs cells slots la hJ hT hL hc hs
  have h1 := hL.at hi
  cases x with
  | none => exact lv_aload_nN hJ.1 hJ.2.1 hd rfl h1 k1
  | some a => exact lv_aload_n hJ.1 hJ.2.1 hd rfl h1 k1
theorem mr_aload {i : Nat} {x : Option Nat} (hd : decode Y.1 pc = .ok (.aload i, 2)) (hi : ls[i]? = some (some (.inr x))) (k : mm_Zq l G Y Ex Qf M0 bc bs (pc + 2) ls (.inr x :: st) M) : mm_Zq l G Y Ex Qf M0 bc bs pc ls st M := by
  intro p e s m args below meth c H locs cells slots la hJ hT hL hc hs
  have k1 := k p e s m args below meth c H locs cells slots la hJ hT hL hc hs
  have h1 := hL.at hi
  cases x with
  | none => exact lv_aloadN hJ.1 hJ.2.1 hd h1 k1
  | some a => exact lv_aload hJ.1 hJ.2.1 hd h1 k1
theorem mr_istore_n {i : Fin 4} {x : Int32} (hd : decode Y.1 pc = .ok (.istore_n i, 1)) (hn : (i : Nat) < Y.2.2.1) (k : mm_Zq l G Y Ex Qf M0 bc bs (pc + 1) (ls.set i (some (.inl x))) st M) : mm_Zq l G Y Ex Qf M0 bc bs pc ls (.inl x :: st) M :=
  fun p e s m args below meth c H locs cells slots la hJ hT hL hc hs => lv_istore_n hJ.1 hJ.2.1 hd rfl hL hn rfl (fun la' hL' => k p e s m args below meth c H locs cells slots la' hJ hT (mm_L.store (v := .inl x) hL') hc hs)
theorem mr_istore {i : Nat} {x : Int32} (hd : decode Y.1 pc = .ok (.istore i, 2)) (hn : i < Y.2.2.1) (k : mm_Zq l G Y Ex Qf M0 bc bs (pc + 2) (ls.set i (some (.inl x))) st M) : mm_Zq l G Y Ex Qf M0 bc bs pc ls (.inl x :: st) M :=
  fun p e s m args below meth c H locs cells slots la hJ hT hL hc hs => lv_istore hJ.1 hJ.2.1 hd hL hn rfl (fun la' hL' => k p e s m args below meth c H locs cells slots la' hJ hT (mm_L.store (v := .inl x) hL') hc hs)
theorem mr_astore_n {i : Fin 4} {x : Option Nat} (hd : decode Y.1 pc = .ok (.astore_n i, 1)) (hn : (i : Nat) < Y.2.2.1) (k : mm_Zq l G Y Ex Qf M0 bc bs (pc + 1) (ls.set i (some (.inr x))) st M) : mm_Zq l G Y Ex Qf M0 bc bs pc ls (.inr x :: st) M := by
  intro p e s m args below meth c H locs cells slots la hJ hT hL hc hs
  cases x with
  | none => exact lv_astore_nN hJ.1 hJ.2.1 hd rfl hL hn rfl (fun la' hL' => k p e s m args below meth c H locs cells slots la' hJ hT (mm_L.store (v := .inr none) hL') hc hs)
  | some a => exact lv_astore_n hJ.1 hJ.2.1 hd rfl hL hn rfl (fun la' hL' => k p e s m args below meth c H locs cells slots la' hJ hT (mm_L.store (v := .inr (some a)) hL') hc hs)
theorem mr_astore {i : Nat} {x : Option Nat} (hd : decode Y.1 pc = .ok (.astore i, 2)) (hn : i < Y.2.2.1) (k : mm_Zq l G Y Ex Qf M0 bc bs (pc + 2) (ls.set i (some (.inr x))) st M) : mm_Zq l G Y Ex Qf M0 bc bs pc ls (.inr x :: st) M := by
  intro p e s m args below meth c H locs cells slots la hJ hT hL hc hs
  cases x with
  | none => exact lv_astoreN hJ.1 hJ.2.1 hd hL hn rfl (fun la' hL' => k p e s m args below meth c H locs cells slots la' hJ hT (mm_L.store (v := .inr none) hL') hc hs)
  | some a => exact lv_astore hJ.1 hJ.2.1 hd hL hn rfl (fun la' hL' => k p e s m args below meth c H locs cells slots la' hJ hT (mm_L.store (v := .inr (some a)) hL') hc hs)
theorem mr_iinc {i : Nat} {n : Int} {x : Int32} (d : Int32) (hd : decode Y.1 pc = .ok (.iinc i n, 3)) (hi : ls[i]? = some (some (.inl x))) (hn : i < Y.2.2.1) (he : Int32.ofInt n = d) (k : mm_Zq l G Y Ex Qf M0 bc bs (pc + 3) (ls.set i (some (.inl (x + d)))) st M) : mm_Zq l G Y Ex Qf M0 bc bs pc ls st M := by
  intro p e s m args below meth c H locs cells slots la hJ hT hL hc hs
  subst he
  have h1 := hL.at hi
  have hm : (i, Value.int x) ∈ mm_ps 0 ls := (mm_ps_mem ls 0 _).mpr ⟨i, .inl x, hi, by rw [Nat.zero_add]; rfl⟩
  obtain ⟨kk, hkk⟩ := List.getElem?_of_mem hm
  exact lv_iinc hJ.1 hJ.2.1 hd hL hkk rfl hn rfl (fun la' hL' => k p e s m args below meth c H locs cells slots la' hJ hT (mm_L.store (v := .inl (x + Int32.ofInt n)) hL') hc hs)
-- the stack
theorem mr_dup {x : mm_V} (hd : decode Y.1 pc = .ok (.dup, 1)) (k : mm_Zq l G Y Ex Qf M0 bc bs (pc + 1) ls (x :: x :: st) M) : mm_Zq l G Y Ex Qf M0 bc bs pc ls (x :: st) M :=
  fun p e s m args below meth c H locs cells slots la hJ hT hL hc hs => lv_dup hJ.1 hJ.2.1 hd (mm_v_cat x) (k p e s m args below meth c H locs cells slots la hJ hT hL hc hs)
theorem mr_pop {x : mm_V} (hd : decode Y.1 pc = .ok (.pop, 1)) (k : mm_Zq l G Y Ex Qf M0 bc bs (pc + 1) ls st M) : mm_Zq l G Y Ex Qf M0 bc bs pc ls (x :: st) M :=
  fun p e s m args below meth c H locs cells slots la hJ hT hL hc hs => lv_pop hJ.1 hJ.2.1 hd (mm_v_cat x) (k p e s m args below meth c H locs cells slots la hJ hT hL hc hs)
theorem mr_dup2 {x y : mm_V} (hd : decode Y.1 pc = .ok (.dup2, 1)) (k : mm_Zq l G Y Ex Qf M0 bc bs (pc + 1) ls (x :: y :: x :: y :: st) M) : mm_Zq l G Y Ex Qf M0 bc bs pc ls (x :: y :: st) M :=
  fun p e s m args below meth c H locs cells slots la hJ hT hL hc hs => lv_dup2_11 hJ.1 hJ.2.1 hd (mm_v_cat x) (mm_v_cat y) (k p e s m args below meth c H locs cells slots la hJ hT hL hc hs)
theorem mr_dup_x1 {x y : mm_V} (hd : decode Y.1 pc = .ok (.dup_x1, 1)) (k : mm_Zq l G Y Ex Qf M0 bc bs (pc + 1) ls (x :: y :: x :: st) M) : mm_Zq l G Y Ex Qf M0 bc bs pc ls (x :: y :: st) M :=
  fun p e s m args below meth c H locs cells slots la hJ hT hL hc hs => lv_dup_x1 hJ.1 hJ.2.1 hd (mm_v_cat x) (mm_v_cat y) (k p e s m args below meth c H locs cells slots la hJ hT hL hc hs)
theorem mr_dup_x2 {x y z : mm_V} (hd : decode Y.1 pc = .ok (.dup_x2, 1)) (k : mm_Zq l G Y Ex Qf M0 bc bs (pc + 1) ls (x :: y :: z :: x :: st) M) : mm_Zq l G Y Ex Qf M0 bc bs pc ls (x :: y :: z :: st) M :=
  fun p e s m args below meth c H locs cells slots la hJ hT hL hc hs => lv_dup_x2 hJ.1 hJ.2.1 hd (mm_v_cat x) (mm_v_cat y) (mm_v_cat z) (k p e s m args below meth c H locs cells slots la hJ hT hL hc hs)
-- numbers
theorem mr_iadd {x y : Int32} (hd : decode Y.1 pc = .ok (.iadd, 1)) (k : mm_Zq l G Y Ex Qf M0 bc bs (pc + 1) ls (.inl (x + y) :: st) M) : mm_Zq l G Y Ex Qf M0 bc bs pc ls (.inl y :: .inl x :: st) M :=
  fun p e s m args below meth c H locs cells slots la hJ hT hL hc hs => lv_iadd hJ.1 hJ.2.1 hd (k p e s m args below meth c H locs cells slots la hJ hT hL hc hs)
theorem mr_isub {x y : Int32} (hd : decode Y.1 pc = .ok (.isub, 1)) (k : mm_Zq l G Y Ex Qf M0 bc bs (pc + 1) ls (.inl (x - y) :: st) M) : mm_Zq l G Y Ex Qf M0 bc bs pc ls (.inl y :: .inl x :: st) M :=
  fun p e s m args below meth c H locs cells slots la hJ hT hL hc hs => lv_isub hJ.1 hJ.2.1 hd (k p e s m args below meth c H locs cells slots la hJ hT hL hc hs)
theorem mr_imul {x y : Int32} (hd : decode Y.1 pc = .ok (.imul, 1)) (k : mm_Zq l G Y Ex Qf M0 bc bs (pc + 1) ls (.inl (x * y) :: st) M) : mm_Zq l G Y Ex Qf M0 bc bs pc ls (.inl y :: .inl x :: st) M :=
  fun p e s m args below meth c H locs cells slots la hJ hT hL hc hs => lv_imul hJ.1 hJ.2.1 hd (k p e s m args below meth c H locs cells slots la hJ hT hL hc hs)
theorem mr_iand {x y : Int32} (hd : decode Y.1 pc = .ok (.iand, 1)) (k : mm_Zq l G Y Ex Qf M0 bc bs (pc + 1) ls (.inl (x &&& y) :: st) M) : mm_Zq l G Y Ex Qf M0 bc bs pc ls (.inl y :: .inl x :: st) M :=
  fun p e s m args below meth c H locs cells slots la hJ hT hL hc hs => lv_iand hJ.1 hJ.2.1 hd (k p e s m args below meth c H locs cells slots la hJ hT hL hc hs)
theorem mr_ior {x y : Int32} (hd : decode Y.1 pc = .ok (.ior, 1)) (k : mm_Zq l G Y Ex Qf M0 bc bs (pc + 1) ls (.inl (x ||| y) :: st) M) : mm_Zq l G Y Ex Qf M0 bc bs pc ls (.inl y :: .inl x :: st) M :=
  fun p e s m args below meth c H locs cells slots la hJ hT hL hc hs => lv_ior hJ.1 hJ.2.1 hd (k p e s m args below meth c H locs cells slots la hJ hT hL hc hs)
theorem mr_ixor {x y : Int32} (hd : decode Y.1 pc = .ok (.ixor, 1)) (k : mm_Zq l G Y Ex Qf M0 bc bs (pc + 1) ls (.inl (x ^^^ y) :: st) M) : mm_Zq l G Y Ex Qf M0 bc bs pc ls (.inl y :: .inl x :: st) M :=
  fun p e s m args below meth c H locs cells slots la hJ hT hL hc hs => lv_ixor hJ.1 hJ.2.1 hd (k p e s m args below meth c H locs cells slots la hJ hT hL hc hs)
theorem mr_ishl {x y : Int32} (hd : decode Y.1 pc = .ok (.ishl, 1)) (k : mm_Zq l G Y Ex Qf M0 bc bs (pc + 1) ls (.inl (x <<< (y &&& 31)) :: st) M) : mm_Zq l G Y Ex Qf M0 bc bs pc ls (.inl y :: .inl x :: st) M :=
  fun p e s m args below meth c H locs cells slots la hJ hT hL hc hs => lv_ishl hJ.1 hJ.2.1 hd (k p e s m args below meth c H locs cells slots la hJ hT hL hc hs)
theorem mr_ishr {x y : Int32} (hd : decode Y.1 pc = .ok (.ishr, 1)) (k : mm_Zq l G Y Ex Qf M0 bc bs (pc + 1) ls (.inl (x >>> (y &&& 31)) :: st) M) : mm_Zq l G Y Ex Qf M0 bc bs pc ls (.inl y :: .inl x :: st) M :=
  fun p e s m args below meth c H locs cells slots la hJ hT hL hc hs => lv_ishr hJ.1 hJ.2.1 hd (k p e s m args below meth c H locs cells slots la hJ hT hL hc hs)
theorem mr_idiv {x y : Int32} (hd : decode Y.1 pc = .ok (.idiv, 1)) (hy : ¬ y = 0) (k : mm_Zq l G Y Ex Qf M0 bc bs (pc + 1) ls (.inl (x / y) :: st) M) : mm_Zq l G Y Ex Qf M0 bc bs pc ls (.inl y :: .inl x :: st) M :=
  fun p e s m args below meth c H locs cells slots la hJ hT hL hc hs => lv_idiv hJ.1 hJ.2.1 hd hy (k p e s m args below meth c H locs cells slots la hJ hT hL hc hs)
theorem mr_irem {x y : Int32} (hd : decode Y.1 pc = .ok (.irem, 1)) (hy : ¬ y = 0) (k : mm_Zq l G Y Ex Qf M0 bc bs (pc + 1) ls (.inl (x - x / y * y) :: st) M) : mm_Zq l G Y Ex Qf M0 bc bs pc ls (.inl y :: .inl x :: st) M :=
  fun p e s m args below meth c H locs cells slots la hJ hT hL hc hs => lv_irem hJ.1 hJ.2.1 hd hy (k p e s m args below meth c H locs cells slots la hJ hT hL hc hs)
-- branches
theorem mr_if_eq {x : Int32} {off : Int} (tgt : Nat) (hd : decode Y.1 pc = .ok (.ifCond .eq off, 3)) (ht : (pc : Int) + off = (tgt : Int)) (kt : x = 0 → mm_Zq l G Y Ex Qf M0 bc bs tgt ls st M) (kf : ¬ x = 0 → mm_Zq l G Y Ex Qf M0 bc bs (pc + 3) ls st M) : mm_Zq l G Y Ex Qf M0 bc bs pc ls (.inl x :: st) M :=
  fun p e s m args below meth c H locs cells slots la hJ hT hL hc hs => lv_if_eq hJ.1 hJ.2.1 hd ht (fun q => kt q p e s m args below meth c H locs cells slots la hJ hT hL hc hs) (fun q => kf q p e s m args below meth c H locs cells slots la hJ hT hL hc hs)
theorem mr_icmp_eq {x y : Int32} {off : Int} (tgt : Nat) (hd : decode Y.1 pc = .ok (.if_icmp .eq off, 3)) (ht : (pc : Int) + off = (tgt : Int)) (kt : x = y → mm_Zq l G Y Ex Qf M0 bc bs tgt ls st M) (kf : ¬ x = y → mm_Zq l G Y Ex Qf M0 bc bs (pc + 3) ls st M) : mm_Zq l G Y Ex Qf M0 bc bs pc ls (.inl y :: .inl x :: st) M :=
  fun p e s m args below meth c H locs cells slots la hJ hT hL hc hs => lv_icmp_eq hJ.1 hJ.2.1 hd ht (fun q => kt q p e s m args below meth c H locs cells slots la hJ hT hL hc hs) (fun q => kf q p e s m args below meth c H locs cells slots la hJ hT hL hc hs)
theorem mr_if_ne {x : Int32} {off : Int} (tgt : Nat) (hd : decode Y.1 pc = .ok (.ifCond .ne off, 3)) (ht : (pc : Int) + off = (tgt : Int)) (kt : ¬ x = 0 → mm_Zq l G Y Ex Qf M0 bc bs tgt ls st M) (kf : x = 0 → mm_Zq l G Y Ex Qf M0 bc bs (pc + 3) ls st M) : mm_Zq l G Y Ex Qf M0 bc bs pc ls (.inl x :: st) M :=
  fun p e s m args below meth c H locs cells slots la hJ hT hL hc hs => lv_if_ne hJ.1 hJ.2.1 hd ht (fun q => kt q p e s m args below meth c H locs cells slots la hJ hT hL hc hs) (fun q => kf q p e s m args below meth c H locs cells slots la hJ hT hL hc hs)
theorem mr_icmp_ne {x y : Int32} {off : Int} (tgt : Nat) (hd : decode Y.1 pc = .ok (.if_icmp .ne off, 3)) (ht : (pc : Int) + off = (tgt : Int)) (kt : ¬ x = y → mm_Zq l G Y Ex Qf M0 bc bs tgt ls st M) (kf : x = y → mm_Zq l G Y Ex Qf M0 bc bs (pc + 3) ls st M) : mm_Zq l G Y Ex Qf M0 bc bs pc ls (.inl y :: .inl x :: st) M :=
  fun p e s m args below meth c H locs cells slots la hJ hT hL hc hs => lv_icmp_ne hJ.1 hJ.2.1 hd ht (fun q => kt q p e s m args below meth c H locs cells slots la hJ hT hL hc hs) (fun q => kf q p e s m args below meth c H locs cells slots la hJ hT hL hc hs)
theorem mr_if_lt {x : Int32} {off : Int} (tgt : Nat) (hd : decode Y.1 pc = .ok (.ifCond .lt off, 3)) (ht : (pc : Int) + off = (tgt : Int)) (kt : x < 0 → mm_Zq l G Y Ex Qf M0 bc bs tgt ls st M) (kf : ¬ x < 0 → mm_Zq l G Y Ex Qf M0 bc bs (pc + 3) ls st M) : mm_Zq l G Y Ex Qf M0 bc bs pc ls (.inl x :: st) M :=
  fun p e s m args below meth c H locs cells slots la hJ hT hL hc hs => lv_if_lt hJ.1 hJ.2.1 hd ht (fun q => kt q p e s m args below meth c H locs cells slots la hJ hT hL hc hs) (fun q => kf q p e s m args below meth c H locs cells slots la hJ hT hL hc hs)
theorem mr_icmp_lt {x y : Int32} {off : Int} (tgt : Nat) (hd : decode Y.1 pc = .ok (.if_icmp .lt off, 3)) (ht : (pc : Int) + off = (tgt : Int)) (kt : x < y → mm_Zq l G Y Ex Qf M0 bc bs tgt ls st M) (kf : ¬ x < y → mm_Zq l G Y Ex Qf M0 bc bs (pc + 3) ls st M) : mm_Zq l G Y Ex Qf M0 bc bs pc ls (.inl y :: .inl x :: st) M :=
  fun p e s m args below meth c H locs cells slots la hJ hT hL hc hs => lv_icmp_lt hJ.1 hJ.2.1 hd ht (fun q => kt q p e s m args below meth c H locs cells slots la hJ hT hL hc hs) (fun q => kf q p e s m args below meth c H locs cells slots la hJ hT hL hc hs)
theorem mr_if_ge {x : Int32} {off : Int} (tgt : Nat) (hd : decode Y.1 pc = .ok (.ifCond .ge off, 3)) (ht : (pc : Int) + off = (tgt : Int)) (kt : 0 ≤ x → mm_Zq l G Y Ex Qf M0 bc bs tgt ls st M) (kf : ¬ 0 ≤ x → mm_Zq l G Y Ex Qf M0 bc bs (pc + 3) ls st M) : mm_Zq l G Y Ex Qf M0 bc bs pc ls (.inl x :: st) M :=
  fun p e s m args below meth c H locs cells slots la hJ hT hL hc hs => lv_if_ge hJ.1 hJ.2.1 hd ht (fun q => kt q p e s m args below meth c H locs cells slots la hJ hT hL hc hs) (fun q => kf q p e s m args below meth c H locs cells slots la hJ hT hL hc hs)
theorem mr_icmp_ge {x y : Int32} {off : Int} (tgt : Nat) (hd : decode Y.1 pc = .ok (.if_icmp .ge off, 3)) (ht : (pc : Int) + off = (tgt : Int)) (kt : y ≤ x → mm_Zq l G Y Ex Qf M0 bc bs tgt ls st M) (kf : ¬ y ≤ x → mm_Zq l G Y Ex Qf M0 bc bs (pc + 3) ls st M) : mm_Zq l G Y Ex Qf M0 bc bs pc ls (.inl y :: .inl x :: st) M :=
  fun p e s m args below meth c H locs cells slots la hJ hT hL hc hs => lv_icmp_ge hJ.1 hJ.2.1 hd ht (fun q => kt q p e s m args below meth c H locs cells slots la hJ hT hL hc hs) (fun q => kf q p e s m args below meth c H locs cells slots la hJ hT hL hc hs)
theorem mr_if_gt {x : Int32} {off : Int} (tgt : Nat) (hd : decode Y.1 pc = .ok (.ifCond .gt off, 3)) (ht : (pc : Int) + off = (tgt : Int)) (kt : 0 < x → mm_Zq l G Y Ex Qf M0 bc bs tgt ls st M) (kf : ¬ 0 < x → mm_Zq l G Y Ex Qf M0 bc bs (pc + 3) ls st M) : mm_Zq l G Y Ex Qf M0 bc bs pc ls (.inl x :: st) M :=
  fun p e s m args below meth c H locs cells slots la hJ hT hL hc hs => lv_if_gt hJ.1 hJ.2.1 hd ht (fun q => kt q p e s m args below meth c H locs cells slots la hJ hT hL hc hs) (fun q => kf q p e s m args below meth c H locs cells slots la hJ hT hL hc hs)
theorem mr_icmp_gt {x y : Int32} {off : Int} (tgt : Nat) (hd : decode Y.1 pc = .ok (.if_icmp .gt off, 3)) (ht : (pc : Int) + off = (tgt : Int)) (kt : y < x → mm_Zq l G Y Ex Qf M0 bc bs tgt ls st M) (kf : ¬ y < x → mm_Zq l G Y Ex Qf M0 bc bs (pc + 3) ls st M) : mm_Zq l G Y Ex Qf M0 bc bs pc ls (.inl y :: .inl x :: st) M :=
  fun p e s m args below meth c H locs cells slots la hJ hT hL hc hs => lv_icmp_gt hJ.1 hJ.2.1 hd ht (fun q => kt q p e s m args below meth c H locs cells slots la hJ hT hL hc hs) (fun q => kf q p e s m args below meth c H locs cells slots la hJ hT hL hc hs)
theorem mr_if_le {x : Int32} {off : Int} (tgt : Nat) (hd : decode Y.1 pc = .ok (.ifCond .le off, 3)) (ht : (pc : Int) + off = (tgt : Int)) (kt : x ≤ 0 → mm_Zq l G Y Ex Qf M0 bc bs tgt ls st M) (kf : ¬ x ≤ 0 → mm_Zq l G Y Ex Qf M0 bc bs (pc + 3) ls st M) : mm_Zq l G Y Ex Qf M0 bc bs pc ls (.inl x :: st) M :=
  fun p e s m args below meth c H locs cells slots la hJ hT hL hc hs => lv_if_le hJ.1 hJ.2.1 hd ht (fun q => kt q p e s m args below meth c H locs cells slots la hJ hT hL hc hs) (fun q => kf q p e s m args below meth c H locs cells slots la hJ hT hL hc hs)
theorem mr_icmp_le {x y : Int32} {off : Int} (tgt : Nat) (hd : decode Y.1 pc = .ok (.if_icmp .le off, 3)) (ht : (pc : Int) + off = (tgt : Int)) (kt : x ≤ y → mm_Zq l G Y Ex Qf M0 bc bs tgt ls st M) (kf : ¬ x ≤ y → mm_Zq l G Y Ex Qf M0 bc bs (pc + 3) ls st M) : mm_Zq l G Y Ex Qf M0 bc bs pc ls (.inl y :: .inl x :: st) M :=
  fun p e s m args below meth c H locs cells slots la hJ hT hL hc hs => lv_icmp_le hJ.1 hJ.2.1 hd ht (fun q => kt q p e s m args below meth c H locs cells slots la hJ hT hL hc hs) (fun q => kf q p e s m args below meth c H locs cells slots la hJ hT hL hc hs)
theorem mr_acmp_eq {x y : Option Nat} {off : Int} (tgt : Nat) (hd : decode Y.1 pc = .ok (.if_acmp .eq off, 3)) (ht : (pc : Int) + off = (tgt : Int)) (kt : x = y → mm_Zq l G Y Ex Qf M0 bc bs tgt ls st M) (kf : ¬ x = y → mm_Zq l G Y Ex Qf M0 bc bs (pc + 3) ls st M) : mm_Zq l G Y Ex Qf M0 bc bs pc ls (.inr y :: .inr x :: st) M :=
  fun p e s m args below meth c H locs cells slots la hJ hT hL hc hs => lv_acmp_eq hJ.1 hJ.2.1 hd ht (fun q => kt q p e s m args below meth c H locs cells slots la hJ hT hL hc hs) (fun q => kf q p e s m args below meth c H locs cells slots la hJ hT hL hc hs)
theorem mr_acmp_ne {x y : Option Nat} {off : Int} (tgt : Nat) (hd : decode Y.1 pc = .ok (.if_acmp .ne off, 3)) (ht : (pc : Int) + off = (tgt : Int)) (kt : ¬ x = y → mm_Zq l G Y Ex Qf M0 bc bs tgt ls st M) (kf : x = y → mm_Zq l G Y Ex Qf M0 bc bs (pc + 3) ls st M) : mm_Zq l G Y Ex Qf M0 bc bs pc ls (.inr y :: .inr x :: st) M :=
  fun p e s m args below meth c H locs cells slots la hJ hT hL hc hs => lv_acmp_ne hJ.1 hJ.2.1 hd ht (fun q => kt q p e s m args below meth c H locs cells slots la hJ hT hL hc hs) (fun q => kf q p e s m args below meth c H locs cells slots la hJ hT hL hc hs)
theorem mr_ifnull {x : Option Nat} {off : Int} (tgt : Nat) (hd : decode Y.1 pc = .ok (.ifnull off, 3)) (ht : (pc : Int) + off = (tgt : Int)) (kt : x = none → mm_Zq l G Y Ex Qf M0 bc bs tgt ls st M) (kf : ∀ a, x = some a → mm_Zq l G Y Ex Qf M0 bc bs (pc + 3) ls st M) : mm_Zq l G Y Ex Qf M0 bc bs pc ls (.inr x :: st) M := by
  intro p e s m args below meth c H locs cells slots la hJ hT hL hc hs
  cases x with
  | none => exact lv_ifnullN hJ.1 hJ.2.1 hd ht (kt rfl p e s m args below meth c H locs cells slots la hJ hT hL hc hs)
  | some a => exact lv_ifnull hJ.1 hJ.2.1 hd (kf a rfl p e s m args below meth c H locs cells slots la hJ hT hL hc hs)
theorem mr_ifnonnull {x : Option Nat} {off : Int} (tgt : Nat) (hd : decode Y.1 pc = .ok (.ifnonnull off, 3)) (ht : (pc : Int) + off = (tgt : Int)) (kt : ∀ a, x = some a → mm_Zq l G Y Ex Qf M0 bc bs tgt ls st M) (kf : x = none → mm_Zq l G Y Ex Qf M0 bc bs (pc + 3) ls st M) : mm_Zq l G Y Ex Qf M0 bc bs pc ls (.inr x :: st) M := by
  intro p e s m args below meth c H locs cells slots la hJ hT hL hc hs
  cases x with
  | none => exact lv_ifnonnullN hJ.1 hJ.2.1 hd (kf rfl p e s m args below meth c H locs cells slots la hJ hT hL hc hs)
  | some a => exact lv_ifnonnull hJ.1 hJ.2.1 hd ht (kt a rfl p e s m args below meth c H locs cells slots la hJ hT hL hc hs)
theorem mr_goto {off : Int} (tgt : Nat) (hd : decode Y.1 pc = .ok (.goto off, 3)) (ht : (pc : Int) + off = (tgt : Int)) (k : mm_Zq l G Y Ex Qf M0 bc bs tgt ls st M) : mm_Zq l G Y Ex Qf M0 bc bs pc ls st M :=
  fun p e s m args below meth c H locs cells slots la hJ hT hL hc hs => lv_goto hJ.1 hJ.2.1 hd ht (k p e s m args below meth c H locs cells slots la hJ hT hL hc hs)
-- ends
theorem mr_ireturn {v : Int32} (hd : decode Y.1 pc = .ok (.ireturn, 1)) (hr : Y.2.2.2.1 = some .int) (hk : K (some (.inl v)) M) : mm_Z l G Y K M0 bc bs pc ls [.inl v] M := by
  intro p e s m args below meth c H locs cells slots la hJ hT hL hc hs
  refine W.widen (k := Y.2.2.2.2.2.cells) (n := Y.2.2.2.2.2.slots) (by omega) (by omega) ?_
  have hlocks := hJ.2.2.2.2.1
  exact W.iret (v := v) hJ.1 hJ.2.1 (hJ.2.2.2.1.trans hr) (fun t ht hW => ⟨some (.inl v), M, rfl, by rw [ht]; exact hT.1, hT.2.2, hk, hT.2.1.F ht⟩) hT.2.1.2.2 hd
theorem mr_zreturn {v : Int32} (hd : decode Y.1 pc = .ok (.ireturn, 1)) (hr : Y.2.2.2.1 = some .boolean) (hv : v = 0 ∨ v = 1) (hk : K (some (.inl v)) M) : mm_Z l G Y K M0 bc bs pc ls [.inl v] M := by
  intro p e s m args below meth c H locs cells slots la hJ hT hL hc hs
  refine W.widen (k := Y.2.2.2.2.2.cells) (n := Y.2.2.2.2.2.slots) (by omega) (by omega) ?_
  have hlocks := hJ.2.2.2.2.1
  exact W.zret (v := v) hJ.1 hJ.2.1 (hJ.2.2.2.1.trans hr) (by rcases hv with rfl | rfl <;> decide) (fun t ht hW => ⟨some (.inl v), M, rfl, by rw [ht]; exact hT.1, hT.2.2, hk, hT.2.1.F ht⟩) hT.2.1.2.2 hd
theorem mr_return (hd : decode Y.1 pc = .ok (.return_, 1)) (hr : Y.2.2.2.1 = none) (hk : K none M) : mm_Z l G Y K M0 bc bs pc ls [] M := by
  intro p e s m args below meth c H locs cells slots la hJ hT hL hc hs
  refine W.widen (k := Y.2.2.2.2.2.cells) (n := Y.2.2.2.2.2.slots) (by omega) (by omega) ?_
  have hlocks := hJ.2.2.2.2.1
  exact W.vret hJ.1 hJ.2.1 (hJ.2.2.2.1.trans hr) (fun t ht hW => ⟨none, M, rfl, by rw [ht]; exact hT.1, hT.2.2, hk, hT.2.1.F ht⟩) hT.2.1.2.2 hd
theorem mr_areturn {o : Option Nat} {rt : FieldType} (hd : decode Y.1 pc = .ok (.areturn, 1)) (hr : Y.2.2.2.1 = some rt) (hrt : (∃ n, rt = .object n) ∨ ∃ t, rt = .array t) (hk : K (some (.inr o)) M) : mm_Z l G Y K M0 bc bs pc ls [.inr o] M := by
  intro p e s m args below meth c H locs cells slots la hJ hT hL hc hs
  refine W.widen (k := Y.2.2.2.2.2.cells) (n := Y.2.2.2.2.2.slots) (by omega) (by omega) ?_
  have hlocks := hJ.2.2.2.2.1
  exact W.aret (v := va_rf o) hJ.1 hJ.2.1 (hJ.2.2.2.1.trans hr) hrt (va_rf_or o) (fun t ht hW => ⟨some (.inr o), M, rfl, by rw [ht]; exact hT.1, hT.2.2, hk, hT.2.1.F ht⟩) hT.2.1.2.2 hd
end RW1
