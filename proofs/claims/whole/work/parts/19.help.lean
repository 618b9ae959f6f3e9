/-! HELPERS of the laid stretches -/
def mm_le : List (Option mm_V) → List (Option mm_V) → Prop
  | [], _ => True
  | none :: t, _ :: u => mm_le t u
  | some v :: t, x :: u => x = some v ∧ mm_le t u
  | _ :: _, [] => False
theorem mm_le_e {u : List (Option mm_V)} : mm_le [] u := trivial
theorem mm_le_n {t u : List (Option mm_V)} {x : Option mm_V} (h : mm_le t u) : mm_le (none :: t) (x :: u) := h
theorem mm_le_s {t u : List (Option mm_V)} {v : mm_V} (h : mm_le t u) : mm_le (some v :: t) (some v :: u) := ⟨rfl, h⟩
theorem mm_leq : ∀ {ls' ls : List (Option mm_V)}, mm_le ls' ls → ∀ (i : Nat) (v : mm_V), ls'[i]? = some (some v) → ls[i]? = some (some v)
  | [], _, _, i, v, h => by simp at h
  | none :: t, [], hl, _, _, _ => False.elim hl
  | some _ :: t, [], hl, _, _, _ => False.elim hl
  | none :: t, x :: u, hl, i, v, h => by
    cases i with
    | zero => simp at h
    | succ i => exact mm_leq (ls' := t) (ls := u) hl i v (by simpa using h)
  | some w :: t, x :: u, hl, i, v, h => by
    cases i with
    | zero =>
      have h1 : w = v := by simpa using h
      subst h1
      have h2 : x = some w := hl.1
      simp [h2]
    | succ i => exact mm_leq (ls' := t) (ls := u) hl.2 i v (by simpa using h)
theorem mm_Xk {M M1 : mm_M} {a k : Nat} (hX : mm_X M M1) (hk : mm_k M a = k) (h0 : k ≠ 0) : mm_k M1 a = k := (hX.2.1 a (by rw [hk]; exact h0)).1.trans hk
theorem mm_Xl {M M1 : mm_M} {a n : Nat} (hX : mm_X M M1) (hk : mm_k M a ≠ 0) (hl : mm_l M a = n) : mm_l M1 a = n := (hX.2.1 a hk).2.trans hl
section RW5
variable {l : Launch} {G : mm_G} {Y : mm_Y} {K : Option mm_V → mm_M → Prop} {Ex : State → Array Value → Prop} {Qf : List Frame → Array Value → State → State → Prop} {M0 M : mm_M} {bc bs pc : Nat} {ls : List (Option mm_V)} {st : List mm_V}
theorem mr_alen2 {a : Nat} {o : Option Nat} (hd : decode Y.1 pc = .ok (.arraylength, 1)) (ho : o = some a) (hk : mm_k M a = 102 ∨ mm_k M a = 105)
    (kk : mm_Zq l G Y Ex Qf M0 bc bs (pc + 1) ls (.inl (nI (mm_l M a)) :: st) M) : mm_Zq l G Y Ex Qf M0 bc bs pc ls (.inr o :: st) M := by
  rcases hk with hk | hk
  · exact mr_alen (t := 2) hd ho hk (by decide) (fun _ => rfl) kk
  · exact mr_aleno hd ho hk kk
theorem mr_callV0 {idx ci b : Nat} {y : MethodName} {Yc : mm_Y} {vs : List mm_V} {st0 : List mm_V} {o : Option Nat} {K' : Option mm_V → mm_M → Prop} {T : u_T} {N : Nat} (hF : mm_Fc Y.2.1 idx y Yc vs.length) (h1 : Cond.instanceMethod y ∈ mm_B) (h2 : Cond.selects y.cls y y ∈ mm_B) (hd : decode Y.1 pc = .ok (.invokevirtual idx, 3)) (hR : mm_Rm Y.2.2.2.2.2 Yc.2.2.2.2.2 Yc.2.2.1) (hci : ci < 99) (hcl : vwCl[ci]? = some (y.cls, T, N)) (hst : st0 = vs.reverse ++ .inr o :: st) (hlen : st.length ≤ 8) (ho : o = some b) (hk : mm_k M b = ci + 1) (hc0 : Yc.2.2.2.2.2.cells = 0) (hs0 : Yc.2.2.2.2.2.slots = 0) (hOk : mm_Ok l G y Yc (.inr (some b) :: vs) M K')
    (kk : ∀ r M1, mm_X M M1 → K' r M1 → mm_Zq l G Y Ex Qf M0 bc bs (pc + 3) ls (r.toList ++ st) M1) : mm_Zq l G Y Ex Qf M0 bc bs pc ls st0 M := by
  have h := mr_callV (bc := bc) (bs := bs) hF h1 h2 hd hR hci hcl hst hlen ho hk hOk kk
  rw [hc0, hs0] at h
  exact h
theorem mr_callI0 {idx b : Nat} {y : MethodName} {Yc : mm_Y} {vs : List mm_V} {st0 : List mm_V} {o : Option Nat} {K' : Option mm_V → mm_M → Prop} (hF : mm_Fc Y.2.1 idx y Yc vs.length) (h1 : Cond.instanceMethod y ∈ mm_B) (h2 : y.name = "<init>" ∧ Yc.2.2.2.1 = none) (hd : decode Y.1 pc = .ok (.invokespecial idx, 3)) (hR : mm_Rm Y.2.2.2.2.2 Yc.2.2.2.2.2 Yc.2.2.1) (hst : st0 = vs.reverse ++ .inr o :: st) (hlen : st.length ≤ 8) (ho : o = some b) (hc0 : Yc.2.2.2.2.2.cells = 0) (hs0 : Yc.2.2.2.2.2.slots = 0) (hOk : mm_Ok l G y Yc (.inr (some b) :: vs) M K')
    (kk : ∀ r M1, mm_X M M1 → K' r M1 → mm_Zq l G Y Ex Qf M0 bc bs (pc + 3) ls (r.toList ++ st) M1) : mm_Zq l G Y Ex Qf M0 bc bs pc ls st0 M := by
  have h := mr_callI (bc := bc) (bs := bs) hF h1 h2 hd hR hst hlen ho hOk kk
  rw [hc0, hs0] at h
  exact h
theorem mr_callS0 {idx : Nat} {y : MethodName} {Yc : mm_Y} {vs : List mm_V} {st0 : List mm_V} {K' : Option mm_V → mm_M → Prop} (hF : mm_Fc Y.2.1 idx y Yc vs.length) (h1 : Cond.static y ∈ mm_B) (hd : decode Y.1 pc = .ok (.invokestatic idx, 3)) (hR : mm_Rm Y.2.2.2.2.2 Yc.2.2.2.2.2 Yc.2.2.1) (hst : st0 = vs.reverse ++ st) (hlen : st.length ≤ 8) (hc0 : Yc.2.2.2.2.2.cells = 0) (hs0 : Yc.2.2.2.2.2.slots = 0) (hOk : mm_Ok l G y Yc vs M K')
    (kk : ∀ r M1, mm_X M M1 → K' r M1 → mm_Zq l G Y Ex Qf M0 bc bs (pc + 3) ls (r.toList ++ st) M1) : mm_Zq l G Y Ex Qf M0 bc bs pc ls st0 M := by
  have h := mr_callS (bc := bc) (bs := bs) hF h1 hd hR hst hlen hOk kk
  rw [hc0, hs0] at h
  exact h
end RW5
