/-! LAID STRETCHES (by program, wip/tools/walk.py): the reference, large ones -/
set_option maxHeartbeats 4000000 in
set_option maxRecDepth 100000 in
theorem sg_Mo_init {l : Launch} {G : mm_G} {K : Option mm_V → mm_M → Prop} {M : mm_M} {a0 : Nat} {xa : Int32}
    (h : ∀ q1, q1 = mm_z M → mm_k (mm_nw M 100 8) a0 = 9 ∧ ∀ q4, q4 = mm_z (mm_sp (mm_nw M 100 8) a0 0 (some q1)) → mm_k (mm_nw (mm_sp (mm_nw M 100 8) a0 0 (some q1)) 100 8) a0 = 9 ∧ ∀ q7, q7 = mm_z (mm_sp (mm_nw (mm_sp (mm_nw M 100 8) a0 0 (some q1)) 100 8) a0 1 (some q4)) → mm_k (mm_nw (mm_sp (mm_nw (mm_sp (mm_nw M 100 8) a0 0 (some q1)) 100 8) a0 1 (some q4)) 100 8) a0 = 9 ∧ ∀ q10, q10 = mm_z (mm_sp (mm_nw (mm_sp (mm_nw (mm_sp (mm_nw M 100 8) a0 0 (some q1)) 100 8) a0 1 (some q4)) 100 8) a0 2 (some q7)) → mm_k (mm_nw (mm_sp (mm_nw (mm_sp (mm_nw (mm_sp (mm_nw M 100 8) a0 0 (some q1)) 100 8) a0 1 (some q4)) 100 8) a0 2 (some q7)) 101 8) a0 = 9 ∧ ∀ q13, q13 = mm_z (mm_sp (mm_nw (mm_sp (mm_nw (mm_sp (mm_nw (mm_sp (mm_nw M 100 8) a0 0 (some q1)) 100 8) a0 1 (some q4)) 100 8) a0 2 (some q7)) 101 8) a0 3 (some q10)) → mm_k (mm_nw (mm_sp (mm_nw (mm_sp (mm_nw (mm_sp (mm_nw (mm_sp (mm_nw M 100 8) a0 0 (some q1)) 100 8) a0 1 (some q4)) 100 8) a0 2 (some q7)) 101 8) a0 3 (some q10)) 100 32) a0 = 9 ∧ ∀ q16, q16 = mm_z (mm_sp (mm_nw (mm_sp (mm_nw (mm_sp (mm_nw (mm_sp (mm_nw (mm_sp (mm_nw M 100 8) a0 0 (some q1)) 100 8) a0 1 (some q4)) 100 8) a0 2 (some q7)) 101 8) a0 3 (some q10)) 100 32) a0 5 (some q13)) → mm_k (mm_nw (mm_sp (mm_nw (mm_sp (mm_nw (mm_sp (mm_nw (mm_sp (mm_nw (mm_sp (mm_nw M 100 8) a0 0 (some q1)) 100 8) a0 1 (some q4)) 100 8) a0 2 (some q7)) 101 8) a0 3 (some q10)) 100 32) a0 5 (some q13)) 100 60) a0 = 9 ∧ ∀ q19, q19 = mm_z (mm_sp (mm_nw (mm_sp (mm_nw (mm_sp (mm_nw (mm_sp (mm_nw (mm_sp (mm_nw (mm_sp (mm_nw M 100 8) a0 0 (some q1)) 100 8) a0 1 (some q4)) 100 8) a0 2 (some q7)) 101 8) a0 3 (some q10)) 100 32) a0 5 (some q13)) 100 60) a0 6 (some q16)) → mm_k (mm_nw (mm_sp (mm_nw (mm_sp (mm_nw (mm_sp (mm_nw (mm_sp (mm_nw (mm_sp (mm_nw (mm_sp (mm_nw M 100 8) a0 0 (some q1)) 100 8) a0 1 (some q4)) 100 8) a0 2 (some q7)) 101 8) a0 3 (some q10)) 100 32) a0 5 (some q13)) 100 60) a0 6 (some q16)) 100 60) a0 = 9 ∧ ∀ q22, q22 = mm_z (mm_sp (mm_nw (mm_sp (mm_nw (mm_sp (mm_nw (mm_sp (mm_nw (mm_sp (mm_nw (mm_sp (mm_nw (mm_sp (mm_nw M 100 8) a0 0 (some q1)) 100 8) a0 1 (some q4)) 100 8) a0 2 (some q7)) 101 8) a0 3 (some q10)) 100 32) a0 5 (some q13)) 100 60) a0 6 (some q16)) 100 60) a0 7 (some q19)) → mm_k (mm_nw (mm_sp (mm_nw (mm_sp (mm_nw (mm_sp (mm_nw (mm_sp (mm_nw (mm_sp (mm_nw (mm_sp (mm_nw (mm_sp (mm_nw M 100 8) a0 0 (some q1)) 100 8) a0 1 (some q4)) 100 8) a0 2 (some q7)) 101 8) a0 3 (some q10)) 100 32) a0 5 (some q13)) 100 60) a0 6 (some q16)) 100 60) a0 7 (some q19)) 100 60) a0 = 9 ∧ ∀ q25, q25 = mm_z (mm_sp (mm_nw (mm_sp (mm_nw (mm_sp (mm_nw (mm_sp (mm_nw (mm_sp (mm_nw (mm_sp (mm_nw (mm_sp (mm_nw (mm_sp (mm_nw M 100 8) a0 0 (some q1)) 100 8) a0 1 (some q4)) 100 8) a0 2 (some q7)) 101 8) a0 3 (some q10)) 100 32) a0 5 (some q13)) 100 60) a0 6 (some q16)) 100 60) a0 7 (some q19)) 100 60) a0 8 (some q22)) → mm_k (mm_nw (mm_sp (mm_nw (mm_sp (mm_nw (mm_sp (mm_nw (mm_sp (mm_nw (mm_sp (mm_nw (mm_sp (mm_nw (mm_sp (mm_nw (mm_sp (mm_nw M 100 8) a0 0 (some q1)) 100 8) a0 1 (some q4)) 100 8) a0 2 (some q7)) 101 8) a0 3 (some q10)) 100 32) a0 5 (some q13)) 100 60) a0 6 (some q16)) 100 60) a0 7 (some q19)) 100 60) a0 8 (some q22)) 100 60) a0 = 9 ∧ ∀ q28, q28 = mm_z (mm_sp (mm_nw (mm_sp (mm_nw (mm_sp (mm_nw (mm_sp (mm_nw (mm_sp (mm_nw (mm_sp (mm_nw (mm_sp (mm_nw (mm_sp (mm_nw (mm_sp (mm_nw M 100 8) a0 0 (some q1)) 100 8) a0 1 (some q4)) 100 8) a0 2 (some q7)) 101 8) a0 3 (some q10)) 100 32) a0 5 (some q13)) 100 60) a0 6 (some q16)) 100 60) a0 7 (some q19)) 100 60) a0 8 (some q22)) 100 60) a0 9 (some q25)) → mm_k (mm_nw (mm_sp (mm_nw (mm_sp (mm_nw (mm_sp (mm_nw (mm_sp (mm_nw (mm_sp (mm_nw (mm_sp (mm_nw (mm_sp (mm_nw (mm_sp (mm_nw (mm_sp (mm_nw M 100 8) a0 0 (some q1)) 100 8) a0 1 (some q4)) 100 8) a0 2 (some q7)) 101 8) a0 3 (some q10)) 100 32) a0 5 (some q13)) 100 60) a0 6 (some q16)) 100 60) a0 7 (some q19)) 100 60) a0 8 (some q22)) 100 60) a0 9 (some q25)) 100 180) a0 = 9 ∧ ∀ q31, q31 = mm_z (mm_sp (mm_nw (mm_sp (mm_nw (mm_sp (mm_nw (mm_sp (mm_nw (mm_sp (mm_nw (mm_sp (mm_nw (mm_sp (mm_nw (mm_sp (mm_nw (mm_sp (mm_nw (mm_sp (mm_nw M 100 8) a0 0 (some q1)) 100 8) a0 1 (some q4)) 100 8) a0 2 (some q7)) 101 8) a0 3 (some q10)) 100 32) a0 5 (some q13)) 100 60) a0 6 (some q16)) 100 60) a0 7 (some q19)) 100 60) a0 8 (some q22)) 100 60) a0 9 (some q25)) 100 180) a0 10 (some q28)) → mm_k (mm_nw (mm_sp (mm_nw (mm_sp (mm_nw (mm_sp (mm_nw (mm_sp (mm_nw (mm_sp (mm_nw (mm_sp (mm_nw (mm_sp (mm_nw (mm_sp (mm_nw (mm_sp (mm_nw (mm_sp (mm_nw M 100 8) a0 0 (some q1)) 100 8) a0 1 (some q4)) 100 8) a0 2 (some q7)) 101 8) a0 3 (some q10)) 100 32) a0 5 (some q13)) 100 60) a0 6 (some q16)) 100 60) a0 7 (some q19)) 100 60) a0 8 (some q22)) 100 60) a0 9 (some q25)) 100 180) a0 10 (some q28)) 100 24) a0 = 9 ∧ ∀ q34, q34 = mm_z (mm_sp (mm_nw (mm_sp (mm_nw (mm_sp (mm_nw (mm_sp (mm_nw (mm_sp (mm_nw (mm_sp (mm_nw (mm_sp (mm_nw (mm_sp (mm_nw (mm_sp (mm_nw (mm_sp (mm_nw (mm_sp (mm_nw M 100 8) a0 0 (some q1)) 100 8) a0 1 (some q4)) 100 8) a0 2 (some q7)) 101 8) a0 3 (some q10)) 100 32) a0 5 (some q13)) 100 60) a0 6 (some q16)) 100 60) a0 7 (some q19)) 100 60) a0 8 (some q22)) 100 60) a0 9 (some q25)) 100 180) a0 10 (some q28)) 100 24) a0 11 (some q31)) → mm_k (mm_nw (mm_sp (mm_nw (mm_sp (mm_nw (mm_sp (mm_nw (mm_sp (mm_nw (mm_sp (mm_nw (mm_sp (mm_nw (mm_sp (mm_nw (mm_sp (mm_nw (mm_sp (mm_nw (mm_sp (mm_nw (mm_sp (mm_nw M 100 8) a0 0 (some q1)) 100 8) a0 1 (some q4)) 100 8) a0 2 (some q7)) 101 8) a0 3 (some q10)) 100 32) a0 5 (some q13)) 100 60) a0 6 (some q16)) 100 60) a0 7 (some q19)) 100 60) a0 8 (some q22)) 100 60) a0 9 (some q25)) 100 180) a0 10 (some q28)) 100 24) a0 11 (some q31)) 100 24) a0 = 9 ∧ ∀ q37, q37 = mm_z (mm_sp (mm_nw (mm_sp (mm_nw (mm_sp (mm_nw (mm_sp (mm_nw (mm_sp (mm_nw (mm_sp (mm_nw (mm_sp (mm_nw (mm_sp (mm_nw (mm_sp (mm_nw (mm_sp (mm_nw (mm_sp (mm_nw (mm_sp (mm_nw M 100 8) a0 0 (some q1)) 100 8) a0 1 (some q4)) 100 8) a0 2 (some q7)) 101 8) a0 3 (some q10)) 100 32) a0 5 (some q13)) 100 60) a0 6 (some q16)) 100 60) a0 7 (some q19)) 100 60) a0 8 (some q22)) 100 60) a0 9 (some q25)) 100 180) a0 10 (some q28)) 100 24) a0 11 (some q31)) 100 24) a0 12 (some q34)) → mm_k (mm_nw (mm_sp (mm_nw (mm_sp (mm_nw (mm_sp (mm_nw (mm_sp (mm_nw (mm_sp (mm_nw (mm_sp (mm_nw (mm_sp (mm_nw (mm_sp (mm_nw (mm_sp (mm_nw (mm_sp (mm_nw (mm_sp (mm_nw (mm_sp (mm_nw M 100 8) a0 0 (some q1)) 100 8) a0 1 (some q4)) 100 8) a0 2 (some q7)) 101 8) a0 3 (some q10)) 100 32) a0 5 (some q13)) 100 60) a0 6 (some q16)) 100 60) a0 7 (some q19)) 100 60) a0 8 (some q22)) 100 60) a0 9 (some q25)) 100 180) a0 10 (some q28)) 100 24) a0 11 (some q31)) 100 24) a0 12 (some q34)) 100 24) a0 = 9 ∧ ∀ q40, q40 = mm_z (mm_sp (mm_nw (mm_sp (mm_nw (mm_sp (mm_nw (mm_sp (mm_nw (mm_sp (mm_nw (mm_sp (mm_nw (mm_sp (mm_nw (mm_sp (mm_nw (mm_sp (mm_nw (mm_sp (mm_nw (mm_sp (mm_nw (mm_sp (mm_nw (mm_sp (mm_nw M 100 8) a0 0 (some q1)) 100 8) a0 1 (some q4)) 100 8) a0 2 (some q7)) 101 8) a0 3 (some q10)) 100 32) a0 5 (some q13)) 100 60) a0 6 (some q16)) 100 60) a0 7 (some q19)) 100 60) a0 8 (some q22)) 100 60) a0 9 (some q25)) 100 180) a0 10 (some q28)) 100 24) a0 11 (some q31)) 100 24) a0 12 (some q34)) 100 24) a0 13 (some q37)) → mm_k (mm_nw (mm_sp (mm_nw (mm_sp (mm_nw (mm_sp (mm_nw (mm_sp (mm_nw (mm_sp (mm_nw (mm_sp (mm_nw (mm_sp (mm_nw (mm_sp (mm_nw (mm_sp (mm_nw (mm_sp (mm_nw (mm_sp (mm_nw (mm_sp (mm_nw (mm_sp (mm_nw M 100 8) a0 0 (some q1)) 100 8) a0 1 (some q4)) 100 8) a0 2 (some q7)) 101 8) a0 3 (some q10)) 100 32) a0 5 (some q13)) 100 60) a0 6 (some q16)) 100 60) a0 7 (some q19)) 100 60) a0 8 (some q22)) 100 60) a0 9 (some q25)) 100 180) a0 10 (some q28)) 100 24) a0 11 (some q31)) 100 24) a0 12 (some q34)) 100 24) a0 13 (some q37)) 100 4) a0 = 9 ∧ ∀ q43, q43 = mm_z (mm_sp (mm_nw (mm_sp (mm_nw (mm_sp (mm_nw (mm_sp (mm_nw (mm_sp (mm_nw (mm_sp (mm_nw (mm_sp (mm_nw (mm_sp (mm_nw (mm_sp (mm_nw (mm_sp (mm_nw (mm_sp (mm_nw (mm_sp (mm_nw (mm_sp (mm_nw (mm_sp (mm_nw M 100 8) a0 0 (some q1)) 100 8) a0 1 (some q4)) 100 8) a0 2 (some q7)) 101 8) a0 3 (some q10)) 100 32) a0 5 (some q13)) 100 60) a0 6 (some q16)) 100 60) a0 7 (some q19)) 100 60) a0 8 (some q22)) 100 60) a0 9 (some q25)) 100 180) a0 10 (some q28)) 100 24) a0 11 (some q31)) 100 24) a0 12 (some q34)) 100 24) a0 13 (some q37)) 100 4) a0 15 (some q40)) → mm_k (mm_nw (mm_sp (mm_nw (mm_sp (mm_nw (mm_sp (mm_nw (mm_sp (mm_nw (mm_sp (mm_nw (mm_sp (mm_nw (mm_sp (mm_nw (mm_sp (mm_nw (mm_sp (mm_nw (mm_sp (mm_nw (mm_sp (mm_nw (mm_sp (mm_nw (mm_sp (mm_nw (mm_sp (mm_nw M 100 8) a0 0 (some q1)) 100 8) a0 1 (some q4)) 100 8) a0 2 (some q7)) 101 8) a0 3 (some q10)) 100 32) a0 5 (some q13)) 100 60) a0 6 (some q16)) 100 60) a0 7 (some q19)) 100 60) a0 8 (some q22)) 100 60) a0 9 (some q25)) 100 180) a0 10 (some q28)) 100 24) a0 11 (some q31)) 100 24) a0 12 (some q34)) 100 24) a0 13 (some q37)) 100 4) a0 15 (some q40)) 100 4) a0 = 9 ∧ ∀ q46, q46 = mm_z (mm_sp (mm_nw (mm_sp (mm_nw (mm_sp (mm_nw (mm_sp (mm_nw (mm_sp (mm_nw (mm_sp (mm_nw (mm_sp (mm_nw (mm_sp (mm_nw (mm_sp (mm_nw (mm_sp (mm_nw (mm_sp (mm_nw (mm_sp (mm_nw (mm_sp (mm_nw (mm_sp (mm_nw (mm_sp (mm_nw M 100 8) a0 0 (some q1)) 100 8) a0 1 (some q4)) 100 8) a0 2 (some q7)) 101 8) a0 3 (some q10)) 100 32) a0 5 (some q13)) 100 60) a0 6 (some q16)) 100 60) a0 7 (some q19)) 100 60) a0 8 (some q22)) 100 60) a0 9 (some q25)) 100 180) a0 10 (some q28)) 100 24) a0 11 (some q31)) 100 24) a0 12 (some q34)) 100 24) a0 13 (some q37)) 100 4) a0 15 (some q40)) 100 4) a0 16 (some q43)) → mm_k (mm_nw (mm_sp (mm_nw (mm_sp (mm_nw (mm_sp (mm_nw (mm_sp (mm_nw (mm_sp (mm_nw (mm_sp (mm_nw (mm_sp (mm_nw (mm_sp (mm_nw (mm_sp (mm_nw (mm_sp (mm_nw (mm_sp (mm_nw (mm_sp (mm_nw (mm_sp (mm_nw (mm_sp (mm_nw (mm_sp (mm_nw M 100 8) a0 0 (some q1)) 100 8) a0 1 (some q4)) 100 8) a0 2 (some q7)) 101 8) a0 3 (some q10)) 100 32) a0 5 (some q13)) 100 60) a0 6 (some q16)) 100 60) a0 7 (some q19)) 100 60) a0 8 (some q22)) 100 60) a0 9 (some q25)) 100 180) a0 10 (some q28)) 100 24) a0 11 (some q31)) 100 24) a0 12 (some q34)) 100 24) a0 13 (some q37)) 100 4) a0 15 (some q40)) 100 4) a0 16 (some q43)) 100 4) a0 = 9 ∧ ∀ q49, q49 = mm_z (mm_sp (mm_nw (mm_sp (mm_nw (mm_sp (mm_nw (mm_sp (mm_nw (mm_sp (mm_nw (mm_sp (mm_nw (mm_sp (mm_nw (mm_sp (mm_nw (mm_sp (mm_nw (mm_sp (mm_nw (mm_sp (mm_nw (mm_sp (mm_nw (mm_sp (mm_nw (mm_sp (mm_nw (mm_sp (mm_nw (mm_sp (mm_nw M 100 8) a0 0 (some q1)) 100 8) a0 1 (some q4)) 100 8) a0 2 (some q7)) 101 8) a0 3 (some q10)) 100 32) a0 5 (some q13)) 100 60) a0 6 (some q16)) 100 60) a0 7 (some q19)) 100 60) a0 8 (some q22)) 100 60) a0 9 (some q25)) 100 180) a0 10 (some q28)) 100 24) a0 11 (some q31)) 100 24) a0 12 (some q34)) 100 24) a0 13 (some q37)) 100 4) a0 15 (some q40)) 100 4) a0 16 (some q43)) 100 4) a0 17 (some q46)) → mm_k (mm_nw (mm_sp (mm_nw (mm_sp (mm_nw (mm_sp (mm_nw (mm_sp (mm_nw (mm_sp (mm_nw (mm_sp (mm_nw (mm_sp (mm_nw (mm_sp (mm_nw (mm_sp (mm_nw (mm_sp (mm_nw (mm_sp (mm_nw (mm_sp (mm_nw (mm_sp (mm_nw (mm_sp (mm_nw (mm_sp (mm_nw (mm_sp (mm_nw M 100 8) a0 0 (some q1)) 100 8) a0 1 (some q4)) 100 8) a0 2 (some q7)) 101 8) a0 3 (some q10)) 100 32) a0 5 (some q13)) 100 60) a0 6 (some q16)) 100 60) a0 7 (some q19)) 100 60) a0 8 (some q22)) 100 60) a0 9 (some q25)) 100 180) a0 10 (some q28)) 100 24) a0 11 (some q31)) 100 24) a0 12 (some q34)) 100 24) a0 13 (some q37)) 100 4) a0 15 (some q40)) 100 4) a0 16 (some q43)) 100 4) a0 17 (some q46)) 101 32) a0 = 9 ∧ ∀ q52, q52 = mm_z (mm_sp (mm_nw (mm_sp (mm_nw (mm_sp (mm_nw (mm_sp (mm_nw (mm_sp (mm_nw (mm_sp (mm_nw (mm_sp (mm_nw (mm_sp (mm_nw (mm_sp (mm_nw (mm_sp (mm_nw (mm_sp (mm_nw (mm_sp (mm_nw (mm_sp (mm_nw (mm_sp (mm_nw (mm_sp (mm_nw (mm_sp (mm_nw (mm_sp (mm_nw M 100 8) a0 0 (some q1)) 100 8) a0 1 (some q4)) 100 8) a0 2 (some q7)) 101 8) a0 3 (some q10)) 100 32) a0 5 (some q13)) 100 60) a0 6 (some q16)) 100 60) a0 7 (some q19)) 100 60) a0 8 (some q22)) 100 60) a0 9 (some q25)) 100 180) a0 10 (some q28)) 100 24) a0 11 (some q31)) 100 24) a0 12 (some q34)) 100 24) a0 13 (some q37)) 100 4) a0 15 (some q40)) 100 4) a0 16 (some q43)) 100 4) a0 17 (some q46)) 101 32) a0 19 (some q49)) → mm_k (mm_nw (mm_sp (mm_nw (mm_sp (mm_nw (mm_sp (mm_nw (mm_sp (mm_nw (mm_sp (mm_nw (mm_sp (mm_nw (mm_sp (mm_nw (mm_sp (mm_nw (mm_sp (mm_nw (mm_sp (mm_nw (mm_sp (mm_nw (mm_sp (mm_nw (mm_sp (mm_nw (mm_sp (mm_nw (mm_sp (mm_nw (mm_sp (mm_nw (mm_sp (mm_nw M 100 8) a0 0 (some q1)) 100 8) a0 1 (some q4)) 100 8) a0 2 (some q7)) 101 8) a0 3 (some q10)) 100 32) a0 5 (some q13)) 100 60) a0 6 (some q16)) 100 60) a0 7 (some q19)) 100 60) a0 8 (some q22)) 100 60) a0 9 (some q25)) 100 180) a0 10 (some q28)) 100 24) a0 11 (some q31)) 100 24) a0 12 (some q34)) 100 24) a0 13 (some q37)) 100 4) a0 15 (some q40)) 100 4) a0 16 (some q43)) 100 4) a0 17 (some q46)) 101 32) a0 19 (some q49)) 101 32) a0 = 9 ∧ ∀ q55, q55 = mm_z (mm_sp (mm_nw (mm_sp (mm_nw (mm_sp (mm_nw (mm_sp (mm_nw (mm_sp (mm_nw (mm_sp (mm_nw (mm_sp (mm_nw (mm_sp (mm_nw (mm_sp (mm_nw (mm_sp (mm_nw (mm_sp (mm_nw (mm_sp (mm_nw (mm_sp (mm_nw (mm_sp (mm_nw (mm_sp (mm_nw (mm_sp (mm_nw (mm_sp (mm_nw (mm_sp (mm_nw M 100 8) a0 0 (some q1)) 100 8) a0 1 (some q4)) 100 8) a0 2 (some q7)) 101 8) a0 3 (some q10)) 100 32) a0 5 (some q13)) 100 60) a0 6 (some q16)) 100 60) a0 7 (some q19)) 100 60) a0 8 (some q22)) 100 60) a0 9 (some q25)) 100 180) a0 10 (some q28)) 100 24) a0 11 (some q31)) 100 24) a0 12 (some q34)) 100 24) a0 13 (some q37)) 100 4) a0 15 (some q40)) 100 4) a0 16 (some q43)) 100 4) a0 17 (some q46)) 101 32) a0 19 (some q49)) 101 32) a0 20 (some q52)) → mm_k (mm_nw (mm_sp (mm_nw (mm_sp (mm_nw (mm_sp (mm_nw (mm_sp (mm_nw (mm_sp (mm_nw (mm_sp (mm_nw (mm_sp (mm_nw (mm_sp (mm_nw (mm_sp (mm_nw (mm_sp (mm_nw (mm_sp (mm_nw (mm_sp (mm_nw (mm_sp (mm_nw (mm_sp (mm_nw (mm_sp (mm_nw (mm_sp (mm_nw (mm_sp (mm_nw (mm_sp (mm_nw M 100 8) a0 0 (some q1)) 100 8) a0 1 (some q4)) 100 8) a0 2 (some q7)) 101 8) a0 3 (some q10)) 100 32) a0 5 (some q13)) 100 60) a0 6 (some q16)) 100 60) a0 7 (some q19)) 100 60) a0 8 (some q22)) 100 60) a0 9 (some q25)) 100 180) a0 10 (some q28)) 100 24) a0 11 (some q31)) 100 24) a0 12 (some q34)) 100 24) a0 13 (some q37)) 100 4) a0 15 (some q40)) 100 4) a0 16 (some q43)) 100 4) a0 17 (some q46)) 101 32) a0 19 (some q49)) 101 32) a0 20 (some q52)) 101 780) a0 = 9 ∧ ∀ q58, q58 = mm_z (mm_sp (mm_nw (mm_sp (mm_nw (mm_sp (mm_nw (mm_sp (mm_nw (mm_sp (mm_nw (mm_sp (mm_nw (mm_sp (mm_nw (mm_sp (mm_nw (mm_sp (mm_nw (mm_sp (mm_nw (mm_sp (mm_nw (mm_sp (mm_nw (mm_sp (mm_nw (mm_sp (mm_nw (mm_sp (mm_nw (mm_sp (mm_nw (mm_sp (mm_nw (mm_sp (mm_nw (mm_sp (mm_nw M 100 8) a0 0 (some q1)) 100 8) a0 1 (some q4)) 100 8) a0 2 (some q7)) 101 8) a0 3 (some q10)) 100 32) a0 5 (some q13)) 100 60) a0 6 (some q16)) 100 60) a0 7 (some q19)) 100 60) a0 8 (some q22)) 100 60) a0 9 (some q25)) 100 180) a0 10 (some q28)) 100 24) a0 11 (some q31)) 100 24) a0 12 (some q34)) 100 24) a0 13 (some q37)) 100 4) a0 15 (some q40)) 100 4) a0 16 (some q43)) 100 4) a0 17 (some q46)) 101 32) a0 19 (some q49)) 101 32) a0 20 (some q52)) 101 780) a0 21 (some q55)) → mm_k (mm_nw (mm_sp (mm_nw (mm_sp (mm_nw (mm_sp (mm_nw (mm_sp (mm_nw (mm_sp (mm_nw (mm_sp (mm_nw (mm_sp (mm_nw (mm_sp (mm_nw (mm_sp (mm_nw (mm_sp (mm_nw (mm_sp (mm_nw (mm_sp (mm_nw (mm_sp (mm_nw (mm_sp (mm_nw (mm_sp (mm_nw (mm_sp (mm_nw (mm_sp (mm_nw (mm_sp (mm_nw (mm_sp (mm_nw M 100 8) a0 0 (some q1)) 100 8) a0 1 (some q4)) 100 8) a0 2 (some q7)) 101 8) a0 3 (some q10)) 100 32) a0 5 (some q13)) 100 60) a0 6 (some q16)) 100 60) a0 7 (some q19)) 100 60) a0 8 (some q22)) 100 60) a0 9 (some q25)) 100 180) a0 10 (some q28)) 100 24) a0 11 (some q31)) 100 24) a0 12 (some q34)) 100 24) a0 13 (some q37)) 100 4) a0 15 (some q40)) 100 4) a0 16 (some q43)) 100 4) a0 17 (some q46)) 101 32) a0 19 (some q49)) 101 32) a0 20 (some q52)) 101 780) a0 21 (some q55)) 100 8) a0 = 9 ∧ ∀ q61, q61 = mm_z (mm_sp (mm_nw (mm_sp (mm_nw (mm_sp (mm_nw (mm_sp (mm_nw (mm_sp (mm_nw (mm_sp (mm_nw (mm_sp (mm_nw (mm_sp (mm_nw (mm_sp (mm_nw (mm_sp (mm_nw (mm_sp (mm_nw (mm_sp (mm_nw (mm_sp (mm_nw (mm_sp (mm_nw (mm_sp (mm_nw (mm_sp (mm_nw (mm_sp (mm_nw (mm_sp (mm_nw (mm_sp (mm_nw (mm_sp (mm_nw M 100 8) a0 0 (some q1)) 100 8) a0 1 (some q4)) 100 8) a0 2 (some q7)) 101 8) a0 3 (some q10)) 100 32) a0 5 (some q13)) 100 60) a0 6 (some q16)) 100 60) a0 7 (some q19)) 100 60) a0 8 (some q22)) 100 60) a0 9 (some q25)) 100 180) a0 10 (some q28)) 100 24) a0 11 (some q31)) 100 24) a0 12 (some q34)) 100 24) a0 13 (some q37)) 100 4) a0 15 (some q40)) 100 4) a0 16 (some q43)) 100 4) a0 17 (some q46)) 101 32) a0 19 (some q49)) 101 32) a0 20 (some q52)) 101 780) a0 21 (some q55)) 100 8) a0 22 (some q58)) → mm_k (mm_nw (mm_sp (mm_nw (mm_sp (mm_nw (mm_sp (mm_nw (mm_sp (mm_nw (mm_sp (mm_nw (mm_sp (mm_nw (mm_sp (mm_nw (mm_sp (mm_nw (mm_sp (mm_nw (mm_sp (mm_nw (mm_sp (mm_nw (mm_sp (mm_nw (mm_sp (mm_nw (mm_sp (mm_nw (mm_sp (mm_nw (mm_sp (mm_nw (mm_sp (mm_nw (mm_sp (mm_nw (mm_sp (mm_nw (mm_sp (mm_nw M 100 8) a0 0 (some q1)) 100 8) a0 1 (some q4)) 100 8) a0 2 (some q7)) 101 8) a0 3 (some q10)) 100 32) a0 5 (some q13)) 100 60) a0 6 (some q16)) 100 60) a0 7 (some q19)) 100 60) a0 8 (some q22)) 100 60) a0 9 (some q25)) 100 180) a0 10 (some q28)) 100 24) a0 11 (some q31)) 100 24) a0 12 (some q34)) 100 24) a0 13 (some q37)) 100 4) a0 15 (some q40)) 100 4) a0 16 (some q43)) 100 4) a0 17 (some q46)) 101 32) a0 19 (some q49)) 101 32) a0 20 (some q52)) 101 780) a0 21 (some q55)) 100 8) a0 22 (some q58)) 101 8) a0 = 9 ∧ ∀ q64, q64 = mm_z (mm_sp (mm_nw (mm_sp (mm_nw (mm_sp (mm_nw (mm_sp (mm_nw (mm_sp (mm_nw (mm_sp (mm_nw (mm_sp (mm_nw (mm_sp (mm_nw (mm_sp (mm_nw (mm_sp (mm_nw (mm_sp (mm_nw (mm_sp (mm_nw (mm_sp (mm_nw (mm_sp (mm_nw (mm_sp (mm_nw (mm_sp (mm_nw (mm_sp (mm_nw (mm_sp (mm_nw (mm_sp (mm_nw (mm_sp (mm_nw (mm_sp (mm_nw M 100 8) a0 0 (some q1)) 100 8) a0 1 (some q4)) 100 8) a0 2 (some q7)) 101 8) a0 3 (some q10)) 100 32) a0 5 (some q13)) 100 60) a0 6 (some q16)) 100 60) a0 7 (some q19)) 100 60) a0 8 (some q22)) 100 60) a0 9 (some q25)) 100 180) a0 10 (some q28)) 100 24) a0 11 (some q31)) 100 24) a0 12 (some q34)) 100 24) a0 13 (some q37)) 100 4) a0 15 (some q40)) 100 4) a0 16 (some q43)) 100 4) a0 17 (some q46)) 101 32) a0 19 (some q49)) 101 32) a0 20 (some q52)) 101 780) a0 21 (some q55)) 100 8) a0 22 (some q58)) 101 8) a0 23 (some q61)) → mm_k (mm_nw (mm_sp (mm_nw (mm_sp (mm_nw (mm_sp (mm_nw (mm_sp (mm_nw (mm_sp (mm_nw (mm_sp (mm_nw (mm_sp (mm_nw (mm_sp (mm_nw (mm_sp (mm_nw (mm_sp (mm_nw (mm_sp (mm_nw (mm_sp (mm_nw (mm_sp (mm_nw (mm_sp (mm_nw (mm_sp (mm_nw (mm_sp (mm_nw (mm_sp (mm_nw (mm_sp (mm_nw (mm_sp (mm_nw (mm_sp (mm_nw (mm_sp (mm_nw M 100 8) a0 0 (some q1)) 100 8) a0 1 (some q4)) 100 8) a0 2 (some q7)) 101 8) a0 3 (some q10)) 100 32) a0 5 (some q13)) 100 60) a0 6 (some q16)) 100 60) a0 7 (some q19)) 100 60) a0 8 (some q22)) 100 60) a0 9 (some q25)) 100 180) a0 10 (some q28)) 100 24) a0 11 (some q31)) 100 24) a0 12 (some q34)) 100 24) a0 13 (some q37)) 100 4) a0 15 (some q40)) 100 4) a0 16 (some q43)) 100 4) a0 17 (some q46)) 101 32) a0 19 (some q49)) 101 32) a0 20 (some q52)) 101 780) a0 21 (some q55)) 100 8) a0 22 (some q58)) 101 8) a0 23 (some q61)) 101 60) a0 = 9 ∧ (4 ≤ xa → (xa ≤ 24 → ∃ a67 : Nat, (mm_p (mm_sp (mm_nw (mm_sp (mm_nw (mm_sp (mm_nw (mm_sp (mm_nw (mm_sp (mm_nw (mm_sp (mm_nw (mm_sp (mm_nw (mm_sp (mm_nw (mm_sp (mm_nw (mm_sp (mm_nw (mm_sp (mm_nw (mm_sp (mm_nw (mm_sp (mm_nw (mm_sp (mm_nw (mm_sp (mm_nw (mm_sp (mm_nw (mm_sp (mm_nw (mm_sp (mm_nw (mm_sp (mm_nw (mm_sp (mm_nw (mm_sp (mm_nw (mm_sp (mm_nw M 100 8) a0 0 (some q1)) 100 8) a0 1 (some q4)) 100 8) a0 2 (some q7)) 101 8) a0 3 (some q10)) 100 32) a0 5 (some q13)) 100 60) a0 6 (some q16)) 100 60) a0 7 (some q19)) 100 60) a0 8 (some q22)) 100 60) a0 9 (some q25)) 100 180) a0 10 (some q28)) 100 24) a0 11 (some q31)) 100 24) a0 12 (some q34)) 100 24) a0 13 (some q37)) 100 4) a0 15 (some q40)) 100 4) a0 16 (some q43)) 100 4) a0 17 (some q46)) 101 32) a0 19 (some q49)) 101 32) a0 20 (some q52)) 101 780) a0 21 (some q55)) 100 8) a0 22 (some q58)) 101 8) a0 23 (some q61)) 101 60) a0 24 (some q64)) a0 2) = some a67 ∧ mm_k (mm_sp (mm_nw (mm_sp (mm_nw (mm_sp (mm_nw (mm_sp (mm_nw (mm_sp (mm_nw (mm_sp (mm_nw (mm_sp (mm_nw (mm_sp (mm_nw (mm_sp (mm_nw (mm_sp (mm_nw (mm_sp (mm_nw (mm_sp (mm_nw (mm_sp (mm_nw (mm_sp (mm_nw (mm_sp (mm_nw (mm_sp (mm_nw (mm_sp (mm_nw (mm_sp (mm_nw (mm_sp (mm_nw (mm_sp (mm_nw (mm_sp (mm_nw (mm_sp (mm_nw M 100 8) a0 0 (some q1)) 100 8) a0 1 (some q4)) 100 8) a0 2 (some q7)) 101 8) a0 3 (some q10)) 100 32) a0 5 (some q13)) 100 60) a0 6 (some q16)) 100 60) a0 7 (some q19)) 100 60) a0 8 (some q22)) 100 60) a0 9 (some q25)) 100 180) a0 10 (some q28)) 100 24) a0 11 (some q31)) 100 24) a0 12 (some q34)) 100 24) a0 13 (some q37)) 100 4) a0 15 (some q40)) 100 4) a0 16 (some q43)) 100 4) a0 17 (some q46)) 101 32) a0 19 (some q49)) 101 32) a0 20 (some q52)) 101 780) a0 21 (some q55)) 100 8) a0 22 (some q58)) 101 8) a0 23 (some q61)) 101 60) a0 24 (some q64)) a67 = 100 ∧ ∃ j70 : Nat, 0 = nI j70 ∧ j70 < 2147483648 ∧ j70 < mm_l (mm_sp (mm_nw (mm_sp (mm_nw (mm_sp (mm_nw (mm_sp (mm_nw (mm_sp (mm_nw (mm_sp (mm_nw (mm_sp (mm_nw (mm_sp (mm_nw (mm_sp (mm_nw (mm_sp (mm_nw (mm_sp (mm_nw (mm_sp (mm_nw (mm_sp (mm_nw (mm_sp (mm_nw (mm_sp (mm_nw (mm_sp (mm_nw (mm_sp (mm_nw (mm_sp (mm_nw (mm_sp (mm_nw (mm_sp (mm_nw (mm_sp (mm_nw (mm_sp (mm_nw M 100 8) a0 0 (some q1)) 100 8) a0 1 (some q4)) 100 8) a0 2 (some q7)) 101 8) a0 3 (some q10)) 100 32) a0 5 (some q13)) 100 60) a0 6 (some q16)) 100 60) a0 7 (some q19)) 100 60) a0 8 (some q22)) 100 60) a0 9 (some q25)) 100 180) a0 10 (some q28)) 100 24) a0 11 (some q31)) 100 24) a0 12 (some q34)) 100 24) a0 13 (some q37)) 100 4) a0 15 (some q40)) 100 4) a0 16 (some q43)) 100 4) a0 17 (some q46)) 101 32) a0 19 (some q49)) 101 32) a0 20 (some q52)) 101 780) a0 21 (some q55)) 100 8) a0 22 (some q58)) 101 8) a0 23 (some q61)) 101 60) a0 24 (some q64)) a67 ∧ ∃ a74 : Nat, (mm_p (mm_si (mm_sp (mm_nw (mm_sp (mm_nw (mm_sp (mm_nw (mm_sp (mm_nw (mm_sp (mm_nw (mm_sp (mm_nw (mm_sp (mm_nw (mm_sp (mm_nw (mm_sp (mm_nw (mm_sp (mm_nw (mm_sp (mm_nw (mm_sp (mm_nw (mm_sp (mm_nw (mm_sp (mm_nw (mm_sp (mm_nw (mm_sp (mm_nw (mm_sp (mm_nw (mm_sp (mm_nw (mm_sp (mm_nw (mm_sp (mm_nw (mm_sp (mm_nw (mm_sp (mm_nw M 100 8) a0 0 (some q1)) 100 8) a0 1 (some q4)) 100 8) a0 2 (some q7)) 101 8) a0 3 (some q10)) 100 32) a0 5 (some q13)) 100 60) a0 6 (some q16)) 100 60) a0 7 (some q19)) 100 60) a0 8 (some q22)) 100 60) a0 9 (some q25)) 100 180) a0 10 (some q28)) 100 24) a0 11 (some q31)) 100 24) a0 12 (some q34)) 100 24) a0 13 (some q37)) 100 4) a0 15 (some q40)) 100 4) a0 16 (some q43)) 100 4) a0 17 (some q46)) 101 32) a0 19 (some q49)) 101 32) a0 20 (some q52)) 101 780) a0 21 (some q55)) 100 8) a0 22 (some q58)) 101 8) a0 23 (some q61)) 101 60) a0 24 (some q64)) a67 j70 xa) a0 3) = some a74 ∧ mm_k (mm_si (mm_sp (mm_nw (mm_sp (mm_nw (mm_sp (mm_nw (mm_sp (mm_nw (mm_sp (mm_nw (mm_sp (mm_nw (mm_sp (mm_nw (mm_sp (mm_nw (mm_sp (mm_nw (mm_sp (mm_nw (mm_sp (mm_nw (mm_sp (mm_nw (mm_sp (mm_nw (mm_sp (mm_nw (mm_sp (mm_nw (mm_sp (mm_nw (mm_sp (mm_nw (mm_sp (mm_nw (mm_sp (mm_nw (mm_sp (mm_nw (mm_sp (mm_nw (mm_sp (mm_nw M 100 8) a0 0 (some q1)) 100 8) a0 1 (some q4)) 100 8) a0 2 (some q7)) 101 8) a0 3 (some q10)) 100 32) a0 5 (some q13)) 100 60) a0 6 (some q16)) 100 60) a0 7 (some q19)) 100 60) a0 8 (some q22)) 100 60) a0 9 (some q25)) 100 180) a0 10 (some q28)) 100 24) a0 11 (some q31)) 100 24) a0 12 (some q34)) 100 24) a0 13 (some q37)) 100 4) a0 15 (some q40)) 100 4) a0 16 (some q43)) 100 4) a0 17 (some q46)) 101 32) a0 19 (some q49)) 101 32) a0 20 (some q52)) 101 780) a0 21 (some q55)) 100 8) a0 22 (some q58)) 101 8) a0 23 (some q61)) 101 60) a0 24 (some q64)) a67 j70 xa) a74 = 101 ∧ ∃ j77 : Nat, 0 = nI j77 ∧ j77 < 2147483648 ∧ j77 < mm_l (mm_si (mm_sp (mm_nw (mm_sp (mm_nw (mm_sp (mm_nw (mm_sp (mm_nw (mm_sp (mm_nw (mm_sp (mm_nw (mm_sp (mm_nw (mm_sp (mm_nw (mm_sp (mm_nw (mm_sp (mm_nw (mm_sp (mm_nw (mm_sp (mm_nw (mm_sp (mm_nw (mm_sp (mm_nw (mm_sp (mm_nw (mm_sp (mm_nw (mm_sp (mm_nw (mm_sp (mm_nw (mm_sp (mm_nw (mm_sp (mm_nw (mm_sp (mm_nw (mm_sp (mm_nw M 100 8) a0 0 (some q1)) 100 8) a0 1 (some q4)) 100 8) a0 2 (some q7)) 101 8) a0 3 (some q10)) 100 32) a0 5 (some q13)) 100 60) a0 6 (some q16)) 100 60) a0 7 (some q19)) 100 60) a0 8 (some q22)) 100 60) a0 9 (some q25)) 100 180) a0 10 (some q28)) 100 24) a0 11 (some q31)) 100 24) a0 12 (some q34)) 100 24) a0 13 (some q37)) 100 4) a0 15 (some q40)) 100 4) a0 16 (some q43)) 100 4) a0 17 (some q46)) 101 32) a0 19 (some q49)) 101 32) a0 20 (some q52)) 101 780) a0 21 (some q55)) 100 8) a0 22 (some q58)) 101 8) a0 23 (some q61)) 101 60) a0 24 (some q64)) a67 j70 xa) a74 ∧ ∃ a81 : Nat, (mm_p (mm_si (mm_si (mm_sp (mm_nw (mm_sp (mm_nw (mm_sp (mm_nw (mm_sp (mm_nw (mm_sp (mm_nw (mm_sp (mm_nw (mm_sp (mm_nw (mm_sp (mm_nw (mm_sp (mm_nw (mm_sp (mm_nw (mm_sp (mm_nw (mm_sp (mm_nw (mm_sp (mm_nw (mm_sp (mm_nw (mm_sp (mm_nw (mm_sp (mm_nw (mm_sp (mm_nw (mm_sp (mm_nw (mm_sp (mm_nw (mm_sp (mm_nw (mm_sp (mm_nw (mm_sp (mm_nw M 100 8) a0 0 (some q1)) 100 8) a0 1 (some q4)) 100 8) a0 2 (some q7)) 101 8) a0 3 (some q10)) 100 32) a0 5 (some q13)) 100 60) a0 6 (some q16)) 100 60) a0 7 (some q19)) 100 60) a0 8 (some q22)) 100 60) a0 9 (some q25)) 100 180) a0 10 (some q28)) 100 24) a0 11 (some q31)) 100 24) a0 12 (some q34)) 100 24) a0 13 (some q37)) 100 4) a0 15 (some q40)) 100 4) a0 16 (some q43)) 100 4) a0 17 (some q46)) 101 32) a0 19 (some q49)) 101 32) a0 20 (some q52)) 101 780) a0 21 (some q55)) 100 8) a0 22 (some q58)) 101 8) a0 23 (some q61)) 101 60) a0 24 (some q64)) a67 j70 xa) a74 j77 1) a0 0) = some a81 ∧ mm_k (mm_si (mm_si (mm_sp (mm_nw (mm_sp (mm_nw (mm_sp (mm_nw (mm_sp (mm_nw (mm_sp (mm_nw (mm_sp (mm_nw (mm_sp (mm_nw (mm_sp (mm_nw (mm_sp (mm_nw (mm_sp (mm_nw (mm_sp (mm_nw (mm_sp (mm_nw (mm_sp (mm_nw (mm_sp (mm_nw (mm_sp (mm_nw (mm_sp (mm_nw (mm_sp (mm_nw (mm_sp (mm_nw (mm_sp (mm_nw (mm_sp (mm_nw (mm_sp (mm_nw (mm_sp (mm_nw M 100 8) a0 0 (some q1)) 100 8) a0 1 (some q4)) 100 8) a0 2 (some q7)) 101 8) a0 3 (some q10)) 100 32) a0 5 (some q13)) 100 60) a0 6 (some q16)) 100 60) a0 7 (some q19)) 100 60) a0 8 (some q22)) 100 60) a0 9 (some q25)) 100 180) a0 10 (some q28)) 100 24) a0 11 (some q31)) 100 24) a0 12 (some q34)) 100 24) a0 13 (some q37)) 100 4) a0 15 (some q40)) 100 4) a0 16 (some q43)) 100 4) a0 17 (some q46)) 101 32) a0 19 (some q49)) 101 32) a0 20 (some q52)) 101 780) a0 21 (some q55)) 100 8) a0 22 (some q58)) 101 8) a0 23 (some q61)) 101 60) a0 24 (some q64)) a67 j70 xa) a74 j77 1) a81 = 100 ∧ ∃ j84 : Nat, 0 = nI j84 ∧ j84 < 2147483648 ∧ j84 < mm_l (mm_si (mm_si (mm_sp (mm_nw (mm_sp (mm_nw (mm_sp (mm_nw (mm_sp (mm_nw (mm_sp (mm_nw (mm_sp (mm_nw (mm_sp (mm_nw (mm_sp (mm_nw (mm_sp (mm_nw (mm_sp (mm_nw (mm_sp (mm_nw (mm_sp (mm_nw (mm_sp (mm_nw (mm_sp (mm_nw (mm_sp (mm_nw (mm_sp (mm_nw (mm_sp (mm_nw (mm_sp (mm_nw (mm_sp (mm_nw (mm_sp (mm_nw (mm_sp (mm_nw (mm_sp (mm_nw M 100 8) a0 0 (some q1)) 100 8) a0 1 (some q4)) 100 8) a0 2 (some q7)) 101 8) a0 3 (some q10)) 100 32) a0 5 (some q13)) 100 60) a0 6 (some q16)) 100 60) a0 7 (some q19)) 100 60) a0 8 (some q22)) 100 60) a0 9 (some q25)) 100 180) a0 10 (some q28)) 100 24) a0 11 (some q31)) 100 24) a0 12 (some q34)) 100 24) a0 13 (some q37)) 100 4) a0 15 (some q40)) 100 4) a0 16 (some q43)) 100 4) a0 17 (some q46)) 101 32) a0 19 (some q49)) 101 32) a0 20 (some q52)) 101 780) a0 21 (some q55)) 100 8) a0 22 (some q58)) 101 8) a0 23 (some q61)) 101 60) a0 24 (some q64)) a67 j70 xa) a74 j77 1) a81 ∧ K none (mm_si (mm_si (mm_si (mm_si (mm_sp (mm_nw (mm_sp (mm_nw (mm_sp (mm_nw (mm_sp (mm_nw (mm_sp (mm_nw (mm_sp (mm_nw (mm_sp (mm_nw (mm_sp (mm_nw (mm_sp (mm_nw (mm_sp (mm_nw (mm_sp (mm_nw (mm_sp (mm_nw (mm_sp (mm_nw (mm_sp (mm_nw (mm_sp (mm_nw (mm_sp (mm_nw (mm_sp (mm_nw (mm_sp (mm_nw (mm_sp (mm_nw (mm_sp (mm_nw (mm_sp (mm_nw (mm_sp (mm_nw M 100 8) a0 0 (some q1)) 100 8) a0 1 (some q4)) 100 8) a0 2 (some q7)) 101 8) a0 3 (some q10)) 100 32) a0 5 (some q13)) 100 60) a0 6 (some q16)) 100 60) a0 7 (some q19)) 100 60) a0 8 (some q22)) 100 60) a0 9 (some q25)) 100 180) a0 10 (some q28)) 100 24) a0 11 (some q31)) 100 24) a0 12 (some q34)) 100 24) a0 13 (some q37)) 100 4) a0 15 (some q40)) 100 4) a0 16 (some q43)) 100 4) a0 17 (some q46)) 101 32) a0 19 (some q49)) 101 32) a0 20 (some q52)) 101 780) a0 21 (some q55)) 100 8) a0 22 (some q58)) 101 8) a0 23 (some q61)) 101 60) a0 24 (some q64)) a67 j70 xa) a74 j77 1) a81 j84 1) a0 4 1)) ∧ (¬ xa ≤ 24 → ∃ a88 : Nat, (mm_p (mm_sp (mm_nw (mm_sp (mm_nw (mm_sp (mm_nw (mm_sp (mm_nw (mm_sp (mm_nw (mm_sp (mm_nw (mm_sp (mm_nw (mm_sp (mm_nw (mm_sp (mm_nw (mm_sp (mm_nw (mm_sp (mm_nw (mm_sp (mm_nw (mm_sp (mm_nw (mm_sp (mm_nw (mm_sp (mm_nw (mm_sp (mm_nw (mm_sp (mm_nw (mm_sp (mm_nw (mm_sp (mm_nw (mm_sp (mm_nw (mm_sp (mm_nw (mm_sp (mm_nw M 100 8) a0 0 (some q1)) 100 8) a0 1 (some q4)) 100 8) a0 2 (some q7)) 101 8) a0 3 (some q10)) 100 32) a0 5 (some q13)) 100 60) a0 6 (some q16)) 100 60) a0 7 (some q19)) 100 60) a0 8 (some q22)) 100 60) a0 9 (some q25)) 100 180) a0 10 (some q28)) 100 24) a0 11 (some q31)) 100 24) a0 12 (some q34)) 100 24) a0 13 (some q37)) 100 4) a0 15 (some q40)) 100 4) a0 16 (some q43)) 100 4) a0 17 (some q46)) 101 32) a0 19 (some q49)) 101 32) a0 20 (some q52)) 101 780) a0 21 (some q55)) 100 8) a0 22 (some q58)) 101 8) a0 23 (some q61)) 101 60) a0 24 (some q64)) a0 2) = some a88 ∧ mm_k (mm_sp (mm_nw (mm_sp (mm_nw (mm_sp (mm_nw (mm_sp (mm_nw (mm_sp (mm_nw (mm_sp (mm_nw (mm_sp (mm_nw (mm_sp (mm_nw (mm_sp (mm_nw (mm_sp (mm_nw (mm_sp (mm_nw (mm_sp (mm_nw (mm_sp (mm_nw (mm_sp (mm_nw (mm_sp (mm_nw (mm_sp (mm_nw (mm_sp (mm_nw (mm_sp (mm_nw (mm_sp (mm_nw (mm_sp (mm_nw (mm_sp (mm_nw (mm_sp (mm_nw M 100 8) a0 0 (some q1)) 100 8) a0 1 (some q4)) 100 8) a0 2 (some q7)) 101 8) a0 3 (some q10)) 100 32) a0 5 (some q13)) 100 60) a0 6 (some q16)) 100 60) a0 7 (some q19)) 100 60) a0 8 (some q22)) 100 60) a0 9 (some q25)) 100 180) a0 10 (some q28)) 100 24) a0 11 (some q31)) 100 24) a0 12 (some q34)) 100 24) a0 13 (some q37)) 100 4) a0 15 (some q40)) 100 4) a0 16 (some q43)) 100 4) a0 17 (some q46)) 101 32) a0 19 (some q49)) 101 32) a0 20 (some q52)) 101 780) a0 21 (some q55)) 100 8) a0 22 (some q58)) 101 8) a0 23 (some q61)) 101 60) a0 24 (some q64)) a88 = 100 ∧ ∃ j91 : Nat, 0 = nI j91 ∧ j91 < 2147483648 ∧ j91 < mm_l (mm_sp (mm_nw (mm_sp (mm_nw (mm_sp (mm_nw (mm_sp (mm_nw (mm_sp (mm_nw (mm_sp (mm_nw (mm_sp (mm_nw (mm_sp (mm_nw (mm_sp (mm_nw (mm_sp (mm_nw (mm_sp (mm_nw (mm_sp (mm_nw (mm_sp (mm_nw (mm_sp (mm_nw (mm_sp (mm_nw (mm_sp (mm_nw (mm_sp (mm_nw (mm_sp (mm_nw (mm_sp (mm_nw (mm_sp (mm_nw (mm_sp (mm_nw (mm_sp (mm_nw M 100 8) a0 0 (some q1)) 100 8) a0 1 (some q4)) 100 8) a0 2 (some q7)) 101 8) a0 3 (some q10)) 100 32) a0 5 (some q13)) 100 60) a0 6 (some q16)) 100 60) a0 7 (some q19)) 100 60) a0 8 (some q22)) 100 60) a0 9 (some q25)) 100 180) a0 10 (some q28)) 100 24) a0 11 (some q31)) 100 24) a0 12 (some q34)) 100 24) a0 13 (some q37)) 100 4) a0 15 (some q40)) 100 4) a0 16 (some q43)) 100 4) a0 17 (some q46)) 101 32) a0 19 (some q49)) 101 32) a0 20 (some q52)) 101 780) a0 21 (some q55)) 100 8) a0 22 (some q58)) 101 8) a0 23 (some q61)) 101 60) a0 24 (some q64)) a88 ∧ ∃ a95 : Nat, (mm_p (mm_si (mm_sp (mm_nw (mm_sp (mm_nw (mm_sp (mm_nw (mm_sp (mm_nw (mm_sp (mm_nw (mm_sp (mm_nw (mm_sp (mm_nw (mm_sp (mm_nw (mm_sp (mm_nw (mm_sp (mm_nw (mm_sp (mm_nw (mm_sp (mm_nw (mm_sp (mm_nw (mm_sp (mm_nw (mm_sp (mm_nw (mm_sp (mm_nw (mm_sp (mm_nw (mm_sp (mm_nw (mm_sp (mm_nw (mm_sp (mm_nw (mm_sp (mm_nw (mm_sp (mm_nw M 100 8) a0 0 (some q1)) 100 8) a0 1 (some q4)) 100 8) a0 2 (some q7)) 101 8) a0 3 (some q10)) 100 32) a0 5 (some q13)) 100 60) a0 6 (some q16)) 100 60) a0 7 (some q19)) 100 60) a0 8 (some q22)) 100 60) a0 9 (some q25)) 100 180) a0 10 (some q28)) 100 24) a0 11 (some q31)) 100 24) a0 12 (some q34)) 100 24) a0 13 (some q37)) 100 4) a0 15 (some q40)) 100 4) a0 16 (some q43)) 100 4) a0 17 (some q46)) 101 32) a0 19 (some q49)) 101 32) a0 20 (some q52)) 101 780) a0 21 (some q55)) 100 8) a0 22 (some q58)) 101 8) a0 23 (some q61)) 101 60) a0 24 (some q64)) a88 j91 24) a0 3) = some a95 ∧ mm_k (mm_si (mm_sp (mm_nw (mm_sp (mm_nw (mm_sp (mm_nw (mm_sp (mm_nw (mm_sp (mm_nw (mm_sp (mm_nw (mm_sp (mm_nw (mm_sp (mm_nw (mm_sp (mm_nw (mm_sp (mm_nw (mm_sp (mm_nw (mm_sp (mm_nw (mm_sp (mm_nw (mm_sp (mm_nw (mm_sp (mm_nw (mm_sp (mm_nw (mm_sp (mm_nw (mm_sp (mm_nw (mm_sp (mm_nw (mm_sp (mm_nw (mm_sp (mm_nw (mm_sp (mm_nw M 100 8) a0 0 (some q1)) 100 8) a0 1 (some q4)) 100 8) a0 2 (some q7)) 101 8) a0 3 (some q10)) 100 32) a0 5 (some q13)) 100 60) a0 6 (some q16)) 100 60) a0 7 (some q19)) 100 60) a0 8 (some q22)) 100 60) a0 9 (some q25)) 100 180) a0 10 (some q28)) 100 24) a0 11 (some q31)) 100 24) a0 12 (some q34)) 100 24) a0 13 (some q37)) 100 4) a0 15 (some q40)) 100 4) a0 16 (some q43)) 100 4) a0 17 (some q46)) 101 32) a0 19 (some q49)) 101 32) a0 20 (some q52)) 101 780) a0 21 (some q55)) 100 8) a0 22 (some q58)) 101 8) a0 23 (some q61)) 101 60) a0 24 (some q64)) a88 j91 24) a95 = 101 ∧ ∃ j98 : Nat, 0 = nI j98 ∧ j98 < 2147483648 ∧ j98 < mm_l (mm_si (mm_sp (mm_nw (mm_sp (mm_nw (mm_sp (mm_nw (mm_sp (mm_nw (mm_sp (mm_nw (mm_sp (mm_nw (mm_sp (mm_nw (mm_sp (mm_nw (mm_sp (mm_nw (mm_sp (mm_nw (mm_sp (mm_nw (mm_sp (mm_nw (mm_sp (mm_nw (mm_sp (mm_nw (mm_sp (mm_nw (mm_sp (mm_nw (mm_sp (mm_nw (mm_sp (mm_nw (mm_sp (mm_nw (mm_sp (mm_nw (mm_sp (mm_nw (mm_sp (mm_nw M 100 8) a0 0 (some q1)) 100 8) a0 1 (some q4)) 100 8) a0 2 (some q7)) 101 8) a0 3 (some q10)) 100 32) a0 5 (some q13)) 100 60) a0 6 (some q16)) 100 60) a0 7 (some q19)) 100 60) a0 8 (some q22)) 100 60) a0 9 (some q25)) 100 180) a0 10 (some q28)) 100 24) a0 11 (some q31)) 100 24) a0 12 (some q34)) 100 24) a0 13 (some q37)) 100 4) a0 15 (some q40)) 100 4) a0 16 (some q43)) 100 4) a0 17 (some q46)) 101 32) a0 19 (some q49)) 101 32) a0 20 (some q52)) 101 780) a0 21 (some q55)) 100 8) a0 22 (some q58)) 101 8) a0 23 (some q61)) 101 60) a0 24 (some q64)) a88 j91 24) a95 ∧ ∃ a102 : Nat, (mm_p (mm_si (mm_si (mm_sp (mm_nw (mm_sp (mm_nw (mm_sp (mm_nw (mm_sp (mm_nw (mm_sp (mm_nw (mm_sp (mm_nw (mm_sp (mm_nw (mm_sp (mm_nw (mm_sp (mm_nw (mm_sp (mm_nw (mm_sp (mm_nw (mm_sp (mm_nw (mm_sp (mm_nw (mm_sp (mm_nw (mm_sp (mm_nw (mm_sp (mm_nw (mm_sp (mm_nw (mm_sp (mm_nw (mm_sp (mm_nw (mm_sp (mm_nw (mm_sp (mm_nw (mm_sp (mm_nw M 100 8) a0 0 (some q1)) 100 8) a0 1 (some q4)) 100 8) a0 2 (some q7)) 101 8) a0 3 (some q10)) 100 32) a0 5 (some q13)) 100 60) a0 6 (some q16)) 100 60) a0 7 (some q19)) 100 60) a0 8 (some q22)) 100 60) a0 9 (some q25)) 100 180) a0 10 (some q28)) 100 24) a0 11 (some q31)) 100 24) a0 12 (some q34)) 100 24) a0 13 (some q37)) 100 4) a0 15 (some q40)) 100 4) a0 16 (some q43)) 100 4) a0 17 (some q46)) 101 32) a0 19 (some q49)) 101 32) a0 20 (some q52)) 101 780) a0 21 (some q55)) 100 8) a0 22 (some q58)) 101 8) a0 23 (some q61)) 101 60) a0 24 (some q64)) a88 j91 24) a95 j98 1) a0 0) = some a102 ∧ mm_k (mm_si (mm_si (mm_sp (mm_nw (mm_sp (mm_nw (mm_sp (mm_nw (mm_sp (mm_nw (mm_sp (mm_nw (mm_sp (mm_nw (mm_sp (mm_nw (mm_sp (mm_nw (mm_sp (mm_nw (mm_sp (mm_nw (mm_sp (mm_nw (mm_sp (mm_nw (mm_sp (mm_nw (mm_sp (mm_nw (mm_sp (mm_nw (mm_sp (mm_nw (mm_sp (mm_nw (mm_sp (mm_nw (mm_sp (mm_nw (mm_sp (mm_nw (mm_sp (mm_nw (mm_sp (mm_nw M 100 8) a0 0 (some q1)) 100 8) a0 1 (some q4)) 100 8) a0 2 (some q7)) 101 8) a0 3 (some q10)) 100 32) a0 5 (some q13)) 100 60) a0 6 (some q16)) 100 60) a0 7 (some q19)) 100 60) a0 8 (some q22)) 100 60) a0 9 (some q25)) 100 180) a0 10 (some q28)) 100 24) a0 11 (some q31)) 100 24) a0 12 (some q34)) 100 24) a0 13 (some q37)) 100 4) a0 15 (some q40)) 100 4) a0 16 (some q43)) 100 4) a0 17 (some q46)) 101 32) a0 19 (some q49)) 101 32) a0 20 (some q52)) 101 780) a0 21 (some q55)) 100 8) a0 22 (some q58)) 101 8) a0 23 (some q61)) 101 60) a0 24 (some q64)) a88 j91 24) a95 j98 1) a102 = 100 ∧ ∃ j105 : Nat, 0 = nI j105 ∧ j105 < 2147483648 ∧ j105 < mm_l (mm_si (mm_si (mm_sp (mm_nw (mm_sp (mm_nw (mm_sp (mm_nw (mm_sp (mm_nw (mm_sp (mm_nw (mm_sp (mm_nw (mm_sp (mm_nw (mm_sp (mm_nw (mm_sp (mm_nw (mm_sp (mm_nw (mm_sp (mm_nw (mm_sp (mm_nw (mm_sp (mm_nw (mm_sp (mm_nw (mm_sp (mm_nw (mm_sp (mm_nw (mm_sp (mm_nw (mm_sp (mm_nw (mm_sp (mm_nw (mm_sp (mm_nw (mm_sp (mm_nw (mm_sp (mm_nw M 100 8) a0 0 (some q1)) 100 8) a0 1 (some q4)) 100 8) a0 2 (some q7)) 101 8) a0 3 (some q10)) 100 32) a0 5 (some q13)) 100 60) a0 6 (some q16)) 100 60) a0 7 (some q19)) 100 60) a0 8 (some q22)) 100 60) a0 9 (some q25)) 100 180) a0 10 (some q28)) 100 24) a0 11 (some q31)) 100 24) a0 12 (some q34)) 100 24) a0 13 (some q37)) 100 4) a0 15 (some q40)) 100 4) a0 16 (some q43)) 100 4) a0 17 (some q46)) 101 32) a0 19 (some q49)) 101 32) a0 20 (some q52)) 101 780) a0 21 (some q55)) 100 8) a0 22 (some q58)) 101 8) a0 23 (some q61)) 101 60) a0 24 (some q64)) a88 j91 24) a95 j98 1) a102 ∧ K none (mm_si (mm_si (mm_si (mm_si (mm_sp (mm_nw (mm_sp (mm_nw (mm_sp (mm_nw (mm_sp (mm_nw (mm_sp (mm_nw (mm_sp (mm_nw (mm_sp (mm_nw (mm_sp (mm_nw (mm_sp (mm_nw (mm_sp (mm_nw (mm_sp (mm_nw (mm_sp (mm_nw (mm_sp (mm_nw (mm_sp (mm_nw (mm_sp (mm_nw (mm_sp (mm_nw (mm_sp (mm_nw (mm_sp (mm_nw (mm_sp (mm_nw (mm_sp (mm_nw (mm_sp (mm_nw (mm_sp (mm_nw M 100 8) a0 0 (some q1)) 100 8) a0 1 (some q4)) 100 8) a0 2 (some q7)) 101 8) a0 3 (some q10)) 100 32) a0 5 (some q13)) 100 60) a0 6 (some q16)) 100 60) a0 7 (some q19)) 100 60) a0 8 (some q22)) 100 60) a0 9 (some q25)) 100 180) a0 10 (some q28)) 100 24) a0 11 (some q31)) 100 24) a0 12 (some q34)) 100 24) a0 13 (some q37)) 100 4) a0 15 (some q40)) 100 4) a0 16 (some q43)) 100 4) a0 17 (some q46)) 101 32) a0 19 (some q49)) 101 32) a0 20 (some q52)) 101 780) a0 21 (some q55)) 100 8) a0 22 (some q58)) 101 8) a0 23 (some q61)) 101 60) a0 24 (some q64)) a88 j91 24) a95 j98 1) a102 j105 1) a0 4 1))) ∧ (¬ 4 ≤ xa → ∃ a109 : Nat, (mm_p (mm_sp (mm_nw (mm_sp (mm_nw (mm_sp (mm_nw (mm_sp (mm_nw (mm_sp (mm_nw (mm_sp (mm_nw (mm_sp (mm_nw (mm_sp (mm_nw (mm_sp (mm_nw (mm_sp (mm_nw (mm_sp (mm_nw (mm_sp (mm_nw (mm_sp (mm_nw (mm_sp (mm_nw (mm_sp (mm_nw (mm_sp (mm_nw (mm_sp (mm_nw (mm_sp (mm_nw (mm_sp (mm_nw (mm_sp (mm_nw (mm_sp (mm_nw (mm_sp (mm_nw M 100 8) a0 0 (some q1)) 100 8) a0 1 (some q4)) 100 8) a0 2 (some q7)) 101 8) a0 3 (some q10)) 100 32) a0 5 (some q13)) 100 60) a0 6 (some q16)) 100 60) a0 7 (some q19)) 100 60) a0 8 (some q22)) 100 60) a0 9 (some q25)) 100 180) a0 10 (some q28)) 100 24) a0 11 (some q31)) 100 24) a0 12 (some q34)) 100 24) a0 13 (some q37)) 100 4) a0 15 (some q40)) 100 4) a0 16 (some q43)) 100 4) a0 17 (some q46)) 101 32) a0 19 (some q49)) 101 32) a0 20 (some q52)) 101 780) a0 21 (some q55)) 100 8) a0 22 (some q58)) 101 8) a0 23 (some q61)) 101 60) a0 24 (some q64)) a0 2) = some a109 ∧ mm_k (mm_sp (mm_nw (mm_sp (mm_nw (mm_sp (mm_nw (mm_sp (mm_nw (mm_sp (mm_nw (mm_sp (mm_nw (mm_sp (mm_nw (mm_sp (mm_nw (mm_sp (mm_nw (mm_sp (mm_nw (mm_sp (mm_nw (mm_sp (mm_nw (mm_sp (mm_nw (mm_sp (mm_nw (mm_sp (mm_nw (mm_sp (mm_nw (mm_sp (mm_nw (mm_sp (mm_nw (mm_sp (mm_nw (mm_sp (mm_nw (mm_sp (mm_nw (mm_sp (mm_nw M 100 8) a0 0 (some q1)) 100 8) a0 1 (some q4)) 100 8) a0 2 (some q7)) 101 8) a0 3 (some q10)) 100 32) a0 5 (some q13)) 100 60) a0 6 (some q16)) 100 60) a0 7 (some q19)) 100 60) a0 8 (some q22)) 100 60) a0 9 (some q25)) 100 180) a0 10 (some q28)) 100 24) a0 11 (some q31)) 100 24) a0 12 (some q34)) 100 24) a0 13 (some q37)) 100 4) a0 15 (some q40)) 100 4) a0 16 (some q43)) 100 4) a0 17 (some q46)) 101 32) a0 19 (some q49)) 101 32) a0 20 (some q52)) 101 780) a0 21 (some q55)) 100 8) a0 22 (some q58)) 101 8) a0 23 (some q61)) 101 60) a0 24 (some q64)) a109 = 100 ∧ ∃ j112 : Nat, 0 = nI j112 ∧ j112 < 2147483648 ∧ j112 < mm_l (mm_sp (mm_nw (mm_sp (mm_nw (mm_sp (mm_nw (mm_sp (mm_nw (mm_sp (mm_nw (mm_sp (mm_nw (mm_sp (mm_nw (mm_sp (mm_nw (mm_sp (mm_nw (mm_sp (mm_nw (mm_sp (mm_nw (mm_sp (mm_nw (mm_sp (mm_nw (mm_sp (mm_nw (mm_sp (mm_nw (mm_sp (mm_nw (mm_sp (mm_nw (mm_sp (mm_nw (mm_sp (mm_nw (mm_sp (mm_nw (mm_sp (mm_nw (mm_sp (mm_nw M 100 8) a0 0 (some q1)) 100 8) a0 1 (some q4)) 100 8) a0 2 (some q7)) 101 8) a0 3 (some q10)) 100 32) a0 5 (some q13)) 100 60) a0 6 (some q16)) 100 60) a0 7 (some q19)) 100 60) a0 8 (some q22)) 100 60) a0 9 (some q25)) 100 180) a0 10 (some q28)) 100 24) a0 11 (some q31)) 100 24) a0 12 (some q34)) 100 24) a0 13 (some q37)) 100 4) a0 15 (some q40)) 100 4) a0 16 (some q43)) 100 4) a0 17 (some q46)) 101 32) a0 19 (some q49)) 101 32) a0 20 (some q52)) 101 780) a0 21 (some q55)) 100 8) a0 22 (some q58)) 101 8) a0 23 (some q61)) 101 60) a0 24 (some q64)) a109 ∧ ∃ a116 : Nat, (mm_p (mm_si (mm_sp (mm_nw (mm_sp (mm_nw (mm_sp (mm_nw (mm_sp (mm_nw (mm_sp (mm_nw (mm_sp (mm_nw (mm_sp (mm_nw (mm_sp (mm_nw (mm_sp (mm_nw (mm_sp (mm_nw (mm_sp (mm_nw (mm_sp (mm_nw (mm_sp (mm_nw (mm_sp (mm_nw (mm_sp (mm_nw (mm_sp (mm_nw (mm_sp (mm_nw (mm_sp (mm_nw (mm_sp (mm_nw (mm_sp (mm_nw (mm_sp (mm_nw (mm_sp (mm_nw M 100 8) a0 0 (some q1)) 100 8) a0 1 (some q4)) 100 8) a0 2 (some q7)) 101 8) a0 3 (some q10)) 100 32) a0 5 (some q13)) 100 60) a0 6 (some q16)) 100 60) a0 7 (some q19)) 100 60) a0 8 (some q22)) 100 60) a0 9 (some q25)) 100 180) a0 10 (some q28)) 100 24) a0 11 (some q31)) 100 24) a0 12 (some q34)) 100 24) a0 13 (some q37)) 100 4) a0 15 (some q40)) 100 4) a0 16 (some q43)) 100 4) a0 17 (some q46)) 101 32) a0 19 (some q49)) 101 32) a0 20 (some q52)) 101 780) a0 21 (some q55)) 100 8) a0 22 (some q58)) 101 8) a0 23 (some q61)) 101 60) a0 24 (some q64)) a109 j112 4) a0 3) = some a116 ∧ mm_k (mm_si (mm_sp (mm_nw (mm_sp (mm_nw (mm_sp (mm_nw (mm_sp (mm_nw (mm_sp (mm_nw (mm_sp (mm_nw (mm_sp (mm_nw (mm_sp (mm_nw (mm_sp (mm_nw (mm_sp (mm_nw (mm_sp (mm_nw (mm_sp (mm_nw (mm_sp (mm_nw (mm_sp (mm_nw (mm_sp (mm_nw (mm_sp (mm_nw (mm_sp (mm_nw (mm_sp (mm_nw (mm_sp (mm_nw (mm_sp (mm_nw (mm_sp (mm_nw (mm_sp (mm_nw M 100 8) a0 0 (some q1)) 100 8) a0 1 (some q4)) 100 8) a0 2 (some q7)) 101 8) a0 3 (some q10)) 100 32) a0 5 (some q13)) 100 60) a0 6 (some q16)) 100 60) a0 7 (some q19)) 100 60) a0 8 (some q22)) 100 60) a0 9 (some q25)) 100 180) a0 10 (some q28)) 100 24) a0 11 (some q31)) 100 24) a0 12 (some q34)) 100 24) a0 13 (some q37)) 100 4) a0 15 (some q40)) 100 4) a0 16 (some q43)) 100 4) a0 17 (some q46)) 101 32) a0 19 (some q49)) 101 32) a0 20 (some q52)) 101 780) a0 21 (some q55)) 100 8) a0 22 (some q58)) 101 8) a0 23 (some q61)) 101 60) a0 24 (some q64)) a109 j112 4) a116 = 101 ∧ ∃ j119 : Nat, 0 = nI j119 ∧ j119 < 2147483648 ∧ j119 < mm_l (mm_si (mm_sp (mm_nw (mm_sp (mm_nw (mm_sp (mm_nw (mm_sp (mm_nw (mm_sp (mm_nw (mm_sp (mm_nw (mm_sp (mm_nw (mm_sp (mm_nw (mm_sp (mm_nw (mm_sp (mm_nw (mm_sp (mm_nw (mm_sp (mm_nw (mm_sp (mm_nw (mm_sp (mm_nw (mm_sp (mm_nw (mm_sp (mm_nw (mm_sp (mm_nw (mm_sp (mm_nw (mm_sp (mm_nw (mm_sp (mm_nw (mm_sp (mm_nw (mm_sp (mm_nw M 100 8) a0 0 (some q1)) 100 8) a0 1 (some q4)) 100 8) a0 2 (some q7)) 101 8) a0 3 (some q10)) 100 32) a0 5 (some q13)) 100 60) a0 6 (some q16)) 100 60) a0 7 (some q19)) 100 60) a0 8 (some q22)) 100 60) a0 9 (some q25)) 100 180) a0 10 (some q28)) 100 24) a0 11 (some q31)) 100 24) a0 12 (some q34)) 100 24) a0 13 (some q37)) 100 4) a0 15 (some q40)) 100 4) a0 16 (some q43)) 100 4) a0 17 (some q46)) 101 32) a0 19 (some q49)) 101 32) a0 20 (some q52)) 101 780) a0 21 (some q55)) 100 8) a0 22 (some q58)) 101 8) a0 23 (some q61)) 101 60) a0 24 (some q64)) a109 j112 4) a116 ∧ ∃ a123 : Nat, (mm_p (mm_si (mm_si (mm_sp (mm_nw (mm_sp (mm_nw (mm_sp (mm_nw (mm_sp (mm_nw (mm_sp (mm_nw (mm_sp (mm_nw (mm_sp (mm_nw (mm_sp (mm_nw (mm_sp (mm_nw (mm_sp (mm_nw (mm_sp (mm_nw (mm_sp (mm_nw (mm_sp (mm_nw (mm_sp (mm_nw (mm_sp (mm_nw (mm_sp (mm_nw (mm_sp (mm_nw (mm_sp (mm_nw (mm_sp (mm_nw (mm_sp (mm_nw (mm_sp (mm_nw (mm_sp (mm_nw M 100 8) a0 0 (some q1)) 100 8) a0 1 (some q4)) 100 8) a0 2 (some q7)) 101 8) a0 3 (some q10)) 100 32) a0 5 (some q13)) 100 60) a0 6 (some q16)) 100 60) a0 7 (some q19)) 100 60) a0 8 (some q22)) 100 60) a0 9 (some q25)) 100 180) a0 10 (some q28)) 100 24) a0 11 (some q31)) 100 24) a0 12 (some q34)) 100 24) a0 13 (some q37)) 100 4) a0 15 (some q40)) 100 4) a0 16 (some q43)) 100 4) a0 17 (some q46)) 101 32) a0 19 (some q49)) 101 32) a0 20 (some q52)) 101 780) a0 21 (some q55)) 100 8) a0 22 (some q58)) 101 8) a0 23 (some q61)) 101 60) a0 24 (some q64)) a109 j112 4) a116 j119 1) a0 0) = some a123 ∧ mm_k (mm_si (mm_si (mm_sp (mm_nw (mm_sp (mm_nw (mm_sp (mm_nw (mm_sp (mm_nw (mm_sp (mm_nw (mm_sp (mm_nw (mm_sp (mm_nw (mm_sp (mm_nw (mm_sp (mm_nw (mm_sp (mm_nw (mm_sp (mm_nw (mm_sp (mm_nw (mm_sp (mm_nw (mm_sp (mm_nw (mm_sp (mm_nw (mm_sp (mm_nw (mm_sp (mm_nw (mm_sp (mm_nw (mm_sp (mm_nw (mm_sp (mm_nw (mm_sp (mm_nw (mm_sp (mm_nw M 100 8) a0 0 (some q1)) 100 8) a0 1 (some q4)) 100 8) a0 2 (some q7)) 101 8) a0 3 (some q10)) 100 32) a0 5 (some q13)) 100 60) a0 6 (some q16)) 100 60) a0 7 (some q19)) 100 60) a0 8 (some q22)) 100 60) a0 9 (some q25)) 100 180) a0 10 (some q28)) 100 24) a0 11 (some q31)) 100 24) a0 12 (some q34)) 100 24) a0 13 (some q37)) 100 4) a0 15 (some q40)) 100 4) a0 16 (some q43)) 100 4) a0 17 (some q46)) 101 32) a0 19 (some q49)) 101 32) a0 20 (some q52)) 101 780) a0 21 (some q55)) 100 8) a0 22 (some q58)) 101 8) a0 23 (some q61)) 101 60) a0 24 (some q64)) a109 j112 4) a116 j119 1) a123 = 100 ∧ ∃ j126 : Nat, 0 = nI j126 ∧ j126 < 2147483648 ∧ j126 < mm_l (mm_si (mm_si (mm_sp (mm_nw (mm_sp (mm_nw (mm_sp (mm_nw (mm_sp (mm_nw (mm_sp (mm_nw (mm_sp (mm_nw (mm_sp (mm_nw (mm_sp (mm_nw (mm_sp (mm_nw (mm_sp (mm_nw (mm_sp (mm_nw (mm_sp (mm_nw (mm_sp (mm_nw (mm_sp (mm_nw (mm_sp (mm_nw (mm_sp (mm_nw (mm_sp (mm_nw (mm_sp (mm_nw (mm_sp (mm_nw (mm_sp (mm_nw (mm_sp (mm_nw (mm_sp (mm_nw M 100 8) a0 0 (some q1)) 100 8) a0 1 (some q4)) 100 8) a0 2 (some q7)) 101 8) a0 3 (some q10)) 100 32) a0 5 (some q13)) 100 60) a0 6 (some q16)) 100 60) a0 7 (some q19)) 100 60) a0 8 (some q22)) 100 60) a0 9 (some q25)) 100 180) a0 10 (some q28)) 100 24) a0 11 (some q31)) 100 24) a0 12 (some q34)) 100 24) a0 13 (some q37)) 100 4) a0 15 (some q40)) 100 4) a0 16 (some q43)) 100 4) a0 17 (some q46)) 101 32) a0 19 (some q49)) 101 32) a0 20 (some q52)) 101 780) a0 21 (some q55)) 100 8) a0 22 (some q58)) 101 8) a0 23 (some q61)) 101 60) a0 24 (some q64)) a109 j112 4) a116 j119 1) a123 ∧ K none (mm_si (mm_si (mm_si (mm_si (mm_sp (mm_nw (mm_sp (mm_nw (mm_sp (mm_nw (mm_sp (mm_nw (mm_sp (mm_nw (mm_sp (mm_nw (mm_sp (mm_nw (mm_sp (mm_nw (mm_sp (mm_nw (mm_sp (mm_nw (mm_sp (mm_nw (mm_sp (mm_nw (mm_sp (mm_nw (mm_sp (mm_nw (mm_sp (mm_nw (mm_sp (mm_nw (mm_sp (mm_nw (mm_sp (mm_nw (mm_sp (mm_nw (mm_sp (mm_nw (mm_sp (mm_nw (mm_sp (mm_nw M 100 8) a0 0 (some q1)) 100 8) a0 1 (some q4)) 100 8) a0 2 (some q7)) 101 8) a0 3 (some q10)) 100 32) a0 5 (some q13)) 100 60) a0 6 (some q16)) 100 60) a0 7 (some q19)) 100 60) a0 8 (some q22)) 100 60) a0 9 (some q25)) 100 180) a0 10 (some q28)) 100 24) a0 11 (some q31)) 100 24) a0 12 (some q34)) 100 24) a0 13 (some q37)) 100 4) a0 15 (some q40)) 100 4) a0 16 (some q43)) 100 4) a0 17 (some q46)) 101 32) a0 19 (some q49)) 101 32) a0 20 (some q52)) 101 780) a0 21 (some q55)) 100 8) a0 22 (some q58)) 101 8) a0 23 (some q61)) 101 60) a0 24 (some q64)) a109 j112 4) a116 j119 1) a123 j126 1) a0 4 1))) :
    mm_Ok l G yy_Mo_init Y_Mo_init [.inr (some a0), .inl xa] M K := by
  refine mm_go (by decide) rfl (fun _ => rfl) (Nat.le_of_ble_eq_true rfl) ?_
  show mm_Z l G Y_Mo_init K M 22 1568 0 [some (.inr (some a0)), some (.inl xa)] [] M
  refine mr_aload_n dd_Mo_init_0 rfl ?_
  refine mr_obji dd_Mo_init_1 tb_629 tb_24 tb_25 ⟨Nat.le_of_ble_eq_true rfl, Nat.le_of_ble_eq_true rfl⟩ rfl ?_
  refine mr_aload_n dd_Mo_init_4 rfl ?_
  refine mr_bipush 8 dd_Mo_init_5 (by decide) ?_
  refine mr_newa (t := 0) (n := 8) dd_Mo_init_7 rfl tb_101 (Or.inl ⟨rfl, rfl⟩) rfl (by decide) ?_
  generalize hq2 : mm_z M = q1
  have h := h q1 hq2.symm
  obtain ⟨hk3, h⟩ := h
  refine mr_putr ff_Mo_7 fp_8 (Or.inr ⟨rfl, rfl, tb_630⟩) dd_Mo_init_9 (ty := tt8 0) (by decide +kernel) (Or.inr ⟨_, rfl⟩) rs_8_0 rfl hk3 ?_
  refine mr_aload_n dd_Mo_init_12 rfl ?_
  refine mr_bipush 8 dd_Mo_init_13 (by decide) ?_
  refine mr_newa (t := 0) (n := 8) dd_Mo_init_15 rfl tb_101 (Or.inl ⟨rfl, rfl⟩) rfl (by decide) ?_
  generalize hq5 : mm_z (mm_sp (mm_nw M 100 8) a0 0 (some q1)) = q4
  have h := h q4 hq5.symm
  obtain ⟨hk6, h⟩ := h
  refine mr_putr ff_Mo_13 fp_8 (Or.inr ⟨rfl, rfl, tb_631⟩) dd_Mo_init_17 (ty := tt8 1) (by decide +kernel) (Or.inr ⟨_, rfl⟩) rs_8_1 rfl hk6 ?_
  refine mr_aload_n dd_Mo_init_20 rfl ?_
  refine mr_bipush 8 dd_Mo_init_21 (by decide) ?_
  refine mr_newa (t := 0) (n := 8) dd_Mo_init_23 rfl tb_101 (Or.inl ⟨rfl, rfl⟩) rfl (by decide) ?_
  generalize hq8 : mm_z (mm_sp (mm_nw (mm_sp (mm_nw M 100 8) a0 0 (some q1)) 100 8) a0 1 (some q4)) = q7
  have h := h q7 hq8.symm
  obtain ⟨hk9, h⟩ := h
  refine mr_putr ff_Mo_16 fp_8 (Or.inr ⟨rfl, rfl, tb_632⟩) dd_Mo_init_25 (ty := tt8 2) (by decide +kernel) (Or.inr ⟨_, rfl⟩) rs_8_2 rfl hk9 ?_
  refine mr_aload_n dd_Mo_init_28 rfl ?_
  refine mr_bipush 8 dd_Mo_init_29 (by decide) ?_
  refine mr_newa (t := 1) (n := 8) dd_Mo_init_31 rfl tb_102 (Or.inr ⟨rfl, rfl⟩) rfl (by decide) ?_
  generalize hq11 : mm_z (mm_sp (mm_nw (mm_sp (mm_nw (mm_sp (mm_nw M 100 8) a0 0 (some q1)) 100 8) a0 1 (some q4)) 100 8) a0 2 (some q7)) = q10
  have h := h q10 hq11.symm
  obtain ⟨hk12, h⟩ := h
  refine mr_putr ff_Mo_19 fp_8 (Or.inr ⟨rfl, rfl, tb_633⟩) dd_Mo_init_33 (ty := tt8 3) (by decide +kernel) (Or.inr ⟨_, rfl⟩) rs_8_3 rfl hk12 ?_
  refine mr_aload_n dd_Mo_init_36 rfl ?_
  refine mr_bipush 32 dd_Mo_init_37 (by decide) ?_
  refine mr_newa (t := 0) (n := 32) dd_Mo_init_39 rfl tb_101 (Or.inl ⟨rfl, rfl⟩) rfl (by decide) ?_
  generalize hq14 : mm_z (mm_sp (mm_nw (mm_sp (mm_nw (mm_sp (mm_nw (mm_sp (mm_nw M 100 8) a0 0 (some q1)) 100 8) a0 1 (some q4)) 100 8) a0 2 (some q7)) 101 8) a0 3 (some q10)) = q13
  have h := h q13 hq14.symm
  obtain ⟨hk15, h⟩ := h
  refine mr_putr ff_Mo_23 fp_8 (Or.inr ⟨rfl, rfl, tb_635⟩) dd_Mo_init_41 (ty := tt8 5) (by decide +kernel) (Or.inr ⟨_, rfl⟩) rs_8_5 rfl hk15 ?_
  refine mr_aload_n dd_Mo_init_44 rfl ?_
  refine mr_bipush 60 dd_Mo_init_45 (by decide) ?_
  refine mr_newa (t := 0) (n := 60) dd_Mo_init_47 rfl tb_101 (Or.inl ⟨rfl, rfl⟩) rfl (by decide) ?_
  generalize hq17 : mm_z (mm_sp (mm_nw (mm_sp (mm_nw (mm_sp (mm_nw (mm_sp (mm_nw (mm_sp (mm_nw M 100 8) a0 0 (some q1)) 100 8) a0 1 (some q4)) 100 8) a0 2 (some q7)) 101 8) a0 3 (some q10)) 100 32) a0 5 (some q13)) = q16
  have h := h q16 hq17.symm
  obtain ⟨hk18, h⟩ := h
  refine mr_putr ff_Mo_26 fp_8 (Or.inr ⟨rfl, rfl, tb_636⟩) dd_Mo_init_49 (ty := tt8 6) (by decide +kernel) (Or.inr ⟨_, rfl⟩) rs_8_6 rfl hk18 ?_
  refine mr_aload_n dd_Mo_init_52 rfl ?_
  refine mr_bipush 60 dd_Mo_init_53 (by decide) ?_
  refine mr_newa (t := 0) (n := 60) dd_Mo_init_55 rfl tb_101 (Or.inl ⟨rfl, rfl⟩) rfl (by decide) ?_
  generalize hq20 : mm_z (mm_sp (mm_nw (mm_sp (mm_nw (mm_sp (mm_nw (mm_sp (mm_nw (mm_sp (mm_nw (mm_sp (mm_nw M 100 8) a0 0 (some q1)) 100 8) a0 1 (some q4)) 100 8) a0 2 (some q7)) 101 8) a0 3 (some q10)) 100 32) a0 5 (some q13)) 100 60) a0 6 (some q16)) = q19
  have h := h q19 hq20.symm
  obtain ⟨hk21, h⟩ := h
  refine mr_putr ff_Mo_29 fp_8 (Or.inr ⟨rfl, rfl, tb_637⟩) dd_Mo_init_57 (ty := tt8 7) (by decide +kernel) (Or.inr ⟨_, rfl⟩) rs_8_7 rfl hk21 ?_
  refine mr_aload_n dd_Mo_init_60 rfl ?_
  refine mr_bipush 60 dd_Mo_init_61 (by decide) ?_
  refine mr_newa (t := 0) (n := 60) dd_Mo_init_63 rfl tb_101 (Or.inl ⟨rfl, rfl⟩) rfl (by decide) ?_
  generalize hq23 : mm_z (mm_sp (mm_nw (mm_sp (mm_nw (mm_sp (mm_nw (mm_sp (mm_nw (mm_sp (mm_nw (mm_sp (mm_nw (mm_sp (mm_nw M 100 8) a0 0 (some q1)) 100 8) a0 1 (some q4)) 100 8) a0 2 (some q7)) 101 8) a0 3 (some q10)) 100 32) a0 5 (some q13)) 100 60) a0 6 (some q16)) 100 60) a0 7 (some q19)) = q22
  have h := h q22 hq23.symm
  obtain ⟨hk24, h⟩ := h
  refine mr_putr ff_Mo_32 fp_8 (Or.inr ⟨rfl, rfl, tb_638⟩) dd_Mo_init_65 (ty := tt8 8) (by decide +kernel) (Or.inr ⟨_, rfl⟩) rs_8_8 rfl hk24 ?_
  refine mr_aload_n dd_Mo_init_68 rfl ?_
  refine mr_bipush 60 dd_Mo_init_69 (by decide) ?_
  refine mr_newa (t := 0) (n := 60) dd_Mo_init_71 rfl tb_101 (Or.inl ⟨rfl, rfl⟩) rfl (by decide) ?_
  generalize hq26 : mm_z (mm_sp (mm_nw (mm_sp (mm_nw (mm_sp (mm_nw (mm_sp (mm_nw (mm_sp (mm_nw (mm_sp (mm_nw (mm_sp (mm_nw (mm_sp (mm_nw M 100 8) a0 0 (some q1)) 100 8) a0 1 (some q4)) 100 8) a0 2 (some q7)) 101 8) a0 3 (some q10)) 100 32) a0 5 (some q13)) 100 60) a0 6 (some q16)) 100 60) a0 7 (some q19)) 100 60) a0 8 (some q22)) = q25
  have h := h q25 hq26.symm
  obtain ⟨hk27, h⟩ := h
  refine mr_putr ff_Mo_35 fp_8 (Or.inr ⟨rfl, rfl, tb_639⟩) dd_Mo_init_73 (ty := tt8 9) (by decide +kernel) (Or.inr ⟨_, rfl⟩) rs_8_9 rfl hk27 ?_
  refine mr_aload_n dd_Mo_init_76 rfl ?_
  refine mr_sipush 180 dd_Mo_init_77 (by decide) ?_
  refine mr_newa (t := 0) (n := 180) dd_Mo_init_80 rfl tb_101 (Or.inl ⟨rfl, rfl⟩) rfl (by decide) ?_
  generalize hq29 : mm_z (mm_sp (mm_nw (mm_sp (mm_nw (mm_sp (mm_nw (mm_sp (mm_nw (mm_sp (mm_nw (mm_sp (mm_nw (mm_sp (mm_nw (mm_sp (mm_nw (mm_sp (mm_nw M 100 8) a0 0 (some q1)) 100 8) a0 1 (some q4)) 100 8) a0 2 (some q7)) 101 8) a0 3 (some q10)) 100 32) a0 5 (some q13)) 100 60) a0 6 (some q16)) 100 60) a0 7 (some q19)) 100 60) a0 8 (some q22)) 100 60) a0 9 (some q25)) = q28
  have h := h q28 hq29.symm
  obtain ⟨hk30, h⟩ := h
  refine mr_putr ff_Mo_38 fp_8 (Or.inr ⟨rfl, rfl, tb_640⟩) dd_Mo_init_82 (ty := tt8 10) (by decide +kernel) (Or.inr ⟨_, rfl⟩) rs_8_10 rfl hk30 ?_
  refine mr_aload_n dd_Mo_init_85 rfl ?_
  refine mr_bipush 24 dd_Mo_init_86 (by decide) ?_
  refine mr_newa (t := 0) (n := 24) dd_Mo_init_88 rfl tb_101 (Or.inl ⟨rfl, rfl⟩) rfl (by decide) ?_
  generalize hq32 : mm_z (mm_sp (mm_nw (mm_sp (mm_nw (mm_sp (mm_nw (mm_sp (mm_nw (mm_sp (mm_nw (mm_sp (mm_nw (mm_sp (mm_nw (mm_sp (mm_nw (mm_sp (mm_nw (mm_sp (mm_nw M 100 8) a0 0 (some q1)) 100 8) a0 1 (some q4)) 100 8) a0 2 (some q7)) 101 8) a0 3 (some q10)) 100 32) a0 5 (some q13)) 100 60) a0 6 (some q16)) 100 60) a0 7 (some q19)) 100 60) a0 8 (some q22)) 100 60) a0 9 (some q25)) 100 180) a0 10 (some q28)) = q31
  have h := h q31 hq32.symm
  obtain ⟨hk33, h⟩ := h
  refine mr_putr ff_Mo_41 fp_8 (Or.inr ⟨rfl, rfl, tb_641⟩) dd_Mo_init_90 (ty := tt8 11) (by decide +kernel) (Or.inr ⟨_, rfl⟩) rs_8_11 rfl hk33 ?_
  refine mr_aload_n dd_Mo_init_93 rfl ?_
  refine mr_bipush 24 dd_Mo_init_94 (by decide) ?_
  refine mr_newa (t := 0) (n := 24) dd_Mo_init_96 rfl tb_101 (Or.inl ⟨rfl, rfl⟩) rfl (by decide) ?_
  generalize hq35 : mm_z (mm_sp (mm_nw (mm_sp (mm_nw (mm_sp (mm_nw (mm_sp (mm_nw (mm_sp (mm_nw (mm_sp (mm_nw (mm_sp (mm_nw (mm_sp (mm_nw (mm_sp (mm_nw (mm_sp (mm_nw (mm_sp (mm_nw M 100 8) a0 0 (some q1)) 100 8) a0 1 (some q4)) 100 8) a0 2 (some q7)) 101 8) a0 3 (some q10)) 100 32) a0 5 (some q13)) 100 60) a0 6 (some q16)) 100 60) a0 7 (some q19)) 100 60) a0 8 (some q22)) 100 60) a0 9 (some q25)) 100 180) a0 10 (some q28)) 100 24) a0 11 (some q31)) = q34
  have h := h q34 hq35.symm
  obtain ⟨hk36, h⟩ := h
  refine mr_putr ff_Mo_44 fp_8 (Or.inr ⟨rfl, rfl, tb_642⟩) dd_Mo_init_98 (ty := tt8 12) (by decide +kernel) (Or.inr ⟨_, rfl⟩) rs_8_12 rfl hk36 ?_
  refine mr_aload_n dd_Mo_init_101 rfl ?_
  refine mr_bipush 24 dd_Mo_init_102 (by decide) ?_
  refine mr_newa (t := 0) (n := 24) dd_Mo_init_104 rfl tb_101 (Or.inl ⟨rfl, rfl⟩) rfl (by decide) ?_
  generalize hq38 : mm_z (mm_sp (mm_nw (mm_sp (mm_nw (mm_sp (mm_nw (mm_sp (mm_nw (mm_sp (mm_nw (mm_sp (mm_nw (mm_sp (mm_nw (mm_sp (mm_nw (mm_sp (mm_nw (mm_sp (mm_nw (mm_sp (mm_nw (mm_sp (mm_nw M 100 8) a0 0 (some q1)) 100 8) a0 1 (some q4)) 100 8) a0 2 (some q7)) 101 8) a0 3 (some q10)) 100 32) a0 5 (some q13)) 100 60) a0 6 (some q16)) 100 60) a0 7 (some q19)) 100 60) a0 8 (some q22)) 100 60) a0 9 (some q25)) 100 180) a0 10 (some q28)) 100 24) a0 11 (some q31)) 100 24) a0 12 (some q34)) = q37
  have h := h q37 hq38.symm
  obtain ⟨hk39, h⟩ := h
  refine mr_putr ff_Mo_47 fp_8 (Or.inr ⟨rfl, rfl, tb_643⟩) dd_Mo_init_106 (ty := tt8 13) (by decide +kernel) (Or.inr ⟨_, rfl⟩) rs_8_13 rfl hk39 ?_
  refine mr_aload_n dd_Mo_init_109 rfl ?_
  refine mr_iconst 4 dd_Mo_init_110 (by decide) ?_
  refine mr_newa (t := 0) (n := 4) dd_Mo_init_111 rfl tb_101 (Or.inl ⟨rfl, rfl⟩) rfl (by decide) ?_
  generalize hq41 : mm_z (mm_sp (mm_nw (mm_sp (mm_nw (mm_sp (mm_nw (mm_sp (mm_nw (mm_sp (mm_nw (mm_sp (mm_nw (mm_sp (mm_nw (mm_sp (mm_nw (mm_sp (mm_nw (mm_sp (mm_nw (mm_sp (mm_nw (mm_sp (mm_nw (mm_sp (mm_nw M 100 8) a0 0 (some q1)) 100 8) a0 1 (some q4)) 100 8) a0 2 (some q7)) 101 8) a0 3 (some q10)) 100 32) a0 5 (some q13)) 100 60) a0 6 (some q16)) 100 60) a0 7 (some q19)) 100 60) a0 8 (some q22)) 100 60) a0 9 (some q25)) 100 180) a0 10 (some q28)) 100 24) a0 11 (some q31)) 100 24) a0 12 (some q34)) 100 24) a0 13 (some q37)) = q40
  have h := h q40 hq41.symm
  obtain ⟨hk42, h⟩ := h
  refine mr_putr ff_Mo_50 fp_8 (Or.inr ⟨rfl, rfl, tb_645⟩) dd_Mo_init_113 (ty := tt8 15) (by decide +kernel) (Or.inr ⟨_, rfl⟩) rs_8_15 rfl hk42 ?_
  refine mr_aload_n dd_Mo_init_116 rfl ?_
  refine mr_iconst 4 dd_Mo_init_117 (by decide) ?_
  refine mr_newa (t := 0) (n := 4) dd_Mo_init_118 rfl tb_101 (Or.inl ⟨rfl, rfl⟩) rfl (by decide) ?_
  generalize hq44 : mm_z (mm_sp (mm_nw (mm_sp (mm_nw (mm_sp (mm_nw (mm_sp (mm_nw (mm_sp (mm_nw (mm_sp (mm_nw (mm_sp (mm_nw (mm_sp (mm_nw (mm_sp (mm_nw (mm_sp (mm_nw (mm_sp (mm_nw (mm_sp (mm_nw (mm_sp (mm_nw (mm_sp (mm_nw M 100 8) a0 0 (some q1)) 100 8) a0 1 (some q4)) 100 8) a0 2 (some q7)) 101 8) a0 3 (some q10)) 100 32) a0 5 (some q13)) 100 60) a0 6 (some q16)) 100 60) a0 7 (some q19)) 100 60) a0 8 (some q22)) 100 60) a0 9 (some q25)) 100 180) a0 10 (some q28)) 100 24) a0 11 (some q31)) 100 24) a0 12 (some q34)) 100 24) a0 13 (some q37)) 100 4) a0 15 (some q40)) = q43
  have h := h q43 hq44.symm
  obtain ⟨hk45, h⟩ := h
  refine mr_putr ff_Mo_53 fp_8 (Or.inr ⟨rfl, rfl, tb_646⟩) dd_Mo_init_120 (ty := tt8 16) (by decide +kernel) (Or.inr ⟨_, rfl⟩) rs_8_16 rfl hk45 ?_
  refine mr_aload_n dd_Mo_init_123 rfl ?_
  refine mr_iconst 4 dd_Mo_init_124 (by decide) ?_
  refine mr_newa (t := 0) (n := 4) dd_Mo_init_125 rfl tb_101 (Or.inl ⟨rfl, rfl⟩) rfl (by decide) ?_
  generalize hq47 : mm_z (mm_sp (mm_nw (mm_sp (mm_nw (mm_sp (mm_nw (mm_sp (mm_nw (mm_sp (mm_nw (mm_sp (mm_nw (mm_sp (mm_nw (mm_sp (mm_nw (mm_sp (mm_nw (mm_sp (mm_nw (mm_sp (mm_nw (mm_sp (mm_nw (mm_sp (mm_nw (mm_sp (mm_nw (mm_sp (mm_nw M 100 8) a0 0 (some q1)) 100 8) a0 1 (some q4)) 100 8) a0 2 (some q7)) 101 8) a0 3 (some q10)) 100 32) a0 5 (some q13)) 100 60) a0 6 (some q16)) 100 60) a0 7 (some q19)) 100 60) a0 8 (some q22)) 100 60) a0 9 (some q25)) 100 180) a0 10 (some q28)) 100 24) a0 11 (some q31)) 100 24) a0 12 (some q34)) 100 24) a0 13 (some q37)) 100 4) a0 15 (some q40)) 100 4) a0 16 (some q43)) = q46
  have h := h q46 hq47.symm
  obtain ⟨hk48, h⟩ := h
  refine mr_putr ff_Mo_56 fp_8 (Or.inr ⟨rfl, rfl, tb_647⟩) dd_Mo_init_127 (ty := tt8 17) (by decide +kernel) (Or.inr ⟨_, rfl⟩) rs_8_17 rfl hk48 ?_
  refine mr_aload_n dd_Mo_init_130 rfl ?_
  refine mr_bipush 32 dd_Mo_init_131 (by decide) ?_
  refine mr_newa (t := 1) (n := 32) dd_Mo_init_133 rfl tb_102 (Or.inr ⟨rfl, rfl⟩) rfl (by decide) ?_
  generalize hq50 : mm_z (mm_sp (mm_nw (mm_sp (mm_nw (mm_sp (mm_nw (mm_sp (mm_nw (mm_sp (mm_nw (mm_sp (mm_nw (mm_sp (mm_nw (mm_sp (mm_nw (mm_sp (mm_nw (mm_sp (mm_nw (mm_sp (mm_nw (mm_sp (mm_nw (mm_sp (mm_nw (mm_sp (mm_nw (mm_sp (mm_nw (mm_sp (mm_nw M 100 8) a0 0 (some q1)) 100 8) a0 1 (some q4)) 100 8) a0 2 (some q7)) 101 8) a0 3 (some q10)) 100 32) a0 5 (some q13)) 100 60) a0 6 (some q16)) 100 60) a0 7 (some q19)) 100 60) a0 8 (some q22)) 100 60) a0 9 (some q25)) 100 180) a0 10 (some q28)) 100 24) a0 11 (some q31)) 100 24) a0 12 (some q34)) 100 24) a0 13 (some q37)) 100 4) a0 15 (some q40)) 100 4) a0 16 (some q43)) 100 4) a0 17 (some q46)) = q49
  have h := h q49 hq50.symm
  obtain ⟨hk51, h⟩ := h
  refine mr_putr ff_Mo_59 fp_8 (Or.inr ⟨rfl, rfl, tb_649⟩) dd_Mo_init_135 (ty := tt8 19) (by decide +kernel) (Or.inr ⟨_, rfl⟩) rs_8_19 rfl hk51 ?_
  refine mr_aload_n dd_Mo_init_138 rfl ?_
  refine mr_bipush 32 dd_Mo_init_139 (by decide) ?_
  refine mr_newa (t := 1) (n := 32) dd_Mo_init_141 rfl tb_102 (Or.inr ⟨rfl, rfl⟩) rfl (by decide) ?_
  generalize hq53 : mm_z (mm_sp (mm_nw (mm_sp (mm_nw (mm_sp (mm_nw (mm_sp (mm_nw (mm_sp (mm_nw (mm_sp (mm_nw (mm_sp (mm_nw (mm_sp (mm_nw (mm_sp (mm_nw (mm_sp (mm_nw (mm_sp (mm_nw (mm_sp (mm_nw (mm_sp (mm_nw (mm_sp (mm_nw (mm_sp (mm_nw (mm_sp (mm_nw (mm_sp (mm_nw M 100 8) a0 0 (some q1)) 100 8) a0 1 (some q4)) 100 8) a0 2 (some q7)) 101 8) a0 3 (some q10)) 100 32) a0 5 (some q13)) 100 60) a0 6 (some q16)) 100 60) a0 7 (some q19)) 100 60) a0 8 (some q22)) 100 60) a0 9 (some q25)) 100 180) a0 10 (some q28)) 100 24) a0 11 (some q31)) 100 24) a0 12 (some q34)) 100 24) a0 13 (some q37)) 100 4) a0 15 (some q40)) 100 4) a0 16 (some q43)) 100 4) a0 17 (some q46)) 101 32) a0 19 (some q49)) = q52
  have h := h q52 hq53.symm
  obtain ⟨hk54, h⟩ := h
  refine mr_putr ff_Mo_62 fp_8 (Or.inr ⟨rfl, rfl, tb_650⟩) dd_Mo_init_143 (ty := tt8 20) (by decide +kernel) (Or.inr ⟨_, rfl⟩) rs_8_20 rfl hk54 ?_
  refine mr_aload_n dd_Mo_init_146 rfl ?_
  refine mr_sipush 780 dd_Mo_init_147 (by decide) ?_
  refine mr_newa (t := 1) (n := 780) dd_Mo_init_150 rfl tb_102 (Or.inr ⟨rfl, rfl⟩) rfl (by decide) ?_
  generalize hq56 : mm_z (mm_sp (mm_nw (mm_sp (mm_nw (mm_sp (mm_nw (mm_sp (mm_nw (mm_sp (mm_nw (mm_sp (mm_nw (mm_sp (mm_nw (mm_sp (mm_nw (mm_sp (mm_nw (mm_sp (mm_nw (mm_sp (mm_nw (mm_sp (mm_nw (mm_sp (mm_nw (mm_sp (mm_nw (mm_sp (mm_nw (mm_sp (mm_nw (mm_sp (mm_nw (mm_sp (mm_nw M 100 8) a0 0 (some q1)) 100 8) a0 1 (some q4)) 100 8) a0 2 (some q7)) 101 8) a0 3 (some q10)) 100 32) a0 5 (some q13)) 100 60) a0 6 (some q16)) 100 60) a0 7 (some q19)) 100 60) a0 8 (some q22)) 100 60) a0 9 (some q25)) 100 180) a0 10 (some q28)) 100 24) a0 11 (some q31)) 100 24) a0 12 (some q34)) 100 24) a0 13 (some q37)) 100 4) a0 15 (some q40)) 100 4) a0 16 (some q43)) 100 4) a0 17 (some q46)) 101 32) a0 19 (some q49)) 101 32) a0 20 (some q52)) = q55
  have h := h q55 hq56.symm
  obtain ⟨hk57, h⟩ := h
  refine mr_putr ff_Mo_65 fp_8 (Or.inr ⟨rfl, rfl, tb_651⟩) dd_Mo_init_152 (ty := tt8 21) (by decide +kernel) (Or.inr ⟨_, rfl⟩) rs_8_21 rfl hk57 ?_
  refine mr_aload_n dd_Mo_init_155 rfl ?_
  refine mr_bipush 8 dd_Mo_init_156 (by decide) ?_
  refine mr_newa (t := 0) (n := 8) dd_Mo_init_158 rfl tb_101 (Or.inl ⟨rfl, rfl⟩) rfl (by decide) ?_
  generalize hq59 : mm_z (mm_sp (mm_nw (mm_sp (mm_nw (mm_sp (mm_nw (mm_sp (mm_nw (mm_sp (mm_nw (mm_sp (mm_nw (mm_sp (mm_nw (mm_sp (mm_nw (mm_sp (mm_nw (mm_sp (mm_nw (mm_sp (mm_nw (mm_sp (mm_nw (mm_sp (mm_nw (mm_sp (mm_nw (mm_sp (mm_nw (mm_sp (mm_nw (mm_sp (mm_nw (mm_sp (mm_nw (mm_sp (mm_nw M 100 8) a0 0 (some q1)) 100 8) a0 1 (some q4)) 100 8) a0 2 (some q7)) 101 8) a0 3 (some q10)) 100 32) a0 5 (some q13)) 100 60) a0 6 (some q16)) 100 60) a0 7 (some q19)) 100 60) a0 8 (some q22)) 100 60) a0 9 (some q25)) 100 180) a0 10 (some q28)) 100 24) a0 11 (some q31)) 100 24) a0 12 (some q34)) 100 24) a0 13 (some q37)) 100 4) a0 15 (some q40)) 100 4) a0 16 (some q43)) 100 4) a0 17 (some q46)) 101 32) a0 19 (some q49)) 101 32) a0 20 (some q52)) 101 780) a0 21 (some q55)) = q58
  have h := h q58 hq59.symm
  obtain ⟨hk60, h⟩ := h
  refine mr_putr ff_Mo_68 fp_8 (Or.inr ⟨rfl, rfl, tb_652⟩) dd_Mo_init_160 (ty := tt8 22) (by decide +kernel) (Or.inr ⟨_, rfl⟩) rs_8_22 rfl hk60 ?_
  refine mr_aload_n dd_Mo_init_163 rfl ?_
  refine mr_bipush 8 dd_Mo_init_164 (by decide) ?_
  refine mr_newa (t := 1) (n := 8) dd_Mo_init_166 rfl tb_102 (Or.inr ⟨rfl, rfl⟩) rfl (by decide) ?_
  generalize hq62 : mm_z (mm_sp (mm_nw (mm_sp (mm_nw (mm_sp (mm_nw (mm_sp (mm_nw (mm_sp (mm_nw (mm_sp (mm_nw (mm_sp (mm_nw (mm_sp (mm_nw (mm_sp (mm_nw (mm_sp (mm_nw (mm_sp (mm_nw (mm_sp (mm_nw (mm_sp (mm_nw (mm_sp (mm_nw (mm_sp (mm_nw (mm_sp (mm_nw (mm_sp (mm_nw (mm_sp (mm_nw (mm_sp (mm_nw (mm_sp (mm_nw M 100 8) a0 0 (some q1)) 100 8) a0 1 (some q4)) 100 8) a0 2 (some q7)) 101 8) a0 3 (some q10)) 100 32) a0 5 (some q13)) 100 60) a0 6 (some q16)) 100 60) a0 7 (some q19)) 100 60) a0 8 (some q22)) 100 60) a0 9 (some q25)) 100 180) a0 10 (some q28)) 100 24) a0 11 (some q31)) 100 24) a0 12 (some q34)) 100 24) a0 13 (some q37)) 100 4) a0 15 (some q40)) 100 4) a0 16 (some q43)) 100 4) a0 17 (some q46)) 101 32) a0 19 (some q49)) 101 32) a0 20 (some q52)) 101 780) a0 21 (some q55)) 100 8) a0 22 (some q58)) = q61
  have h := h q61 hq62.symm
  obtain ⟨hk63, h⟩ := h
  refine mr_putr ff_Mo_71 fp_8 (Or.inr ⟨rfl, rfl, tb_653⟩) dd_Mo_init_168 (ty := tt8 23) (by decide +kernel) (Or.inr ⟨_, rfl⟩) rs_8_23 rfl hk63 ?_
  refine mr_aload_n dd_Mo_init_171 rfl ?_
  refine mr_bipush 60 dd_Mo_init_172 (by decide) ?_
  refine mr_newa (t := 1) (n := 60) dd_Mo_init_174 rfl tb_102 (Or.inr ⟨rfl, rfl⟩) rfl (by decide) ?_
  generalize hq65 : mm_z (mm_sp (mm_nw (mm_sp (mm_nw (mm_sp (mm_nw (mm_sp (mm_nw (mm_sp (mm_nw (mm_sp (mm_nw (mm_sp (mm_nw (mm_sp (mm_nw (mm_sp (mm_nw (mm_sp (mm_nw (mm_sp (mm_nw (mm_sp (mm_nw (mm_sp (mm_nw (mm_sp (mm_nw (mm_sp (mm_nw (mm_sp (mm_nw (mm_sp (mm_nw (mm_sp (mm_nw (mm_sp (mm_nw (mm_sp (mm_nw (mm_sp (mm_nw M 100 8) a0 0 (some q1)) 100 8) a0 1 (some q4)) 100 8) a0 2 (some q7)) 101 8) a0 3 (some q10)) 100 32) a0 5 (some q13)) 100 60) a0 6 (some q16)) 100 60) a0 7 (some q19)) 100 60) a0 8 (some q22)) 100 60) a0 9 (some q25)) 100 180) a0 10 (some q28)) 100 24) a0 11 (some q31)) 100 24) a0 12 (some q34)) 100 24) a0 13 (some q37)) 100 4) a0 15 (some q40)) 100 4) a0 16 (some q43)) 100 4) a0 17 (some q46)) 101 32) a0 19 (some q49)) 101 32) a0 20 (some q52)) 101 780) a0 21 (some q55)) 100 8) a0 22 (some q58)) 101 8) a0 23 (some q61)) = q64
  have h := h q64 hq65.symm
  obtain ⟨hk66, h⟩ := h
  refine mr_putr ff_Mo_74 fp_8 (Or.inr ⟨rfl, rfl, tb_654⟩) dd_Mo_init_176 (ty := tt8 24) (by decide +kernel) (Or.inr ⟨_, rfl⟩) rs_8_24 rfl hk66 ?_
  refine mr_aload_n dd_Mo_init_179 rfl ?_
  refine mr_getr ff_Mo_16 dd_Mo_init_180 rs_8_2 rfl hk66 ?_
  refine mr_iconst 0 dd_Mo_init_183 (by decide) ?_
  refine mr_iload_n dd_Mo_init_184 rfl ?_
  refine mr_iconst 4 dd_Mo_init_185 (by decide) ?_
  refine mr_icmp_ge 193 dd_Mo_init_186 (by decide) (fun hc186 => ?_) (fun hc186 => ?_)
  · have h := h.1 hc186
    refine mr_iload_n dd_Mo_init_193 rfl ?_
    refine mr_bipush 24 dd_Mo_init_194 (by decide) ?_
    refine mr_icmp_le 204 dd_Mo_init_196 (by decide) (fun hc196 => ?_) (fun hc196 => ?_)
    · have h := h.1 hc196
      refine mr_iload_n dd_Mo_init_204 rfl ?_
      obtain ⟨a67, ho68, h⟩ := h
      obtain ⟨hk69, h⟩ := h
      obtain ⟨j70, hj71, hm72, hl73, h⟩ := h
      refine mr_iast dd_Mo_init_205 ho68 hk69 hj71 hm72 hl73 ?_
      refine mr_aload_n dd_Mo_init_206 rfl ?_
      refine mr_getr ff_Mo_19 dd_Mo_init_207 rs_8_3 rfl hk66 ?_
      refine mr_iconst 0 dd_Mo_init_210 (by decide) ?_
      refine mr_iconst 1 dd_Mo_init_211 (by decide) ?_
      obtain ⟨a74, ho75, h⟩ := h
      obtain ⟨hk76, h⟩ := h
      obtain ⟨j77, hj78, hm79, hl80, h⟩ := h
      refine mr_zast dd_Mo_init_212 ho75 hk76 hj78 hm79 hl80 (Or.inr rfl) ?_
      refine mr_aload_n dd_Mo_init_213 rfl ?_
      refine mr_getr ff_Mo_7 dd_Mo_init_214 rs_8_0 rfl hk66 ?_
      refine mr_iconst 0 dd_Mo_init_217 (by decide) ?_
      refine mr_iconst 1 dd_Mo_init_218 (by decide) ?_
      obtain ⟨a81, ho82, h⟩ := h
      obtain ⟨hk83, h⟩ := h
      obtain ⟨j84, hj85, hm86, hl87, h⟩ := h
      refine mr_iast dd_Mo_init_219 ho82 hk83 hj85 hm86 hl87 ?_
      refine mr_aload_n dd_Mo_init_220 rfl ?_
      refine mr_iconst 1 dd_Mo_init_221 (by decide) ?_
      refine mr_puti ff_Mo_77 fp_8 (Or.inl rfl) dd_Mo_init_222 (Or.inl (by decide +kernel)) rs_8_4 rfl hk66 ?_
      exact mr_return dd_Mo_init_225 rfl h
    · have h := h.2 hc196
      refine mr_bipush 24 dd_Mo_init_199 (by decide) ?_
      refine mr_goto 205 dd_Mo_init_201 (by decide) ?_
      obtain ⟨a88, ho89, h⟩ := h
      obtain ⟨hk90, h⟩ := h
      obtain ⟨j91, hj92, hm93, hl94, h⟩ := h
      refine mr_iast dd_Mo_init_205 ho89 hk90 hj92 hm93 hl94 ?_
      refine mr_aload_n dd_Mo_init_206 rfl ?_
      refine mr_getr ff_Mo_19 dd_Mo_init_207 rs_8_3 rfl hk66 ?_
      refine mr_iconst 0 dd_Mo_init_210 (by decide) ?_
      refine mr_iconst 1 dd_Mo_init_211 (by decide) ?_
      obtain ⟨a95, ho96, h⟩ := h
      obtain ⟨hk97, h⟩ := h
      obtain ⟨j98, hj99, hm100, hl101, h⟩ := h
      refine mr_zast dd_Mo_init_212 ho96 hk97 hj99 hm100 hl101 (Or.inr rfl) ?_
      refine mr_aload_n dd_Mo_init_213 rfl ?_
      refine mr_getr ff_Mo_7 dd_Mo_init_214 rs_8_0 rfl hk66 ?_
      refine mr_iconst 0 dd_Mo_init_217 (by decide) ?_
      refine mr_iconst 1 dd_Mo_init_218 (by decide) ?_
      obtain ⟨a102, ho103, h⟩ := h
      obtain ⟨hk104, h⟩ := h
      obtain ⟨j105, hj106, hm107, hl108, h⟩ := h
      refine mr_iast dd_Mo_init_219 ho103 hk104 hj106 hm107 hl108 ?_
      refine mr_aload_n dd_Mo_init_220 rfl ?_
      refine mr_iconst 1 dd_Mo_init_221 (by decide) ?_
      refine mr_puti ff_Mo_77 fp_8 (Or.inl rfl) dd_Mo_init_222 (Or.inl (by decide +kernel)) rs_8_4 rfl hk66 ?_
      exact mr_return dd_Mo_init_225 rfl h
  · have h := h.2 hc186
    refine mr_iconst 4 dd_Mo_init_189 (by decide) ?_
    refine mr_goto 205 dd_Mo_init_190 (by decide) ?_
    obtain ⟨a109, ho110, h⟩ := h
    obtain ⟨hk111, h⟩ := h
    obtain ⟨j112, hj113, hm114, hl115, h⟩ := h
    refine mr_iast dd_Mo_init_205 ho110 hk111 hj113 hm114 hl115 ?_
    refine mr_aload_n dd_Mo_init_206 rfl ?_
    refine mr_getr ff_Mo_19 dd_Mo_init_207 rs_8_3 rfl hk66 ?_
    refine mr_iconst 0 dd_Mo_init_210 (by decide) ?_
    refine mr_iconst 1 dd_Mo_init_211 (by decide) ?_
    obtain ⟨a116, ho117, h⟩ := h
    obtain ⟨hk118, h⟩ := h
    obtain ⟨j119, hj120, hm121, hl122, h⟩ := h
    refine mr_zast dd_Mo_init_212 ho117 hk118 hj120 hm121 hl122 (Or.inr rfl) ?_
    refine mr_aload_n dd_Mo_init_213 rfl ?_
    refine mr_getr ff_Mo_7 dd_Mo_init_214 rs_8_0 rfl hk66 ?_
    refine mr_iconst 0 dd_Mo_init_217 (by decide) ?_
    refine mr_iconst 1 dd_Mo_init_218 (by decide) ?_
    obtain ⟨a123, ho124, h⟩ := h
    obtain ⟨hk125, h⟩ := h
    obtain ⟨j126, hj127, hm128, hl129, h⟩ := h
    refine mr_iast dd_Mo_init_219 ho124 hk125 hj127 hm128 hl129 ?_
    refine mr_aload_n dd_Mo_init_220 rfl ?_
    refine mr_iconst 1 dd_Mo_init_221 (by decide) ?_
    refine mr_puti ff_Mo_77 fp_8 (Or.inl rfl) dd_Mo_init_222 (Or.inl (by decide +kernel)) rs_8_4 rfl hk66 ?_
    exact mr_return dd_Mo_init_225 rfl h
set_option maxHeartbeats 4000000 in
set_option maxRecDepth 100000 in
theorem sg_Mo_die {l : Launch} {G : mm_G} {K : Option mm_V → mm_M → Prop} {M : mm_M} {a0 : Nat} {xa : Int32}
    (h : mm_k M a0 = 9 ∧ ∃ a2 : Nat, (mm_p M a0 0) = some a2 ∧ mm_k M a2 = 100 ∧ ∃ j5 : Nat, xa = nI j5 ∧ j5 < 2147483648 ∧ j5 < mm_l M a2 ∧ mm_Z l G Y_Mo_die K M 0 0 9 [some (.inr (some a0)), some (.inl xa), some (.inl 0), none] [] (mm_si M a2 j5 4)) :
    mm_Ok l G yy_Mo_die Y_Mo_die [.inr (some a0), .inl xa] M K := by
  refine mm_go (by decide) rfl (fun q => by cases q) (Nat.le_of_ble_eq_true rfl) ?_
  show mm_Z l G Y_Mo_die K M 0 0 0 [some (.inr (some a0)), some (.inl xa), none, none] [] M
  refine mr_aload_n dd_Mo_die_0 rfl ?_
  obtain ⟨hk1, h⟩ := h
  refine mr_getr ff_Mo_7 dd_Mo_die_1 rs_8_0 rfl hk1 ?_
  refine mr_iload_n dd_Mo_die_4 rfl ?_
  refine mr_iconst 4 dd_Mo_die_5 (by decide) ?_
  obtain ⟨a2, ho3, h⟩ := h
  obtain ⟨hk4, h⟩ := h
  obtain ⟨j5, hj6, hm7, hl8, h⟩ := h
  refine mr_iast dd_Mo_die_6 ho3 hk4 hj6 hm7 hl8 ?_
  refine mr_iconst 0 dd_Mo_die_7 (by decide) ?_
  refine mr_istore_n dd_Mo_die_8 (by decide) ?_
  show mm_Z l G Y_Mo_die K M 0 0 9 [some (.inr (some a0)), some (.inl xa), some (.inl 0), none] [] (mm_si M a2 j5 4)
  exact h
set_option maxHeartbeats 4000000 in
set_option maxRecDepth 100000 in
theorem sg_Mo_die_9 {l : Launch} {G : mm_G} {K : Option mm_V → mm_M → Prop} {M0 M : mm_M} {bc bs : Nat} {a0 : Nat} {y1 : Int32} {y2 : Int32}
    (h : (4 ≤ y2 → mm_k M a0 = 9 ∧ mm_Ok l G yy_Mo_merge Y_Mo_merge [.inr (some a0), .inl y1] M (fun r M1 => mm_X M M1 → r = none ∧ mm_Z l G Y_Mo_die K M0 bc bs 86 [some (.inr (some a0)), some (.inl y1), some (.inl 0), none] [] M1)) ∧ (¬ 4 ≤ y2 → mm_k M a0 = 9 ∧ ∃ a5 : Nat, (mm_p M a0 5) = some a5 ∧ mm_k M a5 = 100 ∧ ∃ j8 : Nat, ((4 * y1) + y2) = nI j8 ∧ j8 < 2147483648 ∧ j8 < mm_l M a5 ∧ ∃ a12 : Nat, (mm_p (mm_si M a5 j8 0) a0 19) = some a12 ∧ mm_k (mm_si M a5 j8 0) a12 = 101 ∧ ∃ j15 : Nat, ((4 * y1) + y2) = nI j15 ∧ j15 < 2147483648 ∧ j15 < mm_l (mm_si M a5 j8 0) a12 ∧ ∃ a19 : Nat, (mm_p (mm_si (mm_si M a5 j8 0) a12 j15 0) a0 15) = some a19 ∧ mm_k (mm_si (mm_si M a5 j8 0) a12 j15 0) a19 = 100 ∧ ∃ j22 : Nat, y2 = nI j22 ∧ j22 < 2147483648 ∧ j22 < mm_l (mm_si (mm_si M a5 j8 0) a12 j15 0) a19 ∧ (¬ (mm_i (mm_si (mm_si M a5 j8 0) a12 j15 0) a19 j22) = 2 → ∃ a26 : Nat, (mm_p (mm_si (mm_si M a5 j8 0) a12 j15 0) a0 20) = some a26 ∧ mm_k (mm_si (mm_si M a5 j8 0) a12 j15 0) a26 = 101 ∧ ∃ j29 : Nat, ((4 * y1) + y2) = nI j29 ∧ j29 < 2147483648 ∧ j29 < mm_l (mm_si (mm_si M a5 j8 0) a12 j15 0) a26 ∧ mm_Z l G Y_Mo_die K M0 bc bs 9 [some (.inr (some a0)), some (.inl y1), some (.inl (y2 + 1)), none] [] (mm_si (mm_si (mm_si M a5 j8 0) a12 j15 0) a26 j29 0)) ∧ ((mm_i (mm_si (mm_si M a5 j8 0) a12 j15 0) a19 j22) = 2 → mm_Ok l G yy_Mo_names Y_Mo_names [.inr (some a0), .inl y1, .inl (9 + y2)] (mm_si (mm_si M a5 j8 0) a12 j15 0) (fun r M33 => mm_X (mm_si (mm_si M a5 j8 0) a12 j15 0) M33 → ∃ x35 : Int32, r = some (.inl x35) ∧ (x35 = 0 → ∃ a36 : Nat, (mm_p (mm_si (mm_si M a5 j8 0) a12 j15 0) a0 20) = some a36 ∧ mm_k M33 a36 = 101 ∧ ∃ j39 : Nat, ((4 * y1) + y2) = nI j39 ∧ j39 < 2147483648 ∧ j39 < mm_l M33 a36 ∧ mm_Z l G Y_Mo_die K M0 bc bs 9 [some (.inr (some a0)), some (.inl y1), some (.inl (y2 + 1)), none] [] (mm_si M33 a36 j39 0)) ∧ (¬ x35 = 0 → ∃ a43 : Nat, (mm_p (mm_si (mm_si M a5 j8 0) a12 j15 0) a0 20) = some a43 ∧ mm_k M33 a43 = 101 ∧ ∃ j46 : Nat, ((4 * y1) + y2) = nI j46 ∧ j46 < 2147483648 ∧ j46 < mm_l M33 a43 ∧ mm_Z l G Y_Mo_die K M0 bc bs 9 [some (.inr (some a0)), some (.inl y1), some (.inl (y2 + 1)), none] [] (mm_si M33 a43 j46 1)))))) :
    mm_Z l G Y_Mo_die K M0 bc bs 9 [some (.inr (some a0)), some (.inl y1), some (.inl y2), none] [] M := by
  refine mr_iload_n dd_Mo_die_9 rfl ?_
  refine mr_iconst 4 dd_Mo_die_10 (by decide) ?_
  refine mr_icmp_ge 79 dd_Mo_die_11 (by decide) (fun hc11 => ?_) (fun hc11 => ?_)
  · have h := h.1 hc11
    refine mr_aload_n dd_Mo_die_79 rfl ?_
    refine mr_iload_n dd_Mo_die_80 rfl ?_
    obtain ⟨hk3, h⟩ := h
    refine mr_callV0 (Yc := Y_Mo_merge) (M := M) (st := []) (vs := [.inl y1]) (ci := 8) fc_Mo_121 iv_Mo_merge sv_Mo_merge dd_Mo_die_81 ⟨Nat.le_of_ble_eq_true rfl, Nat.le_of_ble_eq_true rfl⟩ (by decide) rfl rfl (Nat.le_of_ble_eq_true rfl) rfl hk3 rfl rfl h (fun r M1 hX2 h => ?_)
    replace h := h hX2
    obtain ⟨rfl, h⟩ := h
    show mm_Z l G Y_Mo_die K M0 bc bs 84 [some (.inr (some a0)), some (.inl y1), some (.inl y2), none] [] M1
    refine mr_iconst 0 dd_Mo_die_84 (by decide) ?_
    refine mr_istore_n dd_Mo_die_85 (by decide) ?_
    show mm_Z l G Y_Mo_die K M0 bc bs 86 [some (.inr (some a0)), some (.inl y1), some (.inl 0), none] [] M1
    exact h
  · have h := h.2 hc11
    refine mr_aload_n dd_Mo_die_14 rfl ?_
    obtain ⟨hk4, h⟩ := h
    refine mr_getr ff_Mo_23 dd_Mo_die_15 rs_8_5 rfl hk4 ?_
    refine mr_iconst 4 dd_Mo_die_18 (by decide) ?_
    refine mr_iload_n dd_Mo_die_19 rfl ?_
    refine mr_imul dd_Mo_die_20 ?_
    refine mr_iload_n dd_Mo_die_21 rfl ?_
    refine mr_iadd dd_Mo_die_22 ?_
    refine mr_iconst 0 dd_Mo_die_23 (by decide) ?_
    obtain ⟨a5, ho6, h⟩ := h
    obtain ⟨hk7, h⟩ := h
    obtain ⟨j8, hj9, hm10, hl11, h⟩ := h
    refine mr_iast dd_Mo_die_24 ho6 hk7 hj9 hm10 hl11 ?_
    refine mr_aload_n dd_Mo_die_25 rfl ?_
    refine mr_getr ff_Mo_59 dd_Mo_die_26 rs_8_19 rfl hk4 ?_
    refine mr_iconst 4 dd_Mo_die_29 (by decide) ?_
    refine mr_iload_n dd_Mo_die_30 rfl ?_
    refine mr_imul dd_Mo_die_31 ?_
    refine mr_iload_n dd_Mo_die_32 rfl ?_
    refine mr_iadd dd_Mo_die_33 ?_
    refine mr_iconst 0 dd_Mo_die_34 (by decide) ?_
    obtain ⟨a12, ho13, h⟩ := h
    obtain ⟨hk14, h⟩ := h
    obtain ⟨j15, hj16, hm17, hl18, h⟩ := h
    refine mr_zast dd_Mo_die_35 ho13 hk14 hj16 hm17 hl18 (Or.inl rfl) ?_
    refine mr_aload_n dd_Mo_die_36 rfl ?_
    refine mr_getr ff_Mo_62 dd_Mo_die_37 rs_8_20 rfl hk4 ?_
    refine mr_iconst 4 dd_Mo_die_40 (by decide) ?_
    refine mr_iload_n dd_Mo_die_41 rfl ?_
    refine mr_imul dd_Mo_die_42 ?_
    refine mr_iload_n dd_Mo_die_43 rfl ?_
    refine mr_iadd dd_Mo_die_44 ?_
    refine mr_aload_n dd_Mo_die_45 rfl ?_
    refine mr_getr ff_Mo_50 dd_Mo_die_46 rs_8_15 rfl hk4 ?_
    refine mr_iload_n dd_Mo_die_49 rfl ?_
    obtain ⟨a19, ho20, h⟩ := h
    obtain ⟨hk21, h⟩ := h
    obtain ⟨j22, hj23, hm24, hl25, h⟩ := h
    refine mr_iald dd_Mo_die_50 ho20 hk21 hj23 hm24 hl25 ?_
    refine mr_iconst 2 dd_Mo_die_51 (by decide) ?_
    refine mr_icmp_ne 71 dd_Mo_die_52 (by decide) (fun hc52 => ?_) (fun hc52 => ?_)
    · have h := h.1 hc52
      refine mr_iconst 0 dd_Mo_die_71 (by decide) ?_
      obtain ⟨a26, ho27, h⟩ := h
      obtain ⟨hk28, h⟩ := h
      obtain ⟨j29, hj30, hm31, hl32, h⟩ := h
      refine mr_zast dd_Mo_die_72 ho27 hk28 hj30 hm31 hl32 (Or.inl rfl) ?_
      refine mr_iinc 1 dd_Mo_die_73 rfl (by decide) (by decide) ?_
      show mm_Z l G Y_Mo_die K M0 bc bs 76 [some (.inr (some a0)), some (.inl y1), some (.inl (y2 + 1)), none] [] (mm_si (mm_si (mm_si M a5 j8 0) a12 j15 0) a26 j29 0)
      refine mr_goto 9 dd_Mo_die_76 (by decide) ?_
      exact h
    · have h := h.2 hc52
      refine mr_aload_n dd_Mo_die_55 rfl ?_
      refine mr_iload_n dd_Mo_die_56 rfl ?_
      refine mr_bipush 9 dd_Mo_die_57 (by decide) ?_
      refine mr_iload_n dd_Mo_die_59 rfl ?_
      refine mr_iadd dd_Mo_die_60 ?_
      refine mr_callV0 (Yc := Y_Mo_names) (M := (mm_si (mm_si M a5 j8 0) a12 j15 0)) (st := [.inl ((4 * y1) + y2), .inr (mm_p (mm_si (mm_si M a5 j8 0) a12 j15 0) a0 20)]) (vs := [.inl y1, .inl (9 + y2)]) (ci := 8) fc_Mo_109 iv_Mo_names sv_Mo_names dd_Mo_die_61 ⟨Nat.le_of_ble_eq_true rfl, Nat.le_of_ble_eq_true rfl⟩ (by decide) rfl rfl (Nat.le_of_ble_eq_true rfl) rfl hk4 rfl rfl h (fun r M33 hX34 h => ?_)
      replace h := h hX34
      obtain ⟨x35, rfl, h⟩ := h
      show mm_Z l G Y_Mo_die K M0 bc bs 64 [some (.inr (some a0)), some (.inl y1), some (.inl y2), none] [.inl x35, .inl ((4 * y1) + y2), .inr (mm_p (mm_si (mm_si M a5 j8 0) a12 j15 0) a0 20)] M33
      refine mr_if_eq 71 dd_Mo_die_64 (by decide) (fun hc64 => ?_) (fun hc64 => ?_)
      · have h := h.1 hc64
        refine mr_iconst 0 dd_Mo_die_71 (by decide) ?_
        obtain ⟨a36, ho37, h⟩ := h
        obtain ⟨hk38, h⟩ := h
        obtain ⟨j39, hj40, hm41, hl42, h⟩ := h
        refine mr_zast dd_Mo_die_72 ho37 hk38 hj40 hm41 hl42 (Or.inl rfl) ?_
        refine mr_iinc 1 dd_Mo_die_73 rfl (by decide) (by decide) ?_
        show mm_Z l G Y_Mo_die K M0 bc bs 76 [some (.inr (some a0)), some (.inl y1), some (.inl (y2 + 1)), none] [] (mm_si M33 a36 j39 0)
        refine mr_goto 9 dd_Mo_die_76 (by decide) ?_
        exact h
      · have h := h.2 hc64
        refine mr_iconst 1 dd_Mo_die_67 (by decide) ?_
        refine mr_goto 72 dd_Mo_die_68 (by decide) ?_
        obtain ⟨a43, ho44, h⟩ := h
        obtain ⟨hk45, h⟩ := h
        obtain ⟨j46, hj47, hm48, hl49, h⟩ := h
        refine mr_zast dd_Mo_die_72 ho44 hk45 hj47 hm48 hl49 (Or.inr rfl) ?_
        refine mr_iinc 1 dd_Mo_die_73 rfl (by decide) (by decide) ?_
        show mm_Z l G Y_Mo_die K M0 bc bs 76 [some (.inr (some a0)), some (.inl y1), some (.inl (y2 + 1)), none] [] (mm_si M33 a43 j46 1)
        refine mr_goto 9 dd_Mo_die_76 (by decide) ?_
        exact h
set_option maxHeartbeats 4000000 in
set_option maxRecDepth 100000 in
theorem sg_Mo_die_86 {l : Launch} {G : mm_G} {K : Option mm_V → mm_M → Prop} {M0 M : mm_M} {bc bs : Nat} {a0 : Nat} {y1 : Int32} {y2 : Int32}
    (h : (4 ≤ y2 → mm_Z l G Y_Mo_die K M0 bc bs 134 [some (.inr (some a0)), some (.inl y1), some (.inl 0), none] [] M) ∧ (¬ 4 ≤ y2 → mm_k M a0 = 9 ∧ ∃ a2 : Nat, (mm_p M a0 15) = some a2 ∧ mm_k M a2 = 100 ∧ ∃ j5 : Nat, y2 = nI j5 ∧ j5 < 2147483648 ∧ j5 < mm_l M a2 ∧ (¬ (mm_i M a2 j5) = 1 → mm_Z l G Y_Mo_die K M0 bc bs 86 [some (.inr (some a0)), some (.inl y1), some (.inl (y2 + 1)), none] [] M) ∧ ((mm_i M a2 j5) = 1 → ∃ a9 : Nat, (mm_p M a0 16) = some a9 ∧ mm_k M a9 = 100 ∧ ∃ j12 : Nat, y2 = nI j12 ∧ j12 < 2147483648 ∧ j12 < mm_l M a9 ∧ (¬ (mm_i M a9 j12) = y1 → mm_Z l G Y_Mo_die K M0 bc bs 86 [some (.inr (some a0)), some (.inl y1), some (.inl (y2 + 1)), none] [] M) ∧ ((mm_i M a9 j12) = y1 → mm_Ok l G yy_Mo_merge Y_Mo_merge [.inr (some a0), .inl (9 + y2)] M (fun r M16 => mm_X M M16 → r = none ∧ ∃ a18 : Nat, (mm_p M16 a0 15) = some a18 ∧ mm_k M16 a18 = 100 ∧ ∃ j21 : Nat, y2 = nI j21 ∧ j21 < 2147483648 ∧ j21 < mm_l M16 a18 ∧ mm_Z l G Y_Mo_die K M0 bc bs 86 [some (.inr (some a0)), some (.inl y1), some (.inl (y2 + 1)), none] [] (mm_si M16 a18 j21 3)))))) :
    mm_Z l G Y_Mo_die K M0 bc bs 86 [some (.inr (some a0)), some (.inl y1), some (.inl y2), none] [] M := by
  refine mr_iload_n dd_Mo_die_86 rfl ?_
  refine mr_iconst 4 dd_Mo_die_87 (by decide) ?_
  refine mr_icmp_ge 132 dd_Mo_die_88 (by decide) (fun hc88 => ?_) (fun hc88 => ?_)
  · have h := h.1 hc88
    refine mr_iconst 0 dd_Mo_die_132 (by decide) ?_
    refine mr_istore_n dd_Mo_die_133 (by decide) ?_
    show mm_Z l G Y_Mo_die K M0 bc bs 134 [some (.inr (some a0)), some (.inl y1), some (.inl 0), none] [] M
    exact h
  · have h := h.2 hc88
    refine mr_aload_n dd_Mo_die_91 rfl ?_
    obtain ⟨hk1, h⟩ := h
    refine mr_getr ff_Mo_50 dd_Mo_die_92 rs_8_15 rfl hk1 ?_
    refine mr_iload_n dd_Mo_die_95 rfl ?_
    obtain ⟨a2, ho3, h⟩ := h
    obtain ⟨hk4, h⟩ := h
    obtain ⟨j5, hj6, hm7, hl8, h⟩ := h
    refine mr_iald dd_Mo_die_96 ho3 hk4 hj6 hm7 hl8 ?_
    refine mr_iconst 1 dd_Mo_die_97 (by decide) ?_
    refine mr_icmp_ne 126 dd_Mo_die_98 (by decide) (fun hc98 => ?_) (fun hc98 => ?_)
    · have h := h.1 hc98
      refine mr_iinc 1 dd_Mo_die_126 rfl (by decide) (by decide) ?_
      show mm_Z l G Y_Mo_die K M0 bc bs 129 [some (.inr (some a0)), some (.inl y1), some (.inl (y2 + 1)), none] [] M
      refine mr_goto 86 dd_Mo_die_129 (by decide) ?_
      exact h
    · have h := h.2 hc98
      refine mr_aload_n dd_Mo_die_101 rfl ?_
      refine mr_getr ff_Mo_53 dd_Mo_die_102 rs_8_16 rfl hk1 ?_
      refine mr_iload_n dd_Mo_die_105 rfl ?_
      obtain ⟨a9, ho10, h⟩ := h
      obtain ⟨hk11, h⟩ := h
      obtain ⟨j12, hj13, hm14, hl15, h⟩ := h
      refine mr_iald dd_Mo_die_106 ho10 hk11 hj13 hm14 hl15 ?_
      refine mr_iload_n dd_Mo_die_107 rfl ?_
      refine mr_icmp_ne 126 dd_Mo_die_108 (by decide) (fun hc108 => ?_) (fun hc108 => ?_)
      · have h := h.1 hc108
        refine mr_iinc 1 dd_Mo_die_126 rfl (by decide) (by decide) ?_
        show mm_Z l G Y_Mo_die K M0 bc bs 129 [some (.inr (some a0)), some (.inl y1), some (.inl (y2 + 1)), none] [] M
        refine mr_goto 86 dd_Mo_die_129 (by decide) ?_
        exact h
      · have h := h.2 hc108
        refine mr_aload_n dd_Mo_die_111 rfl ?_
        refine mr_bipush 9 dd_Mo_die_112 (by decide) ?_
        refine mr_iload_n dd_Mo_die_114 rfl ?_
        refine mr_iadd dd_Mo_die_115 ?_
        refine mr_callV0 (Yc := Y_Mo_merge) (M := M) (st := []) (vs := [.inl (9 + y2)]) (ci := 8) fc_Mo_121 iv_Mo_merge sv_Mo_merge dd_Mo_die_116 ⟨Nat.le_of_ble_eq_true rfl, Nat.le_of_ble_eq_true rfl⟩ (by decide) rfl rfl (Nat.le_of_ble_eq_true rfl) rfl hk1 rfl rfl h (fun r M16 hX17 h => ?_)
        replace h := h hX17
        obtain ⟨rfl, h⟩ := h
        show mm_Z l G Y_Mo_die K M0 bc bs 119 [some (.inr (some a0)), some (.inl y1), some (.inl y2), none] [] M16
        refine mr_aload_n dd_Mo_die_119 rfl ?_
        refine mr_getr ff_Mo_50 dd_Mo_die_120 rs_8_15 rfl (mm_Xk hX17 hk1 (by decide)) ?_
        refine mr_iload_n dd_Mo_die_123 rfl ?_
        refine mr_iconst 3 dd_Mo_die_124 (by decide) ?_
        obtain ⟨a18, ho19, h⟩ := h
        obtain ⟨hk20, h⟩ := h
        obtain ⟨j21, hj22, hm23, hl24, h⟩ := h
        refine mr_iast dd_Mo_die_125 ho19 hk20 hj22 hm23 hl24 ?_
        refine mr_iinc 1 dd_Mo_die_126 rfl (by decide) (by decide) ?_
        show mm_Z l G Y_Mo_die K M0 bc bs 129 [some (.inr (some a0)), some (.inl y1), some (.inl (y2 + 1)), none] [] (mm_si M16 a18 j21 3)
        refine mr_goto 86 dd_Mo_die_129 (by decide) ?_
        exact h
set_option maxHeartbeats 4000000 in
set_option maxRecDepth 100000 in
theorem sg_Mo_die_134 {l : Launch} {G : mm_G} {K : Option mm_V → mm_M → Prop} {M0 M : mm_M} {bc bs : Nat} {a0 : Nat} {y1 : Int32} {y2 : Int32}
    (h : (60 ≤ y2 → mm_k M a0 = 9 ∧ mm_Ok l G yy_Mo_vanish Y_Mo_vanish [.inr (some a0)] M (fun r M1 => mm_X M M1 → r = none ∧ K none M1)) ∧ (¬ 60 ≤ y2 → mm_k M a0 = 9 ∧ ∃ a5 : Nat, (mm_p M a0 21) = some a5 ∧ mm_k M a5 = 101 ∧ ∃ j8 : Nat, ((60 * y1) + y2) = nI j8 ∧ j8 < 2147483648 ∧ j8 < mm_l M a5 ∧ (¬ (mm_i M a5 j8) = 0 → ∃ a12 : Nat, (mm_p M a0 6) = some a12 ∧ mm_k M a12 = 100 ∧ ∃ j15 : Nat, y2 = nI j15 ∧ j15 < 2147483648 ∧ j15 < mm_l M a12 ∧ ((mm_i M a12 j15) ≤ 0 → ∃ j19 : Nat, (480 + y2) = nI j19 ∧ j19 < 2147483648 ∧ j19 < mm_l M a5 ∧ ∃ a23 : Nat, (mm_p (mm_si M a5 j19 0) a0 21) = some a23 ∧ mm_k (mm_si M a5 j19 0) a23 = 101 ∧ ∃ j26 : Nat, ((60 * y1) + y2) = nI j26 ∧ j26 < 2147483648 ∧ j26 < mm_l (mm_si M a5 j19 0) a23 ∧ mm_Z l G Y_Mo_die K M0 bc bs 134 [some (.inr (some a0)), some (.inl y1), some (.inl (y2 + 1)), none] [] (mm_si (mm_si M a5 j19 0) a23 j26 0)) ∧ (¬ (mm_i M a12 j15) ≤ 0 → ∃ j30 : Nat, y2 = nI j30 ∧ j30 < 2147483648 ∧ j30 < mm_l M a12 ∧ ((mm_i M a12 j30) = 9 → ∃ j34 : Nat, (480 + y2) = nI j34 ∧ j34 < 2147483648 ∧ j34 < mm_l M a5 ∧ ∃ a38 : Nat, (mm_p (mm_si M a5 j34 0) a0 21) = some a38 ∧ mm_k (mm_si M a5 j34 0) a38 = 101 ∧ ∃ j41 : Nat, ((60 * y1) + y2) = nI j41 ∧ j41 < 2147483648 ∧ j41 < mm_l (mm_si M a5 j34 0) a38 ∧ mm_Z l G Y_Mo_die K M0 bc bs 134 [some (.inr (some a0)), some (.inl y1), some (.inl (y2 + 1)), none] [] (mm_si (mm_si M a5 j34 0) a38 j41 0)) ∧ (¬ (mm_i M a12 j30) = 9 → ∃ j45 : Nat, (480 + y2) = nI j45 ∧ j45 < 2147483648 ∧ j45 < mm_l M a5 ∧ ∃ a49 : Nat, (mm_p (mm_si M a5 j45 1) a0 21) = some a49 ∧ mm_k (mm_si M a5 j45 1) a49 = 101 ∧ ∃ j52 : Nat, ((60 * y1) + y2) = nI j52 ∧ j52 < 2147483648 ∧ j52 < mm_l (mm_si M a5 j45 1) a49 ∧ mm_Z l G Y_Mo_die K M0 bc bs 134 [some (.inr (some a0)), some (.inl y1), some (.inl (y2 + 1)), none] [] (mm_si (mm_si M a5 j45 1) a49 j52 0)))) ∧ ((mm_i M a5 j8) = 0 → ∃ j56 : Nat, (480 + y2) = nI j56 ∧ j56 < 2147483648 ∧ j56 < mm_l M a5 ∧ ((mm_i M a5 j56) = 0 → ∃ j60 : Nat, (480 + y2) = nI j60 ∧ j60 < 2147483648 ∧ j60 < mm_l M a5 ∧ ∃ a64 : Nat, (mm_p (mm_si M a5 j60 0) a0 21) = some a64 ∧ mm_k (mm_si M a5 j60 0) a64 = 101 ∧ ∃ j67 : Nat, ((60 * y1) + y2) = nI j67 ∧ j67 < 2147483648 ∧ j67 < mm_l (mm_si M a5 j60 0) a64 ∧ mm_Z l G Y_Mo_die K M0 bc bs 134 [some (.inr (some a0)), some (.inl y1), some (.inl (y2 + 1)), none] [] (mm_si (mm_si M a5 j60 0) a64 j67 0)) ∧ (¬ (mm_i M a5 j56) = 0 → ∃ a71 : Nat, (mm_p M a0 6) = some a71 ∧ mm_k M a71 = 100 ∧ ∃ j74 : Nat, y2 = nI j74 ∧ j74 < 2147483648 ∧ j74 < mm_l M a71 ∧ ((mm_i M a71 j74) ≤ 0 → ∃ j78 : Nat, (480 + y2) = nI j78 ∧ j78 < 2147483648 ∧ j78 < mm_l M a5 ∧ ∃ a82 : Nat, (mm_p (mm_si M a5 j78 0) a0 21) = some a82 ∧ mm_k (mm_si M a5 j78 0) a82 = 101 ∧ ∃ j85 : Nat, ((60 * y1) + y2) = nI j85 ∧ j85 < 2147483648 ∧ j85 < mm_l (mm_si M a5 j78 0) a82 ∧ mm_Z l G Y_Mo_die K M0 bc bs 134 [some (.inr (some a0)), some (.inl y1), some (.inl (y2 + 1)), none] [] (mm_si (mm_si M a5 j78 0) a82 j85 0)) ∧ (¬ (mm_i M a71 j74) ≤ 0 → ∃ j89 : Nat, y2 = nI j89 ∧ j89 < 2147483648 ∧ j89 < mm_l M a71 ∧ ((mm_i M a71 j89) = 9 → ∃ j93 : Nat, (480 + y2) = nI j93 ∧ j93 < 2147483648 ∧ j93 < mm_l M a5 ∧ ∃ a97 : Nat, (mm_p (mm_si M a5 j93 0) a0 21) = some a97 ∧ mm_k (mm_si M a5 j93 0) a97 = 101 ∧ ∃ j100 : Nat, ((60 * y1) + y2) = nI j100 ∧ j100 < 2147483648 ∧ j100 < mm_l (mm_si M a5 j93 0) a97 ∧ mm_Z l G Y_Mo_die K M0 bc bs 134 [some (.inr (some a0)), some (.inl y1), some (.inl (y2 + 1)), none] [] (mm_si (mm_si M a5 j93 0) a97 j100 0)) ∧ (¬ (mm_i M a71 j89) = 9 → ∃ j104 : Nat, (480 + y2) = nI j104 ∧ j104 < 2147483648 ∧ j104 < mm_l M a5 ∧ ∃ a108 : Nat, (mm_p (mm_si M a5 j104 1) a0 21) = some a108 ∧ mm_k (mm_si M a5 j104 1) a108 = 101 ∧ ∃ j111 : Nat, ((60 * y1) + y2) = nI j111 ∧ j111 < 2147483648 ∧ j111 < mm_l (mm_si M a5 j104 1) a108 ∧ mm_Z l G Y_Mo_die K M0 bc bs 134 [some (.inr (some a0)), some (.inl y1), some (.inl (y2 + 1)), none] [] (mm_si (mm_si M a5 j104 1) a108 j111 0))))))) :
    mm_Z l G Y_Mo_die K M0 bc bs 134 [some (.inr (some a0)), some (.inl y1), some (.inl y2), none] [] M := by
  refine mr_iload_n dd_Mo_die_134 rfl ?_
  refine mr_bipush 60 dd_Mo_die_135 (by decide) ?_
  refine mr_icmp_ge 230 dd_Mo_die_137 (by decide) (fun hc137 => ?_) (fun hc137 => ?_)
  · have h := h.1 hc137
    refine mr_aload_n dd_Mo_die_230 rfl ?_
    obtain ⟨hk3, h⟩ := h
    refine mr_callV0 (Yc := Y_Mo_vanish) (M := M) (st := []) (vs := []) (ci := 8) fc_Mo_115 iv_Mo_vanish sv_Mo_vanish dd_Mo_die_231 ⟨Nat.le_of_ble_eq_true rfl, Nat.le_of_ble_eq_true rfl⟩ (by decide) rfl rfl (Nat.le_of_ble_eq_true rfl) rfl hk3 rfl rfl h (fun r M1 hX2 h => ?_)
    replace h := h hX2
    obtain ⟨rfl, h⟩ := h
    show mm_Z l G Y_Mo_die K M0 bc bs 234 [some (.inr (some a0)), some (.inl y1), some (.inl y2), none] [] M1
    exact mr_return dd_Mo_die_234 rfl h
  · have h := h.2 hc137
    refine mr_aload_n dd_Mo_die_140 rfl ?_
    obtain ⟨hk4, h⟩ := h
    refine mr_getr ff_Mo_65 dd_Mo_die_141 rs_8_21 rfl hk4 ?_
    refine mr_bipush 60 dd_Mo_die_144 (by decide) ?_
    refine mr_iload_n dd_Mo_die_146 rfl ?_
    refine mr_imul dd_Mo_die_147 ?_
    refine mr_iload_n dd_Mo_die_148 rfl ?_
    refine mr_iadd dd_Mo_die_149 ?_
    obtain ⟨a5, ho6, h⟩ := h
    obtain ⟨hk7, h⟩ := h
    obtain ⟨j8, hj9, hm10, hl11, h⟩ := h
    refine mr_zald dd_Mo_die_150 ho6 hk7 hj9 hm10 hl11 ?_
    refine mr_if_ne 167 dd_Mo_die_151 (by decide) (fun hc151 => ?_) (fun hc151 => ?_)
    · have h := h.1 hc151
      refine mr_iconst 1 dd_Mo_die_167 (by decide) ?_
      refine mr_goto 172 dd_Mo_die_168 (by decide) ?_
      refine mr_istore_n dd_Mo_die_172 (by decide) ?_
      show mm_Z l G Y_Mo_die K M0 bc bs 173 [some (.inr (some a0)), some (.inl y1), some (.inl y2), some (.inl 1)] [] M
      refine mr_aload_n dd_Mo_die_173 rfl ?_
      refine mr_getr ff_Mo_65 dd_Mo_die_174 rs_8_21 rfl hk4 ?_
      refine mr_sipush 480 dd_Mo_die_177 (by decide) ?_
      refine mr_iload_n dd_Mo_die_180 rfl ?_
      refine mr_iadd dd_Mo_die_181 ?_
      refine mr_iload_n dd_Mo_die_182 rfl ?_
      refine mr_if_eq 210 dd_Mo_die_183 (by decide) (fun q => absurd q (by decide)) (fun _ => ?_)
      refine mr_aload_n dd_Mo_die_186 rfl ?_
      refine mr_getr ff_Mo_26 dd_Mo_die_187 rs_8_6 rfl hk4 ?_
      refine mr_iload_n dd_Mo_die_190 rfl ?_
      obtain ⟨a12, ho13, h⟩ := h
      obtain ⟨hk14, h⟩ := h
      obtain ⟨j15, hj16, hm17, hl18, h⟩ := h
      refine mr_iald dd_Mo_die_191 ho13 hk14 hj16 hm17 hl18 ?_
      refine mr_if_le 210 dd_Mo_die_192 (by decide) (fun hc192 => ?_) (fun hc192 => ?_)
      · have h := h.1 hc192
        refine mr_iconst 0 dd_Mo_die_210 (by decide) ?_
        obtain ⟨j19, hj20, hm21, hl22, h⟩ := h
        refine mr_zast dd_Mo_die_211 ho6 hk7 hj20 hm21 hl22 (Or.inl rfl) ?_
        refine mr_aload_n dd_Mo_die_212 rfl ?_
        refine mr_getr ff_Mo_65 dd_Mo_die_213 rs_8_21 rfl hk4 ?_
        refine mr_bipush 60 dd_Mo_die_216 (by decide) ?_
        refine mr_iload_n dd_Mo_die_218 rfl ?_
        refine mr_imul dd_Mo_die_219 ?_
        refine mr_iload_n dd_Mo_die_220 rfl ?_
        refine mr_iadd dd_Mo_die_221 ?_
        refine mr_iconst 0 dd_Mo_die_222 (by decide) ?_
        obtain ⟨a23, ho24, h⟩ := h
        obtain ⟨hk25, h⟩ := h
        obtain ⟨j26, hj27, hm28, hl29, h⟩ := h
        refine mr_zast dd_Mo_die_223 ho24 hk25 hj27 hm28 hl29 (Or.inl rfl) ?_
        refine mr_iinc 1 dd_Mo_die_224 rfl (by decide) (by decide) ?_
        show mm_Z l G Y_Mo_die K M0 bc bs 227 [some (.inr (some a0)), some (.inl y1), some (.inl (y2 + 1)), some (.inl 1)] [] (mm_si (mm_si M a5 j19 0) a23 j26 0)
        refine mr_goto 134 dd_Mo_die_227 (by decide) ?_
        exact mm_fg (mm_leq (mm_le_s (mm_le_s (mm_le_s (mm_le_n mm_le_e))))) h
      · have h := h.2 hc192
        refine mr_aload_n dd_Mo_die_195 rfl ?_
        refine mr_getr ff_Mo_26 dd_Mo_die_196 rs_8_6 rfl hk4 ?_
        refine mr_iload_n dd_Mo_die_199 rfl ?_
        obtain ⟨j30, hj31, hm32, hl33, h⟩ := h
        refine mr_iald dd_Mo_die_200 ho13 hk14 hj31 hm32 hl33 ?_
        refine mr_bipush 9 dd_Mo_die_201 (by decide) ?_
        refine mr_icmp_eq 210 dd_Mo_die_203 (by decide) (fun hc203 => ?_) (fun hc203 => ?_)
        · have h := h.1 hc203
          refine mr_iconst 0 dd_Mo_die_210 (by decide) ?_
          obtain ⟨j34, hj35, hm36, hl37, h⟩ := h
          refine mr_zast dd_Mo_die_211 ho6 hk7 hj35 hm36 hl37 (Or.inl rfl) ?_
          refine mr_aload_n dd_Mo_die_212 rfl ?_
          refine mr_getr ff_Mo_65 dd_Mo_die_213 rs_8_21 rfl hk4 ?_
          refine mr_bipush 60 dd_Mo_die_216 (by decide) ?_
          refine mr_iload_n dd_Mo_die_218 rfl ?_
          refine mr_imul dd_Mo_die_219 ?_
          refine mr_iload_n dd_Mo_die_220 rfl ?_
          refine mr_iadd dd_Mo_die_221 ?_
          refine mr_iconst 0 dd_Mo_die_222 (by decide) ?_
          obtain ⟨a38, ho39, h⟩ := h
          obtain ⟨hk40, h⟩ := h
          obtain ⟨j41, hj42, hm43, hl44, h⟩ := h
          refine mr_zast dd_Mo_die_223 ho39 hk40 hj42 hm43 hl44 (Or.inl rfl) ?_
          refine mr_iinc 1 dd_Mo_die_224 rfl (by decide) (by decide) ?_
          show mm_Z l G Y_Mo_die K M0 bc bs 227 [some (.inr (some a0)), some (.inl y1), some (.inl (y2 + 1)), some (.inl 1)] [] (mm_si (mm_si M a5 j34 0) a38 j41 0)
          refine mr_goto 134 dd_Mo_die_227 (by decide) ?_
          exact mm_fg (mm_leq (mm_le_s (mm_le_s (mm_le_s (mm_le_n mm_le_e))))) h
        · have h := h.2 hc203
          refine mr_iconst 1 dd_Mo_die_206 (by decide) ?_
          refine mr_goto 211 dd_Mo_die_207 (by decide) ?_
          obtain ⟨j45, hj46, hm47, hl48, h⟩ := h
          refine mr_zast dd_Mo_die_211 ho6 hk7 hj46 hm47 hl48 (Or.inr rfl) ?_
          refine mr_aload_n dd_Mo_die_212 rfl ?_
          refine mr_getr ff_Mo_65 dd_Mo_die_213 rs_8_21 rfl hk4 ?_
          refine mr_bipush 60 dd_Mo_die_216 (by decide) ?_
          refine mr_iload_n dd_Mo_die_218 rfl ?_
          refine mr_imul dd_Mo_die_219 ?_
          refine mr_iload_n dd_Mo_die_220 rfl ?_
          refine mr_iadd dd_Mo_die_221 ?_
          refine mr_iconst 0 dd_Mo_die_222 (by decide) ?_
          obtain ⟨a49, ho50, h⟩ := h
          obtain ⟨hk51, h⟩ := h
          obtain ⟨j52, hj53, hm54, hl55, h⟩ := h
          refine mr_zast dd_Mo_die_223 ho50 hk51 hj53 hm54 hl55 (Or.inl rfl) ?_
          refine mr_iinc 1 dd_Mo_die_224 rfl (by decide) (by decide) ?_
          show mm_Z l G Y_Mo_die K M0 bc bs 227 [some (.inr (some a0)), some (.inl y1), some (.inl (y2 + 1)), some (.inl 1)] [] (mm_si (mm_si M a5 j45 1) a49 j52 0)
          refine mr_goto 134 dd_Mo_die_227 (by decide) ?_
          exact mm_fg (mm_leq (mm_le_s (mm_le_s (mm_le_s (mm_le_n mm_le_e))))) h
    · have h := h.2 hc151
      refine mr_aload_n dd_Mo_die_154 rfl ?_
      refine mr_getr ff_Mo_65 dd_Mo_die_155 rs_8_21 rfl hk4 ?_
      refine mr_sipush 480 dd_Mo_die_158 (by decide) ?_
      refine mr_iload_n dd_Mo_die_161 rfl ?_
      refine mr_iadd dd_Mo_die_162 ?_
      obtain ⟨j56, hj57, hm58, hl59, h⟩ := h
      refine mr_zald dd_Mo_die_163 ho6 hk7 hj57 hm58 hl59 ?_
      refine mr_if_eq 171 dd_Mo_die_164 (by decide) (fun hc164 => ?_) (fun hc164 => ?_)
      · have h := h.1 hc164
        refine mr_iconst 0 dd_Mo_die_171 (by decide) ?_
        refine mr_istore_n dd_Mo_die_172 (by decide) ?_
        show mm_Z l G Y_Mo_die K M0 bc bs 173 [some (.inr (some a0)), some (.inl y1), some (.inl y2), some (.inl 0)] [] M
        refine mr_aload_n dd_Mo_die_173 rfl ?_
        refine mr_getr ff_Mo_65 dd_Mo_die_174 rs_8_21 rfl hk4 ?_
        refine mr_sipush 480 dd_Mo_die_177 (by decide) ?_
        refine mr_iload_n dd_Mo_die_180 rfl ?_
        refine mr_iadd dd_Mo_die_181 ?_
        refine mr_iload_n dd_Mo_die_182 rfl ?_
        refine mr_if_eq 210 dd_Mo_die_183 (by decide) (fun _ => ?_) (fun q => absurd q (by decide))
        refine mr_iconst 0 dd_Mo_die_210 (by decide) ?_
        obtain ⟨j60, hj61, hm62, hl63, h⟩ := h
        refine mr_zast dd_Mo_die_211 ho6 hk7 hj61 hm62 hl63 (Or.inl rfl) ?_
        refine mr_aload_n dd_Mo_die_212 rfl ?_
        refine mr_getr ff_Mo_65 dd_Mo_die_213 rs_8_21 rfl hk4 ?_
        refine mr_bipush 60 dd_Mo_die_216 (by decide) ?_
        refine mr_iload_n dd_Mo_die_218 rfl ?_
        refine mr_imul dd_Mo_die_219 ?_
        refine mr_iload_n dd_Mo_die_220 rfl ?_
        refine mr_iadd dd_Mo_die_221 ?_
        refine mr_iconst 0 dd_Mo_die_222 (by decide) ?_
        obtain ⟨a64, ho65, h⟩ := h
        obtain ⟨hk66, h⟩ := h
        obtain ⟨j67, hj68, hm69, hl70, h⟩ := h
        refine mr_zast dd_Mo_die_223 ho65 hk66 hj68 hm69 hl70 (Or.inl rfl) ?_
        refine mr_iinc 1 dd_Mo_die_224 rfl (by decide) (by decide) ?_
        show mm_Z l G Y_Mo_die K M0 bc bs 227 [some (.inr (some a0)), some (.inl y1), some (.inl (y2 + 1)), some (.inl 0)] [] (mm_si (mm_si M a5 j60 0) a64 j67 0)
        refine mr_goto 134 dd_Mo_die_227 (by decide) ?_
        exact mm_fg (mm_leq (mm_le_s (mm_le_s (mm_le_s (mm_le_n mm_le_e))))) h
      · have h := h.2 hc164
        refine mr_iconst 1 dd_Mo_die_167 (by decide) ?_
        refine mr_goto 172 dd_Mo_die_168 (by decide) ?_
        refine mr_istore_n dd_Mo_die_172 (by decide) ?_
        show mm_Z l G Y_Mo_die K M0 bc bs 173 [some (.inr (some a0)), some (.inl y1), some (.inl y2), some (.inl 1)] [] M
        refine mr_aload_n dd_Mo_die_173 rfl ?_
        refine mr_getr ff_Mo_65 dd_Mo_die_174 rs_8_21 rfl hk4 ?_
        refine mr_sipush 480 dd_Mo_die_177 (by decide) ?_
        refine mr_iload_n dd_Mo_die_180 rfl ?_
        refine mr_iadd dd_Mo_die_181 ?_
        refine mr_iload_n dd_Mo_die_182 rfl ?_
        refine mr_if_eq 210 dd_Mo_die_183 (by decide) (fun q => absurd q (by decide)) (fun _ => ?_)
        refine mr_aload_n dd_Mo_die_186 rfl ?_
        refine mr_getr ff_Mo_26 dd_Mo_die_187 rs_8_6 rfl hk4 ?_
        refine mr_iload_n dd_Mo_die_190 rfl ?_
        obtain ⟨a71, ho72, h⟩ := h
        obtain ⟨hk73, h⟩ := h
        obtain ⟨j74, hj75, hm76, hl77, h⟩ := h
        refine mr_iald dd_Mo_die_191 ho72 hk73 hj75 hm76 hl77 ?_
        refine mr_if_le 210 dd_Mo_die_192 (by decide) (fun hc192 => ?_) (fun hc192 => ?_)
        · have h := h.1 hc192
          refine mr_iconst 0 dd_Mo_die_210 (by decide) ?_
          obtain ⟨j78, hj79, hm80, hl81, h⟩ := h
          refine mr_zast dd_Mo_die_211 ho6 hk7 hj79 hm80 hl81 (Or.inl rfl) ?_
          refine mr_aload_n dd_Mo_die_212 rfl ?_
          refine mr_getr ff_Mo_65 dd_Mo_die_213 rs_8_21 rfl hk4 ?_
          refine mr_bipush 60 dd_Mo_die_216 (by decide) ?_
          refine mr_iload_n dd_Mo_die_218 rfl ?_
          refine mr_imul dd_Mo_die_219 ?_
          refine mr_iload_n dd_Mo_die_220 rfl ?_
          refine mr_iadd dd_Mo_die_221 ?_
          refine mr_iconst 0 dd_Mo_die_222 (by decide) ?_
          obtain ⟨a82, ho83, h⟩ := h
          obtain ⟨hk84, h⟩ := h
          obtain ⟨j85, hj86, hm87, hl88, h⟩ := h
          refine mr_zast dd_Mo_die_223 ho83 hk84 hj86 hm87 hl88 (Or.inl rfl) ?_
          refine mr_iinc 1 dd_Mo_die_224 rfl (by decide) (by decide) ?_
          show mm_Z l G Y_Mo_die K M0 bc bs 227 [some (.inr (some a0)), some (.inl y1), some (.inl (y2 + 1)), some (.inl 1)] [] (mm_si (mm_si M a5 j78 0) a82 j85 0)
          refine mr_goto 134 dd_Mo_die_227 (by decide) ?_
          exact mm_fg (mm_leq (mm_le_s (mm_le_s (mm_le_s (mm_le_n mm_le_e))))) h
        · have h := h.2 hc192
          refine mr_aload_n dd_Mo_die_195 rfl ?_
          refine mr_getr ff_Mo_26 dd_Mo_die_196 rs_8_6 rfl hk4 ?_
          refine mr_iload_n dd_Mo_die_199 rfl ?_
          obtain ⟨j89, hj90, hm91, hl92, h⟩ := h
          refine mr_iald dd_Mo_die_200 ho72 hk73 hj90 hm91 hl92 ?_
          refine mr_bipush 9 dd_Mo_die_201 (by decide) ?_
          refine mr_icmp_eq 210 dd_Mo_die_203 (by decide) (fun hc203 => ?_) (fun hc203 => ?_)
          · have h := h.1 hc203
            refine mr_iconst 0 dd_Mo_die_210 (by decide) ?_
            obtain ⟨j93, hj94, hm95, hl96, h⟩ := h
            refine mr_zast dd_Mo_die_211 ho6 hk7 hj94 hm95 hl96 (Or.inl rfl) ?_
            refine mr_aload_n dd_Mo_die_212 rfl ?_
            refine mr_getr ff_Mo_65 dd_Mo_die_213 rs_8_21 rfl hk4 ?_
            refine mr_bipush 60 dd_Mo_die_216 (by decide) ?_
            refine mr_iload_n dd_Mo_die_218 rfl ?_
            refine mr_imul dd_Mo_die_219 ?_
            refine mr_iload_n dd_Mo_die_220 rfl ?_
            refine mr_iadd dd_Mo_die_221 ?_
            refine mr_iconst 0 dd_Mo_die_222 (by decide) ?_
            obtain ⟨a97, ho98, h⟩ := h
            obtain ⟨hk99, h⟩ := h
            obtain ⟨j100, hj101, hm102, hl103, h⟩ := h
            refine mr_zast dd_Mo_die_223 ho98 hk99 hj101 hm102 hl103 (Or.inl rfl) ?_
            refine mr_iinc 1 dd_Mo_die_224 rfl (by decide) (by decide) ?_
            show mm_Z l G Y_Mo_die K M0 bc bs 227 [some (.inr (some a0)), some (.inl y1), some (.inl (y2 + 1)), some (.inl 1)] [] (mm_si (mm_si M a5 j93 0) a97 j100 0)
            refine mr_goto 134 dd_Mo_die_227 (by decide) ?_
            exact mm_fg (mm_leq (mm_le_s (mm_le_s (mm_le_s (mm_le_n mm_le_e))))) h
          · have h := h.2 hc203
            refine mr_iconst 1 dd_Mo_die_206 (by decide) ?_
            refine mr_goto 211 dd_Mo_die_207 (by decide) ?_
            obtain ⟨j104, hj105, hm106, hl107, h⟩ := h
            refine mr_zast dd_Mo_die_211 ho6 hk7 hj105 hm106 hl107 (Or.inr rfl) ?_
            refine mr_aload_n dd_Mo_die_212 rfl ?_
            refine mr_getr ff_Mo_65 dd_Mo_die_213 rs_8_21 rfl hk4 ?_
            refine mr_bipush 60 dd_Mo_die_216 (by decide) ?_
            refine mr_iload_n dd_Mo_die_218 rfl ?_
            refine mr_imul dd_Mo_die_219 ?_
            refine mr_iload_n dd_Mo_die_220 rfl ?_
            refine mr_iadd dd_Mo_die_221 ?_
            refine mr_iconst 0 dd_Mo_die_222 (by decide) ?_
            obtain ⟨a108, ho109, h⟩ := h
            obtain ⟨hk110, h⟩ := h
            obtain ⟨j111, hj112, hm113, hl114, h⟩ := h
            refine mr_zast dd_Mo_die_223 ho109 hk110 hj112 hm113 hl114 (Or.inl rfl) ?_
            refine mr_iinc 1 dd_Mo_die_224 rfl (by decide) (by decide) ?_
            show mm_Z l G Y_Mo_die K M0 bc bs 227 [some (.inr (some a0)), some (.inl y1), some (.inl (y2 + 1)), some (.inl 1)] [] (mm_si (mm_si M a5 j104 1) a108 j111 0)
            refine mr_goto 134 dd_Mo_die_227 (by decide) ?_
            exact mm_fg (mm_leq (mm_le_s (mm_le_s (mm_le_s (mm_le_n mm_le_e))))) h
set_option maxHeartbeats 4000000 in
set_option maxRecDepth 100000 in
theorem sg_Mo_spawn {l : Launch} {G : mm_G} {K : Option mm_V → mm_M → Prop} {M : mm_M} {a0 : Nat} {xa : Int32} {xb : Int32} {xc : Int32}
    (h : mm_k M a0 = 9 ∧ mm_Ok l G yy_Mo_lives Y_Mo_lives [.inr (some a0), .inl xa] M (fun r M1 => mm_X M M1 → ∃ x4 : Int32, r = some (.inl x4) ∧ (x4 = 0 → K (some (.inl (-1))) M1) ∧ (¬ x4 = 0 → (xb < 1 → K (some (.inl (-1))) M1) ∧ (¬ xb < 1 → (xb ≤ 24 → ((mm_i M1 a0 4) < 8 → (xc = 0 → ∃ a5 : Nat, (mm_p M1 a0 0) = some a5 ∧ mm_k M1 a5 = 100 ∧ ∃ j8 : Nat, (mm_i M1 a0 4) = nI j8 ∧ j8 < 2147483648 ∧ j8 < mm_l M1 a5 ∧ ∃ a12 : Nat, (mm_p (mm_si M1 a5 j8 1) a0 1) = some a12 ∧ mm_k (mm_si M1 a5 j8 1) a12 = 100 ∧ ∃ j15 : Nat, (mm_i (mm_si M1 a5 j8 1) a0 4) = nI j15 ∧ j15 < 2147483648 ∧ j15 < mm_l (mm_si M1 a5 j8 1) a12 ∧ ∃ a19 : Nat, (mm_p (mm_si (mm_si M1 a5 j8 1) a12 j15 xa) a0 2) = some a19 ∧ mm_k (mm_si (mm_si M1 a5 j8 1) a12 j15 xa) a19 = 100 ∧ ∃ j22 : Nat, (mm_i (mm_si (mm_si M1 a5 j8 1) a12 j15 xa) a0 4) = nI j22 ∧ j22 < 2147483648 ∧ j22 < mm_l (mm_si (mm_si M1 a5 j8 1) a12 j15 xa) a19 ∧ ∃ a26 : Nat, (mm_p (mm_si (mm_si (mm_si M1 a5 j8 1) a12 j15 xa) a19 j22 xb) a0 3) = some a26 ∧ mm_k (mm_si (mm_si (mm_si M1 a5 j8 1) a12 j15 xa) a19 j22 xb) a26 = 101 ∧ ∃ j29 : Nat, (mm_i (mm_si (mm_si (mm_si M1 a5 j8 1) a12 j15 xa) a19 j22 xb) a0 4) = nI j29 ∧ j29 < 2147483648 ∧ j29 < mm_l (mm_si (mm_si (mm_si M1 a5 j8 1) a12 j15 xa) a19 j22 xb) a26 ∧ (xc = 0 ∨ xc = 1) ∧ K (some (.inl ((mm_i (mm_si (mm_si (mm_si (mm_si (mm_si M1 a5 j8 1) a12 j15 xa) a19 j22 xb) a26 j29 xc) a0 4 ((mm_i (mm_si (mm_si (mm_si (mm_si M1 a5 j8 1) a12 j15 xa) a19 j22 xb) a26 j29 xc) a0 4) + 1)) a0 4) - 1))) (mm_si (mm_si (mm_si (mm_si (mm_si M1 a5 j8 1) a12 j15 xa) a19 j22 xb) a26 j29 xc) a0 4 ((mm_i (mm_si (mm_si (mm_si (mm_si M1 a5 j8 1) a12 j15 xa) a19 j22 xb) a26 j29 xc) a0 4) + 1))) ∧ (¬ xc = 0 → mm_Ok l G yy_Mo_rest Y_Mo_rest [.inr (some a0), .inl xa] M1 (fun r M34 => mm_X M1 M34 → ∃ x36 : Int32, r = some (.inl x36) ∧ (xb ≤ x36 → ∃ a37 : Nat, (mm_p M34 a0 0) = some a37 ∧ mm_k M34 a37 = 100 ∧ ∃ j40 : Nat, (mm_i M34 a0 4) = nI j40 ∧ j40 < 2147483648 ∧ j40 < mm_l M34 a37 ∧ ∃ a44 : Nat, (mm_p (mm_si M34 a37 j40 1) a0 1) = some a44 ∧ mm_k (mm_si M34 a37 j40 1) a44 = 100 ∧ ∃ j47 : Nat, (mm_i (mm_si M34 a37 j40 1) a0 4) = nI j47 ∧ j47 < 2147483648 ∧ j47 < mm_l (mm_si M34 a37 j40 1) a44 ∧ ∃ a51 : Nat, (mm_p (mm_si (mm_si M34 a37 j40 1) a44 j47 xa) a0 2) = some a51 ∧ mm_k (mm_si (mm_si M34 a37 j40 1) a44 j47 xa) a51 = 100 ∧ ∃ j54 : Nat, (mm_i (mm_si (mm_si M34 a37 j40 1) a44 j47 xa) a0 4) = nI j54 ∧ j54 < 2147483648 ∧ j54 < mm_l (mm_si (mm_si M34 a37 j40 1) a44 j47 xa) a51 ∧ ∃ a58 : Nat, (mm_p (mm_si (mm_si (mm_si M34 a37 j40 1) a44 j47 xa) a51 j54 xb) a0 3) = some a58 ∧ mm_k (mm_si (mm_si (mm_si M34 a37 j40 1) a44 j47 xa) a51 j54 xb) a58 = 101 ∧ ∃ j61 : Nat, (mm_i (mm_si (mm_si (mm_si M34 a37 j40 1) a44 j47 xa) a51 j54 xb) a0 4) = nI j61 ∧ j61 < 2147483648 ∧ j61 < mm_l (mm_si (mm_si (mm_si M34 a37 j40 1) a44 j47 xa) a51 j54 xb) a58 ∧ (xc = 0 ∨ xc = 1) ∧ K (some (.inl ((mm_i (mm_si (mm_si (mm_si (mm_si (mm_si M34 a37 j40 1) a44 j47 xa) a51 j54 xb) a58 j61 xc) a0 4 ((mm_i (mm_si (mm_si (mm_si (mm_si M34 a37 j40 1) a44 j47 xa) a51 j54 xb) a58 j61 xc) a0 4) + 1)) a0 4) - 1))) (mm_si (mm_si (mm_si (mm_si (mm_si M34 a37 j40 1) a44 j47 xa) a51 j54 xb) a58 j61 xc) a0 4 ((mm_i (mm_si (mm_si (mm_si (mm_si M34 a37 j40 1) a44 j47 xa) a51 j54 xb) a58 j61 xc) a0 4) + 1))) ∧ (¬ xb ≤ x36 → K (some (.inl (-5))) M34)))) ∧ (¬ (mm_i M1 a0 4) < 8 → K (some (.inl (-4))) M1)) ∧ (¬ xb ≤ 24 → K (some (.inl (-1))) M1))))) :
    mm_Ok l G yy_Mo_spawn Y_Mo_spawn [.inr (some a0), .inl xa, .inl xb, .inl xc] M K := by
  refine mm_go (by decide) rfl (fun q => by cases q) (Nat.le_of_ble_eq_true rfl) ?_
  show mm_Z l G Y_Mo_spawn K M 0 0 0 [some (.inr (some a0)), some (.inl xa), some (.inl xb), some (.inl xc)] [] M
  refine mr_aload_n dd_Mo_spawn_0 rfl ?_
  refine mr_iload_n dd_Mo_spawn_1 rfl ?_
  obtain ⟨hk3, h⟩ := h
  refine mr_callV0 (Yc := Y_Mo_lives) (M := M) (st := []) (vs := [.inl xa]) (ci := 8) fc_Mo_89 iv_Mo_lives sv_Mo_lives dd_Mo_spawn_2 ⟨Nat.le_of_ble_eq_true rfl, Nat.le_of_ble_eq_true rfl⟩ (by decide) rfl rfl (Nat.le_of_ble_eq_true rfl) rfl hk3 rfl rfl h (fun r M1 hX2 h => ?_)
  replace h := h hX2
  obtain ⟨x4, rfl, h⟩ := h
  show mm_Z l G Y_Mo_spawn K M 0 0 5 [some (.inr (some a0)), some (.inl xa), some (.inl xb), some (.inl xc)] [.inl x4] M1
  refine mr_if_eq 19 dd_Mo_spawn_5 (by decide) (fun hc5 => ?_) (fun hc5 => ?_)
  · have h := h.1 hc5
    refine mr_iconst (-1) dd_Mo_spawn_19 (by decide) ?_
    exact mr_ireturn dd_Mo_spawn_20 rfl h
  · have h := h.2 hc5
    refine mr_iload_n dd_Mo_spawn_8 rfl ?_
    refine mr_iconst 1 dd_Mo_spawn_9 (by decide) ?_
    refine mr_icmp_lt 19 dd_Mo_spawn_10 (by decide) (fun hc10 => ?_) (fun hc10 => ?_)
    · have h := h.1 hc10
      refine mr_iconst (-1) dd_Mo_spawn_19 (by decide) ?_
      exact mr_ireturn dd_Mo_spawn_20 rfl h
    · have h := h.2 hc10
      refine mr_iload_n dd_Mo_spawn_13 rfl ?_
      refine mr_bipush 24 dd_Mo_spawn_14 (by decide) ?_
      refine mr_icmp_le 21 dd_Mo_spawn_16 (by decide) (fun hc16 => ?_) (fun hc16 => ?_)
      · have h := h.1 hc16
        refine mr_aload_n dd_Mo_spawn_21 rfl ?_
        refine mr_geti ff_Mo_77 dd_Mo_spawn_22 rs_8_4 rfl (mm_Xk hX2 hk3 (by decide)) ?_
        refine mr_bipush 8 dd_Mo_spawn_25 (by decide) ?_
        refine mr_icmp_lt 33 dd_Mo_spawn_27 (by decide) (fun hc27 => ?_) (fun hc27 => ?_)
        · have h := h.1 hc27
          refine mr_iload_n dd_Mo_spawn_33 rfl ?_
          refine mr_if_eq 49 dd_Mo_spawn_34 (by decide) (fun hc34 => ?_) (fun hc34 => ?_)
          · have h := h.1 hc34
            refine mr_aload_n dd_Mo_spawn_49 rfl ?_
            refine mr_getr ff_Mo_7 dd_Mo_spawn_50 rs_8_0 rfl (mm_Xk hX2 hk3 (by decide)) ?_
            refine mr_aload_n dd_Mo_spawn_53 rfl ?_
            refine mr_geti ff_Mo_77 dd_Mo_spawn_54 rs_8_4 rfl (mm_Xk hX2 hk3 (by decide)) ?_
            refine mr_iconst 1 dd_Mo_spawn_57 (by decide) ?_
            obtain ⟨a5, ho6, h⟩ := h
            obtain ⟨hk7, h⟩ := h
            obtain ⟨j8, hj9, hm10, hl11, h⟩ := h
            refine mr_iast dd_Mo_spawn_58 ho6 hk7 hj9 hm10 hl11 ?_
            refine mr_aload_n dd_Mo_spawn_59 rfl ?_
            refine mr_getr ff_Mo_13 dd_Mo_spawn_60 rs_8_1 rfl (mm_Xk hX2 hk3 (by decide)) ?_
            refine mr_aload_n dd_Mo_spawn_63 rfl ?_
            refine mr_geti ff_Mo_77 dd_Mo_spawn_64 rs_8_4 rfl (mm_Xk hX2 hk3 (by decide)) ?_
            refine mr_iload_n dd_Mo_spawn_67 rfl ?_
            obtain ⟨a12, ho13, h⟩ := h
            obtain ⟨hk14, h⟩ := h
            obtain ⟨j15, hj16, hm17, hl18, h⟩ := h
            refine mr_iast dd_Mo_spawn_68 ho13 hk14 hj16 hm17 hl18 ?_
            refine mr_aload_n dd_Mo_spawn_69 rfl ?_
            refine mr_getr ff_Mo_16 dd_Mo_spawn_70 rs_8_2 rfl (mm_Xk hX2 hk3 (by decide)) ?_
            refine mr_aload_n dd_Mo_spawn_73 rfl ?_
            refine mr_geti ff_Mo_77 dd_Mo_spawn_74 rs_8_4 rfl (mm_Xk hX2 hk3 (by decide)) ?_
            refine mr_iload_n dd_Mo_spawn_77 rfl ?_
            obtain ⟨a19, ho20, h⟩ := h
            obtain ⟨hk21, h⟩ := h
            obtain ⟨j22, hj23, hm24, hl25, h⟩ := h
            refine mr_iast dd_Mo_spawn_78 ho20 hk21 hj23 hm24 hl25 ?_
            refine mr_aload_n dd_Mo_spawn_79 rfl ?_
            refine mr_getr ff_Mo_19 dd_Mo_spawn_80 rs_8_3 rfl (mm_Xk hX2 hk3 (by decide)) ?_
            refine mr_aload_n dd_Mo_spawn_83 rfl ?_
            refine mr_geti ff_Mo_77 dd_Mo_spawn_84 rs_8_4 rfl (mm_Xk hX2 hk3 (by decide)) ?_
            refine mr_iload_n dd_Mo_spawn_87 rfl ?_
            obtain ⟨a26, ho27, h⟩ := h
            obtain ⟨hk28, h⟩ := h
            obtain ⟨j29, hj30, hm31, hl32, h⟩ := h
            obtain ⟨hz33, h⟩ := h
            refine mr_zast dd_Mo_spawn_88 ho27 hk28 hj30 hm31 hl32 hz33 ?_
            refine mr_aload_n dd_Mo_spawn_89 rfl ?_
            refine mr_dup dd_Mo_spawn_90 ?_
            refine mr_geti ff_Mo_77 dd_Mo_spawn_91 rs_8_4 rfl (mm_Xk hX2 hk3 (by decide)) ?_
            refine mr_iconst 1 dd_Mo_spawn_94 (by decide) ?_
            refine mr_iadd dd_Mo_spawn_95 ?_
            refine mr_puti ff_Mo_77 fp_8 (Or.inl rfl) dd_Mo_spawn_96 (Or.inl (by decide +kernel)) rs_8_4 rfl (mm_Xk hX2 hk3 (by decide)) ?_
            refine mr_aload_n dd_Mo_spawn_99 rfl ?_
            refine mr_geti ff_Mo_77 dd_Mo_spawn_100 rs_8_4 rfl (mm_Xk hX2 hk3 (by decide)) ?_
            refine mr_iconst 1 dd_Mo_spawn_103 (by decide) ?_
            refine mr_isub dd_Mo_spawn_104 ?_
            exact mr_ireturn dd_Mo_spawn_105 rfl h
          · have h := h.2 hc34
            refine mr_aload_n dd_Mo_spawn_37 rfl ?_
            refine mr_iload_n dd_Mo_spawn_38 rfl ?_
            refine mr_callV0 (Yc := Y_Mo_rest) (M := M1) (st := []) (vs := [.inl xa]) (ci := 8) fc_Mo_124 iv_Mo_rest sv_Mo_rest dd_Mo_spawn_39 ⟨Nat.le_of_ble_eq_true rfl, Nat.le_of_ble_eq_true rfl⟩ (by decide) rfl rfl (Nat.le_of_ble_eq_true rfl) rfl (mm_Xk hX2 hk3 (by decide)) rfl rfl h (fun r M34 hX35 h => ?_)
            replace h := h hX35
            obtain ⟨x36, rfl, h⟩ := h
            show mm_Z l G Y_Mo_spawn K M 0 0 42 [some (.inr (some a0)), some (.inl xa), some (.inl xb), some (.inl xc)] [.inl x36] M34
            refine mr_iload_n dd_Mo_spawn_42 rfl ?_
            refine mr_icmp_ge 49 dd_Mo_spawn_43 (by decide) (fun hc43 => ?_) (fun hc43 => ?_)
            · have h := h.1 hc43
              refine mr_aload_n dd_Mo_spawn_49 rfl ?_
              refine mr_getr ff_Mo_7 dd_Mo_spawn_50 rs_8_0 rfl (mm_Xk hX35 (mm_Xk hX2 hk3 (by decide)) (by decide)) ?_
              refine mr_aload_n dd_Mo_spawn_53 rfl ?_
              refine mr_geti ff_Mo_77 dd_Mo_spawn_54 rs_8_4 rfl (mm_Xk hX35 (mm_Xk hX2 hk3 (by decide)) (by decide)) ?_
              refine mr_iconst 1 dd_Mo_spawn_57 (by decide) ?_
              obtain ⟨a37, ho38, h⟩ := h
              obtain ⟨hk39, h⟩ := h
              obtain ⟨j40, hj41, hm42, hl43, h⟩ := h
              refine mr_iast dd_Mo_spawn_58 ho38 hk39 hj41 hm42 hl43 ?_
              refine mr_aload_n dd_Mo_spawn_59 rfl ?_
              refine mr_getr ff_Mo_13 dd_Mo_spawn_60 rs_8_1 rfl (mm_Xk hX35 (mm_Xk hX2 hk3 (by decide)) (by decide)) ?_
              refine mr_aload_n dd_Mo_spawn_63 rfl ?_
              refine mr_geti ff_Mo_77 dd_Mo_spawn_64 rs_8_4 rfl (mm_Xk hX35 (mm_Xk hX2 hk3 (by decide)) (by decide)) ?_
              refine mr_iload_n dd_Mo_spawn_67 rfl ?_
              obtain ⟨a44, ho45, h⟩ := h
              obtain ⟨hk46, h⟩ := h
              obtain ⟨j47, hj48, hm49, hl50, h⟩ := h
              refine mr_iast dd_Mo_spawn_68 ho45 hk46 hj48 hm49 hl50 ?_
              refine mr_aload_n dd_Mo_spawn_69 rfl ?_
              refine mr_getr ff_Mo_16 dd_Mo_spawn_70 rs_8_2 rfl (mm_Xk hX35 (mm_Xk hX2 hk3 (by decide)) (by decide)) ?_
              refine mr_aload_n dd_Mo_spawn_73 rfl ?_
              refine mr_geti ff_Mo_77 dd_Mo_spawn_74 rs_8_4 rfl (mm_Xk hX35 (mm_Xk hX2 hk3 (by decide)) (by decide)) ?_
              refine mr_iload_n dd_Mo_spawn_77 rfl ?_
              obtain ⟨a51, ho52, h⟩ := h
              obtain ⟨hk53, h⟩ := h
              obtain ⟨j54, hj55, hm56, hl57, h⟩ := h
              refine mr_iast dd_Mo_spawn_78 ho52 hk53 hj55 hm56 hl57 ?_
              refine mr_aload_n dd_Mo_spawn_79 rfl ?_
              refine mr_getr ff_Mo_19 dd_Mo_spawn_80 rs_8_3 rfl (mm_Xk hX35 (mm_Xk hX2 hk3 (by decide)) (by decide)) ?_
              refine mr_aload_n dd_Mo_spawn_83 rfl ?_
              refine mr_geti ff_Mo_77 dd_Mo_spawn_84 rs_8_4 rfl (mm_Xk hX35 (mm_Xk hX2 hk3 (by decide)) (by decide)) ?_
              refine mr_iload_n dd_Mo_spawn_87 rfl ?_
              obtain ⟨a58, ho59, h⟩ := h
              obtain ⟨hk60, h⟩ := h
              obtain ⟨j61, hj62, hm63, hl64, h⟩ := h
              obtain ⟨hz65, h⟩ := h
              refine mr_zast dd_Mo_spawn_88 ho59 hk60 hj62 hm63 hl64 hz65 ?_
              refine mr_aload_n dd_Mo_spawn_89 rfl ?_
              refine mr_dup dd_Mo_spawn_90 ?_
              refine mr_geti ff_Mo_77 dd_Mo_spawn_91 rs_8_4 rfl (mm_Xk hX35 (mm_Xk hX2 hk3 (by decide)) (by decide)) ?_
              refine mr_iconst 1 dd_Mo_spawn_94 (by decide) ?_
              refine mr_iadd dd_Mo_spawn_95 ?_
              refine mr_puti ff_Mo_77 fp_8 (Or.inl rfl) dd_Mo_spawn_96 (Or.inl (by decide +kernel)) rs_8_4 rfl (mm_Xk hX35 (mm_Xk hX2 hk3 (by decide)) (by decide)) ?_
              refine mr_aload_n dd_Mo_spawn_99 rfl ?_
              refine mr_geti ff_Mo_77 dd_Mo_spawn_100 rs_8_4 rfl (mm_Xk hX35 (mm_Xk hX2 hk3 (by decide)) (by decide)) ?_
              refine mr_iconst 1 dd_Mo_spawn_103 (by decide) ?_
              refine mr_isub dd_Mo_spawn_104 ?_
              exact mr_ireturn dd_Mo_spawn_105 rfl h
            · have h := h.2 hc43
              refine mr_bipush (-5) dd_Mo_spawn_46 (by decide) ?_
              exact mr_ireturn dd_Mo_spawn_48 rfl h
        · have h := h.2 hc27
          refine mr_bipush (-4) dd_Mo_spawn_30 (by decide) ?_
          exact mr_ireturn dd_Mo_spawn_32 rfl h
      · have h := h.2 hc16
        refine mr_iconst (-1) dd_Mo_spawn_19 (by decide) ?_
        exact mr_ireturn dd_Mo_spawn_20 rfl h
set_option maxHeartbeats 4000000 in
set_option maxRecDepth 100000 in
theorem sg_Mo_make {l : Launch} {G : mm_G} {K : Option mm_V → mm_M → Prop} {M : mm_M} {a0 : Nat} {xa : Int32} {xb : Int32} {xc : Int32} {xd : Int32}
    (h : mm_k M a0 = 9 ∧ mm_Ok l G yy_Mo_lives Y_Mo_lives [.inr (some a0), .inl xa] M (fun r M1 => mm_X M M1 → ∃ x4 : Int32, r = some (.inl x4) ∧ (x4 = 0 → K (some (.inl (-1))) M1) ∧ (¬ x4 = 0 → mm_Ok l G yy_Mo_isRegister Y_Mo_isRegister [.inl xb] M1 (fun r M5 => mm_X M1 M5 → ∃ x7 : Int32, r = some (.inl x7) ∧ (x7 = 0 → K (some (.inl (-1))) M5) ∧ (¬ x7 = 0 → (xc < 1 → K (some (.inl (-1))) M5) ∧ (¬ xc < 1 → (xc ≤ 16 → mm_Z l G Y_Mo_make K M 0 0 31 [some (.inr (some a0)), some (.inl xa), some (.inl xb), some (.inl xc), some (.inl xd), some (.inl 0), none, none, none, none, none] [] M5) ∧ (¬ xc ≤ 16 → K (some (.inl (-1))) M5))))))) :
    mm_Ok l G yy_Mo_make Y_Mo_make [.inr (some a0), .inl xa, .inl xb, .inl xc, .inl xd] M K := by
  refine mm_go (by decide) rfl (fun q => by cases q) (Nat.le_of_ble_eq_true rfl) ?_
  show mm_Z l G Y_Mo_make K M 0 0 0 [some (.inr (some a0)), some (.inl xa), some (.inl xb), some (.inl xc), some (.inl xd), none, none, none, none, none, none] [] M
  refine mr_aload_n dd_Mo_make_0 rfl ?_
  refine mr_iload_n dd_Mo_make_1 rfl ?_
  obtain ⟨hk3, h⟩ := h
  refine mr_callV0 (Yc := Y_Mo_lives) (M := M) (st := []) (vs := [.inl xa]) (ci := 8) fc_Mo_89 iv_Mo_lives sv_Mo_lives dd_Mo_make_2 ⟨Nat.le_of_ble_eq_true rfl, Nat.le_of_ble_eq_true rfl⟩ (by decide) rfl rfl (Nat.le_of_ble_eq_true rfl) rfl hk3 rfl rfl h (fun r M1 hX2 h => ?_)
  replace h := h hX2
  obtain ⟨x4, rfl, h⟩ := h
  show mm_Z l G Y_Mo_make K M 0 0 5 [some (.inr (some a0)), some (.inl xa), some (.inl xb), some (.inl xc), some (.inl xd), none, none, none, none, none, none] [.inl x4] M1
  refine mr_if_eq 26 dd_Mo_make_5 (by decide) (fun hc5 => ?_) (fun hc5 => ?_)
  · have h := h.1 hc5
    refine mr_iconst (-1) dd_Mo_make_26 (by decide) ?_
    exact mr_ireturn dd_Mo_make_27 rfl h
  · have h := h.2 hc5
    refine mr_iload_n dd_Mo_make_8 rfl ?_
    refine mr_callS0 (Yc := Y_Mo_isRegister) (M := M1) (st := []) (vs := [.inl xb]) fc_Mo_134 si_Mo_isRegister dd_Mo_make_9 ⟨Nat.le_of_ble_eq_true rfl, Nat.le_of_ble_eq_true rfl⟩ rfl (Nat.le_of_ble_eq_true rfl) rfl rfl h (fun r M5 hX6 h => ?_)
    replace h := h hX6
    obtain ⟨x7, rfl, h⟩ := h
    show mm_Z l G Y_Mo_make K M 0 0 12 [some (.inr (some a0)), some (.inl xa), some (.inl xb), some (.inl xc), some (.inl xd), none, none, none, none, none, none] [.inl x7] M5
    refine mr_if_eq 26 dd_Mo_make_12 (by decide) (fun hc12 => ?_) (fun hc12 => ?_)
    · have h := h.1 hc12
      refine mr_iconst (-1) dd_Mo_make_26 (by decide) ?_
      exact mr_ireturn dd_Mo_make_27 rfl h
    · have h := h.2 hc12
      refine mr_iload_n dd_Mo_make_15 rfl ?_
      refine mr_iconst 1 dd_Mo_make_16 (by decide) ?_
      refine mr_icmp_lt 26 dd_Mo_make_17 (by decide) (fun hc17 => ?_) (fun hc17 => ?_)
      · have h := h.1 hc17
        refine mr_iconst (-1) dd_Mo_make_26 (by decide) ?_
        exact mr_ireturn dd_Mo_make_27 rfl h
      · have h := h.2 hc17
        refine mr_iload_n dd_Mo_make_20 rfl ?_
        refine mr_bipush 16 dd_Mo_make_21 (by decide) ?_
        refine mr_icmp_le 28 dd_Mo_make_23 (by decide) (fun hc23 => ?_) (fun hc23 => ?_)
        · have h := h.1 hc23
          refine mr_iconst 0 dd_Mo_make_28 (by decide) ?_
          refine mr_istore dd_Mo_make_29 (by decide) ?_
          show mm_Z l G Y_Mo_make K M 0 0 31 [some (.inr (some a0)), some (.inl xa), some (.inl xb), some (.inl xc), some (.inl xd), some (.inl 0), none, none, none, none, none] [] M5
          exact h
        · have h := h.2 hc23
          refine mr_iconst (-1) dd_Mo_make_26 (by decide) ?_
          exact mr_ireturn dd_Mo_make_27 rfl h
set_option maxHeartbeats 4000000 in
set_option maxRecDepth 100000 in
theorem sg_Mo_make_31 {l : Launch} {G : mm_G} {K : Option mm_V → mm_M → Prop} {M0 M : mm_M} {bc bs : Nat} {a0 : Nat} {y1 : Int32} {y2 : Int32} {y3 : Int32} {y4 : Int32} {y5 : Int32}
    (h : (60 ≤ y5 → (¬ y5 = 60 → mm_k M a0 = 9 ∧ ∃ a2 : Nat, (mm_p M a0 0) = some a2 ∧ mm_k M a2 = 100 ∧ ∃ j5 : Nat, y1 = nI j5 ∧ j5 < 2147483648 ∧ j5 < mm_l M a2 ∧ ((mm_i M a2 j5) < 2 → mm_Z l G Y_Mo_make K M0 bc bs 97 [some (.inr (some a0)), some (.inl y1), some (.inl y2), some (.inl y3), some (.inl y4), some (.inl y5), some (.inl 0), some (.inl y1), some (.inl 0), none, none] [] M) ∧ (¬ (mm_i M a2 j5) < 2 → mm_Z l G Y_Mo_make K M0 bc bs 97 [some (.inr (some a0)), some (.inl y1), some (.inl y2), some (.inl y3), some (.inl y4), some (.inl y5), some (.inl 1), some (.inl 8), some (.inl 0), none, none] [] M)) ∧ (y5 = 60 → K (some (.inl (-4))) M)) ∧ (¬ 60 ≤ y5 → mm_k M a0 = 9 ∧ ∃ a10 : Nat, (mm_p M a0 6) = some a10 ∧ mm_k M a10 = 100 ∧ ∃ j13 : Nat, y5 = nI j13 ∧ j13 < 2147483648 ∧ j13 < mm_l M a10 ∧ ((mm_i M a10 j13) ≤ 0 → (¬ y5 = 60 → ∃ a17 : Nat, (mm_p M a0 0) = some a17 ∧ mm_k M a17 = 100 ∧ ∃ j20 : Nat, y1 = nI j20 ∧ j20 < 2147483648 ∧ j20 < mm_l M a17 ∧ ((mm_i M a17 j20) < 2 → mm_Z l G Y_Mo_make K M0 bc bs 97 [some (.inr (some a0)), some (.inl y1), some (.inl y2), some (.inl y3), some (.inl y4), some (.inl y5), some (.inl 0), some (.inl y1), some (.inl 0), none, none] [] M) ∧ (¬ (mm_i M a17 j20) < 2 → mm_Z l G Y_Mo_make K M0 bc bs 97 [some (.inr (some a0)), some (.inl y1), some (.inl y2), some (.inl y3), some (.inl y4), some (.inl y5), some (.inl 1), some (.inl 8), some (.inl 0), none, none] [] M)) ∧ (y5 = 60 → K (some (.inl (-4))) M)) ∧ (¬ (mm_i M a10 j13) ≤ 0 → mm_Z l G Y_Mo_make K M0 bc bs 31 [some (.inr (some a0)), some (.inl y1), some (.inl y2), some (.inl y3), some (.inl y4), some (.inl (y5 + 1)), none, none, none, none, none] [] M))) :
    mm_Z l G Y_Mo_make K M0 bc bs 31 [some (.inr (some a0)), some (.inl y1), some (.inl y2), some (.inl y3), some (.inl y4), some (.inl y5), none, none, none, none, none] [] M := by
  refine mr_iload dd_Mo_make_31 rfl ?_
  refine mr_bipush 60 dd_Mo_make_33 (by decide) ?_
  refine mr_icmp_ge 54 dd_Mo_make_35 (by decide) (fun hc35 => ?_) (fun hc35 => ?_)
  · have h := h.1 hc35
    refine mr_iload dd_Mo_make_54 rfl ?_
    refine mr_bipush 60 dd_Mo_make_56 (by decide) ?_
    refine mr_icmp_ne 64 dd_Mo_make_58 (by decide) (fun hc58 => ?_) (fun hc58 => ?_)
    · have h := h.1 hc58
      refine mr_aload_n dd_Mo_make_64 rfl ?_
      obtain ⟨hk1, h⟩ := h
      refine mr_getr ff_Mo_7 dd_Mo_make_65 rs_8_0 rfl hk1 ?_
      refine mr_iload_n dd_Mo_make_68 rfl ?_
      obtain ⟨a2, ho3, h⟩ := h
      obtain ⟨hk4, h⟩ := h
      obtain ⟨j5, hj6, hm7, hl8, h⟩ := h
      refine mr_iald dd_Mo_make_69 ho3 hk4 hj6 hm7 hl8 ?_
      refine mr_iconst 2 dd_Mo_make_70 (by decide) ?_
      refine mr_icmp_lt 78 dd_Mo_make_71 (by decide) (fun hc71 => ?_) (fun hc71 => ?_)
      · have h := h.1 hc71
        refine mr_iconst 0 dd_Mo_make_78 (by decide) ?_
        refine mr_istore dd_Mo_make_79 (by decide) ?_
        show mm_Z l G Y_Mo_make K M0 bc bs 81 [some (.inr (some a0)), some (.inl y1), some (.inl y2), some (.inl y3), some (.inl y4), some (.inl y5), some (.inl 0), none, none, none, none] [] M
        refine mr_iload dd_Mo_make_81 rfl ?_
        refine mr_if_eq 91 dd_Mo_make_83 (by decide) (fun _ => ?_) (fun q => absurd q (by decide))
        refine mr_iload_n dd_Mo_make_91 rfl ?_
        refine mr_istore dd_Mo_make_92 (by decide) ?_
        show mm_Z l G Y_Mo_make K M0 bc bs 94 [some (.inr (some a0)), some (.inl y1), some (.inl y2), some (.inl y3), some (.inl y4), some (.inl y5), some (.inl 0), some (.inl y1), none, none, none] [] M
        refine mr_iconst 0 dd_Mo_make_94 (by decide) ?_
        refine mr_istore dd_Mo_make_95 (by decide) ?_
        show mm_Z l G Y_Mo_make K M0 bc bs 97 [some (.inr (some a0)), some (.inl y1), some (.inl y2), some (.inl y3), some (.inl y4), some (.inl y5), some (.inl 0), some (.inl y1), some (.inl 0), none, none] [] M
        exact h
      · have h := h.2 hc71
        refine mr_iconst 1 dd_Mo_make_74 (by decide) ?_
        refine mr_goto 79 dd_Mo_make_75 (by decide) ?_
        refine mr_istore dd_Mo_make_79 (by decide) ?_
        show mm_Z l G Y_Mo_make K M0 bc bs 81 [some (.inr (some a0)), some (.inl y1), some (.inl y2), some (.inl y3), some (.inl y4), some (.inl y5), some (.inl 1), none, none, none, none] [] M
        refine mr_iload dd_Mo_make_81 rfl ?_
        refine mr_if_eq 91 dd_Mo_make_83 (by decide) (fun q => absurd q (by decide)) (fun _ => ?_)
        refine mr_bipush 8 dd_Mo_make_86 (by decide) ?_
        refine mr_goto 92 dd_Mo_make_88 (by decide) ?_
        refine mr_istore dd_Mo_make_92 (by decide) ?_
        show mm_Z l G Y_Mo_make K M0 bc bs 94 [some (.inr (some a0)), some (.inl y1), some (.inl y2), some (.inl y3), some (.inl y4), some (.inl y5), some (.inl 1), some (.inl 8), none, none, none] [] M
        refine mr_iconst 0 dd_Mo_make_94 (by decide) ?_
        refine mr_istore dd_Mo_make_95 (by decide) ?_
        show mm_Z l G Y_Mo_make K M0 bc bs 97 [some (.inr (some a0)), some (.inl y1), some (.inl y2), some (.inl y3), some (.inl y4), some (.inl y5), some (.inl 1), some (.inl 8), some (.inl 0), none, none] [] M
        exact h
    · have h := h.2 hc58
      refine mr_bipush (-4) dd_Mo_make_61 (by decide) ?_
      exact mr_ireturn dd_Mo_make_63 rfl h
  · have h := h.2 hc35
    refine mr_aload_n dd_Mo_make_38 rfl ?_
    obtain ⟨hk9, h⟩ := h
    refine mr_getr ff_Mo_26 dd_Mo_make_39 rs_8_6 rfl hk9 ?_
    refine mr_iload dd_Mo_make_42 rfl ?_
    obtain ⟨a10, ho11, h⟩ := h
    obtain ⟨hk12, h⟩ := h
    obtain ⟨j13, hj14, hm15, hl16, h⟩ := h
    refine mr_iald dd_Mo_make_44 ho11 hk12 hj14 hm15 hl16 ?_
    refine mr_if_le 54 dd_Mo_make_45 (by decide) (fun hc45 => ?_) (fun hc45 => ?_)
    · have h := h.1 hc45
      refine mr_iload dd_Mo_make_54 rfl ?_
      refine mr_bipush 60 dd_Mo_make_56 (by decide) ?_
      refine mr_icmp_ne 64 dd_Mo_make_58 (by decide) (fun hc58 => ?_) (fun hc58 => ?_)
      · have h := h.1 hc58
        refine mr_aload_n dd_Mo_make_64 rfl ?_
        refine mr_getr ff_Mo_7 dd_Mo_make_65 rs_8_0 rfl hk9 ?_
        refine mr_iload_n dd_Mo_make_68 rfl ?_
        obtain ⟨a17, ho18, h⟩ := h
        obtain ⟨hk19, h⟩ := h
        obtain ⟨j20, hj21, hm22, hl23, h⟩ := h
        refine mr_iald dd_Mo_make_69 ho18 hk19 hj21 hm22 hl23 ?_
        refine mr_iconst 2 dd_Mo_make_70 (by decide) ?_
        refine mr_icmp_lt 78 dd_Mo_make_71 (by decide) (fun hc71 => ?_) (fun hc71 => ?_)
        · have h := h.1 hc71
          refine mr_iconst 0 dd_Mo_make_78 (by decide) ?_
          refine mr_istore dd_Mo_make_79 (by decide) ?_
          show mm_Z l G Y_Mo_make K M0 bc bs 81 [some (.inr (some a0)), some (.inl y1), some (.inl y2), some (.inl y3), some (.inl y4), some (.inl y5), some (.inl 0), none, none, none, none] [] M
          refine mr_iload dd_Mo_make_81 rfl ?_
          refine mr_if_eq 91 dd_Mo_make_83 (by decide) (fun _ => ?_) (fun q => absurd q (by decide))
          refine mr_iload_n dd_Mo_make_91 rfl ?_
          refine mr_istore dd_Mo_make_92 (by decide) ?_
          show mm_Z l G Y_Mo_make K M0 bc bs 94 [some (.inr (some a0)), some (.inl y1), some (.inl y2), some (.inl y3), some (.inl y4), some (.inl y5), some (.inl 0), some (.inl y1), none, none, none] [] M
          refine mr_iconst 0 dd_Mo_make_94 (by decide) ?_
          refine mr_istore dd_Mo_make_95 (by decide) ?_
          show mm_Z l G Y_Mo_make K M0 bc bs 97 [some (.inr (some a0)), some (.inl y1), some (.inl y2), some (.inl y3), some (.inl y4), some (.inl y5), some (.inl 0), some (.inl y1), some (.inl 0), none, none] [] M
          exact h
        · have h := h.2 hc71
          refine mr_iconst 1 dd_Mo_make_74 (by decide) ?_
          refine mr_goto 79 dd_Mo_make_75 (by decide) ?_
          refine mr_istore dd_Mo_make_79 (by decide) ?_
          show mm_Z l G Y_Mo_make K M0 bc bs 81 [some (.inr (some a0)), some (.inl y1), some (.inl y2), some (.inl y3), some (.inl y4), some (.inl y5), some (.inl 1), none, none, none, none] [] M
          refine mr_iload dd_Mo_make_81 rfl ?_
          refine mr_if_eq 91 dd_Mo_make_83 (by decide) (fun q => absurd q (by decide)) (fun _ => ?_)
          refine mr_bipush 8 dd_Mo_make_86 (by decide) ?_
          refine mr_goto 92 dd_Mo_make_88 (by decide) ?_
          refine mr_istore dd_Mo_make_92 (by decide) ?_
          show mm_Z l G Y_Mo_make K M0 bc bs 94 [some (.inr (some a0)), some (.inl y1), some (.inl y2), some (.inl y3), some (.inl y4), some (.inl y5), some (.inl 1), some (.inl 8), none, none, none] [] M
          refine mr_iconst 0 dd_Mo_make_94 (by decide) ?_
          refine mr_istore dd_Mo_make_95 (by decide) ?_
          show mm_Z l G Y_Mo_make K M0 bc bs 97 [some (.inr (some a0)), some (.inl y1), some (.inl y2), some (.inl y3), some (.inl y4), some (.inl y5), some (.inl 1), some (.inl 8), some (.inl 0), none, none] [] M
          exact h
      · have h := h.2 hc58
        refine mr_bipush (-4) dd_Mo_make_61 (by decide) ?_
        exact mr_ireturn dd_Mo_make_63 rfl h
    · have h := h.2 hc45
      refine mr_iinc 1 dd_Mo_make_48 rfl (by decide) (by decide) ?_
      show mm_Z l G Y_Mo_make K M0 bc bs 51 [some (.inr (some a0)), some (.inl y1), some (.inl y2), some (.inl y3), some (.inl y4), some (.inl (y5 + 1)), none, none, none, none, none] [] M
      refine mr_goto 31 dd_Mo_make_51 (by decide) ?_
      exact h
set_option maxHeartbeats 4000000 in
set_option maxRecDepth 100000 in
theorem sg_Mo_make_97 {l : Launch} {G : mm_G} {K : Option mm_V → mm_M → Prop} {M0 M : mm_M} {bc bs : Nat} {a0 : Nat} {y1 : Int32} {y2 : Int32} {y3 : Int32} {y4 : Int32} {y5 : Int32} {y6 : Int32} {y7 : Int32} {y8 : Int32}
    (h : (4 ≤ y8 → (y6 = 0 → mm_k M a0 = 9 ∧ mm_Ok l G yy_Mo_find Y_Mo_find [.inr (some a0), .inl y7, .inl y1, .inl y3] M (fun r M1 => mm_X M M1 → ∃ x4 : Int32, r = some (.inl x4) ∧ (0 ≤ x4 → (0 ≤ x4 → mm_Z l G Y_Mo_make K M0 bc bs 214 [some (.inr (some a0)), some (.inl y1), some (.inl y2), some (.inl y3), some (.inl y4), some (.inl 0), some (.inl y6), some (.inl y7), some (.inl y1), some (.inl x4), none] [] M1) ∧ (¬ 0 ≤ x4 → K (some (.inl (-5))) M1)) ∧ (¬ 0 ≤ x4 → (y6 = 0 → mm_Ok l G yy_Mo_sweep Y_Mo_sweep [.inr (some a0), .inl y1] M1 (fun r M5 => mm_X M1 M5 → ∃ x7 : Int32, r = some (.inl x7) ∧ mm_Ok l G yy_Mo_find Y_Mo_find [.inr (some a0), .inl y7, .inl y1, .inl y3] M5 (fun r M8 => mm_X M5 M8 → ∃ x10 : Int32, r = some (.inl x10) ∧ (0 ≤ x10 → mm_Z l G Y_Mo_make K M0 bc bs 214 [some (.inr (some a0)), some (.inl y1), some (.inl y2), some (.inl y3), some (.inl y4), some (.inl 0), some (.inl y6), some (.inl y7), some (.inl y1), some (.inl x10), none] [] M8) ∧ (¬ 0 ≤ x10 → K (some (.inl (-5))) M8)))) ∧ (¬ y6 = 0 → mm_Ok l G yy_Mo_sweep Y_Mo_sweep [.inr (some a0), .inl 8] M1 (fun r M11 => mm_X M1 M11 → ∃ x13 : Int32, r = some (.inl x13) ∧ mm_Ok l G yy_Mo_find Y_Mo_find [.inr (some a0), .inl y7, .inl y1, .inl y3] M11 (fun r M14 => mm_X M11 M14 → ∃ x16 : Int32, r = some (.inl x16) ∧ (0 ≤ x16 → mm_Z l G Y_Mo_make K M0 bc bs 214 [some (.inr (some a0)), some (.inl y1), some (.inl y2), some (.inl y3), some (.inl y4), some (.inl 0), some (.inl y6), some (.inl y7), some (.inl y1), some (.inl x16), none] [] M14) ∧ (¬ 0 ≤ x16 → K (some (.inl (-5))) M14))))))) ∧ (¬ y6 = 0 → mm_k M a0 = 9 ∧ mm_Ok l G yy_Mo_find Y_Mo_find [.inr (some a0), .inl y7, .inl 0, .inl y3] M (fun r M17 => mm_X M M17 → ∃ x20 : Int32, r = some (.inl x20) ∧ (0 ≤ x20 → (0 ≤ x20 → mm_Z l G Y_Mo_make K M0 bc bs 214 [some (.inr (some a0)), some (.inl y1), some (.inl y2), some (.inl y3), some (.inl y4), some (.inl 0), some (.inl y6), some (.inl y7), some (.inl 0), some (.inl x20), none] [] M17) ∧ (¬ 0 ≤ x20 → K (some (.inl (-5))) M17)) ∧ (¬ 0 ≤ x20 → (y6 = 0 → mm_Ok l G yy_Mo_sweep Y_Mo_sweep [.inr (some a0), .inl y1] M17 (fun r M21 => mm_X M17 M21 → ∃ x23 : Int32, r = some (.inl x23) ∧ mm_Ok l G yy_Mo_find Y_Mo_find [.inr (some a0), .inl y7, .inl 0, .inl y3] M21 (fun r M24 => mm_X M21 M24 → ∃ x26 : Int32, r = some (.inl x26) ∧ (0 ≤ x26 → mm_Z l G Y_Mo_make K M0 bc bs 214 [some (.inr (some a0)), some (.inl y1), some (.inl y2), some (.inl y3), some (.inl y4), some (.inl 0), some (.inl y6), some (.inl y7), some (.inl 0), some (.inl x26), none] [] M24) ∧ (¬ 0 ≤ x26 → K (some (.inl (-5))) M24)))) ∧ (¬ y6 = 0 → mm_Ok l G yy_Mo_sweep Y_Mo_sweep [.inr (some a0), .inl 8] M17 (fun r M27 => mm_X M17 M27 → ∃ x29 : Int32, r = some (.inl x29) ∧ mm_Ok l G yy_Mo_find Y_Mo_find [.inr (some a0), .inl y7, .inl 0, .inl y3] M27 (fun r M30 => mm_X M27 M30 → ∃ x32 : Int32, r = some (.inl x32) ∧ (0 ≤ x32 → mm_Z l G Y_Mo_make K M0 bc bs 214 [some (.inr (some a0)), some (.inl y1), some (.inl y2), some (.inl y3), some (.inl y4), some (.inl 0), some (.inl y6), some (.inl y7), some (.inl 0), some (.inl x32), none] [] M30) ∧ (¬ 0 ≤ x32 → K (some (.inl (-5))) M30)))))))) ∧ (¬ 4 ≤ y8 → (¬ y6 = 0 → mm_Z l G Y_Mo_make K M0 bc bs 97 [some (.inr (some a0)), some (.inl y1), some (.inl y2), some (.inl y3), some (.inl y4), some (.inl y5), some (.inl y6), some (.inl y7), some (.inl (y8 + 1)), none, none] [] M) ∧ (y6 = 0 → mm_k M a0 = 9 ∧ ∃ a34 : Nat, (mm_p M a0 15) = some a34 ∧ mm_k M a34 = 100 ∧ ∃ j37 : Nat, y8 = nI j37 ∧ j37 < 2147483648 ∧ j37 < mm_l M a34 ∧ (¬ (mm_i M a34 j37) = 1 → mm_Z l G Y_Mo_make K M0 bc bs 97 [some (.inr (some a0)), some (.inl y1), some (.inl y2), some (.inl y3), some (.inl y4), some (.inl y5), some (.inl y6), some (.inl y7), some (.inl (y8 + 1)), none, none] [] M) ∧ ((mm_i M a34 j37) = 1 → ∃ a41 : Nat, (mm_p M a0 16) = some a41 ∧ mm_k M a41 = 100 ∧ ∃ j44 : Nat, y8 = nI j44 ∧ j44 < 2147483648 ∧ j44 < mm_l M a41 ∧ (¬ (mm_i M a41 j44) = y1 → mm_Z l G Y_Mo_make K M0 bc bs 97 [some (.inr (some a0)), some (.inl y1), some (.inl y2), some (.inl y3), some (.inl y4), some (.inl y5), some (.inl y6), some (.inl y7), some (.inl (y8 + 1)), none, none] [] M) ∧ ((mm_i M a41 j44) = y1 → mm_Z l G Y_Mo_make K M0 bc bs 97 [some (.inr (some a0)), some (.inl y1), some (.inl y2), some (.inl y3), some (.inl y4), some (.inl y5), some (.inl y6), some (.inl (9 + y8)), some (.inl (y8 + 1)), none, none] [] M))))) :
    mm_Z l G Y_Mo_make K M0 bc bs 97 [some (.inr (some a0)), some (.inl y1), some (.inl y2), some (.inl y3), some (.inl y4), some (.inl y5), some (.inl y6), some (.inl y7), some (.inl y8), none, none] [] M := by
  refine mr_iload dd_Mo_make_97 rfl ?_
  refine mr_iconst 4 dd_Mo_make_99 (by decide) ?_
  refine mr_icmp_ge 148 dd_Mo_make_100 (by decide) (fun hc100 => ?_) (fun hc100 => ?_)
  · have h := h.1 hc100
    refine mr_iload dd_Mo_make_148 rfl ?_
    refine mr_if_eq 157 dd_Mo_make_150 (by decide) (fun hc150 => ?_) (fun hc150 => ?_)
    · have h := h.1 hc150
      refine mr_iload_n dd_Mo_make_157 rfl ?_
      refine mr_istore dd_Mo_make_158 (by decide) ?_
      show mm_Z l G Y_Mo_make K M0 bc bs 160 [some (.inr (some a0)), some (.inl y1), some (.inl y2), some (.inl y3), some (.inl y4), some (.inl y5), some (.inl y6), some (.inl y7), some (.inl y1), none, none] [] M
      refine mr_aload_n dd_Mo_make_160 rfl ?_
      refine mr_iload dd_Mo_make_161 rfl ?_
      refine mr_iload dd_Mo_make_163 rfl ?_
      refine mr_iload_n dd_Mo_make_165 rfl ?_
      obtain ⟨hk3, h⟩ := h
      refine mr_callV0 (Yc := Y_Mo_find) (M := M) (st := []) (vs := [.inl y7, .inl y1, .inl y3]) (ci := 8) fc_Mo_137 iv_Mo_find sv_Mo_find dd_Mo_make_166 ⟨Nat.le_of_ble_eq_true rfl, Nat.le_of_ble_eq_true rfl⟩ (by decide) rfl rfl (Nat.le_of_ble_eq_true rfl) rfl hk3 rfl rfl h (fun r M1 hX2 h => ?_)
      replace h := h hX2
      obtain ⟨x4, rfl, h⟩ := h
      show mm_Z l G Y_Mo_make K M0 bc bs 169 [some (.inr (some a0)), some (.inl y1), some (.inl y2), some (.inl y3), some (.inl y4), some (.inl y5), some (.inl y6), some (.inl y7), some (.inl y1), none, none] [.inl x4] M1
      refine mr_istore dd_Mo_make_169 (by decide) ?_
      show mm_Z l G Y_Mo_make K M0 bc bs 171 [some (.inr (some a0)), some (.inl y1), some (.inl y2), some (.inl y3), some (.inl y4), some (.inl y5), some (.inl y6), some (.inl y7), some (.inl y1), some (.inl x4), none] [] M1
      refine mr_iload dd_Mo_make_171 rfl ?_
      refine mr_if_ge 203 dd_Mo_make_173 (by decide) (fun hc173 => ?_) (fun hc173 => ?_)
      · have h := h.1 hc173
        refine mr_iload dd_Mo_make_203 rfl ?_
        refine mr_if_ge 211 dd_Mo_make_205 (by decide) (fun hc205 => ?_) (fun hc205 => ?_)
        · have h := h.1 hc205
          refine mr_iconst 0 dd_Mo_make_211 (by decide) ?_
          refine mr_istore dd_Mo_make_212 (by decide) ?_
          show mm_Z l G Y_Mo_make K M0 bc bs 214 [some (.inr (some a0)), some (.inl y1), some (.inl y2), some (.inl y3), some (.inl y4), some (.inl 0), some (.inl y6), some (.inl y7), some (.inl y1), some (.inl x4), none] [] M1
          exact h
        · have h := h.2 hc205
          refine mr_bipush (-5) dd_Mo_make_208 (by decide) ?_
          exact mr_ireturn dd_Mo_make_210 rfl h
      · have h := h.2 hc173
        refine mr_aload_n dd_Mo_make_176 rfl ?_
        refine mr_iload dd_Mo_make_177 rfl ?_
        refine mr_if_eq 187 dd_Mo_make_179 (by decide) (fun hc179 => ?_) (fun hc179 => ?_)
        · have h := h.1 hc179
          refine mr_iload_n dd_Mo_make_187 rfl ?_
          refine mr_callV0 (Yc := Y_Mo_sweep) (M := M1) (st := []) (vs := [.inl y1]) (ci := 8) fc_Mo_141 iv_Mo_sweep sv_Mo_sweep dd_Mo_make_188 ⟨Nat.le_of_ble_eq_true rfl, Nat.le_of_ble_eq_true rfl⟩ (by decide) rfl rfl (Nat.le_of_ble_eq_true rfl) rfl (mm_Xk hX2 hk3 (by decide)) rfl rfl h (fun r M5 hX6 h => ?_)
          replace h := h hX6
          obtain ⟨x7, rfl, h⟩ := h
          show mm_Z l G Y_Mo_make K M0 bc bs 191 [some (.inr (some a0)), some (.inl y1), some (.inl y2), some (.inl y3), some (.inl y4), some (.inl y5), some (.inl y6), some (.inl y7), some (.inl y1), some (.inl x4), none] [.inl x7] M5
          refine mr_pop dd_Mo_make_191 ?_
          refine mr_aload_n dd_Mo_make_192 rfl ?_
          refine mr_iload dd_Mo_make_193 rfl ?_
          refine mr_iload dd_Mo_make_195 rfl ?_
          refine mr_iload_n dd_Mo_make_197 rfl ?_
          refine mr_callV0 (Yc := Y_Mo_find) (M := M5) (st := []) (vs := [.inl y7, .inl y1, .inl y3]) (ci := 8) fc_Mo_137 iv_Mo_find sv_Mo_find dd_Mo_make_198 ⟨Nat.le_of_ble_eq_true rfl, Nat.le_of_ble_eq_true rfl⟩ (by decide) rfl rfl (Nat.le_of_ble_eq_true rfl) rfl (mm_Xk hX6 (mm_Xk hX2 hk3 (by decide)) (by decide)) rfl rfl h (fun r M8 hX9 h => ?_)
          replace h := h hX9
          obtain ⟨x10, rfl, h⟩ := h
          show mm_Z l G Y_Mo_make K M0 bc bs 201 [some (.inr (some a0)), some (.inl y1), some (.inl y2), some (.inl y3), some (.inl y4), some (.inl y5), some (.inl y6), some (.inl y7), some (.inl y1), some (.inl x4), none] [.inl x10] M8
          refine mr_istore dd_Mo_make_201 (by decide) ?_
          show mm_Z l G Y_Mo_make K M0 bc bs 203 [some (.inr (some a0)), some (.inl y1), some (.inl y2), some (.inl y3), some (.inl y4), some (.inl y5), some (.inl y6), some (.inl y7), some (.inl y1), some (.inl x10), none] [] M8
          refine mr_iload dd_Mo_make_203 rfl ?_
          refine mr_if_ge 211 dd_Mo_make_205 (by decide) (fun hc205 => ?_) (fun hc205 => ?_)
          · have h := h.1 hc205
            refine mr_iconst 0 dd_Mo_make_211 (by decide) ?_
            refine mr_istore dd_Mo_make_212 (by decide) ?_
            show mm_Z l G Y_Mo_make K M0 bc bs 214 [some (.inr (some a0)), some (.inl y1), some (.inl y2), some (.inl y3), some (.inl y4), some (.inl 0), some (.inl y6), some (.inl y7), some (.inl y1), some (.inl x10), none] [] M8
            exact h
          · have h := h.2 hc205
            refine mr_bipush (-5) dd_Mo_make_208 (by decide) ?_
            exact mr_ireturn dd_Mo_make_210 rfl h
        · have h := h.2 hc179
          refine mr_bipush 8 dd_Mo_make_182 (by decide) ?_
          refine mr_goto 188 dd_Mo_make_184 (by decide) ?_
          refine mr_callV0 (Yc := Y_Mo_sweep) (M := M1) (st := []) (vs := [.inl 8]) (ci := 8) fc_Mo_141 iv_Mo_sweep sv_Mo_sweep dd_Mo_make_188 ⟨Nat.le_of_ble_eq_true rfl, Nat.le_of_ble_eq_true rfl⟩ (by decide) rfl rfl (Nat.le_of_ble_eq_true rfl) rfl (mm_Xk hX2 hk3 (by decide)) rfl rfl h (fun r M11 hX12 h => ?_)
          replace h := h hX12
          obtain ⟨x13, rfl, h⟩ := h
          show mm_Z l G Y_Mo_make K M0 bc bs 191 [some (.inr (some a0)), some (.inl y1), some (.inl y2), some (.inl y3), some (.inl y4), some (.inl y5), some (.inl y6), some (.inl y7), some (.inl y1), some (.inl x4), none] [.inl x13] M11
          refine mr_pop dd_Mo_make_191 ?_
          refine mr_aload_n dd_Mo_make_192 rfl ?_
          refine mr_iload dd_Mo_make_193 rfl ?_
          refine mr_iload dd_Mo_make_195 rfl ?_
          refine mr_iload_n dd_Mo_make_197 rfl ?_
          refine mr_callV0 (Yc := Y_Mo_find) (M := M11) (st := []) (vs := [.inl y7, .inl y1, .inl y3]) (ci := 8) fc_Mo_137 iv_Mo_find sv_Mo_find dd_Mo_make_198 ⟨Nat.le_of_ble_eq_true rfl, Nat.le_of_ble_eq_true rfl⟩ (by decide) rfl rfl (Nat.le_of_ble_eq_true rfl) rfl (mm_Xk hX12 (mm_Xk hX2 hk3 (by decide)) (by decide)) rfl rfl h (fun r M14 hX15 h => ?_)
          replace h := h hX15
          obtain ⟨x16, rfl, h⟩ := h
          show mm_Z l G Y_Mo_make K M0 bc bs 201 [some (.inr (some a0)), some (.inl y1), some (.inl y2), some (.inl y3), some (.inl y4), some (.inl y5), some (.inl y6), some (.inl y7), some (.inl y1), some (.inl x4), none] [.inl x16] M14
          refine mr_istore dd_Mo_make_201 (by decide) ?_
          show mm_Z l G Y_Mo_make K M0 bc bs 203 [some (.inr (some a0)), some (.inl y1), some (.inl y2), some (.inl y3), some (.inl y4), some (.inl y5), some (.inl y6), some (.inl y7), some (.inl y1), some (.inl x16), none] [] M14
          refine mr_iload dd_Mo_make_203 rfl ?_
          refine mr_if_ge 211 dd_Mo_make_205 (by decide) (fun hc205 => ?_) (fun hc205 => ?_)
          · have h := h.1 hc205
            refine mr_iconst 0 dd_Mo_make_211 (by decide) ?_
            refine mr_istore dd_Mo_make_212 (by decide) ?_
            show mm_Z l G Y_Mo_make K M0 bc bs 214 [some (.inr (some a0)), some (.inl y1), some (.inl y2), some (.inl y3), some (.inl y4), some (.inl 0), some (.inl y6), some (.inl y7), some (.inl y1), some (.inl x16), none] [] M14
            exact h
          · have h := h.2 hc205
            refine mr_bipush (-5) dd_Mo_make_208 (by decide) ?_
            exact mr_ireturn dd_Mo_make_210 rfl h
    · have h := h.2 hc150
      refine mr_iconst 0 dd_Mo_make_153 (by decide) ?_
      refine mr_goto 158 dd_Mo_make_154 (by decide) ?_
      refine mr_istore dd_Mo_make_158 (by decide) ?_
      show mm_Z l G Y_Mo_make K M0 bc bs 160 [some (.inr (some a0)), some (.inl y1), some (.inl y2), some (.inl y3), some (.inl y4), some (.inl y5), some (.inl y6), some (.inl y7), some (.inl 0), none, none] [] M
      refine mr_aload_n dd_Mo_make_160 rfl ?_
      refine mr_iload dd_Mo_make_161 rfl ?_
      refine mr_iload dd_Mo_make_163 rfl ?_
      refine mr_iload_n dd_Mo_make_165 rfl ?_
      obtain ⟨hk19, h⟩ := h
      refine mr_callV0 (Yc := Y_Mo_find) (M := M) (st := []) (vs := [.inl y7, .inl 0, .inl y3]) (ci := 8) fc_Mo_137 iv_Mo_find sv_Mo_find dd_Mo_make_166 ⟨Nat.le_of_ble_eq_true rfl, Nat.le_of_ble_eq_true rfl⟩ (by decide) rfl rfl (Nat.le_of_ble_eq_true rfl) rfl hk19 rfl rfl h (fun r M17 hX18 h => ?_)
      replace h := h hX18
      obtain ⟨x20, rfl, h⟩ := h
      show mm_Z l G Y_Mo_make K M0 bc bs 169 [some (.inr (some a0)), some (.inl y1), some (.inl y2), some (.inl y3), some (.inl y4), some (.inl y5), some (.inl y6), some (.inl y7), some (.inl 0), none, none] [.inl x20] M17
      refine mr_istore dd_Mo_make_169 (by decide) ?_
      show mm_Z l G Y_Mo_make K M0 bc bs 171 [some (.inr (some a0)), some (.inl y1), some (.inl y2), some (.inl y3), some (.inl y4), some (.inl y5), some (.inl y6), some (.inl y7), some (.inl 0), some (.inl x20), none] [] M17
      refine mr_iload dd_Mo_make_171 rfl ?_
      refine mr_if_ge 203 dd_Mo_make_173 (by decide) (fun hc173 => ?_) (fun hc173 => ?_)
      · have h := h.1 hc173
        refine mr_iload dd_Mo_make_203 rfl ?_
        refine mr_if_ge 211 dd_Mo_make_205 (by decide) (fun hc205 => ?_) (fun hc205 => ?_)
        · have h := h.1 hc205
          refine mr_iconst 0 dd_Mo_make_211 (by decide) ?_
          refine mr_istore dd_Mo_make_212 (by decide) ?_
          show mm_Z l G Y_Mo_make K M0 bc bs 214 [some (.inr (some a0)), some (.inl y1), some (.inl y2), some (.inl y3), some (.inl y4), some (.inl 0), some (.inl y6), some (.inl y7), some (.inl 0), some (.inl x20), none] [] M17
          exact h
        · have h := h.2 hc205
          refine mr_bipush (-5) dd_Mo_make_208 (by decide) ?_
          exact mr_ireturn dd_Mo_make_210 rfl h
      · have h := h.2 hc173
        refine mr_aload_n dd_Mo_make_176 rfl ?_
        refine mr_iload dd_Mo_make_177 rfl ?_
        refine mr_if_eq 187 dd_Mo_make_179 (by decide) (fun hc179 => ?_) (fun hc179 => ?_)
        · have h := h.1 hc179
          refine mr_iload_n dd_Mo_make_187 rfl ?_
          refine mr_callV0 (Yc := Y_Mo_sweep) (M := M17) (st := []) (vs := [.inl y1]) (ci := 8) fc_Mo_141 iv_Mo_sweep sv_Mo_sweep dd_Mo_make_188 ⟨Nat.le_of_ble_eq_true rfl, Nat.le_of_ble_eq_true rfl⟩ (by decide) rfl rfl (Nat.le_of_ble_eq_true rfl) rfl (mm_Xk hX18 hk19 (by decide)) rfl rfl h (fun r M21 hX22 h => ?_)
          replace h := h hX22
          obtain ⟨x23, rfl, h⟩ := h
          show mm_Z l G Y_Mo_make K M0 bc bs 191 [some (.inr (some a0)), some (.inl y1), some (.inl y2), some (.inl y3), some (.inl y4), some (.inl y5), some (.inl y6), some (.inl y7), some (.inl 0), some (.inl x20), none] [.inl x23] M21
          refine mr_pop dd_Mo_make_191 ?_
          refine mr_aload_n dd_Mo_make_192 rfl ?_
          refine mr_iload dd_Mo_make_193 rfl ?_
          refine mr_iload dd_Mo_make_195 rfl ?_
          refine mr_iload_n dd_Mo_make_197 rfl ?_
          refine mr_callV0 (Yc := Y_Mo_find) (M := M21) (st := []) (vs := [.inl y7, .inl 0, .inl y3]) (ci := 8) fc_Mo_137 iv_Mo_find sv_Mo_find dd_Mo_make_198 ⟨Nat.le_of_ble_eq_true rfl, Nat.le_of_ble_eq_true rfl⟩ (by decide) rfl rfl (Nat.le_of_ble_eq_true rfl) rfl (mm_Xk hX22 (mm_Xk hX18 hk19 (by decide)) (by decide)) rfl rfl h (fun r M24 hX25 h => ?_)
          replace h := h hX25
          obtain ⟨x26, rfl, h⟩ := h
          show mm_Z l G Y_Mo_make K M0 bc bs 201 [some (.inr (some a0)), some (.inl y1), some (.inl y2), some (.inl y3), some (.inl y4), some (.inl y5), some (.inl y6), some (.inl y7), some (.inl 0), some (.inl x20), none] [.inl x26] M24
          refine mr_istore dd_Mo_make_201 (by decide) ?_
          show mm_Z l G Y_Mo_make K M0 bc bs 203 [some (.inr (some a0)), some (.inl y1), some (.inl y2), some (.inl y3), some (.inl y4), some (.inl y5), some (.inl y6), some (.inl y7), some (.inl 0), some (.inl x26), none] [] M24
          refine mr_iload dd_Mo_make_203 rfl ?_
          refine mr_if_ge 211 dd_Mo_make_205 (by decide) (fun hc205 => ?_) (fun hc205 => ?_)
          · have h := h.1 hc205
            refine mr_iconst 0 dd_Mo_make_211 (by decide) ?_
            refine mr_istore dd_Mo_make_212 (by decide) ?_
            show mm_Z l G Y_Mo_make K M0 bc bs 214 [some (.inr (some a0)), some (.inl y1), some (.inl y2), some (.inl y3), some (.inl y4), some (.inl 0), some (.inl y6), some (.inl y7), some (.inl 0), some (.inl x26), none] [] M24
            exact h
          · have h := h.2 hc205
            refine mr_bipush (-5) dd_Mo_make_208 (by decide) ?_
            exact mr_ireturn dd_Mo_make_210 rfl h
        · have h := h.2 hc179
          refine mr_bipush 8 dd_Mo_make_182 (by decide) ?_
          refine mr_goto 188 dd_Mo_make_184 (by decide) ?_
          refine mr_callV0 (Yc := Y_Mo_sweep) (M := M17) (st := []) (vs := [.inl 8]) (ci := 8) fc_Mo_141 iv_Mo_sweep sv_Mo_sweep dd_Mo_make_188 ⟨Nat.le_of_ble_eq_true rfl, Nat.le_of_ble_eq_true rfl⟩ (by decide) rfl rfl (Nat.le_of_ble_eq_true rfl) rfl (mm_Xk hX18 hk19 (by decide)) rfl rfl h (fun r M27 hX28 h => ?_)
          replace h := h hX28
          obtain ⟨x29, rfl, h⟩ := h
          show mm_Z l G Y_Mo_make K M0 bc bs 191 [some (.inr (some a0)), some (.inl y1), some (.inl y2), some (.inl y3), some (.inl y4), some (.inl y5), some (.inl y6), some (.inl y7), some (.inl 0), some (.inl x20), none] [.inl x29] M27
          refine mr_pop dd_Mo_make_191 ?_
          refine mr_aload_n dd_Mo_make_192 rfl ?_
          refine mr_iload dd_Mo_make_193 rfl ?_
          refine mr_iload dd_Mo_make_195 rfl ?_
          refine mr_iload_n dd_Mo_make_197 rfl ?_
          refine mr_callV0 (Yc := Y_Mo_find) (M := M27) (st := []) (vs := [.inl y7, .inl 0, .inl y3]) (ci := 8) fc_Mo_137 iv_Mo_find sv_Mo_find dd_Mo_make_198 ⟨Nat.le_of_ble_eq_true rfl, Nat.le_of_ble_eq_true rfl⟩ (by decide) rfl rfl (Nat.le_of_ble_eq_true rfl) rfl (mm_Xk hX28 (mm_Xk hX18 hk19 (by decide)) (by decide)) rfl rfl h (fun r M30 hX31 h => ?_)
          replace h := h hX31
          obtain ⟨x32, rfl, h⟩ := h
          show mm_Z l G Y_Mo_make K M0 bc bs 201 [some (.inr (some a0)), some (.inl y1), some (.inl y2), some (.inl y3), some (.inl y4), some (.inl y5), some (.inl y6), some (.inl y7), some (.inl 0), some (.inl x20), none] [.inl x32] M30
          refine mr_istore dd_Mo_make_201 (by decide) ?_
          show mm_Z l G Y_Mo_make K M0 bc bs 203 [some (.inr (some a0)), some (.inl y1), some (.inl y2), some (.inl y3), some (.inl y4), some (.inl y5), some (.inl y6), some (.inl y7), some (.inl 0), some (.inl x32), none] [] M30
          refine mr_iload dd_Mo_make_203 rfl ?_
          refine mr_if_ge 211 dd_Mo_make_205 (by decide) (fun hc205 => ?_) (fun hc205 => ?_)
          · have h := h.1 hc205
            refine mr_iconst 0 dd_Mo_make_211 (by decide) ?_
            refine mr_istore dd_Mo_make_212 (by decide) ?_
            show mm_Z l G Y_Mo_make K M0 bc bs 214 [some (.inr (some a0)), some (.inl y1), some (.inl y2), some (.inl y3), some (.inl y4), some (.inl 0), some (.inl y6), some (.inl y7), some (.inl 0), some (.inl x32), none] [] M30
            exact h
          · have h := h.2 hc205
            refine mr_bipush (-5) dd_Mo_make_208 (by decide) ?_
            exact mr_ireturn dd_Mo_make_210 rfl h
  · have h := h.2 hc100
    refine mr_iload dd_Mo_make_103 rfl ?_
    refine mr_if_ne 138 dd_Mo_make_105 (by decide) (fun hc105 => ?_) (fun hc105 => ?_)
    · have h := h.1 hc105
      refine mr_iload dd_Mo_make_138 rfl ?_
      refine mr_istore dd_Mo_make_140 (by decide) ?_
      show mm_Z l G Y_Mo_make K M0 bc bs 142 [some (.inr (some a0)), some (.inl y1), some (.inl y2), some (.inl y3), some (.inl y4), some (.inl y5), some (.inl y6), some (.inl y7), some (.inl y8), none, none] [] M
      refine mr_iinc 1 dd_Mo_make_142 rfl (by decide) (by decide) ?_
      show mm_Z l G Y_Mo_make K M0 bc bs 145 [some (.inr (some a0)), some (.inl y1), some (.inl y2), some (.inl y3), some (.inl y4), some (.inl y5), some (.inl y6), some (.inl y7), some (.inl (y8 + 1)), none, none] [] M
      refine mr_goto 97 dd_Mo_make_145 (by decide) ?_
      exact h
    · have h := h.2 hc105
      refine mr_aload_n dd_Mo_make_108 rfl ?_
      obtain ⟨hk33, h⟩ := h
      refine mr_getr ff_Mo_50 dd_Mo_make_109 rs_8_15 rfl hk33 ?_
      refine mr_iload dd_Mo_make_112 rfl ?_
      obtain ⟨a34, ho35, h⟩ := h
      obtain ⟨hk36, h⟩ := h
      obtain ⟨j37, hj38, hm39, hl40, h⟩ := h
      refine mr_iald dd_Mo_make_114 ho35 hk36 hj38 hm39 hl40 ?_
      refine mr_iconst 1 dd_Mo_make_115 (by decide) ?_
      refine mr_icmp_ne 138 dd_Mo_make_116 (by decide) (fun hc116 => ?_) (fun hc116 => ?_)
      · have h := h.1 hc116
        refine mr_iload dd_Mo_make_138 rfl ?_
        refine mr_istore dd_Mo_make_140 (by decide) ?_
        show mm_Z l G Y_Mo_make K M0 bc bs 142 [some (.inr (some a0)), some (.inl y1), some (.inl y2), some (.inl y3), some (.inl y4), some (.inl y5), some (.inl y6), some (.inl y7), some (.inl y8), none, none] [] M
        refine mr_iinc 1 dd_Mo_make_142 rfl (by decide) (by decide) ?_
        show mm_Z l G Y_Mo_make K M0 bc bs 145 [some (.inr (some a0)), some (.inl y1), some (.inl y2), some (.inl y3), some (.inl y4), some (.inl y5), some (.inl y6), some (.inl y7), some (.inl (y8 + 1)), none, none] [] M
        refine mr_goto 97 dd_Mo_make_145 (by decide) ?_
        exact h
      · have h := h.2 hc116
        refine mr_aload_n dd_Mo_make_119 rfl ?_
        refine mr_getr ff_Mo_53 dd_Mo_make_120 rs_8_16 rfl hk33 ?_
        refine mr_iload dd_Mo_make_123 rfl ?_
        obtain ⟨a41, ho42, h⟩ := h
        obtain ⟨hk43, h⟩ := h
        obtain ⟨j44, hj45, hm46, hl47, h⟩ := h
        refine mr_iald dd_Mo_make_125 ho42 hk43 hj45 hm46 hl47 ?_
        refine mr_iload_n dd_Mo_make_126 rfl ?_
        refine mr_icmp_ne 138 dd_Mo_make_127 (by decide) (fun hc127 => ?_) (fun hc127 => ?_)
        · have h := h.1 hc127
          refine mr_iload dd_Mo_make_138 rfl ?_
          refine mr_istore dd_Mo_make_140 (by decide) ?_
          show mm_Z l G Y_Mo_make K M0 bc bs 142 [some (.inr (some a0)), some (.inl y1), some (.inl y2), some (.inl y3), some (.inl y4), some (.inl y5), some (.inl y6), some (.inl y7), some (.inl y8), none, none] [] M
          refine mr_iinc 1 dd_Mo_make_142 rfl (by decide) (by decide) ?_
          show mm_Z l G Y_Mo_make K M0 bc bs 145 [some (.inr (some a0)), some (.inl y1), some (.inl y2), some (.inl y3), some (.inl y4), some (.inl y5), some (.inl y6), some (.inl y7), some (.inl (y8 + 1)), none, none] [] M
          refine mr_goto 97 dd_Mo_make_145 (by decide) ?_
          exact h
        · have h := h.2 hc127
          refine mr_bipush 9 dd_Mo_make_130 (by decide) ?_
          refine mr_iload dd_Mo_make_132 rfl ?_
          refine mr_iadd dd_Mo_make_134 ?_
          refine mr_goto 140 dd_Mo_make_135 (by decide) ?_
          refine mr_istore dd_Mo_make_140 (by decide) ?_
          show mm_Z l G Y_Mo_make K M0 bc bs 142 [some (.inr (some a0)), some (.inl y1), some (.inl y2), some (.inl y3), some (.inl y4), some (.inl y5), some (.inl y6), some (.inl (9 + y8)), some (.inl y8), none, none] [] M
          refine mr_iinc 1 dd_Mo_make_142 rfl (by decide) (by decide) ?_
          show mm_Z l G Y_Mo_make K M0 bc bs 145 [some (.inr (some a0)), some (.inl y1), some (.inl y2), some (.inl y3), some (.inl y4), some (.inl y5), some (.inl y6), some (.inl (9 + y8)), some (.inl (y8 + 1)), none, none] [] M
          refine mr_goto 97 dd_Mo_make_145 (by decide) ?_
          exact h
set_option maxHeartbeats 4000000 in
set_option maxRecDepth 100000 in
theorem sg_Mo_make_214 {l : Launch} {G : mm_G} {K : Option mm_V → mm_M → Prop} {M0 M : mm_M} {bc bs : Nat} {a0 : Nat} {y1 : Int32} {y2 : Int32} {y3 : Int32} {y4 : Int32} {y5 : Int32} {y6 : Int32} {y7 : Int32} {y8 : Int32} {y9 : Int32}
    (h : (59 ≤ y5 → mm_k M a0 = 9 ∧ ∃ a2 : Nat, (mm_p M a0 6) = some a2 ∧ mm_k M a2 = 100 ∧ ∃ j5 : Nat, y5 = nI j5 ∧ j5 < 2147483648 ∧ j5 < mm_l M a2 ∧ ∃ a9 : Nat, (mm_p (mm_si M a2 j5 (y7 + 1)) a0 7) = some a9 ∧ mm_k (mm_si M a2 j5 (y7 + 1)) a9 = 100 ∧ ∃ j12 : Nat, y5 = nI j12 ∧ j12 < 2147483648 ∧ j12 < mm_l (mm_si M a2 j5 (y7 + 1)) a9 ∧ ∃ a16 : Nat, (mm_p (mm_si (mm_si M a2 j5 (y7 + 1)) a9 j12 y3) a0 8) = some a16 ∧ mm_k (mm_si (mm_si M a2 j5 (y7 + 1)) a9 j12 y3) a16 = 100 ∧ ∃ j19 : Nat, y5 = nI j19 ∧ j19 < 2147483648 ∧ j19 < mm_l (mm_si (mm_si M a2 j5 (y7 + 1)) a9 j12 y3) a16 ∧ ∃ a23 : Nat, (mm_p (mm_si (mm_si (mm_si M a2 j5 (y7 + 1)) a9 j12 y3) a16 j19 y4) a0 9) = some a23 ∧ mm_k (mm_si (mm_si (mm_si M a2 j5 (y7 + 1)) a9 j12 y3) a16 j19 y4) a23 = 100 ∧ ∃ j26 : Nat, y5 = nI j26 ∧ j26 < 2147483648 ∧ j26 < mm_l (mm_si (mm_si (mm_si M a2 j5 (y7 + 1)) a9 j12 y3) a16 j19 y4) a23 ∧ mm_Z l G Y_Mo_make K M0 bc bs 277 [some (.inr (some a0)), some (.inl y1), some (.inl y2), some (.inl y3), some (.inl y4), some (.inl y5), some (.inl y6), some (.inl y7), some (.inl y8), some (.inl y9), some (.inl 0)] [] (mm_si (mm_si (mm_si (mm_si M a2 j5 (y7 + 1)) a9 j12 y3) a16 j19 y4) a23 j26 y9)) ∧ (¬ 59 ≤ y5 → mm_k M a0 = 9 ∧ ∃ a31 : Nat, (mm_p M a0 6) = some a31 ∧ mm_k M a31 = 100 ∧ ∃ j34 : Nat, y5 = nI j34 ∧ j34 < 2147483648 ∧ j34 < mm_l M a31 ∧ ((mm_i M a31 j34) ≤ 0 → ∃ j38 : Nat, y5 = nI j38 ∧ j38 < 2147483648 ∧ j38 < mm_l M a31 ∧ ∃ a42 : Nat, (mm_p (mm_si M a31 j38 (y7 + 1)) a0 7) = some a42 ∧ mm_k (mm_si M a31 j38 (y7 + 1)) a42 = 100 ∧ ∃ j45 : Nat, y5 = nI j45 ∧ j45 < 2147483648 ∧ j45 < mm_l (mm_si M a31 j38 (y7 + 1)) a42 ∧ ∃ a49 : Nat, (mm_p (mm_si (mm_si M a31 j38 (y7 + 1)) a42 j45 y3) a0 8) = some a49 ∧ mm_k (mm_si (mm_si M a31 j38 (y7 + 1)) a42 j45 y3) a49 = 100 ∧ ∃ j52 : Nat, y5 = nI j52 ∧ j52 < 2147483648 ∧ j52 < mm_l (mm_si (mm_si M a31 j38 (y7 + 1)) a42 j45 y3) a49 ∧ ∃ a56 : Nat, (mm_p (mm_si (mm_si (mm_si M a31 j38 (y7 + 1)) a42 j45 y3) a49 j52 y4) a0 9) = some a56 ∧ mm_k (mm_si (mm_si (mm_si M a31 j38 (y7 + 1)) a42 j45 y3) a49 j52 y4) a56 = 100 ∧ ∃ j59 : Nat, y5 = nI j59 ∧ j59 < 2147483648 ∧ j59 < mm_l (mm_si (mm_si (mm_si M a31 j38 (y7 + 1)) a42 j45 y3) a49 j52 y4) a56 ∧ mm_Z l G Y_Mo_make K M0 bc bs 277 [some (.inr (some a0)), some (.inl y1), some (.inl y2), some (.inl y3), some (.inl y4), some (.inl y5), some (.inl y6), some (.inl y7), some (.inl y8), some (.inl y9), some (.inl 0)] [] (mm_si (mm_si (mm_si (mm_si M a31 j38 (y7 + 1)) a42 j45 y3) a49 j52 y4) a56 j59 y9)) ∧ (¬ (mm_i M a31 j34) ≤ 0 → mm_Z l G Y_Mo_make K M0 bc bs 214 [some (.inr (some a0)), some (.inl y1), some (.inl y2), some (.inl y3), some (.inl y4), some (.inl (y5 + 1)), some (.inl y6), some (.inl y7), some (.inl y8), some (.inl y9), none] [] M))) :
    mm_Z l G Y_Mo_make K M0 bc bs 214 [some (.inr (some a0)), some (.inl y1), some (.inl y2), some (.inl y3), some (.inl y4), some (.inl y5), some (.inl y6), some (.inl y7), some (.inl y8), some (.inl y9), none] [] M := by
  refine mr_iload dd_Mo_make_214 rfl ?_
  refine mr_bipush 59 dd_Mo_make_216 (by decide) ?_
  refine mr_icmp_ge 237 dd_Mo_make_218 (by decide) (fun hc218 => ?_) (fun hc218 => ?_)
  · have h := h.1 hc218
    refine mr_aload_n dd_Mo_make_237 rfl ?_
    obtain ⟨hk1, h⟩ := h
    refine mr_getr ff_Mo_26 dd_Mo_make_238 rs_8_6 rfl hk1 ?_
    refine mr_iload dd_Mo_make_241 rfl ?_
    refine mr_iload dd_Mo_make_243 rfl ?_
    refine mr_iconst 1 dd_Mo_make_245 (by decide) ?_
    refine mr_iadd dd_Mo_make_246 ?_
    obtain ⟨a2, ho3, h⟩ := h
    obtain ⟨hk4, h⟩ := h
    obtain ⟨j5, hj6, hm7, hl8, h⟩ := h
    refine mr_iast dd_Mo_make_247 ho3 hk4 hj6 hm7 hl8 ?_
    refine mr_aload_n dd_Mo_make_248 rfl ?_
    refine mr_getr ff_Mo_29 dd_Mo_make_249 rs_8_7 rfl hk1 ?_
    refine mr_iload dd_Mo_make_252 rfl ?_
    refine mr_iload_n dd_Mo_make_254 rfl ?_
    obtain ⟨a9, ho10, h⟩ := h
    obtain ⟨hk11, h⟩ := h
    obtain ⟨j12, hj13, hm14, hl15, h⟩ := h
    refine mr_iast dd_Mo_make_255 ho10 hk11 hj13 hm14 hl15 ?_
    refine mr_aload_n dd_Mo_make_256 rfl ?_
    refine mr_getr ff_Mo_32 dd_Mo_make_257 rs_8_8 rfl hk1 ?_
    refine mr_iload dd_Mo_make_260 rfl ?_
    refine mr_iload dd_Mo_make_262 rfl ?_
    obtain ⟨a16, ho17, h⟩ := h
    obtain ⟨hk18, h⟩ := h
    obtain ⟨j19, hj20, hm21, hl22, h⟩ := h
    refine mr_iast dd_Mo_make_264 ho17 hk18 hj20 hm21 hl22 ?_
    refine mr_aload_n dd_Mo_make_265 rfl ?_
    refine mr_getr ff_Mo_35 dd_Mo_make_266 rs_8_9 rfl hk1 ?_
    refine mr_iload dd_Mo_make_269 rfl ?_
    refine mr_iload dd_Mo_make_271 rfl ?_
    obtain ⟨a23, ho24, h⟩ := h
    obtain ⟨hk25, h⟩ := h
    obtain ⟨j26, hj27, hm28, hl29, h⟩ := h
    refine mr_iast dd_Mo_make_273 ho24 hk25 hj27 hm28 hl29 ?_
    refine mr_iconst 0 dd_Mo_make_274 (by decide) ?_
    refine mr_istore dd_Mo_make_275 (by decide) ?_
    show mm_Z l G Y_Mo_make K M0 bc bs 277 [some (.inr (some a0)), some (.inl y1), some (.inl y2), some (.inl y3), some (.inl y4), some (.inl y5), some (.inl y6), some (.inl y7), some (.inl y8), some (.inl y9), some (.inl 0)] [] (mm_si (mm_si (mm_si (mm_si M a2 j5 (y7 + 1)) a9 j12 y3) a16 j19 y4) a23 j26 y9)
    exact h
  · have h := h.2 hc218
    refine mr_aload_n dd_Mo_make_221 rfl ?_
    obtain ⟨hk30, h⟩ := h
    refine mr_getr ff_Mo_26 dd_Mo_make_222 rs_8_6 rfl hk30 ?_
    refine mr_iload dd_Mo_make_225 rfl ?_
    obtain ⟨a31, ho32, h⟩ := h
    obtain ⟨hk33, h⟩ := h
    obtain ⟨j34, hj35, hm36, hl37, h⟩ := h
    refine mr_iald dd_Mo_make_227 ho32 hk33 hj35 hm36 hl37 ?_
    refine mr_if_le 237 dd_Mo_make_228 (by decide) (fun hc228 => ?_) (fun hc228 => ?_)
    · have h := h.1 hc228
      refine mr_aload_n dd_Mo_make_237 rfl ?_
      refine mr_getr ff_Mo_26 dd_Mo_make_238 rs_8_6 rfl hk30 ?_
      refine mr_iload dd_Mo_make_241 rfl ?_
      refine mr_iload dd_Mo_make_243 rfl ?_
      refine mr_iconst 1 dd_Mo_make_245 (by decide) ?_
      refine mr_iadd dd_Mo_make_246 ?_
      obtain ⟨j38, hj39, hm40, hl41, h⟩ := h
      refine mr_iast dd_Mo_make_247 ho32 hk33 hj39 hm40 hl41 ?_
      refine mr_aload_n dd_Mo_make_248 rfl ?_
      refine mr_getr ff_Mo_29 dd_Mo_make_249 rs_8_7 rfl hk30 ?_
      refine mr_iload dd_Mo_make_252 rfl ?_
      refine mr_iload_n dd_Mo_make_254 rfl ?_
      obtain ⟨a42, ho43, h⟩ := h
      obtain ⟨hk44, h⟩ := h
      obtain ⟨j45, hj46, hm47, hl48, h⟩ := h
      refine mr_iast dd_Mo_make_255 ho43 hk44 hj46 hm47 hl48 ?_
      refine mr_aload_n dd_Mo_make_256 rfl ?_
      refine mr_getr ff_Mo_32 dd_Mo_make_257 rs_8_8 rfl hk30 ?_
      refine mr_iload dd_Mo_make_260 rfl ?_
      refine mr_iload dd_Mo_make_262 rfl ?_
      obtain ⟨a49, ho50, h⟩ := h
      obtain ⟨hk51, h⟩ := h
      obtain ⟨j52, hj53, hm54, hl55, h⟩ := h
      refine mr_iast dd_Mo_make_264 ho50 hk51 hj53 hm54 hl55 ?_
      refine mr_aload_n dd_Mo_make_265 rfl ?_
      refine mr_getr ff_Mo_35 dd_Mo_make_266 rs_8_9 rfl hk30 ?_
      refine mr_iload dd_Mo_make_269 rfl ?_
      refine mr_iload dd_Mo_make_271 rfl ?_
      obtain ⟨a56, ho57, h⟩ := h
      obtain ⟨hk58, h⟩ := h
      obtain ⟨j59, hj60, hm61, hl62, h⟩ := h
      refine mr_iast dd_Mo_make_273 ho57 hk58 hj60 hm61 hl62 ?_
      refine mr_iconst 0 dd_Mo_make_274 (by decide) ?_
      refine mr_istore dd_Mo_make_275 (by decide) ?_
      show mm_Z l G Y_Mo_make K M0 bc bs 277 [some (.inr (some a0)), some (.inl y1), some (.inl y2), some (.inl y3), some (.inl y4), some (.inl y5), some (.inl y6), some (.inl y7), some (.inl y8), some (.inl y9), some (.inl 0)] [] (mm_si (mm_si (mm_si (mm_si M a31 j38 (y7 + 1)) a42 j45 y3) a49 j52 y4) a56 j59 y9)
      exact h
    · have h := h.2 hc228
      refine mr_iinc 1 dd_Mo_make_231 rfl (by decide) (by decide) ?_
      show mm_Z l G Y_Mo_make K M0 bc bs 234 [some (.inr (some a0)), some (.inl y1), some (.inl y2), some (.inl y3), some (.inl y4), some (.inl (y5 + 1)), some (.inl y6), some (.inl y7), some (.inl y8), some (.inl y9), none] [] M
      refine mr_goto 214 dd_Mo_make_234 (by decide) ?_
      exact h
set_option maxHeartbeats 4000000 in
set_option maxRecDepth 100000 in
theorem sg_Mo_make_277 {l : Launch} {G : mm_G} {K : Option mm_V → mm_M → Prop} {M0 M : mm_M} {bc bs : Nat} {a0 : Nat} {y1 : Int32} {y2 : Int32} {y3 : Int32} {y4 : Int32} {y5 : Int32} {y6 : Int32} {y7 : Int32} {y8 : Int32} {y9 : Int32} {y10 : Int32}
    (h : (3 ≤ y10 → mm_k M a0 = 9 ∧ ∃ a2 : Nat, (mm_p M a0 5) = some a2 ∧ mm_k M a2 = 100 ∧ ∃ j5 : Nat, ((4 * y1) + y2) = nI j5 ∧ j5 < 2147483648 ∧ j5 < mm_l M a2 ∧ K (some (.inl 0)) (mm_si M a2 j5 (y5 + 1))) ∧ (¬ 3 ≤ y10 → mm_k M a0 = 9 ∧ ∃ a10 : Nat, (mm_p M a0 10) = some a10 ∧ mm_k M a10 = 100 ∧ ∃ j13 : Nat, ((3 * y5) + y10) = nI j13 ∧ j13 < 2147483648 ∧ j13 < mm_l M a10 ∧ mm_Z l G Y_Mo_make K M0 bc bs 277 [some (.inr (some a0)), some (.inl y1), some (.inl y2), some (.inl y3), some (.inl y4), some (.inl y5), some (.inl y6), some (.inl y7), some (.inl y8), some (.inl y9), some (.inl (y10 + 1))] [] (mm_si M a10 j13 0))) :
    mm_Z l G Y_Mo_make K M0 bc bs 277 [some (.inr (some a0)), some (.inl y1), some (.inl y2), some (.inl y3), some (.inl y4), some (.inl y5), some (.inl y6), some (.inl y7), some (.inl y8), some (.inl y9), some (.inl y10)] [] M := by
  refine mr_iload dd_Mo_make_277 rfl ?_
  refine mr_iconst 3 dd_Mo_make_279 (by decide) ?_
  refine mr_icmp_ge 302 dd_Mo_make_280 (by decide) (fun hc280 => ?_) (fun hc280 => ?_)
  · have h := h.1 hc280
    refine mr_aload_n dd_Mo_make_302 rfl ?_
    obtain ⟨hk1, h⟩ := h
    refine mr_getr ff_Mo_23 dd_Mo_make_303 rs_8_5 rfl hk1 ?_
    refine mr_iconst 4 dd_Mo_make_306 (by decide) ?_
    refine mr_iload_n dd_Mo_make_307 rfl ?_
    refine mr_imul dd_Mo_make_308 ?_
    refine mr_iload_n dd_Mo_make_309 rfl ?_
    refine mr_iadd dd_Mo_make_310 ?_
    refine mr_iload dd_Mo_make_311 rfl ?_
    refine mr_iconst 1 dd_Mo_make_313 (by decide) ?_
    refine mr_iadd dd_Mo_make_314 ?_
    obtain ⟨a2, ho3, h⟩ := h
    obtain ⟨hk4, h⟩ := h
    obtain ⟨j5, hj6, hm7, hl8, h⟩ := h
    refine mr_iast dd_Mo_make_315 ho3 hk4 hj6 hm7 hl8 ?_
    refine mr_iconst 0 dd_Mo_make_316 (by decide) ?_
    exact mr_ireturn dd_Mo_make_317 rfl h
  · have h := h.2 hc280
    refine mr_aload_n dd_Mo_make_283 rfl ?_
    obtain ⟨hk9, h⟩ := h
    refine mr_getr ff_Mo_38 dd_Mo_make_284 rs_8_10 rfl hk9 ?_
    refine mr_iconst 3 dd_Mo_make_287 (by decide) ?_
    refine mr_iload dd_Mo_make_288 rfl ?_
    refine mr_imul dd_Mo_make_290 ?_
    refine mr_iload dd_Mo_make_291 rfl ?_
    refine mr_iadd dd_Mo_make_293 ?_
    refine mr_iconst 0 dd_Mo_make_294 (by decide) ?_
    obtain ⟨a10, ho11, h⟩ := h
    obtain ⟨hk12, h⟩ := h
    obtain ⟨j13, hj14, hm15, hl16, h⟩ := h
    refine mr_iast dd_Mo_make_295 ho11 hk12 hj14 hm15 hl16 ?_
    refine mr_iinc 1 dd_Mo_make_296 rfl (by decide) (by decide) ?_
    show mm_Z l G Y_Mo_make K M0 bc bs 299 [some (.inr (some a0)), some (.inl y1), some (.inl y2), some (.inl y3), some (.inl y4), some (.inl y5), some (.inl y6), some (.inl y7), some (.inl y8), some (.inl y9), some (.inl (y10 + 1))] [] (mm_si M a10 j13 0)
    refine mr_goto 277 dd_Mo_make_299 (by decide) ?_
    exact h
set_option maxHeartbeats 4000000 in
set_option maxRecDepth 100000 in
theorem sg_Mo_load {l : Launch} {G : mm_G} {K : Option mm_V → mm_M → Prop} {M : mm_M} {a0 : Nat} {xa : Int32} {xb : Int32} {xc : Int32} {xd : Int32}
    (h : mm_k M a0 = 9 ∧ mm_Ok l G yy_Mo_lives Y_Mo_lives [.inr (some a0), .inl xa] M (fun r M1 => mm_X M M1 → ∃ x4 : Int32, r = some (.inl x4) ∧ (x4 = 0 → K (some (.inl (-1))) M1) ∧ (¬ x4 = 0 → mm_Ok l G yy_Mo_isRegister Y_Mo_isRegister [.inl xb] M1 (fun r M5 => mm_X M1 M5 → ∃ x7 : Int32, r = some (.inl x7) ∧ (x7 = 0 → K (some (.inl (-1))) M5) ∧ (¬ x7 = 0 → mm_Ok l G yy_Mo_isRegister Y_Mo_isRegister [.inl xc] M5 (fun r M8 => mm_X M5 M8 → ∃ x10 : Int32, r = some (.inl x10) ∧ (x10 = 0 → K (some (.inl (-1))) M8) ∧ (¬ x10 = 0 → (xd < 0 → K (some (.inl (-1))) M8) ∧ (¬ xd < 0 → (xd ≤ 2 → ∃ a11 : Nat, (mm_p M8 a0 5) = some a11 ∧ mm_k M8 a11 = 100 ∧ ∃ j14 : Nat, ((4 * xa) + xc) = nI j14 ∧ j14 < 2147483648 ∧ j14 < mm_l M8 a11 ∧ (0 ≤ ((mm_i M8 a11 j14) - 1) → ∃ a18 : Nat, (mm_p M8 a0 10) = some a18 ∧ mm_k M8 a18 = 100 ∧ ∃ j21 : Nat, ((3 * ((mm_i M8 a11 j14) - 1)) + xd) = nI j21 ∧ j21 < 2147483648 ∧ j21 < mm_l M8 a18 ∧ (0 ≤ ((mm_i M8 a18 j21) - 1) → ∃ a25 : Nat, (mm_p M8 a0 6) = some a25 ∧ mm_k M8 a25 = 100 ∧ ∃ j28 : Nat, ((mm_i M8 a18 j21) - 1) = nI j28 ∧ j28 < 2147483648 ∧ j28 < mm_l M8 a25 ∧ (8 ≤ ((mm_i M8 a25 j28) - 1) → mm_Ok l G yy_Mo_frozen Y_Mo_frozen [.inr (some a0), .inl ((mm_i M8 a25 j28) - 1)] M8 (fun r M32 => mm_X M8 M32 → ∃ x34 : Int32, r = some (.inl x34) ∧ (x34 = 0 → ∃ a35 : Nat, (mm_p M32 a0 5) = some a35 ∧ mm_k M32 a35 = 100 ∧ ∃ j38 : Nat, ((4 * xa) + xb) = nI j38 ∧ j38 < 2147483648 ∧ j38 < mm_l M32 a35 ∧ K (some (.inl 0)) (mm_si M32 a35 j38 (((mm_i M8 a18 j21) - 1) + 1))) ∧ (¬ x34 = 0 → ∃ a42 : Nat, (mm_p M32 a0 19) = some a42 ∧ mm_k M32 a42 = 101 ∧ ∃ j45 : Nat, (((4 * xa) + ((mm_i M8 a25 j28) - 1)) - 9) = nI j45 ∧ j45 < 2147483648 ∧ j45 < mm_l M32 a42 ∧ (¬ (mm_i M32 a42 j45) = 0 → ∃ a49 : Nat, (mm_p M32 a0 5) = some a49 ∧ mm_k M32 a49 = 100 ∧ ∃ j52 : Nat, ((4 * xa) + xb) = nI j52 ∧ j52 < 2147483648 ∧ j52 < mm_l M32 a49 ∧ K (some (.inl 0)) (mm_si M32 a49 j52 (((mm_i M8 a18 j21) - 1) + 1))) ∧ ((mm_i M32 a42 j45) = 0 → K (some (.inl (-3))) M32)))) ∧ (¬ 8 ≤ ((mm_i M8 a25 j28) - 1) → (¬ ((mm_i M8 a25 j28) - 1) = xa → K (some (.inl (-3))) M8) ∧ (((mm_i M8 a25 j28) - 1) = xa → mm_Ok l G yy_Mo_frozen Y_Mo_frozen [.inr (some a0), .inl ((mm_i M8 a25 j28) - 1)] M8 (fun r M56 => mm_X M8 M56 → ∃ x58 : Int32, r = some (.inl x58) ∧ (x58 = 0 → ∃ a59 : Nat, (mm_p M56 a0 5) = some a59 ∧ mm_k M56 a59 = 100 ∧ ∃ j62 : Nat, ((4 * xa) + xb) = nI j62 ∧ j62 < 2147483648 ∧ j62 < mm_l M56 a59 ∧ K (some (.inl 0)) (mm_si M56 a59 j62 (((mm_i M8 a18 j21) - 1) + 1))) ∧ (¬ x58 = 0 → ∃ a66 : Nat, (mm_p M56 a0 19) = some a66 ∧ mm_k M56 a66 = 101 ∧ ∃ j69 : Nat, (((4 * xa) + ((mm_i M8 a25 j28) - 1)) - 9) = nI j69 ∧ j69 < 2147483648 ∧ j69 < mm_l M56 a66 ∧ (¬ (mm_i M56 a66 j69) = 0 → ∃ a73 : Nat, (mm_p M56 a0 5) = some a73 ∧ mm_k M56 a73 = 100 ∧ ∃ j76 : Nat, ((4 * xa) + xb) = nI j76 ∧ j76 < 2147483648 ∧ j76 < mm_l M56 a73 ∧ K (some (.inl 0)) (mm_si M56 a73 j76 (((mm_i M8 a18 j21) - 1) + 1))) ∧ ((mm_i M56 a66 j69) = 0 → K (some (.inl (-3))) M56)))))) ∧ (¬ 0 ≤ ((mm_i M8 a18 j21) - 1) → (8 ≤ xa → mm_Ok l G yy_Mo_frozen Y_Mo_frozen [.inr (some a0), .inl xa] M8 (fun r M80 => mm_X M8 M80 → ∃ x82 : Int32, r = some (.inl x82) ∧ (x82 = 0 → ∃ a83 : Nat, (mm_p M80 a0 5) = some a83 ∧ mm_k M80 a83 = 100 ∧ ∃ j86 : Nat, ((4 * xa) + xb) = nI j86 ∧ j86 < 2147483648 ∧ j86 < mm_l M80 a83 ∧ K (some (.inl 0)) (mm_si M80 a83 j86 (((mm_i M8 a18 j21) - 1) + 1))) ∧ (¬ x82 = 0 → ∃ a90 : Nat, (mm_p M80 a0 19) = some a90 ∧ mm_k M80 a90 = 101 ∧ ∃ j93 : Nat, (((4 * xa) + xa) - 9) = nI j93 ∧ j93 < 2147483648 ∧ j93 < mm_l M80 a90 ∧ (¬ (mm_i M80 a90 j93) = 0 → ∃ a97 : Nat, (mm_p M80 a0 5) = some a97 ∧ mm_k M80 a97 = 100 ∧ ∃ j100 : Nat, ((4 * xa) + xb) = nI j100 ∧ j100 < 2147483648 ∧ j100 < mm_l M80 a97 ∧ K (some (.inl 0)) (mm_si M80 a97 j100 (((mm_i M8 a18 j21) - 1) + 1))) ∧ ((mm_i M80 a90 j93) = 0 → K (some (.inl (-3))) M80)))) ∧ (¬ 8 ≤ xa → (¬ xa = xa → K (some (.inl (-3))) M8) ∧ (xa = xa → mm_Ok l G yy_Mo_frozen Y_Mo_frozen [.inr (some a0), .inl xa] M8 (fun r M104 => mm_X M8 M104 → ∃ x106 : Int32, r = some (.inl x106) ∧ (x106 = 0 → ∃ a107 : Nat, (mm_p M104 a0 5) = some a107 ∧ mm_k M104 a107 = 100 ∧ ∃ j110 : Nat, ((4 * xa) + xb) = nI j110 ∧ j110 < 2147483648 ∧ j110 < mm_l M104 a107 ∧ K (some (.inl 0)) (mm_si M104 a107 j110 (((mm_i M8 a18 j21) - 1) + 1))) ∧ (¬ x106 = 0 → ∃ a114 : Nat, (mm_p M104 a0 19) = some a114 ∧ mm_k M104 a114 = 101 ∧ ∃ j117 : Nat, (((4 * xa) + xa) - 9) = nI j117 ∧ j117 < 2147483648 ∧ j117 < mm_l M104 a114 ∧ (¬ (mm_i M104 a114 j117) = 0 → ∃ a121 : Nat, (mm_p M104 a0 5) = some a121 ∧ mm_k M104 a121 = 100 ∧ ∃ j124 : Nat, ((4 * xa) + xb) = nI j124 ∧ j124 < 2147483648 ∧ j124 < mm_l M104 a121 ∧ K (some (.inl 0)) (mm_si M104 a121 j124 (((mm_i M8 a18 j21) - 1) + 1))) ∧ ((mm_i M104 a114 j117) = 0 → K (some (.inl (-3))) M104))))))) ∧ (¬ 0 ≤ ((mm_i M8 a11 j14) - 1) → K (some (.inl (-2))) M8)) ∧ (¬ xd ≤ 2 → K (some (.inl (-1))) M8))))))))) :
    mm_Ok l G yy_Mo_load Y_Mo_load [.inr (some a0), .inl xa, .inl xb, .inl xc, .inl xd] M K := by
  refine mm_go (by decide) rfl (fun q => by cases q) (Nat.le_of_ble_eq_true rfl) ?_
  show mm_Z l G Y_Mo_load K M 0 0 0 [some (.inr (some a0)), some (.inl xa), some (.inl xb), some (.inl xc), some (.inl xd), none, none, none] [] M
  refine mr_aload_n dd_Mo_load_0 rfl ?_
  refine mr_iload_n dd_Mo_load_1 rfl ?_
  obtain ⟨hk3, h⟩ := h
  refine mr_callV0 (Yc := Y_Mo_lives) (M := M) (st := []) (vs := [.inl xa]) (ci := 8) fc_Mo_89 iv_Mo_lives sv_Mo_lives dd_Mo_load_2 ⟨Nat.le_of_ble_eq_true rfl, Nat.le_of_ble_eq_true rfl⟩ (by decide) rfl rfl (Nat.le_of_ble_eq_true rfl) rfl hk3 rfl rfl h (fun r M1 hX2 h => ?_)
  replace h := h hX2
  obtain ⟨x4, rfl, h⟩ := h
  show mm_Z l G Y_Mo_load K M 0 0 5 [some (.inr (some a0)), some (.inl xa), some (.inl xb), some (.inl xc), some (.inl xd), none, none, none] [.inl x4] M1
  refine mr_if_eq 33 dd_Mo_load_5 (by decide) (fun hc5 => ?_) (fun hc5 => ?_)
  · have h := h.1 hc5
    refine mr_iconst (-1) dd_Mo_load_33 (by decide) ?_
    exact mr_ireturn dd_Mo_load_34 rfl h
  · have h := h.2 hc5
    refine mr_iload_n dd_Mo_load_8 rfl ?_
    refine mr_callS0 (Yc := Y_Mo_isRegister) (M := M1) (st := []) (vs := [.inl xb]) fc_Mo_134 si_Mo_isRegister dd_Mo_load_9 ⟨Nat.le_of_ble_eq_true rfl, Nat.le_of_ble_eq_true rfl⟩ rfl (Nat.le_of_ble_eq_true rfl) rfl rfl h (fun r M5 hX6 h => ?_)
    replace h := h hX6
    obtain ⟨x7, rfl, h⟩ := h
    show mm_Z l G Y_Mo_load K M 0 0 12 [some (.inr (some a0)), some (.inl xa), some (.inl xb), some (.inl xc), some (.inl xd), none, none, none] [.inl x7] M5
    refine mr_if_eq 33 dd_Mo_load_12 (by decide) (fun hc12 => ?_) (fun hc12 => ?_)
    · have h := h.1 hc12
      refine mr_iconst (-1) dd_Mo_load_33 (by decide) ?_
      exact mr_ireturn dd_Mo_load_34 rfl h
    · have h := h.2 hc12
      refine mr_iload_n dd_Mo_load_15 rfl ?_
      refine mr_callS0 (Yc := Y_Mo_isRegister) (M := M5) (st := []) (vs := [.inl xc]) fc_Mo_134 si_Mo_isRegister dd_Mo_load_16 ⟨Nat.le_of_ble_eq_true rfl, Nat.le_of_ble_eq_true rfl⟩ rfl (Nat.le_of_ble_eq_true rfl) rfl rfl h (fun r M8 hX9 h => ?_)
      replace h := h hX9
      obtain ⟨x10, rfl, h⟩ := h
      show mm_Z l G Y_Mo_load K M 0 0 19 [some (.inr (some a0)), some (.inl xa), some (.inl xb), some (.inl xc), some (.inl xd), none, none, none] [.inl x10] M8
      refine mr_if_eq 33 dd_Mo_load_19 (by decide) (fun hc19 => ?_) (fun hc19 => ?_)
      · have h := h.1 hc19
        refine mr_iconst (-1) dd_Mo_load_33 (by decide) ?_
        exact mr_ireturn dd_Mo_load_34 rfl h
      · have h := h.2 hc19
        refine mr_iload dd_Mo_load_22 rfl ?_
        refine mr_if_lt 33 dd_Mo_load_24 (by decide) (fun hc24 => ?_) (fun hc24 => ?_)
        · have h := h.1 hc24
          refine mr_iconst (-1) dd_Mo_load_33 (by decide) ?_
          exact mr_ireturn dd_Mo_load_34 rfl h
        · have h := h.2 hc24
          refine mr_iload dd_Mo_load_27 rfl ?_
          refine mr_iconst 2 dd_Mo_load_29 (by decide) ?_
          refine mr_icmp_le 35 dd_Mo_load_30 (by decide) (fun hc30 => ?_) (fun hc30 => ?_)
          · have h := h.1 hc30
            refine mr_aload_n dd_Mo_load_35 rfl ?_
            refine mr_getr ff_Mo_23 dd_Mo_load_36 rs_8_5 rfl (mm_Xk hX9 (mm_Xk hX6 (mm_Xk hX2 hk3 (by decide)) (by decide)) (by decide)) ?_
            refine mr_iconst 4 dd_Mo_load_39 (by decide) ?_
            refine mr_iload_n dd_Mo_load_40 rfl ?_
            refine mr_imul dd_Mo_load_41 ?_
            refine mr_iload_n dd_Mo_load_42 rfl ?_
            refine mr_iadd dd_Mo_load_43 ?_
            obtain ⟨a11, ho12, h⟩ := h
            obtain ⟨hk13, h⟩ := h
            obtain ⟨j14, hj15, hm16, hl17, h⟩ := h
            refine mr_iald dd_Mo_load_44 ho12 hk13 hj15 hm16 hl17 ?_
            refine mr_iconst 1 dd_Mo_load_45 (by decide) ?_
            refine mr_isub dd_Mo_load_46 ?_
            refine mr_istore dd_Mo_load_47 (by decide) ?_
            show mm_Z l G Y_Mo_load K M 0 0 49 [some (.inr (some a0)), some (.inl xa), some (.inl xb), some (.inl xc), some (.inl xd), some (.inl ((mm_i M8 a11 j14) - 1)), none, none] [] M8
            refine mr_iload dd_Mo_load_49 rfl ?_
            refine mr_if_ge 57 dd_Mo_load_51 (by decide) (fun hc51 => ?_) (fun hc51 => ?_)
            · have h := h.1 hc51
              refine mr_aload_n dd_Mo_load_57 rfl ?_
              refine mr_getr ff_Mo_38 dd_Mo_load_58 rs_8_10 rfl (mm_Xk hX9 (mm_Xk hX6 (mm_Xk hX2 hk3 (by decide)) (by decide)) (by decide)) ?_
              refine mr_iconst 3 dd_Mo_load_61 (by decide) ?_
              refine mr_iload dd_Mo_load_62 rfl ?_
              refine mr_imul dd_Mo_load_64 ?_
              refine mr_iload dd_Mo_load_65 rfl ?_
              refine mr_iadd dd_Mo_load_67 ?_
              obtain ⟨a18, ho19, h⟩ := h
              obtain ⟨hk20, h⟩ := h
              obtain ⟨j21, hj22, hm23, hl24, h⟩ := h
              refine mr_iald dd_Mo_load_68 ho19 hk20 hj22 hm23 hl24 ?_
              refine mr_iconst 1 dd_Mo_load_69 (by decide) ?_
              refine mr_isub dd_Mo_load_70 ?_
              refine mr_istore dd_Mo_load_71 (by decide) ?_
              show mm_Z l G Y_Mo_load K M 0 0 73 [some (.inr (some a0)), some (.inl xa), some (.inl xb), some (.inl xc), some (.inl xd), some (.inl ((mm_i M8 a11 j14) - 1)), some (.inl ((mm_i M8 a18 j21) - 1)), none] [] M8
              refine mr_iload dd_Mo_load_73 rfl ?_
              refine mr_if_ge 82 dd_Mo_load_75 (by decide) (fun hc75 => ?_) (fun hc75 => ?_)
              · have h := h.1 hc75
                refine mr_aload_n dd_Mo_load_82 rfl ?_
                refine mr_getr ff_Mo_26 dd_Mo_load_83 rs_8_6 rfl (mm_Xk hX9 (mm_Xk hX6 (mm_Xk hX2 hk3 (by decide)) (by decide)) (by decide)) ?_
                refine mr_iload dd_Mo_load_86 rfl ?_
                obtain ⟨a25, ho26, h⟩ := h
                obtain ⟨hk27, h⟩ := h
                obtain ⟨j28, hj29, hm30, hl31, h⟩ := h
                refine mr_iald dd_Mo_load_88 ho26 hk27 hj29 hm30 hl31 ?_
                refine mr_iconst 1 dd_Mo_load_89 (by decide) ?_
                refine mr_isub dd_Mo_load_90 ?_
                refine mr_istore dd_Mo_load_91 (by decide) ?_
                show mm_Z l G Y_Mo_load K M 0 0 93 [some (.inr (some a0)), some (.inl xa), some (.inl xb), some (.inl xc), some (.inl xd), some (.inl ((mm_i M8 a11 j14) - 1)), some (.inl ((mm_i M8 a18 j21) - 1)), some (.inl ((mm_i M8 a25 j28) - 1))] [] M8
                refine mr_iload dd_Mo_load_93 rfl ?_
                refine mr_bipush 8 dd_Mo_load_95 (by decide) ?_
                refine mr_icmp_ge 106 dd_Mo_load_97 (by decide) (fun hc97 => ?_) (fun hc97 => ?_)
                · have h := h.1 hc97
                  refine mr_aload_n dd_Mo_load_106 rfl ?_
                  refine mr_iload dd_Mo_load_107 rfl ?_
                  refine mr_callV0 (Yc := Y_Mo_frozen) (M := M8) (st := []) (vs := [.inl ((mm_i M8 a25 j28) - 1)]) (ci := 8) fc_Mo_81 iv_Mo_frozen sv_Mo_frozen dd_Mo_load_109 ⟨Nat.le_of_ble_eq_true rfl, Nat.le_of_ble_eq_true rfl⟩ (by decide) rfl rfl (Nat.le_of_ble_eq_true rfl) rfl (mm_Xk hX9 (mm_Xk hX6 (mm_Xk hX2 hk3 (by decide)) (by decide)) (by decide)) rfl rfl h (fun r M32 hX33 h => ?_)
                  replace h := h hX33
                  obtain ⟨x34, rfl, h⟩ := h
                  show mm_Z l G Y_Mo_load K M 0 0 112 [some (.inr (some a0)), some (.inl xa), some (.inl xb), some (.inl xc), some (.inl xd), some (.inl ((mm_i M8 a11 j14) - 1)), some (.inl ((mm_i M8 a18 j21) - 1)), some (.inl ((mm_i M8 a25 j28) - 1))] [.inl x34] M32
                  refine mr_if_eq 135 dd_Mo_load_112 (by decide) (fun hc112 => ?_) (fun hc112 => ?_)
                  · have h := h.1 hc112
                    refine mr_aload_n dd_Mo_load_135 rfl ?_
                    refine mr_getr ff_Mo_23 dd_Mo_load_136 rs_8_5 rfl (mm_Xk hX33 (mm_Xk hX9 (mm_Xk hX6 (mm_Xk hX2 hk3 (by decide)) (by decide)) (by decide)) (by decide)) ?_
                    refine mr_iconst 4 dd_Mo_load_139 (by decide) ?_
                    refine mr_iload_n dd_Mo_load_140 rfl ?_
                    refine mr_imul dd_Mo_load_141 ?_
                    refine mr_iload_n dd_Mo_load_142 rfl ?_
                    refine mr_iadd dd_Mo_load_143 ?_
                    refine mr_iload dd_Mo_load_144 rfl ?_
                    refine mr_iconst 1 dd_Mo_load_146 (by decide) ?_
                    refine mr_iadd dd_Mo_load_147 ?_
                    obtain ⟨a35, ho36, h⟩ := h
                    obtain ⟨hk37, h⟩ := h
                    obtain ⟨j38, hj39, hm40, hl41, h⟩ := h
                    refine mr_iast dd_Mo_load_148 ho36 hk37 hj39 hm40 hl41 ?_
                    refine mr_iconst 0 dd_Mo_load_149 (by decide) ?_
                    exact mr_ireturn dd_Mo_load_150 rfl h
                  · have h := h.2 hc112
                    refine mr_aload_n dd_Mo_load_115 rfl ?_
                    refine mr_getr ff_Mo_59 dd_Mo_load_116 rs_8_19 rfl (mm_Xk hX33 (mm_Xk hX9 (mm_Xk hX6 (mm_Xk hX2 hk3 (by decide)) (by decide)) (by decide)) (by decide)) ?_
                    refine mr_iconst 4 dd_Mo_load_119 (by decide) ?_
                    refine mr_iload_n dd_Mo_load_120 rfl ?_
                    refine mr_imul dd_Mo_load_121 ?_
                    refine mr_iload dd_Mo_load_122 rfl ?_
                    refine mr_iadd dd_Mo_load_124 ?_
                    refine mr_bipush 9 dd_Mo_load_125 (by decide) ?_
                    refine mr_isub dd_Mo_load_127 ?_
                    obtain ⟨a42, ho43, h⟩ := h
                    obtain ⟨hk44, h⟩ := h
                    obtain ⟨j45, hj46, hm47, hl48, h⟩ := h
                    refine mr_zald dd_Mo_load_128 ho43 hk44 hj46 hm47 hl48 ?_
                    refine mr_if_ne 135 dd_Mo_load_129 (by decide) (fun hc129 => ?_) (fun hc129 => ?_)
                    · have h := h.1 hc129
                      refine mr_aload_n dd_Mo_load_135 rfl ?_
                      refine mr_getr ff_Mo_23 dd_Mo_load_136 rs_8_5 rfl (mm_Xk hX33 (mm_Xk hX9 (mm_Xk hX6 (mm_Xk hX2 hk3 (by decide)) (by decide)) (by decide)) (by decide)) ?_
                      refine mr_iconst 4 dd_Mo_load_139 (by decide) ?_
                      refine mr_iload_n dd_Mo_load_140 rfl ?_
                      refine mr_imul dd_Mo_load_141 ?_
                      refine mr_iload_n dd_Mo_load_142 rfl ?_
                      refine mr_iadd dd_Mo_load_143 ?_
                      refine mr_iload dd_Mo_load_144 rfl ?_
                      refine mr_iconst 1 dd_Mo_load_146 (by decide) ?_
                      refine mr_iadd dd_Mo_load_147 ?_
                      obtain ⟨a49, ho50, h⟩ := h
                      obtain ⟨hk51, h⟩ := h
                      obtain ⟨j52, hj53, hm54, hl55, h⟩ := h
                      refine mr_iast dd_Mo_load_148 ho50 hk51 hj53 hm54 hl55 ?_
                      refine mr_iconst 0 dd_Mo_load_149 (by decide) ?_
                      exact mr_ireturn dd_Mo_load_150 rfl h
                    · have h := h.2 hc129
                      refine mr_bipush (-3) dd_Mo_load_132 (by decide) ?_
                      exact mr_ireturn dd_Mo_load_134 rfl h
                · have h := h.2 hc97
                  refine mr_iload dd_Mo_load_100 rfl ?_
                  refine mr_iload_n dd_Mo_load_102 rfl ?_
                  refine mr_icmp_ne 132 dd_Mo_load_103 (by decide) (fun hc103 => ?_) (fun hc103 => ?_)
                  · have h := h.1 hc103
                    refine mr_bipush (-3) dd_Mo_load_132 (by decide) ?_
                    exact mr_ireturn dd_Mo_load_134 rfl h
                  · have h := h.2 hc103
                    refine mr_aload_n dd_Mo_load_106 rfl ?_
                    refine mr_iload dd_Mo_load_107 rfl ?_
                    refine mr_callV0 (Yc := Y_Mo_frozen) (M := M8) (st := []) (vs := [.inl ((mm_i M8 a25 j28) - 1)]) (ci := 8) fc_Mo_81 iv_Mo_frozen sv_Mo_frozen dd_Mo_load_109 ⟨Nat.le_of_ble_eq_true rfl, Nat.le_of_ble_eq_true rfl⟩ (by decide) rfl rfl (Nat.le_of_ble_eq_true rfl) rfl (mm_Xk hX9 (mm_Xk hX6 (mm_Xk hX2 hk3 (by decide)) (by decide)) (by decide)) rfl rfl h (fun r M56 hX57 h => ?_)
                    replace h := h hX57
                    obtain ⟨x58, rfl, h⟩ := h
                    show mm_Z l G Y_Mo_load K M 0 0 112 [some (.inr (some a0)), some (.inl xa), some (.inl xb), some (.inl xc), some (.inl xd), some (.inl ((mm_i M8 a11 j14) - 1)), some (.inl ((mm_i M8 a18 j21) - 1)), some (.inl ((mm_i M8 a25 j28) - 1))] [.inl x58] M56
                    refine mr_if_eq 135 dd_Mo_load_112 (by decide) (fun hc112 => ?_) (fun hc112 => ?_)
                    · have h := h.1 hc112
                      refine mr_aload_n dd_Mo_load_135 rfl ?_
                      refine mr_getr ff_Mo_23 dd_Mo_load_136 rs_8_5 rfl (mm_Xk hX57 (mm_Xk hX9 (mm_Xk hX6 (mm_Xk hX2 hk3 (by decide)) (by decide)) (by decide)) (by decide)) ?_
                      refine mr_iconst 4 dd_Mo_load_139 (by decide) ?_
                      refine mr_iload_n dd_Mo_load_140 rfl ?_
                      refine mr_imul dd_Mo_load_141 ?_
                      refine mr_iload_n dd_Mo_load_142 rfl ?_
                      refine mr_iadd dd_Mo_load_143 ?_
                      refine mr_iload dd_Mo_load_144 rfl ?_
                      refine mr_iconst 1 dd_Mo_load_146 (by decide) ?_
                      refine mr_iadd dd_Mo_load_147 ?_
                      obtain ⟨a59, ho60, h⟩ := h
                      obtain ⟨hk61, h⟩ := h
                      obtain ⟨j62, hj63, hm64, hl65, h⟩ := h
                      refine mr_iast dd_Mo_load_148 ho60 hk61 hj63 hm64 hl65 ?_
                      refine mr_iconst 0 dd_Mo_load_149 (by decide) ?_
                      exact mr_ireturn dd_Mo_load_150 rfl h
                    · have h := h.2 hc112
                      refine mr_aload_n dd_Mo_load_115 rfl ?_
                      refine mr_getr ff_Mo_59 dd_Mo_load_116 rs_8_19 rfl (mm_Xk hX57 (mm_Xk hX9 (mm_Xk hX6 (mm_Xk hX2 hk3 (by decide)) (by decide)) (by decide)) (by decide)) ?_
                      refine mr_iconst 4 dd_Mo_load_119 (by decide) ?_
                      refine mr_iload_n dd_Mo_load_120 rfl ?_
                      refine mr_imul dd_Mo_load_121 ?_
                      refine mr_iload dd_Mo_load_122 rfl ?_
                      refine mr_iadd dd_Mo_load_124 ?_
                      refine mr_bipush 9 dd_Mo_load_125 (by decide) ?_
                      refine mr_isub dd_Mo_load_127 ?_
                      obtain ⟨a66, ho67, h⟩ := h
                      obtain ⟨hk68, h⟩ := h
                      obtain ⟨j69, hj70, hm71, hl72, h⟩ := h
                      refine mr_zald dd_Mo_load_128 ho67 hk68 hj70 hm71 hl72 ?_
                      refine mr_if_ne 135 dd_Mo_load_129 (by decide) (fun hc129 => ?_) (fun hc129 => ?_)
                      · have h := h.1 hc129
                        refine mr_aload_n dd_Mo_load_135 rfl ?_
                        refine mr_getr ff_Mo_23 dd_Mo_load_136 rs_8_5 rfl (mm_Xk hX57 (mm_Xk hX9 (mm_Xk hX6 (mm_Xk hX2 hk3 (by decide)) (by decide)) (by decide)) (by decide)) ?_
                        refine mr_iconst 4 dd_Mo_load_139 (by decide) ?_
                        refine mr_iload_n dd_Mo_load_140 rfl ?_
                        refine mr_imul dd_Mo_load_141 ?_
                        refine mr_iload_n dd_Mo_load_142 rfl ?_
                        refine mr_iadd dd_Mo_load_143 ?_
                        refine mr_iload dd_Mo_load_144 rfl ?_
                        refine mr_iconst 1 dd_Mo_load_146 (by decide) ?_
                        refine mr_iadd dd_Mo_load_147 ?_
                        obtain ⟨a73, ho74, h⟩ := h
                        obtain ⟨hk75, h⟩ := h
                        obtain ⟨j76, hj77, hm78, hl79, h⟩ := h
                        refine mr_iast dd_Mo_load_148 ho74 hk75 hj77 hm78 hl79 ?_
                        refine mr_iconst 0 dd_Mo_load_149 (by decide) ?_
                        exact mr_ireturn dd_Mo_load_150 rfl h
                      · have h := h.2 hc129
                        refine mr_bipush (-3) dd_Mo_load_132 (by decide) ?_
                        exact mr_ireturn dd_Mo_load_134 rfl h
              · have h := h.2 hc75
                refine mr_iload_n dd_Mo_load_78 rfl ?_
                refine mr_goto 91 dd_Mo_load_79 (by decide) ?_
                refine mr_istore dd_Mo_load_91 (by decide) ?_
                show mm_Z l G Y_Mo_load K M 0 0 93 [some (.inr (some a0)), some (.inl xa), some (.inl xb), some (.inl xc), some (.inl xd), some (.inl ((mm_i M8 a11 j14) - 1)), some (.inl ((mm_i M8 a18 j21) - 1)), some (.inl xa)] [] M8
                refine mr_iload dd_Mo_load_93 rfl ?_
                refine mr_bipush 8 dd_Mo_load_95 (by decide) ?_
                refine mr_icmp_ge 106 dd_Mo_load_97 (by decide) (fun hc97 => ?_) (fun hc97 => ?_)
                · have h := h.1 hc97
                  refine mr_aload_n dd_Mo_load_106 rfl ?_
                  refine mr_iload dd_Mo_load_107 rfl ?_
                  refine mr_callV0 (Yc := Y_Mo_frozen) (M := M8) (st := []) (vs := [.inl xa]) (ci := 8) fc_Mo_81 iv_Mo_frozen sv_Mo_frozen dd_Mo_load_109 ⟨Nat.le_of_ble_eq_true rfl, Nat.le_of_ble_eq_true rfl⟩ (by decide) rfl rfl (Nat.le_of_ble_eq_true rfl) rfl (mm_Xk hX9 (mm_Xk hX6 (mm_Xk hX2 hk3 (by decide)) (by decide)) (by decide)) rfl rfl h (fun r M80 hX81 h => ?_)
                  replace h := h hX81
                  obtain ⟨x82, rfl, h⟩ := h
                  show mm_Z l G Y_Mo_load K M 0 0 112 [some (.inr (some a0)), some (.inl xa), some (.inl xb), some (.inl xc), some (.inl xd), some (.inl ((mm_i M8 a11 j14) - 1)), some (.inl ((mm_i M8 a18 j21) - 1)), some (.inl xa)] [.inl x82] M80
                  refine mr_if_eq 135 dd_Mo_load_112 (by decide) (fun hc112 => ?_) (fun hc112 => ?_)
                  · have h := h.1 hc112
                    refine mr_aload_n dd_Mo_load_135 rfl ?_
                    refine mr_getr ff_Mo_23 dd_Mo_load_136 rs_8_5 rfl (mm_Xk hX81 (mm_Xk hX9 (mm_Xk hX6 (mm_Xk hX2 hk3 (by decide)) (by decide)) (by decide)) (by decide)) ?_
                    refine mr_iconst 4 dd_Mo_load_139 (by decide) ?_
                    refine mr_iload_n dd_Mo_load_140 rfl ?_
                    refine mr_imul dd_Mo_load_141 ?_
                    refine mr_iload_n dd_Mo_load_142 rfl ?_
                    refine mr_iadd dd_Mo_load_143 ?_
                    refine mr_iload dd_Mo_load_144 rfl ?_
                    refine mr_iconst 1 dd_Mo_load_146 (by decide) ?_
                    refine mr_iadd dd_Mo_load_147 ?_
                    obtain ⟨a83, ho84, h⟩ := h
                    obtain ⟨hk85, h⟩ := h
                    obtain ⟨j86, hj87, hm88, hl89, h⟩ := h
                    refine mr_iast dd_Mo_load_148 ho84 hk85 hj87 hm88 hl89 ?_
                    refine mr_iconst 0 dd_Mo_load_149 (by decide) ?_
                    exact mr_ireturn dd_Mo_load_150 rfl h
                  · have h := h.2 hc112
                    refine mr_aload_n dd_Mo_load_115 rfl ?_
                    refine mr_getr ff_Mo_59 dd_Mo_load_116 rs_8_19 rfl (mm_Xk hX81 (mm_Xk hX9 (mm_Xk hX6 (mm_Xk hX2 hk3 (by decide)) (by decide)) (by decide)) (by decide)) ?_
                    refine mr_iconst 4 dd_Mo_load_119 (by decide) ?_
                    refine mr_iload_n dd_Mo_load_120 rfl ?_
                    refine mr_imul dd_Mo_load_121 ?_
                    refine mr_iload dd_Mo_load_122 rfl ?_
                    refine mr_iadd dd_Mo_load_124 ?_
                    refine mr_bipush 9 dd_Mo_load_125 (by decide) ?_
                    refine mr_isub dd_Mo_load_127 ?_
                    obtain ⟨a90, ho91, h⟩ := h
                    obtain ⟨hk92, h⟩ := h
                    obtain ⟨j93, hj94, hm95, hl96, h⟩ := h
                    refine mr_zald dd_Mo_load_128 ho91 hk92 hj94 hm95 hl96 ?_
                    refine mr_if_ne 135 dd_Mo_load_129 (by decide) (fun hc129 => ?_) (fun hc129 => ?_)
                    · have h := h.1 hc129
                      refine mr_aload_n dd_Mo_load_135 rfl ?_
                      refine mr_getr ff_Mo_23 dd_Mo_load_136 rs_8_5 rfl (mm_Xk hX81 (mm_Xk hX9 (mm_Xk hX6 (mm_Xk hX2 hk3 (by decide)) (by decide)) (by decide)) (by decide)) ?_
                      refine mr_iconst 4 dd_Mo_load_139 (by decide) ?_
                      refine mr_iload_n dd_Mo_load_140 rfl ?_
                      refine mr_imul dd_Mo_load_141 ?_
                      refine mr_iload_n dd_Mo_load_142 rfl ?_
                      refine mr_iadd dd_Mo_load_143 ?_
                      refine mr_iload dd_Mo_load_144 rfl ?_
                      refine mr_iconst 1 dd_Mo_load_146 (by decide) ?_
                      refine mr_iadd dd_Mo_load_147 ?_
                      obtain ⟨a97, ho98, h⟩ := h
                      obtain ⟨hk99, h⟩ := h
                      obtain ⟨j100, hj101, hm102, hl103, h⟩ := h
                      refine mr_iast dd_Mo_load_148 ho98 hk99 hj101 hm102 hl103 ?_
                      refine mr_iconst 0 dd_Mo_load_149 (by decide) ?_
                      exact mr_ireturn dd_Mo_load_150 rfl h
                    · have h := h.2 hc129
                      refine mr_bipush (-3) dd_Mo_load_132 (by decide) ?_
                      exact mr_ireturn dd_Mo_load_134 rfl h
                · have h := h.2 hc97
                  refine mr_iload dd_Mo_load_100 rfl ?_
                  refine mr_iload_n dd_Mo_load_102 rfl ?_
                  refine mr_icmp_ne 132 dd_Mo_load_103 (by decide) (fun hc103 => ?_) (fun hc103 => ?_)
                  · have h := h.1 hc103
                    refine mr_bipush (-3) dd_Mo_load_132 (by decide) ?_
                    exact mr_ireturn dd_Mo_load_134 rfl h
                  · have h := h.2 hc103
                    refine mr_aload_n dd_Mo_load_106 rfl ?_
                    refine mr_iload dd_Mo_load_107 rfl ?_
                    refine mr_callV0 (Yc := Y_Mo_frozen) (M := M8) (st := []) (vs := [.inl xa]) (ci := 8) fc_Mo_81 iv_Mo_frozen sv_Mo_frozen dd_Mo_load_109 ⟨Nat.le_of_ble_eq_true rfl, Nat.le_of_ble_eq_true rfl⟩ (by decide) rfl rfl (Nat.le_of_ble_eq_true rfl) rfl (mm_Xk hX9 (mm_Xk hX6 (mm_Xk hX2 hk3 (by decide)) (by decide)) (by decide)) rfl rfl h (fun r M104 hX105 h => ?_)
                    replace h := h hX105
                    obtain ⟨x106, rfl, h⟩ := h
                    show mm_Z l G Y_Mo_load K M 0 0 112 [some (.inr (some a0)), some (.inl xa), some (.inl xb), some (.inl xc), some (.inl xd), some (.inl ((mm_i M8 a11 j14) - 1)), some (.inl ((mm_i M8 a18 j21) - 1)), some (.inl xa)] [.inl x106] M104
                    refine mr_if_eq 135 dd_Mo_load_112 (by decide) (fun hc112 => ?_) (fun hc112 => ?_)
                    · have h := h.1 hc112
                      refine mr_aload_n dd_Mo_load_135 rfl ?_
                      refine mr_getr ff_Mo_23 dd_Mo_load_136 rs_8_5 rfl (mm_Xk hX105 (mm_Xk hX9 (mm_Xk hX6 (mm_Xk hX2 hk3 (by decide)) (by decide)) (by decide)) (by decide)) ?_
                      refine mr_iconst 4 dd_Mo_load_139 (by decide) ?_
                      refine mr_iload_n dd_Mo_load_140 rfl ?_
                      refine mr_imul dd_Mo_load_141 ?_
                      refine mr_iload_n dd_Mo_load_142 rfl ?_
                      refine mr_iadd dd_Mo_load_143 ?_
                      refine mr_iload dd_Mo_load_144 rfl ?_
                      refine mr_iconst 1 dd_Mo_load_146 (by decide) ?_
                      refine mr_iadd dd_Mo_load_147 ?_
                      obtain ⟨a107, ho108, h⟩ := h
                      obtain ⟨hk109, h⟩ := h
                      obtain ⟨j110, hj111, hm112, hl113, h⟩ := h
                      refine mr_iast dd_Mo_load_148 ho108 hk109 hj111 hm112 hl113 ?_
                      refine mr_iconst 0 dd_Mo_load_149 (by decide) ?_
                      exact mr_ireturn dd_Mo_load_150 rfl h
                    · have h := h.2 hc112
                      refine mr_aload_n dd_Mo_load_115 rfl ?_
                      refine mr_getr ff_Mo_59 dd_Mo_load_116 rs_8_19 rfl (mm_Xk hX105 (mm_Xk hX9 (mm_Xk hX6 (mm_Xk hX2 hk3 (by decide)) (by decide)) (by decide)) (by decide)) ?_
                      refine mr_iconst 4 dd_Mo_load_119 (by decide) ?_
                      refine mr_iload_n dd_Mo_load_120 rfl ?_
                      refine mr_imul dd_Mo_load_121 ?_
                      refine mr_iload dd_Mo_load_122 rfl ?_
                      refine mr_iadd dd_Mo_load_124 ?_
                      refine mr_bipush 9 dd_Mo_load_125 (by decide) ?_
                      refine mr_isub dd_Mo_load_127 ?_
                      obtain ⟨a114, ho115, h⟩ := h
                      obtain ⟨hk116, h⟩ := h
                      obtain ⟨j117, hj118, hm119, hl120, h⟩ := h
                      refine mr_zald dd_Mo_load_128 ho115 hk116 hj118 hm119 hl120 ?_
                      refine mr_if_ne 135 dd_Mo_load_129 (by decide) (fun hc129 => ?_) (fun hc129 => ?_)
                      · have h := h.1 hc129
                        refine mr_aload_n dd_Mo_load_135 rfl ?_
                        refine mr_getr ff_Mo_23 dd_Mo_load_136 rs_8_5 rfl (mm_Xk hX105 (mm_Xk hX9 (mm_Xk hX6 (mm_Xk hX2 hk3 (by decide)) (by decide)) (by decide)) (by decide)) ?_
                        refine mr_iconst 4 dd_Mo_load_139 (by decide) ?_
                        refine mr_iload_n dd_Mo_load_140 rfl ?_
                        refine mr_imul dd_Mo_load_141 ?_
                        refine mr_iload_n dd_Mo_load_142 rfl ?_
                        refine mr_iadd dd_Mo_load_143 ?_
                        refine mr_iload dd_Mo_load_144 rfl ?_
                        refine mr_iconst 1 dd_Mo_load_146 (by decide) ?_
                        refine mr_iadd dd_Mo_load_147 ?_
                        obtain ⟨a121, ho122, h⟩ := h
                        obtain ⟨hk123, h⟩ := h
                        obtain ⟨j124, hj125, hm126, hl127, h⟩ := h
                        refine mr_iast dd_Mo_load_148 ho122 hk123 hj125 hm126 hl127 ?_
                        refine mr_iconst 0 dd_Mo_load_149 (by decide) ?_
                        exact mr_ireturn dd_Mo_load_150 rfl h
                      · have h := h.2 hc129
                        refine mr_bipush (-3) dd_Mo_load_132 (by decide) ?_
                        exact mr_ireturn dd_Mo_load_134 rfl h
            · have h := h.2 hc51
              refine mr_bipush (-2) dd_Mo_load_54 (by decide) ?_
              exact mr_ireturn dd_Mo_load_56 rfl h
          · have h := h.2 hc30
            refine mr_iconst (-1) dd_Mo_load_33 (by decide) ?_
            exact mr_ireturn dd_Mo_load_34 rfl h
set_option maxHeartbeats 4000000 in
set_option maxRecDepth 100000 in
theorem sg_Mo_lookup {l : Launch} {G : mm_G} {K : Option mm_V → mm_M → Prop} {M : mm_M} {a0 : Nat} {xa : Int32} {xb : Int32} {xc : Int32}
    (h : mm_k M a0 = 9 ∧ mm_Ok l G yy_Mo_lives Y_Mo_lives [.inr (some a0), .inl xa] M (fun r M1 => mm_X M M1 → ∃ x4 : Int32, r = some (.inl x4) ∧ (x4 = 0 → K (some (.inl (-1))) M1) ∧ (¬ x4 = 0 → mm_Ok l G yy_Mo_isRegister Y_Mo_isRegister [.inl xc] M1 (fun r M5 => mm_X M1 M5 → ∃ x7 : Int32, r = some (.inl x7) ∧ (x7 = 0 → K (some (.inl (-1))) M5) ∧ (¬ x7 = 0 → mm_Ok l G yy_Mo_frozen Y_Mo_frozen [.inr (some a0), .inl xb] M5 (fun r M8 => mm_X M5 M8 → ∃ x10 : Int32, r = some (.inl x10) ∧ (¬ x10 = 0 → ∃ a11 : Nat, (mm_p M8 a0 19) = some a11 ∧ mm_k M8 a11 = 101 ∧ ∃ j14 : Nat, ((4 * xa) + (xb - 9)) = nI j14 ∧ j14 < 2147483648 ∧ j14 < mm_l M8 a11 ∧ (¬ (mm_i M8 a11 j14) = 0 → ∃ a18 : Nat, (mm_p M8 a0 17) = some a18 ∧ mm_k M8 a18 = 100 ∧ ∃ j21 : Nat, (xb - 9) = nI j21 ∧ j21 < 2147483648 ∧ j21 < mm_l M8 a18 ∧ ∃ a25 : Nat, (mm_p M8 a0 5) = some a25 ∧ mm_k M8 a25 = 100 ∧ ∃ j28 : Nat, ((4 * xa) + xc) = nI j28 ∧ j28 < 2147483648 ∧ j28 < mm_l M8 a25 ∧ K (some (.inl 0)) (mm_si M8 a25 j28 ((mm_i M8 a18 j21) + 1))) ∧ ((mm_i M8 a11 j14) = 0 → mm_Ok l G yy_Mo_rest Y_Mo_rest [.inr (some a0), .inl xa] M8 (fun r M32 => mm_X M8 M32 → ∃ x34 : Int32, r = some (.inl x34) ∧ mm_Ok l G yy_Mo_pages Y_Mo_pages [.inr (some a0), .inl xb] M32 (fun r M35 => mm_X M32 M35 → ∃ x37 : Int32, r = some (.inl x37) ∧ (x37 ≤ x34 → mm_Ok l G yy_Mo_rest Y_Mo_rest [.inr (some a0), .inl xa] M35 (fun r M38 => mm_X M35 M38 → ∃ x40 : Int32, r = some (.inl x40) ∧ mm_Ok l G yy_Mo_pages Y_Mo_pages [.inr (some a0), .inl xb] M38 (fun r M41 => mm_X M38 M41 → ∃ x43 : Int32, r = some (.inl x43) ∧ (x43 ≤ x40 → ∃ a44 : Nat, (mm_p M41 a0 19) = some a44 ∧ mm_k M41 a44 = 101 ∧ ∃ j47 : Nat, ((4 * xa) + (xb - 9)) = nI j47 ∧ j47 < 2147483648 ∧ j47 < mm_l M41 a44 ∧ ∃ a51 : Nat, (mm_p (mm_si M41 a44 j47 1) a0 20) = some a51 ∧ mm_k (mm_si M41 a44 j47 1) a51 = 101 ∧ ∃ j54 : Nat, ((4 * xa) + (xb - 9)) = nI j54 ∧ j54 < 2147483648 ∧ j54 < mm_l (mm_si M41 a44 j47 1) a51 ∧ ∃ a58 : Nat, (mm_p (mm_si (mm_si M41 a44 j47 1) a51 j54 1) a0 17) = some a58 ∧ mm_k (mm_si (mm_si M41 a44 j47 1) a51 j54 1) a58 = 100 ∧ ∃ j61 : Nat, (xb - 9) = nI j61 ∧ j61 < 2147483648 ∧ j61 < mm_l (mm_si (mm_si M41 a44 j47 1) a51 j54 1) a58 ∧ ∃ a65 : Nat, (mm_p (mm_si (mm_si M41 a44 j47 1) a51 j54 1) a0 5) = some a65 ∧ mm_k (mm_si (mm_si M41 a44 j47 1) a51 j54 1) a65 = 100 ∧ ∃ j68 : Nat, ((4 * xa) + xc) = nI j68 ∧ j68 < 2147483648 ∧ j68 < mm_l (mm_si (mm_si M41 a44 j47 1) a51 j54 1) a65 ∧ K (some (.inl 0)) (mm_si (mm_si (mm_si M41 a44 j47 1) a51 j54 1) a65 j68 ((mm_i (mm_si (mm_si M41 a44 j47 1) a51 j54 1) a58 j61) + 1))) ∧ (¬ x43 ≤ x40 → K (some (.inl (-5))) M41)))) ∧ (¬ x37 ≤ x34 → mm_Ok l G yy_Mo_sweep Y_Mo_sweep [.inr (some a0), .inl xa] M35 (fun r M72 => mm_X M35 M72 → ∃ x74 : Int32, r = some (.inl x74) ∧ mm_Ok l G yy_Mo_rest Y_Mo_rest [.inr (some a0), .inl xa] M72 (fun r M75 => mm_X M72 M75 → ∃ x77 : Int32, r = some (.inl x77) ∧ mm_Ok l G yy_Mo_pages Y_Mo_pages [.inr (some a0), .inl xb] M75 (fun r M78 => mm_X M75 M78 → ∃ x80 : Int32, r = some (.inl x80) ∧ (x80 ≤ x77 → ∃ a81 : Nat, (mm_p M78 a0 19) = some a81 ∧ mm_k M78 a81 = 101 ∧ ∃ j84 : Nat, ((4 * xa) + (xb - 9)) = nI j84 ∧ j84 < 2147483648 ∧ j84 < mm_l M78 a81 ∧ ∃ a88 : Nat, (mm_p (mm_si M78 a81 j84 1) a0 20) = some a88 ∧ mm_k (mm_si M78 a81 j84 1) a88 = 101 ∧ ∃ j91 : Nat, ((4 * xa) + (xb - 9)) = nI j91 ∧ j91 < 2147483648 ∧ j91 < mm_l (mm_si M78 a81 j84 1) a88 ∧ ∃ a95 : Nat, (mm_p (mm_si (mm_si M78 a81 j84 1) a88 j91 1) a0 17) = some a95 ∧ mm_k (mm_si (mm_si M78 a81 j84 1) a88 j91 1) a95 = 100 ∧ ∃ j98 : Nat, (xb - 9) = nI j98 ∧ j98 < 2147483648 ∧ j98 < mm_l (mm_si (mm_si M78 a81 j84 1) a88 j91 1) a95 ∧ ∃ a102 : Nat, (mm_p (mm_si (mm_si M78 a81 j84 1) a88 j91 1) a0 5) = some a102 ∧ mm_k (mm_si (mm_si M78 a81 j84 1) a88 j91 1) a102 = 100 ∧ ∃ j105 : Nat, ((4 * xa) + xc) = nI j105 ∧ j105 < 2147483648 ∧ j105 < mm_l (mm_si (mm_si M78 a81 j84 1) a88 j91 1) a102 ∧ K (some (.inl 0)) (mm_si (mm_si (mm_si M78 a81 j84 1) a88 j91 1) a102 j105 ((mm_i (mm_si (mm_si M78 a81 j84 1) a88 j91 1) a95 j98) + 1))) ∧ (¬ x80 ≤ x77 → K (some (.inl (-5))) M78))))))))) ∧ (x10 = 0 → K (some (.inl (-1))) M8))))))) :
    mm_Ok l G yy_Mo_lookup Y_Mo_lookup [.inr (some a0), .inl xa, .inl xb, .inl xc] M K := by
  refine mm_go (by decide) rfl (fun q => by cases q) (Nat.le_of_ble_eq_true rfl) ?_
  show mm_Z l G Y_Mo_lookup K M 0 0 0 [some (.inr (some a0)), some (.inl xa), some (.inl xb), some (.inl xc), none] [] M
  refine mr_aload_n dd_Mo_lookup_0 rfl ?_
  refine mr_iload_n dd_Mo_lookup_1 rfl ?_
  obtain ⟨hk3, h⟩ := h
  refine mr_callV0 (Yc := Y_Mo_lives) (M := M) (st := []) (vs := [.inl xa]) (ci := 8) fc_Mo_89 iv_Mo_lives sv_Mo_lives dd_Mo_lookup_2 ⟨Nat.le_of_ble_eq_true rfl, Nat.le_of_ble_eq_true rfl⟩ (by decide) rfl rfl (Nat.le_of_ble_eq_true rfl) rfl hk3 rfl rfl h (fun r M1 hX2 h => ?_)
  replace h := h hX2
  obtain ⟨x4, rfl, h⟩ := h
  show mm_Z l G Y_Mo_lookup K M 0 0 5 [some (.inr (some a0)), some (.inl xa), some (.inl xb), some (.inl xc), none] [.inl x4] M1
  refine mr_if_eq 23 dd_Mo_lookup_5 (by decide) (fun hc5 => ?_) (fun hc5 => ?_)
  · have h := h.1 hc5
    refine mr_iconst (-1) dd_Mo_lookup_23 (by decide) ?_
    exact mr_ireturn dd_Mo_lookup_24 rfl h
  · have h := h.2 hc5
    refine mr_iload_n dd_Mo_lookup_8 rfl ?_
    refine mr_callS0 (Yc := Y_Mo_isRegister) (M := M1) (st := []) (vs := [.inl xc]) fc_Mo_134 si_Mo_isRegister dd_Mo_lookup_9 ⟨Nat.le_of_ble_eq_true rfl, Nat.le_of_ble_eq_true rfl⟩ rfl (Nat.le_of_ble_eq_true rfl) rfl rfl h (fun r M5 hX6 h => ?_)
    replace h := h hX6
    obtain ⟨x7, rfl, h⟩ := h
    show mm_Z l G Y_Mo_lookup K M 0 0 12 [some (.inr (some a0)), some (.inl xa), some (.inl xb), some (.inl xc), none] [.inl x7] M5
    refine mr_if_eq 23 dd_Mo_lookup_12 (by decide) (fun hc12 => ?_) (fun hc12 => ?_)
    · have h := h.1 hc12
      refine mr_iconst (-1) dd_Mo_lookup_23 (by decide) ?_
      exact mr_ireturn dd_Mo_lookup_24 rfl h
    · have h := h.2 hc12
      refine mr_aload_n dd_Mo_lookup_15 rfl ?_
      refine mr_iload_n dd_Mo_lookup_16 rfl ?_
      refine mr_callV0 (Yc := Y_Mo_frozen) (M := M5) (st := []) (vs := [.inl xb]) (ci := 8) fc_Mo_81 iv_Mo_frozen sv_Mo_frozen dd_Mo_lookup_17 ⟨Nat.le_of_ble_eq_true rfl, Nat.le_of_ble_eq_true rfl⟩ (by decide) rfl rfl (Nat.le_of_ble_eq_true rfl) rfl (mm_Xk hX6 (mm_Xk hX2 hk3 (by decide)) (by decide)) rfl rfl h (fun r M8 hX9 h => ?_)
      replace h := h hX9
      obtain ⟨x10, rfl, h⟩ := h
      show mm_Z l G Y_Mo_lookup K M 0 0 20 [some (.inr (some a0)), some (.inl xa), some (.inl xb), some (.inl xc), none] [.inl x10] M8
      refine mr_if_ne 25 dd_Mo_lookup_20 (by decide) (fun hc20 => ?_) (fun hc20 => ?_)
      · have h := h.1 hc20
        refine mr_iload_n dd_Mo_lookup_25 rfl ?_
        refine mr_bipush 9 dd_Mo_lookup_26 (by decide) ?_
        refine mr_isub dd_Mo_lookup_28 ?_
        refine mr_istore dd_Mo_lookup_29 (by decide) ?_
        show mm_Z l G Y_Mo_lookup K M 0 0 31 [some (.inr (some a0)), some (.inl xa), some (.inl xb), some (.inl xc), some (.inl (xb - 9))] [] M8
        refine mr_aload_n dd_Mo_lookup_31 rfl ?_
        refine mr_getr ff_Mo_59 dd_Mo_lookup_32 rs_8_19 rfl (mm_Xk hX9 (mm_Xk hX6 (mm_Xk hX2 hk3 (by decide)) (by decide)) (by decide)) ?_
        refine mr_iconst 4 dd_Mo_lookup_35 (by decide) ?_
        refine mr_iload_n dd_Mo_lookup_36 rfl ?_
        refine mr_imul dd_Mo_lookup_37 ?_
        refine mr_iload dd_Mo_lookup_38 rfl ?_
        refine mr_iadd dd_Mo_lookup_40 ?_
        obtain ⟨a11, ho12, h⟩ := h
        obtain ⟨hk13, h⟩ := h
        obtain ⟨j14, hj15, hm16, hl17, h⟩ := h
        refine mr_zald dd_Mo_lookup_41 ho12 hk13 hj15 hm16 hl17 ?_
        refine mr_if_ne 104 dd_Mo_lookup_42 (by decide) (fun hc42 => ?_) (fun hc42 => ?_)
        · have h := h.1 hc42
          refine mr_aload_n dd_Mo_lookup_104 rfl ?_
          refine mr_getr ff_Mo_23 dd_Mo_lookup_105 rs_8_5 rfl (mm_Xk hX9 (mm_Xk hX6 (mm_Xk hX2 hk3 (by decide)) (by decide)) (by decide)) ?_
          refine mr_iconst 4 dd_Mo_lookup_108 (by decide) ?_
          refine mr_iload_n dd_Mo_lookup_109 rfl ?_
          refine mr_imul dd_Mo_lookup_110 ?_
          refine mr_iload_n dd_Mo_lookup_111 rfl ?_
          refine mr_iadd dd_Mo_lookup_112 ?_
          refine mr_aload_n dd_Mo_lookup_113 rfl ?_
          refine mr_getr ff_Mo_56 dd_Mo_lookup_114 rs_8_17 rfl (mm_Xk hX9 (mm_Xk hX6 (mm_Xk hX2 hk3 (by decide)) (by decide)) (by decide)) ?_
          refine mr_iload dd_Mo_lookup_117 rfl ?_
          obtain ⟨a18, ho19, h⟩ := h
          obtain ⟨hk20, h⟩ := h
          obtain ⟨j21, hj22, hm23, hl24, h⟩ := h
          refine mr_iald dd_Mo_lookup_119 ho19 hk20 hj22 hm23 hl24 ?_
          refine mr_iconst 1 dd_Mo_lookup_120 (by decide) ?_
          refine mr_iadd dd_Mo_lookup_121 ?_
          obtain ⟨a25, ho26, h⟩ := h
          obtain ⟨hk27, h⟩ := h
          obtain ⟨j28, hj29, hm30, hl31, h⟩ := h
          refine mr_iast dd_Mo_lookup_122 ho26 hk27 hj29 hm30 hl31 ?_
          refine mr_iconst 0 dd_Mo_lookup_123 (by decide) ?_
          exact mr_ireturn dd_Mo_lookup_124 rfl h
        · have h := h.2 hc42
          refine mr_aload_n dd_Mo_lookup_45 rfl ?_
          refine mr_iload_n dd_Mo_lookup_46 rfl ?_
          refine mr_callV0 (Yc := Y_Mo_rest) (M := M8) (st := []) (vs := [.inl xa]) (ci := 8) fc_Mo_124 iv_Mo_rest sv_Mo_rest dd_Mo_lookup_47 ⟨Nat.le_of_ble_eq_true rfl, Nat.le_of_ble_eq_true rfl⟩ (by decide) rfl rfl (Nat.le_of_ble_eq_true rfl) rfl (mm_Xk hX9 (mm_Xk hX6 (mm_Xk hX2 hk3 (by decide)) (by decide)) (by decide)) rfl rfl h (fun r M32 hX33 h => ?_)
          replace h := h hX33
          obtain ⟨x34, rfl, h⟩ := h
          show mm_Z l G Y_Mo_lookup K M 0 0 50 [some (.inr (some a0)), some (.inl xa), some (.inl xb), some (.inl xc), some (.inl (xb - 9))] [.inl x34] M32
          refine mr_aload_n dd_Mo_lookup_50 rfl ?_
          refine mr_iload_n dd_Mo_lookup_51 rfl ?_
          refine mr_callV0 (Yc := Y_Mo_pages) (M := M32) (st := [.inl x34]) (vs := [.inl xb]) (ci := 8) fc_Mo_85 iv_Mo_pages sv_Mo_pages dd_Mo_lookup_52 ⟨Nat.le_of_ble_eq_true rfl, Nat.le_of_ble_eq_true rfl⟩ (by decide) rfl rfl (Nat.le_of_ble_eq_true rfl) rfl (mm_Xk hX33 (mm_Xk hX9 (mm_Xk hX6 (mm_Xk hX2 hk3 (by decide)) (by decide)) (by decide)) (by decide)) rfl rfl h (fun r M35 hX36 h => ?_)
          replace h := h hX36
          obtain ⟨x37, rfl, h⟩ := h
          show mm_Z l G Y_Mo_lookup K M 0 0 55 [some (.inr (some a0)), some (.inl xa), some (.inl xb), some (.inl xc), some (.inl (xb - 9))] [.inl x37, .inl x34] M35
          refine mr_icmp_ge 64 dd_Mo_lookup_55 (by decide) (fun hc55 => ?_) (fun hc55 => ?_)
          · have h := h.1 hc55
            refine mr_aload_n dd_Mo_lookup_64 rfl ?_
            refine mr_iload_n dd_Mo_lookup_65 rfl ?_
            refine mr_callV0 (Yc := Y_Mo_rest) (M := M35) (st := []) (vs := [.inl xa]) (ci := 8) fc_Mo_124 iv_Mo_rest sv_Mo_rest dd_Mo_lookup_66 ⟨Nat.le_of_ble_eq_true rfl, Nat.le_of_ble_eq_true rfl⟩ (by decide) rfl rfl (Nat.le_of_ble_eq_true rfl) rfl (mm_Xk hX36 (mm_Xk hX33 (mm_Xk hX9 (mm_Xk hX6 (mm_Xk hX2 hk3 (by decide)) (by decide)) (by decide)) (by decide)) (by decide)) rfl rfl h (fun r M38 hX39 h => ?_)
            replace h := h hX39
            obtain ⟨x40, rfl, h⟩ := h
            show mm_Z l G Y_Mo_lookup K M 0 0 69 [some (.inr (some a0)), some (.inl xa), some (.inl xb), some (.inl xc), some (.inl (xb - 9))] [.inl x40] M38
            refine mr_aload_n dd_Mo_lookup_69 rfl ?_
            refine mr_iload_n dd_Mo_lookup_70 rfl ?_
            refine mr_callV0 (Yc := Y_Mo_pages) (M := M38) (st := [.inl x40]) (vs := [.inl xb]) (ci := 8) fc_Mo_85 iv_Mo_pages sv_Mo_pages dd_Mo_lookup_71 ⟨Nat.le_of_ble_eq_true rfl, Nat.le_of_ble_eq_true rfl⟩ (by decide) rfl rfl (Nat.le_of_ble_eq_true rfl) rfl (mm_Xk hX39 (mm_Xk hX36 (mm_Xk hX33 (mm_Xk hX9 (mm_Xk hX6 (mm_Xk hX2 hk3 (by decide)) (by decide)) (by decide)) (by decide)) (by decide)) (by decide)) rfl rfl h (fun r M41 hX42 h => ?_)
            replace h := h hX42
            obtain ⟨x43, rfl, h⟩ := h
            show mm_Z l G Y_Mo_lookup K M 0 0 74 [some (.inr (some a0)), some (.inl xa), some (.inl xb), some (.inl xc), some (.inl (xb - 9))] [.inl x43, .inl x40] M41
            refine mr_icmp_ge 80 dd_Mo_lookup_74 (by decide) (fun hc74 => ?_) (fun hc74 => ?_)
            · have h := h.1 hc74
              refine mr_aload_n dd_Mo_lookup_80 rfl ?_
              refine mr_getr ff_Mo_59 dd_Mo_lookup_81 rs_8_19 rfl (mm_Xk hX42 (mm_Xk hX39 (mm_Xk hX36 (mm_Xk hX33 (mm_Xk hX9 (mm_Xk hX6 (mm_Xk hX2 hk3 (by decide)) (by decide)) (by decide)) (by decide)) (by decide)) (by decide)) (by decide)) ?_
              refine mr_iconst 4 dd_Mo_lookup_84 (by decide) ?_
              refine mr_iload_n dd_Mo_lookup_85 rfl ?_
              refine mr_imul dd_Mo_lookup_86 ?_
              refine mr_iload dd_Mo_lookup_87 rfl ?_
              refine mr_iadd dd_Mo_lookup_89 ?_
              refine mr_iconst 1 dd_Mo_lookup_90 (by decide) ?_
              obtain ⟨a44, ho45, h⟩ := h
              obtain ⟨hk46, h⟩ := h
              obtain ⟨j47, hj48, hm49, hl50, h⟩ := h
              refine mr_zast dd_Mo_lookup_91 ho45 hk46 hj48 hm49 hl50 (Or.inr rfl) ?_
              refine mr_aload_n dd_Mo_lookup_92 rfl ?_
              refine mr_getr ff_Mo_62 dd_Mo_lookup_93 rs_8_20 rfl (mm_Xk hX42 (mm_Xk hX39 (mm_Xk hX36 (mm_Xk hX33 (mm_Xk hX9 (mm_Xk hX6 (mm_Xk hX2 hk3 (by decide)) (by decide)) (by decide)) (by decide)) (by decide)) (by decide)) (by decide)) ?_
              refine mr_iconst 4 dd_Mo_lookup_96 (by decide) ?_
              refine mr_iload_n dd_Mo_lookup_97 rfl ?_
              refine mr_imul dd_Mo_lookup_98 ?_
              refine mr_iload dd_Mo_lookup_99 rfl ?_
              refine mr_iadd dd_Mo_lookup_101 ?_
              refine mr_iconst 1 dd_Mo_lookup_102 (by decide) ?_
              obtain ⟨a51, ho52, h⟩ := h
              obtain ⟨hk53, h⟩ := h
              obtain ⟨j54, hj55, hm56, hl57, h⟩ := h
              refine mr_zast dd_Mo_lookup_103 ho52 hk53 hj55 hm56 hl57 (Or.inr rfl) ?_
              refine mr_aload_n dd_Mo_lookup_104 rfl ?_
              refine mr_getr ff_Mo_23 dd_Mo_lookup_105 rs_8_5 rfl (mm_Xk hX42 (mm_Xk hX39 (mm_Xk hX36 (mm_Xk hX33 (mm_Xk hX9 (mm_Xk hX6 (mm_Xk hX2 hk3 (by decide)) (by decide)) (by decide)) (by decide)) (by decide)) (by decide)) (by decide)) ?_
              refine mr_iconst 4 dd_Mo_lookup_108 (by decide) ?_
              refine mr_iload_n dd_Mo_lookup_109 rfl ?_
              refine mr_imul dd_Mo_lookup_110 ?_
              refine mr_iload_n dd_Mo_lookup_111 rfl ?_
              refine mr_iadd dd_Mo_lookup_112 ?_
              refine mr_aload_n dd_Mo_lookup_113 rfl ?_
              refine mr_getr ff_Mo_56 dd_Mo_lookup_114 rs_8_17 rfl (mm_Xk hX42 (mm_Xk hX39 (mm_Xk hX36 (mm_Xk hX33 (mm_Xk hX9 (mm_Xk hX6 (mm_Xk hX2 hk3 (by decide)) (by decide)) (by decide)) (by decide)) (by decide)) (by decide)) (by decide)) ?_
              refine mr_iload dd_Mo_lookup_117 rfl ?_
              obtain ⟨a58, ho59, h⟩ := h
              obtain ⟨hk60, h⟩ := h
              obtain ⟨j61, hj62, hm63, hl64, h⟩ := h
              refine mr_iald dd_Mo_lookup_119 ho59 hk60 hj62 hm63 hl64 ?_
              refine mr_iconst 1 dd_Mo_lookup_120 (by decide) ?_
              refine mr_iadd dd_Mo_lookup_121 ?_
              obtain ⟨a65, ho66, h⟩ := h
              obtain ⟨hk67, h⟩ := h
              obtain ⟨j68, hj69, hm70, hl71, h⟩ := h
              refine mr_iast dd_Mo_lookup_122 ho66 hk67 hj69 hm70 hl71 ?_
              refine mr_iconst 0 dd_Mo_lookup_123 (by decide) ?_
              exact mr_ireturn dd_Mo_lookup_124 rfl h
            · have h := h.2 hc74
              refine mr_bipush (-5) dd_Mo_lookup_77 (by decide) ?_
              exact mr_ireturn dd_Mo_lookup_79 rfl h
          · have h := h.2 hc55
            refine mr_aload_n dd_Mo_lookup_58 rfl ?_
            refine mr_iload_n dd_Mo_lookup_59 rfl ?_
            refine mr_callV0 (Yc := Y_Mo_sweep) (M := M35) (st := []) (vs := [.inl xa]) (ci := 8) fc_Mo_141 iv_Mo_sweep sv_Mo_sweep dd_Mo_lookup_60 ⟨Nat.le_of_ble_eq_true rfl, Nat.le_of_ble_eq_true rfl⟩ (by decide) rfl rfl (Nat.le_of_ble_eq_true rfl) rfl (mm_Xk hX36 (mm_Xk hX33 (mm_Xk hX9 (mm_Xk hX6 (mm_Xk hX2 hk3 (by decide)) (by decide)) (by decide)) (by decide)) (by decide)) rfl rfl h (fun r M72 hX73 h => ?_)
            replace h := h hX73
            obtain ⟨x74, rfl, h⟩ := h
            show mm_Z l G Y_Mo_lookup K M 0 0 63 [some (.inr (some a0)), some (.inl xa), some (.inl xb), some (.inl xc), some (.inl (xb - 9))] [.inl x74] M72
            refine mr_pop dd_Mo_lookup_63 ?_
            refine mr_aload_n dd_Mo_lookup_64 rfl ?_
            refine mr_iload_n dd_Mo_lookup_65 rfl ?_
            refine mr_callV0 (Yc := Y_Mo_rest) (M := M72) (st := []) (vs := [.inl xa]) (ci := 8) fc_Mo_124 iv_Mo_rest sv_Mo_rest dd_Mo_lookup_66 ⟨Nat.le_of_ble_eq_true rfl, Nat.le_of_ble_eq_true rfl⟩ (by decide) rfl rfl (Nat.le_of_ble_eq_true rfl) rfl (mm_Xk hX73 (mm_Xk hX36 (mm_Xk hX33 (mm_Xk hX9 (mm_Xk hX6 (mm_Xk hX2 hk3 (by decide)) (by decide)) (by decide)) (by decide)) (by decide)) (by decide)) rfl rfl h (fun r M75 hX76 h => ?_)
            replace h := h hX76
            obtain ⟨x77, rfl, h⟩ := h
            show mm_Z l G Y_Mo_lookup K M 0 0 69 [some (.inr (some a0)), some (.inl xa), some (.inl xb), some (.inl xc), some (.inl (xb - 9))] [.inl x77] M75
            refine mr_aload_n dd_Mo_lookup_69 rfl ?_
            refine mr_iload_n dd_Mo_lookup_70 rfl ?_
            refine mr_callV0 (Yc := Y_Mo_pages) (M := M75) (st := [.inl x77]) (vs := [.inl xb]) (ci := 8) fc_Mo_85 iv_Mo_pages sv_Mo_pages dd_Mo_lookup_71 ⟨Nat.le_of_ble_eq_true rfl, Nat.le_of_ble_eq_true rfl⟩ (by decide) rfl rfl (Nat.le_of_ble_eq_true rfl) rfl (mm_Xk hX76 (mm_Xk hX73 (mm_Xk hX36 (mm_Xk hX33 (mm_Xk hX9 (mm_Xk hX6 (mm_Xk hX2 hk3 (by decide)) (by decide)) (by decide)) (by decide)) (by decide)) (by decide)) (by decide)) rfl rfl h (fun r M78 hX79 h => ?_)
            replace h := h hX79
            obtain ⟨x80, rfl, h⟩ := h
            show mm_Z l G Y_Mo_lookup K M 0 0 74 [some (.inr (some a0)), some (.inl xa), some (.inl xb), some (.inl xc), some (.inl (xb - 9))] [.inl x80, .inl x77] M78
            refine mr_icmp_ge 80 dd_Mo_lookup_74 (by decide) (fun hc74 => ?_) (fun hc74 => ?_)
            · have h := h.1 hc74
              refine mr_aload_n dd_Mo_lookup_80 rfl ?_
              refine mr_getr ff_Mo_59 dd_Mo_lookup_81 rs_8_19 rfl (mm_Xk hX79 (mm_Xk hX76 (mm_Xk hX73 (mm_Xk hX36 (mm_Xk hX33 (mm_Xk hX9 (mm_Xk hX6 (mm_Xk hX2 hk3 (by decide)) (by decide)) (by decide)) (by decide)) (by decide)) (by decide)) (by decide)) (by decide)) ?_
              refine mr_iconst 4 dd_Mo_lookup_84 (by decide) ?_
              refine mr_iload_n dd_Mo_lookup_85 rfl ?_
              refine mr_imul dd_Mo_lookup_86 ?_
              refine mr_iload dd_Mo_lookup_87 rfl ?_
              refine mr_iadd dd_Mo_lookup_89 ?_
              refine mr_iconst 1 dd_Mo_lookup_90 (by decide) ?_
              obtain ⟨a81, ho82, h⟩ := h
              obtain ⟨hk83, h⟩ := h
              obtain ⟨j84, hj85, hm86, hl87, h⟩ := h
              refine mr_zast dd_Mo_lookup_91 ho82 hk83 hj85 hm86 hl87 (Or.inr rfl) ?_
              refine mr_aload_n dd_Mo_lookup_92 rfl ?_
              refine mr_getr ff_Mo_62 dd_Mo_lookup_93 rs_8_20 rfl (mm_Xk hX79 (mm_Xk hX76 (mm_Xk hX73 (mm_Xk hX36 (mm_Xk hX33 (mm_Xk hX9 (mm_Xk hX6 (mm_Xk hX2 hk3 (by decide)) (by decide)) (by decide)) (by decide)) (by decide)) (by decide)) (by decide)) (by decide)) ?_
              refine mr_iconst 4 dd_Mo_lookup_96 (by decide) ?_
              refine mr_iload_n dd_Mo_lookup_97 rfl ?_
              refine mr_imul dd_Mo_lookup_98 ?_
              refine mr_iload dd_Mo_lookup_99 rfl ?_
              refine mr_iadd dd_Mo_lookup_101 ?_
              refine mr_iconst 1 dd_Mo_lookup_102 (by decide) ?_
              obtain ⟨a88, ho89, h⟩ := h
              obtain ⟨hk90, h⟩ := h
              obtain ⟨j91, hj92, hm93, hl94, h⟩ := h
              refine mr_zast dd_Mo_lookup_103 ho89 hk90 hj92 hm93 hl94 (Or.inr rfl) ?_
              refine mr_aload_n dd_Mo_lookup_104 rfl ?_
              refine mr_getr ff_Mo_23 dd_Mo_lookup_105 rs_8_5 rfl (mm_Xk hX79 (mm_Xk hX76 (mm_Xk hX73 (mm_Xk hX36 (mm_Xk hX33 (mm_Xk hX9 (mm_Xk hX6 (mm_Xk hX2 hk3 (by decide)) (by decide)) (by decide)) (by decide)) (by decide)) (by decide)) (by decide)) (by decide)) ?_
              refine mr_iconst 4 dd_Mo_lookup_108 (by decide) ?_
              refine mr_iload_n dd_Mo_lookup_109 rfl ?_
              refine mr_imul dd_Mo_lookup_110 ?_
              refine mr_iload_n dd_Mo_lookup_111 rfl ?_
              refine mr_iadd dd_Mo_lookup_112 ?_
              refine mr_aload_n dd_Mo_lookup_113 rfl ?_
              refine mr_getr ff_Mo_56 dd_Mo_lookup_114 rs_8_17 rfl (mm_Xk hX79 (mm_Xk hX76 (mm_Xk hX73 (mm_Xk hX36 (mm_Xk hX33 (mm_Xk hX9 (mm_Xk hX6 (mm_Xk hX2 hk3 (by decide)) (by decide)) (by decide)) (by decide)) (by decide)) (by decide)) (by decide)) (by decide)) ?_
              refine mr_iload dd_Mo_lookup_117 rfl ?_
              obtain ⟨a95, ho96, h⟩ := h
              obtain ⟨hk97, h⟩ := h
              obtain ⟨j98, hj99, hm100, hl101, h⟩ := h
              refine mr_iald dd_Mo_lookup_119 ho96 hk97 hj99 hm100 hl101 ?_
              refine mr_iconst 1 dd_Mo_lookup_120 (by decide) ?_
              refine mr_iadd dd_Mo_lookup_121 ?_
              obtain ⟨a102, ho103, h⟩ := h
              obtain ⟨hk104, h⟩ := h
              obtain ⟨j105, hj106, hm107, hl108, h⟩ := h
              refine mr_iast dd_Mo_lookup_122 ho103 hk104 hj106 hm107 hl108 ?_
              refine mr_iconst 0 dd_Mo_lookup_123 (by decide) ?_
              exact mr_ireturn dd_Mo_lookup_124 rfl h
            · have h := h.2 hc74
              refine mr_bipush (-5) dd_Mo_lookup_77 (by decide) ?_
              exact mr_ireturn dd_Mo_lookup_79 rfl h
      · have h := h.2 hc20
        refine mr_iconst (-1) dd_Mo_lookup_23 (by decide) ?_
        exact mr_ireturn dd_Mo_lookup_24 rfl h
set_option maxHeartbeats 4000000 in
set_option maxRecDepth 100000 in
theorem sg_Mo_tag {l : Launch} {G : mm_G} {K : Option mm_V → mm_M → Prop} {M : mm_M} {a0 : Nat} {xa : Int32} {xb : Int32}
    (h : mm_k M a0 = 9 ∧ mm_Ok l G yy_Mo_lives Y_Mo_lives [.inr (some a0), .inl xa] M (fun r M1 => mm_X M M1 → ∃ x4 : Int32, r = some (.inl x4) ∧ (x4 = 0 → K (some (.inl 0)) M1) ∧ (¬ x4 = 0 → mm_Ok l G yy_Mo_isRegister Y_Mo_isRegister [.inl xb] M1 (fun r M5 => mm_X M1 M5 → ∃ x7 : Int32, r = some (.inl x7) ∧ (x7 = 0 → K (some (.inl 0)) M5) ∧ (¬ x7 = 0 → ∃ a8 : Nat, (mm_p M5 a0 5) = some a8 ∧ mm_k M5 a8 = 100 ∧ ∃ j11 : Nat, ((4 * xa) + xb) = nI j11 ∧ j11 < 2147483648 ∧ j11 < mm_l M5 a8 ∧ ((mm_i M5 a8 j11) ≤ 0 → K (some (.inl 0)) M5) ∧ (¬ (mm_i M5 a8 j11) ≤ 0 → ∃ j15 : Nat, ((4 * xa) + xb) = nI j15 ∧ j15 < 2147483648 ∧ j15 < mm_l M5 a8 ∧ ∃ a19 : Nat, (mm_p M5 a0 8) = some a19 ∧ mm_k M5 a19 = 100 ∧ ∃ j22 : Nat, ((mm_i M5 a8 j15) - 1) = nI j22 ∧ j22 < 2147483648 ∧ j22 < mm_l M5 a19 ∧ K (some (.inl (mm_i M5 a19 j22))) M5)))))) :
    mm_Ok l G yy_Mo_tag Y_Mo_tag [.inr (some a0), .inl xa, .inl xb] M K := by
  refine mm_go (by decide) rfl (fun q => by cases q) (Nat.le_of_ble_eq_true rfl) ?_
  show mm_Z l G Y_Mo_tag K M 0 0 0 [some (.inr (some a0)), some (.inl xa), some (.inl xb), none] [] M
  refine mr_aload_n dd_Mo_tag_0 rfl ?_
  refine mr_iload_n dd_Mo_tag_1 rfl ?_
  obtain ⟨hk3, h⟩ := h
  refine mr_callV0 (Yc := Y_Mo_lives) (M := M) (st := []) (vs := [.inl xa]) (ci := 8) fc_Mo_89 iv_Mo_lives sv_Mo_lives dd_Mo_tag_2 ⟨Nat.le_of_ble_eq_true rfl, Nat.le_of_ble_eq_true rfl⟩ (by decide) rfl rfl (Nat.le_of_ble_eq_true rfl) rfl hk3 rfl rfl h (fun r M1 hX2 h => ?_)
  replace h := h hX2
  obtain ⟨x4, rfl, h⟩ := h
  show mm_Z l G Y_Mo_tag K M 0 0 5 [some (.inr (some a0)), some (.inl xa), some (.inl xb), none] [.inl x4] M1
  refine mr_if_eq 32 dd_Mo_tag_5 (by decide) (fun hc5 => ?_) (fun hc5 => ?_)
  · have h := h.1 hc5
    refine mr_iconst 0 dd_Mo_tag_32 (by decide) ?_
    refine mr_istore_n dd_Mo_tag_33 (by decide) ?_
    show mm_Z l G Y_Mo_tag K M 0 0 34 [some (.inr (some a0)), some (.inl xa), some (.inl xb), some (.inl 0)] [] M1
    refine mr_iload_n dd_Mo_tag_34 rfl ?_
    refine mr_if_eq 58 dd_Mo_tag_35 (by decide) (fun _ => ?_) (fun q => absurd q (by decide))
    refine mr_iconst 0 dd_Mo_tag_58 (by decide) ?_
    exact mr_ireturn dd_Mo_tag_59 rfl h
  · have h := h.2 hc5
    refine mr_iload_n dd_Mo_tag_8 rfl ?_
    refine mr_callS0 (Yc := Y_Mo_isRegister) (M := M1) (st := []) (vs := [.inl xb]) fc_Mo_134 si_Mo_isRegister dd_Mo_tag_9 ⟨Nat.le_of_ble_eq_true rfl, Nat.le_of_ble_eq_true rfl⟩ rfl (Nat.le_of_ble_eq_true rfl) rfl rfl h (fun r M5 hX6 h => ?_)
    replace h := h hX6
    obtain ⟨x7, rfl, h⟩ := h
    show mm_Z l G Y_Mo_tag K M 0 0 12 [some (.inr (some a0)), some (.inl xa), some (.inl xb), none] [.inl x7] M5
    refine mr_if_eq 32 dd_Mo_tag_12 (by decide) (fun hc12 => ?_) (fun hc12 => ?_)
    · have h := h.1 hc12
      refine mr_iconst 0 dd_Mo_tag_32 (by decide) ?_
      refine mr_istore_n dd_Mo_tag_33 (by decide) ?_
      show mm_Z l G Y_Mo_tag K M 0 0 34 [some (.inr (some a0)), some (.inl xa), some (.inl xb), some (.inl 0)] [] M5
      refine mr_iload_n dd_Mo_tag_34 rfl ?_
      refine mr_if_eq 58 dd_Mo_tag_35 (by decide) (fun _ => ?_) (fun q => absurd q (by decide))
      refine mr_iconst 0 dd_Mo_tag_58 (by decide) ?_
      exact mr_ireturn dd_Mo_tag_59 rfl h
    · have h := h.2 hc12
      refine mr_aload_n dd_Mo_tag_15 rfl ?_
      refine mr_getr ff_Mo_23 dd_Mo_tag_16 rs_8_5 rfl (mm_Xk hX6 (mm_Xk hX2 hk3 (by decide)) (by decide)) ?_
      refine mr_iconst 4 dd_Mo_tag_19 (by decide) ?_
      refine mr_iload_n dd_Mo_tag_20 rfl ?_
      refine mr_imul dd_Mo_tag_21 ?_
      refine mr_iload_n dd_Mo_tag_22 rfl ?_
      refine mr_iadd dd_Mo_tag_23 ?_
      obtain ⟨a8, ho9, h⟩ := h
      obtain ⟨hk10, h⟩ := h
      obtain ⟨j11, hj12, hm13, hl14, h⟩ := h
      refine mr_iald dd_Mo_tag_24 ho9 hk10 hj12 hm13 hl14 ?_
      refine mr_if_le 32 dd_Mo_tag_25 (by decide) (fun hc25 => ?_) (fun hc25 => ?_)
      · have h := h.1 hc25
        refine mr_iconst 0 dd_Mo_tag_32 (by decide) ?_
        refine mr_istore_n dd_Mo_tag_33 (by decide) ?_
        show mm_Z l G Y_Mo_tag K M 0 0 34 [some (.inr (some a0)), some (.inl xa), some (.inl xb), some (.inl 0)] [] M5
        refine mr_iload_n dd_Mo_tag_34 rfl ?_
        refine mr_if_eq 58 dd_Mo_tag_35 (by decide) (fun _ => ?_) (fun q => absurd q (by decide))
        refine mr_iconst 0 dd_Mo_tag_58 (by decide) ?_
        exact mr_ireturn dd_Mo_tag_59 rfl h
      · have h := h.2 hc25
        refine mr_iconst 1 dd_Mo_tag_28 (by decide) ?_
        refine mr_goto 33 dd_Mo_tag_29 (by decide) ?_
        refine mr_istore_n dd_Mo_tag_33 (by decide) ?_
        show mm_Z l G Y_Mo_tag K M 0 0 34 [some (.inr (some a0)), some (.inl xa), some (.inl xb), some (.inl 1)] [] M5
        refine mr_iload_n dd_Mo_tag_34 rfl ?_
        refine mr_if_eq 58 dd_Mo_tag_35 (by decide) (fun q => absurd q (by decide)) (fun _ => ?_)
        refine mr_aload_n dd_Mo_tag_38 rfl ?_
        refine mr_getr ff_Mo_32 dd_Mo_tag_39 rs_8_8 rfl (mm_Xk hX6 (mm_Xk hX2 hk3 (by decide)) (by decide)) ?_
        refine mr_aload_n dd_Mo_tag_42 rfl ?_
        refine mr_getr ff_Mo_23 dd_Mo_tag_43 rs_8_5 rfl (mm_Xk hX6 (mm_Xk hX2 hk3 (by decide)) (by decide)) ?_
        refine mr_iconst 4 dd_Mo_tag_46 (by decide) ?_
        refine mr_iload_n dd_Mo_tag_47 rfl ?_
        refine mr_imul dd_Mo_tag_48 ?_
        refine mr_iload_n dd_Mo_tag_49 rfl ?_
        refine mr_iadd dd_Mo_tag_50 ?_
        obtain ⟨j15, hj16, hm17, hl18, h⟩ := h
        refine mr_iald dd_Mo_tag_51 ho9 hk10 hj16 hm17 hl18 ?_
        refine mr_iconst 1 dd_Mo_tag_52 (by decide) ?_
        refine mr_isub dd_Mo_tag_53 ?_
        obtain ⟨a19, ho20, h⟩ := h
        obtain ⟨hk21, h⟩ := h
        obtain ⟨j22, hj23, hm24, hl25, h⟩ := h
        refine mr_iald dd_Mo_tag_54 ho20 hk21 hj23 hm24 hl25 ?_
        refine mr_goto 59 dd_Mo_tag_55 (by decide) ?_
        exact mr_ireturn dd_Mo_tag_59 rfl h
set_option maxHeartbeats 4000000 in
set_option maxRecDepth 100000 in
theorem sg_Mo_store {l : Launch} {G : mm_G} {K : Option mm_V → mm_M → Prop} {M : mm_M} {a0 : Nat} {xa : Int32} {xb : Int32} {xc : Int32} {xd : Int32}
    (h : mm_k M a0 = 9 ∧ mm_Ok l G yy_Mo_lives Y_Mo_lives [.inr (some a0), .inl xa] M (fun r M1 => mm_X M M1 → ∃ x4 : Int32, r = some (.inl x4) ∧ (x4 = 0 → K (some (.inl (-1))) M1) ∧ (¬ x4 = 0 → mm_Ok l G yy_Mo_isRegister Y_Mo_isRegister [.inl xb] M1 (fun r M5 => mm_X M1 M5 → ∃ x7 : Int32, r = some (.inl x7) ∧ (x7 = 0 → K (some (.inl (-1))) M5) ∧ (¬ x7 = 0 → mm_Ok l G yy_Mo_isRegister Y_Mo_isRegister [.inl xd] M5 (fun r M8 => mm_X M5 M8 → ∃ x10 : Int32, r = some (.inl x10) ∧ (x10 = 0 → K (some (.inl (-1))) M8) ∧ (¬ x10 = 0 → (xc < 0 → K (some (.inl (-1))) M8) ∧ (¬ xc < 0 → (xc ≤ 2 → ∃ a11 : Nat, (mm_p M8 a0 5) = some a11 ∧ mm_k M8 a11 = 100 ∧ ∃ j14 : Nat, ((4 * xa) + xb) = nI j14 ∧ j14 < 2147483648 ∧ j14 < mm_l M8 a11 ∧ ∃ j18 : Nat, ((4 * xa) + xd) = nI j18 ∧ j18 < 2147483648 ∧ j18 < mm_l M8 a11 ∧ (0 ≤ ((mm_i M8 a11 j14) - 1) → ∃ a22 : Nat, (mm_p M8 a0 6) = some a22 ∧ mm_k M8 a22 = 100 ∧ ∃ j25 : Nat, ((mm_i M8 a11 j14) - 1) = nI j25 ∧ j25 < 2147483648 ∧ j25 < mm_l M8 a22 ∧ (0 ≤ ((mm_i M8 a11 j18) - 1) → ∃ j29 : Nat, ((mm_i M8 a11 j18) - 1) = nI j29 ∧ j29 < 2147483648 ∧ j29 < mm_l M8 a22 ∧ (¬ ((mm_i M8 a22 j25) - 1) = xa → (¬ ((mm_i M8 a22 j25) - 1) = 8 → mm_Ok l G yy_Mo_frozen Y_Mo_frozen [.inr (some a0), .inl ((mm_i M8 a22 j25) - 1)] M8 (fun r M33 => mm_X M8 M33 → ∃ x35 : Int32, r = some (.inl x35) ∧ (¬ x35 = 0 → K (some (.inl (-3))) M33) ∧ (x35 = 0 → (¬ ((mm_i M8 a22 j29) - 1) = ((mm_i M8 a22 j25) - 1) → K (some (.inl (-3))) M33) ∧ (((mm_i M8 a22 j29) - 1) = ((mm_i M8 a22 j25) - 1) → ∃ a36 : Nat, (mm_p M33 a0 10) = some a36 ∧ mm_k M33 a36 = 100 ∧ ∃ j39 : Nat, ((3 * ((mm_i M8 a11 j14) - 1)) + xc) = nI j39 ∧ j39 < 2147483648 ∧ j39 < mm_l M33 a36 ∧ (((mm_i M8 a22 j29) - 1) = ((mm_i M8 a22 j25) - 1) → K (some (.inl 0)) (mm_si M33 a36 j39 (((mm_i M8 a11 j18) - 1) + 1))) ∧ (¬ ((mm_i M8 a22 j29) - 1) = ((mm_i M8 a22 j25) - 1) → ∃ a43 : Nat, (mm_p (mm_si M33 a36 j39 (((mm_i M8 a11 j18) - 1) + 1)) a0 21) = some a43 ∧ mm_k (mm_si M33 a36 j39 (((mm_i M8 a11 j18) - 1) + 1)) a43 = 101 ∧ ∃ j46 : Nat, ((60 * ((mm_i M8 a22 j25) - 1)) + ((mm_i M8 a11 j18) - 1)) = nI j46 ∧ j46 < 2147483648 ∧ j46 < mm_l (mm_si M33 a36 j39 (((mm_i M8 a11 j18) - 1) + 1)) a43 ∧ K (some (.inl 0)) (mm_si (mm_si M33 a36 j39 (((mm_i M8 a11 j18) - 1) + 1)) a43 j46 1)))))) ∧ (((mm_i M8 a22 j25) - 1) = 8 → ∃ a50 : Nat, (mm_p M8 a0 0) = some a50 ∧ mm_k M8 a50 = 100 ∧ ∃ j53 : Nat, xa = nI j53 ∧ j53 < 2147483648 ∧ j53 < mm_l M8 a50 ∧ ((mm_i M8 a50 j53) < 2 → K (some (.inl (-3))) M8) ∧ (¬ (mm_i M8 a50 j53) < 2 → (((mm_i M8 a22 j29) - 1) = 8 → ∃ a57 : Nat, (mm_p M8 a0 10) = some a57 ∧ mm_k M8 a57 = 100 ∧ ∃ j60 : Nat, ((3 * ((mm_i M8 a11 j14) - 1)) + xc) = nI j60 ∧ j60 < 2147483648 ∧ j60 < mm_l M8 a57 ∧ (((mm_i M8 a22 j29) - 1) = ((mm_i M8 a22 j25) - 1) → K (some (.inl 0)) (mm_si M8 a57 j60 (((mm_i M8 a11 j18) - 1) + 1))) ∧ (¬ ((mm_i M8 a22 j29) - 1) = ((mm_i M8 a22 j25) - 1) → ∃ a64 : Nat, (mm_p (mm_si M8 a57 j60 (((mm_i M8 a11 j18) - 1) + 1)) a0 21) = some a64 ∧ mm_k (mm_si M8 a57 j60 (((mm_i M8 a11 j18) - 1) + 1)) a64 = 101 ∧ ∃ j67 : Nat, ((60 * ((mm_i M8 a22 j25) - 1)) + ((mm_i M8 a11 j18) - 1)) = nI j67 ∧ j67 < 2147483648 ∧ j67 < mm_l (mm_si M8 a57 j60 (((mm_i M8 a11 j18) - 1) + 1)) a64 ∧ K (some (.inl 0)) (mm_si (mm_si M8 a57 j60 (((mm_i M8 a11 j18) - 1) + 1)) a64 j67 1))) ∧ (¬ ((mm_i M8 a22 j29) - 1) = 8 → (¬ ((mm_i M8 a22 j29) - 1) = xa → K (some (.inl (-3))) M8) ∧ (((mm_i M8 a22 j29) - 1) = xa → ∃ a71 : Nat, (mm_p M8 a0 10) = some a71 ∧ mm_k M8 a71 = 100 ∧ ∃ j74 : Nat, ((3 * ((mm_i M8 a11 j14) - 1)) + xc) = nI j74 ∧ j74 < 2147483648 ∧ j74 < mm_l M8 a71 ∧ (((mm_i M8 a22 j29) - 1) = ((mm_i M8 a22 j25) - 1) → K (some (.inl 0)) (mm_si M8 a71 j74 (((mm_i M8 a11 j18) - 1) + 1))) ∧ (¬ ((mm_i M8 a22 j29) - 1) = ((mm_i M8 a22 j25) - 1) → ∃ a78 : Nat, (mm_p (mm_si M8 a71 j74 (((mm_i M8 a11 j18) - 1) + 1)) a0 21) = some a78 ∧ mm_k (mm_si M8 a71 j74 (((mm_i M8 a11 j18) - 1) + 1)) a78 = 101 ∧ ∃ j81 : Nat, ((60 * ((mm_i M8 a22 j25) - 1)) + ((mm_i M8 a11 j18) - 1)) = nI j81 ∧ j81 < 2147483648 ∧ j81 < mm_l (mm_si M8 a71 j74 (((mm_i M8 a11 j18) - 1) + 1)) a78 ∧ K (some (.inl 0)) (mm_si (mm_si M8 a71 j74 (((mm_i M8 a11 j18) - 1) + 1)) a78 j81 1))))))) ∧ (((mm_i M8 a22 j25) - 1) = xa → (((mm_i M8 a22 j29) - 1) = xa → ∃ a85 : Nat, (mm_p M8 a0 10) = some a85 ∧ mm_k M8 a85 = 100 ∧ ∃ j88 : Nat, ((3 * ((mm_i M8 a11 j14) - 1)) + xc) = nI j88 ∧ j88 < 2147483648 ∧ j88 < mm_l M8 a85 ∧ (((mm_i M8 a22 j29) - 1) = ((mm_i M8 a22 j25) - 1) → K (some (.inl 0)) (mm_si M8 a85 j88 (((mm_i M8 a11 j18) - 1) + 1))) ∧ (¬ ((mm_i M8 a22 j29) - 1) = ((mm_i M8 a22 j25) - 1) → ∃ a92 : Nat, (mm_p (mm_si M8 a85 j88 (((mm_i M8 a11 j18) - 1) + 1)) a0 21) = some a92 ∧ mm_k (mm_si M8 a85 j88 (((mm_i M8 a11 j18) - 1) + 1)) a92 = 101 ∧ ∃ j95 : Nat, ((60 * ((mm_i M8 a22 j25) - 1)) + ((mm_i M8 a11 j18) - 1)) = nI j95 ∧ j95 < 2147483648 ∧ j95 < mm_l (mm_si M8 a85 j88 (((mm_i M8 a11 j18) - 1) + 1)) a92 ∧ K (some (.inl 0)) (mm_si (mm_si M8 a85 j88 (((mm_i M8 a11 j18) - 1) + 1)) a92 j95 1))) ∧ (¬ ((mm_i M8 a22 j29) - 1) = xa → (((mm_i M8 a22 j29) - 1) = 8 → ∃ a99 : Nat, (mm_p M8 a0 10) = some a99 ∧ mm_k M8 a99 = 100 ∧ ∃ j102 : Nat, ((3 * ((mm_i M8 a11 j14) - 1)) + xc) = nI j102 ∧ j102 < 2147483648 ∧ j102 < mm_l M8 a99 ∧ (((mm_i M8 a22 j29) - 1) = ((mm_i M8 a22 j25) - 1) → K (some (.inl 0)) (mm_si M8 a99 j102 (((mm_i M8 a11 j18) - 1) + 1))) ∧ (¬ ((mm_i M8 a22 j29) - 1) = ((mm_i M8 a22 j25) - 1) → ∃ a106 : Nat, (mm_p (mm_si M8 a99 j102 (((mm_i M8 a11 j18) - 1) + 1)) a0 21) = some a106 ∧ mm_k (mm_si M8 a99 j102 (((mm_i M8 a11 j18) - 1) + 1)) a106 = 101 ∧ ∃ j109 : Nat, ((60 * ((mm_i M8 a22 j25) - 1)) + ((mm_i M8 a11 j18) - 1)) = nI j109 ∧ j109 < 2147483648 ∧ j109 < mm_l (mm_si M8 a99 j102 (((mm_i M8 a11 j18) - 1) + 1)) a106 ∧ K (some (.inl 0)) (mm_si (mm_si M8 a99 j102 (((mm_i M8 a11 j18) - 1) + 1)) a106 j109 1))) ∧ (¬ ((mm_i M8 a22 j29) - 1) = 8 → mm_Ok l G yy_Mo_frozen Y_Mo_frozen [.inr (some a0), .inl ((mm_i M8 a22 j29) - 1)] M8 (fun r M113 => mm_X M8 M113 → ∃ x115 : Int32, r = some (.inl x115) ∧ (x115 = 0 → K (some (.inl (-3))) M113) ∧ (¬ x115 = 0 → ∃ a116 : Nat, (mm_p M113 a0 10) = some a116 ∧ mm_k M113 a116 = 100 ∧ ∃ j119 : Nat, ((3 * ((mm_i M8 a11 j14) - 1)) + xc) = nI j119 ∧ j119 < 2147483648 ∧ j119 < mm_l M113 a116 ∧ (((mm_i M8 a22 j29) - 1) = ((mm_i M8 a22 j25) - 1) → K (some (.inl 0)) (mm_si M113 a116 j119 (((mm_i M8 a11 j18) - 1) + 1))) ∧ (¬ ((mm_i M8 a22 j29) - 1) = ((mm_i M8 a22 j25) - 1) → ∃ a123 : Nat, (mm_p (mm_si M113 a116 j119 (((mm_i M8 a11 j18) - 1) + 1)) a0 21) = some a123 ∧ mm_k (mm_si M113 a116 j119 (((mm_i M8 a11 j18) - 1) + 1)) a123 = 101 ∧ ∃ j126 : Nat, ((60 * ((mm_i M8 a22 j25) - 1)) + ((mm_i M8 a11 j18) - 1)) = nI j126 ∧ j126 < 2147483648 ∧ j126 < mm_l (mm_si M113 a116 j119 (((mm_i M8 a11 j18) - 1) + 1)) a123 ∧ K (some (.inl 0)) (mm_si (mm_si M113 a116 j119 (((mm_i M8 a11 j18) - 1) + 1)) a123 j126 1)))))))) ∧ (¬ 0 ≤ ((mm_i M8 a11 j18) - 1) → (¬ ((mm_i M8 a22 j25) - 1) = xa → (¬ ((mm_i M8 a22 j25) - 1) = 8 → mm_Ok l G yy_Mo_frozen Y_Mo_frozen [.inr (some a0), .inl ((mm_i M8 a22 j25) - 1)] M8 (fun r M130 => mm_X M8 M130 → ∃ x132 : Int32, r = some (.inl x132) ∧ (¬ x132 = 0 → K (some (.inl (-3))) M130) ∧ (x132 = 0 → (¬ ((mm_i M8 a22 j25) - 1) = ((mm_i M8 a22 j25) - 1) → K (some (.inl (-3))) M130) ∧ (((mm_i M8 a22 j25) - 1) = ((mm_i M8 a22 j25) - 1) → ∃ a133 : Nat, (mm_p M130 a0 10) = some a133 ∧ mm_k M130 a133 = 100 ∧ ∃ j136 : Nat, ((3 * ((mm_i M8 a11 j14) - 1)) + xc) = nI j136 ∧ j136 < 2147483648 ∧ j136 < mm_l M130 a133 ∧ (((mm_i M8 a22 j25) - 1) = ((mm_i M8 a22 j25) - 1) → K (some (.inl 0)) (mm_si M130 a133 j136 (((mm_i M8 a11 j18) - 1) + 1))) ∧ (¬ ((mm_i M8 a22 j25) - 1) = ((mm_i M8 a22 j25) - 1) → ∃ a140 : Nat, (mm_p (mm_si M130 a133 j136 (((mm_i M8 a11 j18) - 1) + 1)) a0 21) = some a140 ∧ mm_k (mm_si M130 a133 j136 (((mm_i M8 a11 j18) - 1) + 1)) a140 = 101 ∧ ∃ j143 : Nat, ((60 * ((mm_i M8 a22 j25) - 1)) + ((mm_i M8 a11 j18) - 1)) = nI j143 ∧ j143 < 2147483648 ∧ j143 < mm_l (mm_si M130 a133 j136 (((mm_i M8 a11 j18) - 1) + 1)) a140 ∧ K (some (.inl 0)) (mm_si (mm_si M130 a133 j136 (((mm_i M8 a11 j18) - 1) + 1)) a140 j143 1)))))) ∧ (((mm_i M8 a22 j25) - 1) = 8 → ∃ a147 : Nat, (mm_p M8 a0 0) = some a147 ∧ mm_k M8 a147 = 100 ∧ ∃ j150 : Nat, xa = nI j150 ∧ j150 < 2147483648 ∧ j150 < mm_l M8 a147 ∧ ((mm_i M8 a147 j150) < 2 → K (some (.inl (-3))) M8) ∧ (¬ (mm_i M8 a147 j150) < 2 → (((mm_i M8 a22 j25) - 1) = 8 → ∃ a154 : Nat, (mm_p M8 a0 10) = some a154 ∧ mm_k M8 a154 = 100 ∧ ∃ j157 : Nat, ((3 * ((mm_i M8 a11 j14) - 1)) + xc) = nI j157 ∧ j157 < 2147483648 ∧ j157 < mm_l M8 a154 ∧ (((mm_i M8 a22 j25) - 1) = ((mm_i M8 a22 j25) - 1) → K (some (.inl 0)) (mm_si M8 a154 j157 (((mm_i M8 a11 j18) - 1) + 1))) ∧ (¬ ((mm_i M8 a22 j25) - 1) = ((mm_i M8 a22 j25) - 1) → ∃ a161 : Nat, (mm_p (mm_si M8 a154 j157 (((mm_i M8 a11 j18) - 1) + 1)) a0 21) = some a161 ∧ mm_k (mm_si M8 a154 j157 (((mm_i M8 a11 j18) - 1) + 1)) a161 = 101 ∧ ∃ j164 : Nat, ((60 * ((mm_i M8 a22 j25) - 1)) + ((mm_i M8 a11 j18) - 1)) = nI j164 ∧ j164 < 2147483648 ∧ j164 < mm_l (mm_si M8 a154 j157 (((mm_i M8 a11 j18) - 1) + 1)) a161 ∧ K (some (.inl 0)) (mm_si (mm_si M8 a154 j157 (((mm_i M8 a11 j18) - 1) + 1)) a161 j164 1))) ∧ (¬ ((mm_i M8 a22 j25) - 1) = 8 → (¬ ((mm_i M8 a22 j25) - 1) = xa → K (some (.inl (-3))) M8) ∧ (((mm_i M8 a22 j25) - 1) = xa → ∃ a168 : Nat, (mm_p M8 a0 10) = some a168 ∧ mm_k M8 a168 = 100 ∧ ∃ j171 : Nat, ((3 * ((mm_i M8 a11 j14) - 1)) + xc) = nI j171 ∧ j171 < 2147483648 ∧ j171 < mm_l M8 a168 ∧ (((mm_i M8 a22 j25) - 1) = ((mm_i M8 a22 j25) - 1) → K (some (.inl 0)) (mm_si M8 a168 j171 (((mm_i M8 a11 j18) - 1) + 1))) ∧ (¬ ((mm_i M8 a22 j25) - 1) = ((mm_i M8 a22 j25) - 1) → ∃ a175 : Nat, (mm_p (mm_si M8 a168 j171 (((mm_i M8 a11 j18) - 1) + 1)) a0 21) = some a175 ∧ mm_k (mm_si M8 a168 j171 (((mm_i M8 a11 j18) - 1) + 1)) a175 = 101 ∧ ∃ j178 : Nat, ((60 * ((mm_i M8 a22 j25) - 1)) + ((mm_i M8 a11 j18) - 1)) = nI j178 ∧ j178 < 2147483648 ∧ j178 < mm_l (mm_si M8 a168 j171 (((mm_i M8 a11 j18) - 1) + 1)) a175 ∧ K (some (.inl 0)) (mm_si (mm_si M8 a168 j171 (((mm_i M8 a11 j18) - 1) + 1)) a175 j178 1))))))) ∧ (((mm_i M8 a22 j25) - 1) = xa → (((mm_i M8 a22 j25) - 1) = xa → ∃ a182 : Nat, (mm_p M8 a0 10) = some a182 ∧ mm_k M8 a182 = 100 ∧ ∃ j185 : Nat, ((3 * ((mm_i M8 a11 j14) - 1)) + xc) = nI j185 ∧ j185 < 2147483648 ∧ j185 < mm_l M8 a182 ∧ (((mm_i M8 a22 j25) - 1) = ((mm_i M8 a22 j25) - 1) → K (some (.inl 0)) (mm_si M8 a182 j185 (((mm_i M8 a11 j18) - 1) + 1))) ∧ (¬ ((mm_i M8 a22 j25) - 1) = ((mm_i M8 a22 j25) - 1) → ∃ a189 : Nat, (mm_p (mm_si M8 a182 j185 (((mm_i M8 a11 j18) - 1) + 1)) a0 21) = some a189 ∧ mm_k (mm_si M8 a182 j185 (((mm_i M8 a11 j18) - 1) + 1)) a189 = 101 ∧ ∃ j192 : Nat, ((60 * ((mm_i M8 a22 j25) - 1)) + ((mm_i M8 a11 j18) - 1)) = nI j192 ∧ j192 < 2147483648 ∧ j192 < mm_l (mm_si M8 a182 j185 (((mm_i M8 a11 j18) - 1) + 1)) a189 ∧ K (some (.inl 0)) (mm_si (mm_si M8 a182 j185 (((mm_i M8 a11 j18) - 1) + 1)) a189 j192 1))) ∧ (¬ ((mm_i M8 a22 j25) - 1) = xa → (((mm_i M8 a22 j25) - 1) = 8 → ∃ a196 : Nat, (mm_p M8 a0 10) = some a196 ∧ mm_k M8 a196 = 100 ∧ ∃ j199 : Nat, ((3 * ((mm_i M8 a11 j14) - 1)) + xc) = nI j199 ∧ j199 < 2147483648 ∧ j199 < mm_l M8 a196 ∧ (((mm_i M8 a22 j25) - 1) = ((mm_i M8 a22 j25) - 1) → K (some (.inl 0)) (mm_si M8 a196 j199 (((mm_i M8 a11 j18) - 1) + 1))) ∧ (¬ ((mm_i M8 a22 j25) - 1) = ((mm_i M8 a22 j25) - 1) → ∃ a203 : Nat, (mm_p (mm_si M8 a196 j199 (((mm_i M8 a11 j18) - 1) + 1)) a0 21) = some a203 ∧ mm_k (mm_si M8 a196 j199 (((mm_i M8 a11 j18) - 1) + 1)) a203 = 101 ∧ ∃ j206 : Nat, ((60 * ((mm_i M8 a22 j25) - 1)) + ((mm_i M8 a11 j18) - 1)) = nI j206 ∧ j206 < 2147483648 ∧ j206 < mm_l (mm_si M8 a196 j199 (((mm_i M8 a11 j18) - 1) + 1)) a203 ∧ K (some (.inl 0)) (mm_si (mm_si M8 a196 j199 (((mm_i M8 a11 j18) - 1) + 1)) a203 j206 1))) ∧ (¬ ((mm_i M8 a22 j25) - 1) = 8 → mm_Ok l G yy_Mo_frozen Y_Mo_frozen [.inr (some a0), .inl ((mm_i M8 a22 j25) - 1)] M8 (fun r M210 => mm_X M8 M210 → ∃ x212 : Int32, r = some (.inl x212) ∧ (x212 = 0 → K (some (.inl (-3))) M210) ∧ (¬ x212 = 0 → ∃ a213 : Nat, (mm_p M210 a0 10) = some a213 ∧ mm_k M210 a213 = 100 ∧ ∃ j216 : Nat, ((3 * ((mm_i M8 a11 j14) - 1)) + xc) = nI j216 ∧ j216 < 2147483648 ∧ j216 < mm_l M210 a213 ∧ (((mm_i M8 a22 j25) - 1) = ((mm_i M8 a22 j25) - 1) → K (some (.inl 0)) (mm_si M210 a213 j216 (((mm_i M8 a11 j18) - 1) + 1))) ∧ (¬ ((mm_i M8 a22 j25) - 1) = ((mm_i M8 a22 j25) - 1) → ∃ a220 : Nat, (mm_p (mm_si M210 a213 j216 (((mm_i M8 a11 j18) - 1) + 1)) a0 21) = some a220 ∧ mm_k (mm_si M210 a213 j216 (((mm_i M8 a11 j18) - 1) + 1)) a220 = 101 ∧ ∃ j223 : Nat, ((60 * ((mm_i M8 a22 j25) - 1)) + ((mm_i M8 a11 j18) - 1)) = nI j223 ∧ j223 < 2147483648 ∧ j223 < mm_l (mm_si M210 a213 j216 (((mm_i M8 a11 j18) - 1) + 1)) a220 ∧ K (some (.inl 0)) (mm_si (mm_si M210 a213 j216 (((mm_i M8 a11 j18) - 1) + 1)) a220 j223 1))))))))) ∧ (¬ 0 ≤ ((mm_i M8 a11 j14) - 1) → K (some (.inl (-2))) M8)) ∧ (¬ xc ≤ 2 → K (some (.inl (-1))) M8))))))))) :
    mm_Ok l G yy_Mo_store Y_Mo_store [.inr (some a0), .inl xa, .inl xb, .inl xc, .inl xd] M K := by
  refine mm_go (by decide) rfl (fun q => by cases q) (Nat.le_of_ble_eq_true rfl) ?_
  show mm_Z l G Y_Mo_store K M 0 0 0 [some (.inr (some a0)), some (.inl xa), some (.inl xb), some (.inl xc), some (.inl xd), none, none, none, none, none] [] M
  refine mr_aload_n dd_Mo_store_0 rfl ?_
  refine mr_iload_n dd_Mo_store_1 rfl ?_
  obtain ⟨hk3, h⟩ := h
  refine mr_callV0 (Yc := Y_Mo_lives) (M := M) (st := []) (vs := [.inl xa]) (ci := 8) fc_Mo_89 iv_Mo_lives sv_Mo_lives dd_Mo_store_2 ⟨Nat.le_of_ble_eq_true rfl, Nat.le_of_ble_eq_true rfl⟩ (by decide) rfl rfl (Nat.le_of_ble_eq_true rfl) rfl hk3 rfl rfl h (fun r M1 hX2 h => ?_)
  replace h := h hX2
  obtain ⟨x4, rfl, h⟩ := h
  show mm_Z l G Y_Mo_store K M 0 0 5 [some (.inr (some a0)), some (.inl xa), some (.inl xb), some (.inl xc), some (.inl xd), none, none, none, none, none] [.inl x4] M1
  refine mr_if_eq 32 dd_Mo_store_5 (by decide) (fun hc5 => ?_) (fun hc5 => ?_)
  · have h := h.1 hc5
    refine mr_iconst (-1) dd_Mo_store_32 (by decide) ?_
    exact mr_ireturn dd_Mo_store_33 rfl h
  · have h := h.2 hc5
    refine mr_iload_n dd_Mo_store_8 rfl ?_
    refine mr_callS0 (Yc := Y_Mo_isRegister) (M := M1) (st := []) (vs := [.inl xb]) fc_Mo_134 si_Mo_isRegister dd_Mo_store_9 ⟨Nat.le_of_ble_eq_true rfl, Nat.le_of_ble_eq_true rfl⟩ rfl (Nat.le_of_ble_eq_true rfl) rfl rfl h (fun r M5 hX6 h => ?_)
    replace h := h hX6
    obtain ⟨x7, rfl, h⟩ := h
    show mm_Z l G Y_Mo_store K M 0 0 12 [some (.inr (some a0)), some (.inl xa), some (.inl xb), some (.inl xc), some (.inl xd), none, none, none, none, none] [.inl x7] M5
    refine mr_if_eq 32 dd_Mo_store_12 (by decide) (fun hc12 => ?_) (fun hc12 => ?_)
    · have h := h.1 hc12
      refine mr_iconst (-1) dd_Mo_store_32 (by decide) ?_
      exact mr_ireturn dd_Mo_store_33 rfl h
    · have h := h.2 hc12
      refine mr_iload dd_Mo_store_15 rfl ?_
      refine mr_callS0 (Yc := Y_Mo_isRegister) (M := M5) (st := []) (vs := [.inl xd]) fc_Mo_134 si_Mo_isRegister dd_Mo_store_17 ⟨Nat.le_of_ble_eq_true rfl, Nat.le_of_ble_eq_true rfl⟩ rfl (Nat.le_of_ble_eq_true rfl) rfl rfl h (fun r M8 hX9 h => ?_)
      replace h := h hX9
      obtain ⟨x10, rfl, h⟩ := h
      show mm_Z l G Y_Mo_store K M 0 0 20 [some (.inr (some a0)), some (.inl xa), some (.inl xb), some (.inl xc), some (.inl xd), none, none, none, none, none] [.inl x10] M8
      refine mr_if_eq 32 dd_Mo_store_20 (by decide) (fun hc20 => ?_) (fun hc20 => ?_)
      · have h := h.1 hc20
        refine mr_iconst (-1) dd_Mo_store_32 (by decide) ?_
        exact mr_ireturn dd_Mo_store_33 rfl h
      · have h := h.2 hc20
        refine mr_iload_n dd_Mo_store_23 rfl ?_
        refine mr_if_lt 32 dd_Mo_store_24 (by decide) (fun hc24 => ?_) (fun hc24 => ?_)
        · have h := h.1 hc24
          refine mr_iconst (-1) dd_Mo_store_32 (by decide) ?_
          exact mr_ireturn dd_Mo_store_33 rfl h
        · have h := h.2 hc24
          refine mr_iload_n dd_Mo_store_27 rfl ?_
          refine mr_iconst 2 dd_Mo_store_28 (by decide) ?_
          refine mr_icmp_le 34 dd_Mo_store_29 (by decide) (fun hc29 => ?_) (fun hc29 => ?_)
          · have h := h.1 hc29
            refine mr_aload_n dd_Mo_store_34 rfl ?_
            refine mr_getr ff_Mo_23 dd_Mo_store_35 rs_8_5 rfl (mm_Xk hX9 (mm_Xk hX6 (mm_Xk hX2 hk3 (by decide)) (by decide)) (by decide)) ?_
            refine mr_iconst 4 dd_Mo_store_38 (by decide) ?_
            refine mr_iload_n dd_Mo_store_39 rfl ?_
            refine mr_imul dd_Mo_store_40 ?_
            refine mr_iload_n dd_Mo_store_41 rfl ?_
            refine mr_iadd dd_Mo_store_42 ?_
            obtain ⟨a11, ho12, h⟩ := h
            obtain ⟨hk13, h⟩ := h
            obtain ⟨j14, hj15, hm16, hl17, h⟩ := h
            refine mr_iald dd_Mo_store_43 ho12 hk13 hj15 hm16 hl17 ?_
            refine mr_iconst 1 dd_Mo_store_44 (by decide) ?_
            refine mr_isub dd_Mo_store_45 ?_
            refine mr_istore dd_Mo_store_46 (by decide) ?_
            show mm_Z l G Y_Mo_store K M 0 0 48 [some (.inr (some a0)), some (.inl xa), some (.inl xb), some (.inl xc), some (.inl xd), some (.inl ((mm_i M8 a11 j14) - 1)), none, none, none, none] [] M8
            refine mr_aload_n dd_Mo_store_48 rfl ?_
            refine mr_getr ff_Mo_23 dd_Mo_store_49 rs_8_5 rfl (mm_Xk hX9 (mm_Xk hX6 (mm_Xk hX2 hk3 (by decide)) (by decide)) (by decide)) ?_
            refine mr_iconst 4 dd_Mo_store_52 (by decide) ?_
            refine mr_iload_n dd_Mo_store_53 rfl ?_
            refine mr_imul dd_Mo_store_54 ?_
            refine mr_iload dd_Mo_store_55 rfl ?_
            refine mr_iadd dd_Mo_store_57 ?_
            obtain ⟨j18, hj19, hm20, hl21, h⟩ := h
            refine mr_iald dd_Mo_store_58 ho12 hk13 hj19 hm20 hl21 ?_
            refine mr_iconst 1 dd_Mo_store_59 (by decide) ?_
            refine mr_isub dd_Mo_store_60 ?_
            refine mr_istore dd_Mo_store_61 (by decide) ?_
            show mm_Z l G Y_Mo_store K M 0 0 63 [some (.inr (some a0)), some (.inl xa), some (.inl xb), some (.inl xc), some (.inl xd), some (.inl ((mm_i M8 a11 j14) - 1)), some (.inl ((mm_i M8 a11 j18) - 1)), none, none, none] [] M8
            refine mr_iload dd_Mo_store_63 rfl ?_
            refine mr_if_ge 71 dd_Mo_store_65 (by decide) (fun hc65 => ?_) (fun hc65 => ?_)
            · have h := h.1 hc65
              refine mr_aload_n dd_Mo_store_71 rfl ?_
              refine mr_getr ff_Mo_26 dd_Mo_store_72 rs_8_6 rfl (mm_Xk hX9 (mm_Xk hX6 (mm_Xk hX2 hk3 (by decide)) (by decide)) (by decide)) ?_
              refine mr_iload dd_Mo_store_75 rfl ?_
              obtain ⟨a22, ho23, h⟩ := h
              obtain ⟨hk24, h⟩ := h
              obtain ⟨j25, hj26, hm27, hl28, h⟩ := h
              refine mr_iald dd_Mo_store_77 ho23 hk24 hj26 hm27 hl28 ?_
              refine mr_iconst 1 dd_Mo_store_78 (by decide) ?_
              refine mr_isub dd_Mo_store_79 ?_
              refine mr_istore dd_Mo_store_80 (by decide) ?_
              show mm_Z l G Y_Mo_store K M 0 0 82 [some (.inr (some a0)), some (.inl xa), some (.inl xb), some (.inl xc), some (.inl xd), some (.inl ((mm_i M8 a11 j14) - 1)), some (.inl ((mm_i M8 a11 j18) - 1)), some (.inl ((mm_i M8 a22 j25) - 1)), none, none] [] M8
              refine mr_iload dd_Mo_store_82 rfl ?_
              refine mr_if_ge 92 dd_Mo_store_84 (by decide) (fun hc84 => ?_) (fun hc84 => ?_)
              · have h := h.1 hc84
                refine mr_aload_n dd_Mo_store_92 rfl ?_
                refine mr_getr ff_Mo_26 dd_Mo_store_93 rs_8_6 rfl (mm_Xk hX9 (mm_Xk hX6 (mm_Xk hX2 hk3 (by decide)) (by decide)) (by decide)) ?_
                refine mr_iload dd_Mo_store_96 rfl ?_
                obtain ⟨j29, hj30, hm31, hl32, h⟩ := h
                refine mr_iald dd_Mo_store_98 ho23 hk24 hj30 hm31 hl32 ?_
                refine mr_iconst 1 dd_Mo_store_99 (by decide) ?_
                refine mr_isub dd_Mo_store_100 ?_
                refine mr_istore dd_Mo_store_101 (by decide) ?_
                show mm_Z l G Y_Mo_store K M 0 0 103 [some (.inr (some a0)), some (.inl xa), some (.inl xb), some (.inl xc), some (.inl xd), some (.inl ((mm_i M8 a11 j14) - 1)), some (.inl ((mm_i M8 a11 j18) - 1)), some (.inl ((mm_i M8 a22 j25) - 1)), some (.inl ((mm_i M8 a22 j29) - 1)), none] [] M8
                refine mr_iload dd_Mo_store_103 rfl ?_
                refine mr_iload_n dd_Mo_store_105 rfl ?_
                refine mr_icmp_ne 139 dd_Mo_store_106 (by decide) (fun hc106 => ?_) (fun hc106 => ?_)
                · have h := h.1 hc106
                  refine mr_iload dd_Mo_store_139 rfl ?_
                  refine mr_bipush 8 dd_Mo_store_141 (by decide) ?_
                  refine mr_icmp_ne 177 dd_Mo_store_143 (by decide) (fun hc143 => ?_) (fun hc143 => ?_)
                  · have h := h.1 hc143
                    refine mr_aload_n dd_Mo_store_177 rfl ?_
                    refine mr_iload dd_Mo_store_178 rfl ?_
                    refine mr_callV0 (Yc := Y_Mo_frozen) (M := M8) (st := []) (vs := [.inl ((mm_i M8 a22 j25) - 1)]) (ci := 8) fc_Mo_81 iv_Mo_frozen sv_Mo_frozen dd_Mo_store_180 ⟨Nat.le_of_ble_eq_true rfl, Nat.le_of_ble_eq_true rfl⟩ (by decide) rfl rfl (Nat.le_of_ble_eq_true rfl) rfl (mm_Xk hX9 (mm_Xk hX6 (mm_Xk hX2 hk3 (by decide)) (by decide)) (by decide)) rfl rfl h (fun r M33 hX34 h => ?_)
                    replace h := h hX34
                    obtain ⟨x35, rfl, h⟩ := h
                    show mm_Z l G Y_Mo_store K M 0 0 183 [some (.inr (some a0)), some (.inl xa), some (.inl xb), some (.inl xc), some (.inl xd), some (.inl ((mm_i M8 a11 j14) - 1)), some (.inl ((mm_i M8 a11 j18) - 1)), some (.inl ((mm_i M8 a22 j25) - 1)), some (.inl ((mm_i M8 a22 j29) - 1)), none] [.inl x35] M33
                    refine mr_if_ne 197 dd_Mo_store_183 (by decide) (fun hc183 => ?_) (fun hc183 => ?_)
                    · have h := h.1 hc183
                      refine mr_iconst 0 dd_Mo_store_197 (by decide) ?_
                      refine mr_istore dd_Mo_store_198 (by decide) ?_
                      show mm_Z l G Y_Mo_store K M 0 0 200 [some (.inr (some a0)), some (.inl xa), some (.inl xb), some (.inl xc), some (.inl xd), some (.inl ((mm_i M8 a11 j14) - 1)), some (.inl ((mm_i M8 a11 j18) - 1)), some (.inl ((mm_i M8 a22 j25) - 1)), some (.inl ((mm_i M8 a22 j29) - 1)), some (.inl 0)] [] M33
                      refine mr_iload dd_Mo_store_200 rfl ?_
                      refine mr_if_ne 208 dd_Mo_store_202 (by decide) (fun q => absurd q (by decide)) (fun _ => ?_)
                      refine mr_bipush (-3) dd_Mo_store_205 (by decide) ?_
                      exact mr_ireturn dd_Mo_store_207 rfl h
                    · have h := h.2 hc183
                      refine mr_iload dd_Mo_store_186 rfl ?_
                      refine mr_iload dd_Mo_store_188 rfl ?_
                      refine mr_icmp_ne 197 dd_Mo_store_190 (by decide) (fun hc190 => ?_) (fun hc190 => ?_)
                      · have h := h.1 hc190
                        refine mr_iconst 0 dd_Mo_store_197 (by decide) ?_
                        refine mr_istore dd_Mo_store_198 (by decide) ?_
                        show mm_Z l G Y_Mo_store K M 0 0 200 [some (.inr (some a0)), some (.inl xa), some (.inl xb), some (.inl xc), some (.inl xd), some (.inl ((mm_i M8 a11 j14) - 1)), some (.inl ((mm_i M8 a11 j18) - 1)), some (.inl ((mm_i M8 a22 j25) - 1)), some (.inl ((mm_i M8 a22 j29) - 1)), some (.inl 0)] [] M33
                        refine mr_iload dd_Mo_store_200 rfl ?_
                        refine mr_if_ne 208 dd_Mo_store_202 (by decide) (fun q => absurd q (by decide)) (fun _ => ?_)
                        refine mr_bipush (-3) dd_Mo_store_205 (by decide) ?_
                        exact mr_ireturn dd_Mo_store_207 rfl h
                      · have h := h.2 hc190
                        refine mr_iconst 1 dd_Mo_store_193 (by decide) ?_
                        refine mr_goto 198 dd_Mo_store_194 (by decide) ?_
                        refine mr_istore dd_Mo_store_198 (by decide) ?_
                        show mm_Z l G Y_Mo_store K M 0 0 200 [some (.inr (some a0)), some (.inl xa), some (.inl xb), some (.inl xc), some (.inl xd), some (.inl ((mm_i M8 a11 j14) - 1)), some (.inl ((mm_i M8 a11 j18) - 1)), some (.inl ((mm_i M8 a22 j25) - 1)), some (.inl ((mm_i M8 a22 j29) - 1)), some (.inl 1)] [] M33
                        refine mr_iload dd_Mo_store_200 rfl ?_
                        refine mr_if_ne 208 dd_Mo_store_202 (by decide) (fun _ => ?_) (fun q => absurd q (by decide))
                        refine mr_aload_n dd_Mo_store_208 rfl ?_
                        refine mr_getr ff_Mo_38 dd_Mo_store_209 rs_8_10 rfl (mm_Xk hX34 (mm_Xk hX9 (mm_Xk hX6 (mm_Xk hX2 hk3 (by decide)) (by decide)) (by decide)) (by decide)) ?_
                        refine mr_iconst 3 dd_Mo_store_212 (by decide) ?_
                        refine mr_iload dd_Mo_store_213 rfl ?_
                        refine mr_imul dd_Mo_store_215 ?_
                        refine mr_iload_n dd_Mo_store_216 rfl ?_
                        refine mr_iadd dd_Mo_store_217 ?_
                        refine mr_iload dd_Mo_store_218 rfl ?_
                        refine mr_iconst 1 dd_Mo_store_220 (by decide) ?_
                        refine mr_iadd dd_Mo_store_221 ?_
                        obtain ⟨a36, ho37, h⟩ := h
                        obtain ⟨hk38, h⟩ := h
                        obtain ⟨j39, hj40, hm41, hl42, h⟩ := h
                        refine mr_iast dd_Mo_store_222 ho37 hk38 hj40 hm41 hl42 ?_
                        refine mr_iload dd_Mo_store_223 rfl ?_
                        refine mr_iload dd_Mo_store_225 rfl ?_
                        refine mr_icmp_eq 244 dd_Mo_store_227 (by decide) (fun hc227 => ?_) (fun hc227 => ?_)
                        · have h := h.1 hc227
                          refine mr_iconst 0 dd_Mo_store_244 (by decide) ?_
                          exact mr_ireturn dd_Mo_store_245 rfl h
                        · have h := h.2 hc227
                          refine mr_aload_n dd_Mo_store_230 rfl ?_
                          refine mr_getr ff_Mo_65 dd_Mo_store_231 rs_8_21 rfl (mm_Xk hX34 (mm_Xk hX9 (mm_Xk hX6 (mm_Xk hX2 hk3 (by decide)) (by decide)) (by decide)) (by decide)) ?_
                          refine mr_bipush 60 dd_Mo_store_234 (by decide) ?_
                          refine mr_iload dd_Mo_store_236 rfl ?_
                          refine mr_imul dd_Mo_store_238 ?_
                          refine mr_iload dd_Mo_store_239 rfl ?_
                          refine mr_iadd dd_Mo_store_241 ?_
                          refine mr_iconst 1 dd_Mo_store_242 (by decide) ?_
                          obtain ⟨a43, ho44, h⟩ := h
                          obtain ⟨hk45, h⟩ := h
                          obtain ⟨j46, hj47, hm48, hl49, h⟩ := h
                          refine mr_zast dd_Mo_store_243 ho44 hk45 hj47 hm48 hl49 (Or.inr rfl) ?_
                          refine mr_iconst 0 dd_Mo_store_244 (by decide) ?_
                          exact mr_ireturn dd_Mo_store_245 rfl h
                  · have h := h.2 hc143
                    refine mr_aload_n dd_Mo_store_146 rfl ?_
                    refine mr_getr ff_Mo_7 dd_Mo_store_147 rs_8_0 rfl (mm_Xk hX9 (mm_Xk hX6 (mm_Xk hX2 hk3 (by decide)) (by decide)) (by decide)) ?_
                    refine mr_iload_n dd_Mo_store_150 rfl ?_
                    obtain ⟨a50, ho51, h⟩ := h
                    obtain ⟨hk52, h⟩ := h
                    obtain ⟨j53, hj54, hm55, hl56, h⟩ := h
                    refine mr_iald dd_Mo_store_151 ho51 hk52 hj54 hm55 hl56 ?_
                    refine mr_iconst 2 dd_Mo_store_152 (by decide) ?_
                    refine mr_icmp_lt 173 dd_Mo_store_153 (by decide) (fun hc153 => ?_) (fun hc153 => ?_)
                    · have h := h.1 hc153
                      refine mr_iconst 0 dd_Mo_store_173 (by decide) ?_
                      refine mr_goto 198 dd_Mo_store_174 (by decide) ?_
                      refine mr_istore dd_Mo_store_198 (by decide) ?_
                      show mm_Z l G Y_Mo_store K M 0 0 200 [some (.inr (some a0)), some (.inl xa), some (.inl xb), some (.inl xc), some (.inl xd), some (.inl ((mm_i M8 a11 j14) - 1)), some (.inl ((mm_i M8 a11 j18) - 1)), some (.inl ((mm_i M8 a22 j25) - 1)), some (.inl ((mm_i M8 a22 j29) - 1)), some (.inl 0)] [] M8
                      refine mr_iload dd_Mo_store_200 rfl ?_
                      refine mr_if_ne 208 dd_Mo_store_202 (by decide) (fun q => absurd q (by decide)) (fun _ => ?_)
                      refine mr_bipush (-3) dd_Mo_store_205 (by decide) ?_
                      exact mr_ireturn dd_Mo_store_207 rfl h
                    · have h := h.2 hc153
                      refine mr_iload dd_Mo_store_156 rfl ?_
                      refine mr_bipush 8 dd_Mo_store_158 (by decide) ?_
                      refine mr_icmp_eq 169 dd_Mo_store_160 (by decide) (fun hc160 => ?_) (fun hc160 => ?_)
                      · have h := h.1 hc160
                        refine mr_iconst 1 dd_Mo_store_169 (by decide) ?_
                        refine mr_goto 198 dd_Mo_store_170 (by decide) ?_
                        refine mr_istore dd_Mo_store_198 (by decide) ?_
                        show mm_Z l G Y_Mo_store K M 0 0 200 [some (.inr (some a0)), some (.inl xa), some (.inl xb), some (.inl xc), some (.inl xd), some (.inl ((mm_i M8 a11 j14) - 1)), some (.inl ((mm_i M8 a11 j18) - 1)), some (.inl ((mm_i M8 a22 j25) - 1)), some (.inl ((mm_i M8 a22 j29) - 1)), some (.inl 1)] [] M8
                        refine mr_iload dd_Mo_store_200 rfl ?_
                        refine mr_if_ne 208 dd_Mo_store_202 (by decide) (fun _ => ?_) (fun q => absurd q (by decide))
                        refine mr_aload_n dd_Mo_store_208 rfl ?_
                        refine mr_getr ff_Mo_38 dd_Mo_store_209 rs_8_10 rfl (mm_Xk hX9 (mm_Xk hX6 (mm_Xk hX2 hk3 (by decide)) (by decide)) (by decide)) ?_
                        refine mr_iconst 3 dd_Mo_store_212 (by decide) ?_
                        refine mr_iload dd_Mo_store_213 rfl ?_
                        refine mr_imul dd_Mo_store_215 ?_
                        refine mr_iload_n dd_Mo_store_216 rfl ?_
                        refine mr_iadd dd_Mo_store_217 ?_
                        refine mr_iload dd_Mo_store_218 rfl ?_
                        refine mr_iconst 1 dd_Mo_store_220 (by decide) ?_
                        refine mr_iadd dd_Mo_store_221 ?_
                        obtain ⟨a57, ho58, h⟩ := h
                        obtain ⟨hk59, h⟩ := h
                        obtain ⟨j60, hj61, hm62, hl63, h⟩ := h
                        refine mr_iast dd_Mo_store_222 ho58 hk59 hj61 hm62 hl63 ?_
                        refine mr_iload dd_Mo_store_223 rfl ?_
                        refine mr_iload dd_Mo_store_225 rfl ?_
                        refine mr_icmp_eq 244 dd_Mo_store_227 (by decide) (fun hc227 => ?_) (fun hc227 => ?_)
                        · have h := h.1 hc227
                          refine mr_iconst 0 dd_Mo_store_244 (by decide) ?_
                          exact mr_ireturn dd_Mo_store_245 rfl h
                        · have h := h.2 hc227
                          refine mr_aload_n dd_Mo_store_230 rfl ?_
                          refine mr_getr ff_Mo_65 dd_Mo_store_231 rs_8_21 rfl (mm_Xk hX9 (mm_Xk hX6 (mm_Xk hX2 hk3 (by decide)) (by decide)) (by decide)) ?_
                          refine mr_bipush 60 dd_Mo_store_234 (by decide) ?_
                          refine mr_iload dd_Mo_store_236 rfl ?_
                          refine mr_imul dd_Mo_store_238 ?_
                          refine mr_iload dd_Mo_store_239 rfl ?_
                          refine mr_iadd dd_Mo_store_241 ?_
                          refine mr_iconst 1 dd_Mo_store_242 (by decide) ?_
                          obtain ⟨a64, ho65, h⟩ := h
                          obtain ⟨hk66, h⟩ := h
                          obtain ⟨j67, hj68, hm69, hl70, h⟩ := h
                          refine mr_zast dd_Mo_store_243 ho65 hk66 hj68 hm69 hl70 (Or.inr rfl) ?_
                          refine mr_iconst 0 dd_Mo_store_244 (by decide) ?_
                          exact mr_ireturn dd_Mo_store_245 rfl h
                      · have h := h.2 hc160
                        refine mr_iload dd_Mo_store_163 rfl ?_
                        refine mr_iload_n dd_Mo_store_165 rfl ?_
                        refine mr_icmp_ne 173 dd_Mo_store_166 (by decide) (fun hc166 => ?_) (fun hc166 => ?_)
                        · have h := h.1 hc166
                          refine mr_iconst 0 dd_Mo_store_173 (by decide) ?_
                          refine mr_goto 198 dd_Mo_store_174 (by decide) ?_
                          refine mr_istore dd_Mo_store_198 (by decide) ?_
                          show mm_Z l G Y_Mo_store K M 0 0 200 [some (.inr (some a0)), some (.inl xa), some (.inl xb), some (.inl xc), some (.inl xd), some (.inl ((mm_i M8 a11 j14) - 1)), some (.inl ((mm_i M8 a11 j18) - 1)), some (.inl ((mm_i M8 a22 j25) - 1)), some (.inl ((mm_i M8 a22 j29) - 1)), some (.inl 0)] [] M8
                          refine mr_iload dd_Mo_store_200 rfl ?_
                          refine mr_if_ne 208 dd_Mo_store_202 (by decide) (fun q => absurd q (by decide)) (fun _ => ?_)
                          refine mr_bipush (-3) dd_Mo_store_205 (by decide) ?_
                          exact mr_ireturn dd_Mo_store_207 rfl h
                        · have h := h.2 hc166
                          refine mr_iconst 1 dd_Mo_store_169 (by decide) ?_
                          refine mr_goto 198 dd_Mo_store_170 (by decide) ?_
                          refine mr_istore dd_Mo_store_198 (by decide) ?_
                          show mm_Z l G Y_Mo_store K M 0 0 200 [some (.inr (some a0)), some (.inl xa), some (.inl xb), some (.inl xc), some (.inl xd), some (.inl ((mm_i M8 a11 j14) - 1)), some (.inl ((mm_i M8 a11 j18) - 1)), some (.inl ((mm_i M8 a22 j25) - 1)), some (.inl ((mm_i M8 a22 j29) - 1)), some (.inl 1)] [] M8
                          refine mr_iload dd_Mo_store_200 rfl ?_
                          refine mr_if_ne 208 dd_Mo_store_202 (by decide) (fun _ => ?_) (fun q => absurd q (by decide))
                          refine mr_aload_n dd_Mo_store_208 rfl ?_
                          refine mr_getr ff_Mo_38 dd_Mo_store_209 rs_8_10 rfl (mm_Xk hX9 (mm_Xk hX6 (mm_Xk hX2 hk3 (by decide)) (by decide)) (by decide)) ?_
                          refine mr_iconst 3 dd_Mo_store_212 (by decide) ?_
                          refine mr_iload dd_Mo_store_213 rfl ?_
                          refine mr_imul dd_Mo_store_215 ?_
                          refine mr_iload_n dd_Mo_store_216 rfl ?_
                          refine mr_iadd dd_Mo_store_217 ?_
                          refine mr_iload dd_Mo_store_218 rfl ?_
                          refine mr_iconst 1 dd_Mo_store_220 (by decide) ?_
                          refine mr_iadd dd_Mo_store_221 ?_
                          obtain ⟨a71, ho72, h⟩ := h
                          obtain ⟨hk73, h⟩ := h
                          obtain ⟨j74, hj75, hm76, hl77, h⟩ := h
                          refine mr_iast dd_Mo_store_222 ho72 hk73 hj75 hm76 hl77 ?_
                          refine mr_iload dd_Mo_store_223 rfl ?_
                          refine mr_iload dd_Mo_store_225 rfl ?_
                          refine mr_icmp_eq 244 dd_Mo_store_227 (by decide) (fun hc227 => ?_) (fun hc227 => ?_)
                          · have h := h.1 hc227
                            refine mr_iconst 0 dd_Mo_store_244 (by decide) ?_
                            exact mr_ireturn dd_Mo_store_245 rfl h
                          · have h := h.2 hc227
                            refine mr_aload_n dd_Mo_store_230 rfl ?_
                            refine mr_getr ff_Mo_65 dd_Mo_store_231 rs_8_21 rfl (mm_Xk hX9 (mm_Xk hX6 (mm_Xk hX2 hk3 (by decide)) (by decide)) (by decide)) ?_
                            refine mr_bipush 60 dd_Mo_store_234 (by decide) ?_
                            refine mr_iload dd_Mo_store_236 rfl ?_
                            refine mr_imul dd_Mo_store_238 ?_
                            refine mr_iload dd_Mo_store_239 rfl ?_
                            refine mr_iadd dd_Mo_store_241 ?_
                            refine mr_iconst 1 dd_Mo_store_242 (by decide) ?_
                            obtain ⟨a78, ho79, h⟩ := h
                            obtain ⟨hk80, h⟩ := h
                            obtain ⟨j81, hj82, hm83, hl84, h⟩ := h
                            refine mr_zast dd_Mo_store_243 ho79 hk80 hj82 hm83 hl84 (Or.inr rfl) ?_
                            refine mr_iconst 0 dd_Mo_store_244 (by decide) ?_
                            exact mr_ireturn dd_Mo_store_245 rfl h
                · have h := h.2 hc106
                  refine mr_iload dd_Mo_store_109 rfl ?_
                  refine mr_iload_n dd_Mo_store_111 rfl ?_
                  refine mr_icmp_eq 131 dd_Mo_store_112 (by decide) (fun hc112 => ?_) (fun hc112 => ?_)
                  · have h := h.1 hc112
                    refine mr_iconst 1 dd_Mo_store_131 (by decide) ?_
                    refine mr_goto 198 dd_Mo_store_132 (by decide) ?_
                    refine mr_istore dd_Mo_store_198 (by decide) ?_
                    show mm_Z l G Y_Mo_store K M 0 0 200 [some (.inr (some a0)), some (.inl xa), some (.inl xb), some (.inl xc), some (.inl xd), some (.inl ((mm_i M8 a11 j14) - 1)), some (.inl ((mm_i M8 a11 j18) - 1)), some (.inl ((mm_i M8 a22 j25) - 1)), some (.inl ((mm_i M8 a22 j29) - 1)), some (.inl 1)] [] M8
                    refine mr_iload dd_Mo_store_200 rfl ?_
                    refine mr_if_ne 208 dd_Mo_store_202 (by decide) (fun _ => ?_) (fun q => absurd q (by decide))
                    refine mr_aload_n dd_Mo_store_208 rfl ?_
                    refine mr_getr ff_Mo_38 dd_Mo_store_209 rs_8_10 rfl (mm_Xk hX9 (mm_Xk hX6 (mm_Xk hX2 hk3 (by decide)) (by decide)) (by decide)) ?_
                    refine mr_iconst 3 dd_Mo_store_212 (by decide) ?_
                    refine mr_iload dd_Mo_store_213 rfl ?_
                    refine mr_imul dd_Mo_store_215 ?_
                    refine mr_iload_n dd_Mo_store_216 rfl ?_
                    refine mr_iadd dd_Mo_store_217 ?_
                    refine mr_iload dd_Mo_store_218 rfl ?_
                    refine mr_iconst 1 dd_Mo_store_220 (by decide) ?_
                    refine mr_iadd dd_Mo_store_221 ?_
                    obtain ⟨a85, ho86, h⟩ := h
                    obtain ⟨hk87, h⟩ := h
                    obtain ⟨j88, hj89, hm90, hl91, h⟩ := h
                    refine mr_iast dd_Mo_store_222 ho86 hk87 hj89 hm90 hl91 ?_
                    refine mr_iload dd_Mo_store_223 rfl ?_
                    refine mr_iload dd_Mo_store_225 rfl ?_
                    refine mr_icmp_eq 244 dd_Mo_store_227 (by decide) (fun hc227 => ?_) (fun hc227 => ?_)
                    · have h := h.1 hc227
                      refine mr_iconst 0 dd_Mo_store_244 (by decide) ?_
                      exact mr_ireturn dd_Mo_store_245 rfl h
                    · have h := h.2 hc227
                      refine mr_aload_n dd_Mo_store_230 rfl ?_
                      refine mr_getr ff_Mo_65 dd_Mo_store_231 rs_8_21 rfl (mm_Xk hX9 (mm_Xk hX6 (mm_Xk hX2 hk3 (by decide)) (by decide)) (by decide)) ?_
                      refine mr_bipush 60 dd_Mo_store_234 (by decide) ?_
                      refine mr_iload dd_Mo_store_236 rfl ?_
                      refine mr_imul dd_Mo_store_238 ?_
                      refine mr_iload dd_Mo_store_239 rfl ?_
                      refine mr_iadd dd_Mo_store_241 ?_
                      refine mr_iconst 1 dd_Mo_store_242 (by decide) ?_
                      obtain ⟨a92, ho93, h⟩ := h
                      obtain ⟨hk94, h⟩ := h
                      obtain ⟨j95, hj96, hm97, hl98, h⟩ := h
                      refine mr_zast dd_Mo_store_243 ho93 hk94 hj96 hm97 hl98 (Or.inr rfl) ?_
                      refine mr_iconst 0 dd_Mo_store_244 (by decide) ?_
                      exact mr_ireturn dd_Mo_store_245 rfl h
                  · have h := h.2 hc112
                    refine mr_iload dd_Mo_store_115 rfl ?_
                    refine mr_bipush 8 dd_Mo_store_117 (by decide) ?_
                    refine mr_icmp_eq 131 dd_Mo_store_119 (by decide) (fun hc119 => ?_) (fun hc119 => ?_)
                    · have h := h.1 hc119
                      refine mr_iconst 1 dd_Mo_store_131 (by decide) ?_
                      refine mr_goto 198 dd_Mo_store_132 (by decide) ?_
                      refine mr_istore dd_Mo_store_198 (by decide) ?_
                      show mm_Z l G Y_Mo_store K M 0 0 200 [some (.inr (some a0)), some (.inl xa), some (.inl xb), some (.inl xc), some (.inl xd), some (.inl ((mm_i M8 a11 j14) - 1)), some (.inl ((mm_i M8 a11 j18) - 1)), some (.inl ((mm_i M8 a22 j25) - 1)), some (.inl ((mm_i M8 a22 j29) - 1)), some (.inl 1)] [] M8
                      refine mr_iload dd_Mo_store_200 rfl ?_
                      refine mr_if_ne 208 dd_Mo_store_202 (by decide) (fun _ => ?_) (fun q => absurd q (by decide))
                      refine mr_aload_n dd_Mo_store_208 rfl ?_
                      refine mr_getr ff_Mo_38 dd_Mo_store_209 rs_8_10 rfl (mm_Xk hX9 (mm_Xk hX6 (mm_Xk hX2 hk3 (by decide)) (by decide)) (by decide)) ?_
                      refine mr_iconst 3 dd_Mo_store_212 (by decide) ?_
                      refine mr_iload dd_Mo_store_213 rfl ?_
                      refine mr_imul dd_Mo_store_215 ?_
                      refine mr_iload_n dd_Mo_store_216 rfl ?_
                      refine mr_iadd dd_Mo_store_217 ?_
                      refine mr_iload dd_Mo_store_218 rfl ?_
                      refine mr_iconst 1 dd_Mo_store_220 (by decide) ?_
                      refine mr_iadd dd_Mo_store_221 ?_
                      obtain ⟨a99, ho100, h⟩ := h
                      obtain ⟨hk101, h⟩ := h
                      obtain ⟨j102, hj103, hm104, hl105, h⟩ := h
                      refine mr_iast dd_Mo_store_222 ho100 hk101 hj103 hm104 hl105 ?_
                      refine mr_iload dd_Mo_store_223 rfl ?_
                      refine mr_iload dd_Mo_store_225 rfl ?_
                      refine mr_icmp_eq 244 dd_Mo_store_227 (by decide) (fun hc227 => ?_) (fun hc227 => ?_)
                      · have h := h.1 hc227
                        refine mr_iconst 0 dd_Mo_store_244 (by decide) ?_
                        exact mr_ireturn dd_Mo_store_245 rfl h
                      · have h := h.2 hc227
                        refine mr_aload_n dd_Mo_store_230 rfl ?_
                        refine mr_getr ff_Mo_65 dd_Mo_store_231 rs_8_21 rfl (mm_Xk hX9 (mm_Xk hX6 (mm_Xk hX2 hk3 (by decide)) (by decide)) (by decide)) ?_
                        refine mr_bipush 60 dd_Mo_store_234 (by decide) ?_
                        refine mr_iload dd_Mo_store_236 rfl ?_
                        refine mr_imul dd_Mo_store_238 ?_
                        refine mr_iload dd_Mo_store_239 rfl ?_
                        refine mr_iadd dd_Mo_store_241 ?_
                        refine mr_iconst 1 dd_Mo_store_242 (by decide) ?_
                        obtain ⟨a106, ho107, h⟩ := h
                        obtain ⟨hk108, h⟩ := h
                        obtain ⟨j109, hj110, hm111, hl112, h⟩ := h
                        refine mr_zast dd_Mo_store_243 ho107 hk108 hj110 hm111 hl112 (Or.inr rfl) ?_
                        refine mr_iconst 0 dd_Mo_store_244 (by decide) ?_
                        exact mr_ireturn dd_Mo_store_245 rfl h
                    · have h := h.2 hc119
                      refine mr_aload_n dd_Mo_store_122 rfl ?_
                      refine mr_iload dd_Mo_store_123 rfl ?_
                      refine mr_callV0 (Yc := Y_Mo_frozen) (M := M8) (st := []) (vs := [.inl ((mm_i M8 a22 j29) - 1)]) (ci := 8) fc_Mo_81 iv_Mo_frozen sv_Mo_frozen dd_Mo_store_125 ⟨Nat.le_of_ble_eq_true rfl, Nat.le_of_ble_eq_true rfl⟩ (by decide) rfl rfl (Nat.le_of_ble_eq_true rfl) rfl (mm_Xk hX9 (mm_Xk hX6 (mm_Xk hX2 hk3 (by decide)) (by decide)) (by decide)) rfl rfl h (fun r M113 hX114 h => ?_)
                      replace h := h hX114
                      obtain ⟨x115, rfl, h⟩ := h
                      show mm_Z l G Y_Mo_store K M 0 0 128 [some (.inr (some a0)), some (.inl xa), some (.inl xb), some (.inl xc), some (.inl xd), some (.inl ((mm_i M8 a11 j14) - 1)), some (.inl ((mm_i M8 a11 j18) - 1)), some (.inl ((mm_i M8 a22 j25) - 1)), some (.inl ((mm_i M8 a22 j29) - 1)), none] [.inl x115] M113
                      refine mr_if_eq 135 dd_Mo_store_128 (by decide) (fun hc128 => ?_) (fun hc128 => ?_)
                      · have h := h.1 hc128
                        refine mr_iconst 0 dd_Mo_store_135 (by decide) ?_
                        refine mr_goto 198 dd_Mo_store_136 (by decide) ?_
                        refine mr_istore dd_Mo_store_198 (by decide) ?_
                        show mm_Z l G Y_Mo_store K M 0 0 200 [some (.inr (some a0)), some (.inl xa), some (.inl xb), some (.inl xc), some (.inl xd), some (.inl ((mm_i M8 a11 j14) - 1)), some (.inl ((mm_i M8 a11 j18) - 1)), some (.inl ((mm_i M8 a22 j25) - 1)), some (.inl ((mm_i M8 a22 j29) - 1)), some (.inl 0)] [] M113
                        refine mr_iload dd_Mo_store_200 rfl ?_
                        refine mr_if_ne 208 dd_Mo_store_202 (by decide) (fun q => absurd q (by decide)) (fun _ => ?_)
                        refine mr_bipush (-3) dd_Mo_store_205 (by decide) ?_
                        exact mr_ireturn dd_Mo_store_207 rfl h
                      · have h := h.2 hc128
                        refine mr_iconst 1 dd_Mo_store_131 (by decide) ?_
                        refine mr_goto 198 dd_Mo_store_132 (by decide) ?_
                        refine mr_istore dd_Mo_store_198 (by decide) ?_
                        show mm_Z l G Y_Mo_store K M 0 0 200 [some (.inr (some a0)), some (.inl xa), some (.inl xb), some (.inl xc), some (.inl xd), some (.inl ((mm_i M8 a11 j14) - 1)), some (.inl ((mm_i M8 a11 j18) - 1)), some (.inl ((mm_i M8 a22 j25) - 1)), some (.inl ((mm_i M8 a22 j29) - 1)), some (.inl 1)] [] M113
                        refine mr_iload dd_Mo_store_200 rfl ?_
                        refine mr_if_ne 208 dd_Mo_store_202 (by decide) (fun _ => ?_) (fun q => absurd q (by decide))
                        refine mr_aload_n dd_Mo_store_208 rfl ?_
                        refine mr_getr ff_Mo_38 dd_Mo_store_209 rs_8_10 rfl (mm_Xk hX114 (mm_Xk hX9 (mm_Xk hX6 (mm_Xk hX2 hk3 (by decide)) (by decide)) (by decide)) (by decide)) ?_
                        refine mr_iconst 3 dd_Mo_store_212 (by decide) ?_
                        refine mr_iload dd_Mo_store_213 rfl ?_
                        refine mr_imul dd_Mo_store_215 ?_
                        refine mr_iload_n dd_Mo_store_216 rfl ?_
                        refine mr_iadd dd_Mo_store_217 ?_
                        refine mr_iload dd_Mo_store_218 rfl ?_
                        refine mr_iconst 1 dd_Mo_store_220 (by decide) ?_
                        refine mr_iadd dd_Mo_store_221 ?_
                        obtain ⟨a116, ho117, h⟩ := h
                        obtain ⟨hk118, h⟩ := h
                        obtain ⟨j119, hj120, hm121, hl122, h⟩ := h
                        refine mr_iast dd_Mo_store_222 ho117 hk118 hj120 hm121 hl122 ?_
                        refine mr_iload dd_Mo_store_223 rfl ?_
                        refine mr_iload dd_Mo_store_225 rfl ?_
                        refine mr_icmp_eq 244 dd_Mo_store_227 (by decide) (fun hc227 => ?_) (fun hc227 => ?_)
                        · have h := h.1 hc227
                          refine mr_iconst 0 dd_Mo_store_244 (by decide) ?_
                          exact mr_ireturn dd_Mo_store_245 rfl h
                        · have h := h.2 hc227
                          refine mr_aload_n dd_Mo_store_230 rfl ?_
                          refine mr_getr ff_Mo_65 dd_Mo_store_231 rs_8_21 rfl (mm_Xk hX114 (mm_Xk hX9 (mm_Xk hX6 (mm_Xk hX2 hk3 (by decide)) (by decide)) (by decide)) (by decide)) ?_
                          refine mr_bipush 60 dd_Mo_store_234 (by decide) ?_
                          refine mr_iload dd_Mo_store_236 rfl ?_
                          refine mr_imul dd_Mo_store_238 ?_
                          refine mr_iload dd_Mo_store_239 rfl ?_
                          refine mr_iadd dd_Mo_store_241 ?_
                          refine mr_iconst 1 dd_Mo_store_242 (by decide) ?_
                          obtain ⟨a123, ho124, h⟩ := h
                          obtain ⟨hk125, h⟩ := h
                          obtain ⟨j126, hj127, hm128, hl129, h⟩ := h
                          refine mr_zast dd_Mo_store_243 ho124 hk125 hj127 hm128 hl129 (Or.inr rfl) ?_
                          refine mr_iconst 0 dd_Mo_store_244 (by decide) ?_
                          exact mr_ireturn dd_Mo_store_245 rfl h
              · have h := h.2 hc84
                refine mr_iload dd_Mo_store_87 rfl ?_
                refine mr_goto 101 dd_Mo_store_89 (by decide) ?_
                refine mr_istore dd_Mo_store_101 (by decide) ?_
                show mm_Z l G Y_Mo_store K M 0 0 103 [some (.inr (some a0)), some (.inl xa), some (.inl xb), some (.inl xc), some (.inl xd), some (.inl ((mm_i M8 a11 j14) - 1)), some (.inl ((mm_i M8 a11 j18) - 1)), some (.inl ((mm_i M8 a22 j25) - 1)), some (.inl ((mm_i M8 a22 j25) - 1)), none] [] M8
                refine mr_iload dd_Mo_store_103 rfl ?_
                refine mr_iload_n dd_Mo_store_105 rfl ?_
                refine mr_icmp_ne 139 dd_Mo_store_106 (by decide) (fun hc106 => ?_) (fun hc106 => ?_)
                · have h := h.1 hc106
                  refine mr_iload dd_Mo_store_139 rfl ?_
                  refine mr_bipush 8 dd_Mo_store_141 (by decide) ?_
                  refine mr_icmp_ne 177 dd_Mo_store_143 (by decide) (fun hc143 => ?_) (fun hc143 => ?_)
                  · have h := h.1 hc143
                    refine mr_aload_n dd_Mo_store_177 rfl ?_
                    refine mr_iload dd_Mo_store_178 rfl ?_
                    refine mr_callV0 (Yc := Y_Mo_frozen) (M := M8) (st := []) (vs := [.inl ((mm_i M8 a22 j25) - 1)]) (ci := 8) fc_Mo_81 iv_Mo_frozen sv_Mo_frozen dd_Mo_store_180 ⟨Nat.le_of_ble_eq_true rfl, Nat.le_of_ble_eq_true rfl⟩ (by decide) rfl rfl (Nat.le_of_ble_eq_true rfl) rfl (mm_Xk hX9 (mm_Xk hX6 (mm_Xk hX2 hk3 (by decide)) (by decide)) (by decide)) rfl rfl h (fun r M130 hX131 h => ?_)
                    replace h := h hX131
                    obtain ⟨x132, rfl, h⟩ := h
                    show mm_Z l G Y_Mo_store K M 0 0 183 [some (.inr (some a0)), some (.inl xa), some (.inl xb), some (.inl xc), some (.inl xd), some (.inl ((mm_i M8 a11 j14) - 1)), some (.inl ((mm_i M8 a11 j18) - 1)), some (.inl ((mm_i M8 a22 j25) - 1)), some (.inl ((mm_i M8 a22 j25) - 1)), none] [.inl x132] M130
                    refine mr_if_ne 197 dd_Mo_store_183 (by decide) (fun hc183 => ?_) (fun hc183 => ?_)
                    · have h := h.1 hc183
                      refine mr_iconst 0 dd_Mo_store_197 (by decide) ?_
                      refine mr_istore dd_Mo_store_198 (by decide) ?_
                      show mm_Z l G Y_Mo_store K M 0 0 200 [some (.inr (some a0)), some (.inl xa), some (.inl xb), some (.inl xc), some (.inl xd), some (.inl ((mm_i M8 a11 j14) - 1)), some (.inl ((mm_i M8 a11 j18) - 1)), some (.inl ((mm_i M8 a22 j25) - 1)), some (.inl ((mm_i M8 a22 j25) - 1)), some (.inl 0)] [] M130
                      refine mr_iload dd_Mo_store_200 rfl ?_
                      refine mr_if_ne 208 dd_Mo_store_202 (by decide) (fun q => absurd q (by decide)) (fun _ => ?_)
                      refine mr_bipush (-3) dd_Mo_store_205 (by decide) ?_
                      exact mr_ireturn dd_Mo_store_207 rfl h
                    · have h := h.2 hc183
                      refine mr_iload dd_Mo_store_186 rfl ?_
                      refine mr_iload dd_Mo_store_188 rfl ?_
                      refine mr_icmp_ne 197 dd_Mo_store_190 (by decide) (fun hc190 => ?_) (fun hc190 => ?_)
                      · have h := h.1 hc190
                        refine mr_iconst 0 dd_Mo_store_197 (by decide) ?_
                        refine mr_istore dd_Mo_store_198 (by decide) ?_
                        show mm_Z l G Y_Mo_store K M 0 0 200 [some (.inr (some a0)), some (.inl xa), some (.inl xb), some (.inl xc), some (.inl xd), some (.inl ((mm_i M8 a11 j14) - 1)), some (.inl ((mm_i M8 a11 j18) - 1)), some (.inl ((mm_i M8 a22 j25) - 1)), some (.inl ((mm_i M8 a22 j25) - 1)), some (.inl 0)] [] M130
                        refine mr_iload dd_Mo_store_200 rfl ?_
                        refine mr_if_ne 208 dd_Mo_store_202 (by decide) (fun q => absurd q (by decide)) (fun _ => ?_)
                        refine mr_bipush (-3) dd_Mo_store_205 (by decide) ?_
                        exact mr_ireturn dd_Mo_store_207 rfl h
                      · have h := h.2 hc190
                        refine mr_iconst 1 dd_Mo_store_193 (by decide) ?_
                        refine mr_goto 198 dd_Mo_store_194 (by decide) ?_
                        refine mr_istore dd_Mo_store_198 (by decide) ?_
                        show mm_Z l G Y_Mo_store K M 0 0 200 [some (.inr (some a0)), some (.inl xa), some (.inl xb), some (.inl xc), some (.inl xd), some (.inl ((mm_i M8 a11 j14) - 1)), some (.inl ((mm_i M8 a11 j18) - 1)), some (.inl ((mm_i M8 a22 j25) - 1)), some (.inl ((mm_i M8 a22 j25) - 1)), some (.inl 1)] [] M130
                        refine mr_iload dd_Mo_store_200 rfl ?_
                        refine mr_if_ne 208 dd_Mo_store_202 (by decide) (fun _ => ?_) (fun q => absurd q (by decide))
                        refine mr_aload_n dd_Mo_store_208 rfl ?_
                        refine mr_getr ff_Mo_38 dd_Mo_store_209 rs_8_10 rfl (mm_Xk hX131 (mm_Xk hX9 (mm_Xk hX6 (mm_Xk hX2 hk3 (by decide)) (by decide)) (by decide)) (by decide)) ?_
                        refine mr_iconst 3 dd_Mo_store_212 (by decide) ?_
                        refine mr_iload dd_Mo_store_213 rfl ?_
                        refine mr_imul dd_Mo_store_215 ?_
                        refine mr_iload_n dd_Mo_store_216 rfl ?_
                        refine mr_iadd dd_Mo_store_217 ?_
                        refine mr_iload dd_Mo_store_218 rfl ?_
                        refine mr_iconst 1 dd_Mo_store_220 (by decide) ?_
                        refine mr_iadd dd_Mo_store_221 ?_
                        obtain ⟨a133, ho134, h⟩ := h
                        obtain ⟨hk135, h⟩ := h
                        obtain ⟨j136, hj137, hm138, hl139, h⟩ := h
                        refine mr_iast dd_Mo_store_222 ho134 hk135 hj137 hm138 hl139 ?_
                        refine mr_iload dd_Mo_store_223 rfl ?_
                        refine mr_iload dd_Mo_store_225 rfl ?_
                        refine mr_icmp_eq 244 dd_Mo_store_227 (by decide) (fun hc227 => ?_) (fun hc227 => ?_)
                        · have h := h.1 hc227
                          refine mr_iconst 0 dd_Mo_store_244 (by decide) ?_
                          exact mr_ireturn dd_Mo_store_245 rfl h
                        · have h := h.2 hc227
                          refine mr_aload_n dd_Mo_store_230 rfl ?_
                          refine mr_getr ff_Mo_65 dd_Mo_store_231 rs_8_21 rfl (mm_Xk hX131 (mm_Xk hX9 (mm_Xk hX6 (mm_Xk hX2 hk3 (by decide)) (by decide)) (by decide)) (by decide)) ?_
                          refine mr_bipush 60 dd_Mo_store_234 (by decide) ?_
                          refine mr_iload dd_Mo_store_236 rfl ?_
                          refine mr_imul dd_Mo_store_238 ?_
                          refine mr_iload dd_Mo_store_239 rfl ?_
                          refine mr_iadd dd_Mo_store_241 ?_
                          refine mr_iconst 1 dd_Mo_store_242 (by decide) ?_
                          obtain ⟨a140, ho141, h⟩ := h
                          obtain ⟨hk142, h⟩ := h
                          obtain ⟨j143, hj144, hm145, hl146, h⟩ := h
                          refine mr_zast dd_Mo_store_243 ho141 hk142 hj144 hm145 hl146 (Or.inr rfl) ?_
                          refine mr_iconst 0 dd_Mo_store_244 (by decide) ?_
                          exact mr_ireturn dd_Mo_store_245 rfl h
                  · have h := h.2 hc143
                    refine mr_aload_n dd_Mo_store_146 rfl ?_
                    refine mr_getr ff_Mo_7 dd_Mo_store_147 rs_8_0 rfl (mm_Xk hX9 (mm_Xk hX6 (mm_Xk hX2 hk3 (by decide)) (by decide)) (by decide)) ?_
                    refine mr_iload_n dd_Mo_store_150 rfl ?_
                    obtain ⟨a147, ho148, h⟩ := h
                    obtain ⟨hk149, h⟩ := h
                    obtain ⟨j150, hj151, hm152, hl153, h⟩ := h
                    refine mr_iald dd_Mo_store_151 ho148 hk149 hj151 hm152 hl153 ?_
                    refine mr_iconst 2 dd_Mo_store_152 (by decide) ?_
                    refine mr_icmp_lt 173 dd_Mo_store_153 (by decide) (fun hc153 => ?_) (fun hc153 => ?_)
                    · have h := h.1 hc153
                      refine mr_iconst 0 dd_Mo_store_173 (by decide) ?_
                      refine mr_goto 198 dd_Mo_store_174 (by decide) ?_
                      refine mr_istore dd_Mo_store_198 (by decide) ?_
                      show mm_Z l G Y_Mo_store K M 0 0 200 [some (.inr (some a0)), some (.inl xa), some (.inl xb), some (.inl xc), some (.inl xd), some (.inl ((mm_i M8 a11 j14) - 1)), some (.inl ((mm_i M8 a11 j18) - 1)), some (.inl ((mm_i M8 a22 j25) - 1)), some (.inl ((mm_i M8 a22 j25) - 1)), some (.inl 0)] [] M8
                      refine mr_iload dd_Mo_store_200 rfl ?_
                      refine mr_if_ne 208 dd_Mo_store_202 (by decide) (fun q => absurd q (by decide)) (fun _ => ?_)
                      refine mr_bipush (-3) dd_Mo_store_205 (by decide) ?_
                      exact mr_ireturn dd_Mo_store_207 rfl h
                    · have h := h.2 hc153
                      refine mr_iload dd_Mo_store_156 rfl ?_
                      refine mr_bipush 8 dd_Mo_store_158 (by decide) ?_
                      refine mr_icmp_eq 169 dd_Mo_store_160 (by decide) (fun hc160 => ?_) (fun hc160 => ?_)
                      · have h := h.1 hc160
                        refine mr_iconst 1 dd_Mo_store_169 (by decide) ?_
                        refine mr_goto 198 dd_Mo_store_170 (by decide) ?_
                        refine mr_istore dd_Mo_store_198 (by decide) ?_
                        show mm_Z l G Y_Mo_store K M 0 0 200 [some (.inr (some a0)), some (.inl xa), some (.inl xb), some (.inl xc), some (.inl xd), some (.inl ((mm_i M8 a11 j14) - 1)), some (.inl ((mm_i M8 a11 j18) - 1)), some (.inl ((mm_i M8 a22 j25) - 1)), some (.inl ((mm_i M8 a22 j25) - 1)), some (.inl 1)] [] M8
                        refine mr_iload dd_Mo_store_200 rfl ?_
                        refine mr_if_ne 208 dd_Mo_store_202 (by decide) (fun _ => ?_) (fun q => absurd q (by decide))
                        refine mr_aload_n dd_Mo_store_208 rfl ?_
                        refine mr_getr ff_Mo_38 dd_Mo_store_209 rs_8_10 rfl (mm_Xk hX9 (mm_Xk hX6 (mm_Xk hX2 hk3 (by decide)) (by decide)) (by decide)) ?_
                        refine mr_iconst 3 dd_Mo_store_212 (by decide) ?_
                        refine mr_iload dd_Mo_store_213 rfl ?_
                        refine mr_imul dd_Mo_store_215 ?_
                        refine mr_iload_n dd_Mo_store_216 rfl ?_
                        refine mr_iadd dd_Mo_store_217 ?_
                        refine mr_iload dd_Mo_store_218 rfl ?_
                        refine mr_iconst 1 dd_Mo_store_220 (by decide) ?_
                        refine mr_iadd dd_Mo_store_221 ?_
                        obtain ⟨a154, ho155, h⟩ := h
                        obtain ⟨hk156, h⟩ := h
                        obtain ⟨j157, hj158, hm159, hl160, h⟩ := h
                        refine mr_iast dd_Mo_store_222 ho155 hk156 hj158 hm159 hl160 ?_
                        refine mr_iload dd_Mo_store_223 rfl ?_
                        refine mr_iload dd_Mo_store_225 rfl ?_
                        refine mr_icmp_eq 244 dd_Mo_store_227 (by decide) (fun hc227 => ?_) (fun hc227 => ?_)
                        · have h := h.1 hc227
                          refine mr_iconst 0 dd_Mo_store_244 (by decide) ?_
                          exact mr_ireturn dd_Mo_store_245 rfl h
                        · have h := h.2 hc227
                          refine mr_aload_n dd_Mo_store_230 rfl ?_
                          refine mr_getr ff_Mo_65 dd_Mo_store_231 rs_8_21 rfl (mm_Xk hX9 (mm_Xk hX6 (mm_Xk hX2 hk3 (by decide)) (by decide)) (by decide)) ?_
                          refine mr_bipush 60 dd_Mo_store_234 (by decide) ?_
                          refine mr_iload dd_Mo_store_236 rfl ?_
                          refine mr_imul dd_Mo_store_238 ?_
                          refine mr_iload dd_Mo_store_239 rfl ?_
                          refine mr_iadd dd_Mo_store_241 ?_
                          refine mr_iconst 1 dd_Mo_store_242 (by decide) ?_
                          obtain ⟨a161, ho162, h⟩ := h
                          obtain ⟨hk163, h⟩ := h
                          obtain ⟨j164, hj165, hm166, hl167, h⟩ := h
                          refine mr_zast dd_Mo_store_243 ho162 hk163 hj165 hm166 hl167 (Or.inr rfl) ?_
                          refine mr_iconst 0 dd_Mo_store_244 (by decide) ?_
                          exact mr_ireturn dd_Mo_store_245 rfl h
                      · have h := h.2 hc160
                        refine mr_iload dd_Mo_store_163 rfl ?_
                        refine mr_iload_n dd_Mo_store_165 rfl ?_
                        refine mr_icmp_ne 173 dd_Mo_store_166 (by decide) (fun hc166 => ?_) (fun hc166 => ?_)
                        · have h := h.1 hc166
                          refine mr_iconst 0 dd_Mo_store_173 (by decide) ?_
                          refine mr_goto 198 dd_Mo_store_174 (by decide) ?_
                          refine mr_istore dd_Mo_store_198 (by decide) ?_
                          show mm_Z l G Y_Mo_store K M 0 0 200 [some (.inr (some a0)), some (.inl xa), some (.inl xb), some (.inl xc), some (.inl xd), some (.inl ((mm_i M8 a11 j14) - 1)), some (.inl ((mm_i M8 a11 j18) - 1)), some (.inl ((mm_i M8 a22 j25) - 1)), some (.inl ((mm_i M8 a22 j25) - 1)), some (.inl 0)] [] M8
                          refine mr_iload dd_Mo_store_200 rfl ?_
                          refine mr_if_ne 208 dd_Mo_store_202 (by decide) (fun q => absurd q (by decide)) (fun _ => ?_)
                          refine mr_bipush (-3) dd_Mo_store_205 (by decide) ?_
                          exact mr_ireturn dd_Mo_store_207 rfl h
                        · have h := h.2 hc166
                          refine mr_iconst 1 dd_Mo_store_169 (by decide) ?_
                          refine mr_goto 198 dd_Mo_store_170 (by decide) ?_
                          refine mr_istore dd_Mo_store_198 (by decide) ?_
                          show mm_Z l G Y_Mo_store K M 0 0 200 [some (.inr (some a0)), some (.inl xa), some (.inl xb), some (.inl xc), some (.inl xd), some (.inl ((mm_i M8 a11 j14) - 1)), some (.inl ((mm_i M8 a11 j18) - 1)), some (.inl ((mm_i M8 a22 j25) - 1)), some (.inl ((mm_i M8 a22 j25) - 1)), some (.inl 1)] [] M8
                          refine mr_iload dd_Mo_store_200 rfl ?_
                          refine mr_if_ne 208 dd_Mo_store_202 (by decide) (fun _ => ?_) (fun q => absurd q (by decide))
                          refine mr_aload_n dd_Mo_store_208 rfl ?_
                          refine mr_getr ff_Mo_38 dd_Mo_store_209 rs_8_10 rfl (mm_Xk hX9 (mm_Xk hX6 (mm_Xk hX2 hk3 (by decide)) (by decide)) (by decide)) ?_
                          refine mr_iconst 3 dd_Mo_store_212 (by decide) ?_
                          refine mr_iload dd_Mo_store_213 rfl ?_
                          refine mr_imul dd_Mo_store_215 ?_
                          refine mr_iload_n dd_Mo_store_216 rfl ?_
                          refine mr_iadd dd_Mo_store_217 ?_
                          refine mr_iload dd_Mo_store_218 rfl ?_
                          refine mr_iconst 1 dd_Mo_store_220 (by decide) ?_
                          refine mr_iadd dd_Mo_store_221 ?_
                          obtain ⟨a168, ho169, h⟩ := h
                          obtain ⟨hk170, h⟩ := h
                          obtain ⟨j171, hj172, hm173, hl174, h⟩ := h
                          refine mr_iast dd_Mo_store_222 ho169 hk170 hj172 hm173 hl174 ?_
                          refine mr_iload dd_Mo_store_223 rfl ?_
                          refine mr_iload dd_Mo_store_225 rfl ?_
                          refine mr_icmp_eq 244 dd_Mo_store_227 (by decide) (fun hc227 => ?_) (fun hc227 => ?_)
                          · have h := h.1 hc227
                            refine mr_iconst 0 dd_Mo_store_244 (by decide) ?_
                            exact mr_ireturn dd_Mo_store_245 rfl h
                          · have h := h.2 hc227
                            refine mr_aload_n dd_Mo_store_230 rfl ?_
                            refine mr_getr ff_Mo_65 dd_Mo_store_231 rs_8_21 rfl (mm_Xk hX9 (mm_Xk hX6 (mm_Xk hX2 hk3 (by decide)) (by decide)) (by decide)) ?_
                            refine mr_bipush 60 dd_Mo_store_234 (by decide) ?_
                            refine mr_iload dd_Mo_store_236 rfl ?_
                            refine mr_imul dd_Mo_store_238 ?_
                            refine mr_iload dd_Mo_store_239 rfl ?_
                            refine mr_iadd dd_Mo_store_241 ?_
                            refine mr_iconst 1 dd_Mo_store_242 (by decide) ?_
                            obtain ⟨a175, ho176, h⟩ := h
                            obtain ⟨hk177, h⟩ := h
                            obtain ⟨j178, hj179, hm180, hl181, h⟩ := h
                            refine mr_zast dd_Mo_store_243 ho176 hk177 hj179 hm180 hl181 (Or.inr rfl) ?_
                            refine mr_iconst 0 dd_Mo_store_244 (by decide) ?_
                            exact mr_ireturn dd_Mo_store_245 rfl h
                · have h := h.2 hc106
                  refine mr_iload dd_Mo_store_109 rfl ?_
                  refine mr_iload_n dd_Mo_store_111 rfl ?_
                  refine mr_icmp_eq 131 dd_Mo_store_112 (by decide) (fun hc112 => ?_) (fun hc112 => ?_)
                  · have h := h.1 hc112
                    refine mr_iconst 1 dd_Mo_store_131 (by decide) ?_
                    refine mr_goto 198 dd_Mo_store_132 (by decide) ?_
                    refine mr_istore dd_Mo_store_198 (by decide) ?_
                    show mm_Z l G Y_Mo_store K M 0 0 200 [some (.inr (some a0)), some (.inl xa), some (.inl xb), some (.inl xc), some (.inl xd), some (.inl ((mm_i M8 a11 j14) - 1)), some (.inl ((mm_i M8 a11 j18) - 1)), some (.inl ((mm_i M8 a22 j25) - 1)), some (.inl ((mm_i M8 a22 j25) - 1)), some (.inl 1)] [] M8
                    refine mr_iload dd_Mo_store_200 rfl ?_
                    refine mr_if_ne 208 dd_Mo_store_202 (by decide) (fun _ => ?_) (fun q => absurd q (by decide))
                    refine mr_aload_n dd_Mo_store_208 rfl ?_
                    refine mr_getr ff_Mo_38 dd_Mo_store_209 rs_8_10 rfl (mm_Xk hX9 (mm_Xk hX6 (mm_Xk hX2 hk3 (by decide)) (by decide)) (by decide)) ?_
                    refine mr_iconst 3 dd_Mo_store_212 (by decide) ?_
                    refine mr_iload dd_Mo_store_213 rfl ?_
                    refine mr_imul dd_Mo_store_215 ?_
                    refine mr_iload_n dd_Mo_store_216 rfl ?_
                    refine mr_iadd dd_Mo_store_217 ?_
                    refine mr_iload dd_Mo_store_218 rfl ?_
                    refine mr_iconst 1 dd_Mo_store_220 (by decide) ?_
                    refine mr_iadd dd_Mo_store_221 ?_
                    obtain ⟨a182, ho183, h⟩ := h
                    obtain ⟨hk184, h⟩ := h
                    obtain ⟨j185, hj186, hm187, hl188, h⟩ := h
                    refine mr_iast dd_Mo_store_222 ho183 hk184 hj186 hm187 hl188 ?_
                    refine mr_iload dd_Mo_store_223 rfl ?_
                    refine mr_iload dd_Mo_store_225 rfl ?_
                    refine mr_icmp_eq 244 dd_Mo_store_227 (by decide) (fun hc227 => ?_) (fun hc227 => ?_)
                    · have h := h.1 hc227
                      refine mr_iconst 0 dd_Mo_store_244 (by decide) ?_
                      exact mr_ireturn dd_Mo_store_245 rfl h
                    · have h := h.2 hc227
                      refine mr_aload_n dd_Mo_store_230 rfl ?_
                      refine mr_getr ff_Mo_65 dd_Mo_store_231 rs_8_21 rfl (mm_Xk hX9 (mm_Xk hX6 (mm_Xk hX2 hk3 (by decide)) (by decide)) (by decide)) ?_
                      refine mr_bipush 60 dd_Mo_store_234 (by decide) ?_
                      refine mr_iload dd_Mo_store_236 rfl ?_
                      refine mr_imul dd_Mo_store_238 ?_
                      refine mr_iload dd_Mo_store_239 rfl ?_
                      refine mr_iadd dd_Mo_store_241 ?_
                      refine mr_iconst 1 dd_Mo_store_242 (by decide) ?_
                      obtain ⟨a189, ho190, h⟩ := h
                      obtain ⟨hk191, h⟩ := h
                      obtain ⟨j192, hj193, hm194, hl195, h⟩ := h
                      refine mr_zast dd_Mo_store_243 ho190 hk191 hj193 hm194 hl195 (Or.inr rfl) ?_
                      refine mr_iconst 0 dd_Mo_store_244 (by decide) ?_
                      exact mr_ireturn dd_Mo_store_245 rfl h
                  · have h := h.2 hc112
                    refine mr_iload dd_Mo_store_115 rfl ?_
                    refine mr_bipush 8 dd_Mo_store_117 (by decide) ?_
                    refine mr_icmp_eq 131 dd_Mo_store_119 (by decide) (fun hc119 => ?_) (fun hc119 => ?_)
                    · have h := h.1 hc119
                      refine mr_iconst 1 dd_Mo_store_131 (by decide) ?_
                      refine mr_goto 198 dd_Mo_store_132 (by decide) ?_
                      refine mr_istore dd_Mo_store_198 (by decide) ?_
                      show mm_Z l G Y_Mo_store K M 0 0 200 [some (.inr (some a0)), some (.inl xa), some (.inl xb), some (.inl xc), some (.inl xd), some (.inl ((mm_i M8 a11 j14) - 1)), some (.inl ((mm_i M8 a11 j18) - 1)), some (.inl ((mm_i M8 a22 j25) - 1)), some (.inl ((mm_i M8 a22 j25) - 1)), some (.inl 1)] [] M8
                      refine mr_iload dd_Mo_store_200 rfl ?_
                      refine mr_if_ne 208 dd_Mo_store_202 (by decide) (fun _ => ?_) (fun q => absurd q (by decide))
                      refine mr_aload_n dd_Mo_store_208 rfl ?_
                      refine mr_getr ff_Mo_38 dd_Mo_store_209 rs_8_10 rfl (mm_Xk hX9 (mm_Xk hX6 (mm_Xk hX2 hk3 (by decide)) (by decide)) (by decide)) ?_
                      refine mr_iconst 3 dd_Mo_store_212 (by decide) ?_
                      refine mr_iload dd_Mo_store_213 rfl ?_
                      refine mr_imul dd_Mo_store_215 ?_
                      refine mr_iload_n dd_Mo_store_216 rfl ?_
                      refine mr_iadd dd_Mo_store_217 ?_
                      refine mr_iload dd_Mo_store_218 rfl ?_
                      refine mr_iconst 1 dd_Mo_store_220 (by decide) ?_
                      refine mr_iadd dd_Mo_store_221 ?_
                      obtain ⟨a196, ho197, h⟩ := h
                      obtain ⟨hk198, h⟩ := h
                      obtain ⟨j199, hj200, hm201, hl202, h⟩ := h
                      refine mr_iast dd_Mo_store_222 ho197 hk198 hj200 hm201 hl202 ?_
                      refine mr_iload dd_Mo_store_223 rfl ?_
                      refine mr_iload dd_Mo_store_225 rfl ?_
                      refine mr_icmp_eq 244 dd_Mo_store_227 (by decide) (fun hc227 => ?_) (fun hc227 => ?_)
                      · have h := h.1 hc227
                        refine mr_iconst 0 dd_Mo_store_244 (by decide) ?_
                        exact mr_ireturn dd_Mo_store_245 rfl h
                      · have h := h.2 hc227
                        refine mr_aload_n dd_Mo_store_230 rfl ?_
                        refine mr_getr ff_Mo_65 dd_Mo_store_231 rs_8_21 rfl (mm_Xk hX9 (mm_Xk hX6 (mm_Xk hX2 hk3 (by decide)) (by decide)) (by decide)) ?_
                        refine mr_bipush 60 dd_Mo_store_234 (by decide) ?_
                        refine mr_iload dd_Mo_store_236 rfl ?_
                        refine mr_imul dd_Mo_store_238 ?_
                        refine mr_iload dd_Mo_store_239 rfl ?_
                        refine mr_iadd dd_Mo_store_241 ?_
                        refine mr_iconst 1 dd_Mo_store_242 (by decide) ?_
                        obtain ⟨a203, ho204, h⟩ := h
                        obtain ⟨hk205, h⟩ := h
                        obtain ⟨j206, hj207, hm208, hl209, h⟩ := h
                        refine mr_zast dd_Mo_store_243 ho204 hk205 hj207 hm208 hl209 (Or.inr rfl) ?_
                        refine mr_iconst 0 dd_Mo_store_244 (by decide) ?_
                        exact mr_ireturn dd_Mo_store_245 rfl h
                    · have h := h.2 hc119
                      refine mr_aload_n dd_Mo_store_122 rfl ?_
                      refine mr_iload dd_Mo_store_123 rfl ?_
                      refine mr_callV0 (Yc := Y_Mo_frozen) (M := M8) (st := []) (vs := [.inl ((mm_i M8 a22 j25) - 1)]) (ci := 8) fc_Mo_81 iv_Mo_frozen sv_Mo_frozen dd_Mo_store_125 ⟨Nat.le_of_ble_eq_true rfl, Nat.le_of_ble_eq_true rfl⟩ (by decide) rfl rfl (Nat.le_of_ble_eq_true rfl) rfl (mm_Xk hX9 (mm_Xk hX6 (mm_Xk hX2 hk3 (by decide)) (by decide)) (by decide)) rfl rfl h (fun r M210 hX211 h => ?_)
                      replace h := h hX211
                      obtain ⟨x212, rfl, h⟩ := h
                      show mm_Z l G Y_Mo_store K M 0 0 128 [some (.inr (some a0)), some (.inl xa), some (.inl xb), some (.inl xc), some (.inl xd), some (.inl ((mm_i M8 a11 j14) - 1)), some (.inl ((mm_i M8 a11 j18) - 1)), some (.inl ((mm_i M8 a22 j25) - 1)), some (.inl ((mm_i M8 a22 j25) - 1)), none] [.inl x212] M210
                      refine mr_if_eq 135 dd_Mo_store_128 (by decide) (fun hc128 => ?_) (fun hc128 => ?_)
                      · have h := h.1 hc128
                        refine mr_iconst 0 dd_Mo_store_135 (by decide) ?_
                        refine mr_goto 198 dd_Mo_store_136 (by decide) ?_
                        refine mr_istore dd_Mo_store_198 (by decide) ?_
                        show mm_Z l G Y_Mo_store K M 0 0 200 [some (.inr (some a0)), some (.inl xa), some (.inl xb), some (.inl xc), some (.inl xd), some (.inl ((mm_i M8 a11 j14) - 1)), some (.inl ((mm_i M8 a11 j18) - 1)), some (.inl ((mm_i M8 a22 j25) - 1)), some (.inl ((mm_i M8 a22 j25) - 1)), some (.inl 0)] [] M210
                        refine mr_iload dd_Mo_store_200 rfl ?_
                        refine mr_if_ne 208 dd_Mo_store_202 (by decide) (fun q => absurd q (by decide)) (fun _ => ?_)
                        refine mr_bipush (-3) dd_Mo_store_205 (by decide) ?_
                        exact mr_ireturn dd_Mo_store_207 rfl h
                      · have h := h.2 hc128
                        refine mr_iconst 1 dd_Mo_store_131 (by decide) ?_
                        refine mr_goto 198 dd_Mo_store_132 (by decide) ?_
                        refine mr_istore dd_Mo_store_198 (by decide) ?_
                        show mm_Z l G Y_Mo_store K M 0 0 200 [some (.inr (some a0)), some (.inl xa), some (.inl xb), some (.inl xc), some (.inl xd), some (.inl ((mm_i M8 a11 j14) - 1)), some (.inl ((mm_i M8 a11 j18) - 1)), some (.inl ((mm_i M8 a22 j25) - 1)), some (.inl ((mm_i M8 a22 j25) - 1)), some (.inl 1)] [] M210
                        refine mr_iload dd_Mo_store_200 rfl ?_
                        refine mr_if_ne 208 dd_Mo_store_202 (by decide) (fun _ => ?_) (fun q => absurd q (by decide))
                        refine mr_aload_n dd_Mo_store_208 rfl ?_
                        refine mr_getr ff_Mo_38 dd_Mo_store_209 rs_8_10 rfl (mm_Xk hX211 (mm_Xk hX9 (mm_Xk hX6 (mm_Xk hX2 hk3 (by decide)) (by decide)) (by decide)) (by decide)) ?_
                        refine mr_iconst 3 dd_Mo_store_212 (by decide) ?_
                        refine mr_iload dd_Mo_store_213 rfl ?_
                        refine mr_imul dd_Mo_store_215 ?_
                        refine mr_iload_n dd_Mo_store_216 rfl ?_
                        refine mr_iadd dd_Mo_store_217 ?_
                        refine mr_iload dd_Mo_store_218 rfl ?_
                        refine mr_iconst 1 dd_Mo_store_220 (by decide) ?_
                        refine mr_iadd dd_Mo_store_221 ?_
                        obtain ⟨a213, ho214, h⟩ := h
                        obtain ⟨hk215, h⟩ := h
                        obtain ⟨j216, hj217, hm218, hl219, h⟩ := h
                        refine mr_iast dd_Mo_store_222 ho214 hk215 hj217 hm218 hl219 ?_
                        refine mr_iload dd_Mo_store_223 rfl ?_
                        refine mr_iload dd_Mo_store_225 rfl ?_
                        refine mr_icmp_eq 244 dd_Mo_store_227 (by decide) (fun hc227 => ?_) (fun hc227 => ?_)
                        · have h := h.1 hc227
                          refine mr_iconst 0 dd_Mo_store_244 (by decide) ?_
                          exact mr_ireturn dd_Mo_store_245 rfl h
                        · have h := h.2 hc227
                          refine mr_aload_n dd_Mo_store_230 rfl ?_
                          refine mr_getr ff_Mo_65 dd_Mo_store_231 rs_8_21 rfl (mm_Xk hX211 (mm_Xk hX9 (mm_Xk hX6 (mm_Xk hX2 hk3 (by decide)) (by decide)) (by decide)) (by decide)) ?_
                          refine mr_bipush 60 dd_Mo_store_234 (by decide) ?_
                          refine mr_iload dd_Mo_store_236 rfl ?_
                          refine mr_imul dd_Mo_store_238 ?_
                          refine mr_iload dd_Mo_store_239 rfl ?_
                          refine mr_iadd dd_Mo_store_241 ?_
                          refine mr_iconst 1 dd_Mo_store_242 (by decide) ?_
                          obtain ⟨a220, ho221, h⟩ := h
                          obtain ⟨hk222, h⟩ := h
                          obtain ⟨j223, hj224, hm225, hl226, h⟩ := h
                          refine mr_zast dd_Mo_store_243 ho221 hk222 hj224 hm225 hl226 (Or.inr rfl) ?_
                          refine mr_iconst 0 dd_Mo_store_244 (by decide) ?_
                          exact mr_ireturn dd_Mo_store_245 rfl h
            · have h := h.2 hc65
              refine mr_bipush (-2) dd_Mo_store_68 (by decide) ?_
              exact mr_ireturn dd_Mo_store_70 rfl h
          · have h := h.2 hc29
            refine mr_iconst (-1) dd_Mo_store_32 (by decide) ?_
            exact mr_ireturn dd_Mo_store_33 rfl h
