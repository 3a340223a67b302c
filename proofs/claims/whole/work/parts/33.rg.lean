/-! ===== regions of code, on ===== -/
theorem rg140_0 {t : Nat} {F : ip_F} {G : ip_G} {Q : Option Value → ip_M → Prop} (h : Q (some (.int (-2 : Int32))) (hs t, (ip_u F 194 0 ((F 194 0) + (1 : Int32))), G)) : wp 140 0 [.ref 193] [] (hs t, F, G) Q := by
  refine wp_N (j' := 140) (pc' := 6) (L' := [.ref 193]) (S' := [.int (0 : Int32), .ref 194, .int (0 : Int32), .ref 194]) (M' := (hs t, F, G)) 3 (fun _ => rfl) ?_
  refine wp_ial (m := 0) rfl rfl rfl (vp_d rfl) ?_
  refine wp_N (j' := 140) (pc' := 9) (L' := [.ref 193]) (S' := [.int ((F 194 0) + (1 : Int32)), .int (0 : Int32), .ref 194]) (M' := (hs t, F, G)) 1 (fun _ => rfl) ?_
  refine wp_ias (m := 0) rfl rfl rfl (vp_d rfl) ?_
  refine wp_N (j' := 140) (pc' := 12) (L' := [.ref 193]) (S' := [.int (-2 : Int32)]) (M' := (hs t, (ip_u F 194 0 ((F 194 0) + (1 : Int32))), G)) 0 (fun _ => rfl) ?_
  exact wp_RI rfl rfl h
theorem rg141_0 {t : Nat} {F : ip_F} {G : ip_G} {Q : Option Value → ip_M → Prop} (h : Q (some (.int (-3 : Int32))) (hs t, (ip_u F 194 1 ((F 194 1) + (1 : Int32))), G)) : wp 141 0 [.ref 193] [] (hs t, F, G) Q := by
  refine wp_N (j' := 141) (pc' := 6) (L' := [.ref 193]) (S' := [.int (1 : Int32), .ref 194, .int (1 : Int32), .ref 194]) (M' := (hs t, F, G)) 3 (fun _ => rfl) ?_
  refine wp_ial (m := 1) rfl rfl rfl (vp_d rfl) ?_
  refine wp_N (j' := 141) (pc' := 9) (L' := [.ref 193]) (S' := [.int ((F 194 1) + (1 : Int32)), .int (1 : Int32), .ref 194]) (M' := (hs t, F, G)) 1 (fun _ => rfl) ?_
  refine wp_ias (m := 1) rfl rfl rfl (vp_d rfl) ?_
  refine wp_N (j' := 141) (pc' := 12) (L' := [.ref 193]) (S' := [.int (-3 : Int32)]) (M' := (hs t, (ip_u F 194 1 ((F 194 1) + (1 : Int32))), G)) 0 (fun _ => rfl) ?_
  exact wp_RI rfl rfl h
theorem rg142_0 {t : Nat} {F : ip_F} {G : ip_G} {Q : Option Value → ip_M → Prop} (h : Q (some (.int (-4 : Int32))) (hs t, (ip_u F 194 2 ((F 194 2) + (1 : Int32))), G)) : wp 142 0 [.ref 193] [] (hs t, F, G) Q := by
  refine wp_N (j' := 142) (pc' := 6) (L' := [.ref 193]) (S' := [.int (2 : Int32), .ref 194, .int (2 : Int32), .ref 194]) (M' := (hs t, F, G)) 3 (fun _ => rfl) ?_
  refine wp_ial (m := 2) rfl rfl rfl (vp_d rfl) ?_
  refine wp_N (j' := 142) (pc' := 9) (L' := [.ref 193]) (S' := [.int ((F 194 2) + (1 : Int32)), .int (2 : Int32), .ref 194]) (M' := (hs t, F, G)) 1 (fun _ => rfl) ?_
  refine wp_ias (m := 2) rfl rfl rfl (vp_d rfl) ?_
  refine wp_N (j' := 142) (pc' := 12) (L' := [.ref 193]) (S' := [.int (-4 : Int32)]) (M' := (hs t, (ip_u F 194 2 ((F 194 2) + (1 : Int32))), G)) 0 (fun _ => rfl) ?_
  exact wp_RI rfl rfl h
theorem rg143_0 {t : Nat} {F : ip_F} {G : ip_G} {Q : Option Value → ip_M → Prop} {a0 a1 a2 : Int32} (h : (a0 < a1 → Q (some (.int (0 : Int32))) (hs t, F, G)) ∧ (a1 ≤ a0 → (a2 < a0 → Q (some (.int (0 : Int32))) (hs t, F, G)) ∧ (a0 ≤ a2 → Q (some (.int (1 : Int32))) (hs t, F, G)))) : wp 143 0 [.int a0, .int a1, .int a2] [] (hs t, F, G) Q := by
  refine wp_N (j' := 143) (pc' := 2) (L' := [.int a0, .int a1, .int a2]) (S' := [.int a1, .int a0]) (M' := (hs t, F, G)) 1 (fun _ => rfl) ?_
  refine wp_icmp (pc1 := 14) (c := .lt) rfl (fun hc => ?_) (fun hc => ?_)
  · replace h := h.1 hc
    refine wp_N (j' := 143) (pc' := 15) (L' := [.int a0, .int a1, .int a2]) (S' := [.int (0 : Int32)]) (M' := (hs t, F, G)) 0 (fun _ => rfl) ?_
    exact wp_RZ rfl rfl (by decide) h
  · replace h := h.2 (Int32.not_lt.mp hc)
    refine wp_N (j' := 143) (pc' := 7) (L' := [.int a0, .int a1, .int a2]) (S' := [.int a2, .int a0]) (M' := (hs t, F, G)) 1 (fun _ => rfl) ?_
    refine wp_icmp (pc1 := 14) (c := .gt) rfl (fun hc => ?_) (fun hc => ?_)
    · replace h := h.1 hc
      refine wp_N (j' := 143) (pc' := 15) (L' := [.int a0, .int a1, .int a2]) (S' := [.int (0 : Int32)]) (M' := (hs t, F, G)) 0 (fun _ => rfl) ?_
      exact wp_RZ rfl rfl (by decide) h
    · replace h := h.2 (Int32.not_lt.mp hc)
      refine wp_N (j' := 143) (pc' := 15) (L' := [.int a0, .int a1, .int a2]) (S' := [.int (1 : Int32)]) (M' := (hs t, F, G)) 1 (fun _ => rfl) ?_
      exact wp_RZ rfl rfl (by decide) h
theorem rg144_0 {t : Nat} {F : ip_F} {G : ip_G} {Q : Option Value → ip_M → Prop} {a0 a1 : Int32} (h : (¬ ((a0 >>> (a1 &&& 31)) &&& (1 : Int32)) = (1 : Int32) → Q (some (.int (0 : Int32))) (hs t, F, G)) ∧ (((a0 >>> (a1 &&& 31)) &&& (1 : Int32)) = (1 : Int32) → Q (some (.int (1 : Int32))) (hs t, F, G))) : wp 144 0 [.int a0, .int a1] [] (hs t, F, G) Q := by
  refine wp_N (j' := 144) (pc' := 6) (L' := [.int a0, .int a1]) (S' := [.int (1 : Int32), .int ((a0 >>> (a1 &&& 31)) &&& (1 : Int32))]) (M' := (hs t, F, G)) 5 (fun _ => rfl) ?_
  refine wp_icmp (pc1 := 13) (c := .ne) rfl (fun hc => ?_) (fun hc => ?_)
  · replace h := h.1 hc
    refine wp_N (j' := 144) (pc' := 14) (L' := [.int a0, .int a1]) (S' := [.int (0 : Int32)]) (M' := (hs t, F, G)) 0 (fun _ => rfl) ?_
    exact wp_RZ rfl rfl (by decide) h
  · replace h := h.2 (Decidable.not_not.mp hc)
    refine wp_N (j' := 144) (pc' := 14) (L' := [.int a0, .int a1]) (S' := [.int (1 : Int32)]) (M' := (hs t, F, G)) 1 (fun _ => rfl) ?_
    exact wp_RZ rfl rfl (by decide) h
theorem rg145_0 {t : Nat} {F : ip_F} {G : ip_G} {Q : Option Value → ip_M → Prop} {a0 a1 : Int32} (h : (a1 ≤ a0 → Q (some (.int a1)) (hs t, F, G)) ∧ (a0 < a1 → Q (some (.int a0)) (hs t, F, G))) : wp 145 0 [.int a0, .int a1] [] (hs t, F, G) Q := by
  refine wp_N (j' := 145) (pc' := 2) (L' := [.int a0, .int a1]) (S' := [.int a1, .int a0]) (M' := (hs t, F, G)) 1 (fun _ => rfl) ?_
  refine wp_icmp (pc1 := 9) (c := .ge) rfl (fun hc => ?_) (fun hc => ?_)
  · replace h := h.1 hc
    refine wp_N (j' := 145) (pc' := 10) (L' := [.int a0, .int a1]) (S' := [.int a1]) (M' := (hs t, F, G)) 0 (fun _ => rfl) ?_
    exact wp_RI rfl rfl h
  · replace h := h.2 (Int32.not_le.mp hc)
    refine wp_N (j' := 145) (pc' := 10) (L' := [.int a0, .int a1]) (S' := [.int a0]) (M' := (hs t, F, G)) 1 (fun _ => rfl) ?_
    exact wp_RI rfl rfl h
theorem rg146_0 {t : Nat} {F : ip_F} {G : ip_G} {Q : Option Value → ip_M → Prop} {a0 a1 : Int32} (h : (a0 ≤ a1 → Q (some (.int a1)) (hs t, F, G)) ∧ (a1 < a0 → Q (some (.int a0)) (hs t, F, G))) : wp 146 0 [.int a0, .int a1] [] (hs t, F, G) Q := by
  refine wp_N (j' := 146) (pc' := 2) (L' := [.int a0, .int a1]) (S' := [.int a1, .int a0]) (M' := (hs t, F, G)) 1 (fun _ => rfl) ?_
  refine wp_icmp (pc1 := 9) (c := .le) rfl (fun hc => ?_) (fun hc => ?_)
  · replace h := h.1 hc
    refine wp_N (j' := 146) (pc' := 10) (L' := [.int a0, .int a1]) (S' := [.int a1]) (M' := (hs t, F, G)) 0 (fun _ => rfl) ?_
    exact wp_RI rfl rfl h
  · replace h := h.2 (Int32.not_le.mp hc)
    refine wp_N (j' := 146) (pc' := 10) (L' := [.int a0, .int a1]) (S' := [.int a0]) (M' := (hs t, F, G)) 1 (fun _ => rfl) ?_
    exact wp_RI rfl rfl h
theorem rg147_0 {t : Nat} {F : ip_F} {G : ip_G} {Q : Option Value → ip_M → Prop} {a0 : Int32} (h : wp 147 4 [.int a0, .int (0 : Int32), .int (0 : Int32)] [] (hs t, F, G) Q) : wp 147 0 [.int a0, .float 0, .float 0] [] (hs t, F, G) Q := by
  refine wp_N (j' := 147) (pc' := 4) (L' := [.int a0, .int (0 : Int32), .int (0 : Int32)]) (S' := []) (M' := (hs t, F, G)) 3 (fun _ => rfl) ?_
  exact h
theorem rg147_4 {t : Nat} {F : ip_F} {G : ip_G} {Q : Option Value → ip_M → Prop} {a0 a1 a2 : Int32} (h : ((6 : Int32) ≤ a2 → Q (some (.int a1)) (hs t, F, G)) ∧ (a2 < (6 : Int32) → wp 147 4 [.int a0, .int (a1 + ((a0 >>> (a2 &&& 31)) &&& (1 : Int32))), .int (a2 + (1 : Int32))] [] (hs t, F, G) Q)) : wp 147 4 [.int a0, .int a1, .int a2] [] (hs t, F, G) Q := by
  refine wp_N (j' := 147) (pc' := 7) (L' := [.int a0, .int a1, .int a2]) (S' := [.int (6 : Int32), .int a2]) (M' := (hs t, F, G)) 1 (fun _ => rfl) ?_
  refine wp_icmp (pc1 := 24) (c := .ge) rfl (fun hc => ?_) (fun hc => ?_)
  · replace h := h.1 hc
    refine wp_N (j' := 147) (pc' := 25) (L' := [.int a0, .int a1, .int a2]) (S' := [.int a1]) (M' := (hs t, F, G)) 0 (fun _ => rfl) ?_
    exact wp_RI rfl rfl h
  · replace h := h.2 (Int32.not_le.mp hc)
    refine wp_N (j' := 147) (pc' := 4) (L' := [.int a0, .int (a1 + ((a0 >>> (a2 &&& 31)) &&& (1 : Int32))), .int (a2 + (1 : Int32))]) (S' := []) (M' := (hs t, F, G)) 9 (fun _ => rfl) ?_
    exact h
theorem rg149_0 {t : Nat} {F : ip_F} {G : ip_G} {Q : Option Value → ip_M → Prop} {a1 : Int32} (h : wp 149 32 [.ref 193, .int a1, .int (0 : Int32)] [] (hs t, (ip_u (ip_u (ip_u (ip_u (ip_u (ip_u F 193 1 a1) 193 2 (0 : Int32)) 193 3 (0 : Int32)) 193 4 (0 : Int32)) 193 5 (0 : Int32)) 193 22 (0 : Int32)), G) Q) : wp 149 0 [.ref 193, .int a1, .float 0] [] (hs t, F, G) Q := by
  refine wp_N (j' := 149) (pc' := 2) (L' := [.ref 193, .int a1, .float 0]) (S' := [.int a1, .ref 193]) (M' := (hs t, F, G)) 1 (fun _ => rfl) ?_
  refine wp_putI rfl rfl rfl rfl rfl rfl (by decide) ?_
  refine wp_N (j' := 149) (pc' := 7) (L' := [.ref 193, .int a1, .float 0]) (S' := [.int (0 : Int32), .ref 193]) (M' := (hs t, (ip_u F 193 1 a1), G)) 1 (fun _ => rfl) ?_
  refine wp_putI rfl rfl rfl rfl rfl rfl (by decide) ?_
  refine wp_N (j' := 149) (pc' := 12) (L' := [.ref 193, .int a1, .float 0]) (S' := [.int (0 : Int32), .ref 193]) (M' := (hs t, (ip_u (ip_u F 193 1 a1) 193 2 (0 : Int32)), G)) 1 (fun _ => rfl) ?_
  refine wp_putI rfl rfl rfl rfl rfl rfl (by decide) ?_
  refine wp_N (j' := 149) (pc' := 17) (L' := [.ref 193, .int a1, .float 0]) (S' := [.int (0 : Int32), .ref 193]) (M' := (hs t, (ip_u (ip_u (ip_u F 193 1 a1) 193 2 (0 : Int32)) 193 3 (0 : Int32)), G)) 1 (fun _ => rfl) ?_
  refine wp_putI rfl rfl rfl rfl rfl rfl (by decide) ?_
  refine wp_N (j' := 149) (pc' := 22) (L' := [.ref 193, .int a1, .float 0]) (S' := [.int (0 : Int32), .ref 193]) (M' := (hs t, (ip_u (ip_u (ip_u (ip_u F 193 1 a1) 193 2 (0 : Int32)) 193 3 (0 : Int32)) 193 4 (0 : Int32)), G)) 1 (fun _ => rfl) ?_
  refine wp_putI rfl rfl rfl rfl rfl rfl (by decide) ?_
  refine wp_N (j' := 149) (pc' := 27) (L' := [.ref 193, .int a1, .float 0]) (S' := [.int (0 : Int32), .ref 193]) (M' := (hs t, (ip_u (ip_u (ip_u (ip_u (ip_u F 193 1 a1) 193 2 (0 : Int32)) 193 3 (0 : Int32)) 193 4 (0 : Int32)) 193 5 (0 : Int32)), G)) 1 (fun _ => rfl) ?_
  refine wp_putI rfl rfl rfl rfl rfl rfl (by decide) ?_
  refine wp_N (j' := 149) (pc' := 32) (L' := [.ref 193, .int a1, .int (0 : Int32)]) (S' := []) (M' := (hs t, (ip_u (ip_u (ip_u (ip_u (ip_u (ip_u F 193 1 a1) 193 2 (0 : Int32)) 193 3 (0 : Int32)) 193 4 (0 : Int32)) 193 5 (0 : Int32)) 193 22 (0 : Int32)), G)) 1 (fun _ => rfl) ?_
  exact h
theorem rg149_32 {t : Nat} {F : ip_F} {G : ip_G} {Q : Option Value → ip_M → Prop} {a1 a2 : Int32} (h : ((6 : Int32) ≤ a2 → Q none (hs t, F, G)) ∧ (a2 < (6 : Int32) → (vp_in a2 6) ∧ ((vp_in a2 6) ∧ ((vp_in a2 6) ∧ ((vp_in a2 6) ∧ ((vp_in a2 6) ∧ (wp 149 32 [.ref 193, .int a1, .int (a2 + (1 : Int32))] [] (hs t, (ip_u (ip_u (ip_u (ip_u (ip_u F 195 (a2).toNatClampNeg (0 : Int32)) 196 (a2).toNatClampNeg (-1 : Int32)) 197 (a2).toNatClampNeg (-1 : Int32)) 198 (a2).toNatClampNeg (0 : Int32)) 199 (a2).toNatClampNeg (0 : Int32)), G) Q))))))) : wp 149 32 [.ref 193, .int a1, .int a2] [] (hs t, F, G) Q := by
  refine wp_N (j' := 149) (pc' := 35) (L' := [.ref 193, .int a1, .int a2]) (S' := [.int (6 : Int32), .int a2]) (M' := (hs t, F, G)) 1 (fun _ => rfl) ?_
  refine wp_icmp (pc1 := 79) (c := .ge) rfl (fun hc => ?_) (fun hc => ?_)
  · replace h := h.1 hc
    exact wp_RV rfl rfl h
  · replace h := h.2 (Int32.not_le.mp hc)
    refine wp_N (j' := 149) (pc' := 44) (L' := [.ref 193, .int a1, .int a2]) (S' := [.int (0 : Int32), .int a2, .ref 195]) (M' := (hs t, F, G)) 3 (fun _ => rfl) ?_
    obtain ⟨h1_, h⟩ := h
    refine wp_ias (m := (a2).toNatClampNeg) rfl rfl rfl h1_ ?_
    refine wp_N (j' := 149) (pc' := 51) (L' := [.ref 193, .int a1, .int a2]) (S' := [.int (-1 : Int32), .int a2, .ref 196]) (M' := (hs t, (ip_u F 195 (a2).toNatClampNeg (0 : Int32)), G)) 3 (fun _ => rfl) ?_
    obtain ⟨h2_, h⟩ := h
    refine wp_ias (m := (a2).toNatClampNeg) rfl rfl rfl h2_ ?_
    refine wp_N (j' := 149) (pc' := 58) (L' := [.ref 193, .int a1, .int a2]) (S' := [.int (-1 : Int32), .int a2, .ref 197]) (M' := (hs t, (ip_u (ip_u F 195 (a2).toNatClampNeg (0 : Int32)) 196 (a2).toNatClampNeg (-1 : Int32)), G)) 3 (fun _ => rfl) ?_
    obtain ⟨h3_, h⟩ := h
    refine wp_ias (m := (a2).toNatClampNeg) rfl rfl rfl h3_ ?_
    refine wp_N (j' := 149) (pc' := 65) (L' := [.ref 193, .int a1, .int a2]) (S' := [.int (0 : Int32), .int a2, .ref 198]) (M' := (hs t, (ip_u (ip_u (ip_u F 195 (a2).toNatClampNeg (0 : Int32)) 196 (a2).toNatClampNeg (-1 : Int32)) 197 (a2).toNatClampNeg (-1 : Int32)), G)) 3 (fun _ => rfl) ?_
    obtain ⟨h4_, h⟩ := h
    refine wp_ias (m := (a2).toNatClampNeg) rfl rfl rfl h4_ ?_
    refine wp_N (j' := 149) (pc' := 72) (L' := [.ref 193, .int a1, .int a2]) (S' := [.int (0 : Int32), .int a2, .ref 199]) (M' := (hs t, (ip_u (ip_u (ip_u (ip_u F 195 (a2).toNatClampNeg (0 : Int32)) 196 (a2).toNatClampNeg (-1 : Int32)) 197 (a2).toNatClampNeg (-1 : Int32)) 198 (a2).toNatClampNeg (0 : Int32)), G)) 3 (fun _ => rfl) ?_
    obtain ⟨h5_, h⟩ := h
    refine wp_ias (m := (a2).toNatClampNeg) rfl rfl rfl h5_ ?_
    refine wp_N (j' := 149) (pc' := 32) (L' := [.ref 193, .int a1, .int (a2 + (1 : Int32))]) (S' := []) (M' := (hs t, (ip_u (ip_u (ip_u (ip_u (ip_u F 195 (a2).toNatClampNeg (0 : Int32)) 196 (a2).toNatClampNeg (-1 : Int32)) 197 (a2).toNatClampNeg (-1 : Int32)) 198 (a2).toNatClampNeg (0 : Int32)) 199 (a2).toNatClampNeg (0 : Int32)), G)) 1 (fun _ => rfl) ?_
    exact h
theorem rg150_0 {t : Nat} {F : ip_F} {G : ip_G} {Q : Option Value → ip_M → Prop} {a1 : Int32} (h : wp 143 0 [.int a1, .int (0 : Int32), .int ((F 193 1) - (1 : Int32))] [] (hs t, F, G) (fun v M' => wp 150 11 [.ref 193, .int a1] (v.toList ++ []) M' Q)) : wp 150 0 [.ref 193, .int a1] [] (hs t, F, G) Q := by
  refine wp_N (j' := 150) (pc' := 8) (L' := [.ref 193, .int a1]) (S' := [.int ((F 193 1) - (1 : Int32)), .int (0 : Int32), .int a1]) (M' := (hs t, F, G)) 5 (fun _ => rfl) ?_
  refine wp_C (i := 143) (pc' := 11) (Li := [.int a1, .int (0 : Int32), .int ((F 193 1) - (1 : Int32))]) (rest := []) (fun _ => rfl) h
theorem rg150_11 {t : Nat} {F : ip_F} {G : ip_G} {Q : Option Value → ip_M → Prop} {a1 as0 : Int32} (h : (as0 &&& 1 = as0) ∧ (Q (some (.int as0)) (hs t, F, G))) : wp 150 11 [.ref 193, .int a1] [.int as0] (hs t, F, G) Q := by
  obtain ⟨h1_, h⟩ := h
  exact wp_RZ rfl rfl h1_ h
theorem rg151_0 {t : Nat} {F : ip_F} {G : ip_G} {Q : Option Value → ip_M → Prop} {a1 : Int32} (h : wp 143 0 [.int a1, .int (4 : Int32), .int (6 : Int32)] [] (hs t, F, G) (fun v M' => wp 151 7 [.ref 193, .int a1, .float 0] (v.toList ++ []) M' Q)) : wp 151 0 [.ref 193, .int a1, .float 0] [] (hs t, F, G) Q := by
  refine wp_N (j' := 151) (pc' := 4) (L' := [.ref 193, .int a1, .float 0]) (S' := [.int (6 : Int32), .int (4 : Int32), .int a1]) (M' := (hs t, F, G)) 2 (fun _ => rfl) ?_
  refine wp_C (i := 143) (pc' := 7) (Li := [.int a1, .int (4 : Int32), .int (6 : Int32)]) (rest := []) (fun _ => rfl) h
theorem rg151_7 {t : Nat} {F : ip_F} {G : ip_G} {Q : Option Value → ip_M → Prop} {a1 as0 : Int32} {v2 : Value} (h : (¬ as0 = (0 : Int32) → wp 149 0 [.ref 193, .int a1, .float 0] [] (hs t, F, G) (fun v M' => wp 151 25 [.ref 193, .int a1, .int (F 193 1)] (v.toList ++ []) M' Q)) ∧ (as0 = (0 : Int32) → wp 140 0 [.ref 193] [] (hs t, F, G) (fun v M' => wp 151 14 [.ref 193, .int a1, v2] (v.toList ++ []) M' Q))) : wp 151 7 [.ref 193, .int a1, v2] [.int as0] (hs t, F, G) Q := by
  refine wp_ifc (pc1 := 15) (c := .ne) rfl (fun hc => ?_) (fun hc => ?_)
  · replace h := h.1 hc
    refine wp_N (j' := 151) (pc' := 22) (L' := [.ref 193, .int a1, .int (F 193 1)]) (S' := [.int a1, .ref 193]) (M' := (hs t, F, G)) 4 (fun _ => rfl) ?_
    refine wp_C (i := 149) (pc' := 25) (Li := [.ref 193, .int a1, .float 0]) (rest := []) (fun _ => rfl) h
  · replace h := h.2 (Decidable.not_not.mp hc)
    refine wp_N (j' := 151) (pc' := 11) (L' := [.ref 193, .int a1, v2]) (S' := [.ref 193]) (M' := (hs t, F, G)) 0 (fun _ => rfl) ?_
    refine wp_C (i := 140) (pc' := 14) (Li := [.ref 193]) (rest := []) (fun _ => rfl) h
theorem rg151_14 {t : Nat} {F : ip_F} {G : ip_G} {Q : Option Value → ip_M → Prop} {a1 as0 : Int32} {v2 : Value} (h : Q (some (.int as0)) (hs t, F, G)) : wp 151 14 [.ref 193, .int a1, v2] [.int as0] (hs t, F, G) Q := by
  exact wp_RI rfl rfl h
theorem rg151_25 {t : Nat} {F : ip_F} {G : ip_G} {Q : Option Value → ip_M → Prop} {a1 a2 : Int32} (h : Q (some (.int a2)) (hs t, F, G)) : wp 151 25 [.ref 193, .int a1, .int a2] [] (hs t, F, G) Q := by
  refine wp_N (j' := 151) (pc' := 26) (L' := [.ref 193, .int a1, .int a2]) (S' := [.int a2]) (M' := (hs t, F, G)) 0 (fun _ => rfl) ?_
  exact wp_RI rfl rfl h
theorem rg152_0 {t : Nat} {F : ip_F} {G : ip_G} {Q : Option Value → ip_M → Prop} {a1 a2 : Int32} (h : wp 143 0 [.int a1, .int (0 : Int32), .int (5 : Int32)] [] (hs t, F, G) (fun v M' => wp 152 6 [.ref 193, .int a1, .int a2, .float 0] (v.toList ++ []) M' Q)) : wp 152 0 [.ref 193, .int a1, .int a2, .float 0] [] (hs t, F, G) Q := by
  refine wp_N (j' := 152) (pc' := 3) (L' := [.ref 193, .int a1, .int a2, .float 0]) (S' := [.int (5 : Int32), .int (0 : Int32), .int a1]) (M' := (hs t, F, G)) 2 (fun _ => rfl) ?_
  refine wp_C (i := 143) (pc' := 6) (Li := [.int a1, .int (0 : Int32), .int (5 : Int32)]) (rest := []) (fun _ => rfl) h
theorem rg152_6 {t : Nat} {F : ip_F} {G : ip_G} {Q : Option Value → ip_M → Prop} {a1 a2 as0 : Int32} {v3 : Value} (h : (as0 = (0 : Int32) → wp 152 18 [.ref 193, .int a1, .int a2, v3] [] (hs t, F, G) Q) ∧ (¬ as0 = (0 : Int32) → wp 143 0 [.int a2, .int (0 : Int32), .int (3 : Int32)] [] (hs t, F, G) (fun v M' => wp 152 15 [.ref 193, .int a1, .int a2, v3] (v.toList ++ []) M' Q))) : wp 152 6 [.ref 193, .int a1, .int a2, v3] [.int as0] (hs t, F, G) Q := by
  refine wp_ifc (pc1 := 18) (c := .eq) rfl (fun hc => ?_) (fun hc => ?_)
  · replace h := h.1 hc
    exact h
  · replace h := h.2 hc
    refine wp_N (j' := 152) (pc' := 12) (L' := [.ref 193, .int a1, .int a2, v3]) (S' := [.int (3 : Int32), .int (0 : Int32), .int a2]) (M' := (hs t, F, G)) 2 (fun _ => rfl) ?_
    refine wp_C (i := 143) (pc' := 15) (Li := [.int a2, .int (0 : Int32), .int (3 : Int32)]) (rest := []) (fun _ => rfl) h
theorem rg152_15 {t : Nat} {F : ip_F} {G : ip_G} {Q : Option Value → ip_M → Prop} {a1 a2 as0 : Int32} {v3 : Value} (h : (¬ as0 = (0 : Int32) → (vp_in a1 6) ∧ ((vp_in a1 6) ∧ (Q (some (.int (F 195 (a1).toNatClampNeg))) (hs t, (ip_u (ip_u F 195 (a1).toNatClampNeg a2) 193 22 (0 : Int32)), G)))) ∧ (as0 = (0 : Int32) → wp 152 18 [.ref 193, .int a1, .int a2, v3] [] (hs t, F, G) Q)) : wp 152 15 [.ref 193, .int a1, .int a2, v3] [.int as0] (hs t, F, G) Q := by
  refine wp_ifc (pc1 := 23) (c := .ne) rfl (fun hc => ?_) (fun hc => ?_)
  · replace h := h.1 hc
    refine wp_N (j' := 152) (pc' := 28) (L' := [.ref 193, .int a1, .int a2, v3]) (S' := [.int a1, .ref 195]) (M' := (hs t, F, G)) 2 (fun _ => rfl) ?_
    obtain ⟨h1_, h⟩ := h
    refine wp_ial (m := (a1).toNatClampNeg) rfl rfl rfl h1_ ?_
    refine wp_N (j' := 152) (pc' := 36) (L' := [.ref 193, .int a1, .int a2, .int (F 195 (a1).toNatClampNeg)]) (S' := [.int a2, .int a1, .ref 195]) (M' := (hs t, F, G)) 4 (fun _ => rfl) ?_
    obtain ⟨h2_, h⟩ := h
    refine wp_ias (m := (a1).toNatClampNeg) rfl rfl rfl h2_ ?_
    refine wp_N (j' := 152) (pc' := 39) (L' := [.ref 193, .int a1, .int a2, .int (F 195 (a1).toNatClampNeg)]) (S' := [.int (0 : Int32), .ref 193]) (M' := (hs t, (ip_u F 195 (a1).toNatClampNeg a2), G)) 1 (fun _ => rfl) ?_
    refine wp_putI rfl rfl rfl rfl rfl rfl (by decide) ?_
    refine wp_N (j' := 152) (pc' := 43) (L' := [.ref 193, .int a1, .int a2, .int (F 195 (a1).toNatClampNeg)]) (S' := [.int (F 195 (a1).toNatClampNeg)]) (M' := (hs t, (ip_u (ip_u F 195 (a1).toNatClampNeg a2) 193 22 (0 : Int32)), G)) 0 (fun _ => rfl) ?_
    exact wp_RI rfl rfl h
  · replace h := h.2 (Decidable.not_not.mp hc)
    exact h
theorem rg152_18 {t : Nat} {F : ip_F} {G : ip_G} {Q : Option Value → ip_M → Prop} {a1 a2 : Int32} {v3 : Value} (h : wp 140 0 [.ref 193] [] (hs t, F, G) (fun v M' => wp 152 22 [.ref 193, .int a1, .int a2, v3] (v.toList ++ []) M' Q)) : wp 152 18 [.ref 193, .int a1, .int a2, v3] [] (hs t, F, G) Q := by
  refine wp_N (j' := 152) (pc' := 19) (L' := [.ref 193, .int a1, .int a2, v3]) (S' := [.ref 193]) (M' := (hs t, F, G)) 0 (fun _ => rfl) ?_
  refine wp_C (i := 140) (pc' := 22) (Li := [.ref 193]) (rest := []) (fun _ => rfl) h
theorem rg152_22 {t : Nat} {F : ip_F} {G : ip_G} {Q : Option Value → ip_M → Prop} {a1 a2 as0 : Int32} {v3 : Value} (h : Q (some (.int as0)) (hs t, F, G)) : wp 152 22 [.ref 193, .int a1, .int a2, v3] [.int as0] (hs t, F, G) Q := by
  exact wp_RI rfl rfl h
theorem rg153_0 {t : Nat} {F : ip_F} {G : ip_G} {Q : Option Value → ip_M → Prop} {a1 : Int32} (h : wp 143 0 [.int a1, .int (0 : Int32), .int (127 : Int32)] [] (hs t, F, G) (fun v M' => wp 153 7 [.ref 193, .int a1] (v.toList ++ []) M' Q)) : wp 153 0 [.ref 193, .int a1] [] (hs t, F, G) Q := by
  refine wp_N (j' := 153) (pc' := 4) (L' := [.ref 193, .int a1]) (S' := [.int (127 : Int32), .int (0 : Int32), .int a1]) (M' := (hs t, F, G)) 2 (fun _ => rfl) ?_
  refine wp_C (i := 143) (pc' := 7) (Li := [.int a1, .int (0 : Int32), .int (127 : Int32)]) (rest := []) (fun _ => rfl) h
theorem rg153_7 {t : Nat} {F : ip_F} {G : ip_G} {Q : Option Value → ip_M → Prop} {a1 as0 : Int32} (h : (¬ as0 = (0 : Int32) → (¬ (F 193 15) = (150 : Int32) → (vp_in (F 193 15) 150) ∧ (Q (some (.int ((ip_u (ip_u F 203 ((F 193 15)).toNatClampNeg a1) 193 15 (((ip_u F 203 ((F 193 15)).toNatClampNeg a1) 193 15) + (1 : Int32))) 193 15))) (hs t, (ip_u (ip_u F 203 ((F 193 15)).toNatClampNeg a1) 193 15 (((ip_u F 203 ((F 193 15)).toNatClampNeg a1) 193 15) + (1 : Int32))), G))) ∧ ((F 193 15) = (150 : Int32) → wp 142 0 [.ref 193] [] (hs t, F, G) (fun v M' => wp 153 29 [.ref 193, .int a1] (v.toList ++ []) M' Q))) ∧ (as0 = (0 : Int32) → wp 140 0 [.ref 193] [] (hs t, F, G) (fun v M' => wp 153 14 [.ref 193, .int a1] (v.toList ++ []) M' Q))) : wp 153 7 [.ref 193, .int a1] [.int as0] (hs t, F, G) Q := by
  refine wp_ifc (pc1 := 15) (c := .ne) rfl (fun hc => ?_) (fun hc => ?_)
  · replace h := h.1 hc
    refine wp_N (j' := 153) (pc' := 22) (L' := [.ref 193, .int a1]) (S' := [.int (150 : Int32), .int (F 193 15)]) (M' := (hs t, F, G)) 2 (fun _ => rfl) ?_
    refine wp_icmp (pc1 := 30) (c := .ne) rfl (fun hc => ?_) (fun hc => ?_)
    · replace h := h.1 hc
      refine wp_N (j' := 153) (pc' := 39) (L' := [.ref 193, .int a1]) (S' := [.int a1, .int (F 193 15), .ref 203]) (M' := (hs t, F, G)) 4 (fun _ => rfl) ?_
      obtain ⟨h1_, h⟩ := h
      refine wp_ias (m := ((F 193 15)).toNatClampNeg) rfl rfl rfl h1_ ?_
      refine wp_N (j' := 153) (pc' := 47) (L' := [.ref 193, .int a1]) (S' := [.int (((ip_u F 203 ((F 193 15)).toNatClampNeg a1) 193 15) + (1 : Int32)), .ref 193]) (M' := (hs t, (ip_u F 203 ((F 193 15)).toNatClampNeg a1), G)) 4 (fun _ => rfl) ?_
      refine wp_putI rfl rfl rfl rfl rfl rfl (by decide) ?_
      refine wp_N (j' := 153) (pc' := 54) (L' := [.ref 193, .int a1]) (S' := [.int ((ip_u (ip_u F 203 ((F 193 15)).toNatClampNeg a1) 193 15 (((ip_u F 203 ((F 193 15)).toNatClampNeg a1) 193 15) + (1 : Int32))) 193 15)]) (M' := (hs t, (ip_u (ip_u F 203 ((F 193 15)).toNatClampNeg a1) 193 15 (((ip_u F 203 ((F 193 15)).toNatClampNeg a1) 193 15) + (1 : Int32))), G)) 1 (fun _ => rfl) ?_
      exact wp_RI rfl rfl h
    · replace h := h.2 (Decidable.not_not.mp hc)
      refine wp_N (j' := 153) (pc' := 26) (L' := [.ref 193, .int a1]) (S' := [.ref 193]) (M' := (hs t, F, G)) 0 (fun _ => rfl) ?_
      refine wp_C (i := 142) (pc' := 29) (Li := [.ref 193]) (rest := []) (fun _ => rfl) h
  · replace h := h.2 (Decidable.not_not.mp hc)
    refine wp_N (j' := 153) (pc' := 11) (L' := [.ref 193, .int a1]) (S' := [.ref 193]) (M' := (hs t, F, G)) 0 (fun _ => rfl) ?_
    refine wp_C (i := 140) (pc' := 14) (Li := [.ref 193]) (rest := []) (fun _ => rfl) h
theorem rg153_14 {t : Nat} {F : ip_F} {G : ip_G} {Q : Option Value → ip_M → Prop} {a1 as0 : Int32} (h : Q (some (.int as0)) (hs t, F, G)) : wp 153 14 [.ref 193, .int a1] [.int as0] (hs t, F, G) Q := by
  exact wp_RI rfl rfl h
theorem rg153_29 {t : Nat} {F : ip_F} {G : ip_G} {Q : Option Value → ip_M → Prop} {a1 as0 : Int32} (h : Q (some (.int as0)) (hs t, F, G)) : wp 153 29 [.ref 193, .int a1] [.int as0] (hs t, F, G) Q := by
  exact wp_RI rfl rfl h
theorem rg154_0 {t : Nat} {F : ip_F} {G : ip_G} {Q : Option Value → ip_M → Prop} (h : Q (some (.int (F 193 15))) (hs t, (ip_u F 193 15 (0 : Int32)), G)) : wp 154 0 [.ref 193, .float 0] [] (hs t, F, G) Q := by
  refine wp_N (j' := 154) (pc' := 7) (L' := [.ref 193, .int (F 193 15)]) (S' := [.int (0 : Int32), .ref 193]) (M' := (hs t, F, G)) 4 (fun _ => rfl) ?_
  refine wp_putI rfl rfl rfl rfl rfl rfl (by decide) ?_
  refine wp_N (j' := 154) (pc' := 11) (L' := [.ref 193, .int (F 193 15)]) (S' := [.int (F 193 15)]) (M' := (hs t, (ip_u F 193 15 (0 : Int32)), G)) 0 (fun _ => rfl) ?_
  exact wp_RI rfl rfl h
theorem rg155_0 {t : Nat} {F : ip_F} {G : ip_G} {Q : Option Value → ip_M → Prop} (h : ((F 193 15) ≤ (F 193 16) → Q (some (.int (-1 : Int32))) (hs t, F, G)) ∧ ((F 193 16) < (F 193 15) → (vp_in (F 193 16) 150) ∧ (Q (some (.int (F 203 ((F 193 16)).toNatClampNeg))) (hs t, F, G)))) : wp 155 0 [.ref 193] [] (hs t, F, G) Q := by
  refine wp_N (j' := 155) (pc' := 8) (L' := [.ref 193]) (S' := [.int (F 193 15), .int (F 193 16)]) (M' := (hs t, F, G)) 3 (fun _ => rfl) ?_
  refine wp_icmp (pc1 := 23) (c := .ge) rfl (fun hc => ?_) (fun hc => ?_)
  · replace h := h.1 hc
    refine wp_N (j' := 155) (pc' := 24) (L' := [.ref 193]) (S' := [.int (-1 : Int32)]) (M' := (hs t, F, G)) 0 (fun _ => rfl) ?_
    exact wp_RI rfl rfl h
  · replace h := h.2 (Int32.not_le.mp hc)
    refine wp_N (j' := 155) (pc' := 19) (L' := [.ref 193]) (S' := [.int (F 193 16), .ref 203]) (M' := (hs t, F, G)) 3 (fun _ => rfl) ?_
    obtain ⟨h1_, h⟩ := h
    refine wp_ial (m := ((F 193 16)).toNatClampNeg) rfl rfl rfl h1_ ?_
    refine wp_N (j' := 155) (pc' := 24) (L' := [.ref 193]) (S' := [.int (F 203 ((F 193 16)).toNatClampNeg)]) (M' := (hs t, F, G)) 0 (fun _ => rfl) ?_
    exact wp_RI rfl rfl h
theorem rg156_0 {t : Nat} {F : ip_F} {G : ip_G} {Q : Option Value → ip_M → Prop} (h : wp 155 0 [.ref 193] [] (hs t, F, G) (fun v M' => wp 156 4 [.ref 193] (v.toList ++ []) M' Q)) : wp 156 0 [.ref 193] [] (hs t, F, G) Q := by
  refine wp_N (j' := 156) (pc' := 1) (L' := [.ref 193]) (S' := [.ref 193]) (M' := (hs t, F, G)) 0 (fun _ => rfl) ?_
  refine wp_C (i := 155) (pc' := 4) (Li := [.ref 193]) (rest := []) (fun _ => rfl) h
theorem rg156_4 {t : Nat} {F : ip_F} {G : ip_G} {Q : Option Value → ip_M → Prop} {as0 : Int32} (h : (¬ as0 = (32 : Int32) → Q none (hs t, F, G)) ∧ (as0 = (32 : Int32) → wp 156 0 [.ref 193] [] (hs t, (ip_u F 193 16 ((F 193 16) + (1 : Int32))), G) Q)) : wp 156 4 [.ref 193] [.int as0] (hs t, F, G) Q := by
  refine wp_N (j' := 156) (pc' := 6) (L' := [.ref 193]) (S' := [.int (32 : Int32), .int as0]) (M' := (hs t, F, G)) 0 (fun _ => rfl) ?_
  refine wp_icmp (pc1 := 22) (c := .ne) rfl (fun hc => ?_) (fun hc => ?_)
  · replace h := h.1 hc
    exact wp_RV rfl rfl h
  · replace h := h.2 (Decidable.not_not.mp hc)
    refine wp_N (j' := 156) (pc' := 16) (L' := [.ref 193]) (S' := [.int ((F 193 16) + (1 : Int32)), .ref 193]) (M' := (hs t, F, G)) 4 (fun _ => rfl) ?_
    refine wp_putI rfl rfl rfl rfl rfl rfl (by decide) ?_
    refine wp_N (j' := 156) (pc' := 0) (L' := [.ref 193]) (S' := []) (M' := (hs t, (ip_u F 193 16 ((F 193 16) + (1 : Int32))), G)) 0 (fun _ => rfl) ?_
    exact h
theorem rg157_0 {t : Nat} {F : ip_F} {G : ip_G} {Q : Option Value → ip_M → Prop} {a0 : Int32} (h : wp 143 0 [.int a0, .int (97 : Int32), .int (122 : Int32)] [] (hs t, F, G) (fun v M' => wp 157 8 [.int a0] (v.toList ++ []) M' Q)) : wp 157 0 [.int a0] [] (hs t, F, G) Q := by
  refine wp_N (j' := 157) (pc' := 5) (L' := [.int a0]) (S' := [.int (122 : Int32), .int (97 : Int32), .int a0]) (M' := (hs t, F, G)) 2 (fun _ => rfl) ?_
  refine wp_C (i := 143) (pc' := 8) (Li := [.int a0, .int (97 : Int32), .int (122 : Int32)]) (rest := []) (fun _ => rfl) h
theorem rg157_8 {t : Nat} {F : ip_F} {G : ip_G} {Q : Option Value → ip_M → Prop} {a0 as0 : Int32} (h : (as0 &&& 1 = as0) ∧ (Q (some (.int as0)) (hs t, F, G))) : wp 157 8 [.int a0] [.int as0] (hs t, F, G) Q := by
  obtain ⟨h1_, h⟩ := h
  exact wp_RZ rfl rfl h1_ h
theorem rg158_0 {t : Nat} {F : ip_F} {G : ip_G} {Q : Option Value → ip_M → Prop} {a0 : Int32} (h : wp 143 0 [.int a0, .int (48 : Int32), .int (57 : Int32)] [] (hs t, F, G) (fun v M' => wp 158 8 [.int a0] (v.toList ++ []) M' Q)) : wp 158 0 [.int a0] [] (hs t, F, G) Q := by
  refine wp_N (j' := 158) (pc' := 5) (L' := [.int a0]) (S' := [.int (57 : Int32), .int (48 : Int32), .int a0]) (M' := (hs t, F, G)) 2 (fun _ => rfl) ?_
  refine wp_C (i := 143) (pc' := 8) (Li := [.int a0, .int (48 : Int32), .int (57 : Int32)]) (rest := []) (fun _ => rfl) h
theorem rg158_8 {t : Nat} {F : ip_F} {G : ip_G} {Q : Option Value → ip_M → Prop} {a0 as0 : Int32} (h : (as0 &&& 1 = as0) ∧ (Q (some (.int as0)) (hs t, F, G))) : wp 158 8 [.int a0] [.int as0] (hs t, F, G) Q := by
  obtain ⟨h1_, h⟩ := h
  exact wp_RZ rfl rfl h1_ h
theorem rg159_0 {t : Nat} {F : ip_F} {G : ip_G} {Q : Option Value → ip_M → Prop} (h : wp 159 2 [.ref 193, .int (0 : Int32)] [] (hs t, F, G) Q) : wp 159 0 [.ref 193, .float 0] [] (hs t, F, G) Q := by
  refine wp_N (j' := 159) (pc' := 2) (L' := [.ref 193, .int (0 : Int32)]) (S' := []) (M' := (hs t, F, G)) 1 (fun _ => rfl) ?_
  exact h
theorem rg159_2 {t : Nat} {F : ip_F} {G : ip_G} {Q : Option Value → ip_M → Prop} {a1 : Int32} (h : ((F 193 15) ≤ ((F 193 16) + a1) → Q (some (.int a1)) (hs t, F, G)) ∧ (((F 193 16) + a1) < (F 193 15) → (vp_in ((F 193 16) + a1) 150) ∧ (wp 157 0 [.int (F 203 (((F 193 16) + a1)).toNatClampNeg)] [] (hs t, F, G) (fun v M' => wp 159 29 [.ref 193, .int a1] (v.toList ++ []) M' Q)))) : wp 159 2 [.ref 193, .int a1] [] (hs t, F, G) Q := by
  refine wp_N (j' := 159) (pc' := 12) (L' := [.ref 193, .int a1]) (S' := [.int (F 193 15), .int ((F 193 16) + a1)]) (M' := (hs t, F, G)) 5 (fun _ => rfl) ?_
  refine wp_icmp (pc1 := 38) (c := .ge) rfl (fun hc => ?_) (fun hc => ?_)
  · replace h := h.1 hc
    refine wp_N (j' := 159) (pc' := 39) (L' := [.ref 193, .int a1]) (S' := [.int a1]) (M' := (hs t, F, G)) 0 (fun _ => rfl) ?_
    exact wp_RI rfl rfl h
  · replace h := h.2 (Int32.not_le.mp hc)
    refine wp_N (j' := 159) (pc' := 25) (L' := [.ref 193, .int a1]) (S' := [.int ((F 193 16) + a1), .ref 203]) (M' := (hs t, F, G)) 5 (fun _ => rfl) ?_
    obtain ⟨h1_, h⟩ := h
    refine wp_ial (m := (((F 193 16) + a1)).toNatClampNeg) rfl rfl rfl h1_ ?_
    refine wp_C (i := 157) (pc' := 29) (Li := [.int (F 203 (((F 193 16) + a1)).toNatClampNeg)]) (rest := []) (fun _ => rfl) h
theorem rg159_29 {t : Nat} {F : ip_F} {G : ip_G} {Q : Option Value → ip_M → Prop} {a1 as0 : Int32} (h : (as0 = (0 : Int32) → Q (some (.int a1)) (hs t, F, G)) ∧ (¬ as0 = (0 : Int32) → wp 159 2 [.ref 193, .int (a1 + (1 : Int32))] [] (hs t, F, G) Q)) : wp 159 29 [.ref 193, .int a1] [.int as0] (hs t, F, G) Q := by
  refine wp_ifc (pc1 := 38) (c := .eq) rfl (fun hc => ?_) (fun hc => ?_)
  · replace h := h.1 hc
    refine wp_N (j' := 159) (pc' := 39) (L' := [.ref 193, .int a1]) (S' := [.int a1]) (M' := (hs t, F, G)) 0 (fun _ => rfl) ?_
    exact wp_RI rfl rfl h
  · replace h := h.2 hc
    refine wp_N (j' := 159) (pc' := 2) (L' := [.ref 193, .int (a1 + (1 : Int32))]) (S' := []) (M' := (hs t, F, G)) 1 (fun _ => rfl) ?_
    exact h
theorem rg160_0 {t : Nat} {F : ip_F} {G : ip_G} {Q : Option Value → ip_M → Prop} {a1 : Int32} (h : (vp_in ((F 193 16) + a1) 150) ∧ (Q (some (.int (F 203 (((F 193 16) + a1)).toNatClampNeg))) (hs t, F, G))) : wp 160 0 [.ref 193, .int a1] [] (hs t, F, G) Q := by
  refine wp_N (j' := 160) (pc' := 10) (L' := [.ref 193, .int a1]) (S' := [.int ((F 193 16) + a1), .ref 203]) (M' := (hs t, F, G)) 5 (fun _ => rfl) ?_
  obtain ⟨h1_, h⟩ := h
  refine wp_ial (m := (((F 193 16) + a1)).toNatClampNeg) rfl rfl rfl h1_ ?_
  exact wp_RI rfl rfl h
theorem rg161_0 {t : Nat} {F : ip_F} {G : ip_G} {Q : Option Value → ip_M → Prop} (h : wp 159 0 [.ref 193, .float 0] [] (hs t, F, G) (fun v M' => wp 161 4 [.ref 193, .float 0] (v.toList ++ []) M' Q)) : wp 161 0 [.ref 193, .float 0] [] (hs t, F, G) Q := by
  refine wp_N (j' := 161) (pc' := 1) (L' := [.ref 193, .float 0]) (S' := [.ref 193]) (M' := (hs t, F, G)) 0 (fun _ => rfl) ?_
  refine wp_C (i := 159) (pc' := 4) (Li := [.ref 193, .float 0]) (rest := []) (fun _ => rfl) h
theorem rg161_4 {t : Nat} {F : ip_F} {G : ip_G} {Q : Option Value → ip_M → Prop} {as0 : Int32} {v1 : Value} (h : (¬ as0 = (4 : Int32) → (¬ as0 = (5 : Int32) → (as0 = (6 : Int32) → wp 160 0 [.ref 193, .int (0 : Int32)] [] (hs t, F, G) (fun v M' => wp 161 182 [.ref 193, .int as0] (v.toList ++ []) M' Q)) ∧ (¬ as0 = (6 : Int32) → Q (some (.int (-1 : Int32))) (hs t, F, G))) ∧ (as0 = (5 : Int32) → wp 160 0 [.ref 193, .int (0 : Int32)] [] (hs t, F, G) (fun v M' => wp 161 66 [.ref 193, .int as0] (v.toList ++ []) M' Q))) ∧ (as0 = (4 : Int32) → wp 160 0 [.ref 193, .int (0 : Int32)] [] (hs t, F, G) (fun v M' => wp 161 15 [.ref 193, .int as0] (v.toList ++ []) M' Q))) : wp 161 4 [.ref 193, v1] [.int as0] (hs t, F, G) Q := by
  refine wp_N (j' := 161) (pc' := 7) (L' := [.ref 193, .int as0]) (S' := [.int (4 : Int32), .int as0]) (M' := (hs t, F, G)) 2 (fun _ => rfl) ?_
  refine wp_icmp (pc1 := 56) (c := .ne) rfl (fun hc => ?_) (fun hc => ?_)
  · replace h := h.1 hc
    refine wp_N (j' := 161) (pc' := 58) (L' := [.ref 193, .int as0]) (S' := [.int (5 : Int32), .int as0]) (M' := (hs t, F, G)) 1 (fun _ => rfl) ?_
    refine wp_icmp (pc1 := 169) (c := .ne) rfl (fun hc => ?_) (fun hc => ?_)
    · replace h := h.1 hc
      refine wp_N (j' := 161) (pc' := 172) (L' := [.ref 193, .int as0]) (S' := [.int (6 : Int32), .int as0]) (M' := (hs t, F, G)) 1 (fun _ => rfl) ?_
      refine wp_icmp (pc1 := 177) (c := .eq) rfl (fun hc => ?_) (fun hc => ?_)
      · replace h := h.1 hc
        refine wp_N (j' := 161) (pc' := 179) (L' := [.ref 193, .int as0]) (S' := [.int (0 : Int32), .ref 193]) (M' := (hs t, F, G)) 1 (fun _ => rfl) ?_
        refine wp_C (i := 160) (pc' := 182) (Li := [.ref 193, .int (0 : Int32)]) (rest := []) (fun _ => rfl) h
      · replace h := h.2 hc
        refine wp_N (j' := 161) (pc' := 176) (L' := [.ref 193, .int as0]) (S' := [.int (-1 : Int32)]) (M' := (hs t, F, G)) 0 (fun _ => rfl) ?_
        exact wp_RI rfl rfl h
    · replace h := h.2 (Decidable.not_not.mp hc)
      refine wp_N (j' := 161) (pc' := 63) (L' := [.ref 193, .int as0]) (S' := [.int (0 : Int32), .ref 193]) (M' := (hs t, F, G)) 1 (fun _ => rfl) ?_
      refine wp_C (i := 160) (pc' := 66) (Li := [.ref 193, .int (0 : Int32)]) (rest := []) (fun _ => rfl) h
  · replace h := h.2 (Decidable.not_not.mp hc)
    refine wp_N (j' := 161) (pc' := 12) (L' := [.ref 193, .int as0]) (S' := [.int (0 : Int32), .ref 193]) (M' := (hs t, F, G)) 1 (fun _ => rfl) ?_
    refine wp_C (i := 160) (pc' := 15) (Li := [.ref 193, .int (0 : Int32)]) (rest := []) (fun _ => rfl) h
theorem rg161_15 {t : Nat} {F : ip_F} {G : ip_G} {Q : Option Value → ip_M → Prop} {a1 as0 : Int32} (h : (¬ as0 = (115 : Int32) → Q (some (.int (-1 : Int32))) (hs t, F, G)) ∧ (as0 = (115 : Int32) → wp 160 0 [.ref 193, .int (1 : Int32)] [] (hs t, F, G) (fun v M' => wp 161 25 [.ref 193, .int a1] (v.toList ++ []) M' Q))) : wp 161 15 [.ref 193, .int a1] [.int as0] (hs t, F, G) Q := by
  refine wp_N (j' := 161) (pc' := 17) (L' := [.ref 193, .int a1]) (S' := [.int (115 : Int32), .int as0]) (M' := (hs t, F, G)) 0 (fun _ => rfl) ?_
  refine wp_icmp (pc1 := 54) (c := .ne) rfl (fun hc => ?_) (fun hc => ?_)
  · replace h := h.1 hc
    refine wp_N (j' := 161) (pc' := 55) (L' := [.ref 193, .int a1]) (S' := [.int (-1 : Int32)]) (M' := (hs t, F, G)) 0 (fun _ => rfl) ?_
    exact wp_RI rfl rfl h
  · replace h := h.2 (Decidable.not_not.mp hc)
    refine wp_N (j' := 161) (pc' := 22) (L' := [.ref 193, .int a1]) (S' := [.int (1 : Int32), .ref 193]) (M' := (hs t, F, G)) 1 (fun _ => rfl) ?_
    refine wp_C (i := 160) (pc' := 25) (Li := [.ref 193, .int (1 : Int32)]) (rest := []) (fun _ => rfl) h
theorem rg161_25 {t : Nat} {F : ip_F} {G : ip_G} {Q : Option Value → ip_M → Prop} {a1 as0 : Int32} (h : (¬ as0 = (108 : Int32) → Q (some (.int (-1 : Int32))) (hs t, F, G)) ∧ (as0 = (108 : Int32) → wp 160 0 [.ref 193, .int (2 : Int32)] [] (hs t, F, G) (fun v M' => wp 161 35 [.ref 193, .int a1] (v.toList ++ []) M' Q))) : wp 161 25 [.ref 193, .int a1] [.int as0] (hs t, F, G) Q := by
  refine wp_N (j' := 161) (pc' := 27) (L' := [.ref 193, .int a1]) (S' := [.int (108 : Int32), .int as0]) (M' := (hs t, F, G)) 0 (fun _ => rfl) ?_
  refine wp_icmp (pc1 := 54) (c := .ne) rfl (fun hc => ?_) (fun hc => ?_)
  · replace h := h.1 hc
    refine wp_N (j' := 161) (pc' := 55) (L' := [.ref 193, .int a1]) (S' := [.int (-1 : Int32)]) (M' := (hs t, F, G)) 0 (fun _ => rfl) ?_
    exact wp_RI rfl rfl h
  · replace h := h.2 (Decidable.not_not.mp hc)
    refine wp_N (j' := 161) (pc' := 32) (L' := [.ref 193, .int a1]) (S' := [.int (2 : Int32), .ref 193]) (M' := (hs t, F, G)) 1 (fun _ => rfl) ?_
    refine wp_C (i := 160) (pc' := 35) (Li := [.ref 193, .int (2 : Int32)]) (rest := []) (fun _ => rfl) h
theorem rg161_35 {t : Nat} {F : ip_F} {G : ip_G} {Q : Option Value → ip_M → Prop} {a1 as0 : Int32} (h : (¬ as0 = (105 : Int32) → Q (some (.int (-1 : Int32))) (hs t, F, G)) ∧ (as0 = (105 : Int32) → wp 160 0 [.ref 193, .int (3 : Int32)] [] (hs t, F, G) (fun v M' => wp 161 45 [.ref 193, .int a1] (v.toList ++ []) M' Q))) : wp 161 35 [.ref 193, .int a1] [.int as0] (hs t, F, G) Q := by
  refine wp_N (j' := 161) (pc' := 37) (L' := [.ref 193, .int a1]) (S' := [.int (105 : Int32), .int as0]) (M' := (hs t, F, G)) 0 (fun _ => rfl) ?_
  refine wp_icmp (pc1 := 54) (c := .ne) rfl (fun hc => ?_) (fun hc => ?_)
  · replace h := h.1 hc
    refine wp_N (j' := 161) (pc' := 55) (L' := [.ref 193, .int a1]) (S' := [.int (-1 : Int32)]) (M' := (hs t, F, G)) 0 (fun _ => rfl) ?_
    exact wp_RI rfl rfl h
  · replace h := h.2 (Decidable.not_not.mp hc)
    refine wp_N (j' := 161) (pc' := 42) (L' := [.ref 193, .int a1]) (S' := [.int (3 : Int32), .ref 193]) (M' := (hs t, F, G)) 1 (fun _ => rfl) ?_
    refine wp_C (i := 160) (pc' := 45) (Li := [.ref 193, .int (3 : Int32)]) (rest := []) (fun _ => rfl) h
theorem rg161_45 {t : Nat} {F : ip_F} {G : ip_G} {Q : Option Value → ip_M → Prop} {a1 as0 : Int32} (h : (¬ as0 = (112 : Int32) → Q (some (.int (-1 : Int32))) (hs t, F, G)) ∧ (as0 = (112 : Int32) → Q (some (.int (2 : Int32))) (hs t, F, G))) : wp 161 45 [.ref 193, .int a1] [.int as0] (hs t, F, G) Q := by
  refine wp_N (j' := 161) (pc' := 47) (L' := [.ref 193, .int a1]) (S' := [.int (112 : Int32), .int as0]) (M' := (hs t, F, G)) 0 (fun _ => rfl) ?_
  refine wp_icmp (pc1 := 54) (c := .ne) rfl (fun hc => ?_) (fun hc => ?_)
  · replace h := h.1 hc
    refine wp_N (j' := 161) (pc' := 55) (L' := [.ref 193, .int a1]) (S' := [.int (-1 : Int32)]) (M' := (hs t, F, G)) 0 (fun _ => rfl) ?_
    exact wp_RI rfl rfl h
  · replace h := h.2 (Decidable.not_not.mp hc)
    refine wp_N (j' := 161) (pc' := 55) (L' := [.ref 193, .int a1]) (S' := [.int (2 : Int32)]) (M' := (hs t, F, G)) 1 (fun _ => rfl) ?_
    exact wp_RI rfl rfl h
theorem rg161_66 {t : Nat} {F : ip_F} {G : ip_G} {Q : Option Value → ip_M → Prop} {a1 as0 : Int32} (h : (¬ as0 = (116 : Int32) → wp 161 113 [.ref 193, .int a1] [] (hs t, F, G) Q) ∧ (as0 = (116 : Int32) → wp 160 0 [.ref 193, .int (1 : Int32)] [] (hs t, F, G) (fun v M' => wp 161 76 [.ref 193, .int a1] (v.toList ++ []) M' Q))) : wp 161 66 [.ref 193, .int a1] [.int as0] (hs t, F, G) Q := by
  refine wp_N (j' := 161) (pc' := 68) (L' := [.ref 193, .int a1]) (S' := [.int (116 : Int32), .int as0]) (M' := (hs t, F, G)) 0 (fun _ => rfl) ?_
  refine wp_icmp (pc1 := 113) (c := .ne) rfl (fun hc => ?_) (fun hc => ?_)
  · replace h := h.1 hc
    exact h
  · replace h := h.2 (Decidable.not_not.mp hc)
    refine wp_N (j' := 161) (pc' := 73) (L' := [.ref 193, .int a1]) (S' := [.int (1 : Int32), .ref 193]) (M' := (hs t, F, G)) 1 (fun _ => rfl) ?_
    refine wp_C (i := 160) (pc' := 76) (Li := [.ref 193, .int (1 : Int32)]) (rest := []) (fun _ => rfl) h
theorem rg161_76 {t : Nat} {F : ip_F} {G : ip_G} {Q : Option Value → ip_M → Prop} {a1 as0 : Int32} (h : (¬ as0 = (111 : Int32) → wp 161 113 [.ref 193, .int a1] [] (hs t, F, G) Q) ∧ (as0 = (111 : Int32) → wp 160 0 [.ref 193, .int (2 : Int32)] [] (hs t, F, G) (fun v M' => wp 161 86 [.ref 193, .int a1] (v.toList ++ []) M' Q))) : wp 161 76 [.ref 193, .int a1] [.int as0] (hs t, F, G) Q := by
  refine wp_N (j' := 161) (pc' := 78) (L' := [.ref 193, .int a1]) (S' := [.int (111 : Int32), .int as0]) (M' := (hs t, F, G)) 0 (fun _ => rfl) ?_
  refine wp_icmp (pc1 := 113) (c := .ne) rfl (fun hc => ?_) (fun hc => ?_)
  · replace h := h.1 hc
    exact h
  · replace h := h.2 (Decidable.not_not.mp hc)
    refine wp_N (j' := 161) (pc' := 83) (L' := [.ref 193, .int a1]) (S' := [.int (2 : Int32), .ref 193]) (M' := (hs t, F, G)) 1 (fun _ => rfl) ?_
    refine wp_C (i := 160) (pc' := 86) (Li := [.ref 193, .int (2 : Int32)]) (rest := []) (fun _ => rfl) h
theorem rg161_86 {t : Nat} {F : ip_F} {G : ip_G} {Q : Option Value → ip_M → Prop} {a1 as0 : Int32} (h : (¬ as0 = (119 : Int32) → wp 161 113 [.ref 193, .int a1] [] (hs t, F, G) Q) ∧ (as0 = (119 : Int32) → wp 160 0 [.ref 193, .int (3 : Int32)] [] (hs t, F, G) (fun v M' => wp 161 96 [.ref 193, .int a1] (v.toList ++ []) M' Q))) : wp 161 86 [.ref 193, .int a1] [.int as0] (hs t, F, G) Q := by
  refine wp_N (j' := 161) (pc' := 88) (L' := [.ref 193, .int a1]) (S' := [.int (119 : Int32), .int as0]) (M' := (hs t, F, G)) 0 (fun _ => rfl) ?_
  refine wp_icmp (pc1 := 113) (c := .ne) rfl (fun hc => ?_) (fun hc => ?_)
  · replace h := h.1 hc
    exact h
  · replace h := h.2 (Decidable.not_not.mp hc)
    refine wp_N (j' := 161) (pc' := 93) (L' := [.ref 193, .int a1]) (S' := [.int (3 : Int32), .ref 193]) (M' := (hs t, F, G)) 1 (fun _ => rfl) ?_
    refine wp_C (i := 160) (pc' := 96) (Li := [.ref 193, .int (3 : Int32)]) (rest := []) (fun _ => rfl) h
theorem rg161_96 {t : Nat} {F : ip_F} {G : ip_G} {Q : Option Value → ip_M → Prop} {a1 as0 : Int32} (h : (¬ as0 = (101 : Int32) → wp 161 113 [.ref 193, .int a1] [] (hs t, F, G) Q) ∧ (as0 = (101 : Int32) → wp 160 0 [.ref 193, .int (4 : Int32)] [] (hs t, F, G) (fun v M' => wp 161 106 [.ref 193, .int a1] (v.toList ++ []) M' Q))) : wp 161 96 [.ref 193, .int a1] [.int as0] (hs t, F, G) Q := by
  refine wp_N (j' := 161) (pc' := 98) (L' := [.ref 193, .int a1]) (S' := [.int (101 : Int32), .int as0]) (M' := (hs t, F, G)) 0 (fun _ => rfl) ?_
  refine wp_icmp (pc1 := 113) (c := .ne) rfl (fun hc => ?_) (fun hc => ?_)
  · replace h := h.1 hc
    exact h
  · replace h := h.2 (Decidable.not_not.mp hc)
    refine wp_N (j' := 161) (pc' := 103) (L' := [.ref 193, .int a1]) (S' := [.int (4 : Int32), .ref 193]) (M' := (hs t, F, G)) 1 (fun _ => rfl) ?_
    refine wp_C (i := 160) (pc' := 106) (Li := [.ref 193, .int (4 : Int32)]) (rest := []) (fun _ => rfl) h
theorem rg161_106 {t : Nat} {F : ip_F} {G : ip_G} {Q : Option Value → ip_M → Prop} {a1 as0 : Int32} (h : (¬ as0 = (114 : Int32) → wp 161 113 [.ref 193, .int a1] [] (hs t, F, G) Q) ∧ (as0 = (114 : Int32) → Q (some (.int (0 : Int32))) (hs t, F, G))) : wp 161 106 [.ref 193, .int a1] [.int as0] (hs t, F, G) Q := by
  refine wp_N (j' := 161) (pc' := 108) (L' := [.ref 193, .int a1]) (S' := [.int (114 : Int32), .int as0]) (M' := (hs t, F, G)) 0 (fun _ => rfl) ?_
  refine wp_icmp (pc1 := 113) (c := .ne) rfl (fun hc => ?_) (fun hc => ?_)
  · replace h := h.1 hc
    exact h
  · replace h := h.2 (Decidable.not_not.mp hc)
    refine wp_N (j' := 161) (pc' := 112) (L' := [.ref 193, .int a1]) (S' := [.int (0 : Int32)]) (M' := (hs t, F, G)) 0 (fun _ => rfl) ?_
    exact wp_RI rfl rfl h
theorem rg161_113 {t : Nat} {F : ip_F} {G : ip_G} {Q : Option Value → ip_M → Prop} {a1 : Int32} (h : wp 160 0 [.ref 193, .int (0 : Int32)] [] (hs t, F, G) (fun v M' => wp 161 118 [.ref 193, .int a1] (v.toList ++ []) M' Q)) : wp 161 113 [.ref 193, .int a1] [] (hs t, F, G) Q := by
  refine wp_N (j' := 161) (pc' := 115) (L' := [.ref 193, .int a1]) (S' := [.int (0 : Int32), .ref 193]) (M' := (hs t, F, G)) 1 (fun _ => rfl) ?_
  refine wp_C (i := 160) (pc' := 118) (Li := [.ref 193, .int (0 : Int32)]) (rest := []) (fun _ => rfl) h
theorem rg161_118 {t : Nat} {F : ip_F} {G : ip_G} {Q : Option Value → ip_M → Prop} {a1 as0 : Int32} (h : (¬ as0 = (121 : Int32) → Q (some (.int (-1 : Int32))) (hs t, F, G)) ∧ (as0 = (121 : Int32) → wp 160 0 [.ref 193, .int (1 : Int32)] [] (hs t, F, G) (fun v M' => wp 161 128 [.ref 193, .int a1] (v.toList ++ []) M' Q))) : wp 161 118 [.ref 193, .int a1] [.int as0] (hs t, F, G) Q := by
  refine wp_N (j' := 161) (pc' := 120) (L' := [.ref 193, .int a1]) (S' := [.int (121 : Int32), .int as0]) (M' := (hs t, F, G)) 0 (fun _ => rfl) ?_
  refine wp_icmp (pc1 := 167) (c := .ne) rfl (fun hc => ?_) (fun hc => ?_)
  · replace h := h.1 hc
    refine wp_N (j' := 161) (pc' := 168) (L' := [.ref 193, .int a1]) (S' := [.int (-1 : Int32)]) (M' := (hs t, F, G)) 0 (fun _ => rfl) ?_
    exact wp_RI rfl rfl h
  · replace h := h.2 (Decidable.not_not.mp hc)
    refine wp_N (j' := 161) (pc' := 125) (L' := [.ref 193, .int a1]) (S' := [.int (1 : Int32), .ref 193]) (M' := (hs t, F, G)) 1 (fun _ => rfl) ?_
    refine wp_C (i := 160) (pc' := 128) (Li := [.ref 193, .int (1 : Int32)]) (rest := []) (fun _ => rfl) h
theorem rg161_128 {t : Nat} {F : ip_F} {G : ip_G} {Q : Option Value → ip_M → Prop} {a1 as0 : Int32} (h : (¬ as0 = (101 : Int32) → Q (some (.int (-1 : Int32))) (hs t, F, G)) ∧ (as0 = (101 : Int32) → wp 160 0 [.ref 193, .int (2 : Int32)] [] (hs t, F, G) (fun v M' => wp 161 138 [.ref 193, .int a1] (v.toList ++ []) M' Q))) : wp 161 128 [.ref 193, .int a1] [.int as0] (hs t, F, G) Q := by
  refine wp_N (j' := 161) (pc' := 130) (L' := [.ref 193, .int a1]) (S' := [.int (101 : Int32), .int as0]) (M' := (hs t, F, G)) 0 (fun _ => rfl) ?_
  refine wp_icmp (pc1 := 167) (c := .ne) rfl (fun hc => ?_) (fun hc => ?_)
  · replace h := h.1 hc
    refine wp_N (j' := 161) (pc' := 168) (L' := [.ref 193, .int a1]) (S' := [.int (-1 : Int32)]) (M' := (hs t, F, G)) 0 (fun _ => rfl) ?_
    exact wp_RI rfl rfl h
  · replace h := h.2 (Decidable.not_not.mp hc)
    refine wp_N (j' := 161) (pc' := 135) (L' := [.ref 193, .int a1]) (S' := [.int (2 : Int32), .ref 193]) (M' := (hs t, F, G)) 1 (fun _ => rfl) ?_
    refine wp_C (i := 160) (pc' := 138) (Li := [.ref 193, .int (2 : Int32)]) (rest := []) (fun _ => rfl) h
theorem rg161_138 {t : Nat} {F : ip_F} {G : ip_G} {Q : Option Value → ip_M → Prop} {a1 as0 : Int32} (h : (¬ as0 = (97 : Int32) → Q (some (.int (-1 : Int32))) (hs t, F, G)) ∧ (as0 = (97 : Int32) → wp 160 0 [.ref 193, .int (3 : Int32)] [] (hs t, F, G) (fun v M' => wp 161 148 [.ref 193, .int a1] (v.toList ++ []) M' Q))) : wp 161 138 [.ref 193, .int a1] [.int as0] (hs t, F, G) Q := by
  refine wp_N (j' := 161) (pc' := 140) (L' := [.ref 193, .int a1]) (S' := [.int (97 : Int32), .int as0]) (M' := (hs t, F, G)) 0 (fun _ => rfl) ?_
  refine wp_icmp (pc1 := 167) (c := .ne) rfl (fun hc => ?_) (fun hc => ?_)
  · replace h := h.1 hc
    refine wp_N (j' := 161) (pc' := 168) (L' := [.ref 193, .int a1]) (S' := [.int (-1 : Int32)]) (M' := (hs t, F, G)) 0 (fun _ => rfl) ?_
    exact wp_RI rfl rfl h
  · replace h := h.2 (Decidable.not_not.mp hc)
    refine wp_N (j' := 161) (pc' := 145) (L' := [.ref 193, .int a1]) (S' := [.int (3 : Int32), .ref 193]) (M' := (hs t, F, G)) 1 (fun _ => rfl) ?_
    refine wp_C (i := 160) (pc' := 148) (Li := [.ref 193, .int (3 : Int32)]) (rest := []) (fun _ => rfl) h
theorem rg161_148 {t : Nat} {F : ip_F} {G : ip_G} {Q : Option Value → ip_M → Prop} {a1 as0 : Int32} (h : (¬ as0 = (114 : Int32) → Q (some (.int (-1 : Int32))) (hs t, F, G)) ∧ (as0 = (114 : Int32) → wp 160 0 [.ref 193, .int (4 : Int32)] [] (hs t, F, G) (fun v M' => wp 161 158 [.ref 193, .int a1] (v.toList ++ []) M' Q))) : wp 161 148 [.ref 193, .int a1] [.int as0] (hs t, F, G) Q := by
  refine wp_N (j' := 161) (pc' := 150) (L' := [.ref 193, .int a1]) (S' := [.int (114 : Int32), .int as0]) (M' := (hs t, F, G)) 0 (fun _ => rfl) ?_
  refine wp_icmp (pc1 := 167) (c := .ne) rfl (fun hc => ?_) (fun hc => ?_)
  · replace h := h.1 hc
    refine wp_N (j' := 161) (pc' := 168) (L' := [.ref 193, .int a1]) (S' := [.int (-1 : Int32)]) (M' := (hs t, F, G)) 0 (fun _ => rfl) ?_
    exact wp_RI rfl rfl h
  · replace h := h.2 (Decidable.not_not.mp hc)
    refine wp_N (j' := 161) (pc' := 155) (L' := [.ref 193, .int a1]) (S' := [.int (4 : Int32), .ref 193]) (M' := (hs t, F, G)) 1 (fun _ => rfl) ?_
    refine wp_C (i := 160) (pc' := 158) (Li := [.ref 193, .int (4 : Int32)]) (rest := []) (fun _ => rfl) h
theorem rg161_158 {t : Nat} {F : ip_F} {G : ip_G} {Q : Option Value → ip_M → Prop} {a1 as0 : Int32} (h : (¬ as0 = (115 : Int32) → Q (some (.int (-1 : Int32))) (hs t, F, G)) ∧ (as0 = (115 : Int32) → Q (some (.int (4 : Int32))) (hs t, F, G))) : wp 161 158 [.ref 193, .int a1] [.int as0] (hs t, F, G) Q := by
  refine wp_N (j' := 161) (pc' := 160) (L' := [.ref 193, .int a1]) (S' := [.int (115 : Int32), .int as0]) (M' := (hs t, F, G)) 0 (fun _ => rfl) ?_
  refine wp_icmp (pc1 := 167) (c := .ne) rfl (fun hc => ?_) (fun hc => ?_)
  · replace h := h.1 hc
    refine wp_N (j' := 161) (pc' := 168) (L' := [.ref 193, .int a1]) (S' := [.int (-1 : Int32)]) (M' := (hs t, F, G)) 0 (fun _ => rfl) ?_
    exact wp_RI rfl rfl h
  · replace h := h.2 (Decidable.not_not.mp hc)
    refine wp_N (j' := 161) (pc' := 168) (L' := [.ref 193, .int a1]) (S' := [.int (4 : Int32)]) (M' := (hs t, F, G)) 1 (fun _ => rfl) ?_
    exact wp_RI rfl rfl h
theorem rg161_182 {t : Nat} {F : ip_F} {G : ip_G} {Q : Option Value → ip_M → Prop} {a1 as0 : Int32} (h : (¬ as0 = (109 : Int32) → wp 161 239 [.ref 193, .int a1] [] (hs t, F, G) Q) ∧ (as0 = (109 : Int32) → wp 160 0 [.ref 193, .int (1 : Int32)] [] (hs t, F, G) (fun v M' => wp 161 192 [.ref 193, .int a1] (v.toList ++ []) M' Q))) : wp 161 182 [.ref 193, .int a1] [.int as0] (hs t, F, G) Q := by
  refine wp_N (j' := 161) (pc' := 184) (L' := [.ref 193, .int a1]) (S' := [.int (109 : Int32), .int as0]) (M' := (hs t, F, G)) 0 (fun _ => rfl) ?_
  refine wp_icmp (pc1 := 239) (c := .ne) rfl (fun hc => ?_) (fun hc => ?_)
  · replace h := h.1 hc
    exact h
  · replace h := h.2 (Decidable.not_not.mp hc)
    refine wp_N (j' := 161) (pc' := 189) (L' := [.ref 193, .int a1]) (S' := [.int (1 : Int32), .ref 193]) (M' := (hs t, F, G)) 1 (fun _ => rfl) ?_
    refine wp_C (i := 160) (pc' := 192) (Li := [.ref 193, .int (1 : Int32)]) (rest := []) (fun _ => rfl) h
theorem rg161_192 {t : Nat} {F : ip_F} {G : ip_G} {Q : Option Value → ip_M → Prop} {a1 as0 : Int32} (h : (¬ as0 = (101 : Int32) → wp 161 239 [.ref 193, .int a1] [] (hs t, F, G) Q) ∧ (as0 = (101 : Int32) → wp 160 0 [.ref 193, .int (2 : Int32)] [] (hs t, F, G) (fun v M' => wp 161 202 [.ref 193, .int a1] (v.toList ++ []) M' Q))) : wp 161 192 [.ref 193, .int a1] [.int as0] (hs t, F, G) Q := by
  refine wp_N (j' := 161) (pc' := 194) (L' := [.ref 193, .int a1]) (S' := [.int (101 : Int32), .int as0]) (M' := (hs t, F, G)) 0 (fun _ => rfl) ?_
  refine wp_icmp (pc1 := 239) (c := .ne) rfl (fun hc => ?_) (fun hc => ?_)
  · replace h := h.1 hc
    exact h
  · replace h := h.2 (Decidable.not_not.mp hc)
    refine wp_N (j' := 161) (pc' := 199) (L' := [.ref 193, .int a1]) (S' := [.int (2 : Int32), .ref 193]) (M' := (hs t, F, G)) 1 (fun _ => rfl) ?_
    refine wp_C (i := 160) (pc' := 202) (Li := [.ref 193, .int (2 : Int32)]) (rest := []) (fun _ => rfl) h
theorem rg161_202 {t : Nat} {F : ip_F} {G : ip_G} {Q : Option Value → ip_M → Prop} {a1 as0 : Int32} (h : (¬ as0 = (116 : Int32) → wp 161 239 [.ref 193, .int a1] [] (hs t, F, G) Q) ∧ (as0 = (116 : Int32) → wp 160 0 [.ref 193, .int (3 : Int32)] [] (hs t, F, G) (fun v M' => wp 161 212 [.ref 193, .int a1] (v.toList ++ []) M' Q))) : wp 161 202 [.ref 193, .int a1] [.int as0] (hs t, F, G) Q := by
  refine wp_N (j' := 161) (pc' := 204) (L' := [.ref 193, .int a1]) (S' := [.int (116 : Int32), .int as0]) (M' := (hs t, F, G)) 0 (fun _ => rfl) ?_
  refine wp_icmp (pc1 := 239) (c := .ne) rfl (fun hc => ?_) (fun hc => ?_)
  · replace h := h.1 hc
    exact h
  · replace h := h.2 (Decidable.not_not.mp hc)
    refine wp_N (j' := 161) (pc' := 209) (L' := [.ref 193, .int a1]) (S' := [.int (3 : Int32), .ref 193]) (M' := (hs t, F, G)) 1 (fun _ => rfl) ?_
    refine wp_C (i := 160) (pc' := 212) (Li := [.ref 193, .int (3 : Int32)]) (rest := []) (fun _ => rfl) h
theorem rg161_212 {t : Nat} {F : ip_F} {G : ip_G} {Q : Option Value → ip_M → Prop} {a1 as0 : Int32} (h : (¬ as0 = (104 : Int32) → wp 161 239 [.ref 193, .int a1] [] (hs t, F, G) Q) ∧ (as0 = (104 : Int32) → wp 160 0 [.ref 193, .int (4 : Int32)] [] (hs t, F, G) (fun v M' => wp 161 222 [.ref 193, .int a1] (v.toList ++ []) M' Q))) : wp 161 212 [.ref 193, .int a1] [.int as0] (hs t, F, G) Q := by
  refine wp_N (j' := 161) (pc' := 214) (L' := [.ref 193, .int a1]) (S' := [.int (104 : Int32), .int as0]) (M' := (hs t, F, G)) 0 (fun _ => rfl) ?_
  refine wp_icmp (pc1 := 239) (c := .ne) rfl (fun hc => ?_) (fun hc => ?_)
  · replace h := h.1 hc
    exact h
  · replace h := h.2 (Decidable.not_not.mp hc)
    refine wp_N (j' := 161) (pc' := 219) (L' := [.ref 193, .int a1]) (S' := [.int (4 : Int32), .ref 193]) (M' := (hs t, F, G)) 1 (fun _ => rfl) ?_
    refine wp_C (i := 160) (pc' := 222) (Li := [.ref 193, .int (4 : Int32)]) (rest := []) (fun _ => rfl) h
theorem rg161_222 {t : Nat} {F : ip_F} {G : ip_G} {Q : Option Value → ip_M → Prop} {a1 as0 : Int32} (h : (¬ as0 = (111 : Int32) → wp 161 239 [.ref 193, .int a1] [] (hs t, F, G) Q) ∧ (as0 = (111 : Int32) → wp 160 0 [.ref 193, .int (5 : Int32)] [] (hs t, F, G) (fun v M' => wp 161 232 [.ref 193, .int a1] (v.toList ++ []) M' Q))) : wp 161 222 [.ref 193, .int a1] [.int as0] (hs t, F, G) Q := by
  refine wp_N (j' := 161) (pc' := 224) (L' := [.ref 193, .int a1]) (S' := [.int (111 : Int32), .int as0]) (M' := (hs t, F, G)) 0 (fun _ => rfl) ?_
  refine wp_icmp (pc1 := 239) (c := .ne) rfl (fun hc => ?_) (fun hc => ?_)
  · replace h := h.1 hc
    exact h
  · replace h := h.2 (Decidable.not_not.mp hc)
    refine wp_N (j' := 161) (pc' := 229) (L' := [.ref 193, .int a1]) (S' := [.int (5 : Int32), .ref 193]) (M' := (hs t, F, G)) 1 (fun _ => rfl) ?_
    refine wp_C (i := 160) (pc' := 232) (Li := [.ref 193, .int (5 : Int32)]) (rest := []) (fun _ => rfl) h
theorem rg161_232 {t : Nat} {F : ip_F} {G : ip_G} {Q : Option Value → ip_M → Prop} {a1 as0 : Int32} (h : (¬ as0 = (100 : Int32) → wp 161 239 [.ref 193, .int a1] [] (hs t, F, G) Q) ∧ (as0 = (100 : Int32) → Q (some (.int (1 : Int32))) (hs t, F, G))) : wp 161 232 [.ref 193, .int a1] [.int as0] (hs t, F, G) Q := by
  refine wp_N (j' := 161) (pc' := 234) (L' := [.ref 193, .int a1]) (S' := [.int (100 : Int32), .int as0]) (M' := (hs t, F, G)) 0 (fun _ => rfl) ?_
  refine wp_icmp (pc1 := 239) (c := .ne) rfl (fun hc => ?_) (fun hc => ?_)
  · replace h := h.1 hc
    exact h
  · replace h := h.2 (Decidable.not_not.mp hc)
    refine wp_N (j' := 161) (pc' := 238) (L' := [.ref 193, .int a1]) (S' := [.int (1 : Int32)]) (M' := (hs t, F, G)) 0 (fun _ => rfl) ?_
    exact wp_RI rfl rfl h
theorem rg161_239 {t : Nat} {F : ip_F} {G : ip_G} {Q : Option Value → ip_M → Prop} {a1 : Int32} (h : wp 160 0 [.ref 193, .int (0 : Int32)] [] (hs t, F, G) (fun v M' => wp 161 244 [.ref 193, .int a1] (v.toList ++ []) M' Q)) : wp 161 239 [.ref 193, .int a1] [] (hs t, F, G) Q := by
  refine wp_N (j' := 161) (pc' := 241) (L' := [.ref 193, .int a1]) (S' := [.int (0 : Int32), .ref 193]) (M' := (hs t, F, G)) 1 (fun _ => rfl) ?_
  refine wp_C (i := 160) (pc' := 244) (Li := [.ref 193, .int (0 : Int32)]) (rest := []) (fun _ => rfl) h
theorem rg161_244 {t : Nat} {F : ip_F} {G : ip_G} {Q : Option Value → ip_M → Prop} {a1 as0 : Int32} (h : (¬ as0 = (114 : Int32) → Q (some (.int (-1 : Int32))) (hs t, F, G)) ∧ (as0 = (114 : Int32) → wp 160 0 [.ref 193, .int (1 : Int32)] [] (hs t, F, G) (fun v M' => wp 161 254 [.ref 193, .int a1] (v.toList ++ []) M' Q))) : wp 161 244 [.ref 193, .int a1] [.int as0] (hs t, F, G) Q := by
  refine wp_N (j' := 161) (pc' := 246) (L' := [.ref 193, .int a1]) (S' := [.int (114 : Int32), .int as0]) (M' := (hs t, F, G)) 0 (fun _ => rfl) ?_
  refine wp_icmp (pc1 := 303) (c := .ne) rfl (fun hc => ?_) (fun hc => ?_)
  · replace h := h.1 hc
    refine wp_N (j' := 161) (pc' := 304) (L' := [.ref 193, .int a1]) (S' := [.int (-1 : Int32)]) (M' := (hs t, F, G)) 0 (fun _ => rfl) ?_
    exact wp_RI rfl rfl h
  · replace h := h.2 (Decidable.not_not.mp hc)
    refine wp_N (j' := 161) (pc' := 251) (L' := [.ref 193, .int a1]) (S' := [.int (1 : Int32), .ref 193]) (M' := (hs t, F, G)) 1 (fun _ => rfl) ?_
    refine wp_C (i := 160) (pc' := 254) (Li := [.ref 193, .int (1 : Int32)]) (rest := []) (fun _ => rfl) h
theorem rg161_254 {t : Nat} {F : ip_F} {G : ip_G} {Q : Option Value → ip_M → Prop} {a1 as0 : Int32} (h : (¬ as0 = (105 : Int32) → Q (some (.int (-1 : Int32))) (hs t, F, G)) ∧ (as0 = (105 : Int32) → wp 160 0 [.ref 193, .int (2 : Int32)] [] (hs t, F, G) (fun v M' => wp 161 264 [.ref 193, .int a1] (v.toList ++ []) M' Q))) : wp 161 254 [.ref 193, .int a1] [.int as0] (hs t, F, G) Q := by
  refine wp_N (j' := 161) (pc' := 256) (L' := [.ref 193, .int a1]) (S' := [.int (105 : Int32), .int as0]) (M' := (hs t, F, G)) 0 (fun _ => rfl) ?_
  refine wp_icmp (pc1 := 303) (c := .ne) rfl (fun hc => ?_) (fun hc => ?_)
  · replace h := h.1 hc
    refine wp_N (j' := 161) (pc' := 304) (L' := [.ref 193, .int a1]) (S' := [.int (-1 : Int32)]) (M' := (hs t, F, G)) 0 (fun _ => rfl) ?_
    exact wp_RI rfl rfl h
  · replace h := h.2 (Decidable.not_not.mp hc)
    refine wp_N (j' := 161) (pc' := 261) (L' := [.ref 193, .int a1]) (S' := [.int (2 : Int32), .ref 193]) (M' := (hs t, F, G)) 1 (fun _ => rfl) ?_
    refine wp_C (i := 160) (pc' := 264) (Li := [.ref 193, .int (2 : Int32)]) (rest := []) (fun _ => rfl) h
theorem rg161_264 {t : Nat} {F : ip_F} {G : ip_G} {Q : Option Value → ip_M → Prop} {a1 as0 : Int32} (h : (¬ as0 = (110 : Int32) → Q (some (.int (-1 : Int32))) (hs t, F, G)) ∧ (as0 = (110 : Int32) → wp 160 0 [.ref 193, .int (3 : Int32)] [] (hs t, F, G) (fun v M' => wp 161 274 [.ref 193, .int a1] (v.toList ++ []) M' Q))) : wp 161 264 [.ref 193, .int a1] [.int as0] (hs t, F, G) Q := by
  refine wp_N (j' := 161) (pc' := 266) (L' := [.ref 193, .int a1]) (S' := [.int (110 : Int32), .int as0]) (M' := (hs t, F, G)) 0 (fun _ => rfl) ?_
  refine wp_icmp (pc1 := 303) (c := .ne) rfl (fun hc => ?_) (fun hc => ?_)
  · replace h := h.1 hc
    refine wp_N (j' := 161) (pc' := 304) (L' := [.ref 193, .int a1]) (S' := [.int (-1 : Int32)]) (M' := (hs t, F, G)) 0 (fun _ => rfl) ?_
    exact wp_RI rfl rfl h
  · replace h := h.2 (Decidable.not_not.mp hc)
    refine wp_N (j' := 161) (pc' := 271) (L' := [.ref 193, .int a1]) (S' := [.int (3 : Int32), .ref 193]) (M' := (hs t, F, G)) 1 (fun _ => rfl) ?_
    refine wp_C (i := 160) (pc' := 274) (Li := [.ref 193, .int (3 : Int32)]) (rest := []) (fun _ => rfl) h
theorem rg161_274 {t : Nat} {F : ip_F} {G : ip_G} {Q : Option Value → ip_M → Prop} {a1 as0 : Int32} (h : (¬ as0 = (103 : Int32) → Q (some (.int (-1 : Int32))) (hs t, F, G)) ∧ (as0 = (103 : Int32) → wp 160 0 [.ref 193, .int (4 : Int32)] [] (hs t, F, G) (fun v M' => wp 161 284 [.ref 193, .int a1] (v.toList ++ []) M' Q))) : wp 161 274 [.ref 193, .int a1] [.int as0] (hs t, F, G) Q := by
  refine wp_N (j' := 161) (pc' := 276) (L' := [.ref 193, .int a1]) (S' := [.int (103 : Int32), .int as0]) (M' := (hs t, F, G)) 0 (fun _ => rfl) ?_
  refine wp_icmp (pc1 := 303) (c := .ne) rfl (fun hc => ?_) (fun hc => ?_)
  · replace h := h.1 hc
    refine wp_N (j' := 161) (pc' := 304) (L' := [.ref 193, .int a1]) (S' := [.int (-1 : Int32)]) (M' := (hs t, F, G)) 0 (fun _ => rfl) ?_
    exact wp_RI rfl rfl h
  · replace h := h.2 (Decidable.not_not.mp hc)
    refine wp_N (j' := 161) (pc' := 281) (L' := [.ref 193, .int a1]) (S' := [.int (4 : Int32), .ref 193]) (M' := (hs t, F, G)) 1 (fun _ => rfl) ?_
    refine wp_C (i := 160) (pc' := 284) (Li := [.ref 193, .int (4 : Int32)]) (rest := []) (fun _ => rfl) h
theorem rg161_284 {t : Nat} {F : ip_F} {G : ip_G} {Q : Option Value → ip_M → Prop} {a1 as0 : Int32} (h : (¬ as0 = (101 : Int32) → Q (some (.int (-1 : Int32))) (hs t, F, G)) ∧ (as0 = (101 : Int32) → wp 160 0 [.ref 193, .int (5 : Int32)] [] (hs t, F, G) (fun v M' => wp 161 294 [.ref 193, .int a1] (v.toList ++ []) M' Q))) : wp 161 284 [.ref 193, .int a1] [.int as0] (hs t, F, G) Q := by
  refine wp_N (j' := 161) (pc' := 286) (L' := [.ref 193, .int a1]) (S' := [.int (101 : Int32), .int as0]) (M' := (hs t, F, G)) 0 (fun _ => rfl) ?_
  refine wp_icmp (pc1 := 303) (c := .ne) rfl (fun hc => ?_) (fun hc => ?_)
  · replace h := h.1 hc
    refine wp_N (j' := 161) (pc' := 304) (L' := [.ref 193, .int a1]) (S' := [.int (-1 : Int32)]) (M' := (hs t, F, G)) 0 (fun _ => rfl) ?_
    exact wp_RI rfl rfl h
  · replace h := h.2 (Decidable.not_not.mp hc)
    refine wp_N (j' := 161) (pc' := 291) (L' := [.ref 193, .int a1]) (S' := [.int (5 : Int32), .ref 193]) (M' := (hs t, F, G)) 1 (fun _ => rfl) ?_
    refine wp_C (i := 160) (pc' := 294) (Li := [.ref 193, .int (5 : Int32)]) (rest := []) (fun _ => rfl) h
theorem rg161_294 {t : Nat} {F : ip_F} {G : ip_G} {Q : Option Value → ip_M → Prop} {a1 as0 : Int32} (h : (¬ as0 = (114 : Int32) → Q (some (.int (-1 : Int32))) (hs t, F, G)) ∧ (as0 = (114 : Int32) → Q (some (.int (3 : Int32))) (hs t, F, G))) : wp 161 294 [.ref 193, .int a1] [.int as0] (hs t, F, G) Q := by
  refine wp_N (j' := 161) (pc' := 296) (L' := [.ref 193, .int a1]) (S' := [.int (114 : Int32), .int as0]) (M' := (hs t, F, G)) 0 (fun _ => rfl) ?_
  refine wp_icmp (pc1 := 303) (c := .ne) rfl (fun hc => ?_) (fun hc => ?_)
  · replace h := h.1 hc
    refine wp_N (j' := 161) (pc' := 304) (L' := [.ref 193, .int a1]) (S' := [.int (-1 : Int32)]) (M' := (hs t, F, G)) 0 (fun _ => rfl) ?_
    exact wp_RI rfl rfl h
  · replace h := h.2 (Decidable.not_not.mp hc)
    refine wp_N (j' := 161) (pc' := 304) (L' := [.ref 193, .int a1]) (S' := [.int (3 : Int32)]) (M' := (hs t, F, G)) 1 (fun _ => rfl) ?_
    exact wp_RI rfl rfl h
theorem rg162_0 {t : Nat} {F : ip_F} {G : ip_G} {Q : Option Value → ip_M → Prop} {a1 a2 : Int32} (h : wp 156 0 [.ref 193] [] (hs t, F, G) (fun v M' => wp 162 4 [.ref 193, .int a1, .int a2, .float 0, .float 0] (v.toList ++ []) M' Q)) : wp 162 0 [.ref 193, .int a1, .int a2, .float 0, .float 0] [] (hs t, F, G) Q := by
  refine wp_N (j' := 162) (pc' := 1) (L' := [.ref 193, .int a1, .int a2, .float 0, .float 0]) (S' := [.ref 193]) (M' := (hs t, F, G)) 0 (fun _ => rfl) ?_
  refine wp_C (i := 156) (pc' := 4) (Li := [.ref 193]) (rest := []) (fun _ => rfl) h
theorem rg162_4 {t : Nat} {F : ip_F} {G : ip_G} {Q : Option Value → ip_M → Prop} {a1 a2 : Int32} {v3 v4 : Value} (h : wp 162 9 [.ref 193, .int a1, .int a2, .int (0 : Int32), .int (0 : Int32)] [] (hs t, F, G) Q) : wp 162 4 [.ref 193, .int a1, .int a2, v3, v4] [] (hs t, F, G) Q := by
  refine wp_N (j' := 162) (pc' := 9) (L' := [.ref 193, .int a1, .int a2, .int (0 : Int32), .int (0 : Int32)]) (S' := []) (M' := (hs t, F, G)) 3 (fun _ => rfl) ?_
  exact h
theorem rg162_9 {t : Nat} {F : ip_F} {G : ip_G} {Q : Option Value → ip_M → Prop} {a1 a2 a3 a4 : Int32} (h : ((F 193 15) ≤ ((F 193 16) + a3) → wp 162 77 [.ref 193, .int a1, .int a2, .int a3, .int a4] [] (hs t, F, G) Q) ∧ (((F 193 16) + a3) < (F 193 15) → (vp_in ((F 193 16) + a3) 150) ∧ (wp 158 0 [.int (F 203 (((F 193 16) + a3)).toNatClampNeg)] [] (hs t, F, G) (fun v M' => wp 162 36 [.ref 193, .int a1, .int a2, .int a3, .int a4] (v.toList ++ []) M' Q)))) : wp 162 9 [.ref 193, .int a1, .int a2, .int a3, .int a4] [] (hs t, F, G) Q := by
  refine wp_N (j' := 162) (pc' := 19) (L' := [.ref 193, .int a1, .int a2, .int a3, .int a4]) (S' := [.int (F 193 15), .int ((F 193 16) + a3)]) (M' := (hs t, F, G)) 5 (fun _ => rfl) ?_
  refine wp_icmp (pc1 := 77) (c := .ge) rfl (fun hc => ?_) (fun hc => ?_)
  · replace h := h.1 hc
    exact h
  · replace h := h.2 (Int32.not_le.mp hc)
    refine wp_N (j' := 162) (pc' := 32) (L' := [.ref 193, .int a1, .int a2, .int a3, .int a4]) (S' := [.int ((F 193 16) + a3), .ref 203]) (M' := (hs t, F, G)) 5 (fun _ => rfl) ?_
    obtain ⟨h1_, h⟩ := h
    refine wp_ial (m := (((F 193 16) + a3)).toNatClampNeg) rfl rfl rfl h1_ ?_
    refine wp_C (i := 158) (pc' := 36) (Li := [.int (F 203 (((F 193 16) + a3)).toNatClampNeg)]) (rest := []) (fun _ => rfl) h
theorem rg162_36 {t : Nat} {F : ip_F} {G : ip_G} {Q : Option Value → ip_M → Prop} {a1 a2 a3 a4 as0 : Int32} (h : (as0 = (0 : Int32) → wp 162 77 [.ref 193, .int a1, .int a2, .int a3, .int a4] [] (hs t, F, G) Q) ∧ (¬ as0 = (0 : Int32) → ((2 : Int32) ≤ a3 → wp 162 69 [.ref 193, .int a1, .int a2, .int a3, .int a4] [.int a4] (hs t, F, G) Q) ∧ (a3 < (2 : Int32) → (vp_in ((F 193 16) + a3) 150) ∧ (wp 162 69 [.ref 193, .int a1, .int a2, .int a3, .int a4] [.int ((((10 : Int32) * a4) + (F 203 (((F 193 16) + a3)).toNatClampNeg)) - (48 : Int32))] (hs t, F, G) Q)))) : wp 162 36 [.ref 193, .int a1, .int a2, .int a3, .int a4] [.int as0] (hs t, F, G) Q := by
  refine wp_ifc (pc1 := 77) (c := .eq) rfl (fun hc => ?_) (fun hc => ?_)
  · replace h := h.1 hc
    exact h
  · replace h := h.2 hc
    refine wp_N (j' := 162) (pc' := 41) (L' := [.ref 193, .int a1, .int a2, .int a3, .int a4]) (S' := [.int (2 : Int32), .int a3]) (M' := (hs t, F, G)) 1 (fun _ => rfl) ?_
    refine wp_icmp (pc1 := 67) (c := .ge) rfl (fun hc => ?_) (fun hc => ?_)
    · replace h := h.1 hc
      refine wp_N (j' := 162) (pc' := 69) (L' := [.ref 193, .int a1, .int a2, .int a3, .int a4]) (S' := [.int a4]) (M' := (hs t, F, G)) 0 (fun _ => rfl) ?_
      exact h
    · replace h := h.2 (Int32.not_le.mp hc)
      refine wp_N (j' := 162) (pc' := 59) (L' := [.ref 193, .int a1, .int a2, .int a3, .int a4]) (S' := [.int ((F 193 16) + a3), .ref 203, .int ((10 : Int32) * a4)]) (M' := (hs t, F, G)) 8 (fun _ => rfl) ?_
      obtain ⟨h1_, h⟩ := h
      refine wp_ial (m := (((F 193 16) + a3)).toNatClampNeg) rfl rfl rfl h1_ ?_
      refine wp_N (j' := 162) (pc' := 69) (L' := [.ref 193, .int a1, .int a2, .int a3, .int a4]) (S' := [.int ((((10 : Int32) * a4) + (F 203 (((F 193 16) + a3)).toNatClampNeg)) - (48 : Int32))]) (M' := (hs t, F, G)) 3 (fun _ => rfl) ?_
      exact h
theorem rg162_69 {t : Nat} {F : ip_F} {G : ip_G} {Q : Option Value → ip_M → Prop} {a1 a2 a3 a4 as0 : Int32} (h : wp 162 9 [.ref 193, .int a1, .int a2, .int (a3 + (1 : Int32)), .int as0] [] (hs t, F, G) Q) : wp 162 69 [.ref 193, .int a1, .int a2, .int a3, .int a4] [.int as0] (hs t, F, G) Q := by
  refine wp_N (j' := 162) (pc' := 9) (L' := [.ref 193, .int a1, .int a2, .int (a3 + (1 : Int32)), .int as0]) (S' := []) (M' := (hs t, F, G)) 2 (fun _ => rfl) ?_
  exact h
theorem rg162_77 {t : Nat} {F : ip_F} {G : ip_G} {Q : Option Value → ip_M → Prop} {a1 a2 a3 a4 : Int32} (h : wp 143 0 [.int a3, .int (1 : Int32), .int (2 : Int32)] [] (hs t, F, G) (fun v M' => wp 162 83 [.ref 193, .int a1, .int a2, .int a3, .int a4] (v.toList ++ []) M' Q)) : wp 162 77 [.ref 193, .int a1, .int a2, .int a3, .int a4] [] (hs t, F, G) Q := by
  refine wp_N (j' := 162) (pc' := 80) (L' := [.ref 193, .int a1, .int a2, .int a3, .int a4]) (S' := [.int (2 : Int32), .int (1 : Int32), .int a3]) (M' := (hs t, F, G)) 2 (fun _ => rfl) ?_
  refine wp_C (i := 143) (pc' := 83) (Li := [.int a3, .int (1 : Int32), .int (2 : Int32)]) (rest := []) (fun _ => rfl) h
theorem rg162_83 {t : Nat} {F : ip_F} {G : ip_G} {Q : Option Value → ip_M → Prop} {a1 a2 a3 a4 as0 : Int32} (h : (as0 = (0 : Int32) → Q (some (.int (0 : Int32))) (hs t, F, G)) ∧ (¬ as0 = (0 : Int32) → wp 143 0 [.int a4, .int a1, .int a2] [] (hs t, F, G) (fun v M' => wp 162 93 [.ref 193, .int a1, .int a2, .int a3, .int a4] (v.toList ++ []) M' Q))) : wp 162 83 [.ref 193, .int a1, .int a2, .int a3, .int a4] [.int as0] (hs t, F, G) Q := by
  refine wp_ifc (pc1 := 96) (c := .eq) rfl (fun hc => ?_) (fun hc => ?_)
  · replace h := h.1 hc
    refine wp_N (j' := 162) (pc' := 97) (L' := [.ref 193, .int a1, .int a2, .int a3, .int a4]) (S' := [.int (0 : Int32)]) (M' := (hs t, F, G)) 0 (fun _ => rfl) ?_
    exact wp_RZ rfl rfl (by decide) h
  · replace h := h.2 hc
    refine wp_N (j' := 162) (pc' := 90) (L' := [.ref 193, .int a1, .int a2, .int a3, .int a4]) (S' := [.int a2, .int a1, .int a4]) (M' := (hs t, F, G)) 2 (fun _ => rfl) ?_
    refine wp_C (i := 143) (pc' := 93) (Li := [.int a4, .int a1, .int a2]) (rest := []) (fun _ => rfl) h
theorem rg162_93 {t : Nat} {F : ip_F} {G : ip_G} {Q : Option Value → ip_M → Prop} {a1 a2 a3 a4 as0 : Int32} (h : (¬ as0 = (0 : Int32) → Q (some (.int (1 : Int32))) (hs t, (ip_u (ip_u F 193 17 a4) 193 16 (((ip_u F 193 17 a4) 193 16) + a3)), G)) ∧ (as0 = (0 : Int32) → Q (some (.int (0 : Int32))) (hs t, F, G))) : wp 162 93 [.ref 193, .int a1, .int a2, .int a3, .int a4] [.int as0] (hs t, F, G) Q := by
  refine wp_ifc (pc1 := 98) (c := .ne) rfl (fun hc => ?_) (fun hc => ?_)
  · replace h := h.1 hc
    refine wp_N (j' := 162) (pc' := 101) (L' := [.ref 193, .int a1, .int a2, .int a3, .int a4]) (S' := [.int a4, .ref 193]) (M' := (hs t, F, G)) 1 (fun _ => rfl) ?_
    refine wp_putI rfl rfl rfl rfl rfl rfl (by decide) ?_
    refine wp_N (j' := 162) (pc' := 111) (L' := [.ref 193, .int a1, .int a2, .int a3, .int a4]) (S' := [.int (((ip_u F 193 17 a4) 193 16) + a3), .ref 193]) (M' := (hs t, (ip_u F 193 17 a4), G)) 4 (fun _ => rfl) ?_
    refine wp_putI rfl rfl rfl rfl rfl rfl (by decide) ?_
    refine wp_N (j' := 162) (pc' := 115) (L' := [.ref 193, .int a1, .int a2, .int a3, .int a4]) (S' := [.int (1 : Int32)]) (M' := (hs t, (ip_u (ip_u F 193 17 a4) 193 16 (((ip_u F 193 17 a4) 193 16) + a3)), G)) 0 (fun _ => rfl) ?_
    exact wp_RZ rfl rfl (by decide) h
  · replace h := h.2 (Decidable.not_not.mp hc)
    refine wp_N (j' := 162) (pc' := 97) (L' := [.ref 193, .int a1, .int a2, .int a3, .int a4]) (S' := [.int (0 : Int32)]) (M' := (hs t, F, G)) 0 (fun _ => rfl) ?_
    exact wp_RZ rfl rfl (by decide) h
theorem rg163_0 {t : Nat} {F : ip_F} {G : ip_G} {Q : Option Value → ip_M → Prop} (h : wp 156 0 [.ref 193] [] (hs t, F, G) (fun v M' => wp 163 4 [.ref 193] (v.toList ++ []) M' Q)) : wp 163 0 [.ref 193] [] (hs t, F, G) Q := by
  refine wp_N (j' := 163) (pc' := 1) (L' := [.ref 193]) (S' := [.ref 193]) (M' := (hs t, F, G)) 0 (fun _ => rfl) ?_
  refine wp_C (i := 156) (pc' := 4) (Li := [.ref 193]) (rest := []) (fun _ => rfl) h
theorem rg163_4 {t : Nat} {F : ip_F} {G : ip_G} {Q : Option Value → ip_M → Prop} (h : wp 155 0 [.ref 193] [] (hs t, F, G) (fun v M' => wp 163 8 [.ref 193] (v.toList ++ []) M' Q)) : wp 163 4 [.ref 193] [] (hs t, F, G) Q := by
  refine wp_N (j' := 163) (pc' := 5) (L' := [.ref 193]) (S' := [.ref 193]) (M' := (hs t, F, G)) 0 (fun _ => rfl) ?_
  refine wp_C (i := 155) (pc' := 8) (Li := [.ref 193]) (rest := []) (fun _ => rfl) h
theorem rg163_8 {t : Nat} {F : ip_F} {G : ip_G} {Q : Option Value → ip_M → Prop} {as0 : Int32} (h : (as0 = (59 : Int32) → Q (some (.int (1 : Int32))) (hs t, (ip_u F 193 16 ((F 193 16) + (1 : Int32))), G)) ∧ (¬ as0 = (59 : Int32) → Q (some (.int (0 : Int32))) (hs t, F, G))) : wp 163 8 [.ref 193] [.int as0] (hs t, F, G) Q := by
  refine wp_N (j' := 163) (pc' := 10) (L' := [.ref 193]) (S' := [.int (59 : Int32), .int as0]) (M' := (hs t, F, G)) 0 (fun _ => rfl) ?_
  refine wp_icmp (pc1 := 15) (c := .eq) rfl (fun hc => ?_) (fun hc => ?_)
  · replace h := h.1 hc
    refine wp_N (j' := 163) (pc' := 22) (L' := [.ref 193]) (S' := [.int ((F 193 16) + (1 : Int32)), .ref 193]) (M' := (hs t, F, G)) 4 (fun _ => rfl) ?_
    refine wp_putI rfl rfl rfl rfl rfl rfl (by decide) ?_
    refine wp_N (j' := 163) (pc' := 26) (L' := [.ref 193]) (S' := [.int (1 : Int32)]) (M' := (hs t, (ip_u F 193 16 ((F 193 16) + (1 : Int32))), G)) 0 (fun _ => rfl) ?_
    exact wp_RZ rfl rfl (by decide) h
  · replace h := h.2 hc
    refine wp_N (j' := 163) (pc' := 14) (L' := [.ref 193]) (S' := [.int (0 : Int32)]) (M' := (hs t, F, G)) 0 (fun _ => rfl) ?_
    exact wp_RZ rfl rfl (by decide) h
theorem rg164_0 {t : Nat} {F : ip_F} {G : ip_G} {Q : Option Value → ip_M → Prop} (h : wp 164 2 [.ref 193, .int (0 : Int32)] [] (hs t, F, G) Q) : wp 164 0 [.ref 193, .float 0] [] (hs t, F, G) Q := by
  refine wp_N (j' := 164) (pc' := 2) (L' := [.ref 193, .int (0 : Int32)]) (S' := []) (M' := (hs t, F, G)) 1 (fun _ => rfl) ?_
  exact h
theorem rg164_2 {t : Nat} {F : ip_F} {G : ip_G} {Q : Option Value → ip_M → Prop} {a1 : Int32} (h : ((6 : Int32) ≤ a1 → wp 163 0 [.ref 193] [] (hs t, F, G) (fun v M' => wp 164 39 [.ref 193, .int a1] (v.toList ++ []) M' Q)) ∧ (a1 < (6 : Int32) → wp 162 0 [.ref 193, .int (0 : Int32), .int (3 : Int32), .float 0, .float 0] [] (hs t, F, G) (fun v M' => wp 164 14 [.ref 193, .int a1] (v.toList ++ []) M' Q))) : wp 164 2 [.ref 193, .int a1] [] (hs t, F, G) Q := by
  refine wp_N (j' := 164) (pc' := 5) (L' := [.ref 193, .int a1]) (S' := [.int (6 : Int32), .int a1]) (M' := (hs t, F, G)) 1 (fun _ => rfl) ?_
  refine wp_icmp (pc1 := 35) (c := .ge) rfl (fun hc => ?_) (fun hc => ?_)
  · replace h := h.1 hc
    refine wp_N (j' := 164) (pc' := 36) (L' := [.ref 193, .int a1]) (S' := [.ref 193]) (M' := (hs t, F, G)) 0 (fun _ => rfl) ?_
    refine wp_C (i := 163) (pc' := 39) (Li := [.ref 193]) (rest := []) (fun _ => rfl) h
  · replace h := h.2 (Int32.not_le.mp hc)
    refine wp_N (j' := 164) (pc' := 11) (L' := [.ref 193, .int a1]) (S' := [.int (3 : Int32), .int (0 : Int32), .ref 193]) (M' := (hs t, F, G)) 2 (fun _ => rfl) ?_
    refine wp_C (i := 162) (pc' := 14) (Li := [.ref 193, .int (0 : Int32), .int (3 : Int32), .float 0, .float 0]) (rest := []) (fun _ => rfl) h
theorem rg164_14 {t : Nat} {F : ip_F} {G : ip_G} {Q : Option Value → ip_M → Prop} {a1 as0 : Int32} (h : (¬ as0 = (0 : Int32) → (vp_in a1 6) ∧ (wp 164 2 [.ref 193, .int (a1 + (1 : Int32))] [] (hs t, (ip_u F 195 (a1).toNatClampNeg (F 193 17)), G) Q)) ∧ (as0 = (0 : Int32) → Q (some (.int (0 : Int32))) (hs t, F, G))) : wp 164 14 [.ref 193, .int a1] [.int as0] (hs t, F, G) Q := by
  refine wp_ifc (pc1 := 19) (c := .ne) rfl (fun hc => ?_) (fun hc => ?_)
  · replace h := h.1 hc
    refine wp_N (j' := 164) (pc' := 28) (L' := [.ref 193, .int a1]) (S' := [.int (F 193 17), .int a1, .ref 195]) (M' := (hs t, F, G)) 4 (fun _ => rfl) ?_
    obtain ⟨h1_, h⟩ := h
    refine wp_ias (m := (a1).toNatClampNeg) rfl rfl rfl h1_ ?_
    refine wp_N (j' := 164) (pc' := 2) (L' := [.ref 193, .int (a1 + (1 : Int32))]) (S' := []) (M' := (hs t, (ip_u F 195 (a1).toNatClampNeg (F 193 17)), G)) 1 (fun _ => rfl) ?_
    exact h
  · replace h := h.2 (Decidable.not_not.mp hc)
    refine wp_N (j' := 164) (pc' := 18) (L' := [.ref 193, .int a1]) (S' := [.int (0 : Int32)]) (M' := (hs t, F, G)) 0 (fun _ => rfl) ?_
    exact wp_RZ rfl rfl (by decide) h
theorem rg164_39 {t : Nat} {F : ip_F} {G : ip_G} {Q : Option Value → ip_M → Prop} {a1 as0 : Int32} (h : (as0 &&& 1 = as0) ∧ (Q (some (.int as0)) (hs t, F, G))) : wp 164 39 [.ref 193, .int a1] [.int as0] (hs t, F, G) Q := by
  obtain ⟨h1_, h⟩ := h
  exact wp_RZ rfl rfl h1_ h
theorem rg165_0 {t : Nat} {F : ip_F} {G : ip_G} {Q : Option Value → ip_M → Prop} (h : wp 162 0 [.ref 193, .int (0 : Int32), .int ((F 193 1) - (1 : Int32)), .float 0, .float 0] [] (hs t, F, G) (fun v M' => wp 165 11 [.ref 193, .float 0] (v.toList ++ []) M' Q)) : wp 165 0 [.ref 193, .float 0] [] (hs t, F, G) Q := by
  refine wp_N (j' := 165) (pc' := 8) (L' := [.ref 193, .float 0]) (S' := [.int ((F 193 1) - (1 : Int32)), .int (0 : Int32), .ref 193]) (M' := (hs t, F, G)) 5 (fun _ => rfl) ?_
  refine wp_C (i := 162) (pc' := 11) (Li := [.ref 193, .int (0 : Int32), .int ((F 193 1) - (1 : Int32)), .float 0, .float 0]) (rest := []) (fun _ => rfl) h
theorem rg165_11 {t : Nat} {F : ip_F} {G : ip_G} {Q : Option Value → ip_M → Prop} {as0 : Int32} {v1 : Value} (h : (¬ as0 = (0 : Int32) → wp 162 0 [.ref 193, .int (0 : Int32), .int (5 : Int32), .float 0, .float 0] [] (hs t, F, G) (fun v M' => wp 165 27 [.ref 193, .int (F 193 17)] (v.toList ++ []) M' Q)) ∧ (as0 = (0 : Int32) → Q (some (.int (0 : Int32))) (hs t, F, G))) : wp 165 11 [.ref 193, v1] [.int as0] (hs t, F, G) Q := by
  refine wp_ifc (pc1 := 16) (c := .ne) rfl (fun hc => ?_) (fun hc => ?_)
  · replace h := h.1 hc
    refine wp_N (j' := 165) (pc' := 24) (L' := [.ref 193, .int (F 193 17)]) (S' := [.int (5 : Int32), .int (0 : Int32), .ref 193]) (M' := (hs t, F, G)) 5 (fun _ => rfl) ?_
    refine wp_C (i := 162) (pc' := 27) (Li := [.ref 193, .int (0 : Int32), .int (5 : Int32), .float 0, .float 0]) (rest := []) (fun _ => rfl) h
  · replace h := h.2 (Decidable.not_not.mp hc)
    refine wp_N (j' := 165) (pc' := 15) (L' := [.ref 193, v1]) (S' := [.int (0 : Int32)]) (M' := (hs t, F, G)) 0 (fun _ => rfl) ?_
    exact wp_RZ rfl rfl (by decide) h
theorem rg165_27 {t : Nat} {F : ip_F} {G : ip_G} {Q : Option Value → ip_M → Prop} {a1 as0 : Int32} (h : (¬ as0 = (0 : Int32) → (vp_in a1 6) ∧ (wp 162 0 [.ref 193, .int (1 : Int32), .int (11 : Int32), .float 0, .float 0] [] (hs t, (ip_u F 196 (a1).toNatClampNeg (F 193 17)), G) (fun v M' => wp 165 49 [.ref 193, .int a1] (v.toList ++ []) M' Q))) ∧ (as0 = (0 : Int32) → Q (some (.int (0 : Int32))) (hs t, F, G))) : wp 165 27 [.ref 193, .int a1] [.int as0] (hs t, F, G) Q := by
  refine wp_ifc (pc1 := 32) (c := .ne) rfl (fun hc => ?_) (fun hc => ?_)
  · replace h := h.1 hc
    refine wp_N (j' := 165) (pc' := 41) (L' := [.ref 193, .int a1]) (S' := [.int (F 193 17), .int a1, .ref 196]) (M' := (hs t, F, G)) 4 (fun _ => rfl) ?_
    obtain ⟨h1_, h⟩ := h
    refine wp_ias (m := (a1).toNatClampNeg) rfl rfl rfl h1_ ?_
    refine wp_N (j' := 165) (pc' := 46) (L' := [.ref 193, .int a1]) (S' := [.int (11 : Int32), .int (1 : Int32), .ref 193]) (M' := (hs t, (ip_u F 196 (a1).toNatClampNeg (F 193 17)), G)) 2 (fun _ => rfl) ?_
    refine wp_C (i := 162) (pc' := 49) (Li := [.ref 193, .int (1 : Int32), .int (11 : Int32), .float 0, .float 0]) (rest := []) (fun _ => rfl) h
  · replace h := h.2 (Decidable.not_not.mp hc)
    refine wp_N (j' := 165) (pc' := 31) (L' := [.ref 193, .int a1]) (S' := [.int (0 : Int32)]) (M' := (hs t, F, G)) 0 (fun _ => rfl) ?_
    exact wp_RZ rfl rfl (by decide) h
theorem rg165_49 {t : Nat} {F : ip_F} {G : ip_G} {Q : Option Value → ip_M → Prop} {a1 as0 : Int32} (h : (¬ as0 = (0 : Int32) → (vp_in a1 6) ∧ (wp 163 0 [.ref 193] [] (hs t, (ip_u F 197 (a1).toNatClampNeg (F 193 17)), G) (fun v M' => wp 165 68 [.ref 193, .int a1] (v.toList ++ []) M' Q))) ∧ (as0 = (0 : Int32) → Q (some (.int (0 : Int32))) (hs t, F, G))) : wp 165 49 [.ref 193, .int a1] [.int as0] (hs t, F, G) Q := by
  refine wp_ifc (pc1 := 54) (c := .ne) rfl (fun hc => ?_) (fun hc => ?_)
  · replace h := h.1 hc
    refine wp_N (j' := 165) (pc' := 63) (L' := [.ref 193, .int a1]) (S' := [.int (F 193 17), .int a1, .ref 197]) (M' := (hs t, F, G)) 4 (fun _ => rfl) ?_
    obtain ⟨h1_, h⟩ := h
    refine wp_ias (m := (a1).toNatClampNeg) rfl rfl rfl h1_ ?_
    refine wp_N (j' := 165) (pc' := 65) (L' := [.ref 193, .int a1]) (S' := [.ref 193]) (M' := (hs t, (ip_u F 197 (a1).toNatClampNeg (F 193 17)), G)) 0 (fun _ => rfl) ?_
    refine wp_C (i := 163) (pc' := 68) (Li := [.ref 193]) (rest := []) (fun _ => rfl) h
  · replace h := h.2 (Decidable.not_not.mp hc)
    refine wp_N (j' := 165) (pc' := 53) (L' := [.ref 193, .int a1]) (S' := [.int (0 : Int32)]) (M' := (hs t, F, G)) 0 (fun _ => rfl) ?_
    exact wp_RZ rfl rfl (by decide) h
theorem rg165_68 {t : Nat} {F : ip_F} {G : ip_G} {Q : Option Value → ip_M → Prop} {a1 as0 : Int32} (h : (as0 &&& 1 = as0) ∧ (Q (some (.int as0)) (hs t, F, G))) : wp 165 68 [.ref 193, .int a1] [.int as0] (hs t, F, G) Q := by
  obtain ⟨h1_, h⟩ := h
  exact wp_RZ rfl rfl h1_ h
theorem rg166_0 {t : Nat} {F : ip_F} {G : ip_G} {Q : Option Value → ip_M → Prop} (h : wp 162 0 [.ref 193, .int (0 : Int32), .int ((F 193 1) - (1 : Int32)), .float 0, .float 0] [] (hs t, F, G) (fun v M' => wp 166 11 [.ref 193, .float 0] (v.toList ++ []) M' Q)) : wp 166 0 [.ref 193, .float 0] [] (hs t, F, G) Q := by
  refine wp_N (j' := 166) (pc' := 8) (L' := [.ref 193, .float 0]) (S' := [.int ((F 193 1) - (1 : Int32)), .int (0 : Int32), .ref 193]) (M' := (hs t, F, G)) 5 (fun _ => rfl) ?_
  refine wp_C (i := 162) (pc' := 11) (Li := [.ref 193, .int (0 : Int32), .int ((F 193 1) - (1 : Int32)), .float 0, .float 0]) (rest := []) (fun _ => rfl) h
theorem rg166_11 {t : Nat} {F : ip_F} {G : ip_G} {Q : Option Value → ip_M → Prop} {as0 : Int32} {v1 : Value} (h : (¬ as0 = (0 : Int32) → wp 162 0 [.ref 193, .int (0 : Int32), .int (5 : Int32), .float 0, .float 0] [] (hs t, F, G) (fun v M' => wp 166 27 [.ref 193, .int (F 193 17)] (v.toList ++ []) M' Q)) ∧ (as0 = (0 : Int32) → Q (some (.int (0 : Int32))) (hs t, F, G))) : wp 166 11 [.ref 193, v1] [.int as0] (hs t, F, G) Q := by
  refine wp_ifc (pc1 := 16) (c := .ne) rfl (fun hc => ?_) (fun hc => ?_)
  · replace h := h.1 hc
    refine wp_N (j' := 166) (pc' := 24) (L' := [.ref 193, .int (F 193 17)]) (S' := [.int (5 : Int32), .int (0 : Int32), .ref 193]) (M' := (hs t, F, G)) 5 (fun _ => rfl) ?_
    refine wp_C (i := 162) (pc' := 27) (Li := [.ref 193, .int (0 : Int32), .int (5 : Int32), .float 0, .float 0]) (rest := []) (fun _ => rfl) h
  · replace h := h.2 (Decidable.not_not.mp hc)
    refine wp_N (j' := 166) (pc' := 15) (L' := [.ref 193, v1]) (S' := [.int (0 : Int32)]) (M' := (hs t, F, G)) 0 (fun _ => rfl) ?_
    exact wp_RZ rfl rfl (by decide) h
theorem rg166_27 {t : Nat} {F : ip_F} {G : ip_G} {Q : Option Value → ip_M → Prop} {a1 as0 : Int32} (h : (¬ as0 = (0 : Int32) → (vp_in a1 6) ∧ (wp 162 0 [.ref 193, .int (0 : Int32), .int (99 : Int32), .float 0, .float 0] [] (hs t, (ip_u F 198 (a1).toNatClampNeg (F 193 17)), G) (fun v M' => wp 166 49 [.ref 193, .int a1] (v.toList ++ []) M' Q))) ∧ (as0 = (0 : Int32) → Q (some (.int (0 : Int32))) (hs t, F, G))) : wp 166 27 [.ref 193, .int a1] [.int as0] (hs t, F, G) Q := by
  refine wp_ifc (pc1 := 32) (c := .ne) rfl (fun hc => ?_) (fun hc => ?_)
  · replace h := h.1 hc
    refine wp_N (j' := 166) (pc' := 41) (L' := [.ref 193, .int a1]) (S' := [.int (F 193 17), .int a1, .ref 198]) (M' := (hs t, F, G)) 4 (fun _ => rfl) ?_
    obtain ⟨h1_, h⟩ := h
    refine wp_ias (m := (a1).toNatClampNeg) rfl rfl rfl h1_ ?_
    refine wp_N (j' := 166) (pc' := 46) (L' := [.ref 193, .int a1]) (S' := [.int (99 : Int32), .int (0 : Int32), .ref 193]) (M' := (hs t, (ip_u F 198 (a1).toNatClampNeg (F 193 17)), G)) 2 (fun _ => rfl) ?_
    refine wp_C (i := 162) (pc' := 49) (Li := [.ref 193, .int (0 : Int32), .int (99 : Int32), .float 0, .float 0]) (rest := []) (fun _ => rfl) h
  · replace h := h.2 (Decidable.not_not.mp hc)
    refine wp_N (j' := 166) (pc' := 31) (L' := [.ref 193, .int a1]) (S' := [.int (0 : Int32)]) (M' := (hs t, F, G)) 0 (fun _ => rfl) ?_
    exact wp_RZ rfl rfl (by decide) h
theorem rg166_49 {t : Nat} {F : ip_F} {G : ip_G} {Q : Option Value → ip_M → Prop} {a1 as0 : Int32} (h : (¬ as0 = (0 : Int32) → (vp_in a1 6) ∧ (wp 163 0 [.ref 193] [] (hs t, (ip_u F 199 (a1).toNatClampNeg (F 193 17)), G) (fun v M' => wp 166 68 [.ref 193, .int a1] (v.toList ++ []) M' Q))) ∧ (as0 = (0 : Int32) → Q (some (.int (0 : Int32))) (hs t, F, G))) : wp 166 49 [.ref 193, .int a1] [.int as0] (hs t, F, G) Q := by
  refine wp_ifc (pc1 := 54) (c := .ne) rfl (fun hc => ?_) (fun hc => ?_)
  · replace h := h.1 hc
    refine wp_N (j' := 166) (pc' := 63) (L' := [.ref 193, .int a1]) (S' := [.int (F 193 17), .int a1, .ref 199]) (M' := (hs t, F, G)) 4 (fun _ => rfl) ?_
    obtain ⟨h1_, h⟩ := h
    refine wp_ias (m := (a1).toNatClampNeg) rfl rfl rfl h1_ ?_
    refine wp_N (j' := 166) (pc' := 65) (L' := [.ref 193, .int a1]) (S' := [.ref 193]) (M' := (hs t, (ip_u F 199 (a1).toNatClampNeg (F 193 17)), G)) 0 (fun _ => rfl) ?_
    refine wp_C (i := 163) (pc' := 68) (Li := [.ref 193]) (rest := []) (fun _ => rfl) h
  · replace h := h.2 (Decidable.not_not.mp hc)
    refine wp_N (j' := 166) (pc' := 53) (L' := [.ref 193, .int a1]) (S' := [.int (0 : Int32)]) (M' := (hs t, F, G)) 0 (fun _ => rfl) ?_
    exact wp_RZ rfl rfl (by decide) h
theorem rg166_68 {t : Nat} {F : ip_F} {G : ip_G} {Q : Option Value → ip_M → Prop} {a1 as0 : Int32} (h : (as0 &&& 1 = as0) ∧ (Q (some (.int as0)) (hs t, F, G))) : wp 166 68 [.ref 193, .int a1] [.int as0] (hs t, F, G) Q := by
  obtain ⟨h1_, h⟩ := h
  exact wp_RZ rfl rfl h1_ h
theorem rg167_0 {t : Nat} {F : ip_F} {G : ip_G} {Q : Option Value → ip_M → Prop} (h : wp 162 0 [.ref 193, .int (1 : Int32), .int (99 : Int32), .float 0, .float 0] [] (hs t, F, G) (fun v M' => wp 167 7 [.ref 193, .float 0, .float 0] (v.toList ++ []) M' Q)) : wp 167 0 [.ref 193, .float 0, .float 0] [] (hs t, F, G) Q := by
  refine wp_N (j' := 167) (pc' := 4) (L' := [.ref 193, .float 0, .float 0]) (S' := [.int (99 : Int32), .int (1 : Int32), .ref 193]) (M' := (hs t, F, G)) 2 (fun _ => rfl) ?_
  refine wp_C (i := 162) (pc' := 7) (Li := [.ref 193, .int (1 : Int32), .int (99 : Int32), .float 0, .float 0]) (rest := []) (fun _ => rfl) h
theorem rg167_7 {t : Nat} {F : ip_F} {G : ip_G} {Q : Option Value → ip_M → Prop} {as0 : Int32} {v1 v2 : Value} (h : (¬ as0 = (0 : Int32) → wp 167 19 [.ref 193, .int (F 193 17), .int (0 : Int32)] [] (hs t, F, G) Q) ∧ (as0 = (0 : Int32) → Q (some (.int (0 : Int32))) (hs t, F, G))) : wp 167 7 [.ref 193, v1, v2] [.int as0] (hs t, F, G) Q := by
  refine wp_ifc (pc1 := 12) (c := .ne) rfl (fun hc => ?_) (fun hc => ?_)
  · replace h := h.1 hc
    refine wp_N (j' := 167) (pc' := 19) (L' := [.ref 193, .int (F 193 17), .int (0 : Int32)]) (S' := []) (M' := (hs t, F, G)) 4 (fun _ => rfl) ?_
    exact h
  · replace h := h.2 (Decidable.not_not.mp hc)
    refine wp_N (j' := 167) (pc' := 11) (L' := [.ref 193, v1, v2]) (S' := [.int (0 : Int32)]) (M' := (hs t, F, G)) 0 (fun _ => rfl) ?_
    exact wp_RZ rfl rfl (by decide) h
theorem rg167_19 {t : Nat} {F : ip_F} {G : ip_G} {Q : Option Value → ip_M → Prop} {a1 a2 : Int32} (h : (a1 ≤ a2 → wp 167 44 [.ref 193, .int a1, .int a2] [] (hs t, F, G) Q) ∧ (a2 < a1 → ((999 : Int32) ≤ (F 193 2) → wp 167 44 [.ref 193, .int a1, .int a2] [] (hs t, F, G) Q) ∧ ((F 193 2) < (999 : Int32) → wp 190 0 [.ref 193, .float 0] [] (hs t, F, G) (fun v M' => wp 167 38 [.ref 193, .int a1, .int a2] (v.toList ++ []) M' Q)))) : wp 167 19 [.ref 193, .int a1, .int a2] [] (hs t, F, G) Q := by
  refine wp_N (j' := 167) (pc' := 21) (L' := [.ref 193, .int a1, .int a2]) (S' := [.int a1, .int a2]) (M' := (hs t, F, G)) 1 (fun _ => rfl) ?_
  refine wp_icmp (pc1 := 44) (c := .ge) rfl (fun hc => ?_) (fun hc => ?_)
  · replace h := h.1 hc
    exact h
  · replace h := h.2 (Int32.not_le.mp hc)
    refine wp_N (j' := 167) (pc' := 31) (L' := [.ref 193, .int a1, .int a2]) (S' := [.int (999 : Int32), .int (F 193 2)]) (M' := (hs t, F, G)) 2 (fun _ => rfl) ?_
    refine wp_icmp (pc1 := 44) (c := .ge) rfl (fun hc => ?_) (fun hc => ?_)
    · replace h := h.1 hc
      exact h
    · replace h := h.2 (Int32.not_le.mp hc)
      refine wp_N (j' := 167) (pc' := 35) (L' := [.ref 193, .int a1, .int a2]) (S' := [.ref 193]) (M' := (hs t, F, G)) 0 (fun _ => rfl) ?_
      refine wp_C (i := 190) (pc' := 38) (Li := [.ref 193, .float 0]) (rest := []) (fun _ => rfl) h
theorem rg167_38 {t : Nat} {F : ip_F} {G : ip_G} {Q : Option Value → ip_M → Prop} {a1 a2 : Int32} (h : wp 167 19 [.ref 193, .int a1, .int (a2 + (1 : Int32))] [] (hs t, F, G) Q) : wp 167 38 [.ref 193, .int a1, .int a2] [] (hs t, F, G) Q := by
  refine wp_N (j' := 167) (pc' := 19) (L' := [.ref 193, .int a1, .int (a2 + (1 : Int32))]) (S' := []) (M' := (hs t, F, G)) 1 (fun _ => rfl) ?_
  exact h
theorem rg167_44 {t : Nat} {F : ip_F} {G : ip_G} {Q : Option Value → ip_M → Prop} {a1 a2 : Int32} (h : wp 163 0 [.ref 193] [] (hs t, F, G) (fun v M' => wp 167 48 [.ref 193, .int a1, .int a2] (v.toList ++ []) M' Q)) : wp 167 44 [.ref 193, .int a1, .int a2] [] (hs t, F, G) Q := by
  refine wp_N (j' := 167) (pc' := 45) (L' := [.ref 193, .int a1, .int a2]) (S' := [.ref 193]) (M' := (hs t, F, G)) 0 (fun _ => rfl) ?_
  refine wp_C (i := 163) (pc' := 48) (Li := [.ref 193]) (rest := []) (fun _ => rfl) h
theorem rg167_48 {t : Nat} {F : ip_F} {G : ip_G} {Q : Option Value → ip_M → Prop} {a1 a2 as0 : Int32} (h : (as0 &&& 1 = as0) ∧ (Q (some (.int as0)) (hs t, F, G))) : wp 167 48 [.ref 193, .int a1, .int a2] [.int as0] (hs t, F, G) Q := by
  obtain ⟨h1_, h⟩ := h
  exact wp_RZ rfl rfl h1_ h
theorem rg168_0 {t : Nat} {F : ip_F} {G : ip_G} {Q : Option Value → ip_M → Prop} (h : wp 161 0 [.ref 193, .float 0] [] (hs t, F, G) (fun v M' => wp 168 4 [.ref 193, .float 0] (v.toList ++ []) M' Q)) : wp 168 0 [.ref 193, .float 0] [] (hs t, F, G) Q := by
  refine wp_N (j' := 168) (pc' := 1) (L' := [.ref 193, .float 0]) (S' := [.ref 193]) (M' := (hs t, F, G)) 0 (fun _ => rfl) ?_
  refine wp_C (i := 161) (pc' := 4) (Li := [.ref 193, .float 0]) (rest := []) (fun _ => rfl) h
theorem rg168_4 {t : Nat} {F : ip_F} {G : ip_G} {Q : Option Value → ip_M → Prop} {as0 : Int32} {v1 : Value} (h : ((1 : Int32) ≤ as0 → (¬ as0 = (2 : Int32) → (¬ as0 = (4 : Int32) → wp 168 37 [.ref 193, .int as0] [.int (6 : Int32), .int (F 193 16), .ref 193] (hs t, F, G) Q) ∧ (as0 = (4 : Int32) → wp 168 37 [.ref 193, .int as0] [.int (5 : Int32), .int (F 193 16), .ref 193] (hs t, F, G) Q)) ∧ (as0 = (2 : Int32) → wp 168 37 [.ref 193, .int as0] [.int (4 : Int32), .int (F 193 16), .ref 193] (hs t, F, G) Q)) ∧ (as0 < (1 : Int32) → Q (some (.int (0 : Int32))) (hs t, F, G))) : wp 168 4 [.ref 193, v1] [.int as0] (hs t, F, G) Q := by
  refine wp_N (j' := 168) (pc' := 7) (L' := [.ref 193, .int as0]) (S' := [.int (1 : Int32), .int as0]) (M' := (hs t, F, G)) 2 (fun _ => rfl) ?_
  refine wp_icmp (pc1 := 12) (c := .ge) rfl (fun hc => ?_) (fun hc => ?_)
  · replace h := h.1 hc
    refine wp_N (j' := 168) (pc' := 19) (L' := [.ref 193, .int as0]) (S' := [.int (2 : Int32), .int as0, .int (F 193 16), .ref 193]) (M' := (hs t, F, G)) 4 (fun _ => rfl) ?_
    refine wp_icmp (pc1 := 26) (c := .ne) rfl (fun hc => ?_) (fun hc => ?_)
    · replace h := h.1 hc
      refine wp_N (j' := 168) (pc' := 28) (L' := [.ref 193, .int as0]) (S' := [.int (4 : Int32), .int as0, .int (F 193 16), .ref 193]) (M' := (hs t, F, G)) 1 (fun _ => rfl) ?_
      refine wp_icmp (pc1 := 35) (c := .ne) rfl (fun hc => ?_) (fun hc => ?_)
      · replace h := h.1 hc
        refine wp_N (j' := 168) (pc' := 37) (L' := [.ref 193, .int as0]) (S' := [.int (6 : Int32), .int (F 193 16), .ref 193]) (M' := (hs t, F, G)) 0 (fun _ => rfl) ?_
        exact h
      · replace h := h.2 (Decidable.not_not.mp hc)
        refine wp_N (j' := 168) (pc' := 37) (L' := [.ref 193, .int as0]) (S' := [.int (5 : Int32), .int (F 193 16), .ref 193]) (M' := (hs t, F, G)) 1 (fun _ => rfl) ?_
        exact h
    · replace h := h.2 (Decidable.not_not.mp hc)
      refine wp_N (j' := 168) (pc' := 37) (L' := [.ref 193, .int as0]) (S' := [.int (4 : Int32), .int (F 193 16), .ref 193]) (M' := (hs t, F, G)) 1 (fun _ => rfl) ?_
      exact h
  · replace h := h.2 (Int32.not_le.mp hc)
    refine wp_N (j' := 168) (pc' := 11) (L' := [.ref 193, .int as0]) (S' := [.int (0 : Int32)]) (M' := (hs t, F, G)) 0 (fun _ => rfl) ?_
    exact wp_RZ rfl rfl (by decide) h
theorem rg168_37 {t : Nat} {F : ip_F} {G : ip_G} {Q : Option Value → ip_M → Prop} {a1 as1 as2 : Int32} (h : (¬ a1 = (1 : Int32) → (¬ a1 = (2 : Int32) → (¬ a1 = (3 : Int32) → wp 167 0 [.ref 193, .float 0, .float 0] [] (hs t, (ip_u F 193 16 (as1 + as2)), G) (fun v M' => wp 168 81 [.ref 193, .int a1] (v.toList ++ []) M' Q)) ∧ (a1 = (3 : Int32) → wp 166 0 [.ref 193, .float 0] [] (hs t, (ip_u F 193 16 (as1 + as2)), G) (fun v M' => wp 168 74 [.ref 193, .int a1] (v.toList ++ []) M' Q))) ∧ (a1 = (2 : Int32) → wp 165 0 [.ref 193, .float 0] [] (hs t, (ip_u F 193 16 (as1 + as2)), G) (fun v M' => wp 168 62 [.ref 193, .int a1] (v.toList ++ []) M' Q))) ∧ (a1 = (1 : Int32) → wp 164 0 [.ref 193, .float 0] [] (hs t, (ip_u F 193 16 (as1 + as2)), G) (fun v M' => wp 168 50 [.ref 193, .int a1] (v.toList ++ []) M' Q))) : wp 168 37 [.ref 193, .int a1] [.int as2, .int as1, .ref 193] (hs t, F, G) Q := by
  refine wp_N (j' := 168) (pc' := 38) (L' := [.ref 193, .int a1]) (S' := [.int (as1 + as2), .ref 193]) (M' := (hs t, F, G)) 0 (fun _ => rfl) ?_
  refine wp_putI rfl rfl rfl rfl rfl rfl (by decide) ?_
  refine wp_N (j' := 168) (pc' := 43) (L' := [.ref 193, .int a1]) (S' := [.int (1 : Int32), .int a1]) (M' := (hs t, (ip_u F 193 16 (as1 + as2)), G)) 1 (fun _ => rfl) ?_
  refine wp_icmp (pc1 := 53) (c := .ne) rfl (fun hc => ?_) (fun hc => ?_)
  · replace h := h.1 hc
    refine wp_N (j' := 168) (pc' := 55) (L' := [.ref 193, .int a1]) (S' := [.int (2 : Int32), .int a1]) (M' := (hs t, (ip_u F 193 16 (as1 + as2)), G)) 1 (fun _ => rfl) ?_
    refine wp_icmp (pc1 := 65) (c := .ne) rfl (fun hc => ?_) (fun hc => ?_)
    · replace h := h.1 hc
      refine wp_N (j' := 168) (pc' := 67) (L' := [.ref 193, .int a1]) (S' := [.int (3 : Int32), .int a1]) (M' := (hs t, (ip_u F 193 16 (as1 + as2)), G)) 1 (fun _ => rfl) ?_
      refine wp_icmp (pc1 := 77) (c := .ne) rfl (fun hc => ?_) (fun hc => ?_)
      · replace h := h.1 hc
        refine wp_N (j' := 168) (pc' := 78) (L' := [.ref 193, .int a1]) (S' := [.ref 193]) (M' := (hs t, (ip_u F 193 16 (as1 + as2)), G)) 0 (fun _ => rfl) ?_
        refine wp_C (i := 167) (pc' := 81) (Li := [.ref 193, .float 0, .float 0]) (rest := []) (fun _ => rfl) h
      · replace h := h.2 (Decidable.not_not.mp hc)
        refine wp_N (j' := 168) (pc' := 71) (L' := [.ref 193, .int a1]) (S' := [.ref 193]) (M' := (hs t, (ip_u F 193 16 (as1 + as2)), G)) 0 (fun _ => rfl) ?_
        refine wp_C (i := 166) (pc' := 74) (Li := [.ref 193, .float 0]) (rest := []) (fun _ => rfl) h
    · replace h := h.2 (Decidable.not_not.mp hc)
      refine wp_N (j' := 168) (pc' := 59) (L' := [.ref 193, .int a1]) (S' := [.ref 193]) (M' := (hs t, (ip_u F 193 16 (as1 + as2)), G)) 0 (fun _ => rfl) ?_
      refine wp_C (i := 165) (pc' := 62) (Li := [.ref 193, .float 0]) (rest := []) (fun _ => rfl) h
  · replace h := h.2 (Decidable.not_not.mp hc)
    refine wp_N (j' := 168) (pc' := 47) (L' := [.ref 193, .int a1]) (S' := [.ref 193]) (M' := (hs t, (ip_u F 193 16 (as1 + as2)), G)) 0 (fun _ => rfl) ?_
    refine wp_C (i := 164) (pc' := 50) (Li := [.ref 193, .float 0]) (rest := []) (fun _ => rfl) h
theorem rg168_50 {t : Nat} {F : ip_F} {G : ip_G} {Q : Option Value → ip_M → Prop} {a1 as0 : Int32} (h : wp 168 81 [.ref 193, .int a1] [.int as0] (hs t, F, G) Q) : wp 168 50 [.ref 193, .int a1] [.int as0] (hs t, F, G) Q := by
  refine wp_N (j' := 168) (pc' := 81) (L' := [.ref 193, .int a1]) (S' := [.int as0]) (M' := (hs t, F, G)) 0 (fun _ => rfl) ?_
  exact h
theorem rg168_62 {t : Nat} {F : ip_F} {G : ip_G} {Q : Option Value → ip_M → Prop} {a1 as0 : Int32} (h : wp 168 81 [.ref 193, .int a1] [.int as0] (hs t, F, G) Q) : wp 168 62 [.ref 193, .int a1] [.int as0] (hs t, F, G) Q := by
  refine wp_N (j' := 168) (pc' := 81) (L' := [.ref 193, .int a1]) (S' := [.int as0]) (M' := (hs t, F, G)) 0 (fun _ => rfl) ?_
  exact h
theorem rg168_74 {t : Nat} {F : ip_F} {G : ip_G} {Q : Option Value → ip_M → Prop} {a1 as0 : Int32} (h : wp 168 81 [.ref 193, .int a1] [.int as0] (hs t, F, G) Q) : wp 168 74 [.ref 193, .int a1] [.int as0] (hs t, F, G) Q := by
  refine wp_N (j' := 168) (pc' := 81) (L' := [.ref 193, .int a1]) (S' := [.int as0]) (M' := (hs t, F, G)) 0 (fun _ => rfl) ?_
  exact h
theorem rg168_81 {t : Nat} {F : ip_F} {G : ip_G} {Q : Option Value → ip_M → Prop} {a1 as0 : Int32} (h : (as0 &&& 1 = as0) ∧ (Q (some (.int as0)) (hs t, F, G))) : wp 168 81 [.ref 193, .int a1] [.int as0] (hs t, F, G) Q := by
  obtain ⟨h1_, h⟩ := h
  exact wp_RZ rfl rfl h1_ h
theorem rg169_0 {t : Nat} {F : ip_F} {G : ip_G} {Q : Option Value → ip_M → Prop} (h : wp 156 0 [.ref 193] [] (hs t, F, G) (fun v M' => wp 169 4 [.ref 193] (v.toList ++ []) M' Q)) : wp 169 0 [.ref 193] [] (hs t, F, G) Q := by
  refine wp_N (j' := 169) (pc' := 1) (L' := [.ref 193]) (S' := [.ref 193]) (M' := (hs t, F, G)) 0 (fun _ => rfl) ?_
  refine wp_C (i := 156) (pc' := 4) (Li := [.ref 193]) (rest := []) (fun _ => rfl) h
theorem rg169_4 {t : Nat} {F : ip_F} {G : ip_G} {Q : Option Value → ip_M → Prop} (h : wp 161 0 [.ref 193, .float 0] [] (hs t, F, G) (fun v M' => wp 169 8 [.ref 193] (v.toList ++ []) M' Q)) : wp 169 4 [.ref 193] [] (hs t, F, G) Q := by
  refine wp_N (j' := 169) (pc' := 5) (L' := [.ref 193]) (S' := [.ref 193]) (M' := (hs t, F, G)) 0 (fun _ => rfl) ?_
  refine wp_C (i := 161) (pc' := 8) (Li := [.ref 193, .float 0]) (rest := []) (fun _ => rfl) h
theorem rg169_8 {t : Nat} {F : ip_F} {G : ip_G} {Q : Option Value → ip_M → Prop} {as0 : Int32} (h : (as0 = (0 : Int32) → wp 162 0 [.ref 193, .int (4 : Int32), .int (6 : Int32), .float 0, .float 0] [] (hs t, (ip_u F 193 16 ((F 193 16) + (5 : Int32))), G) (fun v M' => wp 169 30 [.ref 193] (v.toList ++ []) M' Q)) ∧ (¬ as0 = (0 : Int32) → Q (some (.int (0 : Int32))) (hs t, F, G))) : wp 169 8 [.ref 193] [.int as0] (hs t, F, G) Q := by
  refine wp_ifc (pc1 := 13) (c := .eq) rfl (fun hc => ?_) (fun hc => ?_)
  · replace h := h.1 hc
    refine wp_N (j' := 169) (pc' := 20) (L' := [.ref 193]) (S' := [.int ((F 193 16) + (5 : Int32)), .ref 193]) (M' := (hs t, F, G)) 4 (fun _ => rfl) ?_
    refine wp_putI rfl rfl rfl rfl rfl rfl (by decide) ?_
    refine wp_N (j' := 169) (pc' := 27) (L' := [.ref 193]) (S' := [.int (6 : Int32), .int (4 : Int32), .ref 193]) (M' := (hs t, (ip_u F 193 16 ((F 193 16) + (5 : Int32))), G)) 2 (fun _ => rfl) ?_
    refine wp_C (i := 162) (pc' := 30) (Li := [.ref 193, .int (4 : Int32), .int (6 : Int32), .float 0, .float 0]) (rest := []) (fun _ => rfl) h
  · replace h := h.2 hc
    refine wp_N (j' := 169) (pc' := 12) (L' := [.ref 193]) (S' := [.int (0 : Int32)]) (M' := (hs t, F, G)) 0 (fun _ => rfl) ?_
    exact wp_RZ rfl rfl (by decide) h
theorem rg169_30 {t : Nat} {F : ip_F} {G : ip_G} {Q : Option Value → ip_M → Prop} {as0 : Int32} (h : (¬ as0 = (0 : Int32) → wp 149 0 [.ref 193, .int (F 193 17), .float 0] [] (hs t, F, G) (fun v M' => wp 169 43 [.ref 193] (v.toList ++ []) M' Q)) ∧ (as0 = (0 : Int32) → Q (some (.int (0 : Int32))) (hs t, F, G))) : wp 169 30 [.ref 193] [.int as0] (hs t, F, G) Q := by
  refine wp_ifc (pc1 := 35) (c := .ne) rfl (fun hc => ?_) (fun hc => ?_)
  · replace h := h.1 hc
    refine wp_N (j' := 169) (pc' := 40) (L' := [.ref 193]) (S' := [.int (F 193 17), .ref 193]) (M' := (hs t, F, G)) 2 (fun _ => rfl) ?_
    refine wp_C (i := 149) (pc' := 43) (Li := [.ref 193, .int (F 193 17), .float 0]) (rest := []) (fun _ => rfl) h
  · replace h := h.2 (Decidable.not_not.mp hc)
    refine wp_N (j' := 169) (pc' := 34) (L' := [.ref 193]) (S' := [.int (0 : Int32)]) (M' := (hs t, F, G)) 0 (fun _ => rfl) ?_
    exact wp_RZ rfl rfl (by decide) h
theorem rg169_43 {t : Nat} {F : ip_F} {G : ip_G} {Q : Option Value → ip_M → Prop} (h : wp 163 0 [.ref 193] [] (hs t, F, G) (fun v M' => wp 169 47 [.ref 193] (v.toList ++ []) M' Q)) : wp 169 43 [.ref 193] [] (hs t, F, G) Q := by
  refine wp_N (j' := 169) (pc' := 44) (L' := [.ref 193]) (S' := [.ref 193]) (M' := (hs t, F, G)) 0 (fun _ => rfl) ?_
  refine wp_C (i := 163) (pc' := 47) (Li := [.ref 193]) (rest := []) (fun _ => rfl) h
theorem rg169_47 {t : Nat} {F : ip_F} {G : ip_G} {Q : Option Value → ip_M → Prop} {as0 : Int32} (h : (as0 &&& 1 = as0) ∧ (Q (some (.int as0)) (hs t, F, G))) : wp 169 47 [.ref 193] [.int as0] (hs t, F, G) Q := by
  obtain ⟨h1_, h⟩ := h
  exact wp_RZ rfl rfl h1_ h
theorem rg170_0 {t : Nat} {F : ip_F} {G : ip_G} {Q : Option Value → ip_M → Prop} (h : wp 169 0 [.ref 193] [] (hs t, (ip_u F 193 16 (0 : Int32)), G) (fun v M' => wp 170 9 [.ref 193, .float 0] (v.toList ++ []) M' Q)) : wp 170 0 [.ref 193, .float 0] [] (hs t, F, G) Q := by
  refine wp_N (j' := 170) (pc' := 2) (L' := [.ref 193, .float 0]) (S' := [.int (0 : Int32), .ref 193]) (M' := (hs t, F, G)) 1 (fun _ => rfl) ?_
  refine wp_putI rfl rfl rfl rfl rfl rfl (by decide) ?_
  refine wp_N (j' := 170) (pc' := 6) (L' := [.ref 193, .float 0]) (S' := [.ref 193]) (M' := (hs t, (ip_u F 193 16 (0 : Int32)), G)) 0 (fun _ => rfl) ?_
  refine wp_C (i := 169) (pc' := 9) (Li := [.ref 193]) (rest := []) (fun _ => rfl) h
theorem rg170_9 {t : Nat} {F : ip_F} {G : ip_G} {Q : Option Value → ip_M → Prop} {as0 : Int32} {v1 : Value} (h : (¬ as0 = (0 : Int32) → wp 156 0 [.ref 193] [] (hs t, F, G) (fun v M' => wp 170 20 [.ref 193, .int (1 : Int32)] (v.toList ++ []) M' Q)) ∧ (as0 = (0 : Int32) → Q (some (.int (-1 : Int32))) (hs t, F, G))) : wp 170 9 [.ref 193, v1] [.int as0] (hs t, F, G) Q := by
  refine wp_ifc (pc1 := 14) (c := .ne) rfl (fun hc => ?_) (fun hc => ?_)
  · replace h := h.1 hc
    refine wp_N (j' := 170) (pc' := 17) (L' := [.ref 193, .int (1 : Int32)]) (S' := [.ref 193]) (M' := (hs t, F, G)) 2 (fun _ => rfl) ?_
    refine wp_C (i := 156) (pc' := 20) (Li := [.ref 193]) (rest := []) (fun _ => rfl) h
  · replace h := h.2 (Decidable.not_not.mp hc)
    refine wp_N (j' := 170) (pc' := 13) (L' := [.ref 193, v1]) (S' := [.int (-1 : Int32)]) (M' := (hs t, F, G)) 0 (fun _ => rfl) ?_
    exact wp_RI rfl rfl h
theorem rg170_20 {t : Nat} {F : ip_F} {G : ip_G} {Q : Option Value → ip_M → Prop} {a1 : Int32} (h : ((F 193 15) ≤ (F 193 16) → Q (some (.int a1)) (hs t, F, G)) ∧ ((F 193 16) < (F 193 15) → wp 168 0 [.ref 193, .float 0] [] (hs t, F, G) (fun v M' => wp 170 35 [.ref 193, .int a1] (v.toList ++ []) M' Q))) : wp 170 20 [.ref 193, .int a1] [] (hs t, F, G) Q := by
  refine wp_N (j' := 170) (pc' := 28) (L' := [.ref 193, .int a1]) (S' := [.int (F 193 15), .int (F 193 16)]) (M' := (hs t, F, G)) 3 (fun _ => rfl) ?_
  refine wp_icmp (pc1 := 50) (c := .ge) rfl (fun hc => ?_) (fun hc => ?_)
  · replace h := h.1 hc
    refine wp_N (j' := 170) (pc' := 51) (L' := [.ref 193, .int a1]) (S' := [.int a1]) (M' := (hs t, F, G)) 0 (fun _ => rfl) ?_
    exact wp_RI rfl rfl h
  · replace h := h.2 (Int32.not_le.mp hc)
    refine wp_N (j' := 170) (pc' := 32) (L' := [.ref 193, .int a1]) (S' := [.ref 193]) (M' := (hs t, F, G)) 0 (fun _ => rfl) ?_
    refine wp_C (i := 168) (pc' := 35) (Li := [.ref 193, .float 0]) (rest := []) (fun _ => rfl) h
theorem rg170_35 {t : Nat} {F : ip_F} {G : ip_G} {Q : Option Value → ip_M → Prop} {a1 as0 : Int32} (h : (¬ as0 = (0 : Int32) → wp 156 0 [.ref 193] [] (hs t, F, G) (fun v M' => wp 170 47 [.ref 193, .int (a1 + (1 : Int32))] (v.toList ++ []) M' Q)) ∧ (as0 = (0 : Int32) → Q (some (.int (-1 : Int32))) (hs t, F, G))) : wp 170 35 [.ref 193, .int a1] [.int as0] (hs t, F, G) Q := by
  refine wp_ifc (pc1 := 40) (c := .ne) rfl (fun hc => ?_) (fun hc => ?_)
  · replace h := h.1 hc
    refine wp_N (j' := 170) (pc' := 44) (L' := [.ref 193, .int (a1 + (1 : Int32))]) (S' := [.ref 193]) (M' := (hs t, F, G)) 1 (fun _ => rfl) ?_
    refine wp_C (i := 156) (pc' := 47) (Li := [.ref 193]) (rest := []) (fun _ => rfl) h
  · replace h := h.2 (Decidable.not_not.mp hc)
    refine wp_N (j' := 170) (pc' := 39) (L' := [.ref 193, .int a1]) (S' := [.int (-1 : Int32)]) (M' := (hs t, F, G)) 0 (fun _ => rfl) ?_
    exact wp_RI rfl rfl h
theorem rg170_47 {t : Nat} {F : ip_F} {G : ip_G} {Q : Option Value → ip_M → Prop} {a1 : Int32} (h : wp 170 20 [.ref 193, .int a1] [] (hs t, F, G) Q) : wp 170 47 [.ref 193, .int a1] [] (hs t, F, G) Q := by
  refine wp_N (j' := 170) (pc' := 20) (L' := [.ref 193, .int a1]) (S' := []) (M' := (hs t, F, G)) 0 (fun _ => rfl) ?_
  exact h
theorem rg171_0 {t : Nat} {F : ip_F} {G : ip_G} {Q : Option Value → ip_M → Prop} (h : wp 227 0 [.ref 193, .ref 204, .int (0 : Int32), .float 0] [] (hs t, F, G) (fun v M' => wp 171 9 [.ref 193, .float 0] (v.toList ++ []) M' Q)) : wp 171 0 [.ref 193, .float 0] [] (hs t, F, G) Q := by
  refine wp_N (j' := 171) (pc' := 6) (L' := [.ref 193, .float 0]) (S' := [.int (0 : Int32), .ref 204, .ref 193]) (M' := (hs t, F, G)) 3 (fun _ => rfl) ?_
  refine wp_C (i := 227) (pc' := 9) (Li := [.ref 193, .ref 204, .int (0 : Int32), .float 0]) (rest := []) (fun _ => rfl) h
theorem rg171_9 {t : Nat} {F : ip_F} {G : ip_G} {Q : Option Value → ip_M → Prop} {v1 : Value} (h : wp 170 0 [.ref 193, .float 0] [] (hs t, F, G) (fun v M' => wp 171 13 [.ref 193, v1] (v.toList ++ []) M' Q)) : wp 171 9 [.ref 193, v1] [] (hs t, F, G) Q := by
  refine wp_N (j' := 171) (pc' := 10) (L' := [.ref 193, v1]) (S' := [.ref 193]) (M' := (hs t, F, G)) 0 (fun _ => rfl) ?_
  refine wp_C (i := 170) (pc' := 13) (Li := [.ref 193, .float 0]) (rest := []) (fun _ => rfl) h
theorem rg171_13 {t : Nat} {F : ip_F} {G : ip_G} {Q : Option Value → ip_M → Prop} {as0 : Int32} {v1 : Value} (h : ((0 : Int32) ≤ as0 → Q (some (.int as0)) (hs t, (ip_u F 193 22 (0 : Int32)), G)) ∧ (as0 < (0 : Int32) → wp 228 0 [.ref 193, .ref 204, .int (0 : Int32), .float 0] [] (hs t, F, G) (fun v M' => wp 171 27 [.ref 193, .int as0] (v.toList ++ []) M' Q))) : wp 171 13 [.ref 193, v1] [.int as0] (hs t, F, G) Q := by
  refine wp_N (j' := 171) (pc' := 15) (L' := [.ref 193, .int as0]) (S' := [.int as0]) (M' := (hs t, F, G)) 1 (fun _ => rfl) ?_
  refine wp_ifc (pc1 := 35) (c := .ge) rfl (fun hc => ?_) (fun hc => ?_)
  · replace h := h.1 hc
    refine wp_N (j' := 171) (pc' := 37) (L' := [.ref 193, .int as0]) (S' := [.int (0 : Int32), .ref 193]) (M' := (hs t, F, G)) 1 (fun _ => rfl) ?_
    refine wp_putI rfl rfl rfl rfl rfl rfl (by decide) ?_
    refine wp_N (j' := 171) (pc' := 41) (L' := [.ref 193, .int as0]) (S' := [.int as0]) (M' := (hs t, (ip_u F 193 22 (0 : Int32)), G)) 0 (fun _ => rfl) ?_
    exact wp_RI rfl rfl h
  · replace h := h.2 (Int32.not_le.mp hc)
    refine wp_N (j' := 171) (pc' := 24) (L' := [.ref 193, .int as0]) (S' := [.int (0 : Int32), .ref 204, .ref 193]) (M' := (hs t, F, G)) 3 (fun _ => rfl) ?_
    refine wp_C (i := 228) (pc' := 27) (Li := [.ref 193, .ref 204, .int (0 : Int32), .float 0]) (rest := []) (fun _ => rfl) h
theorem rg171_27 {t : Nat} {F : ip_F} {G : ip_G} {Q : Option Value → ip_M → Prop} {a1 : Int32} (h : Q (some (.int ((-10 : Int32) - (F 193 16)))) (hs t, F, G)) : wp 171 27 [.ref 193, .int a1] [] (hs t, F, G) Q := by
  refine wp_N (j' := 171) (pc' := 34) (L' := [.ref 193, .int a1]) (S' := [.int ((-10 : Int32) - (F 193 16))]) (M' := (hs t, F, G)) 3 (fun _ => rfl) ?_
  exact wp_RI rfl rfl h
theorem rg172_0 {t : Nat} {F : ip_F} {G : ip_G} {Q : Option Value → ip_M → Prop} {a0 a1 a2 : Int32} (h : wp 145 0 [.int a2, .int (a1 + (1 : Int32))] [] (hs t, F, G) (fun v M' => wp 172 7 [.int a0, .int a1, .int a2, .float 0, .float 0, .float 0] (v.toList ++ []) M' Q)) : wp 172 0 [.int a0, .int a1, .int a2, .float 0, .float 0, .float 0] [] (hs t, F, G) Q := by
  refine wp_N (j' := 172) (pc' := 4) (L' := [.int a0, .int a1, .int a2, .float 0, .float 0, .float 0]) (S' := [.int (a1 + (1 : Int32)), .int a2]) (M' := (hs t, F, G)) 3 (fun _ => rfl) ?_
  refine wp_C (i := 145) (pc' := 7) (Li := [.int a2, .int (a1 + (1 : Int32))]) (rest := []) (fun _ => rfl) h
theorem rg172_7 {t : Nat} {F : ip_F} {G : ip_G} {Q : Option Value → ip_M → Prop} {a0 a1 a2 as0 : Int32} {v3 v4 v5 : Value} (h : wp 146 0 [.int (1 : Int32), .int (as0 - (2 : Int32))] [] (hs t, F, G) (fun v M' => wp 172 15 [.int a0, .int a1, .int a2, .int as0, v4, v5] (v.toList ++ []) M' Q)) : wp 172 7 [.int a0, .int a1, .int a2, v3, v4, v5] [.int as0] (hs t, F, G) Q := by
  refine wp_N (j' := 172) (pc' := 12) (L' := [.int a0, .int a1, .int a2, .int as0, v4, v5]) (S' := [.int (as0 - (2 : Int32)), .int (1 : Int32)]) (M' := (hs t, F, G)) 4 (fun _ => rfl) ?_
  refine wp_C (i := 146) (pc' := 15) (Li := [.int (1 : Int32), .int (as0 - (2 : Int32))]) (rest := []) (fun _ => rfl) h
theorem rg172_15 {t : Nat} {F : ip_F} {G : ip_G} {Q : Option Value → ip_M → Prop} {a0 a1 a2 a3 as0 : Int32} {v4 v5 : Value} (h : wp 145 0 [.int a2, .int (a3 + (1 : Int32))] [] (hs t, F, G) (fun v M' => wp 172 24 [.int a0, .int a1, .int a2, .int a3, .int as0, v5] (v.toList ++ []) M' Q)) : wp 172 15 [.int a0, .int a1, .int a2, .int a3, v4, v5] [.int as0] (hs t, F, G) Q := by
  refine wp_N (j' := 172) (pc' := 21) (L' := [.int a0, .int a1, .int a2, .int a3, .int as0, v5]) (S' := [.int (a3 + (1 : Int32)), .int a2]) (M' := (hs t, F, G)) 4 (fun _ => rfl) ?_
  refine wp_C (i := 145) (pc' := 24) (Li := [.int a2, .int (a3 + (1 : Int32))]) (rest := []) (fun _ => rfl) h
theorem rg172_24 {t : Nat} {F : ip_F} {G : ip_G} {Q : Option Value → ip_M → Prop} {a0 a1 a2 a3 a4 as0 : Int32} {v5 : Value} (h : (a0 = (1 : Int32) → Q (some (.int a4)) (hs t, F, G)) ∧ ((a0 = (2 : Int32) → Q (some (.int as0)) (hs t, F, G)) ∧ ((a0 = (3 : Int32) → (¬ as0 = a2 → Q (some (.int a1)) (hs t, F, G)) ∧ (as0 = a2 → Q (some (.int a2)) (hs t, F, G))) ∧ ((a0 = (4 : Int32) → Q (some (.int ((a2 + (1 : Int32)) - a4))) (hs t, F, G)) ∧ ((a0 = (5 : Int32) → wp 145 0 [.int a2, .int (a3 + (1 : Int32))] [] (hs t, F, G) (fun v M' => wp 172 92 [.int a0, .int a1, .int a2, .int a3, .int a4, .int as0] (v.toList ++ []) M' Q)) ∧ ((¬ a0 = (1 : Int32) ∧ ¬ a0 = (2 : Int32) ∧ ¬ a0 = (3 : Int32) ∧ ¬ a0 = (4 : Int32) ∧ ¬ a0 = (5 : Int32) → Q (some (.int a3)) (hs t, F, G)))))))) : wp 172 24 [.int a0, .int a1, .int a2, .int a3, .int a4, v5] [.int as0] (hs t, F, G) Q := by
  refine wp_N (j' := 172) (pc' := 27) (L' := [.int a0, .int a1, .int a2, .int a3, .int a4, .int as0]) (S' := [.int a0]) (M' := (hs t, F, G)) 1 (fun _ => rfl) ?_
  by_cases e0 : a0 = (1 : Int32)
  · replace h := h.1 e0
    refine wp_S (x := a0) (d := 66) (lo := 1) (hi := 5) (offs := #[33, 36, 39, 51, 58]) (S' := []) (t := 60) (fun _ => rfl) (by rw [e0]; rfl) ?_
    refine wp_N (j' := 172) (pc' := 62) (L' := [.int a0, .int a1, .int a2, .int a3, .int a4, .int as0]) (S' := [.int a4]) (M' := (hs t, F, G)) 0 (fun _ => rfl) ?_
    exact wp_RI rfl rfl h
  replace h := h.2
  by_cases e1 : a0 = (2 : Int32)
  · replace h := h.1 e1
    refine wp_S (x := a0) (d := 66) (lo := 1) (hi := 5) (offs := #[33, 36, 39, 51, 58]) (S' := []) (t := 63) (fun _ => rfl) (by rw [e1]; rfl) ?_
    refine wp_N (j' := 172) (pc' := 65) (L' := [.int a0, .int a1, .int a2, .int a3, .int a4, .int as0]) (S' := [.int as0]) (M' := (hs t, F, G)) 0 (fun _ => rfl) ?_
    exact wp_RI rfl rfl h
  replace h := h.2
  by_cases e2 : a0 = (3 : Int32)
  · replace h := h.1 e2
    refine wp_S (x := a0) (d := 66) (lo := 1) (hi := 5) (offs := #[33, 36, 39, 51, 58]) (S' := []) (t := 66) (fun _ => rfl) (by rw [e2]; rfl) ?_
    refine wp_N (j' := 172) (pc' := 69) (L' := [.int a0, .int a1, .int a2, .int a3, .int a4, .int as0]) (S' := [.int a2, .int as0]) (M' := (hs t, F, G)) 1 (fun _ => rfl) ?_
    refine wp_icmp (pc1 := 76) (c := .ne) rfl (fun hc => ?_) (fun hc => ?_)
    · replace h := h.1 hc
      refine wp_N (j' := 172) (pc' := 77) (L' := [.int a0, .int a1, .int a2, .int a3, .int a4, .int as0]) (S' := [.int a1]) (M' := (hs t, F, G)) 0 (fun _ => rfl) ?_
      exact wp_RI rfl rfl h
    · replace h := h.2 (Decidable.not_not.mp hc)
      refine wp_N (j' := 172) (pc' := 77) (L' := [.int a0, .int a1, .int a2, .int a3, .int a4, .int as0]) (S' := [.int a2]) (M' := (hs t, F, G)) 1 (fun _ => rfl) ?_
      exact wp_RI rfl rfl h
  replace h := h.2
  by_cases e3 : a0 = (4 : Int32)
  · replace h := h.1 e3
    refine wp_S (x := a0) (d := 66) (lo := 1) (hi := 5) (offs := #[33, 36, 39, 51, 58]) (S' := []) (t := 78) (fun _ => rfl) (by rw [e3]; rfl) ?_
    refine wp_N (j' := 172) (pc' := 84) (L' := [.int a0, .int a1, .int a2, .int a3, .int a4, .int as0]) (S' := [.int ((a2 + (1 : Int32)) - a4)]) (M' := (hs t, F, G)) 4 (fun _ => rfl) ?_
    exact wp_RI rfl rfl h
  replace h := h.2
  by_cases e4 : a0 = (5 : Int32)
  · replace h := h.1 e4
    refine wp_S (x := a0) (d := 66) (lo := 1) (hi := 5) (offs := #[33, 36, 39, 51, 58]) (S' := []) (t := 85) (fun _ => rfl) (by rw [e4]; rfl) ?_
    refine wp_N (j' := 172) (pc' := 89) (L' := [.int a0, .int a1, .int a2, .int a3, .int a4, .int as0]) (S' := [.int (a3 + (1 : Int32)), .int a2]) (M' := (hs t, F, G)) 3 (fun _ => rfl) ?_
    refine wp_C (i := 145) (pc' := 92) (Li := [.int a2, .int (a3 + (1 : Int32))]) (rest := []) (fun _ => rfl) h
  replace h := h.2
  replace h := h ⟨e0, e1, e2, e3, e4⟩
  have h1_ : ∀ i : Nat, i < 5 → ¬ a0 = Int32.ofInt (1 + i) := by
    intro i hi
    match i, hi with
    | 0, _ => exact e0
    | 1, _ => exact e1
    | 2, _ => exact e2
    | 3, _ => exact e3
    | 4, _ => exact e4
  refine wp_S (x := a0) (d := 66) (lo := 1) (hi := 5) (offs := #[33, 36, 39, 51, 58]) (S' := []) (t := 93) (fun _ => rfl) (wp_Sd (by have := in_out2 (lo := 1) (n := 5) h1_ (by decide) (by decide); simp only [Int.cast_ofNat_Int] at this; omega) (by decide)) ?_
  refine wp_N (j' := 172) (pc' := 94) (L' := [.int a0, .int a1, .int a2, .int a3, .int a4, .int as0]) (S' := [.int a3]) (M' := (hs t, F, G)) 0 (fun _ => rfl) ?_
  exact wp_RI rfl rfl h
theorem rg172_92 {t : Nat} {F : ip_F} {G : ip_G} {Q : Option Value → ip_M → Prop} {a0 a1 a2 a3 a4 a5 as0 : Int32} (h : Q (some (.int as0)) (hs t, F, G)) : wp 172 92 [.int a0, .int a1, .int a2, .int a3, .int a4, .int a5] [.int as0] (hs t, F, G) Q := by
  exact wp_RI rfl rfl h
theorem rg173_0 {t : Nat} {F : ip_F} {G : ip_G} {Q : Option Value → ip_M → Prop} {a0 a1 a2 : Int32} (h : (a0 = (1 : Int32) → (a1 < (3 : Int32) → Q (some (.int (0 : Int32))) (hs t, F, G)) ∧ ((3 : Int32) ≤ a1 → Q (some (.int (1 : Int32))) (hs t, F, G))) ∧ ((a0 = (2 : Int32) → ((a2 - a2 / (5 : Int32) * (5 : Int32)) = (0 : Int32) → Q (some (.int (0 : Int32))) (hs t, F, G)) ∧ (¬ (a2 - a2 / (5 : Int32) * (5 : Int32)) = (0 : Int32) → Q (some (.int (1 : Int32))) (hs t, F, G))) ∧ ((a0 = (3 : Int32) → (a1 < (9 : Int32) → Q (some (.int (0 : Int32))) (hs t, F, G)) ∧ ((9 : Int32) ≤ a1 → Q (some (.int (1 : Int32))) (hs t, F, G))) ∧ ((a0 = (4 : Int32) → (¬ (a1 - a1 / (2 : Int32) * (2 : Int32)) = (0 : Int32) → Q (some (.int (0 : Int32))) (hs t, F, G)) ∧ ((a1 - a1 / (2 : Int32) * (2 : Int32)) = (0 : Int32) → Q (some (.int (1 : Int32))) (hs t, F, G))) ∧ ((a0 = (5 : Int32) → ((a2 - a2 / (5 : Int32) * (5 : Int32)) = (0 : Int32) → Q (some (.int (0 : Int32))) (hs t, F, G)) ∧ (¬ (a2 - a2 / (5 : Int32) * (5 : Int32)) = (0 : Int32) → (¬ (a2 - a2 / (2 : Int32) * (2 : Int32)) = (0 : Int32) → Q (some (.int (0 : Int32))) (hs t, F, G)) ∧ ((a2 - a2 / (2 : Int32) * (2 : Int32)) = (0 : Int32) → Q (some (.int (1 : Int32))) (hs t, F, G)))) ∧ ((¬ a0 = (1 : Int32) ∧ ¬ a0 = (2 : Int32) ∧ ¬ a0 = (3 : Int32) ∧ ¬ a0 = (4 : Int32) ∧ ¬ a0 = (5 : Int32) → Q (some (.int (1 : Int32))) (hs t, F, G)))))))) : wp 173 0 [.int a0, .int a1, .int a2] [] (hs t, F, G) Q := by
  refine wp_N (j' := 173) (pc' := 1) (L' := [.int a0, .int a1, .int a2]) (S' := [.int a0]) (M' := (hs t, F, G)) 0 (fun _ => rfl) ?_
  by_cases e0 : a0 = (1 : Int32)
  · replace h := h.1 e0
    refine wp_S (x := a0) (d := 100) (lo := 1) (hi := 5) (offs := #[35, 46, 58, 70, 82]) (S' := []) (t := 36) (fun _ => rfl) (by rw [e0]; rfl) ?_
    refine wp_N (j' := 173) (pc' := 38) (L' := [.int a0, .int a1, .int a2]) (S' := [.int (3 : Int32), .int a1]) (M' := (hs t, F, G)) 1 (fun _ => rfl) ?_
    refine wp_icmp (pc1 := 45) (c := .lt) rfl (fun hc => ?_) (fun hc => ?_)
    · replace h := h.1 hc
      refine wp_N (j' := 173) (pc' := 46) (L' := [.int a0, .int a1, .int a2]) (S' := [.int (0 : Int32)]) (M' := (hs t, F, G)) 0 (fun _ => rfl) ?_
      exact wp_RZ rfl rfl (by decide) h
    · replace h := h.2 (Int32.not_lt.mp hc)
      refine wp_N (j' := 173) (pc' := 46) (L' := [.int a0, .int a1, .int a2]) (S' := [.int (1 : Int32)]) (M' := (hs t, F, G)) 1 (fun _ => rfl) ?_
      exact wp_RZ rfl rfl (by decide) h
  replace h := h.2
  by_cases e1 : a0 = (2 : Int32)
  · replace h := h.1 e1
    refine wp_S (x := a0) (d := 100) (lo := 1) (hi := 5) (offs := #[35, 46, 58, 70, 82]) (S' := []) (t := 47) (fun _ => rfl) (by rw [e1]; rfl) ?_
    refine wp_N (j' := 173) (pc' := 49) (L' := [.int a0, .int a1, .int a2]) (S' := [.int (5 : Int32), .int a2]) (M' := (hs t, F, G)) 1 (fun _ => rfl) ?_
    refine wp_irem rfl (by decide) ?_
    refine wp_ifc (pc1 := 57) (c := .eq) rfl (fun hc => ?_) (fun hc => ?_)
    · replace h := h.1 hc
      refine wp_N (j' := 173) (pc' := 58) (L' := [.int a0, .int a1, .int a2]) (S' := [.int (0 : Int32)]) (M' := (hs t, F, G)) 0 (fun _ => rfl) ?_
      exact wp_RZ rfl rfl (by decide) h
    · replace h := h.2 hc
      refine wp_N (j' := 173) (pc' := 58) (L' := [.int a0, .int a1, .int a2]) (S' := [.int (1 : Int32)]) (M' := (hs t, F, G)) 1 (fun _ => rfl) ?_
      exact wp_RZ rfl rfl (by decide) h
  replace h := h.2
  by_cases e2 : a0 = (3 : Int32)
  · replace h := h.1 e2
    refine wp_S (x := a0) (d := 100) (lo := 1) (hi := 5) (offs := #[35, 46, 58, 70, 82]) (S' := []) (t := 59) (fun _ => rfl) (by rw [e2]; rfl) ?_
    refine wp_N (j' := 173) (pc' := 62) (L' := [.int a0, .int a1, .int a2]) (S' := [.int (9 : Int32), .int a1]) (M' := (hs t, F, G)) 1 (fun _ => rfl) ?_
    refine wp_icmp (pc1 := 69) (c := .lt) rfl (fun hc => ?_) (fun hc => ?_)
    · replace h := h.1 hc
      refine wp_N (j' := 173) (pc' := 70) (L' := [.int a0, .int a1, .int a2]) (S' := [.int (0 : Int32)]) (M' := (hs t, F, G)) 0 (fun _ => rfl) ?_
      exact wp_RZ rfl rfl (by decide) h
    · replace h := h.2 (Int32.not_lt.mp hc)
      refine wp_N (j' := 173) (pc' := 70) (L' := [.int a0, .int a1, .int a2]) (S' := [.int (1 : Int32)]) (M' := (hs t, F, G)) 1 (fun _ => rfl) ?_
      exact wp_RZ rfl rfl (by decide) h
  replace h := h.2
  by_cases e3 : a0 = (4 : Int32)
  · replace h := h.1 e3
    refine wp_S (x := a0) (d := 100) (lo := 1) (hi := 5) (offs := #[35, 46, 58, 70, 82]) (S' := []) (t := 71) (fun _ => rfl) (by rw [e3]; rfl) ?_
    refine wp_N (j' := 173) (pc' := 73) (L' := [.int a0, .int a1, .int a2]) (S' := [.int (2 : Int32), .int a1]) (M' := (hs t, F, G)) 1 (fun _ => rfl) ?_
    refine wp_irem rfl (by decide) ?_
    refine wp_ifc (pc1 := 81) (c := .ne) rfl (fun hc => ?_) (fun hc => ?_)
    · replace h := h.1 hc
      refine wp_N (j' := 173) (pc' := 82) (L' := [.int a0, .int a1, .int a2]) (S' := [.int (0 : Int32)]) (M' := (hs t, F, G)) 0 (fun _ => rfl) ?_
      exact wp_RZ rfl rfl (by decide) h
    · replace h := h.2 (Decidable.not_not.mp hc)
      refine wp_N (j' := 173) (pc' := 82) (L' := [.int a0, .int a1, .int a2]) (S' := [.int (1 : Int32)]) (M' := (hs t, F, G)) 1 (fun _ => rfl) ?_
      exact wp_RZ rfl rfl (by decide) h
  replace h := h.2
  by_cases e4 : a0 = (5 : Int32)
  · replace h := h.1 e4
    refine wp_S (x := a0) (d := 100) (lo := 1) (hi := 5) (offs := #[35, 46, 58, 70, 82]) (S' := []) (t := 83) (fun _ => rfl) (by rw [e4]; rfl) ?_
    refine wp_N (j' := 173) (pc' := 85) (L' := [.int a0, .int a1, .int a2]) (S' := [.int (5 : Int32), .int a2]) (M' := (hs t, F, G)) 1 (fun _ => rfl) ?_
    refine wp_irem rfl (by decide) ?_
    refine wp_ifc (pc1 := 99) (c := .eq) rfl (fun hc => ?_) (fun hc => ?_)
    · replace h := h.1 hc
      refine wp_N (j' := 173) (pc' := 100) (L' := [.int a0, .int a1, .int a2]) (S' := [.int (0 : Int32)]) (M' := (hs t, F, G)) 0 (fun _ => rfl) ?_
      exact wp_RZ rfl rfl (by decide) h
    · replace h := h.2 hc
      refine wp_N (j' := 173) (pc' := 91) (L' := [.int a0, .int a1, .int a2]) (S' := [.int (2 : Int32), .int a2]) (M' := (hs t, F, G)) 1 (fun _ => rfl) ?_
      refine wp_irem rfl (by decide) ?_
      refine wp_ifc (pc1 := 99) (c := .ne) rfl (fun hc => ?_) (fun hc => ?_)
      · replace h := h.1 hc
        refine wp_N (j' := 173) (pc' := 100) (L' := [.int a0, .int a1, .int a2]) (S' := [.int (0 : Int32)]) (M' := (hs t, F, G)) 0 (fun _ => rfl) ?_
        exact wp_RZ rfl rfl (by decide) h
      · replace h := h.2 (Decidable.not_not.mp hc)
        refine wp_N (j' := 173) (pc' := 100) (L' := [.int a0, .int a1, .int a2]) (S' := [.int (1 : Int32)]) (M' := (hs t, F, G)) 1 (fun _ => rfl) ?_
        exact wp_RZ rfl rfl (by decide) h
  replace h := h.2
  replace h := h ⟨e0, e1, e2, e3, e4⟩
  have h1_ : ∀ i : Nat, i < 5 → ¬ a0 = Int32.ofInt (1 + i) := by
    intro i hi
    match i, hi with
    | 0, _ => exact e0
    | 1, _ => exact e1
    | 2, _ => exact e2
    | 3, _ => exact e3
    | 4, _ => exact e4
  refine wp_S (x := a0) (d := 100) (lo := 1) (hi := 5) (offs := #[35, 46, 58, 70, 82]) (S' := []) (t := 101) (fun _ => rfl) (wp_Sd (by have := in_out2 (lo := 1) (n := 5) h1_ (by decide) (by decide); simp only [Int.cast_ofNat_Int] at this; omega) (by decide)) ?_
  refine wp_N (j' := 173) (pc' := 102) (L' := [.int a0, .int a1, .int a2]) (S' := [.int (1 : Int32)]) (M' := (hs t, F, G)) 0 (fun _ => rfl) ?_
  exact wp_RZ rfl rfl (by decide) h
theorem rg174_0 {t : Nat} {F : ip_F} {G : ip_G} {Q : Option Value → ip_M → Prop} (h : wp 174 4 [.ref 193, .int (0 : Int32), .int (0 : Int32)] [] (hs t, F, G) Q) : wp 174 0 [.ref 193, .float 0, .float 0] [] (hs t, F, G) Q := by
  refine wp_N (j' := 174) (pc' := 4) (L' := [.ref 193, .int (0 : Int32), .int (0 : Int32)]) (S' := []) (M' := (hs t, F, G)) 3 (fun _ => rfl) ?_
  exact h
theorem rg174_4 {t : Nat} {F : ip_F} {G : ip_G} {Q : Option Value → ip_M → Prop} {a1 a2 : Int32} (h : ((F 193 1) ≤ a2 → Q (some (.int a1)) (hs t, F, G)) ∧ (a2 < (F 193 1) → (vp_in a2 6) ∧ (((F 196 (a2).toNatClampNeg) = (-1 : Int32) → wp 174 30 [.ref 193, .int a1, .int a2] [.int (0 : Int32), .int a1] (hs t, F, G) Q) ∧ (¬ (F 196 (a2).toNatClampNeg) = (-1 : Int32) → wp 174 30 [.ref 193, .int a1, .int a2] [.int ((1 : Int32) <<< (a2 &&& 31)), .int a1] (hs t, F, G) Q)))) : wp 174 4 [.ref 193, .int a1, .int a2] [] (hs t, F, G) Q := by
  refine wp_N (j' := 174) (pc' := 9) (L' := [.ref 193, .int a1, .int a2]) (S' := [.int (F 193 1), .int a2]) (M' := (hs t, F, G)) 2 (fun _ => rfl) ?_
  refine wp_icmp (pc1 := 38) (c := .ge) rfl (fun hc => ?_) (fun hc => ?_)
  · replace h := h.1 hc
    refine wp_N (j' := 174) (pc' := 39) (L' := [.ref 193, .int a1, .int a2]) (S' := [.int a1]) (M' := (hs t, F, G)) 0 (fun _ => rfl) ?_
    exact wp_RI rfl rfl h
  · replace h := h.2 (Int32.not_le.mp hc)
    refine wp_N (j' := 174) (pc' := 18) (L' := [.ref 193, .int a1, .int a2]) (S' := [.int a2, .ref 196, .int a1]) (M' := (hs t, F, G)) 3 (fun _ => rfl) ?_
    obtain ⟨h1_, h⟩ := h
    refine wp_ial (m := (a2).toNatClampNeg) rfl rfl rfl h1_ ?_
    refine wp_N (j' := 174) (pc' := 20) (L' := [.ref 193, .int a1, .int a2]) (S' := [.int (-1 : Int32), .int (F 196 (a2).toNatClampNeg), .int a1]) (M' := (hs t, F, G)) 0 (fun _ => rfl) ?_
    refine wp_icmp (pc1 := 29) (c := .eq) rfl (fun hc => ?_) (fun hc => ?_)
    · replace h := h.1 hc
      refine wp_N (j' := 174) (pc' := 30) (L' := [.ref 193, .int a1, .int a2]) (S' := [.int (0 : Int32), .int a1]) (M' := (hs t, F, G)) 0 (fun _ => rfl) ?_
      exact h
    · replace h := h.2 hc
      refine wp_N (j' := 174) (pc' := 30) (L' := [.ref 193, .int a1, .int a2]) (S' := [.int ((1 : Int32) <<< (a2 &&& 31)), .int a1]) (M' := (hs t, F, G)) 3 (fun _ => rfl) ?_
      exact h
theorem rg174_30 {t : Nat} {F : ip_F} {G : ip_G} {Q : Option Value → ip_M → Prop} {a1 a2 as0 as1 : Int32} (h : wp 174 4 [.ref 193, .int (as0 ||| as1), .int (a2 + (1 : Int32))] [] (hs t, F, G) Q) : wp 174 30 [.ref 193, .int a1, .int a2] [.int as1, .int as0] (hs t, F, G) Q := by
  refine wp_N (j' := 174) (pc' := 4) (L' := [.ref 193, .int (as0 ||| as1), .int (a2 + (1 : Int32))]) (S' := []) (M' := (hs t, F, G)) 3 (fun _ => rfl) ?_
  exact h
theorem rg175_0 {t : Nat} {F : ip_F} {G : ip_G} {Q : Option Value → ip_M → Prop} (h : wp 175 4 [.ref 193, .int (0 : Int32), .int (0 : Int32)] [] (hs t, F, G) Q) : wp 175 0 [.ref 193, .float 0, .float 0] [] (hs t, F, G) Q := by
  refine wp_N (j' := 175) (pc' := 4) (L' := [.ref 193, .int (0 : Int32), .int (0 : Int32)]) (S' := []) (M' := (hs t, F, G)) 3 (fun _ => rfl) ?_
  exact h
theorem rg175_4 {t : Nat} {F : ip_F} {G : ip_G} {Q : Option Value → ip_M → Prop} {a1 a2 : Int32} (h : ((F 193 1) ≤ a2 → Q (some (.int a1)) (hs t, F, G)) ∧ (a2 < (F 193 1) → (vp_in a2 6) ∧ (((F 196 (a2).toNatClampNeg) = (-1 : Int32) → wp 175 52 [.ref 193, .int a1, .int a2] [.int (0 : Int32), .int a1] (hs t, F, G) Q) ∧ (¬ (F 196 (a2).toNatClampNeg) = (-1 : Int32) → (vp_in a2 6) ∧ ((vp_in a2 6) ∧ (wp 173 0 [.int (F 198 (a2).toNatClampNeg), .int (F 199 (a2).toNatClampNeg), .int (F 193 2)] [] (hs t, F, G) (fun v M' => wp 175 42 [.ref 193, .int a1, .int a2] (v.toList ++ [.int a1]) M' Q))))))) : wp 175 4 [.ref 193, .int a1, .int a2] [] (hs t, F, G) Q := by
  refine wp_N (j' := 175) (pc' := 9) (L' := [.ref 193, .int a1, .int a2]) (S' := [.int (F 193 1), .int a2]) (M' := (hs t, F, G)) 2 (fun _ => rfl) ?_
  refine wp_icmp (pc1 := 60) (c := .ge) rfl (fun hc => ?_) (fun hc => ?_)
  · replace h := h.1 hc
    refine wp_N (j' := 175) (pc' := 61) (L' := [.ref 193, .int a1, .int a2]) (S' := [.int a1]) (M' := (hs t, F, G)) 0 (fun _ => rfl) ?_
    exact wp_RI rfl rfl h
  · replace h := h.2 (Int32.not_le.mp hc)
    refine wp_N (j' := 175) (pc' := 18) (L' := [.ref 193, .int a1, .int a2]) (S' := [.int a2, .ref 196, .int a1]) (M' := (hs t, F, G)) 3 (fun _ => rfl) ?_
    obtain ⟨h1_, h⟩ := h
    refine wp_ial (m := (a2).toNatClampNeg) rfl rfl rfl h1_ ?_
    refine wp_N (j' := 175) (pc' := 20) (L' := [.ref 193, .int a1, .int a2]) (S' := [.int (-1 : Int32), .int (F 196 (a2).toNatClampNeg), .int a1]) (M' := (hs t, F, G)) 0 (fun _ => rfl) ?_
    refine wp_icmp (pc1 := 51) (c := .eq) rfl (fun hc => ?_) (fun hc => ?_)
    · replace h := h.1 hc
      refine wp_N (j' := 175) (pc' := 52) (L' := [.ref 193, .int a1, .int a2]) (S' := [.int (0 : Int32), .int a1]) (M' := (hs t, F, G)) 0 (fun _ => rfl) ?_
      exact h
    · replace h := h.2 hc
      refine wp_N (j' := 175) (pc' := 28) (L' := [.ref 193, .int a1, .int a2]) (S' := [.int a2, .ref 198, .int a1]) (M' := (hs t, F, G)) 2 (fun _ => rfl) ?_
      obtain ⟨h2_, h⟩ := h
      refine wp_ial (m := (a2).toNatClampNeg) rfl rfl rfl h2_ ?_
      refine wp_N (j' := 175) (pc' := 34) (L' := [.ref 193, .int a1, .int a2]) (S' := [.int a2, .ref 199, .int (F 198 (a2).toNatClampNeg), .int a1]) (M' := (hs t, F, G)) 2 (fun _ => rfl) ?_
      obtain ⟨h3_, h⟩ := h
      refine wp_ial (m := (a2).toNatClampNeg) rfl rfl rfl h3_ ?_
      refine wp_N (j' := 175) (pc' := 39) (L' := [.ref 193, .int a1, .int a2]) (S' := [.int (F 193 2), .int (F 199 (a2).toNatClampNeg), .int (F 198 (a2).toNatClampNeg), .int a1]) (M' := (hs t, F, G)) 1 (fun _ => rfl) ?_
      refine wp_C (i := 173) (pc' := 42) (Li := [.int (F 198 (a2).toNatClampNeg), .int (F 199 (a2).toNatClampNeg), .int (F 193 2)]) (rest := [.int a1]) (fun _ => rfl) h
theorem rg175_42 {t : Nat} {F : ip_F} {G : ip_G} {Q : Option Value → ip_M → Prop} {a1 a2 as0 as1 : Int32} (h : (as1 = (0 : Int32) → wp 175 52 [.ref 193, .int a1, .int a2] [.int (0 : Int32), .int as0] (hs t, F, G) Q) ∧ (¬ as1 = (0 : Int32) → wp 175 52 [.ref 193, .int a1, .int a2] [.int ((1 : Int32) <<< (a2 &&& 31)), .int as0] (hs t, F, G) Q)) : wp 175 42 [.ref 193, .int a1, .int a2] [.int as1, .int as0] (hs t, F, G) Q := by
  refine wp_ifc (pc1 := 51) (c := .eq) rfl (fun hc => ?_) (fun hc => ?_)
  · replace h := h.1 hc
    refine wp_N (j' := 175) (pc' := 52) (L' := [.ref 193, .int a1, .int a2]) (S' := [.int (0 : Int32), .int as0]) (M' := (hs t, F, G)) 0 (fun _ => rfl) ?_
    exact h
  · replace h := h.2 hc
    refine wp_N (j' := 175) (pc' := 52) (L' := [.ref 193, .int a1, .int a2]) (S' := [.int ((1 : Int32) <<< (a2 &&& 31)), .int as0]) (M' := (hs t, F, G)) 3 (fun _ => rfl) ?_
    exact h
theorem rg175_52 {t : Nat} {F : ip_F} {G : ip_G} {Q : Option Value → ip_M → Prop} {a1 a2 as0 as1 : Int32} (h : wp 175 4 [.ref 193, .int (as0 ||| as1), .int (a2 + (1 : Int32))] [] (hs t, F, G) Q) : wp 175 52 [.ref 193, .int a1, .int a2] [.int as1, .int as0] (hs t, F, G) Q := by
  refine wp_N (j' := 175) (pc' := 4) (L' := [.ref 193, .int (as0 ||| as1), .int (a2 + (1 : Int32))]) (S' := []) (M' := (hs t, F, G)) 3 (fun _ => rfl) ?_
  exact h
theorem rg176_0 {t : Nat} {F : ip_F} {G : ip_G} {Q : Option Value → ip_M → Prop} {a1 : Int32} (h : ((F 193 1) ≤ (a1 + (1 : Int32)) → Q none (hs t, F, G)) ∧ ((a1 + (1 : Int32)) < (F 193 1) → (vp_in a1 6) ∧ ((vp_in (a1 + (1 : Int32)) 6) ∧ ((vp_in a1 6) ∧ ((vp_in (a1 + (1 : Int32)) 6) ∧ (Q none (hs t, (ip_u (ip_u F 205 (a1).toNatClampNeg (F 205 ((a1 + (1 : Int32))).toNatClampNeg)) 205 ((a1 + (1 : Int32))).toNatClampNeg (F 205 (a1).toNatClampNeg)), G))))))) : wp 176 0 [.ref 193, .int a1, .float 0] [] (hs t, F, G) Q := by
  refine wp_N (j' := 176) (pc' := 7) (L' := [.ref 193, .int a1, .float 0]) (S' := [.int (F 193 1), .int (a1 + (1 : Int32))]) (M' := (hs t, F, G)) 4 (fun _ => rfl) ?_
  refine wp_icmp (pc1 := 40) (c := .ge) rfl (fun hc => ?_) (fun hc => ?_)
  · replace h := h.1 hc
    exact wp_RV rfl rfl h
  · replace h := h.2 (Int32.not_le.mp hc)
    refine wp_N (j' := 176) (pc' := 15) (L' := [.ref 193, .int a1, .float 0]) (S' := [.int a1, .ref 205]) (M' := (hs t, F, G)) 2 (fun _ => rfl) ?_
    obtain ⟨h1_, h⟩ := h
    refine wp_ial (m := (a1).toNatClampNeg) rfl rfl rfl h1_ ?_
    refine wp_N (j' := 176) (pc' := 29) (L' := [.ref 193, .int a1, .int (F 205 (a1).toNatClampNeg)]) (S' := [.int (a1 + (1 : Int32)), .ref 205, .int a1, .ref 205]) (M' := (hs t, F, G)) 8 (fun _ => rfl) ?_
    obtain ⟨h2_, h⟩ := h
    refine wp_ial (m := ((a1 + (1 : Int32))).toNatClampNeg) rfl rfl rfl h2_ ?_
    obtain ⟨h3_, h⟩ := h
    refine wp_ias (m := (a1).toNatClampNeg) rfl rfl rfl h3_ ?_
    refine wp_N (j' := 176) (pc' := 39) (L' := [.ref 193, .int a1, .int (F 205 (a1).toNatClampNeg)]) (S' := [.int (F 205 (a1).toNatClampNeg), .int (a1 + (1 : Int32)), .ref 205]) (M' := (hs t, (ip_u F 205 (a1).toNatClampNeg (F 205 ((a1 + (1 : Int32))).toNatClampNeg)), G)) 5 (fun _ => rfl) ?_
    obtain ⟨h4_, h⟩ := h
    refine wp_ias (m := ((a1 + (1 : Int32))).toNatClampNeg) rfl rfl rfl h4_ ?_
    exact wp_RV rfl rfl h
theorem rg177_0 {t : Nat} {F : ip_F} {G : ip_G} {Q : Option Value → ip_M → Prop} {a1 : Int32} (h : wp 177 2 [.ref 193, .int a1, .int (0 : Int32), .float 0, .float 0] [] (hs t, F, G) Q) : wp 177 0 [.ref 193, .int a1, .float 0, .float 0, .float 0] [] (hs t, F, G) Q := by
  refine wp_N (j' := 177) (pc' := 2) (L' := [.ref 193, .int a1, .int (0 : Int32), .float 0, .float 0]) (S' := []) (M' := (hs t, F, G)) 1 (fun _ => rfl) ?_
  exact h
theorem rg177_2 {t : Nat} {F : ip_F} {G : ip_G} {Q : Option Value → ip_M → Prop} {a1 a2 : Int32} {v3 v4 : Value} (h : ((F 193 1) ≤ a2 → wp 177 27 [.ref 193, .int a1, .int (0 : Int32), v3, v4] [] (hs t, F, G) Q) ∧ (a2 < (F 193 1) → (vp_in a2 6) ∧ (wp 177 2 [.ref 193, .int a1, .int (a2 + (1 : Int32)), v3, v4] [] (hs t, (ip_u F 205 (a2).toNatClampNeg (a2 + (1 : Int32))), G) Q))) : wp 177 2 [.ref 193, .int a1, .int a2, v3, v4] [] (hs t, F, G) Q := by
  refine wp_N (j' := 177) (pc' := 7) (L' := [.ref 193, .int a1, .int a2, v3, v4]) (S' := [.int (F 193 1), .int a2]) (M' := (hs t, F, G)) 2 (fun _ => rfl) ?_
  refine wp_icmp (pc1 := 25) (c := .ge) rfl (fun hc => ?_) (fun hc => ?_)
  · replace h := h.1 hc
    refine wp_N (j' := 177) (pc' := 27) (L' := [.ref 193, .int a1, .int (0 : Int32), v3, v4]) (S' := []) (M' := (hs t, F, G)) 1 (fun _ => rfl) ?_
    exact h
  · replace h := h.2 (Int32.not_le.mp hc)
    refine wp_N (j' := 177) (pc' := 18) (L' := [.ref 193, .int a1, .int a2, v3, v4]) (S' := [.int (a2 + (1 : Int32)), .int a2, .ref 205]) (M' := (hs t, F, G)) 5 (fun _ => rfl) ?_
    obtain ⟨h1_, h⟩ := h
    refine wp_ias (m := (a2).toNatClampNeg) rfl rfl rfl h1_ ?_
    refine wp_N (j' := 177) (pc' := 2) (L' := [.ref 193, .int a1, .int (a2 + (1 : Int32)), v3, v4]) (S' := []) (M' := (hs t, (ip_u F 205 (a2).toNatClampNeg (a2 + (1 : Int32))), G)) 1 (fun _ => rfl) ?_
    exact h
theorem rg177_27 {t : Nat} {F : ip_F} {G : ip_G} {Q : Option Value → ip_M → Prop} {a1 a2 : Int32} {v3 v4 : Value} (h : (a1 ≤ a2 → Q none (hs t, F, G)) ∧ (a2 < a1 → (vp_in (a2 - a2 / (6 : Int32) * (6 : Int32)) 6) ∧ ((¬ (F 195 ((a2 - a2 / (6 : Int32) * (6 : Int32))).toNatClampNeg) = (2 : Int32) → wp 177 52 [.ref 193, .int a1, .int a2, .int (F 195 ((a2 - a2 / (6 : Int32) * (6 : Int32))).toNatClampNeg), v4] [.int (0 : Int32)] (hs t, F, G) Q) ∧ ((F 195 ((a2 - a2 / (6 : Int32) * (6 : Int32))).toNatClampNeg) = (2 : Int32) → wp 177 52 [.ref 193, .int a1, .int a2, .int (F 195 ((a2 - a2 / (6 : Int32) * (6 : Int32))).toNatClampNeg), v4] [.int (1 : Int32)] (hs t, F, G) Q)))) : wp 177 27 [.ref 193, .int a1, .int a2, v3, v4] [] (hs t, F, G) Q := by
  refine wp_N (j' := 177) (pc' := 29) (L' := [.ref 193, .int a1, .int a2, v3, v4]) (S' := [.int a1, .int a2]) (M' := (hs t, F, G)) 1 (fun _ => rfl) ?_
  refine wp_icmp (pc1 := 98) (c := .ge) rfl (fun hc => ?_) (fun hc => ?_)
  · replace h := h.1 hc
    exact wp_RV rfl rfl h
  · replace h := h.2 (Int32.not_le.mp hc)
    refine wp_N (j' := 177) (pc' := 39) (L' := [.ref 193, .int a1, .int a2, v3, v4]) (S' := [.int (6 : Int32), .int a2, .ref 195]) (M' := (hs t, F, G)) 3 (fun _ => rfl) ?_
    refine wp_irem rfl (by decide) ?_
    obtain ⟨h1_, h⟩ := h
    refine wp_ial (m := ((a2 - a2 / (6 : Int32) * (6 : Int32))).toNatClampNeg) rfl rfl rfl h1_ ?_
    refine wp_N (j' := 177) (pc' := 44) (L' := [.ref 193, .int a1, .int a2, .int (F 195 ((a2 - a2 / (6 : Int32) * (6 : Int32))).toNatClampNeg), v4]) (S' := [.int (2 : Int32), .int (F 195 ((a2 - a2 / (6 : Int32) * (6 : Int32))).toNatClampNeg)]) (M' := (hs t, F, G)) 2 (fun _ => rfl) ?_
    refine wp_icmp (pc1 := 51) (c := .ne) rfl (fun hc => ?_) (fun hc => ?_)
    · replace h := h.1 hc
      refine wp_N (j' := 177) (pc' := 52) (L' := [.ref 193, .int a1, .int a2, .int (F 195 ((a2 - a2 / (6 : Int32) * (6 : Int32))).toNatClampNeg), v4]) (S' := [.int (0 : Int32)]) (M' := (hs t, F, G)) 0 (fun _ => rfl) ?_
      exact h
    · replace h := h.2 (Decidable.not_not.mp hc)
      refine wp_N (j' := 177) (pc' := 52) (L' := [.ref 193, .int a1, .int a2, .int (F 195 ((a2 - a2 / (6 : Int32) * (6 : Int32))).toNatClampNeg), v4]) (S' := [.int (1 : Int32)]) (M' := (hs t, F, G)) 1 (fun _ => rfl) ?_
      exact h
theorem rg177_52 {t : Nat} {F : ip_F} {G : ip_G} {Q : Option Value → ip_M → Prop} {a1 a2 a3 as0 : Int32} {v4 : Value} (h : wp 177 54 [.ref 193, .int a1, .int a2, .int a3, .int as0] [] (hs t, F, G) Q) : wp 177 52 [.ref 193, .int a1, .int a2, .int a3, v4] [.int as0] (hs t, F, G) Q := by
  refine wp_N (j' := 177) (pc' := 54) (L' := [.ref 193, .int a1, .int a2, .int a3, .int as0]) (S' := []) (M' := (hs t, F, G)) 0 (fun _ => rfl) ?_
  exact h
theorem rg177_54 {t : Nat} {F : ip_F} {G : ip_G} {Q : Option Value → ip_M → Prop} {a1 a2 a3 a4 : Int32} (h : (¬ a3 = (0 : Int32) → (¬ a3 = (3 : Int32) → wp 177 77 [.ref 193, .int a1, .int a2, .int a3, .int a4] [.int (F 193 1), .int a4] (hs t, F, G) Q) ∧ (a3 = (3 : Int32) → wp 177 77 [.ref 193, .int a1, .int a2, .int a3, .int a4] [.int (1 : Int32), .int a4] (hs t, F, G) Q)) ∧ (a3 = (0 : Int32) → wp 177 77 [.ref 193, .int a1, .int a2, .int a3, .int a4] [.int (0 : Int32), .int a4] (hs t, F, G) Q)) : wp 177 54 [.ref 193, .int a1, .int a2, .int a3, .int a4] [] (hs t, F, G) Q := by
  refine wp_N (j' := 177) (pc' := 57) (L' := [.ref 193, .int a1, .int a2, .int a3, .int a4]) (S' := [.int a3, .int a4]) (M' := (hs t, F, G)) 1 (fun _ => rfl) ?_
  refine wp_ifc (pc1 := 64) (c := .ne) rfl (fun hc => ?_) (fun hc => ?_)
  · replace h := h.1 hc
    refine wp_N (j' := 177) (pc' := 66) (L' := [.ref 193, .int a1, .int a2, .int a3, .int a4]) (S' := [.int (3 : Int32), .int a3, .int a4]) (M' := (hs t, F, G)) 1 (fun _ => rfl) ?_
    refine wp_icmp (pc1 := 73) (c := .ne) rfl (fun hc => ?_) (fun hc => ?_)
    · replace h := h.1 hc
      refine wp_N (j' := 177) (pc' := 77) (L' := [.ref 193, .int a1, .int a2, .int a3, .int a4]) (S' := [.int (F 193 1), .int a4]) (M' := (hs t, F, G)) 1 (fun _ => rfl) ?_
      exact h
    · replace h := h.2 (Decidable.not_not.mp hc)
      refine wp_N (j' := 177) (pc' := 77) (L' := [.ref 193, .int a1, .int a2, .int a3, .int a4]) (S' := [.int (1 : Int32), .int a4]) (M' := (hs t, F, G)) 1 (fun _ => rfl) ?_
      exact h
  · replace h := h.2 (Decidable.not_not.mp hc)
    refine wp_N (j' := 177) (pc' := 77) (L' := [.ref 193, .int a1, .int a2, .int a3, .int a4]) (S' := [.int (0 : Int32), .int a4]) (M' := (hs t, F, G)) 1 (fun _ => rfl) ?_
    exact h
theorem rg177_77 {t : Nat} {F : ip_F} {G : ip_G} {Q : Option Value → ip_M → Prop} {a1 a2 a3 a4 as0 as1 : Int32} (h : (as1 ≤ as0 → wp 177 27 [.ref 193, .int a1, .int (a2 + (1 : Int32)), .int a3, .int a4] [] (hs t, F, G) Q) ∧ (as0 < as1 → wp 176 0 [.ref 193, .int a4, .float 0] [] (hs t, F, G) (fun v M' => wp 177 86 [.ref 193, .int a1, .int a2, .int a3, .int a4] (v.toList ++ []) M' Q))) : wp 177 77 [.ref 193, .int a1, .int a2, .int a3, .int a4] [.int as1, .int as0] (hs t, F, G) Q := by
  refine wp_icmp (pc1 := 92) (c := .ge) rfl (fun hc => ?_) (fun hc => ?_)
  · replace h := h.1 hc
    refine wp_N (j' := 177) (pc' := 27) (L' := [.ref 193, .int a1, .int (a2 + (1 : Int32)), .int a3, .int a4]) (S' := []) (M' := (hs t, F, G)) 1 (fun _ => rfl) ?_
    exact h
  · replace h := h.2 (Int32.not_le.mp hc)
    refine wp_N (j' := 177) (pc' := 83) (L' := [.ref 193, .int a1, .int a2, .int a3, .int a4]) (S' := [.int a4, .ref 193]) (M' := (hs t, F, G)) 1 (fun _ => rfl) ?_
    refine wp_C (i := 176) (pc' := 86) (Li := [.ref 193, .int a4, .float 0]) (rest := []) (fun _ => rfl) h
theorem rg177_86 {t : Nat} {F : ip_F} {G : ip_G} {Q : Option Value → ip_M → Prop} {a1 a2 a3 a4 : Int32} (h : wp 177 54 [.ref 193, .int a1, .int a2, .int a3, .int (a4 + (2 : Int32))] [] (hs t, F, G) Q) : wp 177 86 [.ref 193, .int a1, .int a2, .int a3, .int a4] [] (hs t, F, G) Q := by
  refine wp_N (j' := 177) (pc' := 54) (L' := [.ref 193, .int a1, .int a2, .int a3, .int (a4 + (2 : Int32))]) (S' := []) (M' := (hs t, F, G)) 1 (fun _ => rfl) ?_
  exact h
theorem rg178_0 {t : Nat} {F : ip_F} {G : ip_G} {Q : Option Value → ip_M → Prop} {a1 a2 : Int32} (h : wp 178 2 [.ref 193, .int a1, .int a2, .int (0 : Int32), .float 0] [] (hs t, F, G) Q) : wp 178 0 [.ref 193, .int a1, .int a2, .float 0, .float 0] [] (hs t, F, G) Q := by
  refine wp_N (j' := 178) (pc' := 2) (L' := [.ref 193, .int a1, .int a2, .int (0 : Int32), .float 0]) (S' := []) (M' := (hs t, F, G)) 1 (fun _ => rfl) ?_
  exact h
theorem rg178_2 {t : Nat} {F : ip_F} {G : ip_G} {Q : Option Value → ip_M → Prop} {a1 a2 a3 : Int32} {v4 : Value} (h : (vp_in a3 6) ∧ (((F 205 (a3).toNatClampNeg) = a1 → wp 172 0 [.int a2, .int (a3 + (1 : Int32)), .int (F 193 1), .float 0, .float 0, .float 0] [] (hs t, F, G) (fun v M' => wp 178 29 [.ref 193, .int a1, .int a2, .int a3, v4] (v.toList ++ []) M' Q)) ∧ (¬ (F 205 (a3).toNatClampNeg) = a1 → wp 178 2 [.ref 193, .int a1, .int a2, .int (a3 + (1 : Int32)), v4] [] (hs t, F, G) Q))) : wp 178 2 [.ref 193, .int a1, .int a2, .int a3, v4] [] (hs t, F, G) Q := by
  refine wp_N (j' := 178) (pc' := 7) (L' := [.ref 193, .int a1, .int a2, .int a3, v4]) (S' := [.int a3, .ref 205]) (M' := (hs t, F, G)) 2 (fun _ => rfl) ?_
  obtain ⟨h1_, h⟩ := h
  refine wp_ial (m := (a3).toNatClampNeg) rfl rfl rfl h1_ ?_
  refine wp_N (j' := 178) (pc' := 9) (L' := [.ref 193, .int a1, .int a2, .int a3, v4]) (S' := [.int a1, .int (F 205 (a3).toNatClampNeg)]) (M' := (hs t, F, G)) 0 (fun _ => rfl) ?_
  refine wp_icmp (pc1 := 18) (c := .eq) rfl (fun hc => ?_) (fun hc => ?_)
  · replace h := h.1 hc
    refine wp_N (j' := 178) (pc' := 26) (L' := [.ref 193, .int a1, .int a2, .int a3, v4]) (S' := [.int (F 193 1), .int (a3 + (1 : Int32)), .int a2]) (M' := (hs t, F, G)) 5 (fun _ => rfl) ?_
    refine wp_C (i := 172) (pc' := 29) (Li := [.int a2, .int (a3 + (1 : Int32)), .int (F 193 1), .float 0, .float 0, .float 0]) (rest := []) (fun _ => rfl) h
  · replace h := h.2 hc
    refine wp_N (j' := 178) (pc' := 2) (L' := [.ref 193, .int a1, .int a2, .int (a3 + (1 : Int32)), v4]) (S' := []) (M' := (hs t, F, G)) 1 (fun _ => rfl) ?_
    exact h
theorem rg178_29 {t : Nat} {F : ip_F} {G : ip_G} {Q : Option Value → ip_M → Prop} {a1 a2 a3 as0 : Int32} {v4 : Value} (h : wp 178 33 [.ref 193, .int a1, .int a2, .int a3, .int (as0 - (1 : Int32))] [] (hs t, F, G) Q) : wp 178 29 [.ref 193, .int a1, .int a2, .int a3, v4] [.int as0] (hs t, F, G) Q := by
  refine wp_N (j' := 178) (pc' := 33) (L' := [.ref 193, .int a1, .int a2, .int a3, .int (as0 - (1 : Int32))]) (S' := []) (M' := (hs t, F, G)) 2 (fun _ => rfl) ?_
  exact h
theorem rg178_33 {t : Nat} {F : ip_F} {G : ip_G} {Q : Option Value → ip_M → Prop} {a1 a2 a3 a4 : Int32} (h : (a4 ≤ a3 → wp 178 59 [.ref 193, .int a1, .int a2, .int a3, .int a4] [] (hs t, F, G) Q) ∧ (a3 < a4 → (vp_in (a3 + (1 : Int32)) 6) ∧ ((vp_in a3 6) ∧ (wp 178 33 [.ref 193, .int a1, .int a2, .int (a3 + (1 : Int32)), .int a4] [] (hs t, (ip_u F 205 (a3).toNatClampNeg (F 205 ((a3 + (1 : Int32))).toNatClampNeg)), G) Q)))) : wp 178 33 [.ref 193, .int a1, .int a2, .int a3, .int a4] [] (hs t, F, G) Q := by
  refine wp_N (j' := 178) (pc' := 36) (L' := [.ref 193, .int a1, .int a2, .int a3, .int a4]) (S' := [.int a4, .int a3]) (M' := (hs t, F, G)) 1 (fun _ => rfl) ?_
  refine wp_icmp (pc1 := 59) (c := .ge) rfl (fun hc => ?_) (fun hc => ?_)
  · replace h := h.1 hc
    exact h
  · replace h := h.2 (Int32.not_le.mp hc)
    refine wp_N (j' := 178) (pc' := 51) (L' := [.ref 193, .int a1, .int a2, .int a3, .int a4]) (S' := [.int (a3 + (1 : Int32)), .ref 205, .int a3, .ref 205]) (M' := (hs t, F, G)) 7 (fun _ => rfl) ?_
    obtain ⟨h1_, h⟩ := h
    refine wp_ial (m := ((a3 + (1 : Int32))).toNatClampNeg) rfl rfl rfl h1_ ?_
    obtain ⟨h2_, h⟩ := h
    refine wp_ias (m := (a3).toNatClampNeg) rfl rfl rfl h2_ ?_
    refine wp_N (j' := 178) (pc' := 33) (L' := [.ref 193, .int a1, .int a2, .int (a3 + (1 : Int32)), .int a4]) (S' := []) (M' := (hs t, (ip_u F 205 (a3).toNatClampNeg (F 205 ((a3 + (1 : Int32))).toNatClampNeg)), G)) 1 (fun _ => rfl) ?_
    exact h
theorem rg178_59 {t : Nat} {F : ip_F} {G : ip_G} {Q : Option Value → ip_M → Prop} {a1 a2 a3 a4 : Int32} (h : (a3 ≤ a4 → (vp_in a4 6) ∧ (Q none (hs t, (ip_u F 205 (a4).toNatClampNeg a1), G))) ∧ (a4 < a3 → (vp_in (a3 - (1 : Int32)) 6) ∧ ((vp_in a3 6) ∧ (wp 178 59 [.ref 193, .int a1, .int a2, .int (a3 + (Int32.ofInt (-1))), .int a4] [] (hs t, (ip_u F 205 (a3).toNatClampNeg (F 205 ((a3 - (1 : Int32))).toNatClampNeg)), G) Q)))) : wp 178 59 [.ref 193, .int a1, .int a2, .int a3, .int a4] [] (hs t, F, G) Q := by
  refine wp_N (j' := 178) (pc' := 62) (L' := [.ref 193, .int a1, .int a2, .int a3, .int a4]) (S' := [.int a4, .int a3]) (M' := (hs t, F, G)) 1 (fun _ => rfl) ?_
  refine wp_icmp (pc1 := 85) (c := .le) rfl (fun hc => ?_) (fun hc => ?_)
  · replace h := h.1 hc
    refine wp_N (j' := 178) (pc' := 92) (L' := [.ref 193, .int a1, .int a2, .int a3, .int a4]) (S' := [.int a1, .int a4, .ref 205]) (M' := (hs t, F, G)) 3 (fun _ => rfl) ?_
    obtain ⟨h1_, h⟩ := h
    refine wp_ias (m := (a4).toNatClampNeg) rfl rfl rfl h1_ ?_
    exact wp_RV rfl rfl h
  · replace h := h.2 (Int32.not_le.mp hc)
    refine wp_N (j' := 178) (pc' := 77) (L' := [.ref 193, .int a1, .int a2, .int a3, .int a4]) (S' := [.int (a3 - (1 : Int32)), .ref 205, .int a3, .ref 205]) (M' := (hs t, F, G)) 7 (fun _ => rfl) ?_
    obtain ⟨h2_, h⟩ := h
    refine wp_ial (m := ((a3 - (1 : Int32))).toNatClampNeg) rfl rfl rfl h2_ ?_
    obtain ⟨h3_, h⟩ := h
    refine wp_ias (m := (a3).toNatClampNeg) rfl rfl rfl h3_ ?_
    refine wp_inc (k := 3) (n := -1) (L' := [.ref 193, .int a1, .int a2, .int (a3 + (Int32.ofInt (-1))), .int a4]) rfl rfl rfl ?_
    refine wp_N (j' := 178) (pc' := 59) (L' := [.ref 193, .int a1, .int a2, .int (a3 + (Int32.ofInt (-1))), .int a4]) (S' := []) (M' := (hs t, (ip_u F 205 (a3).toNatClampNeg (F 205 ((a3 - (1 : Int32))).toNatClampNeg)), G)) 0 (fun _ => rfl) ?_
    exact h
theorem rg179_0 {t : Nat} {F : ip_F} {G : ip_G} {Q : Option Value → ip_M → Prop} {a1 a2 : Int32} (h : wp 177 0 [.ref 193, .int a1, .float 0, .float 0, .float 0] [] (hs t, F, G) (fun v M' => wp 179 5 [.ref 193, .int a1, .int a2, .float 0] (v.toList ++ []) M' Q)) : wp 179 0 [.ref 193, .int a1, .int a2, .float 0] [] (hs t, F, G) Q := by
  refine wp_N (j' := 179) (pc' := 2) (L' := [.ref 193, .int a1, .int a2, .float 0]) (S' := [.int a1, .ref 193]) (M' := (hs t, F, G)) 1 (fun _ => rfl) ?_
  refine wp_C (i := 177) (pc' := 5) (Li := [.ref 193, .int a1, .float 0, .float 0, .float 0]) (rest := []) (fun _ => rfl) h
theorem rg179_5 {t : Nat} {F : ip_F} {G : ip_G} {Q : Option Value → ip_M → Prop} {a1 a2 : Int32} {v3 : Value} (h : wp 179 7 [.ref 193, .int a1, .int a2, .int (0 : Int32)] [] (hs t, F, G) Q) : wp 179 5 [.ref 193, .int a1, .int a2, v3] [] (hs t, F, G) Q := by
  refine wp_N (j' := 179) (pc' := 7) (L' := [.ref 193, .int a1, .int a2, .int (0 : Int32)]) (S' := []) (M' := (hs t, F, G)) 1 (fun _ => rfl) ?_
  exact h
theorem rg179_7 {t : Nat} {F : ip_F} {G : ip_G} {Q : Option Value → ip_M → Prop} {a1 a2 a3 : Int32} (h : ((F 193 1) ≤ a3 → Q none (hs t, F, G)) ∧ (a3 < (F 193 1) → wp 144 0 [.int a2, .int a3] [] (hs t, F, G) (fun v M' => wp 179 20 [.ref 193, .int a1, .int a2, .int a3] (v.toList ++ []) M' Q))) : wp 179 7 [.ref 193, .int a1, .int a2, .int a3] [] (hs t, F, G) Q := by
  refine wp_N (j' := 179) (pc' := 12) (L' := [.ref 193, .int a1, .int a2, .int a3]) (S' := [.int (F 193 1), .int a3]) (M' := (hs t, F, G)) 2 (fun _ => rfl) ?_
  refine wp_icmp (pc1 := 52) (c := .ge) rfl (fun hc => ?_) (fun hc => ?_)
  · replace h := h.1 hc
    exact wp_RV rfl rfl h
  · replace h := h.2 (Int32.not_le.mp hc)
    refine wp_N (j' := 179) (pc' := 17) (L' := [.ref 193, .int a1, .int a2, .int a3]) (S' := [.int a3, .int a2]) (M' := (hs t, F, G)) 1 (fun _ => rfl) ?_
    refine wp_C (i := 144) (pc' := 20) (Li := [.int a2, .int a3]) (rest := []) (fun _ => rfl) h
theorem rg179_20 {t : Nat} {F : ip_F} {G : ip_G} {Q : Option Value → ip_M → Prop} {a1 a2 a3 as0 : Int32} (h : (as0 = (0 : Int32) → wp 179 46 [.ref 193, .int a1, .int a2, .int a3] [] (hs t, F, G) Q) ∧ (¬ as0 = (0 : Int32) → (vp_in a3 6) ∧ ((¬ (F 197 (a3).toNatClampNeg) = a1 → wp 179 46 [.ref 193, .int a1, .int a2, .int a3] [] (hs t, F, G) Q) ∧ ((F 197 (a3).toNatClampNeg) = a1 → (vp_in a3 6) ∧ (wp 178 0 [.ref 193, .int (a3 + (1 : Int32)), .int (F 196 (a3).toNatClampNeg), .float 0, .float 0] [] (hs t, F, G) (fun v M' => wp 179 46 [.ref 193, .int a1, .int a2, .int a3] (v.toList ++ []) M' Q)))))) : wp 179 20 [.ref 193, .int a1, .int a2, .int a3] [.int as0] (hs t, F, G) Q := by
  refine wp_ifc (pc1 := 46) (c := .eq) rfl (fun hc => ?_) (fun hc => ?_)
  · replace h := h.1 hc
    exact h
  · replace h := h.2 hc
    refine wp_N (j' := 179) (pc' := 28) (L' := [.ref 193, .int a1, .int a2, .int a3]) (S' := [.int a3, .ref 197]) (M' := (hs t, F, G)) 2 (fun _ => rfl) ?_
    obtain ⟨h1_, h⟩ := h
    refine wp_ial (m := (a3).toNatClampNeg) rfl rfl rfl h1_ ?_
    refine wp_N (j' := 179) (pc' := 30) (L' := [.ref 193, .int a1, .int a2, .int a3]) (S' := [.int a1, .int (F 197 (a3).toNatClampNeg)]) (M' := (hs t, F, G)) 0 (fun _ => rfl) ?_
    refine wp_icmp (pc1 := 46) (c := .ne) rfl (fun hc => ?_) (fun hc => ?_)
    · replace h := h.1 hc
      exact h
    · replace h := h.2 (Decidable.not_not.mp hc)
      refine wp_N (j' := 179) (pc' := 42) (L' := [.ref 193, .int a1, .int a2, .int a3]) (S' := [.int a3, .ref 196, .int (a3 + (1 : Int32)), .ref 193]) (M' := (hs t, F, G)) 6 (fun _ => rfl) ?_
      obtain ⟨h2_, h⟩ := h
      refine wp_ial (m := (a3).toNatClampNeg) rfl rfl rfl h2_ ?_
      refine wp_C (i := 178) (pc' := 46) (Li := [.ref 193, .int (a3 + (1 : Int32)), .int (F 196 (a3).toNatClampNeg), .float 0, .float 0]) (rest := []) (fun _ => rfl) h
theorem rg179_46 {t : Nat} {F : ip_F} {G : ip_G} {Q : Option Value → ip_M → Prop} {a1 a2 a3 : Int32} (h : wp 179 7 [.ref 193, .int a1, .int a2, .int (a3 + (1 : Int32))] [] (hs t, F, G) Q) : wp 179 46 [.ref 193, .int a1, .int a2, .int a3] [] (hs t, F, G) Q := by
  refine wp_N (j' := 179) (pc' := 7) (L' := [.ref 193, .int a1, .int a2, .int (a3 + (1 : Int32))]) (S' := []) (M' := (hs t, F, G)) 1 (fun _ => rfl) ?_
  exact h
theorem rg180_0 {t : Nat} {F : ip_F} {G : ip_G} {Q : Option Value → ip_M → Prop} (h : wp 180 4 [.ref 193, .int (0 : Int32), .int (0 : Int32)] [] (hs t, F, G) Q) : wp 180 0 [.ref 193, .float 0, .float 0] [] (hs t, F, G) Q := by
  refine wp_N (j' := 180) (pc' := 4) (L' := [.ref 193, .int (0 : Int32), .int (0 : Int32)]) (S' := []) (M' := (hs t, F, G)) 3 (fun _ => rfl) ?_
  exact h
theorem rg180_4 {t : Nat} {F : ip_F} {G : ip_G} {Q : Option Value → ip_M → Prop} {a1 a2 : Int32} (h : ((F 193 1) ≤ a2 → Q (some (.int a1)) (hs t, F, G)) ∧ (a2 < (F 193 1) → (vp_in a2 6) ∧ (wp 180 4 [.ref 193, .int (((10 : Int32) * a1) + (F 205 (a2).toNatClampNeg)), .int (a2 + (1 : Int32))] [] (hs t, F, G) Q))) : wp 180 4 [.ref 193, .int a1, .int a2] [] (hs t, F, G) Q := by
  refine wp_N (j' := 180) (pc' := 9) (L' := [.ref 193, .int a1, .int a2]) (S' := [.int (F 193 1), .int a2]) (M' := (hs t, F, G)) 2 (fun _ => rfl) ?_
  refine wp_icmp (pc1 := 30) (c := .ge) rfl (fun hc => ?_) (fun hc => ?_)
  · replace h := h.1 hc
    refine wp_N (j' := 180) (pc' := 31) (L' := [.ref 193, .int a1, .int a2]) (S' := [.int a1]) (M' := (hs t, F, G)) 0 (fun _ => rfl) ?_
    exact wp_RI rfl rfl h
  · replace h := h.2 (Int32.not_le.mp hc)
    refine wp_N (j' := 180) (pc' := 21) (L' := [.ref 193, .int a1, .int a2]) (S' := [.int a2, .ref 205, .int ((10 : Int32) * a1)]) (M' := (hs t, F, G)) 5 (fun _ => rfl) ?_
    obtain ⟨h1_, h⟩ := h
    refine wp_ial (m := (a2).toNatClampNeg) rfl rfl rfl h1_ ?_
    refine wp_N (j' := 180) (pc' := 4) (L' := [.ref 193, .int (((10 : Int32) * a1) + (F 205 (a2).toNatClampNeg)), .int (a2 + (1 : Int32))]) (S' := []) (M' := (hs t, F, G)) 3 (fun _ => rfl) ?_
    exact h
theorem rg181_0 {t : Nat} {F : ip_F} {G : ip_G} {Q : Option Value → ip_M → Prop} {a1 : Int32} (h : wp 177 0 [.ref 193, .int a1, .float 0, .float 0, .float 0] [] (hs t, F, G) (fun v M' => wp 181 5 [.ref 193, .int a1] (v.toList ++ []) M' Q)) : wp 181 0 [.ref 193, .int a1] [] (hs t, F, G) Q := by
  refine wp_N (j' := 181) (pc' := 2) (L' := [.ref 193, .int a1]) (S' := [.int a1, .ref 193]) (M' := (hs t, F, G)) 1 (fun _ => rfl) ?_
  refine wp_C (i := 177) (pc' := 5) (Li := [.ref 193, .int a1, .float 0, .float 0, .float 0]) (rest := []) (fun _ => rfl) h
theorem rg181_5 {t : Nat} {F : ip_F} {G : ip_G} {Q : Option Value → ip_M → Prop} {a1 : Int32} (h : wp 180 0 [.ref 193, .float 0, .float 0] [] (hs t, F, G) (fun v M' => wp 181 9 [.ref 193, .int a1] (v.toList ++ []) M' Q)) : wp 181 5 [.ref 193, .int a1] [] (hs t, F, G) Q := by
  refine wp_N (j' := 181) (pc' := 6) (L' := [.ref 193, .int a1]) (S' := [.ref 193]) (M' := (hs t, F, G)) 0 (fun _ => rfl) ?_
  refine wp_C (i := 180) (pc' := 9) (Li := [.ref 193, .float 0, .float 0]) (rest := []) (fun _ => rfl) h
theorem rg181_9 {t : Nat} {F : ip_F} {G : ip_G} {Q : Option Value → ip_M → Prop} {a1 as0 : Int32} (h : Q (some (.int as0)) (hs t, F, G)) : wp 181 9 [.ref 193, .int a1] [.int as0] (hs t, F, G) Q := by
  exact wp_RI rfl rfl h
theorem rg182_0 {t : Nat} {F : ip_F} {G : ip_G} {Q : Option Value → ip_M → Prop} {a1 a2 : Int32} (h : wp 179 0 [.ref 193, .int a1, .int a2, .float 0] [] (hs t, F, G) (fun v M' => wp 182 6 [.ref 193, .int a1, .int a2] (v.toList ++ []) M' Q)) : wp 182 0 [.ref 193, .int a1, .int a2] [] (hs t, F, G) Q := by
  refine wp_N (j' := 182) (pc' := 3) (L' := [.ref 193, .int a1, .int a2]) (S' := [.int a2, .int a1, .ref 193]) (M' := (hs t, F, G)) 2 (fun _ => rfl) ?_
  refine wp_C (i := 179) (pc' := 6) (Li := [.ref 193, .int a1, .int a2, .float 0]) (rest := []) (fun _ => rfl) h
theorem rg182_6 {t : Nat} {F : ip_F} {G : ip_G} {Q : Option Value → ip_M → Prop} {a1 a2 : Int32} (h : wp 180 0 [.ref 193, .float 0, .float 0] [] (hs t, F, G) (fun v M' => wp 182 10 [.ref 193, .int a1, .int a2] (v.toList ++ []) M' Q)) : wp 182 6 [.ref 193, .int a1, .int a2] [] (hs t, F, G) Q := by
  refine wp_N (j' := 182) (pc' := 7) (L' := [.ref 193, .int a1, .int a2]) (S' := [.ref 193]) (M' := (hs t, F, G)) 0 (fun _ => rfl) ?_
  refine wp_C (i := 180) (pc' := 10) (Li := [.ref 193, .float 0, .float 0]) (rest := []) (fun _ => rfl) h
theorem rg182_10 {t : Nat} {F : ip_F} {G : ip_G} {Q : Option Value → ip_M → Prop} {a1 a2 as0 : Int32} (h : Q (some (.int as0)) (hs t, F, G)) : wp 182 10 [.ref 193, .int a1, .int a2] [.int as0] (hs t, F, G) Q := by
  exact wp_RI rfl rfl h
theorem rg183_0 {t : Nat} {F : ip_F} {G : ip_G} {Q : Option Value → ip_M → Prop} {a1 : Int32} (h : wp 183 2 [.ref 193, .int a1, .int (0 : Int32)] [] (hs t, F, G) Q) : wp 183 0 [.ref 193, .int a1, .float 0] [] (hs t, F, G) Q := by
  refine wp_N (j' := 183) (pc' := 2) (L' := [.ref 193, .int a1, .int (0 : Int32)]) (S' := []) (M' := (hs t, F, G)) 1 (fun _ => rfl) ?_
  exact h
theorem rg183_2 {t : Nat} {F : ip_F} {G : ip_G} {Q : Option Value → ip_M → Prop} {a1 a2 : Int32} (h : ((12 : Int32) ≤ a2 → Q none (hs t, F, G)) ∧ (a2 < (12 : Int32) → wp 182 0 [.ref 193, .int a2, .int a1] [] (hs t, F, G) (fun v M' => wp 183 19 [.ref 193, .int a1, .int a2] (v.toList ++ [.int a2, .ref 206]) M' Q))) : wp 183 2 [.ref 193, .int a1, .int a2] [] (hs t, F, G) Q := by
  refine wp_N (j' := 183) (pc' := 5) (L' := [.ref 193, .int a1, .int a2]) (S' := [.int (12 : Int32), .int a2]) (M' := (hs t, F, G)) 1 (fun _ => rfl) ?_
  refine wp_icmp (pc1 := 26) (c := .ge) rfl (fun hc => ?_) (fun hc => ?_)
  · replace h := h.1 hc
    exact wp_RV rfl rfl h
  · replace h := h.2 (Int32.not_le.mp hc)
    refine wp_N (j' := 183) (pc' := 16) (L' := [.ref 193, .int a1, .int a2]) (S' := [.int a1, .int a2, .ref 193, .int a2, .ref 206]) (M' := (hs t, F, G)) 5 (fun _ => rfl) ?_
    refine wp_C (i := 182) (pc' := 19) (Li := [.ref 193, .int a2, .int a1]) (rest := [.int a2, .ref 206]) (fun _ => rfl) h
theorem rg183_19 {t : Nat} {F : ip_F} {G : ip_G} {Q : Option Value → ip_M → Prop} {a1 a2 as1 as2 : Int32} (h : (vp_in as1 12) ∧ (wp 183 2 [.ref 193, .int a1, .int (a2 + (1 : Int32))] [] (hs t, (ip_u F 206 (as1).toNatClampNeg as2), G) Q)) : wp 183 19 [.ref 193, .int a1, .int a2] [.int as2, .int as1, .ref 206] (hs t, F, G) Q := by
  obtain ⟨h1_, h⟩ := h
  refine wp_ias (m := (as1).toNatClampNeg) rfl rfl rfl h1_ ?_
  refine wp_N (j' := 183) (pc' := 2) (L' := [.ref 193, .int a1, .int (a2 + (1 : Int32))]) (S' := []) (M' := (hs t, (ip_u F 206 (as1).toNatClampNeg as2), G)) 1 (fun _ => rfl) ?_
  exact h
theorem rg184_0 {t : Nat} {F : ip_F} {G : ip_G} {Q : Option Value → ip_M → Prop} {a1 : Int32} (h : wp 184 2 [.ref 193, .int a1, .int (0 : Int32)] [] (hs t, F, G) Q) : wp 184 0 [.ref 193, .int a1, .float 0] [] (hs t, F, G) Q := by
  refine wp_N (j' := 184) (pc' := 2) (L' := [.ref 193, .int a1, .int (0 : Int32)]) (S' := []) (M' := (hs t, F, G)) 1 (fun _ => rfl) ?_
  exact h
theorem rg184_2 {t : Nat} {F : ip_F} {G : ip_G} {Q : Option Value → ip_M → Prop} {a1 a2 : Int32} (h : (vp_in a2 12) ∧ ((vp_in a1 12) ∧ (((F 206 (a2).toNatClampNeg) = (F 206 (a1).toNatClampNeg) → (a1 ≤ a2 → Q (some (.int (-1 : Int32))) (hs t, F, G)) ∧ (a2 < a1 → Q (some (.int a2)) (hs t, F, G))) ∧ (¬ (F 206 (a2).toNatClampNeg) = (F 206 (a1).toNatClampNeg) → wp 184 2 [.ref 193, .int a1, .int (a2 + (1 : Int32))] [] (hs t, F, G) Q)))) : wp 184 2 [.ref 193, .int a1, .int a2] [] (hs t, F, G) Q := by
  refine wp_N (j' := 184) (pc' := 7) (L' := [.ref 193, .int a1, .int a2]) (S' := [.int a2, .ref 206]) (M' := (hs t, F, G)) 2 (fun _ => rfl) ?_
  obtain ⟨h1_, h⟩ := h
  refine wp_ial (m := (a2).toNatClampNeg) rfl rfl rfl h1_ ?_
  refine wp_N (j' := 184) (pc' := 13) (L' := [.ref 193, .int a1, .int a2]) (S' := [.int a1, .ref 206, .int (F 206 (a2).toNatClampNeg)]) (M' := (hs t, F, G)) 2 (fun _ => rfl) ?_
  obtain ⟨h2_, h⟩ := h
  refine wp_ial (m := (a1).toNatClampNeg) rfl rfl rfl h2_ ?_
  refine wp_icmp (pc1 := 23) (c := .eq) rfl (fun hc => ?_) (fun hc => ?_)
  · replace h := h.1 hc
    refine wp_N (j' := 184) (pc' := 25) (L' := [.ref 193, .int a1, .int a2]) (S' := [.int a1, .int a2]) (M' := (hs t, F, G)) 1 (fun _ => rfl) ?_
    refine wp_icmp (pc1 := 32) (c := .ge) rfl (fun hc => ?_) (fun hc => ?_)
    · replace h := h.1 hc
      refine wp_N (j' := 184) (pc' := 33) (L' := [.ref 193, .int a1, .int a2]) (S' := [.int (-1 : Int32)]) (M' := (hs t, F, G)) 0 (fun _ => rfl) ?_
      exact wp_RI rfl rfl h
    · replace h := h.2 (Int32.not_le.mp hc)
      refine wp_N (j' := 184) (pc' := 33) (L' := [.ref 193, .int a1, .int a2]) (S' := [.int a2]) (M' := (hs t, F, G)) 1 (fun _ => rfl) ?_
      exact wp_RI rfl rfl h
  · replace h := h.2 hc
    refine wp_N (j' := 184) (pc' := 2) (L' := [.ref 193, .int a1, .int (a2 + (1 : Int32))]) (S' := []) (M' := (hs t, F, G)) 1 (fun _ => rfl) ?_
    exact h
theorem rg185_0 {t : Nat} {F : ip_F} {G : ip_G} {Q : Option Value → ip_M → Prop} {a1 : Int32} (h : wp 183 0 [.ref 193, .int a1, .float 0] [] (hs t, F, G) (fun v M' => wp 185 5 [.ref 193, .int a1, .float 0, .float 0] (v.toList ++ []) M' Q)) : wp 185 0 [.ref 193, .int a1, .float 0, .float 0] [] (hs t, F, G) Q := by
  refine wp_N (j' := 185) (pc' := 2) (L' := [.ref 193, .int a1, .float 0, .float 0]) (S' := [.int a1, .ref 193]) (M' := (hs t, F, G)) 1 (fun _ => rfl) ?_
  refine wp_C (i := 183) (pc' := 5) (Li := [.ref 193, .int a1, .float 0]) (rest := []) (fun _ => rfl) h
theorem rg185_5 {t : Nat} {F : ip_F} {G : ip_G} {Q : Option Value → ip_M → Prop} {a1 : Int32} {v2 v3 : Value} (h : wp 185 9 [.ref 193, .int a1, .int (1 : Int32), .int (1 : Int32)] [] (hs t, F, G) Q) : wp 185 5 [.ref 193, .int a1, v2, v3] [] (hs t, F, G) Q := by
  refine wp_N (j' := 185) (pc' := 9) (L' := [.ref 193, .int a1, .int (1 : Int32), .int (1 : Int32)]) (S' := []) (M' := (hs t, F, G)) 3 (fun _ => rfl) ?_
  exact h
theorem rg185_9 {t : Nat} {F : ip_F} {G : ip_G} {Q : Option Value → ip_M → Prop} {a1 a2 a3 : Int32} (h : ((12 : Int32) ≤ a3 → (a2 &&& 1 = a2) ∧ (Q (some (.int a2)) (hs t, F, G))) ∧ (a3 < (12 : Int32) → (a2 = (0 : Int32) → wp 185 33 [.ref 193, .int a1, .int a2, .int a3] [.int (0 : Int32)] (hs t, F, G) Q) ∧ (¬ a2 = (0 : Int32) → wp 184 0 [.ref 193, .int a3, .float 0] [] (hs t, F, G) (fun v M' => wp 185 24 [.ref 193, .int a1, .int a2, .int a3] (v.toList ++ []) M' Q)))) : wp 185 9 [.ref 193, .int a1, .int a2, .int a3] [] (hs t, F, G) Q := by
  refine wp_N (j' := 185) (pc' := 12) (L' := [.ref 193, .int a1, .int a2, .int a3]) (S' := [.int (12 : Int32), .int a3]) (M' := (hs t, F, G)) 1 (fun _ => rfl) ?_
  refine wp_icmp (pc1 := 40) (c := .ge) rfl (fun hc => ?_) (fun hc => ?_)
  · replace h := h.1 hc
    refine wp_N (j' := 185) (pc' := 41) (L' := [.ref 193, .int a1, .int a2, .int a3]) (S' := [.int a2]) (M' := (hs t, F, G)) 0 (fun _ => rfl) ?_
    obtain ⟨h1_, h⟩ := h
    exact wp_RZ rfl rfl h1_ h
  · replace h := h.2 (Int32.not_le.mp hc)
    refine wp_N (j' := 185) (pc' := 16) (L' := [.ref 193, .int a1, .int a2, .int a3]) (S' := [.int a2]) (M' := (hs t, F, G)) 0 (fun _ => rfl) ?_
    refine wp_ifc (pc1 := 32) (c := .eq) rfl (fun hc => ?_) (fun hc => ?_)
    · replace h := h.1 hc
      refine wp_N (j' := 185) (pc' := 33) (L' := [.ref 193, .int a1, .int a2, .int a3]) (S' := [.int (0 : Int32)]) (M' := (hs t, F, G)) 0 (fun _ => rfl) ?_
      exact h
    · replace h := h.2 hc
      refine wp_N (j' := 185) (pc' := 21) (L' := [.ref 193, .int a1, .int a2, .int a3]) (S' := [.int a3, .ref 193]) (M' := (hs t, F, G)) 1 (fun _ => rfl) ?_
      refine wp_C (i := 184) (pc' := 24) (Li := [.ref 193, .int a3, .float 0]) (rest := []) (fun _ => rfl) h
theorem rg185_24 {t : Nat} {F : ip_F} {G : ip_G} {Q : Option Value → ip_M → Prop} {a1 a2 a3 as0 : Int32} (h : (¬ as0 = (-1 : Int32) → wp 185 33 [.ref 193, .int a1, .int a2, .int a3] [.int (0 : Int32)] (hs t, F, G) Q) ∧ (as0 = (-1 : Int32) → wp 185 33 [.ref 193, .int a1, .int a2, .int a3] [.int (1 : Int32)] (hs t, F, G) Q)) : wp 185 24 [.ref 193, .int a1, .int a2, .int a3] [.int as0] (hs t, F, G) Q := by
  refine wp_N (j' := 185) (pc' := 25) (L' := [.ref 193, .int a1, .int a2, .int a3]) (S' := [.int (-1 : Int32), .int as0]) (M' := (hs t, F, G)) 0 (fun _ => rfl) ?_
  refine wp_icmp (pc1 := 32) (c := .ne) rfl (fun hc => ?_) (fun hc => ?_)
  · replace h := h.1 hc
    refine wp_N (j' := 185) (pc' := 33) (L' := [.ref 193, .int a1, .int a2, .int a3]) (S' := [.int (0 : Int32)]) (M' := (hs t, F, G)) 0 (fun _ => rfl) ?_
    exact h
  · replace h := h.2 (Decidable.not_not.mp hc)
    refine wp_N (j' := 185) (pc' := 33) (L' := [.ref 193, .int a1, .int a2, .int a3]) (S' := [.int (1 : Int32)]) (M' := (hs t, F, G)) 1 (fun _ => rfl) ?_
    exact h
theorem rg185_33 {t : Nat} {F : ip_F} {G : ip_G} {Q : Option Value → ip_M → Prop} {a1 a2 a3 as0 : Int32} (h : wp 185 9 [.ref 193, .int a1, .int as0, .int (a3 + (1 : Int32))] [] (hs t, F, G) Q) : wp 185 33 [.ref 193, .int a1, .int a2, .int a3] [.int as0] (hs t, F, G) Q := by
  refine wp_N (j' := 185) (pc' := 9) (L' := [.ref 193, .int a1, .int as0, .int (a3 + (1 : Int32))]) (S' := []) (M' := (hs t, F, G)) 2 (fun _ => rfl) ?_
  exact h
theorem rg186_0 {t : Nat} {F : ip_F} {G : ip_G} {Q : Option Value → ip_M → Prop} (h : wp 175 0 [.ref 193, .float 0, .float 0] [] (hs t, F, G) (fun v M' => wp 186 4 [.ref 193, .float 0, .float 0, .float 0] (v.toList ++ []) M' Q)) : wp 186 0 [.ref 193, .float 0, .float 0, .float 0] [] (hs t, F, G) Q := by
  refine wp_N (j' := 186) (pc' := 1) (L' := [.ref 193, .float 0, .float 0, .float 0]) (S' := [.ref 193]) (M' := (hs t, F, G)) 0 (fun _ => rfl) ?_
  refine wp_C (i := 175) (pc' := 4) (Li := [.ref 193, .float 0, .float 0]) (rest := []) (fun _ => rfl) h
theorem rg186_4 {t : Nat} {F : ip_F} {G : ip_G} {Q : Option Value → ip_M → Prop} {as0 : Int32} {v1 v2 v3 : Value} (h : wp 186 9 [.ref 193, .int as0, .int (0 : Int32), .int (0 : Int32)] [] (hs t, F, G) Q) : wp 186 4 [.ref 193, v1, v2, v3] [.int as0] (hs t, F, G) Q := by
  refine wp_N (j' := 186) (pc' := 9) (L' := [.ref 193, .int as0, .int (0 : Int32), .int (0 : Int32)]) (S' := []) (M' := (hs t, F, G)) 4 (fun _ => rfl) ?_
  exact h
theorem rg186_9 {t : Nat} {F : ip_F} {G : ip_G} {Q : Option Value → ip_M → Prop} {a1 a2 a3 : Int32} (h : ((12 : Int32) ≤ a3 → Q (some (.int a2)) (hs t, F, G)) ∧ (a3 < (12 : Int32) → wp 182 0 [.ref 193, .int a3, .int a1] [] (hs t, F, G) (fun v M' => wp 186 22 [.ref 193, .int a1, .int a2, .int a3] (v.toList ++ [.int a2]) M' Q))) : wp 186 9 [.ref 193, .int a1, .int a2, .int a3] [] (hs t, F, G) Q := by
  refine wp_N (j' := 186) (pc' := 12) (L' := [.ref 193, .int a1, .int a2, .int a3]) (S' := [.int (12 : Int32), .int a3]) (M' := (hs t, F, G)) 1 (fun _ => rfl) ?_
  refine wp_icmp (pc1 := 43) (c := .ge) rfl (fun hc => ?_) (fun hc => ?_)
  · replace h := h.1 hc
    refine wp_N (j' := 186) (pc' := 44) (L' := [.ref 193, .int a1, .int a2, .int a3]) (S' := [.int a2]) (M' := (hs t, F, G)) 0 (fun _ => rfl) ?_
    exact wp_RI rfl rfl h
  · replace h := h.2 (Int32.not_le.mp hc)
    refine wp_N (j' := 186) (pc' := 19) (L' := [.ref 193, .int a1, .int a2, .int a3]) (S' := [.int a1, .int a3, .ref 193, .int a2]) (M' := (hs t, F, G)) 3 (fun _ => rfl) ?_
    refine wp_C (i := 182) (pc' := 22) (Li := [.ref 193, .int a3, .int a1]) (rest := [.int a2]) (fun _ => rfl) h
theorem rg186_22 {t : Nat} {F : ip_F} {G : ip_G} {Q : Option Value → ip_M → Prop} {a1 a2 a3 as0 as1 : Int32} (h : wp 181 0 [.ref 193, .int a3] [] (hs t, F, G) (fun v M' => wp 186 27 [.ref 193, .int a1, .int a2, .int a3] (v.toList ++ [.int as1, .int as0]) M' Q)) : wp 186 22 [.ref 193, .int a1, .int a2, .int a3] [.int as1, .int as0] (hs t, F, G) Q := by
  refine wp_N (j' := 186) (pc' := 24) (L' := [.ref 193, .int a1, .int a2, .int a3]) (S' := [.int a3, .ref 193, .int as1, .int as0]) (M' := (hs t, F, G)) 1 (fun _ => rfl) ?_
  refine wp_C (i := 181) (pc' := 27) (Li := [.ref 193, .int a3]) (rest := [.int as1, .int as0]) (fun _ => rfl) h
theorem rg186_27 {t : Nat} {F : ip_F} {G : ip_G} {Q : Option Value → ip_M → Prop} {a1 a2 a3 as0 as1 as2 : Int32} (h : (as1 = as2 → wp 186 35 [.ref 193, .int a1, .int a2, .int a3] [.int (0 : Int32), .int as0] (hs t, F, G) Q) ∧ (¬ as1 = as2 → wp 186 35 [.ref 193, .int a1, .int a2, .int a3] [.int (1 : Int32), .int as0] (hs t, F, G) Q)) : wp 186 27 [.ref 193, .int a1, .int a2, .int a3] [.int as2, .int as1, .int as0] (hs t, F, G) Q := by
  refine wp_icmp (pc1 := 34) (c := .eq) rfl (fun hc => ?_) (fun hc => ?_)
  · replace h := h.1 hc
    refine wp_N (j' := 186) (pc' := 35) (L' := [.ref 193, .int a1, .int a2, .int a3]) (S' := [.int (0 : Int32), .int as0]) (M' := (hs t, F, G)) 0 (fun _ => rfl) ?_
    exact h
  · replace h := h.2 hc
    refine wp_N (j' := 186) (pc' := 35) (L' := [.ref 193, .int a1, .int a2, .int a3]) (S' := [.int (1 : Int32), .int as0]) (M' := (hs t, F, G)) 1 (fun _ => rfl) ?_
    exact h
theorem rg186_35 {t : Nat} {F : ip_F} {G : ip_G} {Q : Option Value → ip_M → Prop} {a1 a2 a3 as0 as1 : Int32} (h : wp 186 9 [.ref 193, .int a1, .int (as0 + as1), .int (a3 + (1 : Int32))] [] (hs t, F, G) Q) : wp 186 35 [.ref 193, .int a1, .int a2, .int a3] [.int as1, .int as0] (hs t, F, G) Q := by
  refine wp_N (j' := 186) (pc' := 9) (L' := [.ref 193, .int a1, .int (as0 + as1), .int (a3 + (1 : Int32))]) (S' := []) (M' := (hs t, F, G)) 3 (fun _ => rfl) ?_
  exact h
theorem rg187_0 {t : Nat} {F : ip_F} {G : ip_G} {Q : Option Value → ip_M → Prop} {a1 n1 : Nat} {a2 : Int32} (ha1 : (hs t)[a1]? = some (1, 0, [n1])) (h : (vp_in a2 n1) ∧ (wp 187 9 [.ref 193, .ref a1, .int a2, .int (0 : Int32)] [] (hs t, (ip_u F a1 (a2).toNatClampNeg (F 193 2)), G) Q)) : wp 187 0 [.ref 193, .ref a1, .int a2, .float 0] [] (hs t, F, G) Q := by
  refine wp_N (j' := 187) (pc' := 6) (L' := [.ref 193, .ref a1, .int a2, .float 0]) (S' := [.int (F 193 2), .int a2, .ref a1]) (M' := (hs t, F, G)) 3 (fun _ => rfl) ?_
  obtain ⟨h1_, h⟩ := h
  refine wp_ias (m := (a2).toNatClampNeg) rfl ha1 rfl h1_ ?_
  refine wp_N (j' := 187) (pc' := 9) (L' := [.ref 193, .ref a1, .int a2, .int (0 : Int32)]) (S' := []) (M' := (hs t, (ip_u F a1 (a2).toNatClampNeg (F 193 2)), G)) 1 (fun _ => rfl) ?_
  exact h
theorem rg187_9 {t : Nat} {F : ip_F} {G : ip_G} {Q : Option Value → ip_M → Prop} {a1 n1 : Nat} {a2 a3 : Int32} (ha1 : (hs t)[a1]? = some (1, 0, [n1])) (h : ((6 : Int32) ≤ a3 → Q none (hs t, F, G)) ∧ (a3 < (6 : Int32) → (vp_in a3 6) ∧ ((vp_in ((a2 + (1 : Int32)) + a3) n1) ∧ ((vp_in a3 6) ∧ ((vp_in ((a2 + (7 : Int32)) + a3) n1) ∧ ((vp_in a3 6) ∧ ((vp_in ((a2 + (13 : Int32)) + a3) n1) ∧ ((vp_in a3 6) ∧ ((vp_in ((a2 + (19 : Int32)) + a3) n1) ∧ (wp 187 9 [.ref 193, .ref a1, .int a2, .int (a3 + (1 : Int32))] [] (hs t, (ip_u (ip_u (ip_u (ip_u F a1 (((a2 + (1 : Int32)) + a3)).toNatClampNeg (F 196 (a3).toNatClampNeg)) a1 (((a2 + (7 : Int32)) + a3)).toNatClampNeg ((ip_u F a1 (((a2 + (1 : Int32)) + a3)).toNatClampNeg (F 196 (a3).toNatClampNeg)) 197 (a3).toNatClampNeg)) a1 (((a2 + (13 : Int32)) + a3)).toNatClampNeg ((ip_u (ip_u F a1 (((a2 + (1 : Int32)) + a3)).toNatClampNeg (F 196 (a3).toNatClampNeg)) a1 (((a2 + (7 : Int32)) + a3)).toNatClampNeg ((ip_u F a1 (((a2 + (1 : Int32)) + a3)).toNatClampNeg (F 196 (a3).toNatClampNeg)) 197 (a3).toNatClampNeg)) 198 (a3).toNatClampNeg)) a1 (((a2 + (19 : Int32)) + a3)).toNatClampNeg ((ip_u (ip_u (ip_u F a1 (((a2 + (1 : Int32)) + a3)).toNatClampNeg (F 196 (a3).toNatClampNeg)) a1 (((a2 + (7 : Int32)) + a3)).toNatClampNeg ((ip_u F a1 (((a2 + (1 : Int32)) + a3)).toNatClampNeg (F 196 (a3).toNatClampNeg)) 197 (a3).toNatClampNeg)) a1 (((a2 + (13 : Int32)) + a3)).toNatClampNeg ((ip_u (ip_u F a1 (((a2 + (1 : Int32)) + a3)).toNatClampNeg (F 196 (a3).toNatClampNeg)) a1 (((a2 + (7 : Int32)) + a3)).toNatClampNeg ((ip_u F a1 (((a2 + (1 : Int32)) + a3)).toNatClampNeg (F 196 (a3).toNatClampNeg)) 197 (a3).toNatClampNeg)) 198 (a3).toNatClampNeg)) 199 (a3).toNatClampNeg)), G) Q)))))))))) : wp 187 9 [.ref 193, .ref a1, .int a2, .int a3] [] (hs t, F, G) Q := by
  refine wp_N (j' := 187) (pc' := 12) (L' := [.ref 193, .ref a1, .int a2, .int a3]) (S' := [.int (6 : Int32), .int a3]) (M' := (hs t, F, G)) 1 (fun _ => rfl) ?_
  refine wp_icmp (pc1 := 76) (c := .ge) rfl (fun hc => ?_) (fun hc => ?_)
  · replace h := h.1 hc
    exact wp_RV rfl rfl h
  · replace h := h.2 (Int32.not_le.mp hc)
    refine wp_N (j' := 187) (pc' := 26) (L' := [.ref 193, .ref a1, .int a2, .int a3]) (S' := [.int a3, .ref 196, .int ((a2 + (1 : Int32)) + a3), .ref a1]) (M' := (hs t, F, G)) 8 (fun _ => rfl) ?_
    obtain ⟨h1_, h⟩ := h
    refine wp_ial (m := (a3).toNatClampNeg) rfl rfl rfl h1_ ?_
    obtain ⟨h2_, h⟩ := h
    refine wp_ias (m := (((a2 + (1 : Int32)) + a3)).toNatClampNeg) rfl ha1 rfl h2_ ?_
    refine wp_N (j' := 187) (pc' := 40) (L' := [.ref 193, .ref a1, .int a2, .int a3]) (S' := [.int a3, .ref 197, .int ((a2 + (7 : Int32)) + a3), .ref a1]) (M' := (hs t, (ip_u F a1 (((a2 + (1 : Int32)) + a3)).toNatClampNeg (F 196 (a3).toNatClampNeg)), G)) 8 (fun _ => rfl) ?_
    obtain ⟨h3_, h⟩ := h
    refine wp_ial (m := (a3).toNatClampNeg) rfl rfl rfl h3_ ?_
    obtain ⟨h4_, h⟩ := h
    refine wp_ias (m := (((a2 + (7 : Int32)) + a3)).toNatClampNeg) rfl ha1 rfl h4_ ?_
    refine wp_N (j' := 187) (pc' := 54) (L' := [.ref 193, .ref a1, .int a2, .int a3]) (S' := [.int a3, .ref 198, .int ((a2 + (13 : Int32)) + a3), .ref a1]) (M' := (hs t, (ip_u (ip_u F a1 (((a2 + (1 : Int32)) + a3)).toNatClampNeg (F 196 (a3).toNatClampNeg)) a1 (((a2 + (7 : Int32)) + a3)).toNatClampNeg ((ip_u F a1 (((a2 + (1 : Int32)) + a3)).toNatClampNeg (F 196 (a3).toNatClampNeg)) 197 (a3).toNatClampNeg)), G)) 8 (fun _ => rfl) ?_
    obtain ⟨h5_, h⟩ := h
    refine wp_ial (m := (a3).toNatClampNeg) rfl rfl rfl h5_ ?_
    obtain ⟨h6_, h⟩ := h
    refine wp_ias (m := (((a2 + (13 : Int32)) + a3)).toNatClampNeg) rfl ha1 rfl h6_ ?_
    refine wp_N (j' := 187) (pc' := 68) (L' := [.ref 193, .ref a1, .int a2, .int a3]) (S' := [.int a3, .ref 199, .int ((a2 + (19 : Int32)) + a3), .ref a1]) (M' := (hs t, (ip_u (ip_u (ip_u F a1 (((a2 + (1 : Int32)) + a3)).toNatClampNeg (F 196 (a3).toNatClampNeg)) a1 (((a2 + (7 : Int32)) + a3)).toNatClampNeg ((ip_u F a1 (((a2 + (1 : Int32)) + a3)).toNatClampNeg (F 196 (a3).toNatClampNeg)) 197 (a3).toNatClampNeg)) a1 (((a2 + (13 : Int32)) + a3)).toNatClampNeg ((ip_u (ip_u F a1 (((a2 + (1 : Int32)) + a3)).toNatClampNeg (F 196 (a3).toNatClampNeg)) a1 (((a2 + (7 : Int32)) + a3)).toNatClampNeg ((ip_u F a1 (((a2 + (1 : Int32)) + a3)).toNatClampNeg (F 196 (a3).toNatClampNeg)) 197 (a3).toNatClampNeg)) 198 (a3).toNatClampNeg)), G)) 8 (fun _ => rfl) ?_
    obtain ⟨h7_, h⟩ := h
    refine wp_ial (m := (a3).toNatClampNeg) rfl rfl rfl h7_ ?_
    obtain ⟨h8_, h⟩ := h
    refine wp_ias (m := (((a2 + (19 : Int32)) + a3)).toNatClampNeg) rfl ha1 rfl h8_ ?_
    refine wp_N (j' := 187) (pc' := 9) (L' := [.ref 193, .ref a1, .int a2, .int (a3 + (1 : Int32))]) (S' := []) (M' := (hs t, (ip_u (ip_u (ip_u (ip_u F a1 (((a2 + (1 : Int32)) + a3)).toNatClampNeg (F 196 (a3).toNatClampNeg)) a1 (((a2 + (7 : Int32)) + a3)).toNatClampNeg ((ip_u F a1 (((a2 + (1 : Int32)) + a3)).toNatClampNeg (F 196 (a3).toNatClampNeg)) 197 (a3).toNatClampNeg)) a1 (((a2 + (13 : Int32)) + a3)).toNatClampNeg ((ip_u (ip_u F a1 (((a2 + (1 : Int32)) + a3)).toNatClampNeg (F 196 (a3).toNatClampNeg)) a1 (((a2 + (7 : Int32)) + a3)).toNatClampNeg ((ip_u F a1 (((a2 + (1 : Int32)) + a3)).toNatClampNeg (F 196 (a3).toNatClampNeg)) 197 (a3).toNatClampNeg)) 198 (a3).toNatClampNeg)) a1 (((a2 + (19 : Int32)) + a3)).toNatClampNeg ((ip_u (ip_u (ip_u F a1 (((a2 + (1 : Int32)) + a3)).toNatClampNeg (F 196 (a3).toNatClampNeg)) a1 (((a2 + (7 : Int32)) + a3)).toNatClampNeg ((ip_u F a1 (((a2 + (1 : Int32)) + a3)).toNatClampNeg (F 196 (a3).toNatClampNeg)) 197 (a3).toNatClampNeg)) a1 (((a2 + (13 : Int32)) + a3)).toNatClampNeg ((ip_u (ip_u F a1 (((a2 + (1 : Int32)) + a3)).toNatClampNeg (F 196 (a3).toNatClampNeg)) a1 (((a2 + (7 : Int32)) + a3)).toNatClampNeg ((ip_u F a1 (((a2 + (1 : Int32)) + a3)).toNatClampNeg (F 196 (a3).toNatClampNeg)) 197 (a3).toNatClampNeg)) 198 (a3).toNatClampNeg)) 199 (a3).toNatClampNeg)), G)) 1 (fun _ => rfl) ?_
    exact h
theorem rg188_0 {t : Nat} {F : ip_F} {G : ip_G} {Q : Option Value → ip_M → Prop} {a1 n1 : Nat} {a2 : Int32} (ha1 : (hs t)[a1]? = some (1, 0, [n1])) (h : (vp_in a2 n1) ∧ (wp 188 9 [.ref 193, .ref a1, .int a2, .int (0 : Int32)] [] (hs t, (ip_u F 193 2 (F a1 (a2).toNatClampNeg)), G) Q)) : wp 188 0 [.ref 193, .ref a1, .int a2, .float 0] [] (hs t, F, G) Q := by
  refine wp_N (j' := 188) (pc' := 3) (L' := [.ref 193, .ref a1, .int a2, .float 0]) (S' := [.int a2, .ref a1, .ref 193]) (M' := (hs t, F, G)) 2 (fun _ => rfl) ?_
  obtain ⟨h1_, h⟩ := h
  refine wp_ial (m := (a2).toNatClampNeg) rfl ha1 rfl h1_ ?_
  refine wp_putI rfl rfl rfl rfl rfl rfl (by decide) ?_
  refine wp_N (j' := 188) (pc' := 9) (L' := [.ref 193, .ref a1, .int a2, .int (0 : Int32)]) (S' := []) (M' := (hs t, (ip_u F 193 2 (F a1 (a2).toNatClampNeg)), G)) 1 (fun _ => rfl) ?_
  exact h
theorem rg188_9 {t : Nat} {F : ip_F} {G : ip_G} {Q : Option Value → ip_M → Prop} {a1 n1 : Nat} {a2 a3 : Int32} (ha1 : (hs t)[a1]? = some (1, 0, [n1])) (h : ((6 : Int32) ≤ a3 → Q none (hs t, F, G)) ∧ (a3 < (6 : Int32) → (vp_in ((a2 + (1 : Int32)) + a3) n1) ∧ ((vp_in a3 6) ∧ ((vp_in ((a2 + (7 : Int32)) + a3) n1) ∧ ((vp_in a3 6) ∧ ((vp_in ((a2 + (13 : Int32)) + a3) n1) ∧ ((vp_in a3 6) ∧ ((vp_in ((a2 + (19 : Int32)) + a3) n1) ∧ ((vp_in a3 6) ∧ (wp 188 9 [.ref 193, .ref a1, .int a2, .int (a3 + (1 : Int32))] [] (hs t, (ip_u (ip_u (ip_u (ip_u F 196 (a3).toNatClampNeg (F a1 (((a2 + (1 : Int32)) + a3)).toNatClampNeg)) 197 (a3).toNatClampNeg ((ip_u F 196 (a3).toNatClampNeg (F a1 (((a2 + (1 : Int32)) + a3)).toNatClampNeg)) a1 (((a2 + (7 : Int32)) + a3)).toNatClampNeg)) 198 (a3).toNatClampNeg ((ip_u (ip_u F 196 (a3).toNatClampNeg (F a1 (((a2 + (1 : Int32)) + a3)).toNatClampNeg)) 197 (a3).toNatClampNeg ((ip_u F 196 (a3).toNatClampNeg (F a1 (((a2 + (1 : Int32)) + a3)).toNatClampNeg)) a1 (((a2 + (7 : Int32)) + a3)).toNatClampNeg)) a1 (((a2 + (13 : Int32)) + a3)).toNatClampNeg)) 199 (a3).toNatClampNeg ((ip_u (ip_u (ip_u F 196 (a3).toNatClampNeg (F a1 (((a2 + (1 : Int32)) + a3)).toNatClampNeg)) 197 (a3).toNatClampNeg ((ip_u F 196 (a3).toNatClampNeg (F a1 (((a2 + (1 : Int32)) + a3)).toNatClampNeg)) a1 (((a2 + (7 : Int32)) + a3)).toNatClampNeg)) 198 (a3).toNatClampNeg ((ip_u (ip_u F 196 (a3).toNatClampNeg (F a1 (((a2 + (1 : Int32)) + a3)).toNatClampNeg)) 197 (a3).toNatClampNeg ((ip_u F 196 (a3).toNatClampNeg (F a1 (((a2 + (1 : Int32)) + a3)).toNatClampNeg)) a1 (((a2 + (7 : Int32)) + a3)).toNatClampNeg)) a1 (((a2 + (13 : Int32)) + a3)).toNatClampNeg)) a1 (((a2 + (19 : Int32)) + a3)).toNatClampNeg)), G) Q)))))))))) : wp 188 9 [.ref 193, .ref a1, .int a2, .int a3] [] (hs t, F, G) Q := by
  refine wp_N (j' := 188) (pc' := 12) (L' := [.ref 193, .ref a1, .int a2, .int a3]) (S' := [.int (6 : Int32), .int a3]) (M' := (hs t, F, G)) 1 (fun _ => rfl) ?_
  refine wp_icmp (pc1 := 76) (c := .ge) rfl (fun hc => ?_) (fun hc => ?_)
  · replace h := h.1 hc
    exact wp_RV rfl rfl h
  · replace h := h.2 (Int32.not_le.mp hc)
    refine wp_N (j' := 188) (pc' := 26) (L' := [.ref 193, .ref a1, .int a2, .int a3]) (S' := [.int ((a2 + (1 : Int32)) + a3), .ref a1, .int a3, .ref 196]) (M' := (hs t, F, G)) 8 (fun _ => rfl) ?_
    obtain ⟨h1_, h⟩ := h
    refine wp_ial (m := (((a2 + (1 : Int32)) + a3)).toNatClampNeg) rfl ha1 rfl h1_ ?_
    obtain ⟨h2_, h⟩ := h
    refine wp_ias (m := (a3).toNatClampNeg) rfl rfl rfl h2_ ?_
    refine wp_N (j' := 188) (pc' := 40) (L' := [.ref 193, .ref a1, .int a2, .int a3]) (S' := [.int ((a2 + (7 : Int32)) + a3), .ref a1, .int a3, .ref 197]) (M' := (hs t, (ip_u F 196 (a3).toNatClampNeg (F a1 (((a2 + (1 : Int32)) + a3)).toNatClampNeg)), G)) 8 (fun _ => rfl) ?_
    obtain ⟨h3_, h⟩ := h
    refine wp_ial (m := (((a2 + (7 : Int32)) + a3)).toNatClampNeg) rfl ha1 rfl h3_ ?_
    obtain ⟨h4_, h⟩ := h
    refine wp_ias (m := (a3).toNatClampNeg) rfl rfl rfl h4_ ?_
    refine wp_N (j' := 188) (pc' := 54) (L' := [.ref 193, .ref a1, .int a2, .int a3]) (S' := [.int ((a2 + (13 : Int32)) + a3), .ref a1, .int a3, .ref 198]) (M' := (hs t, (ip_u (ip_u F 196 (a3).toNatClampNeg (F a1 (((a2 + (1 : Int32)) + a3)).toNatClampNeg)) 197 (a3).toNatClampNeg ((ip_u F 196 (a3).toNatClampNeg (F a1 (((a2 + (1 : Int32)) + a3)).toNatClampNeg)) a1 (((a2 + (7 : Int32)) + a3)).toNatClampNeg)), G)) 8 (fun _ => rfl) ?_
    obtain ⟨h5_, h⟩ := h
    refine wp_ial (m := (((a2 + (13 : Int32)) + a3)).toNatClampNeg) rfl ha1 rfl h5_ ?_
    obtain ⟨h6_, h⟩ := h
    refine wp_ias (m := (a3).toNatClampNeg) rfl rfl rfl h6_ ?_
    refine wp_N (j' := 188) (pc' := 68) (L' := [.ref 193, .ref a1, .int a2, .int a3]) (S' := [.int ((a2 + (19 : Int32)) + a3), .ref a1, .int a3, .ref 199]) (M' := (hs t, (ip_u (ip_u (ip_u F 196 (a3).toNatClampNeg (F a1 (((a2 + (1 : Int32)) + a3)).toNatClampNeg)) 197 (a3).toNatClampNeg ((ip_u F 196 (a3).toNatClampNeg (F a1 (((a2 + (1 : Int32)) + a3)).toNatClampNeg)) a1 (((a2 + (7 : Int32)) + a3)).toNatClampNeg)) 198 (a3).toNatClampNeg ((ip_u (ip_u F 196 (a3).toNatClampNeg (F a1 (((a2 + (1 : Int32)) + a3)).toNatClampNeg)) 197 (a3).toNatClampNeg ((ip_u F 196 (a3).toNatClampNeg (F a1 (((a2 + (1 : Int32)) + a3)).toNatClampNeg)) a1 (((a2 + (7 : Int32)) + a3)).toNatClampNeg)) a1 (((a2 + (13 : Int32)) + a3)).toNatClampNeg)), G)) 8 (fun _ => rfl) ?_
    obtain ⟨h7_, h⟩ := h
    refine wp_ial (m := (((a2 + (19 : Int32)) + a3)).toNatClampNeg) rfl ha1 rfl h7_ ?_
    obtain ⟨h8_, h⟩ := h
    refine wp_ias (m := (a3).toNatClampNeg) rfl rfl rfl h8_ ?_
    refine wp_N (j' := 188) (pc' := 9) (L' := [.ref 193, .ref a1, .int a2, .int (a3 + (1 : Int32))]) (S' := []) (M' := (hs t, (ip_u (ip_u (ip_u (ip_u F 196 (a3).toNatClampNeg (F a1 (((a2 + (1 : Int32)) + a3)).toNatClampNeg)) 197 (a3).toNatClampNeg ((ip_u F 196 (a3).toNatClampNeg (F a1 (((a2 + (1 : Int32)) + a3)).toNatClampNeg)) a1 (((a2 + (7 : Int32)) + a3)).toNatClampNeg)) 198 (a3).toNatClampNeg ((ip_u (ip_u F 196 (a3).toNatClampNeg (F a1 (((a2 + (1 : Int32)) + a3)).toNatClampNeg)) 197 (a3).toNatClampNeg ((ip_u F 196 (a3).toNatClampNeg (F a1 (((a2 + (1 : Int32)) + a3)).toNatClampNeg)) a1 (((a2 + (7 : Int32)) + a3)).toNatClampNeg)) a1 (((a2 + (13 : Int32)) + a3)).toNatClampNeg)) 199 (a3).toNatClampNeg ((ip_u (ip_u (ip_u F 196 (a3).toNatClampNeg (F a1 (((a2 + (1 : Int32)) + a3)).toNatClampNeg)) 197 (a3).toNatClampNeg ((ip_u F 196 (a3).toNatClampNeg (F a1 (((a2 + (1 : Int32)) + a3)).toNatClampNeg)) a1 (((a2 + (7 : Int32)) + a3)).toNatClampNeg)) 198 (a3).toNatClampNeg ((ip_u (ip_u F 196 (a3).toNatClampNeg (F a1 (((a2 + (1 : Int32)) + a3)).toNatClampNeg)) 197 (a3).toNatClampNeg ((ip_u F 196 (a3).toNatClampNeg (F a1 (((a2 + (1 : Int32)) + a3)).toNatClampNeg)) a1 (((a2 + (7 : Int32)) + a3)).toNatClampNeg)) a1 (((a2 + (13 : Int32)) + a3)).toNatClampNeg)) a1 (((a2 + (19 : Int32)) + a3)).toNatClampNeg)), G)) 1 (fun _ => rfl) ?_
    exact h
theorem rg189_0 {t : Nat} {F : ip_F} {G : ip_G} {Q : Option Value → ip_M → Prop} (h : (¬ (F 193 22) = (8 : Int32) → wp 189 49 [.ref 193, .float 0] [] (hs t, F, G) Q) ∧ ((F 193 22) = (8 : Int32) → wp 189 11 [.ref 193, .int (0 : Int32)] [] (hs t, F, G) Q)) : wp 189 0 [.ref 193, .float 0] [] (hs t, F, G) Q := by
  refine wp_N (j' := 189) (pc' := 6) (L' := [.ref 193, .float 0]) (S' := [.int (8 : Int32), .int (F 193 22)]) (M' := (hs t, F, G)) 2 (fun _ => rfl) ?_
  refine wp_icmp (pc1 := 49) (c := .ne) rfl (fun hc => ?_) (fun hc => ?_)
  · replace h := h.1 hc
    exact h
  · replace h := h.2 (Decidable.not_not.mp hc)
    refine wp_N (j' := 189) (pc' := 11) (L' := [.ref 193, .int (0 : Int32)]) (S' := []) (M' := (hs t, F, G)) 1 (fun _ => rfl) ?_
    exact h
theorem rg189_11 {t : Nat} {F : ip_F} {G : ip_G} {Q : Option Value → ip_M → Prop} {a1 : Int32} (h : ((175 : Int32) ≤ a1 → wp 189 49 [.ref 193, .int a1] [] (hs t, (ip_u F 193 22 ((F 193 22) - (1 : Int32))), G) Q) ∧ (a1 < (175 : Int32) → (vp_in (a1 + (25 : Int32)) 200) ∧ ((vp_in a1 200) ∧ (wp 189 11 [.ref 193, .int (a1 + (1 : Int32))] [] (hs t, (ip_u F 207 (a1).toNatClampNeg (F 207 ((a1 + (25 : Int32))).toNatClampNeg)), G) Q)))) : wp 189 11 [.ref 193, .int a1] [] (hs t, F, G) Q := by
  refine wp_N (j' := 189) (pc' := 15) (L' := [.ref 193, .int a1]) (S' := [.int (175 : Int32), .int a1]) (M' := (hs t, F, G)) 1 (fun _ => rfl) ?_
  refine wp_icmp (pc1 := 39) (c := .ge) rfl (fun hc => ?_) (fun hc => ?_)
  · replace h := h.1 hc
    refine wp_N (j' := 189) (pc' := 46) (L' := [.ref 193, .int a1]) (S' := [.int ((F 193 22) - (1 : Int32)), .ref 193]) (M' := (hs t, F, G)) 4 (fun _ => rfl) ?_
    refine wp_putI rfl rfl rfl rfl rfl rfl (by decide) ?_
    exact h
  · replace h := h.2 (Int32.not_le.mp hc)
    refine wp_N (j' := 189) (pc' := 31) (L' := [.ref 193, .int a1]) (S' := [.int (a1 + (25 : Int32)), .ref 207, .int a1, .ref 207]) (M' := (hs t, F, G)) 7 (fun _ => rfl) ?_
    obtain ⟨h1_, h⟩ := h
    refine wp_ial (m := ((a1 + (25 : Int32))).toNatClampNeg) rfl rfl rfl h1_ ?_
    obtain ⟨h2_, h⟩ := h
    refine wp_ias (m := (a1).toNatClampNeg) rfl rfl rfl h2_ ?_
    refine wp_N (j' := 189) (pc' := 11) (L' := [.ref 193, .int (a1 + (1 : Int32))]) (S' := []) (M' := (hs t, (ip_u F 207 (a1).toNatClampNeg (F 207 ((a1 + (25 : Int32))).toNatClampNeg)), G)) 1 (fun _ => rfl) ?_
    exact h
theorem rg189_49 {t : Nat} {F : ip_F} {G : ip_G} {Q : Option Value → ip_M → Prop} {v1 : Value} (h : wp 187 0 [.ref 193, .ref 207, .int ((25 : Int32) * (F 193 22)), .float 0] [] (hs t, F, G) (fun v M' => wp 189 64 [.ref 193, v1] (v.toList ++ []) M' Q)) : wp 189 49 [.ref 193, v1] [] (hs t, F, G) Q := by
  refine wp_N (j' := 189) (pc' := 61) (L' := [.ref 193, v1]) (S' := [.int ((25 : Int32) * (F 193 22)), .ref 207, .ref 193]) (M' := (hs t, F, G)) 6 (fun _ => rfl) ?_
  refine wp_C (i := 187) (pc' := 64) (Li := [.ref 193, .ref 207, .int ((25 : Int32) * (F 193 22)), .float 0]) (rest := []) (fun _ => rfl) h
theorem rg189_64 {t : Nat} {F : ip_F} {G : ip_G} {Q : Option Value → ip_M → Prop} {v1 : Value} (h : Q none (hs t, (ip_u F 193 22 ((F 193 22) + (1 : Int32))), G)) : wp 189 64 [.ref 193, v1] [] (hs t, F, G) Q := by
  refine wp_N (j' := 189) (pc' := 71) (L' := [.ref 193, v1]) (S' := [.int ((F 193 22) + (1 : Int32)), .ref 193]) (M' := (hs t, F, G)) 4 (fun _ => rfl) ?_
  refine wp_putI rfl rfl rfl rfl rfl rfl (by decide) ?_
  exact wp_RV rfl rfl h
theorem rg190_0 {t : Nat} {F : ip_F} {G : ip_G} {Q : Option Value → ip_M → Prop} (h : wp 190 12 [.ref 193, .int (0 : Int32)] [] (hs t, (ip_u F 193 2 ((F 193 2) + (1 : Int32))), G) Q) : wp 190 0 [.ref 193, .float 0] [] (hs t, F, G) Q := by
  refine wp_N (j' := 190) (pc' := 7) (L' := [.ref 193, .float 0]) (S' := [.int ((F 193 2) + (1 : Int32)), .ref 193]) (M' := (hs t, F, G)) 4 (fun _ => rfl) ?_
  refine wp_putI rfl rfl rfl rfl rfl rfl (by decide) ?_
  refine wp_N (j' := 190) (pc' := 12) (L' := [.ref 193, .int (0 : Int32)]) (S' := []) (M' := (hs t, (ip_u F 193 2 ((F 193 2) + (1 : Int32))), G)) 1 (fun _ => rfl) ?_
  exact h
theorem rg190_12 {t : Nat} {F : ip_F} {G : ip_G} {Q : Option Value → ip_M → Prop} {a1 : Int32} (h : ((F 193 1) ≤ a1 → Q none (hs t, F, G)) ∧ (a1 < (F 193 1) → (vp_in a1 6) ∧ (wp 145 0 [.int (99 : Int32), .int ((F 199 (a1).toNatClampNeg) + (1 : Int32))] [] (hs t, F, G) (fun v M' => wp 190 38 [.ref 193, .int a1] (v.toList ++ [.int a1, .ref 199]) M' Q)))) : wp 190 12 [.ref 193, .int a1] [] (hs t, F, G) Q := by
  refine wp_N (j' := 190) (pc' := 17) (L' := [.ref 193, .int a1]) (S' := [.int (F 193 1), .int a1]) (M' := (hs t, F, G)) 2 (fun _ => rfl) ?_
  refine wp_icmp (pc1 := 45) (c := .ge) rfl (fun hc => ?_) (fun hc => ?_)
  · replace h := h.1 hc
    exact wp_RV rfl rfl h
  · replace h := h.2 (Int32.not_le.mp hc)
    refine wp_N (j' := 190) (pc' := 32) (L' := [.ref 193, .int a1]) (S' := [.int a1, .ref 199, .int (99 : Int32), .int a1, .ref 199]) (M' := (hs t, F, G)) 6 (fun _ => rfl) ?_
    obtain ⟨h1_, h⟩ := h
    refine wp_ial (m := (a1).toNatClampNeg) rfl rfl rfl h1_ ?_
    refine wp_N (j' := 190) (pc' := 35) (L' := [.ref 193, .int a1]) (S' := [.int ((F 199 (a1).toNatClampNeg) + (1 : Int32)), .int (99 : Int32), .int a1, .ref 199]) (M' := (hs t, F, G)) 1 (fun _ => rfl) ?_
    refine wp_C (i := 145) (pc' := 38) (Li := [.int (99 : Int32), .int ((F 199 (a1).toNatClampNeg) + (1 : Int32))]) (rest := [.int a1, .ref 199]) (fun _ => rfl) h
theorem rg190_38 {t : Nat} {F : ip_F} {G : ip_G} {Q : Option Value → ip_M → Prop} {a1 as1 as2 : Int32} (h : (vp_in as1 6) ∧ (wp 190 12 [.ref 193, .int (a1 + (1 : Int32))] [] (hs t, (ip_u F 199 (as1).toNatClampNeg as2), G) Q)) : wp 190 38 [.ref 193, .int a1] [.int as2, .int as1, .ref 199] (hs t, F, G) Q := by
  obtain ⟨h1_, h⟩ := h
  refine wp_ias (m := (as1).toNatClampNeg) rfl rfl rfl h1_ ?_
  refine wp_N (j' := 190) (pc' := 12) (L' := [.ref 193, .int (a1 + (1 : Int32))]) (S' := []) (M' := (hs t, (ip_u F 199 (as1).toNatClampNeg as2), G)) 1 (fun _ => rfl) ?_
  exact h
theorem rg191_0 {t : Nat} {F : ip_F} {G : ip_G} {Q : Option Value → ip_M → Prop} {a1 a2 a3 : Int32} (h : wp 150 0 [.ref 193, .int a1] [] (hs t, F, G) (fun v M' => wp 191 5 [.ref 193, .int a1, .int a2, .int a3, .float 0] (v.toList ++ []) M' Q)) : wp 191 0 [.ref 193, .int a1, .int a2, .int a3, .float 0] [] (hs t, F, G) Q := by
  refine wp_N (j' := 191) (pc' := 2) (L' := [.ref 193, .int a1, .int a2, .int a3, .float 0]) (S' := [.int a1, .ref 193]) (M' := (hs t, F, G)) 1 (fun _ => rfl) ?_
  refine wp_C (i := 150) (pc' := 5) (Li := [.ref 193, .int a1]) (rest := []) (fun _ => rfl) h
theorem rg191_5 {t : Nat} {F : ip_F} {G : ip_G} {Q : Option Value → ip_M → Prop} {a1 a2 a3 as0 : Int32} {v4 : Value} (h : (as0 = (0 : Int32) → wp 191 27 [.ref 193, .int a1, .int a2, .int a3, v4] [] (hs t, F, G) Q) ∧ (¬ as0 = (0 : Int32) → wp 143 0 [.int a2, .int (0 : Int32), .int (5 : Int32)] [] (hs t, F, G) (fun v M' => wp 191 14 [.ref 193, .int a1, .int a2, .int a3, v4] (v.toList ++ []) M' Q))) : wp 191 5 [.ref 193, .int a1, .int a2, .int a3, v4] [.int as0] (hs t, F, G) Q := by
  refine wp_ifc (pc1 := 27) (c := .eq) rfl (fun hc => ?_) (fun hc => ?_)
  · replace h := h.1 hc
    exact h
  · replace h := h.2 hc
    refine wp_N (j' := 191) (pc' := 11) (L' := [.ref 193, .int a1, .int a2, .int a3, v4]) (S' := [.int (5 : Int32), .int (0 : Int32), .int a2]) (M' := (hs t, F, G)) 2 (fun _ => rfl) ?_
    refine wp_C (i := 143) (pc' := 14) (Li := [.int a2, .int (0 : Int32), .int (5 : Int32)]) (rest := []) (fun _ => rfl) h
theorem rg191_14 {t : Nat} {F : ip_F} {G : ip_G} {Q : Option Value → ip_M → Prop} {a1 a2 a3 as0 : Int32} {v4 : Value} (h : (as0 = (0 : Int32) → wp 191 27 [.ref 193, .int a1, .int a2, .int a3, v4] [] (hs t, F, G) Q) ∧ (¬ as0 = (0 : Int32) → wp 143 0 [.int a3, .int (1 : Int32), .int (11 : Int32)] [] (hs t, F, G) (fun v M' => wp 191 24 [.ref 193, .int a1, .int a2, .int a3, v4] (v.toList ++ []) M' Q))) : wp 191 14 [.ref 193, .int a1, .int a2, .int a3, v4] [.int as0] (hs t, F, G) Q := by
  refine wp_ifc (pc1 := 27) (c := .eq) rfl (fun hc => ?_) (fun hc => ?_)
  · replace h := h.1 hc
    exact h
  · replace h := h.2 hc
    refine wp_N (j' := 191) (pc' := 21) (L' := [.ref 193, .int a1, .int a2, .int a3, v4]) (S' := [.int (11 : Int32), .int (1 : Int32), .int a3]) (M' := (hs t, F, G)) 2 (fun _ => rfl) ?_
    refine wp_C (i := 143) (pc' := 24) (Li := [.int a3, .int (1 : Int32), .int (11 : Int32)]) (rest := []) (fun _ => rfl) h
theorem rg191_24 {t : Nat} {F : ip_F} {G : ip_G} {Q : Option Value → ip_M → Prop} {a1 a2 a3 as0 : Int32} {v4 : Value} (h : (¬ as0 = (0 : Int32) → wp 189 0 [.ref 193, .float 0] [] (hs t, F, G) (fun v M' => wp 191 36 [.ref 193, .int a1, .int a2, .int a3, v4] (v.toList ++ []) M' Q)) ∧ (as0 = (0 : Int32) → wp 191 27 [.ref 193, .int a1, .int a2, .int a3, v4] [] (hs t, F, G) Q)) : wp 191 24 [.ref 193, .int a1, .int a2, .int a3, v4] [.int as0] (hs t, F, G) Q := by
  refine wp_ifc (pc1 := 32) (c := .ne) rfl (fun hc => ?_) (fun hc => ?_)
  · replace h := h.1 hc
    refine wp_N (j' := 191) (pc' := 33) (L' := [.ref 193, .int a1, .int a2, .int a3, v4]) (S' := [.ref 193]) (M' := (hs t, F, G)) 0 (fun _ => rfl) ?_
    refine wp_C (i := 189) (pc' := 36) (Li := [.ref 193, .float 0]) (rest := []) (fun _ => rfl) h
  · replace h := h.2 (Decidable.not_not.mp hc)
    exact h
theorem rg191_27 {t : Nat} {F : ip_F} {G : ip_G} {Q : Option Value → ip_M → Prop} {a1 a2 a3 : Int32} {v4 : Value} (h : wp 140 0 [.ref 193] [] (hs t, F, G) (fun v M' => wp 191 31 [.ref 193, .int a1, .int a2, .int a3, v4] (v.toList ++ []) M' Q)) : wp 191 27 [.ref 193, .int a1, .int a2, .int a3, v4] [] (hs t, F, G) Q := by
  refine wp_N (j' := 191) (pc' := 28) (L' := [.ref 193, .int a1, .int a2, .int a3, v4]) (S' := [.ref 193]) (M' := (hs t, F, G)) 0 (fun _ => rfl) ?_
  refine wp_C (i := 140) (pc' := 31) (Li := [.ref 193]) (rest := []) (fun _ => rfl) h
theorem rg191_31 {t : Nat} {F : ip_F} {G : ip_G} {Q : Option Value → ip_M → Prop} {a1 a2 a3 as0 : Int32} {v4 : Value} (h : Q (some (.int as0)) (hs t, F, G)) : wp 191 31 [.ref 193, .int a1, .int a2, .int a3, v4] [.int as0] (hs t, F, G) Q := by
  exact wp_RI rfl rfl h
theorem rg191_36 {t : Nat} {F : ip_F} {G : ip_G} {Q : Option Value → ip_M → Prop} {a1 a2 a3 : Int32} {v4 : Value} (h : (vp_in a1 6) ∧ (((F 196 (a1).toNatClampNeg) = (-1 : Int32) → wp 191 51 [.ref 193, .int a1, .int a2, .int a3, v4] [.int (0 : Int32)] (hs t, F, G) Q) ∧ (¬ (F 196 (a1).toNatClampNeg) = (-1 : Int32) → wp 191 51 [.ref 193, .int a1, .int a2, .int a3, v4] [.int (1 : Int32)] (hs t, F, G) Q))) : wp 191 36 [.ref 193, .int a1, .int a2, .int a3, v4] [] (hs t, F, G) Q := by
  refine wp_N (j' := 191) (pc' := 41) (L' := [.ref 193, .int a1, .int a2, .int a3, v4]) (S' := [.int a1, .ref 196]) (M' := (hs t, F, G)) 2 (fun _ => rfl) ?_
  obtain ⟨h1_, h⟩ := h
  refine wp_ial (m := (a1).toNatClampNeg) rfl rfl rfl h1_ ?_
  refine wp_N (j' := 191) (pc' := 43) (L' := [.ref 193, .int a1, .int a2, .int a3, v4]) (S' := [.int (-1 : Int32), .int (F 196 (a1).toNatClampNeg)]) (M' := (hs t, F, G)) 0 (fun _ => rfl) ?_
  refine wp_icmp (pc1 := 50) (c := .eq) rfl (fun hc => ?_) (fun hc => ?_)
  · replace h := h.1 hc
    refine wp_N (j' := 191) (pc' := 51) (L' := [.ref 193, .int a1, .int a2, .int a3, v4]) (S' := [.int (0 : Int32)]) (M' := (hs t, F, G)) 0 (fun _ => rfl) ?_
    exact h
  · replace h := h.2 hc
    refine wp_N (j' := 191) (pc' := 51) (L' := [.ref 193, .int a1, .int a2, .int a3, v4]) (S' := [.int (1 : Int32)]) (M' := (hs t, F, G)) 1 (fun _ => rfl) ?_
    exact h
theorem rg191_51 {t : Nat} {F : ip_F} {G : ip_G} {Q : Option Value → ip_M → Prop} {a1 a2 a3 as0 : Int32} {v4 : Value} (h : (vp_in a1 6) ∧ ((vp_in a1 6) ∧ (Q (some (.int as0)) (hs t, (ip_u (ip_u F 196 (a1).toNatClampNeg a2) 197 (a1).toNatClampNeg a3), G)))) : wp 191 51 [.ref 193, .int a1, .int a2, .int a3, v4] [.int as0] (hs t, F, G) Q := by
  refine wp_N (j' := 191) (pc' := 59) (L' := [.ref 193, .int a1, .int a2, .int a3, .int as0]) (S' := [.int a2, .int a1, .ref 196]) (M' := (hs t, F, G)) 4 (fun _ => rfl) ?_
  obtain ⟨h1_, h⟩ := h
  refine wp_ias (m := (a1).toNatClampNeg) rfl rfl rfl h1_ ?_
  refine wp_N (j' := 191) (pc' := 66) (L' := [.ref 193, .int a1, .int a2, .int a3, .int as0]) (S' := [.int a3, .int a1, .ref 197]) (M' := (hs t, (ip_u F 196 (a1).toNatClampNeg a2), G)) 3 (fun _ => rfl) ?_
  obtain ⟨h2_, h⟩ := h
  refine wp_ias (m := (a1).toNatClampNeg) rfl rfl rfl h2_ ?_
  refine wp_N (j' := 191) (pc' := 69) (L' := [.ref 193, .int a1, .int a2, .int a3, .int as0]) (S' := [.int as0]) (M' := (hs t, (ip_u (ip_u F 196 (a1).toNatClampNeg a2) 197 (a1).toNatClampNeg a3), G)) 0 (fun _ => rfl) ?_
  exact wp_RI rfl rfl h
theorem rg192_0 {t : Nat} {F : ip_F} {G : ip_G} {Q : Option Value → ip_M → Prop} {a1 : Int32} (h : wp 150 0 [.ref 193, .int a1] [] (hs t, F, G) (fun v M' => wp 192 5 [.ref 193, .int a1, .float 0] (v.toList ++ []) M' Q)) : wp 192 0 [.ref 193, .int a1, .float 0] [] (hs t, F, G) Q := by
  refine wp_N (j' := 192) (pc' := 2) (L' := [.ref 193, .int a1, .float 0]) (S' := [.int a1, .ref 193]) (M' := (hs t, F, G)) 1 (fun _ => rfl) ?_
  refine wp_C (i := 150) (pc' := 5) (Li := [.ref 193, .int a1]) (rest := []) (fun _ => rfl) h
theorem rg192_5 {t : Nat} {F : ip_F} {G : ip_G} {Q : Option Value → ip_M → Prop} {a1 as0 : Int32} {v2 : Value} (h : (¬ as0 = (0 : Int32) → (vp_in a1 6) ∧ ((¬ (F 196 (a1).toNatClampNeg) = (-1 : Int32) → wp 189 0 [.ref 193, .float 0] [] (hs t, F, G) (fun v M' => wp 192 32 [.ref 193, .int a1, v2] (v.toList ++ []) M' Q)) ∧ ((F 196 (a1).toNatClampNeg) = (-1 : Int32) → wp 141 0 [.ref 193] [] (hs t, F, G) (fun v M' => wp 192 27 [.ref 193, .int a1, v2] (v.toList ++ []) M' Q)))) ∧ (as0 = (0 : Int32) → wp 140 0 [.ref 193] [] (hs t, F, G) (fun v M' => wp 192 12 [.ref 193, .int a1, v2] (v.toList ++ []) M' Q))) : wp 192 5 [.ref 193, .int a1, v2] [.int as0] (hs t, F, G) Q := by
  refine wp_ifc (pc1 := 13) (c := .ne) rfl (fun hc => ?_) (fun hc => ?_)
  · replace h := h.1 hc
    refine wp_N (j' := 192) (pc' := 18) (L' := [.ref 193, .int a1, v2]) (S' := [.int a1, .ref 196]) (M' := (hs t, F, G)) 2 (fun _ => rfl) ?_
    obtain ⟨h1_, h⟩ := h
    refine wp_ial (m := (a1).toNatClampNeg) rfl rfl rfl h1_ ?_
    refine wp_N (j' := 192) (pc' := 20) (L' := [.ref 193, .int a1, v2]) (S' := [.int (-1 : Int32), .int (F 196 (a1).toNatClampNeg)]) (M' := (hs t, F, G)) 0 (fun _ => rfl) ?_
    refine wp_icmp (pc1 := 28) (c := .ne) rfl (fun hc => ?_) (fun hc => ?_)
    · replace h := h.1 hc
      refine wp_N (j' := 192) (pc' := 29) (L' := [.ref 193, .int a1, v2]) (S' := [.ref 193]) (M' := (hs t, F, G)) 0 (fun _ => rfl) ?_
      refine wp_C (i := 189) (pc' := 32) (Li := [.ref 193, .float 0]) (rest := []) (fun _ => rfl) h
    · replace h := h.2 (Decidable.not_not.mp hc)
      refine wp_N (j' := 192) (pc' := 24) (L' := [.ref 193, .int a1, v2]) (S' := [.ref 193]) (M' := (hs t, F, G)) 0 (fun _ => rfl) ?_
      refine wp_C (i := 141) (pc' := 27) (Li := [.ref 193]) (rest := []) (fun _ => rfl) h
  · replace h := h.2 (Decidable.not_not.mp hc)
    refine wp_N (j' := 192) (pc' := 9) (L' := [.ref 193, .int a1, v2]) (S' := [.ref 193]) (M' := (hs t, F, G)) 0 (fun _ => rfl) ?_
    refine wp_C (i := 140) (pc' := 12) (Li := [.ref 193]) (rest := []) (fun _ => rfl) h
theorem rg192_12 {t : Nat} {F : ip_F} {G : ip_G} {Q : Option Value → ip_M → Prop} {a1 as0 : Int32} {v2 : Value} (h : Q (some (.int as0)) (hs t, F, G)) : wp 192 12 [.ref 193, .int a1, v2] [.int as0] (hs t, F, G) Q := by
  exact wp_RI rfl rfl h
theorem rg192_27 {t : Nat} {F : ip_F} {G : ip_G} {Q : Option Value → ip_M → Prop} {a1 as0 : Int32} {v2 : Value} (h : Q (some (.int as0)) (hs t, F, G)) : wp 192 27 [.ref 193, .int a1, v2] [.int as0] (hs t, F, G) Q := by
  exact wp_RI rfl rfl h
theorem rg192_32 {t : Nat} {F : ip_F} {G : ip_G} {Q : Option Value → ip_M → Prop} {a1 : Int32} {v2 : Value} (h : (vp_in a1 6) ∧ ((vp_in a1 6) ∧ ((vp_in a1 6) ∧ (Q (some (.int (F 196 (a1).toNatClampNeg))) (hs t, (ip_u (ip_u F 196 (a1).toNatClampNeg (-1 : Int32)) 197 (a1).toNatClampNeg (-1 : Int32)), G))))) : wp 192 32 [.ref 193, .int a1, v2] [] (hs t, F, G) Q := by
  refine wp_N (j' := 192) (pc' := 37) (L' := [.ref 193, .int a1, v2]) (S' := [.int a1, .ref 196]) (M' := (hs t, F, G)) 2 (fun _ => rfl) ?_
  obtain ⟨h1_, h⟩ := h
  refine wp_ial (m := (a1).toNatClampNeg) rfl rfl rfl h1_ ?_
  refine wp_N (j' := 192) (pc' := 45) (L' := [.ref 193, .int a1, .int (F 196 (a1).toNatClampNeg)]) (S' := [.int (-1 : Int32), .int a1, .ref 196]) (M' := (hs t, F, G)) 4 (fun _ => rfl) ?_
  obtain ⟨h2_, h⟩ := h
  refine wp_ias (m := (a1).toNatClampNeg) rfl rfl rfl h2_ ?_
  refine wp_N (j' := 192) (pc' := 52) (L' := [.ref 193, .int a1, .int (F 196 (a1).toNatClampNeg)]) (S' := [.int (-1 : Int32), .int a1, .ref 197]) (M' := (hs t, (ip_u F 196 (a1).toNatClampNeg (-1 : Int32)), G)) 3 (fun _ => rfl) ?_
  obtain ⟨h3_, h⟩ := h
  refine wp_ias (m := (a1).toNatClampNeg) rfl rfl rfl h3_ ?_
  refine wp_N (j' := 192) (pc' := 54) (L' := [.ref 193, .int a1, .int (F 196 (a1).toNatClampNeg)]) (S' := [.int (F 196 (a1).toNatClampNeg)]) (M' := (hs t, (ip_u (ip_u F 196 (a1).toNatClampNeg (-1 : Int32)) 197 (a1).toNatClampNeg (-1 : Int32)), G)) 0 (fun _ => rfl) ?_
  exact wp_RI rfl rfl h
theorem rg193_0 {t : Nat} {F : ip_F} {G : ip_G} {Q : Option Value → ip_M → Prop} {a1 a2 : Int32} (h : wp 150 0 [.ref 193, .int a1] [] (hs t, F, G) (fun v M' => wp 193 5 [.ref 193, .int a1, .int a2, .float 0] (v.toList ++ []) M' Q)) : wp 193 0 [.ref 193, .int a1, .int a2, .float 0] [] (hs t, F, G) Q := by
  refine wp_N (j' := 193) (pc' := 2) (L' := [.ref 193, .int a1, .int a2, .float 0]) (S' := [.int a1, .ref 193]) (M' := (hs t, F, G)) 1 (fun _ => rfl) ?_
  refine wp_C (i := 150) (pc' := 5) (Li := [.ref 193, .int a1]) (rest := []) (fun _ => rfl) h
theorem rg193_5 {t : Nat} {F : ip_F} {G : ip_G} {Q : Option Value → ip_M → Prop} {a1 a2 as0 : Int32} {v3 : Value} (h : (as0 = (0 : Int32) → wp 193 17 [.ref 193, .int a1, .int a2, v3] [] (hs t, F, G) Q) ∧ (¬ as0 = (0 : Int32) → wp 143 0 [.int a2, .int (0 : Int32), .int (5 : Int32)] [] (hs t, F, G) (fun v M' => wp 193 14 [.ref 193, .int a1, .int a2, v3] (v.toList ++ []) M' Q))) : wp 193 5 [.ref 193, .int a1, .int a2, v3] [.int as0] (hs t, F, G) Q := by
  refine wp_ifc (pc1 := 17) (c := .eq) rfl (fun hc => ?_) (fun hc => ?_)
  · replace h := h.1 hc
    exact h
  · replace h := h.2 hc
    refine wp_N (j' := 193) (pc' := 11) (L' := [.ref 193, .int a1, .int a2, v3]) (S' := [.int (5 : Int32), .int (0 : Int32), .int a2]) (M' := (hs t, F, G)) 2 (fun _ => rfl) ?_
    refine wp_C (i := 143) (pc' := 14) (Li := [.int a2, .int (0 : Int32), .int (5 : Int32)]) (rest := []) (fun _ => rfl) h
theorem rg193_14 {t : Nat} {F : ip_F} {G : ip_G} {Q : Option Value → ip_M → Prop} {a1 a2 as0 : Int32} {v3 : Value} (h : (¬ as0 = (0 : Int32) → wp 189 0 [.ref 193, .float 0] [] (hs t, F, G) (fun v M' => wp 193 26 [.ref 193, .int a1, .int a2, v3] (v.toList ++ []) M' Q)) ∧ (as0 = (0 : Int32) → wp 193 17 [.ref 193, .int a1, .int a2, v3] [] (hs t, F, G) Q)) : wp 193 14 [.ref 193, .int a1, .int a2, v3] [.int as0] (hs t, F, G) Q := by
  refine wp_ifc (pc1 := 22) (c := .ne) rfl (fun hc => ?_) (fun hc => ?_)
  · replace h := h.1 hc
    refine wp_N (j' := 193) (pc' := 23) (L' := [.ref 193, .int a1, .int a2, v3]) (S' := [.ref 193]) (M' := (hs t, F, G)) 0 (fun _ => rfl) ?_
    refine wp_C (i := 189) (pc' := 26) (Li := [.ref 193, .float 0]) (rest := []) (fun _ => rfl) h
  · replace h := h.2 (Decidable.not_not.mp hc)
    exact h
theorem rg193_17 {t : Nat} {F : ip_F} {G : ip_G} {Q : Option Value → ip_M → Prop} {a1 a2 : Int32} {v3 : Value} (h : wp 140 0 [.ref 193] [] (hs t, F, G) (fun v M' => wp 193 21 [.ref 193, .int a1, .int a2, v3] (v.toList ++ []) M' Q)) : wp 193 17 [.ref 193, .int a1, .int a2, v3] [] (hs t, F, G) Q := by
  refine wp_N (j' := 193) (pc' := 18) (L' := [.ref 193, .int a1, .int a2, v3]) (S' := [.ref 193]) (M' := (hs t, F, G)) 0 (fun _ => rfl) ?_
  refine wp_C (i := 140) (pc' := 21) (Li := [.ref 193]) (rest := []) (fun _ => rfl) h
theorem rg193_21 {t : Nat} {F : ip_F} {G : ip_G} {Q : Option Value → ip_M → Prop} {a1 a2 as0 : Int32} {v3 : Value} (h : Q (some (.int as0)) (hs t, F, G)) : wp 193 21 [.ref 193, .int a1, .int a2, v3] [.int as0] (hs t, F, G) Q := by
  exact wp_RI rfl rfl h
theorem rg193_26 {t : Nat} {F : ip_F} {G : ip_G} {Q : Option Value → ip_M → Prop} {a1 a2 : Int32} {v3 : Value} (h : (vp_in a1 6) ∧ ((vp_in a1 6) ∧ ((vp_in a1 6) ∧ (Q (some (.int (F 199 (a1).toNatClampNeg))) (hs t, (ip_u (ip_u F 198 (a1).toNatClampNeg a2) 199 (a1).toNatClampNeg (0 : Int32)), G))))) : wp 193 26 [.ref 193, .int a1, .int a2, v3] [] (hs t, F, G) Q := by
  refine wp_N (j' := 193) (pc' := 31) (L' := [.ref 193, .int a1, .int a2, v3]) (S' := [.int a1, .ref 199]) (M' := (hs t, F, G)) 2 (fun _ => rfl) ?_
  obtain ⟨h1_, h⟩ := h
  refine wp_ial (m := (a1).toNatClampNeg) rfl rfl rfl h1_ ?_
  refine wp_N (j' := 193) (pc' := 39) (L' := [.ref 193, .int a1, .int a2, .int (F 199 (a1).toNatClampNeg)]) (S' := [.int a2, .int a1, .ref 198]) (M' := (hs t, F, G)) 4 (fun _ => rfl) ?_
  obtain ⟨h2_, h⟩ := h
  refine wp_ias (m := (a1).toNatClampNeg) rfl rfl rfl h2_ ?_
  refine wp_N (j' := 193) (pc' := 46) (L' := [.ref 193, .int a1, .int a2, .int (F 199 (a1).toNatClampNeg)]) (S' := [.int (0 : Int32), .int a1, .ref 199]) (M' := (hs t, (ip_u F 198 (a1).toNatClampNeg a2), G)) 3 (fun _ => rfl) ?_
  obtain ⟨h3_, h⟩ := h
  refine wp_ias (m := (a1).toNatClampNeg) rfl rfl rfl h3_ ?_
  refine wp_N (j' := 193) (pc' := 48) (L' := [.ref 193, .int a1, .int a2, .int (F 199 (a1).toNatClampNeg)]) (S' := [.int (F 199 (a1).toNatClampNeg)]) (M' := (hs t, (ip_u (ip_u F 198 (a1).toNatClampNeg a2) 199 (a1).toNatClampNeg (0 : Int32)), G)) 0 (fun _ => rfl) ?_
  exact wp_RI rfl rfl h
theorem rg194_0 {t : Nat} {F : ip_F} {G : ip_G} {Q : Option Value → ip_M → Prop} {a1 : Int32} (h : wp 143 0 [.int a1, .int (1 : Int32), .int (60 : Int32)] [] (hs t, F, G) (fun v M' => wp 194 7 [.ref 193, .int a1, .float 0] (v.toList ++ []) M' Q)) : wp 194 0 [.ref 193, .int a1, .float 0] [] (hs t, F, G) Q := by
  refine wp_N (j' := 194) (pc' := 4) (L' := [.ref 193, .int a1, .float 0]) (S' := [.int (60 : Int32), .int (1 : Int32), .int a1]) (M' := (hs t, F, G)) 2 (fun _ => rfl) ?_
  refine wp_C (i := 143) (pc' := 7) (Li := [.int a1, .int (1 : Int32), .int (60 : Int32)]) (rest := []) (fun _ => rfl) h
theorem rg194_7 {t : Nat} {F : ip_F} {G : ip_G} {Q : Option Value → ip_M → Prop} {a1 as0 : Int32} {v2 : Value} (h : (¬ as0 = (0 : Int32) → wp 189 0 [.ref 193, .float 0] [] (hs t, F, G) (fun v M' => wp 194 19 [.ref 193, .int a1, v2] (v.toList ++ []) M' Q)) ∧ (as0 = (0 : Int32) → wp 140 0 [.ref 193] [] (hs t, F, G) (fun v M' => wp 194 14 [.ref 193, .int a1, v2] (v.toList ++ []) M' Q))) : wp 194 7 [.ref 193, .int a1, v2] [.int as0] (hs t, F, G) Q := by
  refine wp_ifc (pc1 := 15) (c := .ne) rfl (fun hc => ?_) (fun hc => ?_)
  · replace h := h.1 hc
    refine wp_N (j' := 194) (pc' := 16) (L' := [.ref 193, .int a1, v2]) (S' := [.ref 193]) (M' := (hs t, F, G)) 0 (fun _ => rfl) ?_
    refine wp_C (i := 189) (pc' := 19) (Li := [.ref 193, .float 0]) (rest := []) (fun _ => rfl) h
  · replace h := h.2 (Decidable.not_not.mp hc)
    refine wp_N (j' := 194) (pc' := 11) (L' := [.ref 193, .int a1, v2]) (S' := [.ref 193]) (M' := (hs t, F, G)) 0 (fun _ => rfl) ?_
    refine wp_C (i := 140) (pc' := 14) (Li := [.ref 193]) (rest := []) (fun _ => rfl) h
theorem rg194_14 {t : Nat} {F : ip_F} {G : ip_G} {Q : Option Value → ip_M → Prop} {a1 as0 : Int32} {v2 : Value} (h : Q (some (.int as0)) (hs t, F, G)) : wp 194 14 [.ref 193, .int a1, v2] [.int as0] (hs t, F, G) Q := by
  exact wp_RI rfl rfl h
theorem rg194_19 {t : Nat} {F : ip_F} {G : ip_G} {Q : Option Value → ip_M → Prop} {a1 : Int32} {v2 : Value} (h : wp 194 21 [.ref 193, .int a1, .int (0 : Int32)] [] (hs t, F, G) Q) : wp 194 19 [.ref 193, .int a1, v2] [] (hs t, F, G) Q := by
  refine wp_N (j' := 194) (pc' := 21) (L' := [.ref 193, .int a1, .int (0 : Int32)]) (S' := []) (M' := (hs t, F, G)) 1 (fun _ => rfl) ?_
  exact h
theorem rg194_21 {t : Nat} {F : ip_F} {G : ip_G} {Q : Option Value → ip_M → Prop} {a1 a2 : Int32} (h : (a1 ≤ a2 → wp 194 46 [.ref 193, .int a1, .int a2] [] (hs t, F, G) Q) ∧ (a2 < a1 → ((999 : Int32) ≤ (F 193 2) → wp 194 46 [.ref 193, .int a1, .int a2] [] (hs t, F, G) Q) ∧ ((F 193 2) < (999 : Int32) → wp 190 0 [.ref 193, .float 0] [] (hs t, F, G) (fun v M' => wp 194 40 [.ref 193, .int a1, .int a2] (v.toList ++ []) M' Q)))) : wp 194 21 [.ref 193, .int a1, .int a2] [] (hs t, F, G) Q := by
  refine wp_N (j' := 194) (pc' := 23) (L' := [.ref 193, .int a1, .int a2]) (S' := [.int a1, .int a2]) (M' := (hs t, F, G)) 1 (fun _ => rfl) ?_
  refine wp_icmp (pc1 := 46) (c := .ge) rfl (fun hc => ?_) (fun hc => ?_)
  · replace h := h.1 hc
    exact h
  · replace h := h.2 (Int32.not_le.mp hc)
    refine wp_N (j' := 194) (pc' := 33) (L' := [.ref 193, .int a1, .int a2]) (S' := [.int (999 : Int32), .int (F 193 2)]) (M' := (hs t, F, G)) 2 (fun _ => rfl) ?_
    refine wp_icmp (pc1 := 46) (c := .ge) rfl (fun hc => ?_) (fun hc => ?_)
    · replace h := h.1 hc
      exact h
    · replace h := h.2 (Int32.not_le.mp hc)
      refine wp_N (j' := 194) (pc' := 37) (L' := [.ref 193, .int a1, .int a2]) (S' := [.ref 193]) (M' := (hs t, F, G)) 0 (fun _ => rfl) ?_
      refine wp_C (i := 190) (pc' := 40) (Li := [.ref 193, .float 0]) (rest := []) (fun _ => rfl) h
theorem rg194_40 {t : Nat} {F : ip_F} {G : ip_G} {Q : Option Value → ip_M → Prop} {a1 a2 : Int32} (h : wp 194 21 [.ref 193, .int a1, .int (a2 + (1 : Int32))] [] (hs t, F, G) Q) : wp 194 40 [.ref 193, .int a1, .int a2] [] (hs t, F, G) Q := by
  refine wp_N (j' := 194) (pc' := 21) (L' := [.ref 193, .int a1, .int (a2 + (1 : Int32))]) (S' := []) (M' := (hs t, F, G)) 1 (fun _ => rfl) ?_
  exact h
theorem rg194_46 {t : Nat} {F : ip_F} {G : ip_G} {Q : Option Value → ip_M → Prop} {a1 a2 : Int32} (h : wp 175 0 [.ref 193, .float 0, .float 0] [] (hs t, F, G) (fun v M' => wp 194 51 [.ref 193, .int a1, .int a2] (v.toList ++ [.ref 193]) M' Q)) : wp 194 46 [.ref 193, .int a1, .int a2] [] (hs t, F, G) Q := by
  refine wp_N (j' := 194) (pc' := 48) (L' := [.ref 193, .int a1, .int a2]) (S' := [.ref 193, .ref 193]) (M' := (hs t, F, G)) 1 (fun _ => rfl) ?_
  refine wp_C (i := 175) (pc' := 51) (Li := [.ref 193, .float 0, .float 0]) (rest := [.ref 193]) (fun _ => rfl) h
theorem rg194_51 {t : Nat} {F : ip_F} {G : ip_G} {Q : Option Value → ip_M → Prop} {a1 a2 as1 : Int32} (h : wp 185 0 [.ref 193, .int as1, .float 0, .float 0] [] (hs t, F, G) (fun v M' => wp 194 54 [.ref 193, .int a1, .int a2] (v.toList ++ []) M' Q)) : wp 194 51 [.ref 193, .int a1, .int a2] [.int as1, .ref 193] (hs t, F, G) Q := by
  refine wp_C (i := 185) (pc' := 54) (Li := [.ref 193, .int as1, .float 0, .float 0]) (rest := []) (fun _ => rfl) h
theorem rg194_54 {t : Nat} {F : ip_F} {G : ip_G} {Q : Option Value → ip_M → Prop} {a1 a2 as0 : Int32} (h : (as0 = (0 : Int32) → Q (some (.int (0 : Int32))) (hs t, F, G)) ∧ (¬ as0 = (0 : Int32) → Q (some (.int (1 : Int32))) (hs t, F, G))) : wp 194 54 [.ref 193, .int a1, .int a2] [.int as0] (hs t, F, G) Q := by
  refine wp_ifc (pc1 := 61) (c := .eq) rfl (fun hc => ?_) (fun hc => ?_)
  · replace h := h.1 hc
    refine wp_N (j' := 194) (pc' := 62) (L' := [.ref 193, .int a1, .int a2]) (S' := [.int (0 : Int32)]) (M' := (hs t, F, G)) 0 (fun _ => rfl) ?_
    exact wp_RI rfl rfl h
  · replace h := h.2 hc
    refine wp_N (j' := 194) (pc' := 62) (L' := [.ref 193, .int a1, .int a2]) (S' := [.int (1 : Int32)]) (M' := (hs t, F, G)) 1 (fun _ => rfl) ?_
    exact wp_RI rfl rfl h
theorem rg195_0 {t : Nat} {F : ip_F} {G : ip_G} {Q : Option Value → ip_M → Prop} (h : (¬ (F 193 22) = (0 : Int32) → wp 188 0 [.ref 193, .ref 207, .int ((25 : Int32) * ((ip_u F 193 22 ((F 193 22) - (1 : Int32))) 193 22)), .float 0] [] (hs t, (ip_u F 193 22 ((F 193 22) - (1 : Int32))), G) (fun v M' => wp 195 37 [.ref 193] (v.toList ++ []) M' Q)) ∧ ((F 193 22) = (0 : Int32) → wp 141 0 [.ref 193] [] (hs t, F, G) (fun v M' => wp 195 11 [.ref 193] (v.toList ++ []) M' Q))) : wp 195 0 [.ref 193] [] (hs t, F, G) Q := by
  refine wp_N (j' := 195) (pc' := 4) (L' := [.ref 193]) (S' := [.int (F 193 22)]) (M' := (hs t, F, G)) 1 (fun _ => rfl) ?_
  refine wp_ifc (pc1 := 12) (c := .ne) rfl (fun hc => ?_) (fun hc => ?_)
  · replace h := h.1 hc
    refine wp_N (j' := 195) (pc' := 19) (L' := [.ref 193]) (S' := [.int ((F 193 22) - (1 : Int32)), .ref 193]) (M' := (hs t, F, G)) 4 (fun _ => rfl) ?_
    refine wp_putI rfl rfl rfl rfl rfl rfl (by decide) ?_
    refine wp_N (j' := 195) (pc' := 34) (L' := [.ref 193]) (S' := [.int ((25 : Int32) * ((ip_u F 193 22 ((F 193 22) - (1 : Int32))) 193 22)), .ref 207, .ref 193]) (M' := (hs t, (ip_u F 193 22 ((F 193 22) - (1 : Int32))), G)) 6 (fun _ => rfl) ?_
    refine wp_C (i := 188) (pc' := 37) (Li := [.ref 193, .ref 207, .int ((25 : Int32) * ((ip_u F 193 22 ((F 193 22) - (1 : Int32))) 193 22)), .float 0]) (rest := []) (fun _ => rfl) h
  · replace h := h.2 (Decidable.not_not.mp hc)
    refine wp_N (j' := 195) (pc' := 8) (L' := [.ref 193]) (S' := [.ref 193]) (M' := (hs t, F, G)) 0 (fun _ => rfl) ?_
    refine wp_C (i := 141) (pc' := 11) (Li := [.ref 193]) (rest := []) (fun _ => rfl) h
theorem rg195_11 {t : Nat} {F : ip_F} {G : ip_G} {Q : Option Value → ip_M → Prop} {as0 : Int32} (h : Q (some (.int as0)) (hs t, F, G)) : wp 195 11 [.ref 193] [.int as0] (hs t, F, G) Q := by
  exact wp_RI rfl rfl h
theorem rg195_37 {t : Nat} {F : ip_F} {G : ip_G} {Q : Option Value → ip_M → Prop} (h : Q (some (.int (F 193 2))) (hs t, F, G)) : wp 195 37 [.ref 193] [] (hs t, F, G) Q := by
  refine wp_N (j' := 195) (pc' := 41) (L' := [.ref 193]) (S' := [.int (F 193 2)]) (M' := (hs t, F, G)) 1 (fun _ => rfl) ?_
  exact wp_RI rfl rfl h
theorem rg196_0 {t : Nat} {F : ip_F} {G : ip_G} {Q : Option Value → ip_M → Prop} {a1 a2 : Int32} (h : (¬ a2 = (0 : Int32) → (¬ a2 = (1 : Int32) → (¬ a2 = (2 : Int32) → (¬ a2 = (3 : Int32) → wp 175 0 [.ref 193, .float 0, .float 0] [] (hs t, F, G) (fun v M' => wp 196 59 [.ref 193, .int a1, .int a2] (v.toList ++ []) M' Q)) ∧ (a2 = (3 : Int32) → (vp_in a1 6) ∧ (Q (some (.int (F 199 (a1).toNatClampNeg))) (hs t, F, G)))) ∧ (a2 = (2 : Int32) → (vp_in a1 6) ∧ (Q (some (.int (F 198 (a1).toNatClampNeg))) (hs t, F, G)))) ∧ (a2 = (1 : Int32) → (vp_in a1 6) ∧ (Q (some (.int (F 197 (a1).toNatClampNeg))) (hs t, F, G)))) ∧ (a2 = (0 : Int32) → (vp_in a1 6) ∧ (Q (some (.int (F 196 (a1).toNatClampNeg))) (hs t, F, G)))) : wp 196 0 [.ref 193, .int a1, .int a2] [] (hs t, F, G) Q := by
  refine wp_N (j' := 196) (pc' := 1) (L' := [.ref 193, .int a1, .int a2]) (S' := [.int a2]) (M' := (hs t, F, G)) 0 (fun _ => rfl) ?_
  refine wp_ifc (pc1 := 13) (c := .ne) rfl (fun hc => ?_) (fun hc => ?_)
  · replace h := h.1 hc
    refine wp_N (j' := 196) (pc' := 15) (L' := [.ref 193, .int a1, .int a2]) (S' := [.int (1 : Int32), .int a2]) (M' := (hs t, F, G)) 1 (fun _ => rfl) ?_
    refine wp_icmp (pc1 := 27) (c := .ne) rfl (fun hc => ?_) (fun hc => ?_)
    · replace h := h.1 hc
      refine wp_N (j' := 196) (pc' := 29) (L' := [.ref 193, .int a1, .int a2]) (S' := [.int (2 : Int32), .int a2]) (M' := (hs t, F, G)) 1 (fun _ => rfl) ?_
      refine wp_icmp (pc1 := 41) (c := .ne) rfl (fun hc => ?_) (fun hc => ?_)
      · replace h := h.1 hc
        refine wp_N (j' := 196) (pc' := 43) (L' := [.ref 193, .int a1, .int a2]) (S' := [.int (3 : Int32), .int a2]) (M' := (hs t, F, G)) 1 (fun _ => rfl) ?_
        refine wp_icmp (pc1 := 55) (c := .ne) rfl (fun hc => ?_) (fun hc => ?_)
        · replace h := h.1 hc
          refine wp_N (j' := 196) (pc' := 56) (L' := [.ref 193, .int a1, .int a2]) (S' := [.ref 193]) (M' := (hs t, F, G)) 0 (fun _ => rfl) ?_
          refine wp_C (i := 175) (pc' := 59) (Li := [.ref 193, .float 0, .float 0]) (rest := []) (fun _ => rfl) h
        · replace h := h.2 (Decidable.not_not.mp hc)
          refine wp_N (j' := 196) (pc' := 51) (L' := [.ref 193, .int a1, .int a2]) (S' := [.int a1, .ref 199]) (M' := (hs t, F, G)) 2 (fun _ => rfl) ?_
          obtain ⟨h1_, h⟩ := h
          refine wp_ial (m := (a1).toNatClampNeg) rfl rfl rfl h1_ ?_
          refine wp_N (j' := 196) (pc' := 63) (L' := [.ref 193, .int a1, .int a2]) (S' := [.int (F 199 (a1).toNatClampNeg)]) (M' := (hs t, F, G)) 0 (fun _ => rfl) ?_
          exact wp_RI rfl rfl h
      · replace h := h.2 (Decidable.not_not.mp hc)
        refine wp_N (j' := 196) (pc' := 37) (L' := [.ref 193, .int a1, .int a2]) (S' := [.int a1, .ref 198]) (M' := (hs t, F, G)) 2 (fun _ => rfl) ?_
        obtain ⟨h2_, h⟩ := h
        refine wp_ial (m := (a1).toNatClampNeg) rfl rfl rfl h2_ ?_
        refine wp_N (j' := 196) (pc' := 63) (L' := [.ref 193, .int a1, .int a2]) (S' := [.int (F 198 (a1).toNatClampNeg)]) (M' := (hs t, F, G)) 0 (fun _ => rfl) ?_
        exact wp_RI rfl rfl h
    · replace h := h.2 (Decidable.not_not.mp hc)
      refine wp_N (j' := 196) (pc' := 23) (L' := [.ref 193, .int a1, .int a2]) (S' := [.int a1, .ref 197]) (M' := (hs t, F, G)) 2 (fun _ => rfl) ?_
      obtain ⟨h3_, h⟩ := h
      refine wp_ial (m := (a1).toNatClampNeg) rfl rfl rfl h3_ ?_
      refine wp_N (j' := 196) (pc' := 63) (L' := [.ref 193, .int a1, .int a2]) (S' := [.int (F 197 (a1).toNatClampNeg)]) (M' := (hs t, F, G)) 0 (fun _ => rfl) ?_
      exact wp_RI rfl rfl h
  · replace h := h.2 (Decidable.not_not.mp hc)
    refine wp_N (j' := 196) (pc' := 9) (L' := [.ref 193, .int a1, .int a2]) (S' := [.int a1, .ref 196]) (M' := (hs t, F, G)) 2 (fun _ => rfl) ?_
    obtain ⟨h4_, h⟩ := h
    refine wp_ial (m := (a1).toNatClampNeg) rfl rfl rfl h4_ ?_
    refine wp_N (j' := 196) (pc' := 63) (L' := [.ref 193, .int a1, .int a2]) (S' := [.int (F 196 (a1).toNatClampNeg)]) (M' := (hs t, F, G)) 0 (fun _ => rfl) ?_
    exact wp_RI rfl rfl h
theorem rg196_59 {t : Nat} {F : ip_F} {G : ip_G} {Q : Option Value → ip_M → Prop} {a1 a2 as0 : Int32} (h : Q (some (.int ((as0 >>> (a1 &&& 31)) &&& (1 : Int32)))) (hs t, F, G)) : wp 196 59 [.ref 193, .int a1, .int a2] [.int as0] (hs t, F, G) Q := by
  refine wp_N (j' := 196) (pc' := 63) (L' := [.ref 193, .int a1, .int a2]) (S' := [.int ((as0 >>> (a1 &&& 31)) &&& (1 : Int32))]) (M' := (hs t, F, G)) 3 (fun _ => rfl) ?_
  exact wp_RI rfl rfl h
theorem rg197_0 {t : Nat} {F : ip_F} {G : ip_G} {Q : Option Value → ip_M → Prop} {a1 a2 : Int32} (h : wp 150 0 [.ref 193, .int a1] [] (hs t, F, G) (fun v M' => wp 197 5 [.ref 193, .int a1, .int a2] (v.toList ++ []) M' Q)) : wp 197 0 [.ref 193, .int a1, .int a2] [] (hs t, F, G) Q := by
  refine wp_N (j' := 197) (pc' := 2) (L' := [.ref 193, .int a1, .int a2]) (S' := [.int a1, .ref 193]) (M' := (hs t, F, G)) 1 (fun _ => rfl) ?_
  refine wp_C (i := 150) (pc' := 5) (Li := [.ref 193, .int a1]) (rest := []) (fun _ => rfl) h
theorem rg197_5 {t : Nat} {F : ip_F} {G : ip_G} {Q : Option Value → ip_M → Prop} {a1 a2 as0 : Int32} (h : (as0 = (0 : Int32) → wp 197 26 [.ref 193, .int a1, .int a2] [] (hs t, F, G) Q) ∧ (¬ as0 = (0 : Int32) → wp 143 0 [.int a2, .int (0 : Int32), .int (4 : Int32)] [] (hs t, F, G) (fun v M' => wp 197 14 [.ref 193, .int a1, .int a2] (v.toList ++ []) M' Q))) : wp 197 5 [.ref 193, .int a1, .int a2] [.int as0] (hs t, F, G) Q := by
  refine wp_ifc (pc1 := 26) (c := .eq) rfl (fun hc => ?_) (fun hc => ?_)
  · replace h := h.1 hc
    exact h
  · replace h := h.2 hc
    refine wp_N (j' := 197) (pc' := 11) (L' := [.ref 193, .int a1, .int a2]) (S' := [.int (4 : Int32), .int (0 : Int32), .int a2]) (M' := (hs t, F, G)) 2 (fun _ => rfl) ?_
    refine wp_C (i := 143) (pc' := 14) (Li := [.int a2, .int (0 : Int32), .int (4 : Int32)]) (rest := []) (fun _ => rfl) h
theorem rg197_14 {t : Nat} {F : ip_F} {G : ip_G} {Q : Option Value → ip_M → Prop} {a1 a2 as0 : Int32} (h : (as0 = (0 : Int32) → wp 197 26 [.ref 193, .int a1, .int a2] [] (hs t, F, G) Q) ∧ (¬ as0 = (0 : Int32) → wp 196 0 [.ref 193, .int a1, .int a2] [] (hs t, F, G) (fun v M' => wp 197 23 [.ref 193, .int a1, .int a2] (v.toList ++ []) M' Q))) : wp 197 14 [.ref 193, .int a1, .int a2] [.int as0] (hs t, F, G) Q := by
  refine wp_ifc (pc1 := 26) (c := .eq) rfl (fun hc => ?_) (fun hc => ?_)
  · replace h := h.1 hc
    exact h
  · replace h := h.2 hc
    refine wp_N (j' := 197) (pc' := 20) (L' := [.ref 193, .int a1, .int a2]) (S' := [.int a2, .int a1, .ref 193]) (M' := (hs t, F, G)) 2 (fun _ => rfl) ?_
    refine wp_C (i := 196) (pc' := 23) (Li := [.ref 193, .int a1, .int a2]) (rest := []) (fun _ => rfl) h
theorem rg197_23 {t : Nat} {F : ip_F} {G : ip_G} {Q : Option Value → ip_M → Prop} {a1 a2 as0 : Int32} (h : wp 197 30 [.ref 193, .int a1, .int a2] [.int as0] (hs t, F, G) Q) : wp 197 23 [.ref 193, .int a1, .int a2] [.int as0] (hs t, F, G) Q := by
  refine wp_N (j' := 197) (pc' := 30) (L' := [.ref 193, .int a1, .int a2]) (S' := [.int as0]) (M' := (hs t, F, G)) 0 (fun _ => rfl) ?_
  exact h
theorem rg197_26 {t : Nat} {F : ip_F} {G : ip_G} {Q : Option Value → ip_M → Prop} {a1 a2 : Int32} (h : wp 140 0 [.ref 193] [] (hs t, F, G) (fun v M' => wp 197 30 [.ref 193, .int a1, .int a2] (v.toList ++ []) M' Q)) : wp 197 26 [.ref 193, .int a1, .int a2] [] (hs t, F, G) Q := by
  refine wp_N (j' := 197) (pc' := 27) (L' := [.ref 193, .int a1, .int a2]) (S' := [.ref 193]) (M' := (hs t, F, G)) 0 (fun _ => rfl) ?_
  refine wp_C (i := 140) (pc' := 30) (Li := [.ref 193]) (rest := []) (fun _ => rfl) h
theorem rg197_30 {t : Nat} {F : ip_F} {G : ip_G} {Q : Option Value → ip_M → Prop} {a1 a2 as0 : Int32} (h : Q (some (.int as0)) (hs t, F, G)) : wp 197 30 [.ref 193, .int a1, .int a2] [.int as0] (hs t, F, G) Q := by
  exact wp_RI rfl rfl h
theorem rg198_0 {t : Nat} {F : ip_F} {G : ip_G} {Q : Option Value → ip_M → Prop} {a1 a2 : Int32} (h : wp 143 0 [.int a1, .int (0 : Int32), .int (11 : Int32)] [] (hs t, F, G) (fun v M' => wp 198 7 [.ref 193, .int a1, .int a2] (v.toList ++ []) M' Q)) : wp 198 0 [.ref 193, .int a1, .int a2] [] (hs t, F, G) Q := by
  refine wp_N (j' := 198) (pc' := 4) (L' := [.ref 193, .int a1, .int a2]) (S' := [.int (11 : Int32), .int (0 : Int32), .int a1]) (M' := (hs t, F, G)) 2 (fun _ => rfl) ?_
  refine wp_C (i := 143) (pc' := 7) (Li := [.int a1, .int (0 : Int32), .int (11 : Int32)]) (rest := []) (fun _ => rfl) h
theorem rg198_7 {t : Nat} {F : ip_F} {G : ip_G} {Q : Option Value → ip_M → Prop} {a1 a2 as0 : Int32} (h : (as0 = (0 : Int32) → wp 198 19 [.ref 193, .int a1, .int a2] [] (hs t, F, G) Q) ∧ (¬ as0 = (0 : Int32) → wp 143 0 [.int a2, .int (0 : Int32), .int (1 : Int32)] [] (hs t, F, G) (fun v M' => wp 198 16 [.ref 193, .int a1, .int a2] (v.toList ++ []) M' Q))) : wp 198 7 [.ref 193, .int a1, .int a2] [.int as0] (hs t, F, G) Q := by
  refine wp_ifc (pc1 := 19) (c := .eq) rfl (fun hc => ?_) (fun hc => ?_)
  · replace h := h.1 hc
    exact h
  · replace h := h.2 hc
    refine wp_N (j' := 198) (pc' := 13) (L' := [.ref 193, .int a1, .int a2]) (S' := [.int (1 : Int32), .int (0 : Int32), .int a2]) (M' := (hs t, F, G)) 2 (fun _ => rfl) ?_
    refine wp_C (i := 143) (pc' := 16) (Li := [.int a2, .int (0 : Int32), .int (1 : Int32)]) (rest := []) (fun _ => rfl) h
theorem rg198_16 {t : Nat} {F : ip_F} {G : ip_G} {Q : Option Value → ip_M → Prop} {a1 a2 as0 : Int32} (h : (¬ as0 = (0 : Int32) → (¬ a2 = (0 : Int32) → wp 175 0 [.ref 193, .float 0, .float 0] [] (hs t, F, G) (fun v M' => wp 198 42 [.ref 193, .int a1, .int a2] (v.toList ++ [.int a1, .ref 193]) M' Q)) ∧ (a2 = (0 : Int32) → wp 181 0 [.ref 193, .int a1] [] (hs t, F, G) (fun v M' => wp 198 33 [.ref 193, .int a1, .int a2] (v.toList ++ []) M' Q))) ∧ (as0 = (0 : Int32) → wp 198 19 [.ref 193, .int a1, .int a2] [] (hs t, F, G) Q)) : wp 198 16 [.ref 193, .int a1, .int a2] [.int as0] (hs t, F, G) Q := by
  refine wp_ifc (pc1 := 24) (c := .ne) rfl (fun hc => ?_) (fun hc => ?_)
  · replace h := h.1 hc
    refine wp_N (j' := 198) (pc' := 25) (L' := [.ref 193, .int a1, .int a2]) (S' := [.int a2]) (M' := (hs t, F, G)) 0 (fun _ => rfl) ?_
    refine wp_ifc (pc1 := 36) (c := .ne) rfl (fun hc => ?_) (fun hc => ?_)
    · replace h := h.1 hc
      refine wp_N (j' := 198) (pc' := 39) (L' := [.ref 193, .int a1, .int a2]) (S' := [.ref 193, .int a1, .ref 193]) (M' := (hs t, F, G)) 2 (fun _ => rfl) ?_
      refine wp_C (i := 175) (pc' := 42) (Li := [.ref 193, .float 0, .float 0]) (rest := [.int a1, .ref 193]) (fun _ => rfl) h
    · replace h := h.2 (Decidable.not_not.mp hc)
      refine wp_N (j' := 198) (pc' := 30) (L' := [.ref 193, .int a1, .int a2]) (S' := [.int a1, .ref 193]) (M' := (hs t, F, G)) 1 (fun _ => rfl) ?_
      refine wp_C (i := 181) (pc' := 33) (Li := [.ref 193, .int a1]) (rest := []) (fun _ => rfl) h
  · replace h := h.2 (Decidable.not_not.mp hc)
    exact h
theorem rg198_19 {t : Nat} {F : ip_F} {G : ip_G} {Q : Option Value → ip_M → Prop} {a1 a2 : Int32} (h : wp 140 0 [.ref 193] [] (hs t, F, G) (fun v M' => wp 198 23 [.ref 193, .int a1, .int a2] (v.toList ++ []) M' Q)) : wp 198 19 [.ref 193, .int a1, .int a2] [] (hs t, F, G) Q := by
  refine wp_N (j' := 198) (pc' := 20) (L' := [.ref 193, .int a1, .int a2]) (S' := [.ref 193]) (M' := (hs t, F, G)) 0 (fun _ => rfl) ?_
  refine wp_C (i := 140) (pc' := 23) (Li := [.ref 193]) (rest := []) (fun _ => rfl) h
theorem rg198_23 {t : Nat} {F : ip_F} {G : ip_G} {Q : Option Value → ip_M → Prop} {a1 a2 as0 : Int32} (h : Q (some (.int as0)) (hs t, F, G)) : wp 198 23 [.ref 193, .int a1, .int a2] [.int as0] (hs t, F, G) Q := by
  exact wp_RI rfl rfl h
theorem rg198_33 {t : Nat} {F : ip_F} {G : ip_G} {Q : Option Value → ip_M → Prop} {a1 a2 as0 : Int32} (h : wp 198 45 [.ref 193, .int a1, .int a2] [.int as0] (hs t, F, G) Q) : wp 198 33 [.ref 193, .int a1, .int a2] [.int as0] (hs t, F, G) Q := by
  refine wp_N (j' := 198) (pc' := 45) (L' := [.ref 193, .int a1, .int a2]) (S' := [.int as0]) (M' := (hs t, F, G)) 0 (fun _ => rfl) ?_
  exact h
theorem rg198_42 {t : Nat} {F : ip_F} {G : ip_G} {Q : Option Value → ip_M → Prop} {a1 a2 as1 as2 : Int32} (h : wp 182 0 [.ref 193, .int as1, .int as2] [] (hs t, F, G) (fun v M' => wp 198 45 [.ref 193, .int a1, .int a2] (v.toList ++ []) M' Q)) : wp 198 42 [.ref 193, .int a1, .int a2] [.int as2, .int as1, .ref 193] (hs t, F, G) Q := by
  refine wp_C (i := 182) (pc' := 45) (Li := [.ref 193, .int as1, .int as2]) (rest := []) (fun _ => rfl) h
theorem rg198_45 {t : Nat} {F : ip_F} {G : ip_G} {Q : Option Value → ip_M → Prop} {a1 a2 as0 : Int32} (h : Q (some (.int as0)) (hs t, F, G)) : wp 198 45 [.ref 193, .int a1, .int a2] [.int as0] (hs t, F, G) Q := by
  exact wp_RI rfl rfl h
theorem rg199_0 {t : Nat} {F : ip_F} {G : ip_G} {Q : Option Value → ip_M → Prop} {a1 : Int32} (h : wp 143 0 [.int a1, .int (0 : Int32), .int (1 : Int32)] [] (hs t, F, G) (fun v M' => wp 199 6 [.ref 193, .int a1, .float 0] (v.toList ++ []) M' Q)) : wp 199 0 [.ref 193, .int a1, .float 0] [] (hs t, F, G) Q := by
  refine wp_N (j' := 199) (pc' := 3) (L' := [.ref 193, .int a1, .float 0]) (S' := [.int (1 : Int32), .int (0 : Int32), .int a1]) (M' := (hs t, F, G)) 2 (fun _ => rfl) ?_
  refine wp_C (i := 143) (pc' := 6) (Li := [.int a1, .int (0 : Int32), .int (1 : Int32)]) (rest := []) (fun _ => rfl) h
theorem rg199_6 {t : Nat} {F : ip_F} {G : ip_G} {Q : Option Value → ip_M → Prop} {a1 as0 : Int32} {v2 : Value} (h : (¬ as0 = (0 : Int32) → wp 175 0 [.ref 193, .float 0, .float 0] [] (hs t, F, G) (fun v M' => wp 199 19 [.ref 193, .int a1, v2] (v.toList ++ [.ref 193]) M' Q)) ∧ (as0 = (0 : Int32) → wp 140 0 [.ref 193] [] (hs t, F, G) (fun v M' => wp 199 13 [.ref 193, .int a1, v2] (v.toList ++ []) M' Q))) : wp 199 6 [.ref 193, .int a1, v2] [.int as0] (hs t, F, G) Q := by
  refine wp_ifc (pc1 := 14) (c := .ne) rfl (fun hc => ?_) (fun hc => ?_)
  · replace h := h.1 hc
    refine wp_N (j' := 199) (pc' := 16) (L' := [.ref 193, .int a1, v2]) (S' := [.ref 193, .ref 193]) (M' := (hs t, F, G)) 1 (fun _ => rfl) ?_
    refine wp_C (i := 175) (pc' := 19) (Li := [.ref 193, .float 0, .float 0]) (rest := [.ref 193]) (fun _ => rfl) h
  · replace h := h.2 (Decidable.not_not.mp hc)
    refine wp_N (j' := 199) (pc' := 10) (L' := [.ref 193, .int a1, v2]) (S' := [.ref 193]) (M' := (hs t, F, G)) 0 (fun _ => rfl) ?_
    refine wp_C (i := 140) (pc' := 13) (Li := [.ref 193]) (rest := []) (fun _ => rfl) h
theorem rg199_13 {t : Nat} {F : ip_F} {G : ip_G} {Q : Option Value → ip_M → Prop} {a1 as0 : Int32} {v2 : Value} (h : Q (some (.int as0)) (hs t, F, G)) : wp 199 13 [.ref 193, .int a1, v2] [.int as0] (hs t, F, G) Q := by
  exact wp_RI rfl rfl h
theorem rg199_19 {t : Nat} {F : ip_F} {G : ip_G} {Q : Option Value → ip_M → Prop} {a1 as1 : Int32} {v2 : Value} (h : wp 183 0 [.ref 193, .int as1, .float 0] [] (hs t, F, G) (fun v M' => wp 199 22 [.ref 193, .int a1, v2] (v.toList ++ []) M' Q)) : wp 199 19 [.ref 193, .int a1, v2] [.int as1, .ref 193] (hs t, F, G) Q := by
  refine wp_C (i := 183) (pc' := 22) (Li := [.ref 193, .int as1, .float 0]) (rest := []) (fun _ => rfl) h
theorem rg199_22 {t : Nat} {F : ip_F} {G : ip_G} {Q : Option Value → ip_M → Prop} {a1 : Int32} {v2 : Value} (h : wp 199 24 [.ref 193, .int a1, .int (1 : Int32)] [] (hs t, F, G) Q) : wp 199 22 [.ref 193, .int a1, v2] [] (hs t, F, G) Q := by
  refine wp_N (j' := 199) (pc' := 24) (L' := [.ref 193, .int a1, .int (1 : Int32)]) (S' := []) (M' := (hs t, F, G)) 1 (fun _ => rfl) ?_
  exact h
theorem rg199_24 {t : Nat} {F : ip_F} {G : ip_G} {Q : Option Value → ip_M → Prop} {a1 a2 : Int32} (h : ((12 : Int32) ≤ a2 → wp 199 45 [.ref 193, .int a1, .int a2] [] (hs t, F, G) Q) ∧ (a2 < (12 : Int32) → wp 184 0 [.ref 193, .int a2, .float 0] [] (hs t, F, G) (fun v M' => wp 199 35 [.ref 193, .int a1, .int a2] (v.toList ++ []) M' Q))) : wp 199 24 [.ref 193, .int a1, .int a2] [] (hs t, F, G) Q := by
  refine wp_N (j' := 199) (pc' := 27) (L' := [.ref 193, .int a1, .int a2]) (S' := [.int (12 : Int32), .int a2]) (M' := (hs t, F, G)) 1 (fun _ => rfl) ?_
  refine wp_icmp (pc1 := 45) (c := .ge) rfl (fun hc => ?_) (fun hc => ?_)
  · replace h := h.1 hc
    exact h
  · replace h := h.2 (Int32.not_le.mp hc)
    refine wp_N (j' := 199) (pc' := 32) (L' := [.ref 193, .int a1, .int a2]) (S' := [.int a2, .ref 193]) (M' := (hs t, F, G)) 1 (fun _ => rfl) ?_
    refine wp_C (i := 184) (pc' := 35) (Li := [.ref 193, .int a2, .float 0]) (rest := []) (fun _ => rfl) h
theorem rg199_35 {t : Nat} {F : ip_F} {G : ip_G} {Q : Option Value → ip_M → Prop} {a1 a2 as0 : Int32} (h : (¬ as0 = (-1 : Int32) → wp 199 45 [.ref 193, .int a1, .int a2] [] (hs t, F, G) Q) ∧ (as0 = (-1 : Int32) → wp 199 24 [.ref 193, .int a1, .int (a2 + (1 : Int32))] [] (hs t, F, G) Q)) : wp 199 35 [.ref 193, .int a1, .int a2] [.int as0] (hs t, F, G) Q := by
  refine wp_N (j' := 199) (pc' := 36) (L' := [.ref 193, .int a1, .int a2]) (S' := [.int (-1 : Int32), .int as0]) (M' := (hs t, F, G)) 0 (fun _ => rfl) ?_
  refine wp_icmp (pc1 := 45) (c := .ne) rfl (fun hc => ?_) (fun hc => ?_)
  · replace h := h.1 hc
    exact h
  · replace h := h.2 (Decidable.not_not.mp hc)
    refine wp_N (j' := 199) (pc' := 24) (L' := [.ref 193, .int a1, .int (a2 + (1 : Int32))]) (S' := []) (M' := (hs t, F, G)) 1 (fun _ => rfl) ?_
    exact h
theorem rg199_45 {t : Nat} {F : ip_F} {G : ip_G} {Q : Option Value → ip_M → Prop} {a1 a2 : Int32} (h : (¬ a2 = (12 : Int32) → (¬ a1 = (0 : Int32) → wp 184 0 [.ref 193, .int a2, .float 0] [] (hs t, F, G) (fun v M' => wp 199 68 [.ref 193, .int a1, .int a2] (v.toList ++ []) M' Q)) ∧ (a1 = (0 : Int32) → wp 199 68 [.ref 193, .int a1, .int a2] [.int a2] (hs t, F, G) Q)) ∧ (a2 = (12 : Int32) → wp 199 68 [.ref 193, .int a1, .int a2] [.int (-1 : Int32)] (hs t, F, G) Q)) : wp 199 45 [.ref 193, .int a1, .int a2] [] (hs t, F, G) Q := by
  refine wp_N (j' := 199) (pc' := 48) (L' := [.ref 193, .int a1, .int a2]) (S' := [.int (12 : Int32), .int a2]) (M' := (hs t, F, G)) 1 (fun _ => rfl) ?_
  refine wp_icmp (pc1 := 55) (c := .ne) rfl (fun hc => ?_) (fun hc => ?_)
  · replace h := h.1 hc
    refine wp_N (j' := 199) (pc' := 56) (L' := [.ref 193, .int a1, .int a2]) (S' := [.int a1]) (M' := (hs t, F, G)) 0 (fun _ => rfl) ?_
    refine wp_ifc (pc1 := 63) (c := .ne) rfl (fun hc => ?_) (fun hc => ?_)
    · replace h := h.1 hc
      refine wp_N (j' := 199) (pc' := 65) (L' := [.ref 193, .int a1, .int a2]) (S' := [.int a2, .ref 193]) (M' := (hs t, F, G)) 1 (fun _ => rfl) ?_
      refine wp_C (i := 184) (pc' := 68) (Li := [.ref 193, .int a2, .float 0]) (rest := []) (fun _ => rfl) h
    · replace h := h.2 (Decidable.not_not.mp hc)
      refine wp_N (j' := 199) (pc' := 68) (L' := [.ref 193, .int a1, .int a2]) (S' := [.int a2]) (M' := (hs t, F, G)) 1 (fun _ => rfl) ?_
      exact h
  · replace h := h.2 (Decidable.not_not.mp hc)
    refine wp_N (j' := 199) (pc' := 68) (L' := [.ref 193, .int a1, .int a2]) (S' := [.int (-1 : Int32)]) (M' := (hs t, F, G)) 1 (fun _ => rfl) ?_
    exact h
theorem rg199_68 {t : Nat} {F : ip_F} {G : ip_G} {Q : Option Value → ip_M → Prop} {a1 a2 as0 : Int32} (h : Q (some (.int as0)) (hs t, F, G)) : wp 199 68 [.ref 193, .int a1, .int a2] [.int as0] (hs t, F, G) Q := by
  exact wp_RI rfl rfl h
theorem rg200_0 {t : Nat} {F : ip_F} {G : ip_G} {Q : Option Value → ip_M → Prop} {a1 : Int32} (h : wp 143 0 [.int a1, .int (0 : Int32), .int (1 : Int32)] [] (hs t, F, G) (fun v M' => wp 200 6 [.ref 193, .int a1, .float 0, .float 0, .float 0, .float 0, .float 0, .float 0] (v.toList ++ []) M' Q)) : wp 200 0 [.ref 193, .int a1, .float 0, .float 0, .float 0, .float 0, .float 0, .float 0] [] (hs t, F, G) Q := by
  refine wp_N (j' := 200) (pc' := 3) (L' := [.ref 193, .int a1, .float 0, .float 0, .float 0, .float 0, .float 0, .float 0]) (S' := [.int (1 : Int32), .int (0 : Int32), .int a1]) (M' := (hs t, F, G)) 2 (fun _ => rfl) ?_
  refine wp_C (i := 143) (pc' := 6) (Li := [.int a1, .int (0 : Int32), .int (1 : Int32)]) (rest := []) (fun _ => rfl) h
theorem rg200_6 {t : Nat} {F : ip_F} {G : ip_G} {Q : Option Value → ip_M → Prop} {a1 as0 : Int32} {v2 v3 v4 v5 v6 v7 : Value} (h : (¬ as0 = (0 : Int32) → wp 175 0 [.ref 193, .float 0, .float 0] [] (hs t, F, G) (fun v M' => wp 200 18 [.ref 193, .int a1, v2, v3, v4, v5, v6, v7] (v.toList ++ []) M' Q)) ∧ (as0 = (0 : Int32) → wp 140 0 [.ref 193] [] (hs t, F, G) (fun v M' => wp 200 13 [.ref 193, .int a1, v2, v3, v4, v5, v6, v7] (v.toList ++ []) M' Q))) : wp 200 6 [.ref 193, .int a1, v2, v3, v4, v5, v6, v7] [.int as0] (hs t, F, G) Q := by
  refine wp_ifc (pc1 := 14) (c := .ne) rfl (fun hc => ?_) (fun hc => ?_)
  · replace h := h.1 hc
    refine wp_N (j' := 200) (pc' := 15) (L' := [.ref 193, .int a1, v2, v3, v4, v5, v6, v7]) (S' := [.ref 193]) (M' := (hs t, F, G)) 0 (fun _ => rfl) ?_
    refine wp_C (i := 175) (pc' := 18) (Li := [.ref 193, .float 0, .float 0]) (rest := []) (fun _ => rfl) h
  · replace h := h.2 (Decidable.not_not.mp hc)
    refine wp_N (j' := 200) (pc' := 10) (L' := [.ref 193, .int a1, v2, v3, v4, v5, v6, v7]) (S' := [.ref 193]) (M' := (hs t, F, G)) 0 (fun _ => rfl) ?_
    refine wp_C (i := 140) (pc' := 13) (Li := [.ref 193]) (rest := []) (fun _ => rfl) h
theorem rg200_13 {t : Nat} {F : ip_F} {G : ip_G} {Q : Option Value → ip_M → Prop} {a1 as0 : Int32} {v2 v3 v4 v5 v6 v7 : Value} (h : Q (some (.int as0)) (hs t, F, G)) : wp 200 13 [.ref 193, .int a1, v2, v3, v4, v5, v6, v7] [.int as0] (hs t, F, G) Q := by
  exact wp_RI rfl rfl h
theorem rg200_18 {t : Nat} {F : ip_F} {G : ip_G} {Q : Option Value → ip_M → Prop} {a1 as0 : Int32} {v2 v3 v4 v5 v6 v7 : Value} (h : wp 200 27 [.ref 193, .int a1, .int as0, .int (0 : Int32), .int (0 : Int32), .int (1 : Int32), v6, v7] [] (hs t, F, G) Q) : wp 200 18 [.ref 193, .int a1, v2, v3, v4, v5, v6, v7] [.int as0] (hs t, F, G) Q := by
  refine wp_N (j' := 200) (pc' := 27) (L' := [.ref 193, .int a1, .int as0, .int (0 : Int32), .int (0 : Int32), .int (1 : Int32), v6, v7]) (S' := []) (M' := (hs t, F, G)) 6 (fun _ => rfl) ?_
  exact h
theorem rg200_27 {t : Nat} {F : ip_F} {G : ip_G} {Q : Option Value → ip_M → Prop} {a1 a2 a3 a4 a5 : Int32} {v6 v7 : Value} (h : ((12 : Int32) ≤ a5 → (¬ a1 = (0 : Int32) → Q (some (.int a3)) (hs t, F, G)) ∧ (a1 = (0 : Int32) → Q (some (.int a4)) (hs t, F, G))) ∧ (a5 < (12 : Int32) → wp 200 40 [.ref 193, .int a1, .int a2, .int a3, .int a4, .int a5, .int (0 : Int32), .int (0 : Int32)] [] (hs t, F, G) Q)) : wp 200 27 [.ref 193, .int a1, .int a2, .int a3, .int a4, .int a5, v6, v7] [] (hs t, F, G) Q := by
  refine wp_N (j' := 200) (pc' := 31) (L' := [.ref 193, .int a1, .int a2, .int a3, .int a4, .int a5, v6, v7]) (S' := [.int (12 : Int32), .int a5]) (M' := (hs t, F, G)) 1 (fun _ => rfl) ?_
  refine wp_icmp (pc1 := 115) (c := .ge) rfl (fun hc => ?_) (fun hc => ?_)
  · replace h := h.1 hc
    refine wp_N (j' := 200) (pc' := 116) (L' := [.ref 193, .int a1, .int a2, .int a3, .int a4, .int a5, v6, v7]) (S' := [.int a1]) (M' := (hs t, F, G)) 0 (fun _ => rfl) ?_
    refine wp_ifc (pc1 := 124) (c := .ne) rfl (fun hc => ?_) (fun hc => ?_)
    · replace h := h.1 hc
      refine wp_N (j' := 200) (pc' := 125) (L' := [.ref 193, .int a1, .int a2, .int a3, .int a4, .int a5, v6, v7]) (S' := [.int a3]) (M' := (hs t, F, G)) 0 (fun _ => rfl) ?_
      exact wp_RI rfl rfl h
    · replace h := h.2 (Decidable.not_not.mp hc)
      refine wp_N (j' := 200) (pc' := 125) (L' := [.ref 193, .int a1, .int a2, .int a3, .int a4, .int a5, v6, v7]) (S' := [.int a4]) (M' := (hs t, F, G)) 1 (fun _ => rfl) ?_
      exact wp_RI rfl rfl h
  · replace h := h.2 (Int32.not_le.mp hc)
    refine wp_N (j' := 200) (pc' := 40) (L' := [.ref 193, .int a1, .int a2, .int a3, .int a4, .int a5, .int (0 : Int32), .int (0 : Int32)]) (S' := []) (M' := (hs t, F, G)) 3 (fun _ => rfl) ?_
    exact h
theorem rg200_40 {t : Nat} {F : ip_F} {G : ip_G} {Q : Option Value → ip_M → Prop} {a1 a2 a3 a4 a5 a6 a7 : Int32} (h : ((F 193 1) ≤ a7 → (a6 ≤ a4 → wp 200 99 [.ref 193, .int a1, .int a2, .int a3, .int a4, .int a5, .int a6, .int a7] [.int a3] (hs t, F, G) Q) ∧ (a4 < a6 → wp 200 99 [.ref 193, .int a1, .int a2, .int a3, .int a4, .int a5, .int a6, .int a7] [.int a5] (hs t, F, G) Q)) ∧ (a7 < (F 193 1) → wp 144 0 [.int a2, .int a7] [] (hs t, F, G) (fun v M' => wp 200 57 [.ref 193, .int a1, .int a2, .int a3, .int a4, .int a5, .int a6, .int a7] (v.toList ++ [.int a6]) M' Q))) : wp 200 40 [.ref 193, .int a1, .int a2, .int a3, .int a4, .int a5, .int a6, .int a7] [] (hs t, F, G) Q := by
  refine wp_N (j' := 200) (pc' := 46) (L' := [.ref 193, .int a1, .int a2, .int a3, .int a4, .int a5, .int a6, .int a7]) (S' := [.int (F 193 1), .int a7]) (M' := (hs t, F, G)) 2 (fun _ => rfl) ?_
  refine wp_icmp (pc1 := 86) (c := .ge) rfl (fun hc => ?_) (fun hc => ?_)
  · replace h := h.1 hc
    refine wp_N (j' := 200) (pc' := 90) (L' := [.ref 193, .int a1, .int a2, .int a3, .int a4, .int a5, .int a6, .int a7]) (S' := [.int a4, .int a6]) (M' := (hs t, F, G)) 1 (fun _ => rfl) ?_
    refine wp_icmp (pc1 := 98) (c := .le) rfl (fun hc => ?_) (fun hc => ?_)
    · replace h := h.1 hc
      refine wp_N (j' := 200) (pc' := 99) (L' := [.ref 193, .int a1, .int a2, .int a3, .int a4, .int a5, .int a6, .int a7]) (S' := [.int a3]) (M' := (hs t, F, G)) 0 (fun _ => rfl) ?_
      exact h
    · replace h := h.2 (Int32.not_le.mp hc)
      refine wp_N (j' := 200) (pc' := 99) (L' := [.ref 193, .int a1, .int a2, .int a3, .int a4, .int a5, .int a6, .int a7]) (S' := [.int a5]) (M' := (hs t, F, G)) 1 (fun _ => rfl) ?_
      exact h
  · replace h := h.2 (Int32.not_le.mp hc)
    refine wp_N (j' := 200) (pc' := 54) (L' := [.ref 193, .int a1, .int a2, .int a3, .int a4, .int a5, .int a6, .int a7]) (S' := [.int a7, .int a2, .int a6]) (M' := (hs t, F, G)) 2 (fun _ => rfl) ?_
    refine wp_C (i := 144) (pc' := 57) (Li := [.int a2, .int a7]) (rest := [.int a6]) (fun _ => rfl) h
theorem rg200_57 {t : Nat} {F : ip_F} {G : ip_G} {Q : Option Value → ip_M → Prop} {a1 a2 a3 a4 a5 a6 a7 as0 as1 : Int32} (h : (as1 = (0 : Int32) → wp 200 77 [.ref 193, .int a1, .int a2, .int a3, .int a4, .int a5, .int a6, .int a7] [.int (0 : Int32), .int as0] (hs t, F, G) Q) ∧ (¬ as1 = (0 : Int32) → (vp_in a7 6) ∧ ((¬ (F 197 (a7).toNatClampNeg) = a5 → wp 200 77 [.ref 193, .int a1, .int a2, .int a3, .int a4, .int a5, .int a6, .int a7] [.int (0 : Int32), .int as0] (hs t, F, G) Q) ∧ ((F 197 (a7).toNatClampNeg) = a5 → wp 200 77 [.ref 193, .int a1, .int a2, .int a3, .int a4, .int a5, .int a6, .int a7] [.int (1 : Int32), .int as0] (hs t, F, G) Q)))) : wp 200 57 [.ref 193, .int a1, .int a2, .int a3, .int a4, .int a5, .int a6, .int a7] [.int as1, .int as0] (hs t, F, G) Q := by
  refine wp_ifc (pc1 := 76) (c := .eq) rfl (fun hc => ?_) (fun hc => ?_)
  · replace h := h.1 hc
    refine wp_N (j' := 200) (pc' := 77) (L' := [.ref 193, .int a1, .int a2, .int a3, .int a4, .int a5, .int a6, .int a7]) (S' := [.int (0 : Int32), .int as0]) (M' := (hs t, F, G)) 0 (fun _ => rfl) ?_
    exact h
  · replace h := h.2 hc
    refine wp_N (j' := 200) (pc' := 66) (L' := [.ref 193, .int a1, .int a2, .int a3, .int a4, .int a5, .int a6, .int a7]) (S' := [.int a7, .ref 197, .int as0]) (M' := (hs t, F, G)) 2 (fun _ => rfl) ?_
    obtain ⟨h1_, h⟩ := h
    refine wp_ial (m := (a7).toNatClampNeg) rfl rfl rfl h1_ ?_
    refine wp_N (j' := 200) (pc' := 69) (L' := [.ref 193, .int a1, .int a2, .int a3, .int a4, .int a5, .int a6, .int a7]) (S' := [.int a5, .int (F 197 (a7).toNatClampNeg), .int as0]) (M' := (hs t, F, G)) 0 (fun _ => rfl) ?_
    refine wp_icmp (pc1 := 76) (c := .ne) rfl (fun hc => ?_) (fun hc => ?_)
    · replace h := h.1 hc
      refine wp_N (j' := 200) (pc' := 77) (L' := [.ref 193, .int a1, .int a2, .int a3, .int a4, .int a5, .int a6, .int a7]) (S' := [.int (0 : Int32), .int as0]) (M' := (hs t, F, G)) 0 (fun _ => rfl) ?_
      exact h
    · replace h := h.2 (Decidable.not_not.mp hc)
      refine wp_N (j' := 200) (pc' := 77) (L' := [.ref 193, .int a1, .int a2, .int a3, .int a4, .int a5, .int a6, .int a7]) (S' := [.int (1 : Int32), .int as0]) (M' := (hs t, F, G)) 1 (fun _ => rfl) ?_
      exact h
theorem rg200_77 {t : Nat} {F : ip_F} {G : ip_G} {Q : Option Value → ip_M → Prop} {a1 a2 a3 a4 a5 a6 a7 as0 as1 : Int32} (h : wp 200 40 [.ref 193, .int a1, .int a2, .int a3, .int a4, .int a5, .int (as0 + as1), .int (a7 + (1 : Int32))] [] (hs t, F, G) Q) : wp 200 77 [.ref 193, .int a1, .int a2, .int a3, .int a4, .int a5, .int a6, .int a7] [.int as1, .int as0] (hs t, F, G) Q := by
  refine wp_N (j' := 200) (pc' := 40) (L' := [.ref 193, .int a1, .int a2, .int a3, .int a4, .int a5, .int (as0 + as1), .int (a7 + (1 : Int32))]) (S' := []) (M' := (hs t, F, G)) 3 (fun _ => rfl) ?_
  exact h
theorem rg200_99 {t : Nat} {F : ip_F} {G : ip_G} {Q : Option Value → ip_M → Prop} {a1 a2 a3 a4 a5 a6 a7 as0 : Int32} (h : wp 146 0 [.int a4, .int a6] [] (hs t, F, G) (fun v M' => wp 200 107 [.ref 193, .int a1, .int a2, .int as0, .int a4, .int a5, .int a6, .int a7] (v.toList ++ []) M' Q)) : wp 200 99 [.ref 193, .int a1, .int a2, .int a3, .int a4, .int a5, .int a6, .int a7] [.int as0] (hs t, F, G) Q := by
  refine wp_N (j' := 200) (pc' := 104) (L' := [.ref 193, .int a1, .int a2, .int as0, .int a4, .int a5, .int a6, .int a7]) (S' := [.int a6, .int a4]) (M' := (hs t, F, G)) 2 (fun _ => rfl) ?_
  refine wp_C (i := 146) (pc' := 107) (Li := [.int a4, .int a6]) (rest := []) (fun _ => rfl) h
theorem rg200_107 {t : Nat} {F : ip_F} {G : ip_G} {Q : Option Value → ip_M → Prop} {a1 a2 a3 a4 a5 a6 a7 as0 : Int32} (h : wp 200 27 [.ref 193, .int a1, .int a2, .int a3, .int as0, .int (a5 + (1 : Int32)), .int a6, .int a7] [] (hs t, F, G) Q) : wp 200 107 [.ref 193, .int a1, .int a2, .int a3, .int a4, .int a5, .int a6, .int a7] [.int as0] (hs t, F, G) Q := by
  refine wp_N (j' := 200) (pc' := 27) (L' := [.ref 193, .int a1, .int a2, .int a3, .int as0, .int (a5 + (1 : Int32)), .int a6, .int a7]) (S' := []) (M' := (hs t, F, G)) 2 (fun _ => rfl) ?_
  exact h
theorem rg201_0 {t : Nat} {F : ip_F} {G : ip_G} {Q : Option Value → ip_M → Prop} (h : wp 175 0 [.ref 193, .float 0, .float 0] [] (hs t, F, G) (fun v M' => wp 201 4 [.ref 193, .float 0, .float 0, .float 0, .float 0, .float 0] (v.toList ++ []) M' Q)) : wp 201 0 [.ref 193, .float 0, .float 0, .float 0, .float 0, .float 0] [] (hs t, F, G) Q := by
  refine wp_N (j' := 201) (pc' := 1) (L' := [.ref 193, .float 0, .float 0, .float 0, .float 0, .float 0]) (S' := [.ref 193]) (M' := (hs t, F, G)) 0 (fun _ => rfl) ?_
  refine wp_C (i := 175) (pc' := 4) (Li := [.ref 193, .float 0, .float 0]) (rest := []) (fun _ => rfl) h
theorem rg201_4 {t : Nat} {F : ip_F} {G : ip_G} {Q : Option Value → ip_M → Prop} {as0 : Int32} {v1 v2 v3 v4 v5 : Value} (h : wp 201 13 [.ref 193, .int as0, .int (-1 : Int32), .int (1048576 : Int32), .int (0 : Int32), v5] [] (hs t, F, G) Q) : wp 201 4 [.ref 193, v1, v2, v3, v4, v5] [.int as0] (hs t, F, G) Q := by
  refine wp_N (j' := 201) (pc' := 13) (L' := [.ref 193, .int as0, .int (-1 : Int32), .int (1048576 : Int32), .int (0 : Int32), v5]) (S' := []) (M' := (hs t, F, G)) 6 (fun _ => rfl) ?_
  exact h
theorem rg201_13 {t : Nat} {F : ip_F} {G : ip_G} {Q : Option Value → ip_M → Prop} {a1 a2 a3 a4 : Int32} {v5 : Value} (h : (a1 < a4 → Q (some (.int a2)) (hs t, F, G)) ∧ (a4 ≤ a1 → (¬ (a4 &&& (a1 ^^^ (-1 : Int32))) = (0 : Int32) → wp 201 42 [.ref 193, .int a1, .int a2, .int a3, .int a4, v5] [.int (0 : Int32)] (hs t, F, G) Q) ∧ ((a4 &&& (a1 ^^^ (-1 : Int32))) = (0 : Int32) → wp 147 0 [.int a4, .float 0, .float 0] [] (hs t, F, G) (fun v M' => wp 201 33 [.ref 193, .int a1, .int a2, .int a3, .int a4, v5] (v.toList ++ []) M' Q)))) : wp 201 13 [.ref 193, .int a1, .int a2, .int a3, .int a4, v5] [] (hs t, F, G) Q := by
  refine wp_N (j' := 201) (pc' := 16) (L' := [.ref 193, .int a1, .int a2, .int a3, .int a4, v5]) (S' := [.int a1, .int a4]) (M' := (hs t, F, G)) 1 (fun _ => rfl) ?_
  refine wp_icmp (pc1 := 77) (c := .gt) rfl (fun hc => ?_) (fun hc => ?_)
  · replace h := h.1 hc
    refine wp_N (j' := 201) (pc' := 78) (L' := [.ref 193, .int a1, .int a2, .int a3, .int a4, v5]) (S' := [.int a2]) (M' := (hs t, F, G)) 0 (fun _ => rfl) ?_
    exact wp_RI rfl rfl h
  · replace h := h.2 (Int32.not_lt.mp hc)
    refine wp_N (j' := 201) (pc' := 25) (L' := [.ref 193, .int a1, .int a2, .int a3, .int a4, v5]) (S' := [.int (a4 &&& (a1 ^^^ (-1 : Int32)))]) (M' := (hs t, F, G)) 4 (fun _ => rfl) ?_
    refine wp_ifc (pc1 := 41) (c := .ne) rfl (fun hc => ?_) (fun hc => ?_)
    · replace h := h.1 hc
      refine wp_N (j' := 201) (pc' := 42) (L' := [.ref 193, .int a1, .int a2, .int a3, .int a4, v5]) (S' := [.int (0 : Int32)]) (M' := (hs t, F, G)) 0 (fun _ => rfl) ?_
      exact h
    · replace h := h.2 (Decidable.not_not.mp hc)
      refine wp_N (j' := 201) (pc' := 30) (L' := [.ref 193, .int a1, .int a2, .int a3, .int a4, v5]) (S' := [.int a4]) (M' := (hs t, F, G)) 0 (fun _ => rfl) ?_
      refine wp_C (i := 147) (pc' := 33) (Li := [.int a4, .float 0, .float 0]) (rest := []) (fun _ => rfl) h
theorem rg201_33 {t : Nat} {F : ip_F} {G : ip_G} {Q : Option Value → ip_M → Prop} {a1 a2 a3 a4 as0 : Int32} {v5 : Value} (h : (a3 ≤ as0 → wp 201 42 [.ref 193, .int a1, .int a2, .int a3, .int a4, v5] [.int (0 : Int32)] (hs t, F, G) Q) ∧ (as0 < a3 → wp 201 42 [.ref 193, .int a1, .int a2, .int a3, .int a4, v5] [.int (1 : Int32)] (hs t, F, G) Q)) : wp 201 33 [.ref 193, .int a1, .int a2, .int a3, .int a4, v5] [.int as0] (hs t, F, G) Q := by
  refine wp_N (j' := 201) (pc' := 34) (L' := [.ref 193, .int a1, .int a2, .int a3, .int a4, v5]) (S' := [.int a3, .int as0]) (M' := (hs t, F, G)) 0 (fun _ => rfl) ?_
  refine wp_icmp (pc1 := 41) (c := .ge) rfl (fun hc => ?_) (fun hc => ?_)
  · replace h := h.1 hc
    refine wp_N (j' := 201) (pc' := 42) (L' := [.ref 193, .int a1, .int a2, .int a3, .int a4, v5]) (S' := [.int (0 : Int32)]) (M' := (hs t, F, G)) 0 (fun _ => rfl) ?_
    exact h
  · replace h := h.2 (Int32.not_le.mp hc)
    refine wp_N (j' := 201) (pc' := 42) (L' := [.ref 193, .int a1, .int a2, .int a3, .int a4, v5]) (S' := [.int (1 : Int32)]) (M' := (hs t, F, G)) 1 (fun _ => rfl) ?_
    exact h
theorem rg201_42 {t : Nat} {F : ip_F} {G : ip_G} {Q : Option Value → ip_M → Prop} {a1 a2 a3 a4 as0 : Int32} {v5 : Value} (h : (as0 = (0 : Int32) → wp 201 71 [.ref 193, .int a1, .int a2, .int a3, .int a4, .int as0] [] (hs t, F, G) Q) ∧ (¬ as0 = (0 : Int32) → wp 185 0 [.ref 193, .int (a1 &&& (a4 ^^^ (-1 : Int32))), .float 0, .float 0] [] (hs t, F, G) (fun v M' => wp 201 59 [.ref 193, .int a1, .int a2, .int a3, .int a4, .int as0] (v.toList ++ []) M' Q))) : wp 201 42 [.ref 193, .int a1, .int a2, .int a3, .int a4, v5] [.int as0] (hs t, F, G) Q := by
  refine wp_N (j' := 201) (pc' := 46) (L' := [.ref 193, .int a1, .int a2, .int a3, .int a4, .int as0]) (S' := [.int as0]) (M' := (hs t, F, G)) 1 (fun _ => rfl) ?_
  refine wp_ifc (pc1 := 71) (c := .eq) rfl (fun hc => ?_) (fun hc => ?_)
  · replace h := h.1 hc
    exact h
  · replace h := h.2 hc
    refine wp_N (j' := 201) (pc' := 56) (L' := [.ref 193, .int a1, .int a2, .int a3, .int a4, .int as0]) (S' := [.int (a1 &&& (a4 ^^^ (-1 : Int32))), .ref 193]) (M' := (hs t, F, G)) 5 (fun _ => rfl) ?_
    refine wp_C (i := 185) (pc' := 59) (Li := [.ref 193, .int (a1 &&& (a4 ^^^ (-1 : Int32))), .float 0, .float 0]) (rest := []) (fun n9 => (show ∀ (z0 : Int32), ip_run none (n9 + 1) 201 56 [.ref 193, .int a1, .int a2, .int a3, .int a4, .int as0] [.int z0, .ref 193] (hs t, F, G) (0, 0) = (ip_run none n9 185 0 [.ref 193, .int z0, .float 0, .float 0] [] (hs t, F, G) (0, 0)).bind fun r => ip_run none n9 201 59 [.ref 193, .int a1, .int a2, .int a3, .int a4, .int as0] (r.1.toList ++ []) r.2 (0, 0) from fun _ => rfl) (a1 &&& (a4 ^^^ (-1 : Int32)))) h
theorem rg201_59 {t : Nat} {F : ip_F} {G : ip_G} {Q : Option Value → ip_M → Prop} {a1 a2 a3 a4 a5 as0 : Int32} (h : (as0 = (0 : Int32) → wp 201 71 [.ref 193, .int a1, .int a2, .int a3, .int a4, .int a5] [] (hs t, F, G) Q) ∧ (¬ as0 = (0 : Int32) → wp 147 0 [.int a4, .float 0, .float 0] [] (hs t, F, G) (fun v M' => wp 201 70 [.ref 193, .int a1, .int a4, .int a3, .int a4, .int a5] (v.toList ++ []) M' Q))) : wp 201 59 [.ref 193, .int a1, .int a2, .int a3, .int a4, .int a5] [.int as0] (hs t, F, G) Q := by
  refine wp_ifc (pc1 := 71) (c := .eq) rfl (fun hc => ?_) (fun hc => ?_)
  · replace h := h.1 hc
    exact h
  · replace h := h.2 hc
    refine wp_N (j' := 201) (pc' := 67) (L' := [.ref 193, .int a1, .int a4, .int a3, .int a4, .int a5]) (S' := [.int a4]) (M' := (hs t, F, G)) 2 (fun _ => rfl) ?_
    refine wp_C (i := 147) (pc' := 70) (Li := [.int a4, .float 0, .float 0]) (rest := []) (fun _ => rfl) h
theorem rg201_70 {t : Nat} {F : ip_F} {G : ip_G} {Q : Option Value → ip_M → Prop} {a1 a2 a3 a4 a5 as0 : Int32} (h : wp 201 71 [.ref 193, .int a1, .int a2, .int as0, .int a4, .int a5] [] (hs t, F, G) Q) : wp 201 70 [.ref 193, .int a1, .int a2, .int a3, .int a4, .int a5] [.int as0] (hs t, F, G) Q := by
  refine wp_N (j' := 201) (pc' := 71) (L' := [.ref 193, .int a1, .int a2, .int as0, .int a4, .int a5]) (S' := []) (M' := (hs t, F, G)) 0 (fun _ => rfl) ?_
  exact h
theorem rg201_71 {t : Nat} {F : ip_F} {G : ip_G} {Q : Option Value → ip_M → Prop} {a1 a2 a3 a4 a5 : Int32} (h : wp 201 13 [.ref 193, .int a1, .int a2, .int a3, .int (a4 + (1 : Int32)), .int a5] [] (hs t, F, G) Q) : wp 201 71 [.ref 193, .int a1, .int a2, .int a3, .int a4, .int a5] [] (hs t, F, G) Q := by
  refine wp_N (j' := 201) (pc' := 13) (L' := [.ref 193, .int a1, .int a2, .int a3, .int (a4 + (1 : Int32)), .int a5]) (S' := []) (M' := (hs t, F, G)) 1 (fun _ => rfl) ?_
  exact h
theorem rg202_0 {t : Nat} {F : ip_F} {G : ip_G} {Q : Option Value → ip_M → Prop} (h : wp 175 0 [.ref 193, .float 0, .float 0] [] (hs t, F, G) (fun v M' => wp 202 4 [.ref 193, .float 0, .float 0, .float 0, .float 0, .float 0] (v.toList ++ []) M' Q)) : wp 202 0 [.ref 193, .float 0, .float 0, .float 0, .float 0, .float 0] [] (hs t, F, G) Q := by
  refine wp_N (j' := 202) (pc' := 1) (L' := [.ref 193, .float 0, .float 0, .float 0, .float 0, .float 0]) (S' := [.ref 193]) (M' := (hs t, F, G)) 0 (fun _ => rfl) ?_
  refine wp_C (i := 175) (pc' := 4) (Li := [.ref 193, .float 0, .float 0]) (rest := []) (fun _ => rfl) h
theorem rg202_4 {t : Nat} {F : ip_F} {G : ip_G} {Q : Option Value → ip_M → Prop} {as0 : Int32} {v1 v2 v3 v4 v5 : Value} (h : wp 202 7 [.ref 193, .int as0, .int (0 : Int32), v3, v4, v5] [] (hs t, F, G) Q) : wp 202 4 [.ref 193, v1, v2, v3, v4, v5] [.int as0] (hs t, F, G) Q := by
  refine wp_N (j' := 202) (pc' := 7) (L' := [.ref 193, .int as0, .int (0 : Int32), v3, v4, v5]) (S' := []) (M' := (hs t, F, G)) 2 (fun _ => rfl) ?_
  exact h
theorem rg202_7 {t : Nat} {F : ip_F} {G : ip_G} {Q : Option Value → ip_M → Prop} {a1 a2 : Int32} {v3 v4 v5 : Value} (h : ((6 : Int32) ≤ a2 → wp 185 0 [.ref 193, .int a1, .float 0, .float 0] [] (hs t, F, G) (fun v M' => wp 202 43 [.ref 193, .int a1, .int a2, v3, v4, v5] (v.toList ++ []) M' Q)) ∧ (a2 < (6 : Int32) → (vp_in a2 6) ∧ ((vp_in a2 6) ∧ ((vp_in a2 6) ∧ (wp 202 7 [.ref 193, .int a1, .int (a2 + (1 : Int32)), v3, v4, v5] [] (hs t, (ip_u (ip_u F 209 (a2).toNatClampNeg (F 195 (a2).toNatClampNeg)) 195 (a2).toNatClampNeg (1 : Int32)), G) Q))))) : wp 202 7 [.ref 193, .int a1, .int a2, v3, v4, v5] [] (hs t, F, G) Q := by
  refine wp_N (j' := 202) (pc' := 10) (L' := [.ref 193, .int a1, .int a2, v3, v4, v5]) (S' := [.int (6 : Int32), .int a2]) (M' := (hs t, F, G)) 1 (fun _ => rfl) ?_
  refine wp_icmp (pc1 := 38) (c := .ge) rfl (fun hc => ?_) (fun hc => ?_)
  · replace h := h.1 hc
    refine wp_N (j' := 202) (pc' := 40) (L' := [.ref 193, .int a1, .int a2, v3, v4, v5]) (S' := [.int a1, .ref 193]) (M' := (hs t, F, G)) 1 (fun _ => rfl) ?_
    refine wp_C (i := 185) (pc' := 43) (Li := [.ref 193, .int a1, .float 0, .float 0]) (rest := []) (fun _ => rfl) h
  · replace h := h.2 (Int32.not_le.mp hc)
    refine wp_N (j' := 202) (pc' := 23) (L' := [.ref 193, .int a1, .int a2, v3, v4, v5]) (S' := [.int a2, .ref 195, .int a2, .ref 209]) (M' := (hs t, F, G)) 5 (fun _ => rfl) ?_
    obtain ⟨h1_, h⟩ := h
    refine wp_ial (m := (a2).toNatClampNeg) rfl rfl rfl h1_ ?_
    obtain ⟨h2_, h⟩ := h
    refine wp_ias (m := (a2).toNatClampNeg) rfl rfl rfl h2_ ?_
    refine wp_N (j' := 202) (pc' := 31) (L' := [.ref 193, .int a1, .int a2, v3, v4, v5]) (S' := [.int (1 : Int32), .int a2, .ref 195]) (M' := (hs t, (ip_u F 209 (a2).toNatClampNeg (F 195 (a2).toNatClampNeg)), G)) 3 (fun _ => rfl) ?_
    obtain ⟨h3_, h⟩ := h
    refine wp_ias (m := (a2).toNatClampNeg) rfl rfl rfl h3_ ?_
    refine wp_N (j' := 202) (pc' := 7) (L' := [.ref 193, .int a1, .int (a2 + (1 : Int32)), v3, v4, v5]) (S' := []) (M' := (hs t, (ip_u (ip_u F 209 (a2).toNatClampNeg (F 195 (a2).toNatClampNeg)) 195 (a2).toNatClampNeg (1 : Int32)), G)) 1 (fun _ => rfl) ?_
    exact h
theorem rg202_43 {t : Nat} {F : ip_F} {G : ip_G} {Q : Option Value → ip_M → Prop} {a1 a2 as0 : Int32} {v3 v4 v5 : Value} (h : wp 202 46 [.ref 193, .int a1, .int as0, .int (1 : Int32), v4, v5] [] (hs t, F, G) Q) : wp 202 43 [.ref 193, .int a1, .int a2, v3, v4, v5] [.int as0] (hs t, F, G) Q := by
  refine wp_N (j' := 202) (pc' := 46) (L' := [.ref 193, .int a1, .int as0, .int (1 : Int32), v4, v5]) (S' := []) (M' := (hs t, F, G)) 2 (fun _ => rfl) ?_
  exact h
theorem rg202_46 {t : Nat} {F : ip_F} {G : ip_G} {Q : Option Value → ip_M → Prop} {a1 a2 a3 : Int32} {v4 v5 : Value} (h : (¬ a2 = (0 : Int32) → wp 202 122 [.ref 193, .int a1, .int a2, .int a3, v4, v5] [] (hs t, F, G) Q) ∧ (a2 = (0 : Int32) → (a3 = (0 : Int32) → wp 202 122 [.ref 193, .int a1, .int a2, .int a3, v4, v5] [] (hs t, F, G) Q) ∧ (¬ a3 = (0 : Int32) → wp 202 57 [.ref 193, .int a1, .int a2, .int a3, .int (5 : Int32), v5] [] (hs t, F, G) Q))) : wp 202 46 [.ref 193, .int a1, .int a2, .int a3, v4, v5] [] (hs t, F, G) Q := by
  refine wp_N (j' := 202) (pc' := 47) (L' := [.ref 193, .int a1, .int a2, .int a3, v4, v5]) (S' := [.int a2]) (M' := (hs t, F, G)) 0 (fun _ => rfl) ?_
  refine wp_ifc (pc1 := 122) (c := .ne) rfl (fun hc => ?_) (fun hc => ?_)
  · replace h := h.1 hc
    exact h
  · replace h := h.2 (Decidable.not_not.mp hc)
    refine wp_N (j' := 202) (pc' := 51) (L' := [.ref 193, .int a1, .int a2, .int a3, v4, v5]) (S' := [.int a3]) (M' := (hs t, F, G)) 0 (fun _ => rfl) ?_
    refine wp_ifc (pc1 := 122) (c := .eq) rfl (fun hc => ?_) (fun hc => ?_)
    · replace h := h.1 hc
      exact h
    · replace h := h.2 hc
      refine wp_N (j' := 202) (pc' := 57) (L' := [.ref 193, .int a1, .int a2, .int a3, .int (5 : Int32), v5]) (S' := []) (M' := (hs t, F, G)) 1 (fun _ => rfl) ?_
      exact h
theorem rg202_57 {t : Nat} {F : ip_F} {G : ip_G} {Q : Option Value → ip_M → Prop} {a1 a2 a3 a4 : Int32} {v5 : Value} (h : (a4 < (0 : Int32) → wp 202 87 [.ref 193, .int a1, .int a2, .int a3, .int a4, v5] [] (hs t, F, G) Q) ∧ ((0 : Int32) ≤ a4 → (vp_in a4 6) ∧ ((¬ (F 195 (a4).toNatClampNeg) = (3 : Int32) → wp 202 87 [.ref 193, .int a1, .int a2, .int a3, .int a4, v5] [] (hs t, F, G) Q) ∧ ((F 195 (a4).toNatClampNeg) = (3 : Int32) → (vp_in a4 6) ∧ (wp 202 57 [.ref 193, .int a1, .int a2, .int a3, .int (a4 + (Int32.ofInt (-1))), v5] [] (hs t, (ip_u F 195 (a4).toNatClampNeg (1 : Int32)), G) Q))))) : wp 202 57 [.ref 193, .int a1, .int a2, .int a3, .int a4, v5] [] (hs t, F, G) Q := by
  refine wp_N (j' := 202) (pc' := 59) (L' := [.ref 193, .int a1, .int a2, .int a3, .int a4, v5]) (S' := [.int a4]) (M' := (hs t, F, G)) 0 (fun _ => rfl) ?_
  refine wp_ifc (pc1 := 87) (c := .lt) rfl (fun hc => ?_) (fun hc => ?_)
  · replace h := h.1 hc
    exact h
  · replace h := h.2 (Int32.not_lt.mp hc)
    refine wp_N (j' := 202) (pc' := 68) (L' := [.ref 193, .int a1, .int a2, .int a3, .int a4, v5]) (S' := [.int a4, .ref 195]) (M' := (hs t, F, G)) 2 (fun _ => rfl) ?_
    obtain ⟨h1_, h⟩ := h
    refine wp_ial (m := (a4).toNatClampNeg) rfl rfl rfl h1_ ?_
    refine wp_N (j' := 202) (pc' := 70) (L' := [.ref 193, .int a1, .int a2, .int a3, .int a4, v5]) (S' := [.int (3 : Int32), .int (F 195 (a4).toNatClampNeg)]) (M' := (hs t, F, G)) 0 (fun _ => rfl) ?_
    refine wp_icmp (pc1 := 87) (c := .ne) rfl (fun hc => ?_) (fun hc => ?_)
    · replace h := h.1 hc
      exact h
    · replace h := h.2 (Decidable.not_not.mp hc)
      refine wp_N (j' := 202) (pc' := 80) (L' := [.ref 193, .int a1, .int a2, .int a3, .int a4, v5]) (S' := [.int (1 : Int32), .int a4, .ref 195]) (M' := (hs t, F, G)) 3 (fun _ => rfl) ?_
      obtain ⟨h2_, h⟩ := h
      refine wp_ias (m := (a4).toNatClampNeg) rfl rfl rfl h2_ ?_
      refine wp_inc (k := 4) (n := -1) (L' := [.ref 193, .int a1, .int a2, .int a3, .int (a4 + (Int32.ofInt (-1))), v5]) rfl rfl rfl ?_
      refine wp_N (j' := 202) (pc' := 57) (L' := [.ref 193, .int a1, .int a2, .int a3, .int (a4 + (Int32.ofInt (-1))), v5]) (S' := []) (M' := (hs t, (ip_u F 195 (a4).toNatClampNeg (1 : Int32)), G)) 0 (fun _ => rfl) ?_
      exact h
theorem rg202_87 {t : Nat} {F : ip_F} {G : ip_G} {Q : Option Value → ip_M → Prop} {a1 a2 a3 a4 : Int32} {v5 : Value} (h : (a4 < (0 : Int32) → wp 202 97 [.ref 193, .int a1, .int a2, .int a3, .int a4, v5] [.int (0 : Int32)] (hs t, F, G) Q) ∧ ((0 : Int32) ≤ a4 → wp 202 97 [.ref 193, .int a1, .int a2, .int a3, .int a4, v5] [.int (1 : Int32)] (hs t, F, G) Q)) : wp 202 87 [.ref 193, .int a1, .int a2, .int a3, .int a4, v5] [] (hs t, F, G) Q := by
  refine wp_N (j' := 202) (pc' := 89) (L' := [.ref 193, .int a1, .int a2, .int a3, .int a4, v5]) (S' := [.int a4]) (M' := (hs t, F, G)) 0 (fun _ => rfl) ?_
  refine wp_ifc (pc1 := 96) (c := .lt) rfl (fun hc => ?_) (fun hc => ?_)
  · replace h := h.1 hc
    refine wp_N (j' := 202) (pc' := 97) (L' := [.ref 193, .int a1, .int a2, .int a3, .int a4, v5]) (S' := [.int (0 : Int32)]) (M' := (hs t, F, G)) 0 (fun _ => rfl) ?_
    exact h
  · replace h := h.2 (Int32.not_lt.mp hc)
    refine wp_N (j' := 202) (pc' := 97) (L' := [.ref 193, .int a1, .int a2, .int a3, .int a4, v5]) (S' := [.int (1 : Int32)]) (M' := (hs t, F, G)) 1 (fun _ => rfl) ?_
    exact h
theorem rg202_97 {t : Nat} {F : ip_F} {G : ip_G} {Q : Option Value → ip_M → Prop} {a1 a2 a3 a4 as0 : Int32} {v5 : Value} (h : (as0 = (0 : Int32) → wp 202 46 [.ref 193, .int a1, .int a2, .int as0, .int a4, v5] [] (hs t, F, G) Q) ∧ (¬ as0 = (0 : Int32) → (vp_in a4 6) ∧ ((vp_in a4 6) ∧ (wp 185 0 [.ref 193, .int a1, .float 0, .float 0] [] (hs t, (ip_u F 195 (a4).toNatClampNeg ((F 195 (a4).toNatClampNeg) + (1 : Int32))), G) (fun v M' => wp 202 118 [.ref 193, .int a1, .int a2, .int as0, .int a4, v5] (v.toList ++ []) M' Q))))) : wp 202 97 [.ref 193, .int a1, .int a2, .int a3, .int a4, v5] [.int as0] (hs t, F, G) Q := by
  refine wp_N (j' := 202) (pc' := 99) (L' := [.ref 193, .int a1, .int a2, .int as0, .int a4, v5]) (S' := [.int as0]) (M' := (hs t, F, G)) 1 (fun _ => rfl) ?_
  refine wp_ifc (pc1 := 119) (c := .eq) rfl (fun hc => ?_) (fun hc => ?_)
  · replace h := h.1 hc
    refine wp_N (j' := 202) (pc' := 46) (L' := [.ref 193, .int a1, .int a2, .int as0, .int a4, v5]) (S' := []) (M' := (hs t, F, G)) 0 (fun _ => rfl) ?_
    exact h
  · replace h := h.2 hc
    refine wp_N (j' := 202) (pc' := 109) (L' := [.ref 193, .int a1, .int a2, .int as0, .int a4, v5]) (S' := [.int a4, .ref 195, .int a4, .ref 195]) (M' := (hs t, F, G)) 3 (fun _ => rfl) ?_
    obtain ⟨h1_, h⟩ := h
    refine wp_ial (m := (a4).toNatClampNeg) rfl rfl rfl h1_ ?_
    refine wp_N (j' := 202) (pc' := 112) (L' := [.ref 193, .int a1, .int a2, .int as0, .int a4, v5]) (S' := [.int ((F 195 (a4).toNatClampNeg) + (1 : Int32)), .int a4, .ref 195]) (M' := (hs t, F, G)) 1 (fun _ => rfl) ?_
    obtain ⟨h2_, h⟩ := h
    refine wp_ias (m := (a4).toNatClampNeg) rfl rfl rfl h2_ ?_
    refine wp_N (j' := 202) (pc' := 115) (L' := [.ref 193, .int a1, .int a2, .int as0, .int a4, v5]) (S' := [.int a1, .ref 193]) (M' := (hs t, (ip_u F 195 (a4).toNatClampNeg ((F 195 (a4).toNatClampNeg) + (1 : Int32))), G)) 1 (fun _ => rfl) ?_
    refine wp_C (i := 185) (pc' := 118) (Li := [.ref 193, .int a1, .float 0, .float 0]) (rest := []) (fun _ => rfl) h
theorem rg202_118 {t : Nat} {F : ip_F} {G : ip_G} {Q : Option Value → ip_M → Prop} {a1 a2 a3 a4 as0 : Int32} {v5 : Value} (h : wp 202 46 [.ref 193, .int a1, .int as0, .int a3, .int a4, v5] [] (hs t, F, G) Q) : wp 202 118 [.ref 193, .int a1, .int a2, .int a3, .int a4, v5] [.int as0] (hs t, F, G) Q := by
  refine wp_N (j' := 202) (pc' := 46) (L' := [.ref 193, .int a1, .int as0, .int a3, .int a4, v5]) (S' := []) (M' := (hs t, F, G)) 1 (fun _ => rfl) ?_
  exact h
theorem rg202_122 {t : Nat} {F : ip_F} {G : ip_G} {Q : Option Value → ip_M → Prop} {a1 a2 a3 : Int32} {v4 v5 : Value} (h : wp 202 128 [.ref 193, .int a1, .int a2, .int a3, .int (0 : Int32), .int (0 : Int32)] [] (hs t, F, G) Q) : wp 202 122 [.ref 193, .int a1, .int a2, .int a3, v4, v5] [] (hs t, F, G) Q := by
  refine wp_N (j' := 202) (pc' := 128) (L' := [.ref 193, .int a1, .int a2, .int a3, .int (0 : Int32), .int (0 : Int32)]) (S' := []) (M' := (hs t, F, G)) 3 (fun _ => rfl) ?_
  exact h
theorem rg202_128 {t : Nat} {F : ip_F} {G : ip_G} {Q : Option Value → ip_M → Prop} {a1 a2 a3 a4 a5 : Int32} (h : ((6 : Int32) ≤ a5 → (a2 = (0 : Int32) → Q (some (.int (-1 : Int32))) (hs t, F, G)) ∧ (¬ a2 = (0 : Int32) → Q (some (.int a4)) (hs t, F, G))) ∧ (a5 < (6 : Int32) → (vp_in a5 6) ∧ ((vp_in a5 6) ∧ ((vp_in a5 6) ∧ (wp 202 128 [.ref 193, .int a1, .int a2, .int a3, .int (((10 : Int32) * a4) + (F 195 (a5).toNatClampNeg)), .int (a5 + (1 : Int32))] [] (hs t, (ip_u F 195 (a5).toNatClampNeg (F 209 (a5).toNatClampNeg)), G) Q))))) : wp 202 128 [.ref 193, .int a1, .int a2, .int a3, .int a4, .int a5] [] (hs t, F, G) Q := by
  refine wp_N (j' := 202) (pc' := 132) (L' := [.ref 193, .int a1, .int a2, .int a3, .int a4, .int a5]) (S' := [.int (6 : Int32), .int a5]) (M' := (hs t, F, G)) 1 (fun _ => rfl) ?_
  refine wp_icmp (pc1 := 170) (c := .ge) rfl (fun hc => ?_) (fun hc => ?_)
  · replace h := h.1 hc
    refine wp_N (j' := 202) (pc' := 171) (L' := [.ref 193, .int a1, .int a2, .int a3, .int a4, .int a5]) (S' := [.int a2]) (M' := (hs t, F, G)) 0 (fun _ => rfl) ?_
    refine wp_ifc (pc1 := 179) (c := .eq) rfl (fun hc => ?_) (fun hc => ?_)
    · replace h := h.1 hc
      refine wp_N (j' := 202) (pc' := 180) (L' := [.ref 193, .int a1, .int a2, .int a3, .int a4, .int a5]) (S' := [.int (-1 : Int32)]) (M' := (hs t, F, G)) 0 (fun _ => rfl) ?_
      exact wp_RI rfl rfl h
    · replace h := h.2 hc
      refine wp_N (j' := 202) (pc' := 180) (L' := [.ref 193, .int a1, .int a2, .int a3, .int a4, .int a5]) (S' := [.int a4]) (M' := (hs t, F, G)) 1 (fun _ => rfl) ?_
      exact wp_RI rfl rfl h
  · replace h := h.2 (Int32.not_le.mp hc)
    refine wp_N (j' := 202) (pc' := 146) (L' := [.ref 193, .int a1, .int a2, .int a3, .int a4, .int a5]) (S' := [.int a5, .ref 195, .int ((10 : Int32) * a4)]) (M' := (hs t, F, G)) 5 (fun _ => rfl) ?_
    obtain ⟨h1_, h⟩ := h
    refine wp_ial (m := (a5).toNatClampNeg) rfl rfl rfl h1_ ?_
    refine wp_N (j' := 202) (pc' := 162) (L' := [.ref 193, .int a1, .int a2, .int a3, .int (((10 : Int32) * a4) + (F 195 (a5).toNatClampNeg)), .int a5]) (S' := [.int a5, .ref 209, .int a5, .ref 195]) (M' := (hs t, F, G)) 7 (fun _ => rfl) ?_
    obtain ⟨h2_, h⟩ := h
    refine wp_ial (m := (a5).toNatClampNeg) rfl rfl rfl h2_ ?_
    obtain ⟨h3_, h⟩ := h
    refine wp_ias (m := (a5).toNatClampNeg) rfl rfl rfl h3_ ?_
    refine wp_N (j' := 202) (pc' := 128) (L' := [.ref 193, .int a1, .int a2, .int a3, .int (((10 : Int32) * a4) + (F 195 (a5).toNatClampNeg)), .int (a5 + (1 : Int32))]) (S' := []) (M' := (hs t, (ip_u F 195 (a5).toNatClampNeg (F 209 (a5).toNatClampNeg)), G)) 1 (fun _ => rfl) ?_
    exact h
theorem rg203_0 {t : Nat} {F : ip_F} {G : ip_G} {Q : Option Value → ip_M → Prop} (h : wp 187 0 [.ref 193, .ref 208, .int (0 : Int32), .float 0] [] (hs t, F, G) (fun v M' => wp 203 9 [.ref 193, .float 0, .float 0] (v.toList ++ []) M' Q)) : wp 203 0 [.ref 193, .float 0, .float 0] [] (hs t, F, G) Q := by
  refine wp_N (j' := 203) (pc' := 6) (L' := [.ref 193, .float 0, .float 0]) (S' := [.int (0 : Int32), .ref 208, .ref 193]) (M' := (hs t, F, G)) 3 (fun _ => rfl) ?_
  refine wp_C (i := 187) (pc' := 9) (Li := [.ref 193, .ref 208, .int (0 : Int32), .float 0]) (rest := []) (fun _ => rfl) h
theorem rg203_9 {t : Nat} {F : ip_F} {G : ip_G} {Q : Option Value → ip_M → Prop} {v1 v2 : Value} (h : wp 175 0 [.ref 193, .float 0, .float 0] [] (hs t, F, G) (fun v M' => wp 203 16 [.ref 193, .int (0 : Int32), v2] (v.toList ++ [.ref 193]) M' Q)) : wp 203 9 [.ref 193, v1, v2] [] (hs t, F, G) Q := by
  refine wp_N (j' := 203) (pc' := 13) (L' := [.ref 193, .int (0 : Int32), v2]) (S' := [.ref 193, .ref 193]) (M' := (hs t, F, G)) 3 (fun _ => rfl) ?_
  refine wp_C (i := 175) (pc' := 16) (Li := [.ref 193, .float 0, .float 0]) (rest := [.ref 193]) (fun _ => rfl) h
theorem rg203_16 {t : Nat} {F : ip_F} {G : ip_G} {Q : Option Value → ip_M → Prop} {a1 as1 : Int32} {v2 : Value} (h : wp 185 0 [.ref 193, .int as1, .float 0, .float 0] [] (hs t, F, G) (fun v M' => wp 203 19 [.ref 193, .int a1, v2] (v.toList ++ []) M' Q)) : wp 203 16 [.ref 193, .int a1, v2] [.int as1, .ref 193] (hs t, F, G) Q := by
  refine wp_C (i := 185) (pc' := 19) (Li := [.ref 193, .int as1, .float 0, .float 0]) (rest := []) (fun _ => rfl) h
theorem rg203_19 {t : Nat} {F : ip_F} {G : ip_G} {Q : Option Value → ip_M → Prop} {a1 as0 : Int32} {v2 : Value} (h : wp 203 20 [.ref 193, .int a1, .int as0] [] (hs t, F, G) Q) : wp 203 19 [.ref 193, .int a1, v2] [.int as0] (hs t, F, G) Q := by
  refine wp_N (j' := 203) (pc' := 20) (L' := [.ref 193, .int a1, .int as0]) (S' := []) (M' := (hs t, F, G)) 0 (fun _ => rfl) ?_
  exact h
theorem rg203_20 {t : Nat} {F : ip_F} {G : ip_G} {Q : Option Value → ip_M → Prop} {a1 a2 : Int32} (h : ((60 : Int32) ≤ a1 → wp 203 49 [.ref 193, .int a1, .int a2] [] (hs t, F, G) Q) ∧ (a1 < (60 : Int32) → (¬ a2 = (0 : Int32) → wp 203 49 [.ref 193, .int a1, .int a2] [] (hs t, F, G) Q) ∧ (a2 = (0 : Int32) → wp 190 0 [.ref 193, .float 0] [] (hs t, F, G) (fun v M' => wp 203 34 [.ref 193, .int a1, .int a2] (v.toList ++ []) M' Q)))) : wp 203 20 [.ref 193, .int a1, .int a2] [] (hs t, F, G) Q := by
  refine wp_N (j' := 203) (pc' := 23) (L' := [.ref 193, .int a1, .int a2]) (S' := [.int (60 : Int32), .int a1]) (M' := (hs t, F, G)) 1 (fun _ => rfl) ?_
  refine wp_icmp (pc1 := 49) (c := .ge) rfl (fun hc => ?_) (fun hc => ?_)
  · replace h := h.1 hc
    exact h
  · replace h := h.2 (Int32.not_le.mp hc)
    refine wp_N (j' := 203) (pc' := 27) (L' := [.ref 193, .int a1, .int a2]) (S' := [.int a2]) (M' := (hs t, F, G)) 0 (fun _ => rfl) ?_
    refine wp_ifc (pc1 := 49) (c := .ne) rfl (fun hc => ?_) (fun hc => ?_)
    · replace h := h.1 hc
      exact h
    · replace h := h.2 (Decidable.not_not.mp hc)
      refine wp_N (j' := 203) (pc' := 31) (L' := [.ref 193, .int a1, .int a2]) (S' := [.ref 193]) (M' := (hs t, F, G)) 0 (fun _ => rfl) ?_
      refine wp_C (i := 190) (pc' := 34) (Li := [.ref 193, .float 0]) (rest := []) (fun _ => rfl) h
theorem rg203_34 {t : Nat} {F : ip_F} {G : ip_G} {Q : Option Value → ip_M → Prop} {a1 a2 : Int32} (h : wp 175 0 [.ref 193, .float 0, .float 0] [] (hs t, F, G) (fun v M' => wp 203 42 [.ref 193, .int (a1 + (1 : Int32)), .int a2] (v.toList ++ [.ref 193]) M' Q)) : wp 203 34 [.ref 193, .int a1, .int a2] [] (hs t, F, G) Q := by
  refine wp_N (j' := 203) (pc' := 39) (L' := [.ref 193, .int (a1 + (1 : Int32)), .int a2]) (S' := [.ref 193, .ref 193]) (M' := (hs t, F, G)) 2 (fun _ => rfl) ?_
  refine wp_C (i := 175) (pc' := 42) (Li := [.ref 193, .float 0, .float 0]) (rest := [.ref 193]) (fun _ => rfl) h
theorem rg203_42 {t : Nat} {F : ip_F} {G : ip_G} {Q : Option Value → ip_M → Prop} {a1 a2 as1 : Int32} (h : wp 185 0 [.ref 193, .int as1, .float 0, .float 0] [] (hs t, F, G) (fun v M' => wp 203 45 [.ref 193, .int a1, .int a2] (v.toList ++ []) M' Q)) : wp 203 42 [.ref 193, .int a1, .int a2] [.int as1, .ref 193] (hs t, F, G) Q := by
  refine wp_C (i := 185) (pc' := 45) (Li := [.ref 193, .int as1, .float 0, .float 0]) (rest := []) (fun _ => rfl) h
theorem rg203_45 {t : Nat} {F : ip_F} {G : ip_G} {Q : Option Value → ip_M → Prop} {a1 a2 as0 : Int32} (h : wp 203 20 [.ref 193, .int a1, .int as0] [] (hs t, F, G) Q) : wp 203 45 [.ref 193, .int a1, .int a2] [.int as0] (hs t, F, G) Q := by
  refine wp_N (j' := 203) (pc' := 20) (L' := [.ref 193, .int a1, .int as0]) (S' := []) (M' := (hs t, F, G)) 1 (fun _ => rfl) ?_
  exact h
theorem rg203_49 {t : Nat} {F : ip_F} {G : ip_G} {Q : Option Value → ip_M → Prop} {a1 a2 : Int32} (h : wp 188 0 [.ref 193, .ref 208, .int (0 : Int32), .float 0] [] (hs t, F, G) (fun v M' => wp 203 58 [.ref 193, .int a1, .int a2] (v.toList ++ []) M' Q)) : wp 203 49 [.ref 193, .int a1, .int a2] [] (hs t, F, G) Q := by
  refine wp_N (j' := 203) (pc' := 55) (L' := [.ref 193, .int a1, .int a2]) (S' := [.int (0 : Int32), .ref 208, .ref 193]) (M' := (hs t, F, G)) 3 (fun _ => rfl) ?_
  refine wp_C (i := 188) (pc' := 58) (Li := [.ref 193, .ref 208, .int (0 : Int32), .float 0]) (rest := []) (fun _ => rfl) h
theorem rg203_58 {t : Nat} {F : ip_F} {G : ip_G} {Q : Option Value → ip_M → Prop} {a1 a2 : Int32} (h : (a2 = (0 : Int32) → Q (some (.int (-1 : Int32))) (hs t, F, G)) ∧ (¬ a2 = (0 : Int32) → Q (some (.int a1)) (hs t, F, G))) : wp 203 58 [.ref 193, .int a1, .int a2] [] (hs t, F, G) Q := by
  refine wp_N (j' := 203) (pc' := 59) (L' := [.ref 193, .int a1, .int a2]) (S' := [.int a2]) (M' := (hs t, F, G)) 0 (fun _ => rfl) ?_
  refine wp_ifc (pc1 := 66) (c := .eq) rfl (fun hc => ?_) (fun hc => ?_)
  · replace h := h.1 hc
    refine wp_N (j' := 203) (pc' := 67) (L' := [.ref 193, .int a1, .int a2]) (S' := [.int (-1 : Int32)]) (M' := (hs t, F, G)) 0 (fun _ => rfl) ?_
    exact wp_RI rfl rfl h
  · replace h := h.2 hc
    refine wp_N (j' := 203) (pc' := 67) (L' := [.ref 193, .int a1, .int a2]) (S' := [.int a1]) (M' := (hs t, F, G)) 1 (fun _ => rfl) ?_
    exact wp_RI rfl rfl h
theorem rg204_0 {t : Nat} {F : ip_F} {G : ip_G} {Q : Option Value → ip_M → Prop} (h : wp 175 0 [.ref 193, .float 0, .float 0] [] (hs t, F, G) (fun v M' => wp 204 12 [.ref 193] (v.toList ++ [.int (((1 : Int32) <<< ((F 193 1) &&& 31)) - (1 : Int32))]) M' Q)) : wp 204 0 [.ref 193] [] (hs t, F, G) Q := by
  refine wp_N (j' := 204) (pc' := 9) (L' := [.ref 193]) (S' := [.ref 193, .int (((1 : Int32) <<< ((F 193 1) &&& 31)) - (1 : Int32))]) (M' := (hs t, F, G)) 6 (fun _ => rfl) ?_
  refine wp_C (i := 175) (pc' := 12) (Li := [.ref 193, .float 0, .float 0]) (rest := [.int (((1 : Int32) <<< ((F 193 1) &&& 31)) - (1 : Int32))]) (fun _ => rfl) h
theorem rg204_12 {t : Nat} {F : ip_F} {G : ip_G} {Q : Option Value → ip_M → Prop} {as0 as1 : Int32} (h : Q (some (.int (as0 &&& (as1 ^^^ (-1 : Int32))))) (hs t, F, G)) : wp 204 12 [.ref 193] [.int as1, .int as0] (hs t, F, G) Q := by
  refine wp_N (j' := 204) (pc' := 15) (L' := [.ref 193]) (S' := [.int (as0 &&& (as1 ^^^ (-1 : Int32)))]) (M' := (hs t, F, G)) 2 (fun _ => rfl) ?_
  exact wp_RI rfl rfl h
theorem rg205_0 {t : Nat} {F : ip_F} {G : ip_G} {Q : Option Value → ip_M → Prop} {a1 : Int32} (h : wp 205 7 [.ref 193, .int a1, .int (0 : Int32), .int a1, .int (0 : Int32), .float 0] [] (hs t, F, G) Q) : wp 205 0 [.ref 193, .int a1, .float 0, .float 0, .float 0, .float 0] [] (hs t, F, G) Q := by
  refine wp_N (j' := 205) (pc' := 7) (L' := [.ref 193, .int a1, .int (0 : Int32), .int a1, .int (0 : Int32), .float 0]) (S' := []) (M' := (hs t, F, G)) 5 (fun _ => rfl) ?_
  exact h
theorem rg205_7 {t : Nat} {F : ip_F} {G : ip_G} {Q : Option Value → ip_M → Prop} {a1 a2 a3 a4 : Int32} {v5 : Value} (h : ((F 193 1) ≤ a4 → (a1 ≤ (0 : Int32) → Q (some (.int (0 : Int32))) (hs t, F, G)) ∧ ((0 : Int32) < a1 → (¬ a3 = (0 : Int32) → Q (some (.int (0 : Int32))) (hs t, F, G)) ∧ (a3 = (0 : Int32) → Q (some (.int (1 : Int32))) (hs t, F, G)))) ∧ (a4 < (F 193 1) → wp 143 0 [.int (a3 - a3 / (10 : Int32) * (10 : Int32)), .int (1 : Int32), .int (F 193 1)] [] (hs t, F, G) (fun v M' => wp 205 37 [.ref 193, .int a1, .int a2, .int (a3 / (10 : Int32)), .int a4, .int (a3 - a3 / (10 : Int32) * (10 : Int32))] (v.toList ++ []) M' Q))) : wp 205 7 [.ref 193, .int a1, .int a2, .int a3, .int a4, v5] [] (hs t, F, G) Q := by
  refine wp_N (j' := 205) (pc' := 13) (L' := [.ref 193, .int a1, .int a2, .int a3, .int a4, v5]) (S' := [.int (F 193 1), .int a4]) (M' := (hs t, F, G)) 2 (fun _ => rfl) ?_
  refine wp_icmp (pc1 := 64) (c := .ge) rfl (fun hc => ?_) (fun hc => ?_)
  · replace h := h.1 hc
    refine wp_N (j' := 205) (pc' := 65) (L' := [.ref 193, .int a1, .int a2, .int a3, .int a4, v5]) (S' := [.int a1]) (M' := (hs t, F, G)) 0 (fun _ => rfl) ?_
    refine wp_ifc (pc1 := 76) (c := .le) rfl (fun hc => ?_) (fun hc => ?_)
    · replace h := h.1 hc
      refine wp_N (j' := 205) (pc' := 77) (L' := [.ref 193, .int a1, .int a2, .int a3, .int a4, v5]) (S' := [.int (0 : Int32)]) (M' := (hs t, F, G)) 0 (fun _ => rfl) ?_
      exact wp_RZ rfl rfl (by decide) h
    · replace h := h.2 (Int32.not_le.mp hc)
      refine wp_N (j' := 205) (pc' := 69) (L' := [.ref 193, .int a1, .int a2, .int a3, .int a4, v5]) (S' := [.int a3]) (M' := (hs t, F, G)) 0 (fun _ => rfl) ?_
      refine wp_ifc (pc1 := 76) (c := .ne) rfl (fun hc => ?_) (fun hc => ?_)
      · replace h := h.1 hc
        refine wp_N (j' := 205) (pc' := 77) (L' := [.ref 193, .int a1, .int a2, .int a3, .int a4, v5]) (S' := [.int (0 : Int32)]) (M' := (hs t, F, G)) 0 (fun _ => rfl) ?_
        exact wp_RZ rfl rfl (by decide) h
      · replace h := h.2 (Decidable.not_not.mp hc)
        refine wp_N (j' := 205) (pc' := 77) (L' := [.ref 193, .int a1, .int a2, .int a3, .int a4, v5]) (S' := [.int (1 : Int32)]) (M' := (hs t, F, G)) 1 (fun _ => rfl) ?_
        exact wp_RZ rfl rfl (by decide) h
  · replace h := h.2 (Int32.not_le.mp hc)
    refine wp_N (j' := 205) (pc' := 19) (L' := [.ref 193, .int a1, .int a2, .int a3, .int a4, v5]) (S' := [.int (10 : Int32), .int a3]) (M' := (hs t, F, G)) 1 (fun _ => rfl) ?_
    refine wp_irem rfl (by decide) ?_
    refine wp_N (j' := 205) (pc' := 25) (L' := [.ref 193, .int a1, .int a2, .int a3, .int a4, .int (a3 - a3 / (10 : Int32) * (10 : Int32))]) (S' := [.int (10 : Int32), .int a3]) (M' := (hs t, F, G)) 2 (fun _ => rfl) ?_
    refine wp_idiv rfl (by decide) ?_
    refine wp_N (j' := 205) (pc' := 34) (L' := [.ref 193, .int a1, .int a2, .int (a3 / (10 : Int32)), .int a4, .int (a3 - a3 / (10 : Int32) * (10 : Int32))]) (S' := [.int (F 193 1), .int (1 : Int32), .int (a3 - a3 / (10 : Int32) * (10 : Int32))]) (M' := (hs t, F, G)) 4 (fun _ => rfl) ?_
    refine wp_C (i := 143) (pc' := 37) (Li := [.int (a3 - a3 / (10 : Int32) * (10 : Int32)), .int (1 : Int32), .int (F 193 1)]) (rest := []) (fun _ => rfl) h
theorem rg205_37 {t : Nat} {F : ip_F} {G : ip_G} {Q : Option Value → ip_M → Prop} {a1 a2 a3 a4 a5 as0 : Int32} (h : (as0 = (0 : Int32) → Q (some (.int (0 : Int32))) (hs t, F, G)) ∧ (¬ as0 = (0 : Int32) → wp 144 0 [.int a2, .int a5] [] (hs t, F, G) (fun v M' => wp 205 46 [.ref 193, .int a1, .int a2, .int a3, .int a4, .int a5] (v.toList ++ []) M' Q))) : wp 205 37 [.ref 193, .int a1, .int a2, .int a3, .int a4, .int a5] [.int as0] (hs t, F, G) Q := by
  refine wp_ifc (pc1 := 49) (c := .eq) rfl (fun hc => ?_) (fun hc => ?_)
  · replace h := h.1 hc
    refine wp_N (j' := 205) (pc' := 50) (L' := [.ref 193, .int a1, .int a2, .int a3, .int a4, .int a5]) (S' := [.int (0 : Int32)]) (M' := (hs t, F, G)) 0 (fun _ => rfl) ?_
    exact wp_RZ rfl rfl (by decide) h
  · replace h := h.2 hc
    refine wp_N (j' := 205) (pc' := 43) (L' := [.ref 193, .int a1, .int a2, .int a3, .int a4, .int a5]) (S' := [.int a5, .int a2]) (M' := (hs t, F, G)) 1 (fun _ => rfl) ?_
    refine wp_C (i := 144) (pc' := 46) (Li := [.int a2, .int a5]) (rest := []) (fun _ => rfl) h
theorem rg205_46 {t : Nat} {F : ip_F} {G : ip_G} {Q : Option Value → ip_M → Prop} {a1 a2 a3 a4 a5 as0 : Int32} (h : (as0 = (0 : Int32) → wp 205 7 [.ref 193, .int a1, .int (a2 ||| ((1 : Int32) <<< (a5 &&& 31))), .int a3, .int (a4 + (1 : Int32)), .int a5] [] (hs t, F, G) Q) ∧ (¬ as0 = (0 : Int32) → Q (some (.int (0 : Int32))) (hs t, F, G))) : wp 205 46 [.ref 193, .int a1, .int a2, .int a3, .int a4, .int a5] [.int as0] (hs t, F, G) Q := by
  refine wp_ifc (pc1 := 51) (c := .eq) rfl (fun hc => ?_) (fun hc => ?_)
  · replace h := h.1 hc
    refine wp_N (j' := 205) (pc' := 7) (L' := [.ref 193, .int a1, .int (a2 ||| ((1 : Int32) <<< (a5 &&& 31))), .int a3, .int (a4 + (1 : Int32)), .int a5]) (S' := []) (M' := (hs t, F, G)) 7 (fun _ => rfl) ?_
    exact h
  · replace h := h.2 hc
    refine wp_N (j' := 205) (pc' := 50) (L' := [.ref 193, .int a1, .int a2, .int a3, .int a4, .int a5]) (S' := [.int (0 : Int32)]) (M' := (hs t, F, G)) 0 (fun _ => rfl) ?_
    exact wp_RZ rfl rfl (by decide) h
theorem rg206_0 {t : Nat} {F : ip_F} {G : ip_G} {Q : Option Value → ip_M → Prop} {a1 a2 : Int32} (h : wp 143 0 [.int a1, .int (1 : Int32), .int (11 : Int32)] [] (hs t, F, G) (fun v M' => wp 206 7 [.ref 193, .int a1, .int a2] (v.toList ++ []) M' Q)) : wp 206 0 [.ref 193, .int a1, .int a2] [] (hs t, F, G) Q := by
  refine wp_N (j' := 206) (pc' := 4) (L' := [.ref 193, .int a1, .int a2]) (S' := [.int (11 : Int32), .int (1 : Int32), .int a1]) (M' := (hs t, F, G)) 2 (fun _ => rfl) ?_
  refine wp_C (i := 143) (pc' := 7) (Li := [.int a1, .int (1 : Int32), .int (11 : Int32)]) (rest := []) (fun _ => rfl) h
theorem rg206_7 {t : Nat} {F : ip_F} {G : ip_G} {Q : Option Value → ip_M → Prop} {a1 a2 as0 : Int32} (h : (as0 = (0 : Int32) → wp 206 18 [.ref 193, .int a1, .int a2] [] (hs t, F, G) Q) ∧ (¬ as0 = (0 : Int32) → wp 205 0 [.ref 193, .int a2, .float 0, .float 0, .float 0, .float 0] [] (hs t, F, G) (fun v M' => wp 206 15 [.ref 193, .int a1, .int a2] (v.toList ++ []) M' Q))) : wp 206 7 [.ref 193, .int a1, .int a2] [.int as0] (hs t, F, G) Q := by
  refine wp_ifc (pc1 := 18) (c := .eq) rfl (fun hc => ?_) (fun hc => ?_)
  · replace h := h.1 hc
    exact h
  · replace h := h.2 hc
    refine wp_N (j' := 206) (pc' := 12) (L' := [.ref 193, .int a1, .int a2]) (S' := [.int a2, .ref 193]) (M' := (hs t, F, G)) 1 (fun _ => rfl) ?_
    refine wp_C (i := 205) (pc' := 15) (Li := [.ref 193, .int a2, .float 0, .float 0, .float 0, .float 0]) (rest := []) (fun _ => rfl) h
theorem rg206_15 {t : Nat} {F : ip_F} {G : ip_G} {Q : Option Value → ip_M → Prop} {a1 a2 as0 : Int32} (h : (¬ as0 = (0 : Int32) → (¬ (F 193 3) = (4 : Int32) → (vp_in ((2 : Int32) * (F 193 3)) 8) ∧ ((vp_in (((2 : Int32) * ((ip_u F 200 (((2 : Int32) * (F 193 3))).toNatClampNeg a1) 193 3)) + (1 : Int32)) 8) ∧ (Q (some (.int ((ip_u (ip_u (ip_u F 200 (((2 : Int32) * (F 193 3))).toNatClampNeg a1) 200 ((((2 : Int32) * ((ip_u F 200 (((2 : Int32) * (F 193 3))).toNatClampNeg a1) 193 3)) + (1 : Int32))).toNatClampNeg a2) 193 3 (((ip_u (ip_u F 200 (((2 : Int32) * (F 193 3))).toNatClampNeg a1) 200 ((((2 : Int32) * ((ip_u F 200 (((2 : Int32) * (F 193 3))).toNatClampNeg a1) 193 3)) + (1 : Int32))).toNatClampNeg a2) 193 3) + (1 : Int32))) 193 3))) (hs t, (ip_u (ip_u (ip_u F 200 (((2 : Int32) * (F 193 3))).toNatClampNeg a1) 200 ((((2 : Int32) * ((ip_u F 200 (((2 : Int32) * (F 193 3))).toNatClampNeg a1) 193 3)) + (1 : Int32))).toNatClampNeg a2) 193 3 (((ip_u (ip_u F 200 (((2 : Int32) * (F 193 3))).toNatClampNeg a1) 200 ((((2 : Int32) * ((ip_u F 200 (((2 : Int32) * (F 193 3))).toNatClampNeg a1) 193 3)) + (1 : Int32))).toNatClampNeg a2) 193 3) + (1 : Int32))), G)))) ∧ ((F 193 3) = (4 : Int32) → wp 142 0 [.ref 193] [] (hs t, F, G) (fun v M' => wp 206 35 [.ref 193, .int a1, .int a2] (v.toList ++ []) M' Q))) ∧ (as0 = (0 : Int32) → wp 206 18 [.ref 193, .int a1, .int a2] [] (hs t, F, G) Q)) : wp 206 15 [.ref 193, .int a1, .int a2] [.int as0] (hs t, F, G) Q := by
  refine wp_ifc (pc1 := 23) (c := .ne) rfl (fun hc => ?_) (fun hc => ?_)
  · replace h := h.1 hc
    refine wp_N (j' := 206) (pc' := 28) (L' := [.ref 193, .int a1, .int a2]) (S' := [.int (4 : Int32), .int (F 193 3)]) (M' := (hs t, F, G)) 2 (fun _ => rfl) ?_
    refine wp_icmp (pc1 := 36) (c := .ne) rfl (fun hc => ?_) (fun hc => ?_)
    · replace h := h.1 hc
      refine wp_N (j' := 206) (pc' := 47) (L' := [.ref 193, .int a1, .int a2]) (S' := [.int a1, .int ((2 : Int32) * (F 193 3)), .ref 200]) (M' := (hs t, F, G)) 6 (fun _ => rfl) ?_
      obtain ⟨h1_, h⟩ := h
      refine wp_ias (m := (((2 : Int32) * (F 193 3))).toNatClampNeg) rfl rfl rfl h1_ ?_
      refine wp_N (j' := 206) (pc' := 61) (L' := [.ref 193, .int a1, .int a2]) (S' := [.int a2, .int (((2 : Int32) * ((ip_u F 200 (((2 : Int32) * (F 193 3))).toNatClampNeg a1) 193 3)) + (1 : Int32)), .ref 200]) (M' := (hs t, (ip_u F 200 (((2 : Int32) * (F 193 3))).toNatClampNeg a1), G)) 8 (fun _ => rfl) ?_
      obtain ⟨h2_, h⟩ := h
      refine wp_ias (m := ((((2 : Int32) * ((ip_u F 200 (((2 : Int32) * (F 193 3))).toNatClampNeg a1) 193 3)) + (1 : Int32))).toNatClampNeg) rfl rfl rfl h2_ ?_
      refine wp_N (j' := 206) (pc' := 69) (L' := [.ref 193, .int a1, .int a2]) (S' := [.int (((ip_u (ip_u F 200 (((2 : Int32) * (F 193 3))).toNatClampNeg a1) 200 ((((2 : Int32) * ((ip_u F 200 (((2 : Int32) * (F 193 3))).toNatClampNeg a1) 193 3)) + (1 : Int32))).toNatClampNeg a2) 193 3) + (1 : Int32)), .ref 193]) (M' := (hs t, (ip_u (ip_u F 200 (((2 : Int32) * (F 193 3))).toNatClampNeg a1) 200 ((((2 : Int32) * ((ip_u F 200 (((2 : Int32) * (F 193 3))).toNatClampNeg a1) 193 3)) + (1 : Int32))).toNatClampNeg a2), G)) 4 (fun _ => rfl) ?_
      refine wp_putI rfl rfl rfl rfl rfl rfl (by decide) ?_
      refine wp_N (j' := 206) (pc' := 76) (L' := [.ref 193, .int a1, .int a2]) (S' := [.int ((ip_u (ip_u (ip_u F 200 (((2 : Int32) * (F 193 3))).toNatClampNeg a1) 200 ((((2 : Int32) * ((ip_u F 200 (((2 : Int32) * (F 193 3))).toNatClampNeg a1) 193 3)) + (1 : Int32))).toNatClampNeg a2) 193 3 (((ip_u (ip_u F 200 (((2 : Int32) * (F 193 3))).toNatClampNeg a1) 200 ((((2 : Int32) * ((ip_u F 200 (((2 : Int32) * (F 193 3))).toNatClampNeg a1) 193 3)) + (1 : Int32))).toNatClampNeg a2) 193 3) + (1 : Int32))) 193 3)]) (M' := (hs t, (ip_u (ip_u (ip_u F 200 (((2 : Int32) * (F 193 3))).toNatClampNeg a1) 200 ((((2 : Int32) * ((ip_u F 200 (((2 : Int32) * (F 193 3))).toNatClampNeg a1) 193 3)) + (1 : Int32))).toNatClampNeg a2) 193 3 (((ip_u (ip_u F 200 (((2 : Int32) * (F 193 3))).toNatClampNeg a1) 200 ((((2 : Int32) * ((ip_u F 200 (((2 : Int32) * (F 193 3))).toNatClampNeg a1) 193 3)) + (1 : Int32))).toNatClampNeg a2) 193 3) + (1 : Int32))), G)) 1 (fun _ => rfl) ?_
      exact wp_RI rfl rfl h
    · replace h := h.2 (Decidable.not_not.mp hc)
      refine wp_N (j' := 206) (pc' := 32) (L' := [.ref 193, .int a1, .int a2]) (S' := [.ref 193]) (M' := (hs t, F, G)) 0 (fun _ => rfl) ?_
      refine wp_C (i := 142) (pc' := 35) (Li := [.ref 193]) (rest := []) (fun _ => rfl) h
  · replace h := h.2 (Decidable.not_not.mp hc)
    exact h
theorem rg206_18 {t : Nat} {F : ip_F} {G : ip_G} {Q : Option Value → ip_M → Prop} {a1 a2 : Int32} (h : wp 140 0 [.ref 193] [] (hs t, F, G) (fun v M' => wp 206 22 [.ref 193, .int a1, .int a2] (v.toList ++ []) M' Q)) : wp 206 18 [.ref 193, .int a1, .int a2] [] (hs t, F, G) Q := by
  refine wp_N (j' := 206) (pc' := 19) (L' := [.ref 193, .int a1, .int a2]) (S' := [.ref 193]) (M' := (hs t, F, G)) 0 (fun _ => rfl) ?_
  refine wp_C (i := 140) (pc' := 22) (Li := [.ref 193]) (rest := []) (fun _ => rfl) h
theorem rg206_22 {t : Nat} {F : ip_F} {G : ip_G} {Q : Option Value → ip_M → Prop} {a1 a2 as0 : Int32} (h : Q (some (.int as0)) (hs t, F, G)) : wp 206 22 [.ref 193, .int a1, .int a2] [.int as0] (hs t, F, G) Q := by
  exact wp_RI rfl rfl h
theorem rg206_35 {t : Nat} {F : ip_F} {G : ip_G} {Q : Option Value → ip_M → Prop} {a1 a2 as0 : Int32} (h : Q (some (.int as0)) (hs t, F, G)) : wp 206 35 [.ref 193, .int a1, .int a2] [.int as0] (hs t, F, G) Q := by
  exact wp_RI rfl rfl h
theorem rg207_0 {t : Nat} {F : ip_F} {G : ip_G} {Q : Option Value → ip_M → Prop} {a1 : Int32} (h : wp 207 4 [.ref 193, .int a1, .int (1 : Int32), .int (0 : Int32)] [] (hs t, F, G) Q) : wp 207 0 [.ref 193, .int a1, .float 0, .float 0] [] (hs t, F, G) Q := by
  refine wp_N (j' := 207) (pc' := 4) (L' := [.ref 193, .int a1, .int (1 : Int32), .int (0 : Int32)]) (S' := []) (M' := (hs t, F, G)) 3 (fun _ => rfl) ?_
  exact h
theorem rg207_4 {t : Nat} {F : ip_F} {G : ip_G} {Q : Option Value → ip_M → Prop} {a1 a2 a3 : Int32} (h : (((2 : Int32) * (F 193 3)) ≤ a3 → (a2 &&& 1 = a2) ∧ (Q (some (.int a2)) (hs t, F, G))) ∧ (a3 < ((2 : Int32) * (F 193 3)) → (a2 = (0 : Int32) → wp 207 45 [.ref 193, .int a1, .int a2, .int a3] [.int (0 : Int32)] (hs t, F, G) Q) ∧ (¬ a2 = (0 : Int32) → (vp_in a3 8) ∧ (wp 182 0 [.ref 193, .int (F 200 (a3).toNatClampNeg), .int a1] [] (hs t, F, G) (fun v M' => wp 207 29 [.ref 193, .int a1, .int a2, .int a3] (v.toList ++ []) M' Q))))) : wp 207 4 [.ref 193, .int a1, .int a2, .int a3] [] (hs t, F, G) Q := by
  refine wp_N (j' := 207) (pc' := 11) (L' := [.ref 193, .int a1, .int a2, .int a3]) (S' := [.int ((2 : Int32) * (F 193 3)), .int a3]) (M' := (hs t, F, G)) 4 (fun _ => rfl) ?_
  refine wp_icmp (pc1 := 52) (c := .ge) rfl (fun hc => ?_) (fun hc => ?_)
  · replace h := h.1 hc
    refine wp_N (j' := 207) (pc' := 53) (L' := [.ref 193, .int a1, .int a2, .int a3]) (S' := [.int a2]) (M' := (hs t, F, G)) 0 (fun _ => rfl) ?_
    obtain ⟨h1_, h⟩ := h
    exact wp_RZ rfl rfl h1_ h
  · replace h := h.2 (Int32.not_le.mp hc)
    refine wp_N (j' := 207) (pc' := 15) (L' := [.ref 193, .int a1, .int a2, .int a3]) (S' := [.int a2]) (M' := (hs t, F, G)) 0 (fun _ => rfl) ?_
    refine wp_ifc (pc1 := 44) (c := .eq) rfl (fun hc => ?_) (fun hc => ?_)
    · replace h := h.1 hc
      refine wp_N (j' := 207) (pc' := 45) (L' := [.ref 193, .int a1, .int a2, .int a3]) (S' := [.int (0 : Int32)]) (M' := (hs t, F, G)) 0 (fun _ => rfl) ?_
      exact h
    · replace h := h.2 hc
      refine wp_N (j' := 207) (pc' := 24) (L' := [.ref 193, .int a1, .int a2, .int a3]) (S' := [.int a3, .ref 200, .ref 193]) (M' := (hs t, F, G)) 3 (fun _ => rfl) ?_
      obtain ⟨h2_, h⟩ := h
      refine wp_ial (m := (a3).toNatClampNeg) rfl rfl rfl h2_ ?_
      refine wp_N (j' := 207) (pc' := 26) (L' := [.ref 193, .int a1, .int a2, .int a3]) (S' := [.int a1, .int (F 200 (a3).toNatClampNeg), .ref 193]) (M' := (hs t, F, G)) 0 (fun _ => rfl) ?_
      refine wp_C (i := 182) (pc' := 29) (Li := [.ref 193, .int (F 200 (a3).toNatClampNeg), .int a1]) (rest := []) (fun _ => rfl) h
theorem rg207_29 {t : Nat} {F : ip_F} {G : ip_G} {Q : Option Value → ip_M → Prop} {a1 a2 a3 as0 : Int32} (h : (vp_in (a3 + (1 : Int32)) 8) ∧ ((¬ as0 = (F 200 ((a3 + (1 : Int32))).toNatClampNeg) → wp 207 45 [.ref 193, .int a1, .int a2, .int a3] [.int (0 : Int32)] (hs t, F, G) Q) ∧ (as0 = (F 200 ((a3 + (1 : Int32))).toNatClampNeg) → wp 207 45 [.ref 193, .int a1, .int a2, .int a3] [.int (1 : Int32)] (hs t, F, G) Q))) : wp 207 29 [.ref 193, .int a1, .int a2, .int a3] [.int as0] (hs t, F, G) Q := by
  refine wp_N (j' := 207) (pc' := 36) (L' := [.ref 193, .int a1, .int a2, .int a3]) (S' := [.int (a3 + (1 : Int32)), .ref 200, .int as0]) (M' := (hs t, F, G)) 4 (fun _ => rfl) ?_
  obtain ⟨h1_, h⟩ := h
  refine wp_ial (m := ((a3 + (1 : Int32))).toNatClampNeg) rfl rfl rfl h1_ ?_
  refine wp_icmp (pc1 := 44) (c := .ne) rfl (fun hc => ?_) (fun hc => ?_)
  · replace h := h.1 hc
    refine wp_N (j' := 207) (pc' := 45) (L' := [.ref 193, .int a1, .int a2, .int a3]) (S' := [.int (0 : Int32)]) (M' := (hs t, F, G)) 0 (fun _ => rfl) ?_
    exact h
  · replace h := h.2 (Decidable.not_not.mp hc)
    refine wp_N (j' := 207) (pc' := 45) (L' := [.ref 193, .int a1, .int a2, .int a3]) (S' := [.int (1 : Int32)]) (M' := (hs t, F, G)) 1 (fun _ => rfl) ?_
    exact h
theorem rg207_45 {t : Nat} {F : ip_F} {G : ip_G} {Q : Option Value → ip_M → Prop} {a1 a2 a3 as0 : Int32} (h : wp 207 4 [.ref 193, .int a1, .int as0, .int (a3 + (2 : Int32))] [] (hs t, F, G) Q) : wp 207 45 [.ref 193, .int a1, .int a2, .int a3] [.int as0] (hs t, F, G) Q := by
  refine wp_N (j' := 207) (pc' := 4) (L' := [.ref 193, .int a1, .int as0, .int (a3 + (2 : Int32))]) (S' := []) (M' := (hs t, F, G)) 2 (fun _ => rfl) ?_
  exact h
theorem rg208_0 {t : Nat} {F : ip_F} {G : ip_G} {Q : Option Value → ip_M → Prop} {a1 : Int32} (h : wp 143 0 [.int a1, .int (0 : Int32), .int (2 : Int32)] [] (hs t, F, G) (fun v M' => wp 208 6 [.ref 193, .int a1, .float 0, .float 0, .float 0, .float 0, .float 0] (v.toList ++ []) M' Q)) : wp 208 0 [.ref 193, .int a1, .float 0, .float 0, .float 0, .float 0, .float 0] [] (hs t, F, G) Q := by
  refine wp_N (j' := 208) (pc' := 3) (L' := [.ref 193, .int a1, .float 0, .float 0, .float 0, .float 0, .float 0]) (S' := [.int (2 : Int32), .int (0 : Int32), .int a1]) (M' := (hs t, F, G)) 2 (fun _ => rfl) ?_
  refine wp_C (i := 143) (pc' := 6) (Li := [.int a1, .int (0 : Int32), .int (2 : Int32)]) (rest := []) (fun _ => rfl) h
theorem rg208_6 {t : Nat} {F : ip_F} {G : ip_G} {Q : Option Value → ip_M → Prop} {a1 as0 : Int32} {v2 v3 v4 v5 v6 : Value} (h : (¬ as0 = (0 : Int32) → wp 174 0 [.ref 193, .float 0, .float 0] [] (hs t, F, G) (fun v M' => wp 208 18 [.ref 193, .int a1, v2, v3, v4, v5, v6] (v.toList ++ []) M' Q)) ∧ (as0 = (0 : Int32) → wp 140 0 [.ref 193] [] (hs t, F, G) (fun v M' => wp 208 13 [.ref 193, .int a1, v2, v3, v4, v5, v6] (v.toList ++ []) M' Q))) : wp 208 6 [.ref 193, .int a1, v2, v3, v4, v5, v6] [.int as0] (hs t, F, G) Q := by
  refine wp_ifc (pc1 := 14) (c := .ne) rfl (fun hc => ?_) (fun hc => ?_)
  · replace h := h.1 hc
    refine wp_N (j' := 208) (pc' := 15) (L' := [.ref 193, .int a1, v2, v3, v4, v5, v6]) (S' := [.ref 193]) (M' := (hs t, F, G)) 0 (fun _ => rfl) ?_
    refine wp_C (i := 174) (pc' := 18) (Li := [.ref 193, .float 0, .float 0]) (rest := []) (fun _ => rfl) h
  · replace h := h.2 (Decidable.not_not.mp hc)
    refine wp_N (j' := 208) (pc' := 10) (L' := [.ref 193, .int a1, v2, v3, v4, v5, v6]) (S' := [.ref 193]) (M' := (hs t, F, G)) 0 (fun _ => rfl) ?_
    refine wp_C (i := 140) (pc' := 13) (Li := [.ref 193]) (rest := []) (fun _ => rfl) h
theorem rg208_13 {t : Nat} {F : ip_F} {G : ip_G} {Q : Option Value → ip_M → Prop} {a1 as0 : Int32} {v2 v3 v4 v5 v6 : Value} (h : Q (some (.int as0)) (hs t, F, G)) : wp 208 13 [.ref 193, .int a1, v2, v3, v4, v5, v6] [.int as0] (hs t, F, G) Q := by
  exact wp_RI rfl rfl h
theorem rg208_18 {t : Nat} {F : ip_F} {G : ip_G} {Q : Option Value → ip_M → Prop} {a1 as0 : Int32} {v2 v3 v4 v5 v6 : Value} (h : wp 208 30 [.ref 193, .int a1, .int as0, .int (0 : Int32), .int as0, .int (0 : Int32), .int (0 : Int32)] [] (hs t, F, G) Q) : wp 208 18 [.ref 193, .int a1, v2, v3, v4, v5, v6] [.int as0] (hs t, F, G) Q := by
  refine wp_N (j' := 208) (pc' := 30) (L' := [.ref 193, .int a1, .int as0, .int (0 : Int32), .int as0, .int (0 : Int32), .int (0 : Int32)]) (S' := []) (M' := (hs t, F, G)) 8 (fun _ => rfl) ?_
  exact h
theorem rg208_30 {t : Nat} {F : ip_F} {G : ip_G} {Q : Option Value → ip_M → Prop} {a1 a2 a3 a4 a5 a6 : Int32} (h : (a2 < a6 → (¬ a1 = (0 : Int32) → (¬ a1 = (2 : Int32) → (¬ a3 = (0 : Int32) → Q (some (.int a4)) (hs t, F, G)) ∧ (a3 = (0 : Int32) → Q (some (.int (-1 : Int32))) (hs t, F, G))) ∧ (a1 = (2 : Int32) → Q (some (.int a5)) (hs t, F, G))) ∧ (a1 = (0 : Int32) → Q (some (.int a3)) (hs t, F, G))) ∧ (a6 ≤ a2 → (¬ (a6 &&& (a2 ^^^ (-1 : Int32))) = (0 : Int32) → wp 208 71 [.ref 193, .int a1, .int a2, .int a3, .int a4, .int a5, .int a6] [] (hs t, F, G) Q) ∧ ((a6 &&& (a2 ^^^ (-1 : Int32))) = (0 : Int32) → wp 207 0 [.ref 193, .int a6, .float 0, .float 0] [] (hs t, F, G) (fun v M' => wp 208 51 [.ref 193, .int a1, .int a2, .int a3, .int a4, .int a5, .int a6] (v.toList ++ []) M' Q)))) : wp 208 30 [.ref 193, .int a1, .int a2, .int a3, .int a4, .int a5, .int a6] [] (hs t, F, G) Q := by
  refine wp_N (j' := 208) (pc' := 33) (L' := [.ref 193, .int a1, .int a2, .int a3, .int a4, .int a5, .int a6]) (S' := [.int a2, .int a6]) (M' := (hs t, F, G)) 1 (fun _ => rfl) ?_
  refine wp_icmp (pc1 := 77) (c := .gt) rfl (fun hc => ?_) (fun hc => ?_)
  · replace h := h.1 hc
    refine wp_N (j' := 208) (pc' := 78) (L' := [.ref 193, .int a1, .int a2, .int a3, .int a4, .int a5, .int a6]) (S' := [.int a1]) (M' := (hs t, F, G)) 0 (fun _ => rfl) ?_
    refine wp_ifc (pc1 := 85) (c := .ne) rfl (fun hc => ?_) (fun hc => ?_)
    · replace h := h.1 hc
      refine wp_N (j' := 208) (pc' := 87) (L' := [.ref 193, .int a1, .int a2, .int a3, .int a4, .int a5, .int a6]) (S' := [.int (2 : Int32), .int a1]) (M' := (hs t, F, G)) 1 (fun _ => rfl) ?_
      refine wp_icmp (pc1 := 95) (c := .ne) rfl (fun hc => ?_) (fun hc => ?_)
      · replace h := h.1 hc
        refine wp_N (j' := 208) (pc' := 96) (L' := [.ref 193, .int a1, .int a2, .int a3, .int a4, .int a5, .int a6]) (S' := [.int a3]) (M' := (hs t, F, G)) 0 (fun _ => rfl) ?_
        refine wp_ifc (pc1 := 103) (c := .ne) rfl (fun hc => ?_) (fun hc => ?_)
        · replace h := h.1 hc
          refine wp_N (j' := 208) (pc' := 105) (L' := [.ref 193, .int a1, .int a2, .int a3, .int a4, .int a5, .int a6]) (S' := [.int a4]) (M' := (hs t, F, G)) 0 (fun _ => rfl) ?_
          exact wp_RI rfl rfl h
        · replace h := h.2 (Decidable.not_not.mp hc)
          refine wp_N (j' := 208) (pc' := 105) (L' := [.ref 193, .int a1, .int a2, .int a3, .int a4, .int a5, .int a6]) (S' := [.int (-1 : Int32)]) (M' := (hs t, F, G)) 1 (fun _ => rfl) ?_
          exact wp_RI rfl rfl h
      · replace h := h.2 (Decidable.not_not.mp hc)
        refine wp_N (j' := 208) (pc' := 105) (L' := [.ref 193, .int a1, .int a2, .int a3, .int a4, .int a5, .int a6]) (S' := [.int a5]) (M' := (hs t, F, G)) 1 (fun _ => rfl) ?_
        exact wp_RI rfl rfl h
    · replace h := h.2 (Decidable.not_not.mp hc)
      refine wp_N (j' := 208) (pc' := 105) (L' := [.ref 193, .int a1, .int a2, .int a3, .int a4, .int a5, .int a6]) (S' := [.int a3]) (M' := (hs t, F, G)) 1 (fun _ => rfl) ?_
      exact wp_RI rfl rfl h
  · replace h := h.2 (Int32.not_lt.mp hc)
    refine wp_N (j' := 208) (pc' := 42) (L' := [.ref 193, .int a1, .int a2, .int a3, .int a4, .int a5, .int a6]) (S' := [.int (a6 &&& (a2 ^^^ (-1 : Int32)))]) (M' := (hs t, F, G)) 4 (fun _ => rfl) ?_
    refine wp_ifc (pc1 := 71) (c := .ne) rfl (fun hc => ?_) (fun hc => ?_)
    · replace h := h.1 hc
      exact h
    · replace h := h.2 (Decidable.not_not.mp hc)
      refine wp_N (j' := 208) (pc' := 48) (L' := [.ref 193, .int a1, .int a2, .int a3, .int a4, .int a5, .int a6]) (S' := [.int a6, .ref 193]) (M' := (hs t, F, G)) 1 (fun _ => rfl) ?_
      refine wp_C (i := 207) (pc' := 51) (Li := [.ref 193, .int a6, .float 0, .float 0]) (rest := []) (fun _ => rfl) h
theorem rg208_51 {t : Nat} {F : ip_F} {G : ip_G} {Q : Option Value → ip_M → Prop} {a1 a2 a3 a4 a5 a6 as0 : Int32} (h : (as0 = (0 : Int32) → wp 208 71 [.ref 193, .int a1, .int a2, .int a3, .int a4, .int a5, .int a6] [] (hs t, F, G) Q) ∧ (¬ as0 = (0 : Int32) → wp 208 71 [.ref 193, .int a1, .int a2, .int (a3 + (1 : Int32)), .int (a4 &&& a6), .int (a5 ||| a6), .int a6] [] (hs t, F, G) Q)) : wp 208 51 [.ref 193, .int a1, .int a2, .int a3, .int a4, .int a5, .int a6] [.int as0] (hs t, F, G) Q := by
  refine wp_ifc (pc1 := 71) (c := .eq) rfl (fun hc => ?_) (fun hc => ?_)
  · replace h := h.1 hc
    exact h
  · replace h := h.2 hc
    refine wp_N (j' := 208) (pc' := 71) (L' := [.ref 193, .int a1, .int a2, .int (a3 + (1 : Int32)), .int (a4 &&& a6), .int (a5 ||| a6), .int a6]) (S' := []) (M' := (hs t, F, G)) 8 (fun _ => rfl) ?_
    exact h
theorem rg208_71 {t : Nat} {F : ip_F} {G : ip_G} {Q : Option Value → ip_M → Prop} {a1 a2 a3 a4 a5 a6 : Int32} (h : wp 208 30 [.ref 193, .int a1, .int a2, .int a3, .int a4, .int a5, .int (a6 + (1 : Int32))] [] (hs t, F, G) Q) : wp 208 71 [.ref 193, .int a1, .int a2, .int a3, .int a4, .int a5, .int a6] [] (hs t, F, G) Q := by
  refine wp_N (j' := 208) (pc' := 30) (L' := [.ref 193, .int a1, .int a2, .int a3, .int a4, .int a5, .int (a6 + (1 : Int32))]) (S' := []) (M' := (hs t, F, G)) 1 (fun _ => rfl) ?_
  exact h
theorem rg209_0 {t : Nat} {F : ip_F} {G : ip_G} {Q : Option Value → ip_M → Prop} {a1 : Int32} (h : wp 174 0 [.ref 193, .float 0, .float 0] [] (hs t, F, G) (fun v M' => wp 209 4 [.ref 193, .int a1, .float 0, .float 0, .float 0, .float 0, .float 0, .float 0] (v.toList ++ []) M' Q)) : wp 209 0 [.ref 193, .int a1, .float 0, .float 0, .float 0, .float 0, .float 0, .float 0] [] (hs t, F, G) Q := by
  refine wp_N (j' := 209) (pc' := 1) (L' := [.ref 193, .int a1, .float 0, .float 0, .float 0, .float 0, .float 0, .float 0]) (S' := [.ref 193]) (M' := (hs t, F, G)) 0 (fun _ => rfl) ?_
  refine wp_C (i := 174) (pc' := 4) (Li := [.ref 193, .float 0, .float 0]) (rest := []) (fun _ => rfl) h
theorem rg209_4 {t : Nat} {F : ip_F} {G : ip_G} {Q : Option Value → ip_M → Prop} {a1 as0 : Int32} {v2 v3 v4 v5 v6 v7 : Value} (h : wp 209 10 [.ref 193, .int a1, .int as0, .int (0 : Int32), .int (0 : Int32), v5, v6, v7] [] (hs t, F, G) Q) : wp 209 4 [.ref 193, .int a1, v2, v3, v4, v5, v6, v7] [.int as0] (hs t, F, G) Q := by
  refine wp_N (j' := 209) (pc' := 10) (L' := [.ref 193, .int a1, .int as0, .int (0 : Int32), .int (0 : Int32), v5, v6, v7]) (S' := []) (M' := (hs t, F, G)) 4 (fun _ => rfl) ?_
  exact h
theorem rg209_10 {t : Nat} {F : ip_F} {G : ip_G} {Q : Option Value → ip_M → Prop} {a1 a2 a3 a4 : Int32} {v5 v6 v7 : Value} (h : (a2 < a4 → wp 209 62 [.ref 193, .int a1, .int a2, .int a3, .int (0 : Int32), .int (0 : Int32), v6, v7] [] (hs t, F, G) Q) ∧ (a4 ≤ a2 → (¬ (a4 &&& (a2 ^^^ (-1 : Int32))) = (0 : Int32) → wp 209 50 [.ref 193, .int a1, .int a2, .int a3, .int a4, v5, v6, v7] [] (hs t, F, G) Q) ∧ ((a4 &&& (a2 ^^^ (-1 : Int32))) = (0 : Int32) → wp 207 0 [.ref 193, .int a4, .float 0, .float 0] [] (hs t, F, G) (fun v M' => wp 209 31 [.ref 193, .int a1, .int a2, .int a3, .int a4, v5, v6, v7] (v.toList ++ []) M' Q)))) : wp 209 10 [.ref 193, .int a1, .int a2, .int a3, .int a4, v5, v6, v7] [] (hs t, F, G) Q := by
  refine wp_N (j' := 209) (pc' := 13) (L' := [.ref 193, .int a1, .int a2, .int a3, .int a4, v5, v6, v7]) (S' := [.int a2, .int a4]) (M' := (hs t, F, G)) 1 (fun _ => rfl) ?_
  refine wp_icmp (pc1 := 56) (c := .gt) rfl (fun hc => ?_) (fun hc => ?_)
  · replace h := h.1 hc
    refine wp_N (j' := 209) (pc' := 62) (L' := [.ref 193, .int a1, .int a2, .int a3, .int (0 : Int32), .int (0 : Int32), v6, v7]) (S' := []) (M' := (hs t, F, G)) 3 (fun _ => rfl) ?_
    exact h
  · replace h := h.2 (Int32.not_lt.mp hc)
    refine wp_N (j' := 209) (pc' := 22) (L' := [.ref 193, .int a1, .int a2, .int a3, .int a4, v5, v6, v7]) (S' := [.int (a4 &&& (a2 ^^^ (-1 : Int32)))]) (M' := (hs t, F, G)) 4 (fun _ => rfl) ?_
    refine wp_ifc (pc1 := 50) (c := .ne) rfl (fun hc => ?_) (fun hc => ?_)
    · replace h := h.1 hc
      exact h
    · replace h := h.2 (Decidable.not_not.mp hc)
      refine wp_N (j' := 209) (pc' := 28) (L' := [.ref 193, .int a1, .int a2, .int a3, .int a4, v5, v6, v7]) (S' := [.int a4, .ref 193]) (M' := (hs t, F, G)) 1 (fun _ => rfl) ?_
      refine wp_C (i := 207) (pc' := 31) (Li := [.ref 193, .int a4, .float 0, .float 0]) (rest := []) (fun _ => rfl) h
theorem rg209_31 {t : Nat} {F : ip_F} {G : ip_G} {Q : Option Value → ip_M → Prop} {a1 a2 a3 a4 as0 : Int32} {v5 v6 v7 : Value} (h : (as0 = (0 : Int32) → wp 209 50 [.ref 193, .int a1, .int a2, .int a3, .int a4, v5, v6, v7] [] (hs t, F, G) Q) ∧ (¬ as0 = (0 : Int32) → wp 182 0 [.ref 193, .int a1, .int a4] [] (hs t, F, G) (fun v M' => wp 209 46 [.ref 193, .int a1, .int a2, .int a3, .int a4, v5, v6, v7] (v.toList ++ [.int a3, .ref 210]) M' Q))) : wp 209 31 [.ref 193, .int a1, .int a2, .int a3, .int a4, v5, v6, v7] [.int as0] (hs t, F, G) Q := by
  refine wp_ifc (pc1 := 50) (c := .eq) rfl (fun hc => ?_) (fun hc => ?_)
  · replace h := h.1 hc
    exact h
  · replace h := h.2 hc
    refine wp_N (j' := 209) (pc' := 43) (L' := [.ref 193, .int a1, .int a2, .int a3, .int a4, v5, v6, v7]) (S' := [.int a4, .int a1, .ref 193, .int a3, .ref 210]) (M' := (hs t, F, G)) 5 (fun _ => rfl) ?_
    refine wp_C (i := 182) (pc' := 46) (Li := [.ref 193, .int a1, .int a4]) (rest := [.int a3, .ref 210]) (fun _ => rfl) h
theorem rg209_46 {t : Nat} {F : ip_F} {G : ip_G} {Q : Option Value → ip_M → Prop} {a1 a2 a3 a4 as1 as2 : Int32} {v5 v6 v7 : Value} (h : (vp_in as1 64) ∧ (wp 209 50 [.ref 193, .int a1, .int a2, .int (a3 + (1 : Int32)), .int a4, v5, v6, v7] [] (hs t, (ip_u F 210 (as1).toNatClampNeg as2), G) Q)) : wp 209 46 [.ref 193, .int a1, .int a2, .int a3, .int a4, v5, v6, v7] [.int as2, .int as1, .ref 210] (hs t, F, G) Q := by
  obtain ⟨h1_, h⟩ := h
  refine wp_ias (m := (as1).toNatClampNeg) rfl rfl rfl h1_ ?_
  refine wp_N (j' := 209) (pc' := 50) (L' := [.ref 193, .int a1, .int a2, .int (a3 + (1 : Int32)), .int a4, v5, v6, v7]) (S' := []) (M' := (hs t, (ip_u F 210 (as1).toNatClampNeg as2), G)) 0 (fun _ => rfl) ?_
  exact h
theorem rg209_50 {t : Nat} {F : ip_F} {G : ip_G} {Q : Option Value → ip_M → Prop} {a1 a2 a3 a4 : Int32} {v5 v6 v7 : Value} (h : wp 209 10 [.ref 193, .int a1, .int a2, .int a3, .int (a4 + (1 : Int32)), v5, v6, v7] [] (hs t, F, G) Q) : wp 209 50 [.ref 193, .int a1, .int a2, .int a3, .int a4, v5, v6, v7] [] (hs t, F, G) Q := by
  refine wp_N (j' := 209) (pc' := 10) (L' := [.ref 193, .int a1, .int a2, .int a3, .int (a4 + (1 : Int32)), v5, v6, v7]) (S' := []) (M' := (hs t, F, G)) 1 (fun _ => rfl) ?_
  exact h
theorem rg209_62 {t : Nat} {F : ip_F} {G : ip_G} {Q : Option Value → ip_M → Prop} {a1 a2 a3 a4 a5 : Int32} {v6 v7 : Value} (h : (a3 ≤ a5 → Q (some (.int a4)) (hs t, F, G)) ∧ (a5 < a3 → wp 209 74 [.ref 193, .int a1, .int a2, .int a3, .int a4, .int a5, .int (0 : Int32), .int (0 : Int32)] [] (hs t, F, G) Q)) : wp 209 62 [.ref 193, .int a1, .int a2, .int a3, .int a4, .int a5, v6, v7] [] (hs t, F, G) Q := by
  refine wp_N (j' := 209) (pc' := 65) (L' := [.ref 193, .int a1, .int a2, .int a3, .int a4, .int a5, v6, v7]) (S' := [.int a3, .int a5]) (M' := (hs t, F, G)) 1 (fun _ => rfl) ?_
  refine wp_icmp (pc1 := 128) (c := .ge) rfl (fun hc => ?_) (fun hc => ?_)
  · replace h := h.1 hc
    refine wp_N (j' := 209) (pc' := 130) (L' := [.ref 193, .int a1, .int a2, .int a3, .int a4, .int a5, v6, v7]) (S' := [.int a4]) (M' := (hs t, F, G)) 0 (fun _ => rfl) ?_
    exact wp_RI rfl rfl h
  · replace h := h.2 (Int32.not_le.mp hc)
    refine wp_N (j' := 209) (pc' := 74) (L' := [.ref 193, .int a1, .int a2, .int a3, .int a4, .int a5, .int (0 : Int32), .int (0 : Int32)]) (S' := []) (M' := (hs t, F, G)) 3 (fun _ => rfl) ?_
    exact h
theorem rg209_74 {t : Nat} {F : ip_F} {G : ip_G} {Q : Option Value → ip_M → Prop} {a1 a2 a3 a4 a5 a6 a7 : Int32} (h : (a3 ≤ a7 → wp 146 0 [.int a4, .int a6] [] (hs t, F, G) (fun v M' => wp 209 120 [.ref 193, .int a1, .int a2, .int a3, .int a4, .int a5, .int a6, .int a7] (v.toList ++ []) M' Q)) ∧ (a7 < a3 → (vp_in a5 64) ∧ ((vp_in a7 64) ∧ ((¬ (F 210 (a5).toNatClampNeg) = (F 210 (a7).toNatClampNeg) → wp 209 104 [.ref 193, .int a1, .int a2, .int a3, .int a4, .int a5, .int a6, .int a7] [.int (0 : Int32), .int a6] (hs t, F, G) Q) ∧ ((F 210 (a5).toNatClampNeg) = (F 210 (a7).toNatClampNeg) → wp 209 104 [.ref 193, .int a1, .int a2, .int a3, .int a4, .int a5, .int a6, .int a7] [.int (1 : Int32), .int a6] (hs t, F, G) Q))))) : wp 209 74 [.ref 193, .int a1, .int a2, .int a3, .int a4, .int a5, .int a6, .int a7] [] (hs t, F, G) Q := by
  refine wp_N (j' := 209) (pc' := 77) (L' := [.ref 193, .int a1, .int a2, .int a3, .int a4, .int a5, .int a6, .int a7]) (S' := [.int a3, .int a7]) (M' := (hs t, F, G)) 1 (fun _ => rfl) ?_
  refine wp_icmp (pc1 := 113) (c := .ge) rfl (fun hc => ?_) (fun hc => ?_)
  · replace h := h.1 hc
    refine wp_N (j' := 209) (pc' := 117) (L' := [.ref 193, .int a1, .int a2, .int a3, .int a4, .int a5, .int a6, .int a7]) (S' := [.int a6, .int a4]) (M' := (hs t, F, G)) 1 (fun _ => rfl) ?_
    refine wp_C (i := 146) (pc' := 120) (Li := [.int a4, .int a6]) (rest := []) (fun _ => rfl) h
  · replace h := h.2 (Int32.not_le.mp hc)
    refine wp_N (j' := 209) (pc' := 88) (L' := [.ref 193, .int a1, .int a2, .int a3, .int a4, .int a5, .int a6, .int a7]) (S' := [.int a5, .ref 210, .int a6]) (M' := (hs t, F, G)) 3 (fun _ => rfl) ?_
    obtain ⟨h1_, h⟩ := h
    refine wp_ial (m := (a5).toNatClampNeg) rfl rfl rfl h1_ ?_
    refine wp_N (j' := 209) (pc' := 95) (L' := [.ref 193, .int a1, .int a2, .int a3, .int a4, .int a5, .int a6, .int a7]) (S' := [.int a7, .ref 210, .int (F 210 (a5).toNatClampNeg), .int a6]) (M' := (hs t, F, G)) 2 (fun _ => rfl) ?_
    obtain ⟨h2_, h⟩ := h
    refine wp_ial (m := (a7).toNatClampNeg) rfl rfl rfl h2_ ?_
    refine wp_icmp (pc1 := 103) (c := .ne) rfl (fun hc => ?_) (fun hc => ?_)
    · replace h := h.1 hc
      refine wp_N (j' := 209) (pc' := 104) (L' := [.ref 193, .int a1, .int a2, .int a3, .int a4, .int a5, .int a6, .int a7]) (S' := [.int (0 : Int32), .int a6]) (M' := (hs t, F, G)) 0 (fun _ => rfl) ?_
      exact h
    · replace h := h.2 (Decidable.not_not.mp hc)
      refine wp_N (j' := 209) (pc' := 104) (L' := [.ref 193, .int a1, .int a2, .int a3, .int a4, .int a5, .int a6, .int a7]) (S' := [.int (1 : Int32), .int a6]) (M' := (hs t, F, G)) 1 (fun _ => rfl) ?_
      exact h
theorem rg209_104 {t : Nat} {F : ip_F} {G : ip_G} {Q : Option Value → ip_M → Prop} {a1 a2 a3 a4 a5 a6 a7 as0 as1 : Int32} (h : wp 209 74 [.ref 193, .int a1, .int a2, .int a3, .int a4, .int a5, .int (as0 + as1), .int (a7 + (1 : Int32))] [] (hs t, F, G) Q) : wp 209 104 [.ref 193, .int a1, .int a2, .int a3, .int a4, .int a5, .int a6, .int a7] [.int as1, .int as0] (hs t, F, G) Q := by
  refine wp_N (j' := 209) (pc' := 74) (L' := [.ref 193, .int a1, .int a2, .int a3, .int a4, .int a5, .int (as0 + as1), .int (a7 + (1 : Int32))]) (S' := []) (M' := (hs t, F, G)) 3 (fun _ => rfl) ?_
  exact h
theorem rg209_120 {t : Nat} {F : ip_F} {G : ip_G} {Q : Option Value → ip_M → Prop} {a1 a2 a3 a4 a5 a6 a7 as0 : Int32} (h : wp 209 62 [.ref 193, .int a1, .int a2, .int a3, .int as0, .int (a5 + (1 : Int32)), .int a6, .int a7] [] (hs t, F, G) Q) : wp 209 120 [.ref 193, .int a1, .int a2, .int a3, .int a4, .int a5, .int a6, .int a7] [.int as0] (hs t, F, G) Q := by
  refine wp_N (j' := 209) (pc' := 62) (L' := [.ref 193, .int a1, .int a2, .int a3, .int as0, .int (a5 + (1 : Int32)), .int a6, .int a7]) (S' := []) (M' := (hs t, F, G)) 2 (fun _ => rfl) ?_
  exact h
theorem rg210_0 {t : Nat} {F : ip_F} {G : ip_G} {Q : Option Value → ip_M → Prop} (h : wp 210 7 [.ref 193, .int (-1 : Int32), .int (1048576 : Int32), .int (1 : Int32), .float 0] [] (hs t, F, G) Q) : wp 210 0 [.ref 193, .float 0, .float 0, .float 0, .float 0] [] (hs t, F, G) Q := by
  refine wp_N (j' := 210) (pc' := 7) (L' := [.ref 193, .int (-1 : Int32), .int (1048576 : Int32), .int (1 : Int32), .float 0]) (S' := []) (M' := (hs t, F, G)) 5 (fun _ => rfl) ?_
  exact h
theorem rg210_7 {t : Nat} {F : ip_F} {G : ip_G} {Q : Option Value → ip_M → Prop} {a1 a2 a3 : Int32} {v4 : Value} (h : ((12 : Int32) ≤ a3 → Q (some (.int a1)) (hs t, F, G)) ∧ (a3 < (12 : Int32) → wp 209 0 [.ref 193, .int a3, .float 0, .float 0, .float 0, .float 0, .float 0, .float 0] [] (hs t, F, G) (fun v M' => wp 210 18 [.ref 193, .int a1, .int a2, .int a3, v4] (v.toList ++ []) M' Q))) : wp 210 7 [.ref 193, .int a1, .int a2, .int a3, v4] [] (hs t, F, G) Q := by
  refine wp_N (j' := 210) (pc' := 10) (L' := [.ref 193, .int a1, .int a2, .int a3, v4]) (S' := [.int (12 : Int32), .int a3]) (M' := (hs t, F, G)) 1 (fun _ => rfl) ?_
  refine wp_icmp (pc1 := 59) (c := .ge) rfl (fun hc => ?_) (fun hc => ?_)
  · replace h := h.1 hc
    refine wp_N (j' := 210) (pc' := 60) (L' := [.ref 193, .int a1, .int a2, .int a3, v4]) (S' := [.int a1]) (M' := (hs t, F, G)) 0 (fun _ => rfl) ?_
    exact wp_RI rfl rfl h
  · replace h := h.2 (Int32.not_le.mp hc)
    refine wp_N (j' := 210) (pc' := 15) (L' := [.ref 193, .int a1, .int a2, .int a3, v4]) (S' := [.int a3, .ref 193]) (M' := (hs t, F, G)) 1 (fun _ => rfl) ?_
    refine wp_C (i := 209) (pc' := 18) (Li := [.ref 193, .int a3, .float 0, .float 0, .float 0, .float 0, .float 0, .float 0]) (rest := []) (fun _ => rfl) h
theorem rg210_18 {t : Nat} {F : ip_F} {G : ip_G} {Q : Option Value → ip_M → Prop} {a1 a2 a3 as0 : Int32} {v4 : Value} (h : (as0 ≤ (0 : Int32) → wp 210 36 [.ref 193, .int a1, .int a2, .int a3, .int as0] [.int a1] (hs t, F, G) Q) ∧ ((0 : Int32) < as0 → (a2 ≤ as0 → wp 210 36 [.ref 193, .int a1, .int a2, .int a3, .int as0] [.int a1] (hs t, F, G) Q) ∧ (as0 < a2 → wp 210 36 [.ref 193, .int a1, .int a2, .int a3, .int as0] [.int a3] (hs t, F, G) Q))) : wp 210 18 [.ref 193, .int a1, .int a2, .int a3, v4] [.int as0] (hs t, F, G) Q := by
  refine wp_N (j' := 210) (pc' := 22) (L' := [.ref 193, .int a1, .int a2, .int a3, .int as0]) (S' := [.int as0]) (M' := (hs t, F, G)) 1 (fun _ => rfl) ?_
  refine wp_ifc (pc1 := 35) (c := .le) rfl (fun hc => ?_) (fun hc => ?_)
  · replace h := h.1 hc
    refine wp_N (j' := 210) (pc' := 36) (L' := [.ref 193, .int a1, .int a2, .int a3, .int as0]) (S' := [.int a1]) (M' := (hs t, F, G)) 0 (fun _ => rfl) ?_
    exact h
  · replace h := h.2 (Int32.not_le.mp hc)
    refine wp_N (j' := 210) (pc' := 28) (L' := [.ref 193, .int a1, .int a2, .int a3, .int as0]) (S' := [.int a2, .int as0]) (M' := (hs t, F, G)) 1 (fun _ => rfl) ?_
    refine wp_icmp (pc1 := 35) (c := .ge) rfl (fun hc => ?_) (fun hc => ?_)
    · replace h := h.1 hc
      refine wp_N (j' := 210) (pc' := 36) (L' := [.ref 193, .int a1, .int a2, .int a3, .int as0]) (S' := [.int a1]) (M' := (hs t, F, G)) 0 (fun _ => rfl) ?_
      exact h
    · replace h := h.2 (Int32.not_le.mp hc)
      refine wp_N (j' := 210) (pc' := 36) (L' := [.ref 193, .int a1, .int a2, .int a3, .int as0]) (S' := [.int a3]) (M' := (hs t, F, G)) 1 (fun _ => rfl) ?_
      exact h
theorem rg210_36 {t : Nat} {F : ip_F} {G : ip_G} {Q : Option Value → ip_M → Prop} {a1 a2 a3 a4 as0 : Int32} (h : (a4 ≤ (0 : Int32) → wp 210 52 [.ref 193, .int as0, .int a2, .int a3, .int a4] [.int a2] (hs t, F, G) Q) ∧ ((0 : Int32) < a4 → wp 145 0 [.int a2, .int a4] [] (hs t, F, G) (fun v M' => wp 210 48 [.ref 193, .int as0, .int a2, .int a3, .int a4] (v.toList ++ []) M' Q))) : wp 210 36 [.ref 193, .int a1, .int a2, .int a3, .int a4] [.int as0] (hs t, F, G) Q := by
  refine wp_N (j' := 210) (pc' := 39) (L' := [.ref 193, .int as0, .int a2, .int a3, .int a4]) (S' := [.int a4]) (M' := (hs t, F, G)) 1 (fun _ => rfl) ?_
  refine wp_ifc (pc1 := 51) (c := .le) rfl (fun hc => ?_) (fun hc => ?_)
  · replace h := h.1 hc
    refine wp_N (j' := 210) (pc' := 52) (L' := [.ref 193, .int as0, .int a2, .int a3, .int a4]) (S' := [.int a2]) (M' := (hs t, F, G)) 0 (fun _ => rfl) ?_
    exact h
  · replace h := h.2 (Int32.not_le.mp hc)
    refine wp_N (j' := 210) (pc' := 45) (L' := [.ref 193, .int as0, .int a2, .int a3, .int a4]) (S' := [.int a4, .int a2]) (M' := (hs t, F, G)) 1 (fun _ => rfl) ?_
    refine wp_C (i := 145) (pc' := 48) (Li := [.int a2, .int a4]) (rest := []) (fun _ => rfl) h
theorem rg210_48 {t : Nat} {F : ip_F} {G : ip_G} {Q : Option Value → ip_M → Prop} {a1 a2 a3 a4 as0 : Int32} (h : wp 210 52 [.ref 193, .int a1, .int a2, .int a3, .int a4] [.int as0] (hs t, F, G) Q) : wp 210 48 [.ref 193, .int a1, .int a2, .int a3, .int a4] [.int as0] (hs t, F, G) Q := by
  refine wp_N (j' := 210) (pc' := 52) (L' := [.ref 193, .int a1, .int a2, .int a3, .int a4]) (S' := [.int as0]) (M' := (hs t, F, G)) 0 (fun _ => rfl) ?_
  exact h
theorem rg210_52 {t : Nat} {F : ip_F} {G : ip_G} {Q : Option Value → ip_M → Prop} {a1 a2 a3 a4 as0 : Int32} (h : wp 210 7 [.ref 193, .int a1, .int as0, .int (a3 + (1 : Int32)), .int a4] [] (hs t, F, G) Q) : wp 210 52 [.ref 193, .int a1, .int a2, .int a3, .int a4] [.int as0] (hs t, F, G) Q := by
  refine wp_N (j' := 210) (pc' := 7) (L' := [.ref 193, .int a1, .int as0, .int (a3 + (1 : Int32)), .int a4]) (S' := []) (M' := (hs t, F, G)) 2 (fun _ => rfl) ?_
  exact h
theorem rg211_0 {t : Nat} {F : ip_F} {G : ip_G} {Q : Option Value → ip_M → Prop} {a1 a2 a3 : Int32} (h : wp 150 0 [.ref 193, .int a1] [] (hs t, F, G) (fun v M' => wp 211 5 [.ref 193, .int a1, .int a2, .int a3] (v.toList ++ []) M' Q)) : wp 211 0 [.ref 193, .int a1, .int a2, .int a3] [] (hs t, F, G) Q := by
  refine wp_N (j' := 211) (pc' := 2) (L' := [.ref 193, .int a1, .int a2, .int a3]) (S' := [.int a1, .ref 193]) (M' := (hs t, F, G)) 1 (fun _ => rfl) ?_
  refine wp_C (i := 150) (pc' := 5) (Li := [.ref 193, .int a1]) (rest := []) (fun _ => rfl) h
theorem rg211_5 {t : Nat} {F : ip_F} {G : ip_G} {Q : Option Value → ip_M → Prop} {a1 a2 a3 as0 : Int32} (h : (as0 = (0 : Int32) → wp 211 28 [.ref 193, .int a1, .int a2, .int a3] [] (hs t, F, G) Q) ∧ (¬ as0 = (0 : Int32) → wp 143 0 [.int a2, .int (1 : Int32), .int (6 : Int32)] [] (hs t, F, G) (fun v M' => wp 211 15 [.ref 193, .int a1, .int a2, .int a3] (v.toList ++ []) M' Q))) : wp 211 5 [.ref 193, .int a1, .int a2, .int a3] [.int as0] (hs t, F, G) Q := by
  refine wp_ifc (pc1 := 28) (c := .eq) rfl (fun hc => ?_) (fun hc => ?_)
  · replace h := h.1 hc
    exact h
  · replace h := h.2 hc
    refine wp_N (j' := 211) (pc' := 12) (L' := [.ref 193, .int a1, .int a2, .int a3]) (S' := [.int (6 : Int32), .int (1 : Int32), .int a2]) (M' := (hs t, F, G)) 2 (fun _ => rfl) ?_
    refine wp_C (i := 143) (pc' := 15) (Li := [.int a2, .int (1 : Int32), .int (6 : Int32)]) (rest := []) (fun _ => rfl) h
theorem rg211_15 {t : Nat} {F : ip_F} {G : ip_G} {Q : Option Value → ip_M → Prop} {a1 a2 a3 as0 : Int32} (h : (as0 = (0 : Int32) → wp 211 28 [.ref 193, .int a1, .int a2, .int a3] [] (hs t, F, G) Q) ∧ (¬ as0 = (0 : Int32) → wp 143 0 [.int a3, .int (1 : Int32), .int (6 : Int32)] [] (hs t, F, G) (fun v M' => wp 211 25 [.ref 193, .int a1, .int a2, .int a3] (v.toList ++ []) M' Q))) : wp 211 15 [.ref 193, .int a1, .int a2, .int a3] [.int as0] (hs t, F, G) Q := by
  refine wp_ifc (pc1 := 28) (c := .eq) rfl (fun hc => ?_) (fun hc => ?_)
  · replace h := h.1 hc
    exact h
  · replace h := h.2 hc
    refine wp_N (j' := 211) (pc' := 22) (L' := [.ref 193, .int a1, .int a2, .int a3]) (S' := [.int (6 : Int32), .int (1 : Int32), .int a3]) (M' := (hs t, F, G)) 2 (fun _ => rfl) ?_
    refine wp_C (i := 143) (pc' := 25) (Li := [.int a3, .int (1 : Int32), .int (6 : Int32)]) (rest := []) (fun _ => rfl) h
theorem rg211_25 {t : Nat} {F : ip_F} {G : ip_G} {Q : Option Value → ip_M → Prop} {a1 a2 a3 as0 : Int32} (h : (¬ as0 = (0 : Int32) → (¬ (F 193 4) = (6 : Int32) → (vp_in ((3 : Int32) * (F 193 4)) 18) ∧ ((vp_in (((3 : Int32) * ((ip_u F 201 (((3 : Int32) * (F 193 4))).toNatClampNeg a1) 193 4)) + (1 : Int32)) 18) ∧ ((vp_in (((3 : Int32) * ((ip_u (ip_u F 201 (((3 : Int32) * (F 193 4))).toNatClampNeg a1) 201 ((((3 : Int32) * ((ip_u F 201 (((3 : Int32) * (F 193 4))).toNatClampNeg a1) 193 4)) + (1 : Int32))).toNatClampNeg a2) 193 4)) + (2 : Int32)) 18) ∧ (Q (some (.int ((ip_u (ip_u (ip_u (ip_u F 201 (((3 : Int32) * (F 193 4))).toNatClampNeg a1) 201 ((((3 : Int32) * ((ip_u F 201 (((3 : Int32) * (F 193 4))).toNatClampNeg a1) 193 4)) + (1 : Int32))).toNatClampNeg a2) 201 ((((3 : Int32) * ((ip_u (ip_u F 201 (((3 : Int32) * (F 193 4))).toNatClampNeg a1) 201 ((((3 : Int32) * ((ip_u F 201 (((3 : Int32) * (F 193 4))).toNatClampNeg a1) 193 4)) + (1 : Int32))).toNatClampNeg a2) 193 4)) + (2 : Int32))).toNatClampNeg a3) 193 4 (((ip_u (ip_u (ip_u F 201 (((3 : Int32) * (F 193 4))).toNatClampNeg a1) 201 ((((3 : Int32) * ((ip_u F 201 (((3 : Int32) * (F 193 4))).toNatClampNeg a1) 193 4)) + (1 : Int32))).toNatClampNeg a2) 201 ((((3 : Int32) * ((ip_u (ip_u F 201 (((3 : Int32) * (F 193 4))).toNatClampNeg a1) 201 ((((3 : Int32) * ((ip_u F 201 (((3 : Int32) * (F 193 4))).toNatClampNeg a1) 193 4)) + (1 : Int32))).toNatClampNeg a2) 193 4)) + (2 : Int32))).toNatClampNeg a3) 193 4) + (1 : Int32))) 193 4))) (hs t, (ip_u (ip_u (ip_u (ip_u F 201 (((3 : Int32) * (F 193 4))).toNatClampNeg a1) 201 ((((3 : Int32) * ((ip_u F 201 (((3 : Int32) * (F 193 4))).toNatClampNeg a1) 193 4)) + (1 : Int32))).toNatClampNeg a2) 201 ((((3 : Int32) * ((ip_u (ip_u F 201 (((3 : Int32) * (F 193 4))).toNatClampNeg a1) 201 ((((3 : Int32) * ((ip_u F 201 (((3 : Int32) * (F 193 4))).toNatClampNeg a1) 193 4)) + (1 : Int32))).toNatClampNeg a2) 193 4)) + (2 : Int32))).toNatClampNeg a3) 193 4 (((ip_u (ip_u (ip_u F 201 (((3 : Int32) * (F 193 4))).toNatClampNeg a1) 201 ((((3 : Int32) * ((ip_u F 201 (((3 : Int32) * (F 193 4))).toNatClampNeg a1) 193 4)) + (1 : Int32))).toNatClampNeg a2) 201 ((((3 : Int32) * ((ip_u (ip_u F 201 (((3 : Int32) * (F 193 4))).toNatClampNeg a1) 201 ((((3 : Int32) * ((ip_u F 201 (((3 : Int32) * (F 193 4))).toNatClampNeg a1) 193 4)) + (1 : Int32))).toNatClampNeg a2) 193 4)) + (2 : Int32))).toNatClampNeg a3) 193 4) + (1 : Int32))), G))))) ∧ ((F 193 4) = (6 : Int32) → wp 142 0 [.ref 193] [] (hs t, F, G) (fun v M' => wp 211 46 [.ref 193, .int a1, .int a2, .int a3] (v.toList ++ []) M' Q))) ∧ (as0 = (0 : Int32) → wp 211 28 [.ref 193, .int a1, .int a2, .int a3] [] (hs t, F, G) Q)) : wp 211 25 [.ref 193, .int a1, .int a2, .int a3] [.int as0] (hs t, F, G) Q := by
  refine wp_ifc (pc1 := 33) (c := .ne) rfl (fun hc => ?_) (fun hc => ?_)
  · replace h := h.1 hc
    refine wp_N (j' := 211) (pc' := 39) (L' := [.ref 193, .int a1, .int a2, .int a3]) (S' := [.int (6 : Int32), .int (F 193 4)]) (M' := (hs t, F, G)) 2 (fun _ => rfl) ?_
    refine wp_icmp (pc1 := 47) (c := .ne) rfl (fun hc => ?_) (fun hc => ?_)
    · replace h := h.1 hc
      refine wp_N (j' := 211) (pc' := 58) (L' := [.ref 193, .int a1, .int a2, .int a3]) (S' := [.int a1, .int ((3 : Int32) * (F 193 4)), .ref 201]) (M' := (hs t, F, G)) 6 (fun _ => rfl) ?_
      obtain ⟨h1_, h⟩ := h
      refine wp_ias (m := (((3 : Int32) * (F 193 4))).toNatClampNeg) rfl rfl rfl h1_ ?_
      refine wp_N (j' := 211) (pc' := 72) (L' := [.ref 193, .int a1, .int a2, .int a3]) (S' := [.int a2, .int (((3 : Int32) * ((ip_u F 201 (((3 : Int32) * (F 193 4))).toNatClampNeg a1) 193 4)) + (1 : Int32)), .ref 201]) (M' := (hs t, (ip_u F 201 (((3 : Int32) * (F 193 4))).toNatClampNeg a1), G)) 8 (fun _ => rfl) ?_
      obtain ⟨h2_, h⟩ := h
      refine wp_ias (m := ((((3 : Int32) * ((ip_u F 201 (((3 : Int32) * (F 193 4))).toNatClampNeg a1) 193 4)) + (1 : Int32))).toNatClampNeg) rfl rfl rfl h2_ ?_
      refine wp_N (j' := 211) (pc' := 86) (L' := [.ref 193, .int a1, .int a2, .int a3]) (S' := [.int a3, .int (((3 : Int32) * ((ip_u (ip_u F 201 (((3 : Int32) * (F 193 4))).toNatClampNeg a1) 201 ((((3 : Int32) * ((ip_u F 201 (((3 : Int32) * (F 193 4))).toNatClampNeg a1) 193 4)) + (1 : Int32))).toNatClampNeg a2) 193 4)) + (2 : Int32)), .ref 201]) (M' := (hs t, (ip_u (ip_u F 201 (((3 : Int32) * (F 193 4))).toNatClampNeg a1) 201 ((((3 : Int32) * ((ip_u F 201 (((3 : Int32) * (F 193 4))).toNatClampNeg a1) 193 4)) + (1 : Int32))).toNatClampNeg a2), G)) 8 (fun _ => rfl) ?_
      obtain ⟨h3_, h⟩ := h
      refine wp_ias (m := ((((3 : Int32) * ((ip_u (ip_u F 201 (((3 : Int32) * (F 193 4))).toNatClampNeg a1) 201 ((((3 : Int32) * ((ip_u F 201 (((3 : Int32) * (F 193 4))).toNatClampNeg a1) 193 4)) + (1 : Int32))).toNatClampNeg a2) 193 4)) + (2 : Int32))).toNatClampNeg) rfl rfl rfl h3_ ?_
      refine wp_N (j' := 211) (pc' := 94) (L' := [.ref 193, .int a1, .int a2, .int a3]) (S' := [.int (((ip_u (ip_u (ip_u F 201 (((3 : Int32) * (F 193 4))).toNatClampNeg a1) 201 ((((3 : Int32) * ((ip_u F 201 (((3 : Int32) * (F 193 4))).toNatClampNeg a1) 193 4)) + (1 : Int32))).toNatClampNeg a2) 201 ((((3 : Int32) * ((ip_u (ip_u F 201 (((3 : Int32) * (F 193 4))).toNatClampNeg a1) 201 ((((3 : Int32) * ((ip_u F 201 (((3 : Int32) * (F 193 4))).toNatClampNeg a1) 193 4)) + (1 : Int32))).toNatClampNeg a2) 193 4)) + (2 : Int32))).toNatClampNeg a3) 193 4) + (1 : Int32)), .ref 193]) (M' := (hs t, (ip_u (ip_u (ip_u F 201 (((3 : Int32) * (F 193 4))).toNatClampNeg a1) 201 ((((3 : Int32) * ((ip_u F 201 (((3 : Int32) * (F 193 4))).toNatClampNeg a1) 193 4)) + (1 : Int32))).toNatClampNeg a2) 201 ((((3 : Int32) * ((ip_u (ip_u F 201 (((3 : Int32) * (F 193 4))).toNatClampNeg a1) 201 ((((3 : Int32) * ((ip_u F 201 (((3 : Int32) * (F 193 4))).toNatClampNeg a1) 193 4)) + (1 : Int32))).toNatClampNeg a2) 193 4)) + (2 : Int32))).toNatClampNeg a3), G)) 4 (fun _ => rfl) ?_
      refine wp_putI rfl rfl rfl rfl rfl rfl (by decide) ?_
      refine wp_N (j' := 211) (pc' := 101) (L' := [.ref 193, .int a1, .int a2, .int a3]) (S' := [.int ((ip_u (ip_u (ip_u (ip_u F 201 (((3 : Int32) * (F 193 4))).toNatClampNeg a1) 201 ((((3 : Int32) * ((ip_u F 201 (((3 : Int32) * (F 193 4))).toNatClampNeg a1) 193 4)) + (1 : Int32))).toNatClampNeg a2) 201 ((((3 : Int32) * ((ip_u (ip_u F 201 (((3 : Int32) * (F 193 4))).toNatClampNeg a1) 201 ((((3 : Int32) * ((ip_u F 201 (((3 : Int32) * (F 193 4))).toNatClampNeg a1) 193 4)) + (1 : Int32))).toNatClampNeg a2) 193 4)) + (2 : Int32))).toNatClampNeg a3) 193 4 (((ip_u (ip_u (ip_u F 201 (((3 : Int32) * (F 193 4))).toNatClampNeg a1) 201 ((((3 : Int32) * ((ip_u F 201 (((3 : Int32) * (F 193 4))).toNatClampNeg a1) 193 4)) + (1 : Int32))).toNatClampNeg a2) 201 ((((3 : Int32) * ((ip_u (ip_u F 201 (((3 : Int32) * (F 193 4))).toNatClampNeg a1) 201 ((((3 : Int32) * ((ip_u F 201 (((3 : Int32) * (F 193 4))).toNatClampNeg a1) 193 4)) + (1 : Int32))).toNatClampNeg a2) 193 4)) + (2 : Int32))).toNatClampNeg a3) 193 4) + (1 : Int32))) 193 4)]) (M' := (hs t, (ip_u (ip_u (ip_u (ip_u F 201 (((3 : Int32) * (F 193 4))).toNatClampNeg a1) 201 ((((3 : Int32) * ((ip_u F 201 (((3 : Int32) * (F 193 4))).toNatClampNeg a1) 193 4)) + (1 : Int32))).toNatClampNeg a2) 201 ((((3 : Int32) * ((ip_u (ip_u F 201 (((3 : Int32) * (F 193 4))).toNatClampNeg a1) 201 ((((3 : Int32) * ((ip_u F 201 (((3 : Int32) * (F 193 4))).toNatClampNeg a1) 193 4)) + (1 : Int32))).toNatClampNeg a2) 193 4)) + (2 : Int32))).toNatClampNeg a3) 193 4 (((ip_u (ip_u (ip_u F 201 (((3 : Int32) * (F 193 4))).toNatClampNeg a1) 201 ((((3 : Int32) * ((ip_u F 201 (((3 : Int32) * (F 193 4))).toNatClampNeg a1) 193 4)) + (1 : Int32))).toNatClampNeg a2) 201 ((((3 : Int32) * ((ip_u (ip_u F 201 (((3 : Int32) * (F 193 4))).toNatClampNeg a1) 201 ((((3 : Int32) * ((ip_u F 201 (((3 : Int32) * (F 193 4))).toNatClampNeg a1) 193 4)) + (1 : Int32))).toNatClampNeg a2) 193 4)) + (2 : Int32))).toNatClampNeg a3) 193 4) + (1 : Int32))), G)) 1 (fun _ => rfl) ?_
      exact wp_RI rfl rfl h
    · replace h := h.2 (Decidable.not_not.mp hc)
      refine wp_N (j' := 211) (pc' := 43) (L' := [.ref 193, .int a1, .int a2, .int a3]) (S' := [.ref 193]) (M' := (hs t, F, G)) 0 (fun _ => rfl) ?_
      refine wp_C (i := 142) (pc' := 46) (Li := [.ref 193]) (rest := []) (fun _ => rfl) h
  · replace h := h.2 (Decidable.not_not.mp hc)
    exact h
theorem rg211_28 {t : Nat} {F : ip_F} {G : ip_G} {Q : Option Value → ip_M → Prop} {a1 a2 a3 : Int32} (h : wp 140 0 [.ref 193] [] (hs t, F, G) (fun v M' => wp 211 32 [.ref 193, .int a1, .int a2, .int a3] (v.toList ++ []) M' Q)) : wp 211 28 [.ref 193, .int a1, .int a2, .int a3] [] (hs t, F, G) Q := by
  refine wp_N (j' := 211) (pc' := 29) (L' := [.ref 193, .int a1, .int a2, .int a3]) (S' := [.ref 193]) (M' := (hs t, F, G)) 0 (fun _ => rfl) ?_
  refine wp_C (i := 140) (pc' := 32) (Li := [.ref 193]) (rest := []) (fun _ => rfl) h
theorem rg211_32 {t : Nat} {F : ip_F} {G : ip_G} {Q : Option Value → ip_M → Prop} {a1 a2 a3 as0 : Int32} (h : Q (some (.int as0)) (hs t, F, G)) : wp 211 32 [.ref 193, .int a1, .int a2, .int a3] [.int as0] (hs t, F, G) Q := by
  exact wp_RI rfl rfl h
theorem rg211_46 {t : Nat} {F : ip_F} {G : ip_G} {Q : Option Value → ip_M → Prop} {a1 a2 a3 as0 : Int32} (h : Q (some (.int as0)) (hs t, F, G)) : wp 211 46 [.ref 193, .int a1, .int a2, .int a3] [.int as0] (hs t, F, G) Q := by
  exact wp_RI rfl rfl h
theorem rg212_0 {t : Nat} {F : ip_F} {G : ip_G} {Q : Option Value → ip_M → Prop} {a1 a2 a3 a4 : Int32} (h : wp 150 0 [.ref 193, .int a1] [] (hs t, F, G) (fun v M' => wp 212 5 [.ref 193, .int a1, .int a2, .int a3, .int a4] (v.toList ++ []) M' Q)) : wp 212 0 [.ref 193, .int a1, .int a2, .int a3, .int a4] [] (hs t, F, G) Q := by
  refine wp_N (j' := 212) (pc' := 2) (L' := [.ref 193, .int a1, .int a2, .int a3, .int a4]) (S' := [.int a1, .ref 193]) (M' := (hs t, F, G)) 1 (fun _ => rfl) ?_
  refine wp_C (i := 150) (pc' := 5) (Li := [.ref 193, .int a1]) (rest := []) (fun _ => rfl) h
theorem rg212_5 {t : Nat} {F : ip_F} {G : ip_G} {Q : Option Value → ip_M → Prop} {a1 a2 a3 a4 as0 : Int32} (h : (as0 = (0 : Int32) → wp 212 38 [.ref 193, .int a1, .int a2, .int a3, .int a4] [] (hs t, F, G) Q) ∧ (¬ as0 = (0 : Int32) → wp 143 0 [.int a2, .int (0 : Int32), .int (99 : Int32)] [] (hs t, F, G) (fun v M' => wp 212 15 [.ref 193, .int a1, .int a2, .int a3, .int a4] (v.toList ++ []) M' Q))) : wp 212 5 [.ref 193, .int a1, .int a2, .int a3, .int a4] [.int as0] (hs t, F, G) Q := by
  refine wp_ifc (pc1 := 38) (c := .eq) rfl (fun hc => ?_) (fun hc => ?_)
  · replace h := h.1 hc
    exact h
  · replace h := h.2 hc
    refine wp_N (j' := 212) (pc' := 12) (L' := [.ref 193, .int a1, .int a2, .int a3, .int a4]) (S' := [.int (99 : Int32), .int (0 : Int32), .int a2]) (M' := (hs t, F, G)) 2 (fun _ => rfl) ?_
    refine wp_C (i := 143) (pc' := 15) (Li := [.int a2, .int (0 : Int32), .int (99 : Int32)]) (rest := []) (fun _ => rfl) h
theorem rg212_15 {t : Nat} {F : ip_F} {G : ip_G} {Q : Option Value → ip_M → Prop} {a1 a2 a3 a4 as0 : Int32} (h : (as0 = (0 : Int32) → wp 212 38 [.ref 193, .int a1, .int a2, .int a3, .int a4] [] (hs t, F, G) Q) ∧ (¬ as0 = (0 : Int32) → wp 143 0 [.int a3, .int (0 : Int32), .int (99 : Int32)] [] (hs t, F, G) (fun v M' => wp 212 25 [.ref 193, .int a1, .int a2, .int a3, .int a4] (v.toList ++ []) M' Q))) : wp 212 15 [.ref 193, .int a1, .int a2, .int a3, .int a4] [.int as0] (hs t, F, G) Q := by
  refine wp_ifc (pc1 := 38) (c := .eq) rfl (fun hc => ?_) (fun hc => ?_)
  · replace h := h.1 hc
    exact h
  · replace h := h.2 hc
    refine wp_N (j' := 212) (pc' := 22) (L' := [.ref 193, .int a1, .int a2, .int a3, .int a4]) (S' := [.int (99 : Int32), .int (0 : Int32), .int a3]) (M' := (hs t, F, G)) 2 (fun _ => rfl) ?_
    refine wp_C (i := 143) (pc' := 25) (Li := [.int a3, .int (0 : Int32), .int (99 : Int32)]) (rest := []) (fun _ => rfl) h
theorem rg212_25 {t : Nat} {F : ip_F} {G : ip_G} {Q : Option Value → ip_M → Prop} {a1 a2 a3 a4 as0 : Int32} (h : (as0 = (0 : Int32) → wp 212 38 [.ref 193, .int a1, .int a2, .int a3, .int a4] [] (hs t, F, G) Q) ∧ (¬ as0 = (0 : Int32) → wp 143 0 [.int a4, .int (0 : Int32), .int (1 : Int32)] [] (hs t, F, G) (fun v M' => wp 212 35 [.ref 193, .int a1, .int a2, .int a3, .int a4] (v.toList ++ []) M' Q))) : wp 212 25 [.ref 193, .int a1, .int a2, .int a3, .int a4] [.int as0] (hs t, F, G) Q := by
  refine wp_ifc (pc1 := 38) (c := .eq) rfl (fun hc => ?_) (fun hc => ?_)
  · replace h := h.1 hc
    exact h
  · replace h := h.2 hc
    refine wp_N (j' := 212) (pc' := 32) (L' := [.ref 193, .int a1, .int a2, .int a3, .int a4]) (S' := [.int (1 : Int32), .int (0 : Int32), .int a4]) (M' := (hs t, F, G)) 2 (fun _ => rfl) ?_
    refine wp_C (i := 143) (pc' := 35) (Li := [.int a4, .int (0 : Int32), .int (1 : Int32)]) (rest := []) (fun _ => rfl) h
theorem rg212_35 {t : Nat} {F : ip_F} {G : ip_G} {Q : Option Value → ip_M → Prop} {a1 a2 a3 a4 as0 : Int32} (h : (¬ as0 = (0 : Int32) → (¬ (F 193 5) = (6 : Int32) → (vp_in ((4 : Int32) * (F 193 5)) 24) ∧ ((vp_in (((4 : Int32) * ((ip_u F 202 (((4 : Int32) * (F 193 5))).toNatClampNeg a1) 193 5)) + (1 : Int32)) 24) ∧ ((vp_in (((4 : Int32) * ((ip_u (ip_u F 202 (((4 : Int32) * (F 193 5))).toNatClampNeg a1) 202 ((((4 : Int32) * ((ip_u F 202 (((4 : Int32) * (F 193 5))).toNatClampNeg a1) 193 5)) + (1 : Int32))).toNatClampNeg a2) 193 5)) + (2 : Int32)) 24) ∧ ((vp_in (((4 : Int32) * ((ip_u (ip_u (ip_u F 202 (((4 : Int32) * (F 193 5))).toNatClampNeg a1) 202 ((((4 : Int32) * ((ip_u F 202 (((4 : Int32) * (F 193 5))).toNatClampNeg a1) 193 5)) + (1 : Int32))).toNatClampNeg a2) 202 ((((4 : Int32) * ((ip_u (ip_u F 202 (((4 : Int32) * (F 193 5))).toNatClampNeg a1) 202 ((((4 : Int32) * ((ip_u F 202 (((4 : Int32) * (F 193 5))).toNatClampNeg a1) 193 5)) + (1 : Int32))).toNatClampNeg a2) 193 5)) + (2 : Int32))).toNatClampNeg a3) 193 5)) + (3 : Int32)) 24) ∧ (Q (some (.int ((ip_u (ip_u (ip_u (ip_u (ip_u F 202 (((4 : Int32) * (F 193 5))).toNatClampNeg a1) 202 ((((4 : Int32) * ((ip_u F 202 (((4 : Int32) * (F 193 5))).toNatClampNeg a1) 193 5)) + (1 : Int32))).toNatClampNeg a2) 202 ((((4 : Int32) * ((ip_u (ip_u F 202 (((4 : Int32) * (F 193 5))).toNatClampNeg a1) 202 ((((4 : Int32) * ((ip_u F 202 (((4 : Int32) * (F 193 5))).toNatClampNeg a1) 193 5)) + (1 : Int32))).toNatClampNeg a2) 193 5)) + (2 : Int32))).toNatClampNeg a3) 202 ((((4 : Int32) * ((ip_u (ip_u (ip_u F 202 (((4 : Int32) * (F 193 5))).toNatClampNeg a1) 202 ((((4 : Int32) * ((ip_u F 202 (((4 : Int32) * (F 193 5))).toNatClampNeg a1) 193 5)) + (1 : Int32))).toNatClampNeg a2) 202 ((((4 : Int32) * ((ip_u (ip_u F 202 (((4 : Int32) * (F 193 5))).toNatClampNeg a1) 202 ((((4 : Int32) * ((ip_u F 202 (((4 : Int32) * (F 193 5))).toNatClampNeg a1) 193 5)) + (1 : Int32))).toNatClampNeg a2) 193 5)) + (2 : Int32))).toNatClampNeg a3) 193 5)) + (3 : Int32))).toNatClampNeg a4) 193 5 (((ip_u (ip_u (ip_u (ip_u F 202 (((4 : Int32) * (F 193 5))).toNatClampNeg a1) 202 ((((4 : Int32) * ((ip_u F 202 (((4 : Int32) * (F 193 5))).toNatClampNeg a1) 193 5)) + (1 : Int32))).toNatClampNeg a2) 202 ((((4 : Int32) * ((ip_u (ip_u F 202 (((4 : Int32) * (F 193 5))).toNatClampNeg a1) 202 ((((4 : Int32) * ((ip_u F 202 (((4 : Int32) * (F 193 5))).toNatClampNeg a1) 193 5)) + (1 : Int32))).toNatClampNeg a2) 193 5)) + (2 : Int32))).toNatClampNeg a3) 202 ((((4 : Int32) * ((ip_u (ip_u (ip_u F 202 (((4 : Int32) * (F 193 5))).toNatClampNeg a1) 202 ((((4 : Int32) * ((ip_u F 202 (((4 : Int32) * (F 193 5))).toNatClampNeg a1) 193 5)) + (1 : Int32))).toNatClampNeg a2) 202 ((((4 : Int32) * ((ip_u (ip_u F 202 (((4 : Int32) * (F 193 5))).toNatClampNeg a1) 202 ((((4 : Int32) * ((ip_u F 202 (((4 : Int32) * (F 193 5))).toNatClampNeg a1) 193 5)) + (1 : Int32))).toNatClampNeg a2) 193 5)) + (2 : Int32))).toNatClampNeg a3) 193 5)) + (3 : Int32))).toNatClampNeg a4) 193 5) + (1 : Int32))) 193 5))) (hs t, (ip_u (ip_u (ip_u (ip_u (ip_u F 202 (((4 : Int32) * (F 193 5))).toNatClampNeg a1) 202 ((((4 : Int32) * ((ip_u F 202 (((4 : Int32) * (F 193 5))).toNatClampNeg a1) 193 5)) + (1 : Int32))).toNatClampNeg a2) 202 ((((4 : Int32) * ((ip_u (ip_u F 202 (((4 : Int32) * (F 193 5))).toNatClampNeg a1) 202 ((((4 : Int32) * ((ip_u F 202 (((4 : Int32) * (F 193 5))).toNatClampNeg a1) 193 5)) + (1 : Int32))).toNatClampNeg a2) 193 5)) + (2 : Int32))).toNatClampNeg a3) 202 ((((4 : Int32) * ((ip_u (ip_u (ip_u F 202 (((4 : Int32) * (F 193 5))).toNatClampNeg a1) 202 ((((4 : Int32) * ((ip_u F 202 (((4 : Int32) * (F 193 5))).toNatClampNeg a1) 193 5)) + (1 : Int32))).toNatClampNeg a2) 202 ((((4 : Int32) * ((ip_u (ip_u F 202 (((4 : Int32) * (F 193 5))).toNatClampNeg a1) 202 ((((4 : Int32) * ((ip_u F 202 (((4 : Int32) * (F 193 5))).toNatClampNeg a1) 193 5)) + (1 : Int32))).toNatClampNeg a2) 193 5)) + (2 : Int32))).toNatClampNeg a3) 193 5)) + (3 : Int32))).toNatClampNeg a4) 193 5 (((ip_u (ip_u (ip_u (ip_u F 202 (((4 : Int32) * (F 193 5))).toNatClampNeg a1) 202 ((((4 : Int32) * ((ip_u F 202 (((4 : Int32) * (F 193 5))).toNatClampNeg a1) 193 5)) + (1 : Int32))).toNatClampNeg a2) 202 ((((4 : Int32) * ((ip_u (ip_u F 202 (((4 : Int32) * (F 193 5))).toNatClampNeg a1) 202 ((((4 : Int32) * ((ip_u F 202 (((4 : Int32) * (F 193 5))).toNatClampNeg a1) 193 5)) + (1 : Int32))).toNatClampNeg a2) 193 5)) + (2 : Int32))).toNatClampNeg a3) 202 ((((4 : Int32) * ((ip_u (ip_u (ip_u F 202 (((4 : Int32) * (F 193 5))).toNatClampNeg a1) 202 ((((4 : Int32) * ((ip_u F 202 (((4 : Int32) * (F 193 5))).toNatClampNeg a1) 193 5)) + (1 : Int32))).toNatClampNeg a2) 202 ((((4 : Int32) * ((ip_u (ip_u F 202 (((4 : Int32) * (F 193 5))).toNatClampNeg a1) 202 ((((4 : Int32) * ((ip_u F 202 (((4 : Int32) * (F 193 5))).toNatClampNeg a1) 193 5)) + (1 : Int32))).toNatClampNeg a2) 193 5)) + (2 : Int32))).toNatClampNeg a3) 193 5)) + (3 : Int32))).toNatClampNeg a4) 193 5) + (1 : Int32))), G)))))) ∧ ((F 193 5) = (6 : Int32) → wp 142 0 [.ref 193] [] (hs t, F, G) (fun v M' => wp 212 56 [.ref 193, .int a1, .int a2, .int a3, .int a4] (v.toList ++ []) M' Q))) ∧ (as0 = (0 : Int32) → wp 212 38 [.ref 193, .int a1, .int a2, .int a3, .int a4] [] (hs t, F, G) Q)) : wp 212 35 [.ref 193, .int a1, .int a2, .int a3, .int a4] [.int as0] (hs t, F, G) Q := by
  refine wp_ifc (pc1 := 43) (c := .ne) rfl (fun hc => ?_) (fun hc => ?_)
  · replace h := h.1 hc
    refine wp_N (j' := 212) (pc' := 49) (L' := [.ref 193, .int a1, .int a2, .int a3, .int a4]) (S' := [.int (6 : Int32), .int (F 193 5)]) (M' := (hs t, F, G)) 2 (fun _ => rfl) ?_
    refine wp_icmp (pc1 := 57) (c := .ne) rfl (fun hc => ?_) (fun hc => ?_)
    · replace h := h.1 hc
      refine wp_N (j' := 212) (pc' := 68) (L' := [.ref 193, .int a1, .int a2, .int a3, .int a4]) (S' := [.int a1, .int ((4 : Int32) * (F 193 5)), .ref 202]) (M' := (hs t, F, G)) 6 (fun _ => rfl) ?_
      obtain ⟨h1_, h⟩ := h
      refine wp_ias (m := (((4 : Int32) * (F 193 5))).toNatClampNeg) rfl rfl rfl h1_ ?_
      refine wp_N (j' := 212) (pc' := 82) (L' := [.ref 193, .int a1, .int a2, .int a3, .int a4]) (S' := [.int a2, .int (((4 : Int32) * ((ip_u F 202 (((4 : Int32) * (F 193 5))).toNatClampNeg a1) 193 5)) + (1 : Int32)), .ref 202]) (M' := (hs t, (ip_u F 202 (((4 : Int32) * (F 193 5))).toNatClampNeg a1), G)) 8 (fun _ => rfl) ?_
      obtain ⟨h2_, h⟩ := h
      refine wp_ias (m := ((((4 : Int32) * ((ip_u F 202 (((4 : Int32) * (F 193 5))).toNatClampNeg a1) 193 5)) + (1 : Int32))).toNatClampNeg) rfl rfl rfl h2_ ?_
      refine wp_N (j' := 212) (pc' := 96) (L' := [.ref 193, .int a1, .int a2, .int a3, .int a4]) (S' := [.int a3, .int (((4 : Int32) * ((ip_u (ip_u F 202 (((4 : Int32) * (F 193 5))).toNatClampNeg a1) 202 ((((4 : Int32) * ((ip_u F 202 (((4 : Int32) * (F 193 5))).toNatClampNeg a1) 193 5)) + (1 : Int32))).toNatClampNeg a2) 193 5)) + (2 : Int32)), .ref 202]) (M' := (hs t, (ip_u (ip_u F 202 (((4 : Int32) * (F 193 5))).toNatClampNeg a1) 202 ((((4 : Int32) * ((ip_u F 202 (((4 : Int32) * (F 193 5))).toNatClampNeg a1) 193 5)) + (1 : Int32))).toNatClampNeg a2), G)) 8 (fun _ => rfl) ?_
      obtain ⟨h3_, h⟩ := h
      refine wp_ias (m := ((((4 : Int32) * ((ip_u (ip_u F 202 (((4 : Int32) * (F 193 5))).toNatClampNeg a1) 202 ((((4 : Int32) * ((ip_u F 202 (((4 : Int32) * (F 193 5))).toNatClampNeg a1) 193 5)) + (1 : Int32))).toNatClampNeg a2) 193 5)) + (2 : Int32))).toNatClampNeg) rfl rfl rfl h3_ ?_
      refine wp_N (j' := 212) (pc' := 111) (L' := [.ref 193, .int a1, .int a2, .int a3, .int a4]) (S' := [.int a4, .int (((4 : Int32) * ((ip_u (ip_u (ip_u F 202 (((4 : Int32) * (F 193 5))).toNatClampNeg a1) 202 ((((4 : Int32) * ((ip_u F 202 (((4 : Int32) * (F 193 5))).toNatClampNeg a1) 193 5)) + (1 : Int32))).toNatClampNeg a2) 202 ((((4 : Int32) * ((ip_u (ip_u F 202 (((4 : Int32) * (F 193 5))).toNatClampNeg a1) 202 ((((4 : Int32) * ((ip_u F 202 (((4 : Int32) * (F 193 5))).toNatClampNeg a1) 193 5)) + (1 : Int32))).toNatClampNeg a2) 193 5)) + (2 : Int32))).toNatClampNeg a3) 193 5)) + (3 : Int32)), .ref 202]) (M' := (hs t, (ip_u (ip_u (ip_u F 202 (((4 : Int32) * (F 193 5))).toNatClampNeg a1) 202 ((((4 : Int32) * ((ip_u F 202 (((4 : Int32) * (F 193 5))).toNatClampNeg a1) 193 5)) + (1 : Int32))).toNatClampNeg a2) 202 ((((4 : Int32) * ((ip_u (ip_u F 202 (((4 : Int32) * (F 193 5))).toNatClampNeg a1) 202 ((((4 : Int32) * ((ip_u F 202 (((4 : Int32) * (F 193 5))).toNatClampNeg a1) 193 5)) + (1 : Int32))).toNatClampNeg a2) 193 5)) + (2 : Int32))).toNatClampNeg a3), G)) 8 (fun _ => rfl) ?_
      obtain ⟨h4_, h⟩ := h
      refine wp_ias (m := ((((4 : Int32) * ((ip_u (ip_u (ip_u F 202 (((4 : Int32) * (F 193 5))).toNatClampNeg a1) 202 ((((4 : Int32) * ((ip_u F 202 (((4 : Int32) * (F 193 5))).toNatClampNeg a1) 193 5)) + (1 : Int32))).toNatClampNeg a2) 202 ((((4 : Int32) * ((ip_u (ip_u F 202 (((4 : Int32) * (F 193 5))).toNatClampNeg a1) 202 ((((4 : Int32) * ((ip_u F 202 (((4 : Int32) * (F 193 5))).toNatClampNeg a1) 193 5)) + (1 : Int32))).toNatClampNeg a2) 193 5)) + (2 : Int32))).toNatClampNeg a3) 193 5)) + (3 : Int32))).toNatClampNeg) rfl rfl rfl h4_ ?_
      refine wp_N (j' := 212) (pc' := 119) (L' := [.ref 193, .int a1, .int a2, .int a3, .int a4]) (S' := [.int (((ip_u (ip_u (ip_u (ip_u F 202 (((4 : Int32) * (F 193 5))).toNatClampNeg a1) 202 ((((4 : Int32) * ((ip_u F 202 (((4 : Int32) * (F 193 5))).toNatClampNeg a1) 193 5)) + (1 : Int32))).toNatClampNeg a2) 202 ((((4 : Int32) * ((ip_u (ip_u F 202 (((4 : Int32) * (F 193 5))).toNatClampNeg a1) 202 ((((4 : Int32) * ((ip_u F 202 (((4 : Int32) * (F 193 5))).toNatClampNeg a1) 193 5)) + (1 : Int32))).toNatClampNeg a2) 193 5)) + (2 : Int32))).toNatClampNeg a3) 202 ((((4 : Int32) * ((ip_u (ip_u (ip_u F 202 (((4 : Int32) * (F 193 5))).toNatClampNeg a1) 202 ((((4 : Int32) * ((ip_u F 202 (((4 : Int32) * (F 193 5))).toNatClampNeg a1) 193 5)) + (1 : Int32))).toNatClampNeg a2) 202 ((((4 : Int32) * ((ip_u (ip_u F 202 (((4 : Int32) * (F 193 5))).toNatClampNeg a1) 202 ((((4 : Int32) * ((ip_u F 202 (((4 : Int32) * (F 193 5))).toNatClampNeg a1) 193 5)) + (1 : Int32))).toNatClampNeg a2) 193 5)) + (2 : Int32))).toNatClampNeg a3) 193 5)) + (3 : Int32))).toNatClampNeg a4) 193 5) + (1 : Int32)), .ref 193]) (M' := (hs t, (ip_u (ip_u (ip_u (ip_u F 202 (((4 : Int32) * (F 193 5))).toNatClampNeg a1) 202 ((((4 : Int32) * ((ip_u F 202 (((4 : Int32) * (F 193 5))).toNatClampNeg a1) 193 5)) + (1 : Int32))).toNatClampNeg a2) 202 ((((4 : Int32) * ((ip_u (ip_u F 202 (((4 : Int32) * (F 193 5))).toNatClampNeg a1) 202 ((((4 : Int32) * ((ip_u F 202 (((4 : Int32) * (F 193 5))).toNatClampNeg a1) 193 5)) + (1 : Int32))).toNatClampNeg a2) 193 5)) + (2 : Int32))).toNatClampNeg a3) 202 ((((4 : Int32) * ((ip_u (ip_u (ip_u F 202 (((4 : Int32) * (F 193 5))).toNatClampNeg a1) 202 ((((4 : Int32) * ((ip_u F 202 (((4 : Int32) * (F 193 5))).toNatClampNeg a1) 193 5)) + (1 : Int32))).toNatClampNeg a2) 202 ((((4 : Int32) * ((ip_u (ip_u F 202 (((4 : Int32) * (F 193 5))).toNatClampNeg a1) 202 ((((4 : Int32) * ((ip_u F 202 (((4 : Int32) * (F 193 5))).toNatClampNeg a1) 193 5)) + (1 : Int32))).toNatClampNeg a2) 193 5)) + (2 : Int32))).toNatClampNeg a3) 193 5)) + (3 : Int32))).toNatClampNeg a4), G)) 4 (fun _ => rfl) ?_
      refine wp_putI rfl rfl rfl rfl rfl rfl (by decide) ?_
      refine wp_N (j' := 212) (pc' := 126) (L' := [.ref 193, .int a1, .int a2, .int a3, .int a4]) (S' := [.int ((ip_u (ip_u (ip_u (ip_u (ip_u F 202 (((4 : Int32) * (F 193 5))).toNatClampNeg a1) 202 ((((4 : Int32) * ((ip_u F 202 (((4 : Int32) * (F 193 5))).toNatClampNeg a1) 193 5)) + (1 : Int32))).toNatClampNeg a2) 202 ((((4 : Int32) * ((ip_u (ip_u F 202 (((4 : Int32) * (F 193 5))).toNatClampNeg a1) 202 ((((4 : Int32) * ((ip_u F 202 (((4 : Int32) * (F 193 5))).toNatClampNeg a1) 193 5)) + (1 : Int32))).toNatClampNeg a2) 193 5)) + (2 : Int32))).toNatClampNeg a3) 202 ((((4 : Int32) * ((ip_u (ip_u (ip_u F 202 (((4 : Int32) * (F 193 5))).toNatClampNeg a1) 202 ((((4 : Int32) * ((ip_u F 202 (((4 : Int32) * (F 193 5))).toNatClampNeg a1) 193 5)) + (1 : Int32))).toNatClampNeg a2) 202 ((((4 : Int32) * ((ip_u (ip_u F 202 (((4 : Int32) * (F 193 5))).toNatClampNeg a1) 202 ((((4 : Int32) * ((ip_u F 202 (((4 : Int32) * (F 193 5))).toNatClampNeg a1) 193 5)) + (1 : Int32))).toNatClampNeg a2) 193 5)) + (2 : Int32))).toNatClampNeg a3) 193 5)) + (3 : Int32))).toNatClampNeg a4) 193 5 (((ip_u (ip_u (ip_u (ip_u F 202 (((4 : Int32) * (F 193 5))).toNatClampNeg a1) 202 ((((4 : Int32) * ((ip_u F 202 (((4 : Int32) * (F 193 5))).toNatClampNeg a1) 193 5)) + (1 : Int32))).toNatClampNeg a2) 202 ((((4 : Int32) * ((ip_u (ip_u F 202 (((4 : Int32) * (F 193 5))).toNatClampNeg a1) 202 ((((4 : Int32) * ((ip_u F 202 (((4 : Int32) * (F 193 5))).toNatClampNeg a1) 193 5)) + (1 : Int32))).toNatClampNeg a2) 193 5)) + (2 : Int32))).toNatClampNeg a3) 202 ((((4 : Int32) * ((ip_u (ip_u (ip_u F 202 (((4 : Int32) * (F 193 5))).toNatClampNeg a1) 202 ((((4 : Int32) * ((ip_u F 202 (((4 : Int32) * (F 193 5))).toNatClampNeg a1) 193 5)) + (1 : Int32))).toNatClampNeg a2) 202 ((((4 : Int32) * ((ip_u (ip_u F 202 (((4 : Int32) * (F 193 5))).toNatClampNeg a1) 202 ((((4 : Int32) * ((ip_u F 202 (((4 : Int32) * (F 193 5))).toNatClampNeg a1) 193 5)) + (1 : Int32))).toNatClampNeg a2) 193 5)) + (2 : Int32))).toNatClampNeg a3) 193 5)) + (3 : Int32))).toNatClampNeg a4) 193 5) + (1 : Int32))) 193 5)]) (M' := (hs t, (ip_u (ip_u (ip_u (ip_u (ip_u F 202 (((4 : Int32) * (F 193 5))).toNatClampNeg a1) 202 ((((4 : Int32) * ((ip_u F 202 (((4 : Int32) * (F 193 5))).toNatClampNeg a1) 193 5)) + (1 : Int32))).toNatClampNeg a2) 202 ((((4 : Int32) * ((ip_u (ip_u F 202 (((4 : Int32) * (F 193 5))).toNatClampNeg a1) 202 ((((4 : Int32) * ((ip_u F 202 (((4 : Int32) * (F 193 5))).toNatClampNeg a1) 193 5)) + (1 : Int32))).toNatClampNeg a2) 193 5)) + (2 : Int32))).toNatClampNeg a3) 202 ((((4 : Int32) * ((ip_u (ip_u (ip_u F 202 (((4 : Int32) * (F 193 5))).toNatClampNeg a1) 202 ((((4 : Int32) * ((ip_u F 202 (((4 : Int32) * (F 193 5))).toNatClampNeg a1) 193 5)) + (1 : Int32))).toNatClampNeg a2) 202 ((((4 : Int32) * ((ip_u (ip_u F 202 (((4 : Int32) * (F 193 5))).toNatClampNeg a1) 202 ((((4 : Int32) * ((ip_u F 202 (((4 : Int32) * (F 193 5))).toNatClampNeg a1) 193 5)) + (1 : Int32))).toNatClampNeg a2) 193 5)) + (2 : Int32))).toNatClampNeg a3) 193 5)) + (3 : Int32))).toNatClampNeg a4) 193 5 (((ip_u (ip_u (ip_u (ip_u F 202 (((4 : Int32) * (F 193 5))).toNatClampNeg a1) 202 ((((4 : Int32) * ((ip_u F 202 (((4 : Int32) * (F 193 5))).toNatClampNeg a1) 193 5)) + (1 : Int32))).toNatClampNeg a2) 202 ((((4 : Int32) * ((ip_u (ip_u F 202 (((4 : Int32) * (F 193 5))).toNatClampNeg a1) 202 ((((4 : Int32) * ((ip_u F 202 (((4 : Int32) * (F 193 5))).toNatClampNeg a1) 193 5)) + (1 : Int32))).toNatClampNeg a2) 193 5)) + (2 : Int32))).toNatClampNeg a3) 202 ((((4 : Int32) * ((ip_u (ip_u (ip_u F 202 (((4 : Int32) * (F 193 5))).toNatClampNeg a1) 202 ((((4 : Int32) * ((ip_u F 202 (((4 : Int32) * (F 193 5))).toNatClampNeg a1) 193 5)) + (1 : Int32))).toNatClampNeg a2) 202 ((((4 : Int32) * ((ip_u (ip_u F 202 (((4 : Int32) * (F 193 5))).toNatClampNeg a1) 202 ((((4 : Int32) * ((ip_u F 202 (((4 : Int32) * (F 193 5))).toNatClampNeg a1) 193 5)) + (1 : Int32))).toNatClampNeg a2) 193 5)) + (2 : Int32))).toNatClampNeg a3) 193 5)) + (3 : Int32))).toNatClampNeg a4) 193 5) + (1 : Int32))), G)) 1 (fun _ => rfl) ?_
      exact wp_RI rfl rfl h
    · replace h := h.2 (Decidable.not_not.mp hc)
      refine wp_N (j' := 212) (pc' := 53) (L' := [.ref 193, .int a1, .int a2, .int a3, .int a4]) (S' := [.ref 193]) (M' := (hs t, F, G)) 0 (fun _ => rfl) ?_
      refine wp_C (i := 142) (pc' := 56) (Li := [.ref 193]) (rest := []) (fun _ => rfl) h
  · replace h := h.2 (Decidable.not_not.mp hc)
    exact h
theorem rg212_38 {t : Nat} {F : ip_F} {G : ip_G} {Q : Option Value → ip_M → Prop} {a1 a2 a3 a4 : Int32} (h : wp 140 0 [.ref 193] [] (hs t, F, G) (fun v M' => wp 212 42 [.ref 193, .int a1, .int a2, .int a3, .int a4] (v.toList ++ []) M' Q)) : wp 212 38 [.ref 193, .int a1, .int a2, .int a3, .int a4] [] (hs t, F, G) Q := by
  refine wp_N (j' := 212) (pc' := 39) (L' := [.ref 193, .int a1, .int a2, .int a3, .int a4]) (S' := [.ref 193]) (M' := (hs t, F, G)) 0 (fun _ => rfl) ?_
  refine wp_C (i := 140) (pc' := 42) (Li := [.ref 193]) (rest := []) (fun _ => rfl) h
theorem rg212_42 {t : Nat} {F : ip_F} {G : ip_G} {Q : Option Value → ip_M → Prop} {a1 a2 a3 a4 as0 : Int32} (h : Q (some (.int as0)) (hs t, F, G)) : wp 212 42 [.ref 193, .int a1, .int a2, .int a3, .int a4] [.int as0] (hs t, F, G) Q := by
  exact wp_RI rfl rfl h
theorem rg212_56 {t : Nat} {F : ip_F} {G : ip_G} {Q : Option Value → ip_M → Prop} {a1 a2 a3 a4 as0 : Int32} (h : Q (some (.int as0)) (hs t, F, G)) : wp 212 56 [.ref 193, .int a1, .int a2, .int a3, .int a4] [.int as0] (hs t, F, G) Q := by
  exact wp_RI rfl rfl h
theorem rg213_0 {t : Nat} {F : ip_F} {G : ip_G} {Q : Option Value → ip_M → Prop} {a1 : Int32} (h : wp 143 0 [.int a1, .int (0 : Int32), .int (2 : Int32)] [] (hs t, F, G) (fun v M' => wp 213 6 [.ref 193, .int a1, .float 0] (v.toList ++ []) M' Q)) : wp 213 0 [.ref 193, .int a1, .float 0] [] (hs t, F, G) Q := by
  refine wp_N (j' := 213) (pc' := 3) (L' := [.ref 193, .int a1, .float 0]) (S' := [.int (2 : Int32), .int (0 : Int32), .int a1]) (M' := (hs t, F, G)) 2 (fun _ => rfl) ?_
  refine wp_C (i := 143) (pc' := 6) (Li := [.int a1, .int (0 : Int32), .int (2 : Int32)]) (rest := []) (fun _ => rfl) h
theorem rg213_6 {t : Nat} {F : ip_F} {G : ip_G} {Q : Option Value → ip_M → Prop} {a1 as0 : Int32} {v2 : Value} (h : (¬ as0 = (0 : Int32) → (¬ a1 = (0 : Int32) → (¬ a1 = (1 : Int32) → wp 213 41 [.ref 193, .int a1, v2] [.int (F 193 5)] (hs t, F, G) Q) ∧ (a1 = (1 : Int32) → wp 213 41 [.ref 193, .int a1, v2] [.int (F 193 4)] (hs t, F, G) Q)) ∧ (a1 = (0 : Int32) → wp 213 41 [.ref 193, .int a1, v2] [.int (F 193 3)] (hs t, F, G) Q)) ∧ (as0 = (0 : Int32) → wp 140 0 [.ref 193] [] (hs t, F, G) (fun v M' => wp 213 13 [.ref 193, .int a1, v2] (v.toList ++ []) M' Q))) : wp 213 6 [.ref 193, .int a1, v2] [.int as0] (hs t, F, G) Q := by
  refine wp_ifc (pc1 := 14) (c := .ne) rfl (fun hc => ?_) (fun hc => ?_)
  · replace h := h.1 hc
    refine wp_N (j' := 213) (pc' := 15) (L' := [.ref 193, .int a1, v2]) (S' := [.int a1]) (M' := (hs t, F, G)) 0 (fun _ => rfl) ?_
    refine wp_ifc (pc1 := 25) (c := .ne) rfl (fun hc => ?_) (fun hc => ?_)
    · replace h := h.1 hc
      refine wp_N (j' := 213) (pc' := 27) (L' := [.ref 193, .int a1, v2]) (S' := [.int (1 : Int32), .int a1]) (M' := (hs t, F, G)) 1 (fun _ => rfl) ?_
      refine wp_icmp (pc1 := 37) (c := .ne) rfl (fun hc => ?_) (fun hc => ?_)
      · replace h := h.1 hc
        refine wp_N (j' := 213) (pc' := 41) (L' := [.ref 193, .int a1, v2]) (S' := [.int (F 193 5)]) (M' := (hs t, F, G)) 1 (fun _ => rfl) ?_
        exact h
      · replace h := h.2 (Decidable.not_not.mp hc)
        refine wp_N (j' := 213) (pc' := 41) (L' := [.ref 193, .int a1, v2]) (S' := [.int (F 193 4)]) (M' := (hs t, F, G)) 2 (fun _ => rfl) ?_
        exact h
    · replace h := h.2 (Decidable.not_not.mp hc)
      refine wp_N (j' := 213) (pc' := 41) (L' := [.ref 193, .int a1, v2]) (S' := [.int (F 193 3)]) (M' := (hs t, F, G)) 2 (fun _ => rfl) ?_
      exact h
  · replace h := h.2 (Decidable.not_not.mp hc)
    refine wp_N (j' := 213) (pc' := 10) (L' := [.ref 193, .int a1, v2]) (S' := [.ref 193]) (M' := (hs t, F, G)) 0 (fun _ => rfl) ?_
    refine wp_C (i := 140) (pc' := 13) (Li := [.ref 193]) (rest := []) (fun _ => rfl) h
theorem rg213_13 {t : Nat} {F : ip_F} {G : ip_G} {Q : Option Value → ip_M → Prop} {a1 as0 : Int32} {v2 : Value} (h : Q (some (.int as0)) (hs t, F, G)) : wp 213 13 [.ref 193, .int a1, v2] [.int as0] (hs t, F, G) Q := by
  exact wp_RI rfl rfl h
theorem rg213_41 {t : Nat} {F : ip_F} {G : ip_G} {Q : Option Value → ip_M → Prop} {a1 as0 : Int32} {v2 : Value} (h : (¬ a1 = (0 : Int32) → wp 213 55 [.ref 193, .int a1, .int as0] [.int (F 193 3), .ref 193] (hs t, F, G) Q) ∧ (a1 = (0 : Int32) → wp 213 55 [.ref 193, .int a1, .int as0] [.int (0 : Int32), .ref 193] (hs t, F, G) Q)) : wp 213 41 [.ref 193, .int a1, v2] [.int as0] (hs t, F, G) Q := by
  refine wp_N (j' := 213) (pc' := 44) (L' := [.ref 193, .int a1, .int as0]) (S' := [.int a1, .ref 193]) (M' := (hs t, F, G)) 2 (fun _ => rfl) ?_
  refine wp_ifc (pc1 := 51) (c := .ne) rfl (fun hc => ?_) (fun hc => ?_)
  · replace h := h.1 hc
    refine wp_N (j' := 213) (pc' := 55) (L' := [.ref 193, .int a1, .int as0]) (S' := [.int (F 193 3), .ref 193]) (M' := (hs t, F, G)) 1 (fun _ => rfl) ?_
    exact h
  · replace h := h.2 (Decidable.not_not.mp hc)
    refine wp_N (j' := 213) (pc' := 55) (L' := [.ref 193, .int a1, .int as0]) (S' := [.int (0 : Int32), .ref 193]) (M' := (hs t, F, G)) 1 (fun _ => rfl) ?_
    exact h
theorem rg213_55 {t : Nat} {F : ip_F} {G : ip_G} {Q : Option Value → ip_M → Prop} {a1 a2 as1 : Int32} (h : (¬ a1 = (1 : Int32) → wp 213 72 [.ref 193, .int a1, .int a2] [.int ((ip_u F 193 3 as1) 193 4), .ref 193] (hs t, (ip_u F 193 3 as1), G) Q) ∧ (a1 = (1 : Int32) → wp 213 72 [.ref 193, .int a1, .int a2] [.int (0 : Int32), .ref 193] (hs t, (ip_u F 193 3 as1), G) Q)) : wp 213 55 [.ref 193, .int a1, .int a2] [.int as1, .ref 193] (hs t, F, G) Q := by
  refine wp_putI rfl rfl rfl rfl rfl rfl (by decide) ?_
  refine wp_N (j' := 213) (pc' := 61) (L' := [.ref 193, .int a1, .int a2]) (S' := [.int (1 : Int32), .int a1, .ref 193]) (M' := (hs t, (ip_u F 193 3 as1), G)) 2 (fun _ => rfl) ?_
  refine wp_icmp (pc1 := 68) (c := .ne) rfl (fun hc => ?_) (fun hc => ?_)
  · replace h := h.1 hc
    refine wp_N (j' := 213) (pc' := 72) (L' := [.ref 193, .int a1, .int a2]) (S' := [.int ((ip_u F 193 3 as1) 193 4), .ref 193]) (M' := (hs t, (ip_u F 193 3 as1), G)) 1 (fun _ => rfl) ?_
    exact h
  · replace h := h.2 (Decidable.not_not.mp hc)
    refine wp_N (j' := 213) (pc' := 72) (L' := [.ref 193, .int a1, .int a2]) (S' := [.int (0 : Int32), .ref 193]) (M' := (hs t, (ip_u F 193 3 as1), G)) 1 (fun _ => rfl) ?_
    exact h
theorem rg213_72 {t : Nat} {F : ip_F} {G : ip_G} {Q : Option Value → ip_M → Prop} {a1 a2 as1 : Int32} (h : (¬ a1 = (2 : Int32) → wp 213 89 [.ref 193, .int a1, .int a2] [.int ((ip_u F 193 4 as1) 193 5), .ref 193] (hs t, (ip_u F 193 4 as1), G) Q) ∧ (a1 = (2 : Int32) → wp 213 89 [.ref 193, .int a1, .int a2] [.int (0 : Int32), .ref 193] (hs t, (ip_u F 193 4 as1), G) Q)) : wp 213 72 [.ref 193, .int a1, .int a2] [.int as1, .ref 193] (hs t, F, G) Q := by
  refine wp_putI rfl rfl rfl rfl rfl rfl (by decide) ?_
  refine wp_N (j' := 213) (pc' := 78) (L' := [.ref 193, .int a1, .int a2]) (S' := [.int (2 : Int32), .int a1, .ref 193]) (M' := (hs t, (ip_u F 193 4 as1), G)) 2 (fun _ => rfl) ?_
  refine wp_icmp (pc1 := 85) (c := .ne) rfl (fun hc => ?_) (fun hc => ?_)
  · replace h := h.1 hc
    refine wp_N (j' := 213) (pc' := 89) (L' := [.ref 193, .int a1, .int a2]) (S' := [.int ((ip_u F 193 4 as1) 193 5), .ref 193]) (M' := (hs t, (ip_u F 193 4 as1), G)) 1 (fun _ => rfl) ?_
    exact h
  · replace h := h.2 (Decidable.not_not.mp hc)
    refine wp_N (j' := 213) (pc' := 89) (L' := [.ref 193, .int a1, .int a2]) (S' := [.int (0 : Int32), .ref 193]) (M' := (hs t, (ip_u F 193 4 as1), G)) 1 (fun _ => rfl) ?_
    exact h
theorem rg213_89 {t : Nat} {F : ip_F} {G : ip_G} {Q : Option Value → ip_M → Prop} {a1 a2 as1 : Int32} (h : Q (some (.int a2)) (hs t, (ip_u F 193 5 as1), G)) : wp 213 89 [.ref 193, .int a1, .int a2] [.int as1, .ref 193] (hs t, F, G) Q := by
  refine wp_putI rfl rfl rfl rfl rfl rfl (by decide) ?_
  refine wp_N (j' := 213) (pc' := 93) (L' := [.ref 193, .int a1, .int a2]) (S' := [.int a2]) (M' := (hs t, (ip_u F 193 5 as1), G)) 0 (fun _ => rfl) ?_
  exact wp_RI rfl rfl h
theorem rg214_0 {t : Nat} {F : ip_F} {G : ip_G} {Q : Option Value → ip_M → Prop} {a1 : Int32} (h : wp 214 4 [.ref 193, .int a1, .int (0 : Int32), .int (0 : Int32), .float 0, .float 0, .float 0] [] (hs t, F, G) Q) : wp 214 0 [.ref 193, .int a1, .float 0, .float 0, .float 0, .float 0, .float 0] [] (hs t, F, G) Q := by
  refine wp_N (j' := 214) (pc' := 4) (L' := [.ref 193, .int a1, .int (0 : Int32), .int (0 : Int32), .float 0, .float 0, .float 0]) (S' := []) (M' := (hs t, F, G)) 3 (fun _ => rfl) ?_
  exact h
theorem rg214_4 {t : Nat} {F : ip_F} {G : ip_G} {Q : Option Value → ip_M → Prop} {a1 a2 a3 : Int32} {v4 v5 v6 : Value} (h : ((5 : Int32) < a3 → Q (some (.int a2)) (hs t, F, G)) ∧ (a3 ≤ (5 : Int32) → wp 214 15 [.ref 193, .int a1, .int a2, .int a3, .int (1 : Int32), .int (0 : Int32), v6] [] (hs t, F, G) Q)) : wp 214 4 [.ref 193, .int a1, .int a2, .int a3, v4, v5, v6] [] (hs t, F, G) Q := by
  refine wp_N (j' := 214) (pc' := 6) (L' := [.ref 193, .int a1, .int a2, .int a3, v4, v5, v6]) (S' := [.int (5 : Int32), .int a3]) (M' := (hs t, F, G)) 1 (fun _ => rfl) ?_
  refine wp_icmp (pc1 := 115) (c := .gt) rfl (fun hc => ?_) (fun hc => ?_)
  · replace h := h.1 hc
    refine wp_N (j' := 214) (pc' := 116) (L' := [.ref 193, .int a1, .int a2, .int a3, v4, v5, v6]) (S' := [.int a2]) (M' := (hs t, F, G)) 0 (fun _ => rfl) ?_
    exact wp_RI rfl rfl h
  · replace h := h.2 (Int32.not_lt.mp hc)
    refine wp_N (j' := 214) (pc' := 15) (L' := [.ref 193, .int a1, .int a2, .int a3, .int (1 : Int32), .int (0 : Int32), v6]) (S' := []) (M' := (hs t, F, G)) 3 (fun _ => rfl) ?_
    exact h
theorem rg214_15 {t : Nat} {F : ip_F} {G : ip_G} {Q : Option Value → ip_M → Prop} {a1 a2 a3 a4 a5 : Int32} {v6 : Value} (h : (((3 : Int32) * (F 193 4)) ≤ a5 → (a4 = (0 : Int32) → wp 214 107 [.ref 193, .int a1, .int a2, .int a3, .int a4, .int a5, v6] [.int (0 : Int32), .int a2] (hs t, F, G) Q) ∧ (¬ a4 = (0 : Int32) → wp 214 107 [.ref 193, .int a1, .int a2, .int a3, .int a4, .int a5, v6] [.int ((1 : Int32) <<< (a3 &&& 31)), .int a2] (hs t, F, G) Q)) ∧ (a5 < ((3 : Int32) * (F 193 4)) → (vp_in (a5 + (1 : Int32)) 18) ∧ (wp 172 0 [.int a3, .int (F 201 ((a5 + (1 : Int32))).toNatClampNeg), .int (6 : Int32), .float 0, .float 0, .float 0] [] (hs t, F, G) (fun v M' => wp 214 41 [.ref 193, .int a1, .int a2, .int a3, .int a4, .int a5, v6] (v.toList ++ []) M' Q)))) : wp 214 15 [.ref 193, .int a1, .int a2, .int a3, .int a4, .int a5, v6] [] (hs t, F, G) Q := by
  refine wp_N (j' := 214) (pc' := 23) (L' := [.ref 193, .int a1, .int a2, .int a3, .int a4, .int a5, v6]) (S' := [.int ((3 : Int32) * (F 193 4)), .int a5]) (M' := (hs t, F, G)) 4 (fun _ => rfl) ?_
  refine wp_icmp (pc1 := 94) (c := .ge) rfl (fun hc => ?_) (fun hc => ?_)
  · replace h := h.1 hc
    refine wp_N (j' := 214) (pc' := 97) (L' := [.ref 193, .int a1, .int a2, .int a3, .int a4, .int a5, v6]) (S' := [.int a4, .int a2]) (M' := (hs t, F, G)) 1 (fun _ => rfl) ?_
    refine wp_ifc (pc1 := 106) (c := .eq) rfl (fun hc => ?_) (fun hc => ?_)
    · replace h := h.1 hc
      refine wp_N (j' := 214) (pc' := 107) (L' := [.ref 193, .int a1, .int a2, .int a3, .int a4, .int a5, v6]) (S' := [.int (0 : Int32), .int a2]) (M' := (hs t, F, G)) 0 (fun _ => rfl) ?_
      exact h
    · replace h := h.2 hc
      refine wp_N (j' := 214) (pc' := 107) (L' := [.ref 193, .int a1, .int a2, .int a3, .int a4, .int a5, v6]) (S' := [.int ((1 : Int32) <<< (a3 &&& 31)), .int a2]) (M' := (hs t, F, G)) 3 (fun _ => rfl) ?_
      exact h
  · replace h := h.2 (Int32.not_le.mp hc)
    refine wp_N (j' := 214) (pc' := 35) (L' := [.ref 193, .int a1, .int a2, .int a3, .int a4, .int a5, v6]) (S' := [.int (a5 + (1 : Int32)), .ref 201, .int a3]) (M' := (hs t, F, G)) 5 (fun _ => rfl) ?_
    obtain ⟨h1_, h⟩ := h
    refine wp_ial (m := ((a5 + (1 : Int32))).toNatClampNeg) rfl rfl rfl h1_ ?_
    refine wp_N (j' := 214) (pc' := 38) (L' := [.ref 193, .int a1, .int a2, .int a3, .int a4, .int a5, v6]) (S' := [.int (6 : Int32), .int (F 201 ((a5 + (1 : Int32))).toNatClampNeg), .int a3]) (M' := (hs t, F, G)) 0 (fun _ => rfl) ?_
    refine wp_C (i := 172) (pc' := 41) (Li := [.int a3, .int (F 201 ((a5 + (1 : Int32))).toNatClampNeg), .int (6 : Int32), .float 0, .float 0, .float 0]) (rest := []) (fun _ => rfl) h
theorem rg214_41 {t : Nat} {F : ip_F} {G : ip_G} {Q : Option Value → ip_M → Prop} {a1 a2 a3 a4 a5 as0 : Int32} {v6 : Value} (h : (vp_in (a5 + (2 : Int32)) 18) ∧ ((¬ as0 = (F 201 ((a5 + (2 : Int32))).toNatClampNeg) → wp 214 58 [.ref 193, .int a1, .int a2, .int a3, .int a4, .int a5, v6] [.int (0 : Int32)] (hs t, F, G) Q) ∧ (as0 = (F 201 ((a5 + (2 : Int32))).toNatClampNeg) → wp 214 58 [.ref 193, .int a1, .int a2, .int a3, .int a4, .int a5, v6] [.int (1 : Int32)] (hs t, F, G) Q))) : wp 214 41 [.ref 193, .int a1, .int a2, .int a3, .int a4, .int a5, v6] [.int as0] (hs t, F, G) Q := by
  refine wp_N (j' := 214) (pc' := 49) (L' := [.ref 193, .int a1, .int a2, .int a3, .int a4, .int a5, v6]) (S' := [.int (a5 + (2 : Int32)), .ref 201, .int as0]) (M' := (hs t, F, G)) 4 (fun _ => rfl) ?_
  obtain ⟨h1_, h⟩ := h
  refine wp_ial (m := ((a5 + (2 : Int32))).toNatClampNeg) rfl rfl rfl h1_ ?_
  refine wp_icmp (pc1 := 57) (c := .ne) rfl (fun hc => ?_) (fun hc => ?_)
  · replace h := h.1 hc
    refine wp_N (j' := 214) (pc' := 58) (L' := [.ref 193, .int a1, .int a2, .int a3, .int a4, .int a5, v6]) (S' := [.int (0 : Int32)]) (M' := (hs t, F, G)) 0 (fun _ => rfl) ?_
    exact h
  · replace h := h.2 (Decidable.not_not.mp hc)
    refine wp_N (j' := 214) (pc' := 58) (L' := [.ref 193, .int a1, .int a2, .int a3, .int a4, .int a5, v6]) (S' := [.int (1 : Int32)]) (M' := (hs t, F, G)) 1 (fun _ => rfl) ?_
    exact h
theorem rg214_58 {t : Nat} {F : ip_F} {G : ip_G} {Q : Option Value → ip_M → Prop} {a1 a2 a3 a4 a5 as0 : Int32} {v6 : Value} (h : (a4 = (0 : Int32) → wp 214 86 [.ref 193, .int a1, .int a2, .int a3, .int a4, .int a5, .int as0] [.int (0 : Int32)] (hs t, F, G) Q) ∧ (¬ a4 = (0 : Int32) → (vp_in a5 18) ∧ ((¬ (F 201 (a5).toNatClampNeg) = a1 → wp 214 86 [.ref 193, .int a1, .int a2, .int a3, .int a4, .int a5, .int as0] [.int (1 : Int32)] (hs t, F, G) Q) ∧ ((F 201 (a5).toNatClampNeg) = a1 → (as0 = (0 : Int32) → wp 214 86 [.ref 193, .int a1, .int a2, .int a3, .int a4, .int a5, .int as0] [.int (0 : Int32)] (hs t, F, G) Q) ∧ (¬ as0 = (0 : Int32) → wp 214 86 [.ref 193, .int a1, .int a2, .int a3, .int a4, .int a5, .int as0] [.int (1 : Int32)] (hs t, F, G) Q))))) : wp 214 58 [.ref 193, .int a1, .int a2, .int a3, .int a4, .int a5, v6] [.int as0] (hs t, F, G) Q := by
  refine wp_N (j' := 214) (pc' := 62) (L' := [.ref 193, .int a1, .int a2, .int a3, .int a4, .int a5, .int as0]) (S' := [.int a4]) (M' := (hs t, F, G)) 1 (fun _ => rfl) ?_
  refine wp_ifc (pc1 := 85) (c := .eq) rfl (fun hc => ?_) (fun hc => ?_)
  · replace h := h.1 hc
    refine wp_N (j' := 214) (pc' := 86) (L' := [.ref 193, .int a1, .int a2, .int a3, .int a4, .int a5, .int as0]) (S' := [.int (0 : Int32)]) (M' := (hs t, F, G)) 0 (fun _ => rfl) ?_
    exact h
  · replace h := h.2 hc
    refine wp_N (j' := 214) (pc' := 71) (L' := [.ref 193, .int a1, .int a2, .int a3, .int a4, .int a5, .int as0]) (S' := [.int a5, .ref 201]) (M' := (hs t, F, G)) 2 (fun _ => rfl) ?_
    obtain ⟨h1_, h⟩ := h
    refine wp_ial (m := (a5).toNatClampNeg) rfl rfl rfl h1_ ?_
    refine wp_N (j' := 214) (pc' := 73) (L' := [.ref 193, .int a1, .int a2, .int a3, .int a4, .int a5, .int as0]) (S' := [.int a1, .int (F 201 (a5).toNatClampNeg)]) (M' := (hs t, F, G)) 0 (fun _ => rfl) ?_
    refine wp_icmp (pc1 := 81) (c := .ne) rfl (fun hc => ?_) (fun hc => ?_)
    · replace h := h.1 hc
      refine wp_N (j' := 214) (pc' := 86) (L' := [.ref 193, .int a1, .int a2, .int a3, .int a4, .int a5, .int as0]) (S' := [.int (1 : Int32)]) (M' := (hs t, F, G)) 1 (fun _ => rfl) ?_
      exact h
    · replace h := h.2 (Decidable.not_not.mp hc)
      refine wp_N (j' := 214) (pc' := 78) (L' := [.ref 193, .int a1, .int a2, .int a3, .int a4, .int a5, .int as0]) (S' := [.int as0]) (M' := (hs t, F, G)) 0 (fun _ => rfl) ?_
      refine wp_ifc (pc1 := 85) (c := .eq) rfl (fun hc => ?_) (fun hc => ?_)
      · replace h := h.1 hc
        refine wp_N (j' := 214) (pc' := 86) (L' := [.ref 193, .int a1, .int a2, .int a3, .int a4, .int a5, .int as0]) (S' := [.int (0 : Int32)]) (M' := (hs t, F, G)) 0 (fun _ => rfl) ?_
        exact h
      · replace h := h.2 hc
        refine wp_N (j' := 214) (pc' := 86) (L' := [.ref 193, .int a1, .int a2, .int a3, .int a4, .int a5, .int as0]) (S' := [.int (1 : Int32)]) (M' := (hs t, F, G)) 1 (fun _ => rfl) ?_
        exact h
theorem rg214_86 {t : Nat} {F : ip_F} {G : ip_G} {Q : Option Value → ip_M → Prop} {a1 a2 a3 a4 a5 a6 as0 : Int32} (h : wp 214 15 [.ref 193, .int a1, .int a2, .int a3, .int as0, .int (a5 + (3 : Int32)), .int a6] [] (hs t, F, G) Q) : wp 214 86 [.ref 193, .int a1, .int a2, .int a3, .int a4, .int a5, .int a6] [.int as0] (hs t, F, G) Q := by
  refine wp_N (j' := 214) (pc' := 15) (L' := [.ref 193, .int a1, .int a2, .int a3, .int as0, .int (a5 + (3 : Int32)), .int a6]) (S' := []) (M' := (hs t, F, G)) 2 (fun _ => rfl) ?_
  exact h
theorem rg214_107 {t : Nat} {F : ip_F} {G : ip_G} {Q : Option Value → ip_M → Prop} {a1 a2 a3 a4 a5 as0 as1 : Int32} {v6 : Value} (h : wp 214 4 [.ref 193, .int a1, .int (as0 ||| as1), .int (a3 + (1 : Int32)), .int a4, .int a5, v6] [] (hs t, F, G) Q) : wp 214 107 [.ref 193, .int a1, .int a2, .int a3, .int a4, .int a5, v6] [.int as1, .int as0] (hs t, F, G) Q := by
  refine wp_N (j' := 214) (pc' := 4) (L' := [.ref 193, .int a1, .int (as0 ||| as1), .int (a3 + (1 : Int32)), .int a4, .int a5, v6]) (S' := []) (M' := (hs t, F, G)) 3 (fun _ => rfl) ?_
  exact h
theorem rg215_0 {t : Nat} {F : ip_F} {G : ip_G} {Q : Option Value → ip_M → Prop} {a1 : Int32} (h : wp 215 4 [.ref 193, .int a1, .int (0 : Int32), .int (0 : Int32), .float 0, .float 0, .float 0] [] (hs t, F, G) Q) : wp 215 0 [.ref 193, .int a1, .float 0, .float 0, .float 0, .float 0, .float 0] [] (hs t, F, G) Q := by
  refine wp_N (j' := 215) (pc' := 4) (L' := [.ref 193, .int a1, .int (0 : Int32), .int (0 : Int32), .float 0, .float 0, .float 0]) (S' := []) (M' := (hs t, F, G)) 3 (fun _ => rfl) ?_
  exact h
theorem rg215_4 {t : Nat} {F : ip_F} {G : ip_G} {Q : Option Value → ip_M → Prop} {a1 a2 a3 : Int32} {v4 v5 v6 : Value} (h : ((5 : Int32) < a3 → Q (some (.int a2)) (hs t, F, G)) ∧ (a3 ≤ (5 : Int32) → wp 215 15 [.ref 193, .int a1, .int a2, .int a3, .int (1 : Int32), .int (0 : Int32), v6] [] (hs t, F, G) Q)) : wp 215 4 [.ref 193, .int a1, .int a2, .int a3, v4, v5, v6] [] (hs t, F, G) Q := by
  refine wp_N (j' := 215) (pc' := 6) (L' := [.ref 193, .int a1, .int a2, .int a3, v4, v5, v6]) (S' := [.int (5 : Int32), .int a3]) (M' := (hs t, F, G)) 1 (fun _ => rfl) ?_
  refine wp_icmp (pc1 := 131) (c := .gt) rfl (fun hc => ?_) (fun hc => ?_)
  · replace h := h.1 hc
    refine wp_N (j' := 215) (pc' := 132) (L' := [.ref 193, .int a1, .int a2, .int a3, v4, v5, v6]) (S' := [.int a2]) (M' := (hs t, F, G)) 0 (fun _ => rfl) ?_
    exact wp_RI rfl rfl h
  · replace h := h.2 (Int32.not_lt.mp hc)
    refine wp_N (j' := 215) (pc' := 15) (L' := [.ref 193, .int a1, .int a2, .int a3, .int (1 : Int32), .int (0 : Int32), v6]) (S' := []) (M' := (hs t, F, G)) 3 (fun _ => rfl) ?_
    exact h
theorem rg215_15 {t : Nat} {F : ip_F} {G : ip_G} {Q : Option Value → ip_M → Prop} {a1 a2 a3 a4 a5 : Int32} {v6 : Value} (h : (((4 : Int32) * (F 193 5)) ≤ a5 → (a4 = (0 : Int32) → wp 215 123 [.ref 193, .int a1, .int a2, .int a3, .int a4, .int a5, v6] [.int (0 : Int32), .int a2] (hs t, F, G) Q) ∧ (¬ a4 = (0 : Int32) → wp 215 123 [.ref 193, .int a1, .int a2, .int a3, .int a4, .int a5, v6] [.int ((1 : Int32) <<< (a3 &&& 31)), .int a2] (hs t, F, G) Q)) ∧ (a5 < ((4 : Int32) * (F 193 5)) → (vp_in (a5 + (1 : Int32)) 24) ∧ ((vp_in (a5 + (2 : Int32)) 24) ∧ (wp 173 0 [.int a3, .int (F 202 ((a5 + (1 : Int32))).toNatClampNeg), .int (F 202 ((a5 + (2 : Int32))).toNatClampNeg)] [] (hs t, F, G) (fun v M' => wp 215 48 [.ref 193, .int a1, .int a2, .int a3, .int a4, .int a5, v6] (v.toList ++ []) M' Q))))) : wp 215 15 [.ref 193, .int a1, .int a2, .int a3, .int a4, .int a5, v6] [] (hs t, F, G) Q := by
  refine wp_N (j' := 215) (pc' := 23) (L' := [.ref 193, .int a1, .int a2, .int a3, .int a4, .int a5, v6]) (S' := [.int ((4 : Int32) * (F 193 5)), .int a5]) (M' := (hs t, F, G)) 4 (fun _ => rfl) ?_
  refine wp_icmp (pc1 := 110) (c := .ge) rfl (fun hc => ?_) (fun hc => ?_)
  · replace h := h.1 hc
    refine wp_N (j' := 215) (pc' := 113) (L' := [.ref 193, .int a1, .int a2, .int a3, .int a4, .int a5, v6]) (S' := [.int a4, .int a2]) (M' := (hs t, F, G)) 1 (fun _ => rfl) ?_
    refine wp_ifc (pc1 := 122) (c := .eq) rfl (fun hc => ?_) (fun hc => ?_)
    · replace h := h.1 hc
      refine wp_N (j' := 215) (pc' := 123) (L' := [.ref 193, .int a1, .int a2, .int a3, .int a4, .int a5, v6]) (S' := [.int (0 : Int32), .int a2]) (M' := (hs t, F, G)) 0 (fun _ => rfl) ?_
      exact h
    · replace h := h.2 hc
      refine wp_N (j' := 215) (pc' := 123) (L' := [.ref 193, .int a1, .int a2, .int a3, .int a4, .int a5, v6]) (S' := [.int ((1 : Int32) <<< (a3 &&& 31)), .int a2]) (M' := (hs t, F, G)) 3 (fun _ => rfl) ?_
      exact h
  · replace h := h.2 (Int32.not_le.mp hc)
    refine wp_N (j' := 215) (pc' := 35) (L' := [.ref 193, .int a1, .int a2, .int a3, .int a4, .int a5, v6]) (S' := [.int (a5 + (1 : Int32)), .ref 202, .int a3]) (M' := (hs t, F, G)) 5 (fun _ => rfl) ?_
    obtain ⟨h1_, h⟩ := h
    refine wp_ial (m := ((a5 + (1 : Int32))).toNatClampNeg) rfl rfl rfl h1_ ?_
    refine wp_N (j' := 215) (pc' := 44) (L' := [.ref 193, .int a1, .int a2, .int a3, .int a4, .int a5, v6]) (S' := [.int (a5 + (2 : Int32)), .ref 202, .int (F 202 ((a5 + (1 : Int32))).toNatClampNeg), .int a3]) (M' := (hs t, F, G)) 4 (fun _ => rfl) ?_
    obtain ⟨h2_, h⟩ := h
    refine wp_ial (m := ((a5 + (2 : Int32))).toNatClampNeg) rfl rfl rfl h2_ ?_
    refine wp_C (i := 173) (pc' := 48) (Li := [.int a3, .int (F 202 ((a5 + (1 : Int32))).toNatClampNeg), .int (F 202 ((a5 + (2 : Int32))).toNatClampNeg)]) (rest := []) (fun _ => rfl) h
theorem rg215_48 {t : Nat} {F : ip_F} {G : ip_G} {Q : Option Value → ip_M → Prop} {a1 a2 a3 a4 a5 as0 : Int32} {v6 : Value} (h : (vp_in (a5 + (3 : Int32)) 24) ∧ ((¬ (F 202 ((a5 + (3 : Int32))).toNatClampNeg) = (1 : Int32) → wp 215 66 [.ref 193, .int a1, .int a2, .int a3, .int a4, .int a5, v6] [.int (0 : Int32), .int as0] (hs t, F, G) Q) ∧ ((F 202 ((a5 + (3 : Int32))).toNatClampNeg) = (1 : Int32) → wp 215 66 [.ref 193, .int a1, .int a2, .int a3, .int a4, .int a5, v6] [.int (1 : Int32), .int as0] (hs t, F, G) Q))) : wp 215 48 [.ref 193, .int a1, .int a2, .int a3, .int a4, .int a5, v6] [.int as0] (hs t, F, G) Q := by
  refine wp_N (j' := 215) (pc' := 56) (L' := [.ref 193, .int a1, .int a2, .int a3, .int a4, .int a5, v6]) (S' := [.int (a5 + (3 : Int32)), .ref 202, .int as0]) (M' := (hs t, F, G)) 4 (fun _ => rfl) ?_
  obtain ⟨h1_, h⟩ := h
  refine wp_ial (m := ((a5 + (3 : Int32))).toNatClampNeg) rfl rfl rfl h1_ ?_
  refine wp_N (j' := 215) (pc' := 58) (L' := [.ref 193, .int a1, .int a2, .int a3, .int a4, .int a5, v6]) (S' := [.int (1 : Int32), .int (F 202 ((a5 + (3 : Int32))).toNatClampNeg), .int as0]) (M' := (hs t, F, G)) 0 (fun _ => rfl) ?_
  refine wp_icmp (pc1 := 65) (c := .ne) rfl (fun hc => ?_) (fun hc => ?_)
  · replace h := h.1 hc
    refine wp_N (j' := 215) (pc' := 66) (L' := [.ref 193, .int a1, .int a2, .int a3, .int a4, .int a5, v6]) (S' := [.int (0 : Int32), .int as0]) (M' := (hs t, F, G)) 0 (fun _ => rfl) ?_
    exact h
  · replace h := h.2 (Decidable.not_not.mp hc)
    refine wp_N (j' := 215) (pc' := 66) (L' := [.ref 193, .int a1, .int a2, .int a3, .int a4, .int a5, v6]) (S' := [.int (1 : Int32), .int as0]) (M' := (hs t, F, G)) 1 (fun _ => rfl) ?_
    exact h
theorem rg215_66 {t : Nat} {F : ip_F} {G : ip_G} {Q : Option Value → ip_M → Prop} {a1 a2 a3 a4 a5 as0 as1 : Int32} {v6 : Value} (h : (¬ as0 = as1 → wp 215 74 [.ref 193, .int a1, .int a2, .int a3, .int a4, .int a5, v6] [.int (0 : Int32)] (hs t, F, G) Q) ∧ (as0 = as1 → wp 215 74 [.ref 193, .int a1, .int a2, .int a3, .int a4, .int a5, v6] [.int (1 : Int32)] (hs t, F, G) Q)) : wp 215 66 [.ref 193, .int a1, .int a2, .int a3, .int a4, .int a5, v6] [.int as1, .int as0] (hs t, F, G) Q := by
  refine wp_icmp (pc1 := 73) (c := .ne) rfl (fun hc => ?_) (fun hc => ?_)
  · replace h := h.1 hc
    refine wp_N (j' := 215) (pc' := 74) (L' := [.ref 193, .int a1, .int a2, .int a3, .int a4, .int a5, v6]) (S' := [.int (0 : Int32)]) (M' := (hs t, F, G)) 0 (fun _ => rfl) ?_
    exact h
  · replace h := h.2 (Decidable.not_not.mp hc)
    refine wp_N (j' := 215) (pc' := 74) (L' := [.ref 193, .int a1, .int a2, .int a3, .int a4, .int a5, v6]) (S' := [.int (1 : Int32)]) (M' := (hs t, F, G)) 1 (fun _ => rfl) ?_
    exact h
theorem rg215_74 {t : Nat} {F : ip_F} {G : ip_G} {Q : Option Value → ip_M → Prop} {a1 a2 a3 a4 a5 as0 : Int32} {v6 : Value} (h : (a4 = (0 : Int32) → wp 215 102 [.ref 193, .int a1, .int a2, .int a3, .int a4, .int a5, .int as0] [.int (0 : Int32)] (hs t, F, G) Q) ∧ (¬ a4 = (0 : Int32) → (vp_in a5 24) ∧ ((¬ (F 202 (a5).toNatClampNeg) = a1 → wp 215 102 [.ref 193, .int a1, .int a2, .int a3, .int a4, .int a5, .int as0] [.int (1 : Int32)] (hs t, F, G) Q) ∧ ((F 202 (a5).toNatClampNeg) = a1 → (as0 = (0 : Int32) → wp 215 102 [.ref 193, .int a1, .int a2, .int a3, .int a4, .int a5, .int as0] [.int (0 : Int32)] (hs t, F, G) Q) ∧ (¬ as0 = (0 : Int32) → wp 215 102 [.ref 193, .int a1, .int a2, .int a3, .int a4, .int a5, .int as0] [.int (1 : Int32)] (hs t, F, G) Q))))) : wp 215 74 [.ref 193, .int a1, .int a2, .int a3, .int a4, .int a5, v6] [.int as0] (hs t, F, G) Q := by
  refine wp_N (j' := 215) (pc' := 78) (L' := [.ref 193, .int a1, .int a2, .int a3, .int a4, .int a5, .int as0]) (S' := [.int a4]) (M' := (hs t, F, G)) 1 (fun _ => rfl) ?_
  refine wp_ifc (pc1 := 101) (c := .eq) rfl (fun hc => ?_) (fun hc => ?_)
  · replace h := h.1 hc
    refine wp_N (j' := 215) (pc' := 102) (L' := [.ref 193, .int a1, .int a2, .int a3, .int a4, .int a5, .int as0]) (S' := [.int (0 : Int32)]) (M' := (hs t, F, G)) 0 (fun _ => rfl) ?_
    exact h
  · replace h := h.2 hc
    refine wp_N (j' := 215) (pc' := 87) (L' := [.ref 193, .int a1, .int a2, .int a3, .int a4, .int a5, .int as0]) (S' := [.int a5, .ref 202]) (M' := (hs t, F, G)) 2 (fun _ => rfl) ?_
    obtain ⟨h1_, h⟩ := h
    refine wp_ial (m := (a5).toNatClampNeg) rfl rfl rfl h1_ ?_
    refine wp_N (j' := 215) (pc' := 89) (L' := [.ref 193, .int a1, .int a2, .int a3, .int a4, .int a5, .int as0]) (S' := [.int a1, .int (F 202 (a5).toNatClampNeg)]) (M' := (hs t, F, G)) 0 (fun _ => rfl) ?_
    refine wp_icmp (pc1 := 97) (c := .ne) rfl (fun hc => ?_) (fun hc => ?_)
    · replace h := h.1 hc
      refine wp_N (j' := 215) (pc' := 102) (L' := [.ref 193, .int a1, .int a2, .int a3, .int a4, .int a5, .int as0]) (S' := [.int (1 : Int32)]) (M' := (hs t, F, G)) 1 (fun _ => rfl) ?_
      exact h
    · replace h := h.2 (Decidable.not_not.mp hc)
      refine wp_N (j' := 215) (pc' := 94) (L' := [.ref 193, .int a1, .int a2, .int a3, .int a4, .int a5, .int as0]) (S' := [.int as0]) (M' := (hs t, F, G)) 0 (fun _ => rfl) ?_
      refine wp_ifc (pc1 := 101) (c := .eq) rfl (fun hc => ?_) (fun hc => ?_)
      · replace h := h.1 hc
        refine wp_N (j' := 215) (pc' := 102) (L' := [.ref 193, .int a1, .int a2, .int a3, .int a4, .int a5, .int as0]) (S' := [.int (0 : Int32)]) (M' := (hs t, F, G)) 0 (fun _ => rfl) ?_
        exact h
      · replace h := h.2 hc
        refine wp_N (j' := 215) (pc' := 102) (L' := [.ref 193, .int a1, .int a2, .int a3, .int a4, .int a5, .int as0]) (S' := [.int (1 : Int32)]) (M' := (hs t, F, G)) 1 (fun _ => rfl) ?_
        exact h
theorem rg215_102 {t : Nat} {F : ip_F} {G : ip_G} {Q : Option Value → ip_M → Prop} {a1 a2 a3 a4 a5 a6 as0 : Int32} (h : wp 215 15 [.ref 193, .int a1, .int a2, .int a3, .int as0, .int (a5 + (4 : Int32)), .int a6] [] (hs t, F, G) Q) : wp 215 102 [.ref 193, .int a1, .int a2, .int a3, .int a4, .int a5, .int a6] [.int as0] (hs t, F, G) Q := by
  refine wp_N (j' := 215) (pc' := 15) (L' := [.ref 193, .int a1, .int a2, .int a3, .int as0, .int (a5 + (4 : Int32)), .int a6]) (S' := []) (M' := (hs t, F, G)) 2 (fun _ => rfl) ?_
  exact h
theorem rg215_123 {t : Nat} {F : ip_F} {G : ip_G} {Q : Option Value → ip_M → Prop} {a1 a2 a3 a4 a5 as0 as1 : Int32} {v6 : Value} (h : wp 215 4 [.ref 193, .int a1, .int (as0 ||| as1), .int (a3 + (1 : Int32)), .int a4, .int a5, v6] [] (hs t, F, G) Q) : wp 215 123 [.ref 193, .int a1, .int a2, .int a3, .int a4, .int a5, v6] [.int as1, .int as0] (hs t, F, G) Q := by
  refine wp_N (j' := 215) (pc' := 4) (L' := [.ref 193, .int a1, .int (as0 ||| as1), .int (a3 + (1 : Int32)), .int a4, .int a5, v6]) (S' := []) (M' := (hs t, F, G)) 3 (fun _ => rfl) ?_
  exact h
theorem rg216_0 {t : Nat} {F : ip_F} {G : ip_G} {Q : Option Value → ip_M → Prop} {a1 : Int32} (h : wp 150 0 [.ref 193, .int a1] [] (hs t, F, G) (fun v M' => wp 216 5 [.ref 193, .int a1] (v.toList ++ []) M' Q)) : wp 216 0 [.ref 193, .int a1] [] (hs t, F, G) Q := by
  refine wp_N (j' := 216) (pc' := 2) (L' := [.ref 193, .int a1]) (S' := [.int a1, .ref 193]) (M' := (hs t, F, G)) 1 (fun _ => rfl) ?_
  refine wp_C (i := 150) (pc' := 5) (Li := [.ref 193, .int a1]) (rest := []) (fun _ => rfl) h
theorem rg216_5 {t : Nat} {F : ip_F} {G : ip_G} {Q : Option Value → ip_M → Prop} {a1 as0 : Int32} (h : (as0 = (0 : Int32) → wp 140 0 [.ref 193] [] (hs t, F, G) (fun v M' => wp 216 20 [.ref 193, .int a1] (v.toList ++ []) M' Q)) ∧ (¬ as0 = (0 : Int32) → wp 214 0 [.ref 193, .int a1, .float 0, .float 0, .float 0, .float 0, .float 0] [] (hs t, F, G) (fun v M' => wp 216 13 [.ref 193, .int a1] (v.toList ++ []) M' Q))) : wp 216 5 [.ref 193, .int a1] [.int as0] (hs t, F, G) Q := by
  refine wp_ifc (pc1 := 16) (c := .eq) rfl (fun hc => ?_) (fun hc => ?_)
  · replace h := h.1 hc
    refine wp_N (j' := 216) (pc' := 17) (L' := [.ref 193, .int a1]) (S' := [.ref 193]) (M' := (hs t, F, G)) 0 (fun _ => rfl) ?_
    refine wp_C (i := 140) (pc' := 20) (Li := [.ref 193]) (rest := []) (fun _ => rfl) h
  · replace h := h.2 hc
    refine wp_N (j' := 216) (pc' := 10) (L' := [.ref 193, .int a1]) (S' := [.int a1, .ref 193]) (M' := (hs t, F, G)) 1 (fun _ => rfl) ?_
    refine wp_C (i := 214) (pc' := 13) (Li := [.ref 193, .int a1, .float 0, .float 0, .float 0, .float 0, .float 0]) (rest := []) (fun _ => rfl) h
theorem rg216_13 {t : Nat} {F : ip_F} {G : ip_G} {Q : Option Value → ip_M → Prop} {a1 as0 : Int32} (h : wp 216 20 [.ref 193, .int a1] [.int as0] (hs t, F, G) Q) : wp 216 13 [.ref 193, .int a1] [.int as0] (hs t, F, G) Q := by
  refine wp_N (j' := 216) (pc' := 20) (L' := [.ref 193, .int a1]) (S' := [.int as0]) (M' := (hs t, F, G)) 0 (fun _ => rfl) ?_
  exact h
theorem rg216_20 {t : Nat} {F : ip_F} {G : ip_G} {Q : Option Value → ip_M → Prop} {a1 as0 : Int32} (h : Q (some (.int as0)) (hs t, F, G)) : wp 216 20 [.ref 193, .int a1] [.int as0] (hs t, F, G) Q := by
  exact wp_RI rfl rfl h
theorem rg217_0 {t : Nat} {F : ip_F} {G : ip_G} {Q : Option Value → ip_M → Prop} {a1 : Int32} (h : wp 150 0 [.ref 193, .int a1] [] (hs t, F, G) (fun v M' => wp 217 5 [.ref 193, .int a1] (v.toList ++ []) M' Q)) : wp 217 0 [.ref 193, .int a1] [] (hs t, F, G) Q := by
  refine wp_N (j' := 217) (pc' := 2) (L' := [.ref 193, .int a1]) (S' := [.int a1, .ref 193]) (M' := (hs t, F, G)) 1 (fun _ => rfl) ?_
  refine wp_C (i := 150) (pc' := 5) (Li := [.ref 193, .int a1]) (rest := []) (fun _ => rfl) h
theorem rg217_5 {t : Nat} {F : ip_F} {G : ip_G} {Q : Option Value → ip_M → Prop} {a1 as0 : Int32} (h : (as0 = (0 : Int32) → wp 140 0 [.ref 193] [] (hs t, F, G) (fun v M' => wp 217 20 [.ref 193, .int a1] (v.toList ++ []) M' Q)) ∧ (¬ as0 = (0 : Int32) → wp 215 0 [.ref 193, .int a1, .float 0, .float 0, .float 0, .float 0, .float 0] [] (hs t, F, G) (fun v M' => wp 217 13 [.ref 193, .int a1] (v.toList ++ []) M' Q))) : wp 217 5 [.ref 193, .int a1] [.int as0] (hs t, F, G) Q := by
  refine wp_ifc (pc1 := 16) (c := .eq) rfl (fun hc => ?_) (fun hc => ?_)
  · replace h := h.1 hc
    refine wp_N (j' := 217) (pc' := 17) (L' := [.ref 193, .int a1]) (S' := [.ref 193]) (M' := (hs t, F, G)) 0 (fun _ => rfl) ?_
    refine wp_C (i := 140) (pc' := 20) (Li := [.ref 193]) (rest := []) (fun _ => rfl) h
  · replace h := h.2 hc
    refine wp_N (j' := 217) (pc' := 10) (L' := [.ref 193, .int a1]) (S' := [.int a1, .ref 193]) (M' := (hs t, F, G)) 1 (fun _ => rfl) ?_
    refine wp_C (i := 215) (pc' := 13) (Li := [.ref 193, .int a1, .float 0, .float 0, .float 0, .float 0, .float 0]) (rest := []) (fun _ => rfl) h
theorem rg217_13 {t : Nat} {F : ip_F} {G : ip_G} {Q : Option Value → ip_M → Prop} {a1 as0 : Int32} (h : wp 217 20 [.ref 193, .int a1] [.int as0] (hs t, F, G) Q) : wp 217 13 [.ref 193, .int a1] [.int as0] (hs t, F, G) Q := by
  refine wp_N (j' := 217) (pc' := 20) (L' := [.ref 193, .int a1]) (S' := [.int as0]) (M' := (hs t, F, G)) 0 (fun _ => rfl) ?_
  exact h
theorem rg217_20 {t : Nat} {F : ip_F} {G : ip_G} {Q : Option Value → ip_M → Prop} {a1 as0 : Int32} (h : Q (some (.int as0)) (hs t, F, G)) : wp 217 20 [.ref 193, .int a1] [.int as0] (hs t, F, G) Q := by
  exact wp_RI rfl rfl h
theorem rg218_0 {t : Nat} {F : ip_F} {G : ip_G} {Q : Option Value → ip_M → Prop} {a1 : Int32} (h : wp 150 0 [.ref 193, .int a1] [] (hs t, F, G) (fun v M' => wp 218 5 [.ref 193, .int a1, .float 0, .float 0, .float 0, .float 0, .float 0, .float 0, .float 0, .float 0] (v.toList ++ []) M' Q)) : wp 218 0 [.ref 193, .int a1, .float 0, .float 0, .float 0, .float 0, .float 0, .float 0, .float 0, .float 0] [] (hs t, F, G) Q := by
  refine wp_N (j' := 218) (pc' := 2) (L' := [.ref 193, .int a1, .float 0, .float 0, .float 0, .float 0, .float 0, .float 0, .float 0, .float 0]) (S' := [.int a1, .ref 193]) (M' := (hs t, F, G)) 1 (fun _ => rfl) ?_
  refine wp_C (i := 150) (pc' := 5) (Li := [.ref 193, .int a1]) (rest := []) (fun _ => rfl) h
theorem rg218_5 {t : Nat} {F : ip_F} {G : ip_G} {Q : Option Value → ip_M → Prop} {a1 as0 : Int32} {v2 v3 v4 v5 v6 v7 v8 v9 : Value} (h : (¬ as0 = (0 : Int32) → wp 214 0 [.ref 193, .int a1, .float 0, .float 0, .float 0, .float 0, .float 0] [] (hs t, F, G) (fun v M' => wp 218 18 [.ref 193, .int a1, v2, v3, v4, v5, v6, v7, v8, v9] (v.toList ++ []) M' Q)) ∧ (as0 = (0 : Int32) → wp 140 0 [.ref 193] [] (hs t, F, G) (fun v M' => wp 218 12 [.ref 193, .int a1, v2, v3, v4, v5, v6, v7, v8, v9] (v.toList ++ []) M' Q))) : wp 218 5 [.ref 193, .int a1, v2, v3, v4, v5, v6, v7, v8, v9] [.int as0] (hs t, F, G) Q := by
  refine wp_ifc (pc1 := 13) (c := .ne) rfl (fun hc => ?_) (fun hc => ?_)
  · replace h := h.1 hc
    refine wp_N (j' := 218) (pc' := 15) (L' := [.ref 193, .int a1, v2, v3, v4, v5, v6, v7, v8, v9]) (S' := [.int a1, .ref 193]) (M' := (hs t, F, G)) 1 (fun _ => rfl) ?_
    refine wp_C (i := 214) (pc' := 18) (Li := [.ref 193, .int a1, .float 0, .float 0, .float 0, .float 0, .float 0]) (rest := []) (fun _ => rfl) h
  · replace h := h.2 (Decidable.not_not.mp hc)
    refine wp_N (j' := 218) (pc' := 9) (L' := [.ref 193, .int a1, v2, v3, v4, v5, v6, v7, v8, v9]) (S' := [.ref 193]) (M' := (hs t, F, G)) 0 (fun _ => rfl) ?_
    refine wp_C (i := 140) (pc' := 12) (Li := [.ref 193]) (rest := []) (fun _ => rfl) h
theorem rg218_12 {t : Nat} {F : ip_F} {G : ip_G} {Q : Option Value → ip_M → Prop} {a1 as0 : Int32} {v2 v3 v4 v5 v6 v7 v8 v9 : Value} (h : Q (some (.int as0)) (hs t, F, G)) : wp 218 12 [.ref 193, .int a1, v2, v3, v4, v5, v6, v7, v8, v9] [.int as0] (hs t, F, G) Q := by
  exact wp_RI rfl rfl h
theorem rg218_18 {t : Nat} {F : ip_F} {G : ip_G} {Q : Option Value → ip_M → Prop} {a1 as0 : Int32} {v2 v3 v4 v5 v6 v7 v8 v9 : Value} (h : wp 218 28 [.ref 193, .int a1, .int as0, .int (-1 : Int32), .int (1048576 : Int32), .int (1 : Int32), v6, v7, v8, v9] [] (hs t, F, G) Q) : wp 218 18 [.ref 193, .int a1, v2, v3, v4, v5, v6, v7, v8, v9] [.int as0] (hs t, F, G) Q := by
  refine wp_N (j' := 218) (pc' := 28) (L' := [.ref 193, .int a1, .int as0, .int (-1 : Int32), .int (1048576 : Int32), .int (1 : Int32), v6, v7, v8, v9]) (S' := []) (M' := (hs t, F, G)) 6 (fun _ => rfl) ?_
  exact h
theorem rg218_28 {t : Nat} {F : ip_F} {G : ip_G} {Q : Option Value → ip_M → Prop} {a1 a2 a3 a4 a5 : Int32} {v6 v7 v8 v9 : Value} (h : ((6 : Int32) < a5 → Q (some (.int a3)) (hs t, F, G)) ∧ (a5 ≤ (6 : Int32) → (a2 = (0 : Int32) → Q (some (.int a3)) (hs t, F, G)) ∧ (¬ a2 = (0 : Int32) → wp 218 45 [.ref 193, .int a1, .int a2, .int a3, .int a4, .int a5, .int (0 : Int32), .int (0 : Int32), v8, v9] [] (hs t, F, G) Q))) : wp 218 28 [.ref 193, .int a1, .int a2, .int a3, .int a4, .int a5, v6, v7, v8, v9] [] (hs t, F, G) Q := by
  refine wp_N (j' := 218) (pc' := 32) (L' := [.ref 193, .int a1, .int a2, .int a3, .int a4, .int a5, v6, v7, v8, v9]) (S' := [.int (6 : Int32), .int a5]) (M' := (hs t, F, G)) 1 (fun _ => rfl) ?_
  refine wp_icmp (pc1 := 162) (c := .gt) rfl (fun hc => ?_) (fun hc => ?_)
  · replace h := h.1 hc
    refine wp_N (j' := 218) (pc' := 163) (L' := [.ref 193, .int a1, .int a2, .int a3, .int a4, .int a5, v6, v7, v8, v9]) (S' := [.int a3]) (M' := (hs t, F, G)) 0 (fun _ => rfl) ?_
    exact wp_RI rfl rfl h
  · replace h := h.2 (Int32.not_lt.mp hc)
    refine wp_N (j' := 218) (pc' := 36) (L' := [.ref 193, .int a1, .int a2, .int a3, .int a4, .int a5, v6, v7, v8, v9]) (S' := [.int a2]) (M' := (hs t, F, G)) 0 (fun _ => rfl) ?_
    refine wp_ifc (pc1 := 162) (c := .eq) rfl (fun hc => ?_) (fun hc => ?_)
    · replace h := h.1 hc
      refine wp_N (j' := 218) (pc' := 163) (L' := [.ref 193, .int a1, .int a2, .int a3, .int a4, .int a5, v6, v7, v8, v9]) (S' := [.int a3]) (M' := (hs t, F, G)) 0 (fun _ => rfl) ?_
      exact wp_RI rfl rfl h
    · replace h := h.2 hc
      refine wp_N (j' := 218) (pc' := 45) (L' := [.ref 193, .int a1, .int a2, .int a3, .int a4, .int a5, .int (0 : Int32), .int (0 : Int32), v8, v9]) (S' := []) (M' := (hs t, F, G)) 3 (fun _ => rfl) ?_
      exact h
theorem rg218_45 {t : Nat} {F : ip_F} {G : ip_G} {Q : Option Value → ip_M → Prop} {a1 a2 a3 a4 a5 a6 a7 : Int32} {v8 v9 : Value} (h : ((5 : Int32) < a7 → (a4 ≤ a6 → wp 218 146 [.ref 193, .int a1, .int a2, .int a3, .int a4, .int a5, .int a6, .int a7, v8, v9] [.int a3] (hs t, F, G) Q) ∧ (a6 < a4 → wp 218 146 [.ref 193, .int a1, .int a2, .int a3, .int a4, .int a5, .int a6, .int a7, v8, v9] [.int a5] (hs t, F, G) Q)) ∧ (a7 ≤ (5 : Int32) → wp 218 57 [.ref 193, .int a1, .int a2, .int a3, .int a4, .int a5, .int a6, .int a7, .int (0 : Int32), .int (0 : Int32)] [] (hs t, F, G) Q)) : wp 218 45 [.ref 193, .int a1, .int a2, .int a3, .int a4, .int a5, .int a6, .int a7, v8, v9] [] (hs t, F, G) Q := by
  refine wp_N (j' := 218) (pc' := 48) (L' := [.ref 193, .int a1, .int a2, .int a3, .int a4, .int a5, .int a6, .int a7, v8, v9]) (S' := [.int (5 : Int32), .int a7]) (M' := (hs t, F, G)) 1 (fun _ => rfl) ?_
  refine wp_icmp (pc1 := 133) (c := .gt) rfl (fun hc => ?_) (fun hc => ?_)
  · replace h := h.1 hc
    refine wp_N (j' := 218) (pc' := 137) (L' := [.ref 193, .int a1, .int a2, .int a3, .int a4, .int a5, .int a6, .int a7, v8, v9]) (S' := [.int a4, .int a6]) (M' := (hs t, F, G)) 1 (fun _ => rfl) ?_
    refine wp_icmp (pc1 := 145) (c := .ge) rfl (fun hc => ?_) (fun hc => ?_)
    · replace h := h.1 hc
      refine wp_N (j' := 218) (pc' := 146) (L' := [.ref 193, .int a1, .int a2, .int a3, .int a4, .int a5, .int a6, .int a7, v8, v9]) (S' := [.int a3]) (M' := (hs t, F, G)) 0 (fun _ => rfl) ?_
      exact h
    · replace h := h.2 (Int32.not_le.mp hc)
      refine wp_N (j' := 218) (pc' := 146) (L' := [.ref 193, .int a1, .int a2, .int a3, .int a4, .int a5, .int a6, .int a7, v8, v9]) (S' := [.int a5]) (M' := (hs t, F, G)) 1 (fun _ => rfl) ?_
      exact h
  · replace h := h.2 (Int32.not_lt.mp hc)
    refine wp_N (j' := 218) (pc' := 57) (L' := [.ref 193, .int a1, .int a2, .int a3, .int a4, .int a5, .int a6, .int a7, .int (0 : Int32), .int (0 : Int32)]) (S' := []) (M' := (hs t, F, G)) 3 (fun _ => rfl) ?_
    exact h
theorem rg218_57 {t : Nat} {F : ip_F} {G : ip_G} {Q : Option Value → ip_M → Prop} {a1 a2 a3 a4 a5 a6 a7 a8 a9 : Int32} (h : ((5 : Int32) < a9 → wp 146 0 [.int a6, .int a8] [] (hs t, F, G) (fun v M' => wp 218 125 [.ref 193, .int a1, .int a2, .int a3, .int a4, .int a5, .int a6, .int a7, .int a8, .int a9] (v.toList ++ []) M' Q)) ∧ (a9 ≤ (5 : Int32) → wp 144 0 [.int a2, .int a7] [] (hs t, F, G) (fun v M' => wp 218 71 [.ref 193, .int a1, .int a2, .int a3, .int a4, .int a5, .int a6, .int a7, .int a8, .int a9] (v.toList ++ [.int a8]) M' Q))) : wp 218 57 [.ref 193, .int a1, .int a2, .int a3, .int a4, .int a5, .int a6, .int a7, .int a8, .int a9] [] (hs t, F, G) Q := by
  refine wp_N (j' := 218) (pc' := 60) (L' := [.ref 193, .int a1, .int a2, .int a3, .int a4, .int a5, .int a6, .int a7, .int a8, .int a9]) (S' := [.int (5 : Int32), .int a9]) (M' := (hs t, F, G)) 1 (fun _ => rfl) ?_
  refine wp_icmp (pc1 := 118) (c := .gt) rfl (fun hc => ?_) (fun hc => ?_)
  · replace h := h.1 hc
    refine wp_N (j' := 218) (pc' := 122) (L' := [.ref 193, .int a1, .int a2, .int a3, .int a4, .int a5, .int a6, .int a7, .int a8, .int a9]) (S' := [.int a8, .int a6]) (M' := (hs t, F, G)) 1 (fun _ => rfl) ?_
    refine wp_C (i := 146) (pc' := 125) (Li := [.int a6, .int a8]) (rest := []) (fun _ => rfl) h
  · replace h := h.2 (Int32.not_lt.mp hc)
    refine wp_N (j' := 218) (pc' := 68) (L' := [.ref 193, .int a1, .int a2, .int a3, .int a4, .int a5, .int a6, .int a7, .int a8, .int a9]) (S' := [.int a7, .int a2, .int a8]) (M' := (hs t, F, G)) 2 (fun _ => rfl) ?_
    refine wp_C (i := 144) (pc' := 71) (Li := [.int a2, .int a7]) (rest := [.int a8]) (fun _ => rfl) h
theorem rg218_71 {t : Nat} {F : ip_F} {G : ip_G} {Q : Option Value → ip_M → Prop} {a1 a2 a3 a4 a5 a6 a7 a8 a9 as0 as1 : Int32} (h : (as1 = (0 : Int32) → wp 218 109 [.ref 193, .int a1, .int a2, .int a3, .int a4, .int a5, .int a6, .int a7, .int a8, .int a9] [.int (0 : Int32), .int as0] (hs t, F, G) Q) ∧ (¬ as1 = (0 : Int32) → wp 144 0 [.int a2, .int a9] [] (hs t, F, G) (fun v M' => wp 218 80 [.ref 193, .int a1, .int a2, .int a3, .int a4, .int a5, .int a6, .int a7, .int a8, .int a9] (v.toList ++ [.int as0]) M' Q))) : wp 218 71 [.ref 193, .int a1, .int a2, .int a3, .int a4, .int a5, .int a6, .int a7, .int a8, .int a9] [.int as1, .int as0] (hs t, F, G) Q := by
  refine wp_ifc (pc1 := 108) (c := .eq) rfl (fun hc => ?_) (fun hc => ?_)
  · replace h := h.1 hc
    refine wp_N (j' := 218) (pc' := 109) (L' := [.ref 193, .int a1, .int a2, .int a3, .int a4, .int a5, .int a6, .int a7, .int a8, .int a9]) (S' := [.int (0 : Int32), .int as0]) (M' := (hs t, F, G)) 0 (fun _ => rfl) ?_
    exact h
  · replace h := h.2 hc
    refine wp_N (j' := 218) (pc' := 77) (L' := [.ref 193, .int a1, .int a2, .int a3, .int a4, .int a5, .int a6, .int a7, .int a8, .int a9]) (S' := [.int a9, .int a2, .int as0]) (M' := (hs t, F, G)) 1 (fun _ => rfl) ?_
    refine wp_C (i := 144) (pc' := 80) (Li := [.int a2, .int a9]) (rest := [.int as0]) (fun _ => rfl) h
theorem rg218_80 {t : Nat} {F : ip_F} {G : ip_G} {Q : Option Value → ip_M → Prop} {a1 a2 a3 a4 a5 a6 a7 a8 a9 as0 as1 : Int32} (h : (as1 = (0 : Int32) → wp 218 109 [.ref 193, .int a1, .int a2, .int a3, .int a4, .int a5, .int a6, .int a7, .int a8, .int a9] [.int (0 : Int32), .int as0] (hs t, F, G) Q) ∧ (¬ as1 = (0 : Int32) → wp 172 0 [.int a7, .int a5, .int (6 : Int32), .float 0, .float 0, .float 0] [] (hs t, F, G) (fun v M' => wp 218 92 [.ref 193, .int a1, .int a2, .int a3, .int a4, .int a5, .int a6, .int a7, .int a8, .int a9] (v.toList ++ [.int as0]) M' Q))) : wp 218 80 [.ref 193, .int a1, .int a2, .int a3, .int a4, .int a5, .int a6, .int a7, .int a8, .int a9] [.int as1, .int as0] (hs t, F, G) Q := by
  refine wp_ifc (pc1 := 108) (c := .eq) rfl (fun hc => ?_) (fun hc => ?_)
  · replace h := h.1 hc
    refine wp_N (j' := 218) (pc' := 109) (L' := [.ref 193, .int a1, .int a2, .int a3, .int a4, .int a5, .int a6, .int a7, .int a8, .int a9]) (S' := [.int (0 : Int32), .int as0]) (M' := (hs t, F, G)) 0 (fun _ => rfl) ?_
    exact h
  · replace h := h.2 hc
    refine wp_N (j' := 218) (pc' := 89) (L' := [.ref 193, .int a1, .int a2, .int a3, .int a4, .int a5, .int a6, .int a7, .int a8, .int a9]) (S' := [.int (6 : Int32), .int a5, .int a7, .int as0]) (M' := (hs t, F, G)) 2 (fun _ => rfl) ?_
    refine wp_C (i := 172) (pc' := 92) (Li := [.int a7, .int a5, .int (6 : Int32), .float 0, .float 0, .float 0]) (rest := [.int as0]) (fun _ => rfl) h
theorem rg218_92 {t : Nat} {F : ip_F} {G : ip_G} {Q : Option Value → ip_M → Prop} {a1 a2 a3 a4 a5 a6 a7 a8 a9 as0 as1 : Int32} (h : wp 172 0 [.int a9, .int a5, .int (6 : Int32), .float 0, .float 0, .float 0] [] (hs t, F, G) (fun v M' => wp 218 101 [.ref 193, .int a1, .int a2, .int a3, .int a4, .int a5, .int a6, .int a7, .int a8, .int a9] (v.toList ++ [.int as1, .int as0]) M' Q)) : wp 218 92 [.ref 193, .int a1, .int a2, .int a3, .int a4, .int a5, .int a6, .int a7, .int a8, .int a9] [.int as1, .int as0] (hs t, F, G) Q := by
  refine wp_N (j' := 218) (pc' := 98) (L' := [.ref 193, .int a1, .int a2, .int a3, .int a4, .int a5, .int a6, .int a7, .int a8, .int a9]) (S' := [.int (6 : Int32), .int a5, .int a9, .int as1, .int as0]) (M' := (hs t, F, G)) 2 (fun _ => rfl) ?_
  refine wp_C (i := 172) (pc' := 101) (Li := [.int a9, .int a5, .int (6 : Int32), .float 0, .float 0, .float 0]) (rest := [.int as1, .int as0]) (fun _ => rfl) h
theorem rg218_101 {t : Nat} {F : ip_F} {G : ip_G} {Q : Option Value → ip_M → Prop} {a1 a2 a3 a4 a5 a6 a7 a8 a9 as0 as1 as2 : Int32} (h : (¬ as1 = as2 → wp 218 109 [.ref 193, .int a1, .int a2, .int a3, .int a4, .int a5, .int a6, .int a7, .int a8, .int a9] [.int (0 : Int32), .int as0] (hs t, F, G) Q) ∧ (as1 = as2 → wp 218 109 [.ref 193, .int a1, .int a2, .int a3, .int a4, .int a5, .int a6, .int a7, .int a8, .int a9] [.int (1 : Int32), .int as0] (hs t, F, G) Q)) : wp 218 101 [.ref 193, .int a1, .int a2, .int a3, .int a4, .int a5, .int a6, .int a7, .int a8, .int a9] [.int as2, .int as1, .int as0] (hs t, F, G) Q := by
  refine wp_icmp (pc1 := 108) (c := .ne) rfl (fun hc => ?_) (fun hc => ?_)
  · replace h := h.1 hc
    refine wp_N (j' := 218) (pc' := 109) (L' := [.ref 193, .int a1, .int a2, .int a3, .int a4, .int a5, .int a6, .int a7, .int a8, .int a9]) (S' := [.int (0 : Int32), .int as0]) (M' := (hs t, F, G)) 0 (fun _ => rfl) ?_
    exact h
  · replace h := h.2 (Decidable.not_not.mp hc)
    refine wp_N (j' := 218) (pc' := 109) (L' := [.ref 193, .int a1, .int a2, .int a3, .int a4, .int a5, .int a6, .int a7, .int a8, .int a9]) (S' := [.int (1 : Int32), .int as0]) (M' := (hs t, F, G)) 1 (fun _ => rfl) ?_
    exact h
theorem rg218_109 {t : Nat} {F : ip_F} {G : ip_G} {Q : Option Value → ip_M → Prop} {a1 a2 a3 a4 a5 a6 a7 a8 a9 as0 as1 : Int32} (h : wp 218 57 [.ref 193, .int a1, .int a2, .int a3, .int a4, .int a5, .int a6, .int a7, .int (as0 + as1), .int (a9 + (1 : Int32))] [] (hs t, F, G) Q) : wp 218 109 [.ref 193, .int a1, .int a2, .int a3, .int a4, .int a5, .int a6, .int a7, .int a8, .int a9] [.int as1, .int as0] (hs t, F, G) Q := by
  refine wp_N (j' := 218) (pc' := 57) (L' := [.ref 193, .int a1, .int a2, .int a3, .int a4, .int a5, .int a6, .int a7, .int (as0 + as1), .int (a9 + (1 : Int32))]) (S' := []) (M' := (hs t, F, G)) 3 (fun _ => rfl) ?_
  exact h
theorem rg218_125 {t : Nat} {F : ip_F} {G : ip_G} {Q : Option Value → ip_M → Prop} {a1 a2 a3 a4 a5 a6 a7 a8 a9 as0 : Int32} (h : wp 218 45 [.ref 193, .int a1, .int a2, .int a3, .int a4, .int a5, .int as0, .int (a7 + (1 : Int32)), .int a8, .int a9] [] (hs t, F, G) Q) : wp 218 125 [.ref 193, .int a1, .int a2, .int a3, .int a4, .int a5, .int a6, .int a7, .int a8, .int a9] [.int as0] (hs t, F, G) Q := by
  refine wp_N (j' := 218) (pc' := 45) (L' := [.ref 193, .int a1, .int a2, .int a3, .int a4, .int a5, .int as0, .int (a7 + (1 : Int32)), .int a8, .int a9]) (S' := []) (M' := (hs t, F, G)) 2 (fun _ => rfl) ?_
  exact h
theorem rg218_146 {t : Nat} {F : ip_F} {G : ip_G} {Q : Option Value → ip_M → Prop} {a1 a2 a3 a4 a5 a6 a7 as0 : Int32} {v8 v9 : Value} (h : wp 145 0 [.int a4, .int a6] [] (hs t, F, G) (fun v M' => wp 218 154 [.ref 193, .int a1, .int a2, .int as0, .int a4, .int a5, .int a6, .int a7, v8, v9] (v.toList ++ []) M' Q)) : wp 218 146 [.ref 193, .int a1, .int a2, .int a3, .int a4, .int a5, .int a6, .int a7, v8, v9] [.int as0] (hs t, F, G) Q := by
  refine wp_N (j' := 218) (pc' := 151) (L' := [.ref 193, .int a1, .int a2, .int as0, .int a4, .int a5, .int a6, .int a7, v8, v9]) (S' := [.int a6, .int a4]) (M' := (hs t, F, G)) 2 (fun _ => rfl) ?_
  refine wp_C (i := 145) (pc' := 154) (Li := [.int a4, .int a6]) (rest := []) (fun _ => rfl) h
theorem rg218_154 {t : Nat} {F : ip_F} {G : ip_G} {Q : Option Value → ip_M → Prop} {a1 a2 a3 a4 a5 a6 a7 as0 : Int32} {v8 v9 : Value} (h : wp 218 28 [.ref 193, .int a1, .int a2, .int a3, .int as0, .int (a5 + (1 : Int32)), .int a6, .int a7, v8, v9] [] (hs t, F, G) Q) : wp 218 154 [.ref 193, .int a1, .int a2, .int a3, .int a4, .int a5, .int a6, .int a7, v8, v9] [.int as0] (hs t, F, G) Q := by
  refine wp_N (j' := 218) (pc' := 28) (L' := [.ref 193, .int a1, .int a2, .int a3, .int as0, .int (a5 + (1 : Int32)), .int a6, .int a7, v8, v9]) (S' := []) (M' := (hs t, F, G)) 2 (fun _ => rfl) ?_
  exact h
theorem rg219_0 {t : Nat} {F : ip_F} {G : ip_G} {Q : Option Value → ip_M → Prop} {a1 : Int32} (h : wp 150 0 [.ref 193, .int a1] [] (hs t, F, G) (fun v M' => wp 219 5 [.ref 193, .int a1, .float 0, .float 0, .float 0, .float 0, .float 0, .float 0, .float 0] (v.toList ++ []) M' Q)) : wp 219 0 [.ref 193, .int a1, .float 0, .float 0, .float 0, .float 0, .float 0, .float 0, .float 0] [] (hs t, F, G) Q := by
  refine wp_N (j' := 219) (pc' := 2) (L' := [.ref 193, .int a1, .float 0, .float 0, .float 0, .float 0, .float 0, .float 0, .float 0]) (S' := [.int a1, .ref 193]) (M' := (hs t, F, G)) 1 (fun _ => rfl) ?_
  refine wp_C (i := 150) (pc' := 5) (Li := [.ref 193, .int a1]) (rest := []) (fun _ => rfl) h
theorem rg219_5 {t : Nat} {F : ip_F} {G : ip_G} {Q : Option Value → ip_M → Prop} {a1 as0 : Int32} {v2 v3 v4 v5 v6 v7 v8 : Value} (h : (¬ as0 = (0 : Int32) → wp 215 0 [.ref 193, .int a1, .float 0, .float 0, .float 0, .float 0, .float 0] [] (hs t, F, G) (fun v M' => wp 219 18 [.ref 193, .int a1, v2, v3, v4, v5, v6, v7, v8] (v.toList ++ []) M' Q)) ∧ (as0 = (0 : Int32) → wp 140 0 [.ref 193] [] (hs t, F, G) (fun v M' => wp 219 12 [.ref 193, .int a1, v2, v3, v4, v5, v6, v7, v8] (v.toList ++ []) M' Q))) : wp 219 5 [.ref 193, .int a1, v2, v3, v4, v5, v6, v7, v8] [.int as0] (hs t, F, G) Q := by
  refine wp_ifc (pc1 := 13) (c := .ne) rfl (fun hc => ?_) (fun hc => ?_)
  · replace h := h.1 hc
    refine wp_N (j' := 219) (pc' := 15) (L' := [.ref 193, .int a1, v2, v3, v4, v5, v6, v7, v8]) (S' := [.int a1, .ref 193]) (M' := (hs t, F, G)) 1 (fun _ => rfl) ?_
    refine wp_C (i := 215) (pc' := 18) (Li := [.ref 193, .int a1, .float 0, .float 0, .float 0, .float 0, .float 0]) (rest := []) (fun _ => rfl) h
  · replace h := h.2 (Decidable.not_not.mp hc)
    refine wp_N (j' := 219) (pc' := 9) (L' := [.ref 193, .int a1, v2, v3, v4, v5, v6, v7, v8]) (S' := [.ref 193]) (M' := (hs t, F, G)) 0 (fun _ => rfl) ?_
    refine wp_C (i := 140) (pc' := 12) (Li := [.ref 193]) (rest := []) (fun _ => rfl) h
theorem rg219_12 {t : Nat} {F : ip_F} {G : ip_G} {Q : Option Value → ip_M → Prop} {a1 as0 : Int32} {v2 v3 v4 v5 v6 v7 v8 : Value} (h : Q (some (.int as0)) (hs t, F, G)) : wp 219 12 [.ref 193, .int a1, v2, v3, v4, v5, v6, v7, v8] [.int as0] (hs t, F, G) Q := by
  exact wp_RI rfl rfl h
theorem rg219_18 {t : Nat} {F : ip_F} {G : ip_G} {Q : Option Value → ip_M → Prop} {a1 as0 : Int32} {v2 v3 v4 v5 v6 v7 v8 : Value} (h : wp 219 28 [.ref 193, .int a1, .int as0, .int (-1 : Int32), .int (1048576 : Int32), .int (0 : Int32), v6, v7, v8] [] (hs t, F, G) Q) : wp 219 18 [.ref 193, .int a1, v2, v3, v4, v5, v6, v7, v8] [.int as0] (hs t, F, G) Q := by
  refine wp_N (j' := 219) (pc' := 28) (L' := [.ref 193, .int a1, .int as0, .int (-1 : Int32), .int (1048576 : Int32), .int (0 : Int32), v6, v7, v8]) (S' := []) (M' := (hs t, F, G)) 6 (fun _ => rfl) ?_
  exact h
theorem rg219_28 {t : Nat} {F : ip_F} {G : ip_G} {Q : Option Value → ip_M → Prop} {a1 a2 a3 a4 a5 : Int32} {v6 v7 v8 : Value} (h : ((10 : Int32) ≤ a5 → Q (some (.int a3)) (hs t, F, G)) ∧ (a5 < (10 : Int32) → (a2 = (0 : Int32) → Q (some (.int a3)) (hs t, F, G)) ∧ (¬ a2 = (0 : Int32) → wp 219 42 [.ref 193, .int a1, .int a2, .int a3, .int a4, .int a5, .int (0 : Int32), v7, v8] [] (hs t, F, G) Q))) : wp 219 28 [.ref 193, .int a1, .int a2, .int a3, .int a4, .int a5, v6, v7, v8] [] (hs t, F, G) Q := by
  refine wp_N (j' := 219) (pc' := 32) (L' := [.ref 193, .int a1, .int a2, .int a3, .int a4, .int a5, v6, v7, v8]) (S' := [.int (10 : Int32), .int a5]) (M' := (hs t, F, G)) 1 (fun _ => rfl) ?_
  refine wp_icmp (pc1 := 153) (c := .ge) rfl (fun hc => ?_) (fun hc => ?_)
  · replace h := h.1 hc
    refine wp_N (j' := 219) (pc' := 154) (L' := [.ref 193, .int a1, .int a2, .int a3, .int a4, .int a5, v6, v7, v8]) (S' := [.int a3]) (M' := (hs t, F, G)) 0 (fun _ => rfl) ?_
    exact wp_RI rfl rfl h
  · replace h := h.2 (Int32.not_le.mp hc)
    refine wp_N (j' := 219) (pc' := 36) (L' := [.ref 193, .int a1, .int a2, .int a3, .int a4, .int a5, v6, v7, v8]) (S' := [.int a2]) (M' := (hs t, F, G)) 0 (fun _ => rfl) ?_
    refine wp_ifc (pc1 := 153) (c := .eq) rfl (fun hc => ?_) (fun hc => ?_)
    · replace h := h.1 hc
      refine wp_N (j' := 219) (pc' := 154) (L' := [.ref 193, .int a1, .int a2, .int a3, .int a4, .int a5, v6, v7, v8]) (S' := [.int a3]) (M' := (hs t, F, G)) 0 (fun _ => rfl) ?_
      exact wp_RI rfl rfl h
    · replace h := h.2 hc
      refine wp_N (j' := 219) (pc' := 42) (L' := [.ref 193, .int a1, .int a2, .int a3, .int a4, .int a5, .int (0 : Int32), v7, v8]) (S' := []) (M' := (hs t, F, G)) 1 (fun _ => rfl) ?_
      exact h
theorem rg219_42 {t : Nat} {F : ip_F} {G : ip_G} {Q : Option Value → ip_M → Prop} {a1 a2 a3 a4 a5 a6 : Int32} {v7 v8 : Value} (h : ((10 : Int32) ≤ a6 → wp 219 28 [.ref 193, .int a1, .int a2, .int a3, .int a4, .int (a5 + (1 : Int32)), .int a6, v7, v8] [] (hs t, F, G) Q) ∧ (a6 < (10 : Int32) → wp 219 55 [.ref 193, .int a1, .int a2, .int a3, .int a4, .int a5, .int a6, .int (0 : Int32), .int (0 : Int32)] [] (hs t, F, G) Q)) : wp 219 42 [.ref 193, .int a1, .int a2, .int a3, .int a4, .int a5, .int a6, v7, v8] [] (hs t, F, G) Q := by
  refine wp_N (j' := 219) (pc' := 46) (L' := [.ref 193, .int a1, .int a2, .int a3, .int a4, .int a5, .int a6, v7, v8]) (S' := [.int (10 : Int32), .int a6]) (M' := (hs t, F, G)) 1 (fun _ => rfl) ?_
  refine wp_icmp (pc1 := 147) (c := .ge) rfl (fun hc => ?_) (fun hc => ?_)
  · replace h := h.1 hc
    refine wp_N (j' := 219) (pc' := 28) (L' := [.ref 193, .int a1, .int a2, .int a3, .int a4, .int (a5 + (1 : Int32)), .int a6, v7, v8]) (S' := []) (M' := (hs t, F, G)) 1 (fun _ => rfl) ?_
    exact h
  · replace h := h.2 (Int32.not_le.mp hc)
    refine wp_N (j' := 219) (pc' := 55) (L' := [.ref 193, .int a1, .int a2, .int a3, .int a4, .int a5, .int a6, .int (0 : Int32), .int (0 : Int32)]) (S' := []) (M' := (hs t, F, G)) 3 (fun _ => rfl) ?_
    exact h
theorem rg219_55 {t : Nat} {F : ip_F} {G : ip_G} {Q : Option Value → ip_M → Prop} {a1 a2 a3 a4 a5 a6 a7 a8 : Int32} (h : ((5 : Int32) < a8 → wp 147 0 [.int a2, .float 0, .float 0] [] (hs t, F, G) (fun v M' => wp 219 104 [.ref 193, .int a1, .int a2, .int a3, .int a4, .int a5, .int a6, .int a7, .int a8] (v.toList ++ [.int a7]) M' Q)) ∧ (a8 ≤ (5 : Int32) → wp 144 0 [.int a2, .int a8] [] (hs t, F, G) (fun v M' => wp 219 69 [.ref 193, .int a1, .int a2, .int a3, .int a4, .int a5, .int a6, .int a7, .int a8] (v.toList ++ [.int a7]) M' Q))) : wp 219 55 [.ref 193, .int a1, .int a2, .int a3, .int a4, .int a5, .int a6, .int a7, .int a8] [] (hs t, F, G) Q := by
  refine wp_N (j' := 219) (pc' := 58) (L' := [.ref 193, .int a1, .int a2, .int a3, .int a4, .int a5, .int a6, .int a7, .int a8]) (S' := [.int (5 : Int32), .int a8]) (M' := (hs t, F, G)) 1 (fun _ => rfl) ?_
  refine wp_icmp (pc1 := 98) (c := .gt) rfl (fun hc => ?_) (fun hc => ?_)
  · replace h := h.1 hc
    refine wp_N (j' := 219) (pc' := 101) (L' := [.ref 193, .int a1, .int a2, .int a3, .int a4, .int a5, .int a6, .int a7, .int a8]) (S' := [.int a2, .int a7]) (M' := (hs t, F, G)) 1 (fun _ => rfl) ?_
    refine wp_C (i := 147) (pc' := 104) (Li := [.int a2, .float 0, .float 0]) (rest := [.int a7]) (fun _ => rfl) h
  · replace h := h.2 (Int32.not_lt.mp hc)
    refine wp_N (j' := 219) (pc' := 66) (L' := [.ref 193, .int a1, .int a2, .int a3, .int a4, .int a5, .int a6, .int a7, .int a8]) (S' := [.int a8, .int a2, .int a7]) (M' := (hs t, F, G)) 2 (fun _ => rfl) ?_
    refine wp_C (i := 144) (pc' := 69) (Li := [.int a2, .int a8]) (rest := [.int a7]) (fun _ => rfl) h
theorem rg219_69 {t : Nat} {F : ip_F} {G : ip_G} {Q : Option Value → ip_M → Prop} {a1 a2 a3 a4 a5 a6 a7 a8 as0 as1 : Int32} (h : (as1 = (0 : Int32) → wp 219 89 [.ref 193, .int a1, .int a2, .int a3, .int a4, .int a5, .int a6, .int a7, .int a8] [.int (0 : Int32), .int as0] (hs t, F, G) Q) ∧ (¬ as1 = (0 : Int32) → wp 173 0 [.int a8, .int a6, .int a5] [] (hs t, F, G) (fun v M' => wp 219 81 [.ref 193, .int a1, .int a2, .int a3, .int a4, .int a5, .int a6, .int a7, .int a8] (v.toList ++ [.int as0]) M' Q))) : wp 219 69 [.ref 193, .int a1, .int a2, .int a3, .int a4, .int a5, .int a6, .int a7, .int a8] [.int as1, .int as0] (hs t, F, G) Q := by
  refine wp_ifc (pc1 := 88) (c := .eq) rfl (fun hc => ?_) (fun hc => ?_)
  · replace h := h.1 hc
    refine wp_N (j' := 219) (pc' := 89) (L' := [.ref 193, .int a1, .int a2, .int a3, .int a4, .int a5, .int a6, .int a7, .int a8]) (S' := [.int (0 : Int32), .int as0]) (M' := (hs t, F, G)) 0 (fun _ => rfl) ?_
    exact h
  · replace h := h.2 hc
    refine wp_N (j' := 219) (pc' := 78) (L' := [.ref 193, .int a1, .int a2, .int a3, .int a4, .int a5, .int a6, .int a7, .int a8]) (S' := [.int a5, .int a6, .int a8, .int as0]) (M' := (hs t, F, G)) 2 (fun _ => rfl) ?_
    refine wp_C (i := 173) (pc' := 81) (Li := [.int a8, .int a6, .int a5]) (rest := [.int as0]) (fun _ => rfl) h
theorem rg219_81 {t : Nat} {F : ip_F} {G : ip_G} {Q : Option Value → ip_M → Prop} {a1 a2 a3 a4 a5 a6 a7 a8 as0 as1 : Int32} (h : (as1 = (0 : Int32) → wp 219 89 [.ref 193, .int a1, .int a2, .int a3, .int a4, .int a5, .int a6, .int a7, .int a8] [.int (0 : Int32), .int as0] (hs t, F, G) Q) ∧ (¬ as1 = (0 : Int32) → wp 219 89 [.ref 193, .int a1, .int a2, .int a3, .int a4, .int a5, .int a6, .int a7, .int a8] [.int (1 : Int32), .int as0] (hs t, F, G) Q)) : wp 219 81 [.ref 193, .int a1, .int a2, .int a3, .int a4, .int a5, .int a6, .int a7, .int a8] [.int as1, .int as0] (hs t, F, G) Q := by
  refine wp_ifc (pc1 := 88) (c := .eq) rfl (fun hc => ?_) (fun hc => ?_)
  · replace h := h.1 hc
    refine wp_N (j' := 219) (pc' := 89) (L' := [.ref 193, .int a1, .int a2, .int a3, .int a4, .int a5, .int a6, .int a7, .int a8]) (S' := [.int (0 : Int32), .int as0]) (M' := (hs t, F, G)) 0 (fun _ => rfl) ?_
    exact h
  · replace h := h.2 hc
    refine wp_N (j' := 219) (pc' := 89) (L' := [.ref 193, .int a1, .int a2, .int a3, .int a4, .int a5, .int a6, .int a7, .int a8]) (S' := [.int (1 : Int32), .int as0]) (M' := (hs t, F, G)) 1 (fun _ => rfl) ?_
    exact h
theorem rg219_89 {t : Nat} {F : ip_F} {G : ip_G} {Q : Option Value → ip_M → Prop} {a1 a2 a3 a4 a5 a6 a7 a8 as0 as1 : Int32} (h : wp 219 55 [.ref 193, .int a1, .int a2, .int a3, .int a4, .int a5, .int a6, .int (as0 + as1), .int (a8 + (1 : Int32))] [] (hs t, F, G) Q) : wp 219 89 [.ref 193, .int a1, .int a2, .int a3, .int a4, .int a5, .int a6, .int a7, .int a8] [.int as1, .int as0] (hs t, F, G) Q := by
  refine wp_N (j' := 219) (pc' := 55) (L' := [.ref 193, .int a1, .int a2, .int a3, .int a4, .int a5, .int a6, .int (as0 + as1), .int (a8 + (1 : Int32))]) (S' := []) (M' := (hs t, F, G)) 3 (fun _ => rfl) ?_
  exact h
theorem rg219_104 {t : Nat} {F : ip_F} {G : ip_G} {Q : Option Value → ip_M → Prop} {a1 a2 a3 a4 a5 a6 a7 a8 as0 as1 : Int32} (h : wp 146 0 [.int as0, .int (as1 - a7)] [] (hs t, F, G) (fun v M' => wp 219 110 [.ref 193, .int a1, .int a2, .int a3, .int a4, .int a5, .int a6, .int a7, .int a8] (v.toList ++ []) M' Q)) : wp 219 104 [.ref 193, .int a1, .int a2, .int a3, .int a4, .int a5, .int a6, .int a7, .int a8] [.int as1, .int as0] (hs t, F, G) Q := by
  refine wp_N (j' := 219) (pc' := 107) (L' := [.ref 193, .int a1, .int a2, .int a3, .int a4, .int a5, .int a6, .int a7, .int a8]) (S' := [.int (as1 - a7), .int as0]) (M' := (hs t, F, G)) 1 (fun _ => rfl) ?_
  refine wp_C (i := 146) (pc' := 110) (Li := [.int as0, .int (as1 - a7)]) (rest := []) (fun _ => rfl) h
theorem rg219_110 {t : Nat} {F : ip_F} {G : ip_G} {Q : Option Value → ip_M → Prop} {a1 a2 a3 a4 a5 a6 a7 a8 as0 : Int32} (h : (a4 ≤ as0 → wp 219 131 [.ref 193, .int a1, .int a2, .int a3, .int a4, .int a5, .int a6, .int a7, .int as0] [.int a3] (hs t, F, G) Q) ∧ (as0 < a4 → wp 219 131 [.ref 193, .int a1, .int a2, .int a3, .int a4, .int a5, .int a6, .int a7, .int as0] [.int (((100 : Int32) * a5) + a6)] (hs t, F, G) Q)) : wp 219 110 [.ref 193, .int a1, .int a2, .int a3, .int a4, .int a5, .int a6, .int a7, .int a8] [.int as0] (hs t, F, G) Q := by
  refine wp_N (j' := 219) (pc' := 116) (L' := [.ref 193, .int a1, .int a2, .int a3, .int a4, .int a5, .int a6, .int a7, .int as0]) (S' := [.int a4, .int as0]) (M' := (hs t, F, G)) 2 (fun _ => rfl) ?_
  refine wp_icmp (pc1 := 130) (c := .ge) rfl (fun hc => ?_) (fun hc => ?_)
  · replace h := h.1 hc
    refine wp_N (j' := 219) (pc' := 131) (L' := [.ref 193, .int a1, .int a2, .int a3, .int a4, .int a5, .int a6, .int a7, .int as0]) (S' := [.int a3]) (M' := (hs t, F, G)) 0 (fun _ => rfl) ?_
    exact h
  · replace h := h.2 (Int32.not_le.mp hc)
    refine wp_N (j' := 219) (pc' := 131) (L' := [.ref 193, .int a1, .int a2, .int a3, .int a4, .int a5, .int a6, .int a7, .int as0]) (S' := [.int (((100 : Int32) * a5) + a6)]) (M' := (hs t, F, G)) 5 (fun _ => rfl) ?_
    exact h
theorem rg219_131 {t : Nat} {F : ip_F} {G : ip_G} {Q : Option Value → ip_M → Prop} {a1 a2 a3 a4 a5 a6 a7 a8 as0 : Int32} (h : wp 145 0 [.int a4, .int a8] [] (hs t, F, G) (fun v M' => wp 219 139 [.ref 193, .int a1, .int a2, .int as0, .int a4, .int a5, .int a6, .int a7, .int a8] (v.toList ++ []) M' Q)) : wp 219 131 [.ref 193, .int a1, .int a2, .int a3, .int a4, .int a5, .int a6, .int a7, .int a8] [.int as0] (hs t, F, G) Q := by
  refine wp_N (j' := 219) (pc' := 136) (L' := [.ref 193, .int a1, .int a2, .int as0, .int a4, .int a5, .int a6, .int a7, .int a8]) (S' := [.int a8, .int a4]) (M' := (hs t, F, G)) 2 (fun _ => rfl) ?_
  refine wp_C (i := 145) (pc' := 139) (Li := [.int a4, .int a8]) (rest := []) (fun _ => rfl) h
theorem rg219_139 {t : Nat} {F : ip_F} {G : ip_G} {Q : Option Value → ip_M → Prop} {a1 a2 a3 a4 a5 a6 a7 a8 as0 : Int32} (h : wp 219 42 [.ref 193, .int a1, .int a2, .int a3, .int as0, .int a5, .int (a6 + (1 : Int32)), .int a7, .int a8] [] (hs t, F, G) Q) : wp 219 139 [.ref 193, .int a1, .int a2, .int a3, .int a4, .int a5, .int a6, .int a7, .int a8] [.int as0] (hs t, F, G) Q := by
  refine wp_N (j' := 219) (pc' := 42) (L' := [.ref 193, .int a1, .int a2, .int a3, .int as0, .int a5, .int (a6 + (1 : Int32)), .int a7, .int a8]) (S' := []) (M' := (hs t, F, G)) 2 (fun _ => rfl) ?_
  exact h
theorem rg220_0 {t : Nat} {F : ip_F} {G : ip_G} {Q : Option Value → ip_M → Prop} {a1 : Int32} (h : wp 220 2 [.ref 193, .int a1, .int (0 : Int32)] [] (hs t, F, G) Q) : wp 220 0 [.ref 193, .int a1, .float 0] [] (hs t, F, G) Q := by
  refine wp_N (j' := 220) (pc' := 2) (L' := [.ref 193, .int a1, .int (0 : Int32)]) (S' := []) (M' := (hs t, F, G)) 1 (fun _ => rfl) ?_
  exact h
theorem rg220_2 {t : Nat} {F : ip_F} {G : ip_G} {Q : Option Value → ip_M → Prop} {a1 a2 : Int32} (h : (vp_in a2 6) ∧ (((F 205 (a2).toNatClampNeg) = a1 → Q (some (.int a2)) (hs t, F, G)) ∧ (¬ (F 205 (a2).toNatClampNeg) = a1 → wp 220 2 [.ref 193, .int a1, .int (a2 + (1 : Int32))] [] (hs t, F, G) Q))) : wp 220 2 [.ref 193, .int a1, .int a2] [] (hs t, F, G) Q := by
  refine wp_N (j' := 220) (pc' := 7) (L' := [.ref 193, .int a1, .int a2]) (S' := [.int a2, .ref 205]) (M' := (hs t, F, G)) 2 (fun _ => rfl) ?_
  obtain ⟨h1_, h⟩ := h
  refine wp_ial (m := (a2).toNatClampNeg) rfl rfl rfl h1_ ?_
  refine wp_N (j' := 220) (pc' := 9) (L' := [.ref 193, .int a1, .int a2]) (S' := [.int a1, .int (F 205 (a2).toNatClampNeg)]) (M' := (hs t, F, G)) 0 (fun _ => rfl) ?_
  refine wp_icmp (pc1 := 18) (c := .eq) rfl (fun hc => ?_) (fun hc => ?_)
  · replace h := h.1 hc
    refine wp_N (j' := 220) (pc' := 19) (L' := [.ref 193, .int a1, .int a2]) (S' := [.int a2]) (M' := (hs t, F, G)) 0 (fun _ => rfl) ?_
    exact wp_RI rfl rfl h
  · replace h := h.2 hc
    refine wp_N (j' := 220) (pc' := 2) (L' := [.ref 193, .int a1, .int (a2 + (1 : Int32))]) (S' := []) (M' := (hs t, F, G)) 1 (fun _ => rfl) ?_
    exact h
theorem rg221_0 {t : Nat} {F : ip_F} {G : ip_G} {Q : Option Value → ip_M → Prop} {a1 a2 a3 a4 : Int32} (h : wp 175 0 [.ref 193, .float 0, .float 0] [] (hs t, F, G) (fun v M' => wp 221 4 [.ref 193, .int a1, .int a2, .int a3, .int a4, .float 0, .float 0, .float 0, .float 0, .float 0, .float 0] (v.toList ++ []) M' Q)) : wp 221 0 [.ref 193, .int a1, .int a2, .int a3, .int a4, .float 0, .float 0, .float 0, .float 0, .float 0, .float 0] [] (hs t, F, G) Q := by
  refine wp_N (j' := 221) (pc' := 1) (L' := [.ref 193, .int a1, .int a2, .int a3, .int a4, .float 0, .float 0, .float 0, .float 0, .float 0, .float 0]) (S' := [.ref 193]) (M' := (hs t, F, G)) 0 (fun _ => rfl) ?_
  refine wp_C (i := 175) (pc' := 4) (Li := [.ref 193, .float 0, .float 0]) (rest := []) (fun _ => rfl) h
theorem rg221_4 {t : Nat} {F : ip_F} {G : ip_G} {Q : Option Value → ip_M → Prop} {a1 a2 a3 a4 as0 : Int32} {v5 v6 v7 v8 v9 v10 : Value} (h : wp 221 20 [.ref 193, .int a1, .int a2, .int a3, .int a4, .int ((as0 ||| ((1 : Int32) <<< (a1 &&& 31))) ||| ((1 : Int32) <<< (a2 &&& 31))), .int (0 : Int32), .int (1 : Int32), v8, v9, v10] [] (hs t, F, G) Q) : wp 221 4 [.ref 193, .int a1, .int a2, .int a3, .int a4, v5, v6, v7, v8, v9, v10] [.int as0] (hs t, F, G) Q := by
  refine wp_N (j' := 221) (pc' := 20) (L' := [.ref 193, .int a1, .int a2, .int a3, .int a4, .int ((as0 ||| ((1 : Int32) <<< (a1 &&& 31))) ||| ((1 : Int32) <<< (a2 &&& 31))), .int (0 : Int32), .int (1 : Int32), v8, v9, v10]) (S' := []) (M' := (hs t, F, G)) 12 (fun _ => rfl) ?_
  exact h
theorem rg221_20 {t : Nat} {F : ip_F} {G : ip_G} {Q : Option Value → ip_M → Prop} {a1 a2 a3 a4 a5 a6 a7 : Int32} {v8 v9 v10 : Value} (h : ((12 : Int32) ≤ a7 → (¬ a4 = a1 → wp 221 178 [.ref 193, .int a1, .int a2, .int a3, .int a4, .int a5, .int a6, .int a7, v8, v9, v10] [.int (1 : Int32)] (hs t, F, G) Q) ∧ (a4 = a1 → wp 221 178 [.ref 193, .int a1, .int a2, .int a3, .int a4, .int a5, .int a6, .int a7, v8, v9, v10] [.int (0 : Int32)] (hs t, F, G) Q)) ∧ (a7 < (12 : Int32) → wp 177 0 [.ref 193, .int a7, .float 0, .float 0, .float 0] [] (hs t, F, G) (fun v M' => wp 221 33 [.ref 193, .int a1, .int a2, .int a3, .int a4, .int a5, .int a6, .int a7, v8, v9, v10] (v.toList ++ []) M' Q))) : wp 221 20 [.ref 193, .int a1, .int a2, .int a3, .int a4, .int a5, .int a6, .int a7, v8, v9, v10] [] (hs t, F, G) Q := by
  refine wp_N (j' := 221) (pc' := 24) (L' := [.ref 193, .int a1, .int a2, .int a3, .int a4, .int a5, .int a6, .int a7, v8, v9, v10]) (S' := [.int (12 : Int32), .int a7]) (M' := (hs t, F, G)) 1 (fun _ => rfl) ?_
  refine wp_icmp (pc1 := 167) (c := .ge) rfl (fun hc => ?_) (fun hc => ?_)
  · replace h := h.1 hc
    refine wp_N (j' := 221) (pc' := 170) (L' := [.ref 193, .int a1, .int a2, .int a3, .int a4, .int a5, .int a6, .int a7, v8, v9, v10]) (S' := [.int a1, .int a4]) (M' := (hs t, F, G)) 1 (fun _ => rfl) ?_
    refine wp_icmp (pc1 := 177) (c := .ne) rfl (fun hc => ?_) (fun hc => ?_)
    · replace h := h.1 hc
      refine wp_N (j' := 221) (pc' := 178) (L' := [.ref 193, .int a1, .int a2, .int a3, .int a4, .int a5, .int a6, .int a7, v8, v9, v10]) (S' := [.int (1 : Int32)]) (M' := (hs t, F, G)) 0 (fun _ => rfl) ?_
      exact h
    · replace h := h.2 (Decidable.not_not.mp hc)
      refine wp_N (j' := 221) (pc' := 178) (L' := [.ref 193, .int a1, .int a2, .int a3, .int a4, .int a5, .int a6, .int a7, v8, v9, v10]) (S' := [.int (0 : Int32)]) (M' := (hs t, F, G)) 1 (fun _ => rfl) ?_
      exact h
  · replace h := h.2 (Int32.not_le.mp hc)
    refine wp_N (j' := 221) (pc' := 30) (L' := [.ref 193, .int a1, .int a2, .int a3, .int a4, .int a5, .int a6, .int a7, v8, v9, v10]) (S' := [.int a7, .ref 193]) (M' := (hs t, F, G)) 1 (fun _ => rfl) ?_
    refine wp_C (i := 177) (pc' := 33) (Li := [.ref 193, .int a7, .float 0, .float 0, .float 0]) (rest := []) (fun _ => rfl) h
theorem rg221_33 {t : Nat} {F : ip_F} {G : ip_G} {Q : Option Value → ip_M → Prop} {a1 a2 a3 a4 a5 a6 a7 : Int32} {v8 v9 v10 : Value} (h : wp 220 0 [.ref 193, .int (a4 + (1 : Int32)), .float 0] [] (hs t, F, G) (fun v M' => wp 221 41 [.ref 193, .int a1, .int a2, .int a3, .int a4, .int a5, .int a6, .int a7, v8, v9, v10] (v.toList ++ []) M' Q)) : wp 221 33 [.ref 193, .int a1, .int a2, .int a3, .int a4, .int a5, .int a6, .int a7, v8, v9, v10] [] (hs t, F, G) Q := by
  refine wp_N (j' := 221) (pc' := 38) (L' := [.ref 193, .int a1, .int a2, .int a3, .int a4, .int a5, .int a6, .int a7, v8, v9, v10]) (S' := [.int (a4 + (1 : Int32)), .ref 193]) (M' := (hs t, F, G)) 3 (fun _ => rfl) ?_
  refine wp_C (i := 220) (pc' := 41) (Li := [.ref 193, .int (a4 + (1 : Int32)), .float 0]) (rest := []) (fun _ => rfl) h
theorem rg221_41 {t : Nat} {F : ip_F} {G : ip_G} {Q : Option Value → ip_M → Prop} {a1 a2 a3 a4 a5 a6 a7 as0 : Int32} {v8 v9 v10 : Value} (h : wp 221 46 [.ref 193, .int a1, .int a2, .int a3, .int a4, .int a5, .int a6, .int a7, .int as0, .int (0 : Int32), v10] [] (hs t, F, G) Q) : wp 221 41 [.ref 193, .int a1, .int a2, .int a3, .int a4, .int a5, .int a6, .int a7, v8, v9, v10] [.int as0] (hs t, F, G) Q := by
  refine wp_N (j' := 221) (pc' := 46) (L' := [.ref 193, .int a1, .int a2, .int a3, .int a4, .int a5, .int a6, .int a7, .int as0, .int (0 : Int32), v10]) (S' := []) (M' := (hs t, F, G)) 2 (fun _ => rfl) ?_
  exact h
theorem rg221_46 {t : Nat} {F : ip_F} {G : ip_G} {Q : Option Value → ip_M → Prop} {a1 a2 a3 a4 a5 a6 a7 a8 a9 : Int32} {v10 : Value} (h : ((F 193 1) ≤ a9 → wp 220 0 [.ref 193, .int (a4 + (1 : Int32)), .float 0] [] (hs t, F, G) (fun v M' => wp 221 148 [.ref 193, .int a1, .int a2, .int a3, .int a4, .int a5, .int a6, .int a7, .int a8, .int a9, v10] (v.toList ++ [.int a6]) M' Q)) ∧ (a9 < (F 193 1) → (¬ a9 = a1 → wp 221 73 [.ref 193, .int a1, .int a2, .int a3, .int a4, .int a5, .int a6, .int a7, .int a8, .int a9, v10] [] (hs t, F, G) Q) ∧ (a9 = a1 → wp 144 0 [.int a3, .int (0 : Int32)] [] (hs t, F, G) (fun v M' => wp 221 66 [.ref 193, .int a1, .int a2, .int a3, .int a4, .int a5, .int a6, .int a7, .int a8, .int a9, v10] (v.toList ++ []) M' Q)))) : wp 221 46 [.ref 193, .int a1, .int a2, .int a3, .int a4, .int a5, .int a6, .int a7, .int a8, .int a9, v10] [] (hs t, F, G) Q := by
  refine wp_N (j' := 221) (pc' := 52) (L' := [.ref 193, .int a1, .int a2, .int a3, .int a4, .int a5, .int a6, .int a7, .int a8, .int a9, v10]) (S' := [.int (F 193 1), .int a9]) (M' := (hs t, F, G)) 2 (fun _ => rfl) ?_
  refine wp_icmp (pc1 := 138) (c := .ge) rfl (fun hc => ?_) (fun hc => ?_)
  · replace h := h.1 hc
    refine wp_N (j' := 221) (pc' := 145) (L' := [.ref 193, .int a1, .int a2, .int a3, .int a4, .int a5, .int a6, .int a7, .int a8, .int a9, v10]) (S' := [.int (a4 + (1 : Int32)), .ref 193, .int a6]) (M' := (hs t, F, G)) 4 (fun _ => rfl) ?_
    refine wp_C (i := 220) (pc' := 148) (Li := [.ref 193, .int (a4 + (1 : Int32)), .float 0]) (rest := [.int a6]) (fun _ => rfl) h
  · replace h := h.2 (Int32.not_le.mp hc)
    refine wp_N (j' := 221) (pc' := 58) (L' := [.ref 193, .int a1, .int a2, .int a3, .int a4, .int a5, .int a6, .int a7, .int a8, .int a9, v10]) (S' := [.int a1, .int a9]) (M' := (hs t, F, G)) 1 (fun _ => rfl) ?_
    refine wp_icmp (pc1 := 73) (c := .ne) rfl (fun hc => ?_) (fun hc => ?_)
    · replace h := h.1 hc
      exact h
    · replace h := h.2 (Decidable.not_not.mp hc)
      refine wp_N (j' := 221) (pc' := 63) (L' := [.ref 193, .int a1, .int a2, .int a3, .int a4, .int a5, .int a6, .int a7, .int a8, .int a9, v10]) (S' := [.int (0 : Int32), .int a3]) (M' := (hs t, F, G)) 1 (fun _ => rfl) ?_
      refine wp_C (i := 144) (pc' := 66) (Li := [.int a3, .int (0 : Int32)]) (rest := []) (fun _ => rfl) h
theorem rg221_66 {t : Nat} {F : ip_F} {G : ip_G} {Q : Option Value → ip_M → Prop} {a1 a2 a3 a4 a5 a6 a7 a8 a9 as0 : Int32} {v10 : Value} (h : (as0 = (0 : Int32) → wp 221 73 [.ref 193, .int a1, .int a2, .int a3, .int a4, .int a5, .int a6, .int a7, .int a8, .int a9, v10] [] (hs t, F, G) Q) ∧ (¬ as0 = (0 : Int32) → wp 221 93 [.ref 193, .int a1, .int a2, .int a3, .int a4, .int a5, .int a6, .int a7, .int a8, .int a9, v10] [.int a2] (hs t, F, G) Q)) : wp 221 66 [.ref 193, .int a1, .int a2, .int a3, .int a4, .int a5, .int a6, .int a7, .int a8, .int a9, v10] [.int as0] (hs t, F, G) Q := by
  refine wp_ifc (pc1 := 73) (c := .eq) rfl (fun hc => ?_) (fun hc => ?_)
  · replace h := h.1 hc
    exact h
  · replace h := h.2 hc
    refine wp_N (j' := 221) (pc' := 93) (L' := [.ref 193, .int a1, .int a2, .int a3, .int a4, .int a5, .int a6, .int a7, .int a8, .int a9, v10]) (S' := [.int a2]) (M' := (hs t, F, G)) 1 (fun _ => rfl) ?_
    exact h
theorem rg221_73 {t : Nat} {F : ip_F} {G : ip_G} {Q : Option Value → ip_M → Prop} {a1 a2 a3 a4 a5 a6 a7 a8 a9 : Int32} {v10 : Value} (h : (¬ a9 = a2 → wp 221 93 [.ref 193, .int a1, .int a2, .int a3, .int a4, .int a5, .int a6, .int a7, .int a8, .int a9, v10] [.int a9] (hs t, F, G) Q) ∧ (a9 = a2 → wp 144 0 [.int a3, .int (1 : Int32)] [] (hs t, F, G) (fun v M' => wp 221 84 [.ref 193, .int a1, .int a2, .int a3, .int a4, .int a5, .int a6, .int a7, .int a8, .int a9, v10] (v.toList ++ []) M' Q))) : wp 221 73 [.ref 193, .int a1, .int a2, .int a3, .int a4, .int a5, .int a6, .int a7, .int a8, .int a9, v10] [] (hs t, F, G) Q := by
  refine wp_N (j' := 221) (pc' := 76) (L' := [.ref 193, .int a1, .int a2, .int a3, .int a4, .int a5, .int a6, .int a7, .int a8, .int a9, v10]) (S' := [.int a2, .int a9]) (M' := (hs t, F, G)) 1 (fun _ => rfl) ?_
  refine wp_icmp (pc1 := 91) (c := .ne) rfl (fun hc => ?_) (fun hc => ?_)
  · replace h := h.1 hc
    refine wp_N (j' := 221) (pc' := 93) (L' := [.ref 193, .int a1, .int a2, .int a3, .int a4, .int a5, .int a6, .int a7, .int a8, .int a9, v10]) (S' := [.int a9]) (M' := (hs t, F, G)) 0 (fun _ => rfl) ?_
    exact h
  · replace h := h.2 (Decidable.not_not.mp hc)
    refine wp_N (j' := 221) (pc' := 81) (L' := [.ref 193, .int a1, .int a2, .int a3, .int a4, .int a5, .int a6, .int a7, .int a8, .int a9, v10]) (S' := [.int (1 : Int32), .int a3]) (M' := (hs t, F, G)) 1 (fun _ => rfl) ?_
    refine wp_C (i := 144) (pc' := 84) (Li := [.int a3, .int (1 : Int32)]) (rest := []) (fun _ => rfl) h
theorem rg221_84 {t : Nat} {F : ip_F} {G : ip_G} {Q : Option Value → ip_M → Prop} {a1 a2 a3 a4 a5 a6 a7 a8 a9 as0 : Int32} {v10 : Value} (h : (as0 = (0 : Int32) → wp 221 93 [.ref 193, .int a1, .int a2, .int a3, .int a4, .int a5, .int a6, .int a7, .int a8, .int a9, v10] [.int a9] (hs t, F, G) Q) ∧ (¬ as0 = (0 : Int32) → wp 221 93 [.ref 193, .int a1, .int a2, .int a3, .int a4, .int a5, .int a6, .int a7, .int a8, .int a9, v10] [.int a1] (hs t, F, G) Q)) : wp 221 84 [.ref 193, .int a1, .int a2, .int a3, .int a4, .int a5, .int a6, .int a7, .int a8, .int a9, v10] [.int as0] (hs t, F, G) Q := by
  refine wp_ifc (pc1 := 91) (c := .eq) rfl (fun hc => ?_) (fun hc => ?_)
  · replace h := h.1 hc
    refine wp_N (j' := 221) (pc' := 93) (L' := [.ref 193, .int a1, .int a2, .int a3, .int a4, .int a5, .int a6, .int a7, .int a8, .int a9, v10]) (S' := [.int a9]) (M' := (hs t, F, G)) 0 (fun _ => rfl) ?_
    exact h
  · replace h := h.2 hc
    refine wp_N (j' := 221) (pc' := 93) (L' := [.ref 193, .int a1, .int a2, .int a3, .int a4, .int a5, .int a6, .int a7, .int a8, .int a9, v10]) (S' := [.int a1]) (M' := (hs t, F, G)) 1 (fun _ => rfl) ?_
    exact h
theorem rg221_93 {t : Nat} {F : ip_F} {G : ip_G} {Q : Option Value → ip_M → Prop} {a1 a2 a3 a4 a5 a6 a7 a8 a9 as0 : Int32} {v10 : Value} (h : wp 144 0 [.int a5, .int a9] [] (hs t, F, G) (fun v M' => wp 221 102 [.ref 193, .int a1, .int a2, .int a3, .int a4, .int a5, .int a6, .int a7, .int a8, .int a9, .int as0] (v.toList ++ []) M' Q)) : wp 221 93 [.ref 193, .int a1, .int a2, .int a3, .int a4, .int a5, .int a6, .int a7, .int a8, .int a9, v10] [.int as0] (hs t, F, G) Q := by
  refine wp_N (j' := 221) (pc' := 99) (L' := [.ref 193, .int a1, .int a2, .int a3, .int a4, .int a5, .int a6, .int a7, .int a8, .int a9, .int as0]) (S' := [.int a9, .int a5]) (M' := (hs t, F, G)) 2 (fun _ => rfl) ?_
  refine wp_C (i := 144) (pc' := 102) (Li := [.int a5, .int a9]) (rest := []) (fun _ => rfl) h
theorem rg221_102 {t : Nat} {F : ip_F} {G : ip_G} {Q : Option Value → ip_M → Prop} {a1 a2 a3 a4 a5 a6 a7 a8 a9 a10 as0 : Int32} (h : (as0 = (0 : Int32) → wp 221 132 [.ref 193, .int a1, .int a2, .int a3, .int a4, .int a5, .int a6, .int a7, .int a8, .int a9, .int a10] [] (hs t, F, G) Q) ∧ (¬ as0 = (0 : Int32) → (vp_in a9 6) ∧ ((¬ (F 197 (a9).toNatClampNeg) = a7 → wp 221 132 [.ref 193, .int a1, .int a2, .int a3, .int a4, .int a5, .int a6, .int a7, .int a8, .int a9, .int a10] [] (hs t, F, G) Q) ∧ ((F 197 (a9).toNatClampNeg) = a7 → (vp_in a9 6) ∧ (wp 178 0 [.ref 193, .int (a10 + (1 : Int32)), .int (F 196 (a9).toNatClampNeg), .float 0, .float 0] [] (hs t, F, G) (fun v M' => wp 221 132 [.ref 193, .int a1, .int a2, .int a3, .int a4, .int a5, .int a6, .int a7, .int a8, .int a9, .int a10] (v.toList ++ []) M' Q)))))) : wp 221 102 [.ref 193, .int a1, .int a2, .int a3, .int a4, .int a5, .int a6, .int a7, .int a8, .int a9, .int a10] [.int as0] (hs t, F, G) Q := by
  refine wp_ifc (pc1 := 132) (c := .eq) rfl (fun hc => ?_) (fun hc => ?_)
  · replace h := h.1 hc
    exact h
  · replace h := h.2 hc
    refine wp_N (j' := 221) (pc' := 111) (L' := [.ref 193, .int a1, .int a2, .int a3, .int a4, .int a5, .int a6, .int a7, .int a8, .int a9, .int a10]) (S' := [.int a9, .ref 197]) (M' := (hs t, F, G)) 2 (fun _ => rfl) ?_
    obtain ⟨h1_, h⟩ := h
    refine wp_ial (m := (a9).toNatClampNeg) rfl rfl rfl h1_ ?_
    refine wp_N (j' := 221) (pc' := 114) (L' := [.ref 193, .int a1, .int a2, .int a3, .int a4, .int a5, .int a6, .int a7, .int a8, .int a9, .int a10]) (S' := [.int a7, .int (F 197 (a9).toNatClampNeg)]) (M' := (hs t, F, G)) 0 (fun _ => rfl) ?_
    refine wp_icmp (pc1 := 132) (c := .ne) rfl (fun hc => ?_) (fun hc => ?_)
    · replace h := h.1 hc
      exact h
    · replace h := h.2 (Decidable.not_not.mp hc)
      refine wp_N (j' := 221) (pc' := 128) (L' := [.ref 193, .int a1, .int a2, .int a3, .int a4, .int a5, .int a6, .int a7, .int a8, .int a9, .int a10]) (S' := [.int a9, .ref 196, .int (a10 + (1 : Int32)), .ref 193]) (M' := (hs t, F, G)) 6 (fun _ => rfl) ?_
      obtain ⟨h2_, h⟩ := h
      refine wp_ial (m := (a9).toNatClampNeg) rfl rfl rfl h2_ ?_
      refine wp_C (i := 178) (pc' := 132) (Li := [.ref 193, .int (a10 + (1 : Int32)), .int (F 196 (a9).toNatClampNeg), .float 0, .float 0]) (rest := []) (fun _ => rfl) h
theorem rg221_132 {t : Nat} {F : ip_F} {G : ip_G} {Q : Option Value → ip_M → Prop} {a1 a2 a3 a4 a5 a6 a7 a8 a9 a10 : Int32} (h : wp 221 46 [.ref 193, .int a1, .int a2, .int a3, .int a4, .int a5, .int a6, .int a7, .int a8, .int (a9 + (1 : Int32)), .int a10] [] (hs t, F, G) Q) : wp 221 132 [.ref 193, .int a1, .int a2, .int a3, .int a4, .int a5, .int a6, .int a7, .int a8, .int a9, .int a10] [] (hs t, F, G) Q := by
  refine wp_N (j' := 221) (pc' := 46) (L' := [.ref 193, .int a1, .int a2, .int a3, .int a4, .int a5, .int a6, .int a7, .int a8, .int (a9 + (1 : Int32)), .int a10]) (S' := []) (M' := (hs t, F, G)) 1 (fun _ => rfl) ?_
  exact h
theorem rg221_148 {t : Nat} {F : ip_F} {G : ip_G} {Q : Option Value → ip_M → Prop} {a1 a2 a3 a4 a5 a6 a7 a8 a9 as0 as1 : Int32} {v10 : Value} (h : (as1 = a8 → wp 221 158 [.ref 193, .int a1, .int a2, .int a3, .int a4, .int a5, .int a6, .int a7, .int a8, .int a9, v10] [.int (0 : Int32), .int as0] (hs t, F, G) Q) ∧ (¬ as1 = a8 → wp 221 158 [.ref 193, .int a1, .int a2, .int a3, .int a4, .int a5, .int a6, .int a7, .int a8, .int a9, v10] [.int (1 : Int32), .int as0] (hs t, F, G) Q)) : wp 221 148 [.ref 193, .int a1, .int a2, .int a3, .int a4, .int a5, .int a6, .int a7, .int a8, .int a9, v10] [.int as1, .int as0] (hs t, F, G) Q := by
  refine wp_N (j' := 221) (pc' := 150) (L' := [.ref 193, .int a1, .int a2, .int a3, .int a4, .int a5, .int a6, .int a7, .int a8, .int a9, v10]) (S' := [.int a8, .int as1, .int as0]) (M' := (hs t, F, G)) 0 (fun _ => rfl) ?_
  refine wp_icmp (pc1 := 157) (c := .eq) rfl (fun hc => ?_) (fun hc => ?_)
  · replace h := h.1 hc
    refine wp_N (j' := 221) (pc' := 158) (L' := [.ref 193, .int a1, .int a2, .int a3, .int a4, .int a5, .int a6, .int a7, .int a8, .int a9, v10]) (S' := [.int (0 : Int32), .int as0]) (M' := (hs t, F, G)) 0 (fun _ => rfl) ?_
    exact h
  · replace h := h.2 hc
    refine wp_N (j' := 221) (pc' := 158) (L' := [.ref 193, .int a1, .int a2, .int a3, .int a4, .int a5, .int a6, .int a7, .int a8, .int a9, v10]) (S' := [.int (1 : Int32), .int as0]) (M' := (hs t, F, G)) 1 (fun _ => rfl) ?_
    exact h
theorem rg221_158 {t : Nat} {F : ip_F} {G : ip_G} {Q : Option Value → ip_M → Prop} {a1 a2 a3 a4 a5 a6 a7 a8 a9 as0 as1 : Int32} {v10 : Value} (h : wp 221 20 [.ref 193, .int a1, .int a2, .int a3, .int a4, .int a5, .int (as0 + as1), .int (a7 + (1 : Int32)), .int a8, .int a9, v10] [] (hs t, F, G) Q) : wp 221 158 [.ref 193, .int a1, .int a2, .int a3, .int a4, .int a5, .int a6, .int a7, .int a8, .int a9, v10] [.int as1, .int as0] (hs t, F, G) Q := by
  refine wp_N (j' := 221) (pc' := 20) (L' := [.ref 193, .int a1, .int a2, .int a3, .int a4, .int a5, .int (as0 + as1), .int (a7 + (1 : Int32)), .int a8, .int a9, v10]) (S' := []) (M' := (hs t, F, G)) 3 (fun _ => rfl) ?_
  exact h
theorem rg221_178 {t : Nat} {F : ip_F} {G : ip_G} {Q : Option Value → ip_M → Prop} {a1 a2 a3 a4 a5 a6 a7 as0 : Int32} {v8 v9 v10 : Value} (h : Q (some (.int ((a6 - ((a3 >>> (as0 &&& 31)) &&& (1 : Int32))) + ((2 : Int32) * ((a3 >>> (((1 : Int32) - as0) &&& 31)) &&& (1 : Int32)))))) (hs t, F, G)) : wp 221 178 [.ref 193, .int a1, .int a2, .int a3, .int a4, .int a5, .int a6, .int a7, v8, v9, v10] [.int as0] (hs t, F, G) Q := by
  refine wp_N (j' := 221) (pc' := 200) (L' := [.ref 193, .int a1, .int a2, .int a3, .int a4, .int a5, .int a6, .int as0, v8, v9, v10]) (S' := [.int ((a6 - ((a3 >>> (as0 &&& 31)) &&& (1 : Int32))) + ((2 : Int32) * ((a3 >>> (((1 : Int32) - as0) &&& 31)) &&& (1 : Int32))))]) (M' := (hs t, F, G)) 17 (fun _ => rfl) ?_
  exact wp_RI rfl rfl h
theorem rg222_0 {t : Nat} {F : ip_F} {G : ip_G} {Q : Option Value → ip_M → Prop} {a1 a2 : Int32} (h : wp 150 0 [.ref 193, .int a1] [] (hs t, F, G) (fun v M' => wp 222 5 [.ref 193, .int a1, .int a2, .float 0, .float 0, .float 0] (v.toList ++ []) M' Q)) : wp 222 0 [.ref 193, .int a1, .int a2, .float 0, .float 0, .float 0] [] (hs t, F, G) Q := by
  refine wp_N (j' := 222) (pc' := 2) (L' := [.ref 193, .int a1, .int a2, .float 0, .float 0, .float 0]) (S' := [.int a1, .ref 193]) (M' := (hs t, F, G)) 1 (fun _ => rfl) ?_
  refine wp_C (i := 150) (pc' := 5) (Li := [.ref 193, .int a1]) (rest := []) (fun _ => rfl) h
theorem rg222_5 {t : Nat} {F : ip_F} {G : ip_G} {Q : Option Value → ip_M → Prop} {a1 a2 as0 : Int32} {v3 v4 v5 : Value} (h : (as0 = (0 : Int32) → wp 222 21 [.ref 193, .int a1, .int a2, v3, v4, v5] [] (hs t, F, G) Q) ∧ (¬ as0 = (0 : Int32) → wp 150 0 [.ref 193, .int a2] [] (hs t, F, G) (fun v M' => wp 222 13 [.ref 193, .int a1, .int a2, v3, v4, v5] (v.toList ++ []) M' Q))) : wp 222 5 [.ref 193, .int a1, .int a2, v3, v4, v5] [.int as0] (hs t, F, G) Q := by
  refine wp_ifc (pc1 := 21) (c := .eq) rfl (fun hc => ?_) (fun hc => ?_)
  · replace h := h.1 hc
    exact h
  · replace h := h.2 hc
    refine wp_N (j' := 222) (pc' := 10) (L' := [.ref 193, .int a1, .int a2, v3, v4, v5]) (S' := [.int a2, .ref 193]) (M' := (hs t, F, G)) 1 (fun _ => rfl) ?_
    refine wp_C (i := 150) (pc' := 13) (Li := [.ref 193, .int a2]) (rest := []) (fun _ => rfl) h
theorem rg222_13 {t : Nat} {F : ip_F} {G : ip_G} {Q : Option Value → ip_M → Prop} {a1 a2 as0 : Int32} {v3 v4 v5 : Value} (h : (as0 = (0 : Int32) → wp 222 21 [.ref 193, .int a1, .int a2, v3, v4, v5] [] (hs t, F, G) Q) ∧ (¬ as0 = (0 : Int32) → (¬ a1 = a2 → (vp_in a1 6) ∧ (((F 196 (a1).toNatClampNeg) = (-1 : Int32) → wp 222 46 [.ref 193, .int a1, .int a2, v3, v4, v5] [] (hs t, F, G) Q) ∧ (¬ (F 196 (a1).toNatClampNeg) = (-1 : Int32) → (vp_in a2 6) ∧ ((¬ (F 196 (a2).toNatClampNeg) = (-1 : Int32) → wp 222 56 [.ref 193, .int a1, .int a2, .int (0 : Int32), .int (0 : Int32), v5] [] (hs t, F, G) Q) ∧ ((F 196 (a2).toNatClampNeg) = (-1 : Int32) → wp 222 46 [.ref 193, .int a1, .int a2, v3, v4, v5] [] (hs t, F, G) Q))))) ∧ (a1 = a2 → wp 222 21 [.ref 193, .int a1, .int a2, v3, v4, v5] [] (hs t, F, G) Q))) : wp 222 13 [.ref 193, .int a1, .int a2, v3, v4, v5] [.int as0] (hs t, F, G) Q := by
  refine wp_ifc (pc1 := 21) (c := .eq) rfl (fun hc => ?_) (fun hc => ?_)
  · replace h := h.1 hc
    exact h
  · replace h := h.2 hc
    refine wp_N (j' := 222) (pc' := 18) (L' := [.ref 193, .int a1, .int a2, v3, v4, v5]) (S' := [.int a2, .int a1]) (M' := (hs t, F, G)) 1 (fun _ => rfl) ?_
    refine wp_icmp (pc1 := 26) (c := .ne) rfl (fun hc => ?_) (fun hc => ?_)
    · replace h := h.1 hc
      refine wp_N (j' := 222) (pc' := 31) (L' := [.ref 193, .int a1, .int a2, v3, v4, v5]) (S' := [.int a1, .ref 196]) (M' := (hs t, F, G)) 2 (fun _ => rfl) ?_
      obtain ⟨h1_, h⟩ := h
      refine wp_ial (m := (a1).toNatClampNeg) rfl rfl rfl h1_ ?_
      refine wp_N (j' := 222) (pc' := 33) (L' := [.ref 193, .int a1, .int a2, v3, v4, v5]) (S' := [.int (-1 : Int32), .int (F 196 (a1).toNatClampNeg)]) (M' := (hs t, F, G)) 0 (fun _ => rfl) ?_
      refine wp_icmp (pc1 := 46) (c := .eq) rfl (fun hc => ?_) (fun hc => ?_)
      · replace h := h.1 hc
        exact h
      · replace h := h.2 hc
        refine wp_N (j' := 222) (pc' := 41) (L' := [.ref 193, .int a1, .int a2, v3, v4, v5]) (S' := [.int a2, .ref 196]) (M' := (hs t, F, G)) 2 (fun _ => rfl) ?_
        obtain ⟨h2_, h⟩ := h
        refine wp_ial (m := (a2).toNatClampNeg) rfl rfl rfl h2_ ?_
        refine wp_N (j' := 222) (pc' := 43) (L' := [.ref 193, .int a1, .int a2, v3, v4, v5]) (S' := [.int (-1 : Int32), .int (F 196 (a2).toNatClampNeg)]) (M' := (hs t, F, G)) 0 (fun _ => rfl) ?_
        refine wp_icmp (pc1 := 51) (c := .ne) rfl (fun hc => ?_) (fun hc => ?_)
        · replace h := h.1 hc
          refine wp_N (j' := 222) (pc' := 56) (L' := [.ref 193, .int a1, .int a2, .int (0 : Int32), .int (0 : Int32), v5]) (S' := []) (M' := (hs t, F, G)) 3 (fun _ => rfl) ?_
          exact h
        · replace h := h.2 (Decidable.not_not.mp hc)
          exact h
    · replace h := h.2 (Decidable.not_not.mp hc)
      exact h
theorem rg222_21 {t : Nat} {F : ip_F} {G : ip_G} {Q : Option Value → ip_M → Prop} {a1 a2 : Int32} {v3 v4 v5 : Value} (h : wp 140 0 [.ref 193] [] (hs t, F, G) (fun v M' => wp 222 25 [.ref 193, .int a1, .int a2, v3, v4, v5] (v.toList ++ []) M' Q)) : wp 222 21 [.ref 193, .int a1, .int a2, v3, v4, v5] [] (hs t, F, G) Q := by
  refine wp_N (j' := 222) (pc' := 22) (L' := [.ref 193, .int a1, .int a2, v3, v4, v5]) (S' := [.ref 193]) (M' := (hs t, F, G)) 0 (fun _ => rfl) ?_
  refine wp_C (i := 140) (pc' := 25) (Li := [.ref 193]) (rest := []) (fun _ => rfl) h
theorem rg222_25 {t : Nat} {F : ip_F} {G : ip_G} {Q : Option Value → ip_M → Prop} {a1 a2 as0 : Int32} {v3 v4 v5 : Value} (h : Q (some (.int as0)) (hs t, F, G)) : wp 222 25 [.ref 193, .int a1, .int a2, v3, v4, v5] [.int as0] (hs t, F, G) Q := by
  exact wp_RI rfl rfl h
theorem rg222_46 {t : Nat} {F : ip_F} {G : ip_G} {Q : Option Value → ip_M → Prop} {a1 a2 : Int32} {v3 v4 v5 : Value} (h : wp 141 0 [.ref 193] [] (hs t, F, G) (fun v M' => wp 222 50 [.ref 193, .int a1, .int a2, v3, v4, v5] (v.toList ++ []) M' Q)) : wp 222 46 [.ref 193, .int a1, .int a2, v3, v4, v5] [] (hs t, F, G) Q := by
  refine wp_N (j' := 222) (pc' := 47) (L' := [.ref 193, .int a1, .int a2, v3, v4, v5]) (S' := [.ref 193]) (M' := (hs t, F, G)) 0 (fun _ => rfl) ?_
  refine wp_C (i := 141) (pc' := 50) (Li := [.ref 193]) (rest := []) (fun _ => rfl) h
theorem rg222_50 {t : Nat} {F : ip_F} {G : ip_G} {Q : Option Value → ip_M → Prop} {a1 a2 as0 : Int32} {v3 v4 v5 : Value} (h : Q (some (.int as0)) (hs t, F, G)) : wp 222 50 [.ref 193, .int a1, .int a2, v3, v4, v5] [.int as0] (hs t, F, G) Q := by
  exact wp_RI rfl rfl h
theorem rg222_56 {t : Nat} {F : ip_F} {G : ip_G} {Q : Option Value → ip_M → Prop} {a1 a2 a3 a4 : Int32} {v5 : Value} (h : ((4 : Int32) ≤ a4 → Q (some (.int a3)) (hs t, F, G)) ∧ (a4 < (4 : Int32) → wp 221 0 [.ref 193, .int a1, .int a2, .int a4, .int a1, .float 0, .float 0, .float 0, .float 0, .float 0, .float 0] [] (hs t, F, G) (fun v M' => wp 222 71 [.ref 193, .int a1, .int a2, .int a3, .int a4, v5] (v.toList ++ []) M' Q))) : wp 222 56 [.ref 193, .int a1, .int a2, .int a3, .int a4, v5] [] (hs t, F, G) Q := by
  refine wp_N (j' := 222) (pc' := 59) (L' := [.ref 193, .int a1, .int a2, .int a3, .int a4, v5]) (S' := [.int (4 : Int32), .int a4]) (M' := (hs t, F, G)) 1 (fun _ => rfl) ?_
  refine wp_icmp (pc1 := 137) (c := .ge) rfl (fun hc => ?_) (fun hc => ?_)
  · replace h := h.1 hc
    refine wp_N (j' := 222) (pc' := 138) (L' := [.ref 193, .int a1, .int a2, .int a3, .int a4, v5]) (S' := [.int a3]) (M' := (hs t, F, G)) 0 (fun _ => rfl) ?_
    exact wp_RI rfl rfl h
  · replace h := h.2 (Int32.not_le.mp hc)
    refine wp_N (j' := 222) (pc' := 68) (L' := [.ref 193, .int a1, .int a2, .int a3, .int a4, v5]) (S' := [.int a1, .int a4, .int a2, .int a1, .ref 193]) (M' := (hs t, F, G)) 4 (fun _ => rfl) ?_
    refine wp_C (i := 221) (pc' := 71) (Li := [.ref 193, .int a1, .int a2, .int a4, .int a1, .float 0, .float 0, .float 0, .float 0, .float 0, .float 0]) (rest := []) (fun _ => rfl) h
theorem rg222_71 {t : Nat} {F : ip_F} {G : ip_G} {Q : Option Value → ip_M → Prop} {a1 a2 a3 a4 as0 : Int32} {v5 : Value} (h : wp 221 0 [.ref 193, .int a1, .int a2, .int (a4 ^^^ (1 : Int32)), .int a1, .float 0, .float 0, .float 0, .float 0, .float 0, .float 0] [] (hs t, F, G) (fun v M' => wp 222 82 [.ref 193, .int a1, .int a2, .int a3, .int a4, v5] (v.toList ++ [.int as0]) M' Q)) : wp 222 71 [.ref 193, .int a1, .int a2, .int a3, .int a4, v5] [.int as0] (hs t, F, G) Q := by
  refine wp_N (j' := 222) (pc' := 79) (L' := [.ref 193, .int a1, .int a2, .int a3, .int a4, v5]) (S' := [.int a1, .int (a4 ^^^ (1 : Int32)), .int a2, .int a1, .ref 193, .int as0]) (M' := (hs t, F, G)) 6 (fun _ => rfl) ?_
  refine wp_C (i := 221) (pc' := 82) (Li := [.ref 193, .int a1, .int a2, .int (a4 ^^^ (1 : Int32)), .int a1, .float 0, .float 0, .float 0, .float 0, .float 0, .float 0]) (rest := [.int as0]) (fun _ => rfl) h
theorem rg222_82 {t : Nat} {F : ip_F} {G : ip_G} {Q : Option Value → ip_M → Prop} {a1 a2 a3 a4 as0 as1 : Int32} {v5 : Value} (h : (as0 < as1 → wp 222 113 [.ref 193, .int a1, .int a2, .int a3, .int a4, v5] [.int (0 : Int32)] (hs t, F, G) Q) ∧ (as1 ≤ as0 → wp 221 0 [.ref 193, .int a1, .int a2, .int a4, .int a2, .float 0, .float 0, .float 0, .float 0, .float 0, .float 0] [] (hs t, F, G) (fun v M' => wp 222 94 [.ref 193, .int a1, .int a2, .int a3, .int a4, v5] (v.toList ++ []) M' Q))) : wp 222 82 [.ref 193, .int a1, .int a2, .int a3, .int a4, v5] [.int as1, .int as0] (hs t, F, G) Q := by
  refine wp_icmp (pc1 := 112) (c := .lt) rfl (fun hc => ?_) (fun hc => ?_)
  · replace h := h.1 hc
    refine wp_N (j' := 222) (pc' := 113) (L' := [.ref 193, .int a1, .int a2, .int a3, .int a4, v5]) (S' := [.int (0 : Int32)]) (M' := (hs t, F, G)) 0 (fun _ => rfl) ?_
    exact h
  · replace h := h.2 (Int32.not_lt.mp hc)
    refine wp_N (j' := 222) (pc' := 91) (L' := [.ref 193, .int a1, .int a2, .int a3, .int a4, v5]) (S' := [.int a2, .int a4, .int a2, .int a1, .ref 193]) (M' := (hs t, F, G)) 4 (fun _ => rfl) ?_
    refine wp_C (i := 221) (pc' := 94) (Li := [.ref 193, .int a1, .int a2, .int a4, .int a2, .float 0, .float 0, .float 0, .float 0, .float 0, .float 0]) (rest := []) (fun _ => rfl) h
theorem rg222_94 {t : Nat} {F : ip_F} {G : ip_G} {Q : Option Value → ip_M → Prop} {a1 a2 a3 a4 as0 : Int32} {v5 : Value} (h : wp 221 0 [.ref 193, .int a1, .int a2, .int (a4 ^^^ (2 : Int32)), .int a2, .float 0, .float 0, .float 0, .float 0, .float 0, .float 0] [] (hs t, F, G) (fun v M' => wp 222 105 [.ref 193, .int a1, .int a2, .int a3, .int a4, v5] (v.toList ++ [.int as0]) M' Q)) : wp 222 94 [.ref 193, .int a1, .int a2, .int a3, .int a4, v5] [.int as0] (hs t, F, G) Q := by
  refine wp_N (j' := 222) (pc' := 102) (L' := [.ref 193, .int a1, .int a2, .int a3, .int a4, v5]) (S' := [.int a2, .int (a4 ^^^ (2 : Int32)), .int a2, .int a1, .ref 193, .int as0]) (M' := (hs t, F, G)) 6 (fun _ => rfl) ?_
  refine wp_C (i := 221) (pc' := 105) (Li := [.ref 193, .int a1, .int a2, .int (a4 ^^^ (2 : Int32)), .int a2, .float 0, .float 0, .float 0, .float 0, .float 0, .float 0]) (rest := [.int as0]) (fun _ => rfl) h
theorem rg222_105 {t : Nat} {F : ip_F} {G : ip_G} {Q : Option Value → ip_M → Prop} {a1 a2 a3 a4 as0 as1 : Int32} {v5 : Value} (h : (as0 < as1 → wp 222 113 [.ref 193, .int a1, .int a2, .int a3, .int a4, v5] [.int (0 : Int32)] (hs t, F, G) Q) ∧ (as1 ≤ as0 → wp 222 113 [.ref 193, .int a1, .int a2, .int a3, .int a4, v5] [.int (1 : Int32)] (hs t, F, G) Q)) : wp 222 105 [.ref 193, .int a1, .int a2, .int a3, .int a4, v5] [.int as1, .int as0] (hs t, F, G) Q := by
  refine wp_icmp (pc1 := 112) (c := .lt) rfl (fun hc => ?_) (fun hc => ?_)
  · replace h := h.1 hc
    refine wp_N (j' := 222) (pc' := 113) (L' := [.ref 193, .int a1, .int a2, .int a3, .int a4, v5]) (S' := [.int (0 : Int32)]) (M' := (hs t, F, G)) 0 (fun _ => rfl) ?_
    exact h
  · replace h := h.2 (Int32.not_lt.mp hc)
    refine wp_N (j' := 222) (pc' := 113) (L' := [.ref 193, .int a1, .int a2, .int a3, .int a4, v5]) (S' := [.int (1 : Int32)]) (M' := (hs t, F, G)) 1 (fun _ => rfl) ?_
    exact h
theorem rg222_113 {t : Nat} {F : ip_F} {G : ip_G} {Q : Option Value → ip_M → Prop} {a1 a2 a3 a4 as0 : Int32} {v5 : Value} (h : (as0 = (0 : Int32) → wp 222 129 [.ref 193, .int a1, .int a2, .int a3, .int a4, .int as0] [.int (0 : Int32), .int a3] (hs t, F, G) Q) ∧ (¬ as0 = (0 : Int32) → wp 222 129 [.ref 193, .int a1, .int a2, .int a3, .int a4, .int as0] [.int ((1 : Int32) <<< (a4 &&& 31)), .int a3] (hs t, F, G) Q)) : wp 222 113 [.ref 193, .int a1, .int a2, .int a3, .int a4, v5] [.int as0] (hs t, F, G) Q := by
  refine wp_N (j' := 222) (pc' := 118) (L' := [.ref 193, .int a1, .int a2, .int a3, .int a4, .int as0]) (S' := [.int as0, .int a3]) (M' := (hs t, F, G)) 2 (fun _ => rfl) ?_
  refine wp_ifc (pc1 := 128) (c := .eq) rfl (fun hc => ?_) (fun hc => ?_)
  · replace h := h.1 hc
    refine wp_N (j' := 222) (pc' := 129) (L' := [.ref 193, .int a1, .int a2, .int a3, .int a4, .int as0]) (S' := [.int (0 : Int32), .int a3]) (M' := (hs t, F, G)) 0 (fun _ => rfl) ?_
    exact h
  · replace h := h.2 hc
    refine wp_N (j' := 222) (pc' := 129) (L' := [.ref 193, .int a1, .int a2, .int a3, .int a4, .int as0]) (S' := [.int ((1 : Int32) <<< (a4 &&& 31)), .int a3]) (M' := (hs t, F, G)) 3 (fun _ => rfl) ?_
    exact h
theorem rg222_129 {t : Nat} {F : ip_F} {G : ip_G} {Q : Option Value → ip_M → Prop} {a1 a2 a3 a4 a5 as0 as1 : Int32} (h : wp 222 56 [.ref 193, .int a1, .int a2, .int (as0 ||| as1), .int (a4 + (1 : Int32)), .int a5] [] (hs t, F, G) Q) : wp 222 129 [.ref 193, .int a1, .int a2, .int a3, .int a4, .int a5] [.int as1, .int as0] (hs t, F, G) Q := by
  refine wp_N (j' := 222) (pc' := 56) (L' := [.ref 193, .int a1, .int a2, .int (as0 ||| as1), .int (a4 + (1 : Int32)), .int a5]) (S' := []) (M' := (hs t, F, G)) 3 (fun _ => rfl) ?_
  exact h
theorem rg223_0 {t : Nat} {F : ip_F} {G : ip_G} {Q : Option Value → ip_M → Prop} {b1 b3 : Int64} (h : wp 223 6 [.ref 193, .long b1, .float 0, .long b3, .float 0, .long b1, .float 0, .long b3, .float 0, .float 0, .float 0] [] (hs t, F, G) Q) : wp 223 0 [.ref 193, .long b1, .float 0, .long b3, .float 0, .float 0, .float 0, .float 0, .float 0, .float 0, .float 0] [] (hs t, F, G) Q := by
  refine wp_N (j' := 223) (pc' := 6) (L' := [.ref 193, .long b1, .float 0, .long b3, .float 0, .long b1, .float 0, .long b3, .float 0, .float 0, .float 0]) (S' := []) (M' := (hs t, F, G)) 3 (fun _ => rfl) ?_
  exact h
theorem rg223_6 {t : Nat} {F : ip_F} {G : ip_G} {Q : Option Value → ip_M → Prop} {b1 b3 b5 b7 : Int64} {v2 v4 v6 v8 v9 v10 : Value} (h : ((lg_cmp b7 (0 : Int64)) = (0 : Int32) → (¬ b5 = 0) ∧ ((¬ b5 = 0) ∧ (Q none (hs t, F, (ip_ul (ip_ul G 193 26 (b1 / b5)) 193 27 (b3 / b5)))))) ∧ (¬ (lg_cmp b7 (0 : Int64)) = (0 : Int32) → (¬ b7 = 0) ∧ (wp 223 6 [.ref 193, .long b1, v2, .long b3, (ip_unl v4), .long b7, .float 0, .long (b5 - b5 / b7 * b7), .float 0, .long (b5 - b5 / b7 * b7), .float 0] [] (hs t, F, G) Q))) : wp 223 6 [.ref 193, .long b1, v2, .long b3, v4, .long b5, v6, .long b7, v8, v9, v10] [] (hs t, F, G) Q := by
  refine wp_N (j' := 223) (pc' := 10) (L' := [.ref 193, .long b1, v2, .long b3, v4, .long b5, v6, .long b7, v8, v9, v10]) (S' := [.int (lg_cmp b7 (0 : Int64))]) (M' := (hs t, F, G)) 2 (fun _ => rfl) ?_
  refine wp_ifc (pc1 := 31) (c := .eq) rfl (fun hc => ?_) (fun hc => ?_)
  · replace h := h.1 hc
    refine wp_N (j' := 223) (pc' := 35) (L' := [.ref 193, .long b1, v2, .long b3, v4, .long b5, v6, .long b7, v8, v9, v10]) (S' := [.long b5, .long b1, .ref 193]) (M' := (hs t, F, G)) 2 (fun _ => rfl) ?_
    obtain ⟨h1_, h⟩ := h
    refine wp_ldiv rfl h1_ ?_
    refine wp_putL rfl rfl rfl rfl rfl rfl (by decide) ?_
    refine wp_N (j' := 223) (pc' := 43) (L' := [.ref 193, .long b1, v2, .long b3, v4, .long b5, v6, .long b7, v8, v9, v10]) (S' := [.long b5, .long b3, .ref 193]) (M' := (hs t, F, (ip_ul G 193 26 (b1 / b5)))) 2 (fun _ => rfl) ?_
    obtain ⟨h2_, h⟩ := h
    refine wp_ldiv rfl h2_ ?_
    refine wp_putL rfl rfl rfl rfl rfl rfl (by decide) ?_
    exact wp_RV rfl rfl h
  · replace h := h.2 hc
    refine wp_N (j' := 223) (pc' := 17) (L' := [.ref 193, .long b1, v2, .long b3, v4, .long b5, v6, .long b7, v8, v9, v10]) (S' := [.long b7, .long b5]) (M' := (hs t, F, G)) 1 (fun _ => rfl) ?_
    obtain ⟨h3_, h⟩ := h
    refine wp_lrem rfl h3_ ?_
    refine wp_N (j' := 223) (pc' := 6) (L' := [.ref 193, .long b1, v2, .long b3, (ip_unl v4), .long b7, .float 0, .long (b5 - b5 / b7 * b7), .float 0, .long (b5 - b5 / b7 * b7), .float 0]) (S' := []) (M' := (hs t, F, G)) 5 (fun _ => rfl) ?_
    exact h
theorem rg224_0 {t : Nat} {F : ip_F} {G : ip_G} {Q : Option Value → ip_M → Prop} {a1 : Int32} (h : wp 143 0 [.int a1, .int (0 : Int32), .int (10 : Int32)] [] (hs t, F, G) (fun v M' => wp 224 7 [.ref 193, .int a1, .float 0, .float 0, .float 0, .float 0, .float 0, .float 0, .float 0, .float 0, .float 0] (v.toList ++ []) M' Q)) : wp 224 0 [.ref 193, .int a1, .float 0, .float 0, .float 0, .float 0, .float 0, .float 0, .float 0, .float 0, .float 0] [] (hs t, F, G) Q := by
  refine wp_N (j' := 224) (pc' := 4) (L' := [.ref 193, .int a1, .float 0, .float 0, .float 0, .float 0, .float 0, .float 0, .float 0, .float 0, .float 0]) (S' := [.int (10 : Int32), .int (0 : Int32), .int a1]) (M' := (hs t, F, G)) 2 (fun _ => rfl) ?_
  refine wp_C (i := 143) (pc' := 7) (Li := [.int a1, .int (0 : Int32), .int (10 : Int32)]) (rest := []) (fun _ => rfl) h
theorem rg224_7 {t : Nat} {F : ip_F} {G : ip_G} {Q : Option Value → ip_M → Prop} {a1 as0 : Int32} {v2 v3 v4 v5 v6 v7 v8 v9 v10 : Value} (h : (¬ as0 = (0 : Int32) → wp 175 0 [.ref 193, .float 0, .float 0] [] (hs t, F, G) (fun v M' => wp 224 19 [.ref 193, .int a1, v2, v3, v4, v5, v6, v7, v8, v9, v10] (v.toList ++ []) M' Q)) ∧ (as0 = (0 : Int32) → wp 140 0 [.ref 193] [] (hs t, F, G) (fun v M' => wp 224 14 [.ref 193, .int a1, v2, v3, v4, v5, v6, v7, v8, v9, v10] (v.toList ++ []) M' Q))) : wp 224 7 [.ref 193, .int a1, v2, v3, v4, v5, v6, v7, v8, v9, v10] [.int as0] (hs t, F, G) Q := by
  refine wp_ifc (pc1 := 15) (c := .ne) rfl (fun hc => ?_) (fun hc => ?_)
  · replace h := h.1 hc
    refine wp_N (j' := 224) (pc' := 16) (L' := [.ref 193, .int a1, v2, v3, v4, v5, v6, v7, v8, v9, v10]) (S' := [.ref 193]) (M' := (hs t, F, G)) 0 (fun _ => rfl) ?_
    refine wp_C (i := 175) (pc' := 19) (Li := [.ref 193, .float 0, .float 0]) (rest := []) (fun _ => rfl) h
  · replace h := h.2 (Decidable.not_not.mp hc)
    refine wp_N (j' := 224) (pc' := 11) (L' := [.ref 193, .int a1, v2, v3, v4, v5, v6, v7, v8, v9, v10]) (S' := [.ref 193]) (M' := (hs t, F, G)) 0 (fun _ => rfl) ?_
    refine wp_C (i := 140) (pc' := 14) (Li := [.ref 193]) (rest := []) (fun _ => rfl) h
theorem rg224_14 {t : Nat} {F : ip_F} {G : ip_G} {Q : Option Value → ip_M → Prop} {a1 as0 : Int32} {v2 v3 v4 v5 v6 v7 v8 v9 v10 : Value} (h : Q (some (.int as0)) (hs t, F, G)) : wp 224 14 [.ref 193, .int a1, v2, v3, v4, v5, v6, v7, v8, v9, v10] [.int as0] (hs t, F, G) Q := by
  exact wp_RI rfl rfl h
theorem rg224_19 {t : Nat} {F : ip_F} {G : ip_G} {Q : Option Value → ip_M → Prop} {a1 as0 : Int32} {v2 v3 v4 v5 v6 v7 v8 v9 v10 : Value} (h : wp 224 28 [.ref 193, .int a1, .int as0, .long (0 : Int64), .float 0, .long (1 : Int64), .float 0, .int (0 : Int32), v8, v9, v10] [] (hs t, F, G) Q) : wp 224 19 [.ref 193, .int a1, v2, v3, v4, v5, v6, v7, v8, v9, v10] [.int as0] (hs t, F, G) Q := by
  refine wp_N (j' := 224) (pc' := 28) (L' := [.ref 193, .int a1, .int as0, .long (0 : Int64), .float 0, .long (1 : Int64), .float 0, .int (0 : Int32), v8, v9, v10]) (S' := []) (M' := (hs t, F, G)) 6 (fun _ => rfl) ?_
  exact h
theorem rg224_28 {t : Nat} {F : ip_F} {G : ip_G} {Q : Option Value → ip_M → Prop} {a1 a2 a7 : Int32} {b3 b5 : Int64} {v4 v6 v8 v9 v10 : Value} (h : ((F 193 1) ≤ a7 → wp 224 67 [.ref 193, .int a1, .int a2, .long b3, v4, .long b5, (ip_unl v6), .int (0 : Int32), v8, v9, v10] [] (hs t, F, G) Q) ∧ (a7 < (F 193 1) → wp 144 0 [.int a2, .int a7] [] (hs t, F, G) (fun v M' => wp 224 45 [.ref 193, .int a1, .int a2, .long b3, v4, .long b5, v6, .int a7, v8, v9, v10] (v.toList ++ [.long b5]) M' Q))) : wp 224 28 [.ref 193, .int a1, .int a2, .long b3, v4, .long b5, v6, .int a7, v8, v9, v10] [] (hs t, F, G) Q := by
  refine wp_N (j' := 224) (pc' := 34) (L' := [.ref 193, .int a1, .int a2, .long b3, v4, .long b5, v6, .int a7, v8, v9, v10]) (S' := [.int (F 193 1), .int a7]) (M' := (hs t, F, G)) 2 (fun _ => rfl) ?_
  refine wp_icmp (pc1 := 64) (c := .ge) rfl (fun hc => ?_) (fun hc => ?_)
  · replace h := h.1 hc
    refine wp_N (j' := 224) (pc' := 67) (L' := [.ref 193, .int a1, .int a2, .long b3, v4, .long b5, (ip_unl v6), .int (0 : Int32), v8, v9, v10]) (S' := []) (M' := (hs t, F, G)) 1 (fun _ => rfl) ?_
    exact h
  · replace h := h.2 (Int32.not_le.mp hc)
    refine wp_N (j' := 224) (pc' := 42) (L' := [.ref 193, .int a1, .int a2, .long b3, v4, .long b5, v6, .int a7, v8, v9, v10]) (S' := [.int a7, .int a2, .long b5]) (M' := (hs t, F, G)) 2 (fun _ => rfl) ?_
    refine wp_C (i := 144) (pc' := 45) (Li := [.int a2, .int a7]) (rest := [.long b5]) (fun _ => rfl) h
theorem rg224_45 {t : Nat} {F : ip_F} {G : ip_G} {Q : Option Value → ip_M → Prop} {a1 a2 a7 as1 : Int32} {b3 b5 bs0 : Int64} {v4 v6 v8 v9 v10 : Value} (h : (as1 = (0 : Int32) → wp 224 55 [.ref 193, .int a1, .int a2, .long b3, v4, .long b5, v6, .int a7, v8, v9, v10] [.long (1 : Int64), .long bs0] (hs t, F, G) Q) ∧ (¬ as1 = (0 : Int32) → wp 224 55 [.ref 193, .int a1, .int a2, .long b3, v4, .long b5, v6, .int a7, v8, v9, v10] [.long (10 : Int64), .long bs0] (hs t, F, G) Q)) : wp 224 45 [.ref 193, .int a1, .int a2, .long b3, v4, .long b5, v6, .int a7, v8, v9, v10] [.int as1, .long bs0] (hs t, F, G) Q := by
  refine wp_ifc (pc1 := 54) (c := .eq) rfl (fun hc => ?_) (fun hc => ?_)
  · replace h := h.1 hc
    refine wp_N (j' := 224) (pc' := 55) (L' := [.ref 193, .int a1, .int a2, .long b3, v4, .long b5, v6, .int a7, v8, v9, v10]) (S' := [.long (1 : Int64), .long bs0]) (M' := (hs t, F, G)) 0 (fun _ => rfl) ?_
    exact h
  · replace h := h.2 hc
    refine wp_ldc2 (v := (10 : Int64)) rfl rfl rfl ?_
    refine wp_N (j' := 224) (pc' := 55) (L' := [.ref 193, .int a1, .int a2, .long b3, v4, .long b5, v6, .int a7, v8, v9, v10]) (S' := [.long (10 : Int64), .long bs0]) (M' := (hs t, F, G)) 0 (fun _ => rfl) ?_
    exact h
theorem rg224_55 {t : Nat} {F : ip_F} {G : ip_G} {Q : Option Value → ip_M → Prop} {a1 a2 a7 : Int32} {b3 b5 bs0 bs1 : Int64} {v4 v6 v8 v9 v10 : Value} (h : wp 224 28 [.ref 193, .int a1, .int a2, .long b3, (ip_unl v4), .long (bs0 * bs1), .float 0, .int (a7 + (1 : Int32)), v8, v9, v10] [] (hs t, F, G) Q) : wp 224 55 [.ref 193, .int a1, .int a2, .long b3, v4, .long b5, v6, .int a7, v8, v9, v10] [.long bs1, .long bs0] (hs t, F, G) Q := by
  refine wp_lmul rfl ?_
  refine wp_N (j' := 224) (pc' := 28) (L' := [.ref 193, .int a1, .int a2, .long b3, (ip_unl v4), .long (bs0 * bs1), .float 0, .int (a7 + (1 : Int32)), v8, v9, v10]) (S' := []) (M' := (hs t, F, G)) 2 (fun _ => rfl) ?_
  exact h
theorem rg224_67 {t : Nat} {F : ip_F} {G : ip_G} {Q : Option Value → ip_M → Prop} {a1 a2 a7 : Int32} {b3 b5 : Int64} {v4 v6 v8 v9 v10 : Value} (h : (a2 < a7 → wp 223 0 [.ref 193, .long b3, .float 0, .long b5, .float 0, .float 0, .float 0, .float 0, .float 0, .float 0, .float 0] [] (hs t, F, G) (fun v M' => wp 224 168 [.ref 193, .int a1, .int a2, .long b3, v4, .long b5, v6, .int a7, v8, v9, v10] (v.toList ++ []) M' Q)) ∧ (a7 ≤ a2 → (¬ (a7 &&& (a2 ^^^ (-1 : Int32))) = (0 : Int32) → wp 224 155 [.ref 193, .int a1, .int a2, .long b3, v4, .long b5, v6, .int a7, v8, v9, v10] [] (hs t, F, G) Q) ∧ ((a7 &&& (a2 ^^^ (-1 : Int32))) = (0 : Int32) → wp 185 0 [.ref 193, .int a7, .float 0, .float 0] [] (hs t, F, G) (fun v M' => wp 224 88 [.ref 193, .int a1, .int a2, .long b3, v4, .long b5, v6, .int a7, v8, v9, v10] (v.toList ++ []) M' Q)))) : wp 224 67 [.ref 193, .int a1, .int a2, .long b3, v4, .long b5, v6, .int a7, v8, v9, v10] [] (hs t, F, G) Q := by
  refine wp_N (j' := 224) (pc' := 70) (L' := [.ref 193, .int a1, .int a2, .long b3, v4, .long b5, v6, .int a7, v8, v9, v10]) (S' := [.int a2, .int a7]) (M' := (hs t, F, G)) 1 (fun _ => rfl) ?_
  refine wp_icmp (pc1 := 161) (c := .gt) rfl (fun hc => ?_) (fun hc => ?_)
  · replace h := h.1 hc
    refine wp_N (j' := 224) (pc' := 165) (L' := [.ref 193, .int a1, .int a2, .long b3, v4, .long b5, v6, .int a7, v8, v9, v10]) (S' := [.long b5, .long b3, .ref 193]) (M' := (hs t, F, G)) 2 (fun _ => rfl) ?_
    refine wp_C (i := 223) (pc' := 168) (Li := [.ref 193, .long b3, .float 0, .long b5, .float 0, .float 0, .float 0, .float 0, .float 0, .float 0, .float 0]) (rest := []) (fun _ => rfl) h
  · replace h := h.2 (Int32.not_lt.mp hc)
    refine wp_N (j' := 224) (pc' := 79) (L' := [.ref 193, .int a1, .int a2, .long b3, v4, .long b5, v6, .int a7, v8, v9, v10]) (S' := [.int (a7 &&& (a2 ^^^ (-1 : Int32)))]) (M' := (hs t, F, G)) 4 (fun _ => rfl) ?_
    refine wp_ifc (pc1 := 155) (c := .ne) rfl (fun hc => ?_) (fun hc => ?_)
    · replace h := h.1 hc
      exact h
    · replace h := h.2 (Decidable.not_not.mp hc)
      refine wp_N (j' := 224) (pc' := 85) (L' := [.ref 193, .int a1, .int a2, .long b3, v4, .long b5, v6, .int a7, v8, v9, v10]) (S' := [.int a7, .ref 193]) (M' := (hs t, F, G)) 1 (fun _ => rfl) ?_
      refine wp_C (i := 185) (pc' := 88) (Li := [.ref 193, .int a7, .float 0, .float 0]) (rest := []) (fun _ => rfl) h
theorem rg224_88 {t : Nat} {F : ip_F} {G : ip_G} {Q : Option Value → ip_M → Prop} {a1 a2 a7 as0 : Int32} {b3 b5 : Int64} {v4 v6 v8 v9 v10 : Value} (h : (as0 = (0 : Int32) → wp 224 155 [.ref 193, .int a1, .int a2, .long b3, v4, .long b5, v6, .int a7, v8, v9, v10] [] (hs t, F, G) Q) ∧ (¬ as0 = (0 : Int32) → wp 224 97 [.ref 193, .int a1, .int a2, .long b3, v4, .long b5, v6, .int a7, .long (1 : Int64), .float 0, .int (0 : Int32)] [] (hs t, F, G) Q)) : wp 224 88 [.ref 193, .int a1, .int a2, .long b3, v4, .long b5, v6, .int a7, v8, v9, v10] [.int as0] (hs t, F, G) Q := by
  refine wp_ifc (pc1 := 155) (c := .eq) rfl (fun hc => ?_) (fun hc => ?_)
  · replace h := h.1 hc
    exact h
  · replace h := h.2 hc
    refine wp_N (j' := 224) (pc' := 97) (L' := [.ref 193, .int a1, .int a2, .long b3, v4, .long b5, v6, .int a7, .long (1 : Int64), .float 0, .int (0 : Int32)]) (S' := []) (M' := (hs t, F, G)) 3 (fun _ => rfl) ?_
    exact h
theorem rg224_97 {t : Nat} {F : ip_F} {G : ip_G} {Q : Option Value → ip_M → Prop} {a1 a2 a7 a10 : Int32} {b3 b5 b8 : Int64} {v4 v6 v9 : Value} (h : ((F 193 1) ≤ a10 → wp 224 155 [.ref 193, .int a1, .int a2, .long (b3 + b8), .float 0, .long b5, v6, .int a7, .long b8, v9, .int a10] [] (hs t, F, G) Q) ∧ (a10 < (F 193 1) → wp 144 0 [.int a2, .int a10] [] (hs t, F, G) (fun v M' => wp 224 114 [.ref 193, .int a1, .int a2, .long b3, v4, .long b5, v6, .int a7, .long b8, v9, .int a10] (v.toList ++ [.long b8]) M' Q))) : wp 224 97 [.ref 193, .int a1, .int a2, .long b3, v4, .long b5, v6, .int a7, .long b8, v9, .int a10] [] (hs t, F, G) Q := by
  refine wp_N (j' := 224) (pc' := 103) (L' := [.ref 193, .int a1, .int a2, .long b3, v4, .long b5, v6, .int a7, .long b8, v9, .int a10]) (S' := [.int (F 193 1), .int a10]) (M' := (hs t, F, G)) 2 (fun _ => rfl) ?_
  refine wp_icmp (pc1 := 150) (c := .ge) rfl (fun hc => ?_) (fun hc => ?_)
  · replace h := h.1 hc
    refine wp_N (j' := 224) (pc' := 153) (L' := [.ref 193, .int a1, .int a2, .long b3, v4, .long b5, v6, .int a7, .long b8, v9, .int a10]) (S' := [.long b8, .long b3]) (M' := (hs t, F, G)) 1 (fun _ => rfl) ?_
    refine wp_ladd rfl ?_
    refine wp_N (j' := 224) (pc' := 155) (L' := [.ref 193, .int a1, .int a2, .long (b3 + b8), .float 0, .long b5, v6, .int a7, .long b8, v9, .int a10]) (S' := []) (M' := (hs t, F, G)) 0 (fun _ => rfl) ?_
    exact h
  · replace h := h.2 (Int32.not_le.mp hc)
    refine wp_N (j' := 224) (pc' := 111) (L' := [.ref 193, .int a1, .int a2, .long b3, v4, .long b5, v6, .int a7, .long b8, v9, .int a10]) (S' := [.int a10, .int a2, .long b8]) (M' := (hs t, F, G)) 2 (fun _ => rfl) ?_
    refine wp_C (i := 144) (pc' := 114) (Li := [.int a2, .int a10]) (rest := [.long b8]) (fun _ => rfl) h
theorem rg224_114 {t : Nat} {F : ip_F} {G : ip_G} {Q : Option Value → ip_M → Prop} {a1 a2 a7 a10 as1 : Int32} {b3 b5 b8 bs0 : Int64} {v4 v6 v9 : Value} (h : (¬ as1 = (0 : Int32) → wp 144 0 [.int a7, .int a10] [] (hs t, F, G) (fun v M' => wp 224 128 [.ref 193, .int a1, .int a2, .long b3, v4, .long b5, v6, .int a7, .long b8, v9, .int a10] (v.toList ++ [.long bs0]) M' Q)) ∧ (as1 = (0 : Int32) → wp 224 141 [.ref 193, .int a1, .int a2, .long b3, v4, .long b5, v6, .int a7, .long b8, v9, .int a10] [.long (1 : Int64), .long bs0] (hs t, F, G) Q)) : wp 224 114 [.ref 193, .int a1, .int a2, .long b3, v4, .long b5, v6, .int a7, .long b8, v9, .int a10] [.int as1, .long bs0] (hs t, F, G) Q := by
  refine wp_ifc (pc1 := 121) (c := .ne) rfl (fun hc => ?_) (fun hc => ?_)
  · replace h := h.1 hc
    refine wp_N (j' := 224) (pc' := 125) (L' := [.ref 193, .int a1, .int a2, .long b3, v4, .long b5, v6, .int a7, .long b8, v9, .int a10]) (S' := [.int a10, .int a7, .long bs0]) (M' := (hs t, F, G)) 1 (fun _ => rfl) ?_
    refine wp_C (i := 144) (pc' := 128) (Li := [.int a7, .int a10]) (rest := [.long bs0]) (fun _ => rfl) h
  · replace h := h.2 (Decidable.not_not.mp hc)
    refine wp_N (j' := 224) (pc' := 141) (L' := [.ref 193, .int a1, .int a2, .long b3, v4, .long b5, v6, .int a7, .long b8, v9, .int a10]) (S' := [.long (1 : Int64), .long bs0]) (M' := (hs t, F, G)) 1 (fun _ => rfl) ?_
    exact h
theorem rg224_128 {t : Nat} {F : ip_F} {G : ip_G} {Q : Option Value → ip_M → Prop} {a1 a2 a7 a10 as1 : Int32} {b3 b5 b8 bs0 : Int64} {v4 v6 v9 : Value} (h : (as1 = (0 : Int32) → wp 224 141 [.ref 193, .int a1, .int a2, .long b3, v4, .long b5, v6, .int a7, .long b8, v9, .int a10] [.long a1.toInt64, .long bs0] (hs t, F, G) Q) ∧ (¬ as1 = (0 : Int32) → wp 224 141 [.ref 193, .int a1, .int a2, .long b3, v4, .long b5, v6, .int a7, .long b8, v9, .int a10] [.long ((10 : Int32) - a1).toInt64, .long bs0] (hs t, F, G) Q)) : wp 224 128 [.ref 193, .int a1, .int a2, .long b3, v4, .long b5, v6, .int a7, .long b8, v9, .int a10] [.int as1, .long bs0] (hs t, F, G) Q := by
  refine wp_ifc (pc1 := 139) (c := .eq) rfl (fun hc => ?_) (fun hc => ?_)
  · replace h := h.1 hc
    refine wp_N (j' := 224) (pc' := 141) (L' := [.ref 193, .int a1, .int a2, .long b3, v4, .long b5, v6, .int a7, .long b8, v9, .int a10]) (S' := [.long a1.toInt64, .long bs0]) (M' := (hs t, F, G)) 1 (fun _ => rfl) ?_
    exact h
  · replace h := h.2 hc
    refine wp_N (j' := 224) (pc' := 141) (L' := [.ref 193, .int a1, .int a2, .long b3, v4, .long b5, v6, .int a7, .long b8, v9, .int a10]) (S' := [.long ((10 : Int32) - a1).toInt64, .long bs0]) (M' := (hs t, F, G)) 4 (fun _ => rfl) ?_
    exact h
theorem rg224_141 {t : Nat} {F : ip_F} {G : ip_G} {Q : Option Value → ip_M → Prop} {a1 a2 a7 a10 : Int32} {b3 b5 b8 bs0 bs1 : Int64} {v4 v6 v9 : Value} (h : wp 224 97 [.ref 193, .int a1, .int a2, .long b3, v4, .long b5, v6, .int a7, .long (bs0 * bs1), .float 0, .int (a10 + (1 : Int32))] [] (hs t, F, G) Q) : wp 224 141 [.ref 193, .int a1, .int a2, .long b3, v4, .long b5, v6, .int a7, .long b8, v9, .int a10] [.long bs1, .long bs0] (hs t, F, G) Q := by
  refine wp_lmul rfl ?_
  refine wp_N (j' := 224) (pc' := 97) (L' := [.ref 193, .int a1, .int a2, .long b3, v4, .long b5, v6, .int a7, .long (bs0 * bs1), .float 0, .int (a10 + (1 : Int32))]) (S' := []) (M' := (hs t, F, G)) 2 (fun _ => rfl) ?_
  exact h
theorem rg224_155 {t : Nat} {F : ip_F} {G : ip_G} {Q : Option Value → ip_M → Prop} {a1 a2 a7 : Int32} {b3 b5 : Int64} {v4 v6 v8 v9 v10 : Value} (h : wp 224 67 [.ref 193, .int a1, .int a2, .long b3, v4, .long b5, (ip_unl v6), .int (a7 + (1 : Int32)), v8, v9, v10] [] (hs t, F, G) Q) : wp 224 155 [.ref 193, .int a1, .int a2, .long b3, v4, .long b5, v6, .int a7, v8, v9, v10] [] (hs t, F, G) Q := by
  refine wp_N (j' := 224) (pc' := 67) (L' := [.ref 193, .int a1, .int a2, .long b3, v4, .long b5, (ip_unl v6), .int (a7 + (1 : Int32)), v8, v9, v10]) (S' := []) (M' := (hs t, F, G)) 1 (fun _ => rfl) ?_
  exact h
theorem rg224_168 {t : Nat} {F : ip_F} {G : ip_G} {Q : Option Value → ip_M → Prop} {a1 a2 a7 : Int32} {b3 b5 : Int64} {v4 v6 v8 v9 v10 : Value} (h : Q (some (.int (1 : Int32))) (hs t, F, G)) : wp 224 168 [.ref 193, .int a1, .int a2, .long b3, v4, .long b5, v6, .int a7, v8, v9, v10] [] (hs t, F, G) Q := by
  refine wp_N (j' := 224) (pc' := 169) (L' := [.ref 193, .int a1, .int a2, .long b3, v4, .long b5, v6, .int a7, v8, v9, v10]) (S' := [.int (1 : Int32)]) (M' := (hs t, F, G)) 0 (fun _ => rfl) ?_
  exact wp_RI rfl rfl h
theorem rg225_0 {t : Nat} {F : ip_F} {G : ip_G} {Q : Option Value → ip_M → Prop} {a1 a2 : Int32} (h : wp 143 0 [.int a1, .int (0 : Int32), .int (999999 : Int32)] [] (hs t, F, G) (fun v M' => wp 225 8 [.ref 193, .int a1, .int a2, .float 0, .float 0, .float 0, .float 0, .float 0] (v.toList ++ []) M' Q)) : wp 225 0 [.ref 193, .int a1, .int a2, .float 0, .float 0, .float 0, .float 0, .float 0] [] (hs t, F, G) Q := by
  refine wp_N (j' := 225) (pc' := 5) (L' := [.ref 193, .int a1, .int a2, .float 0, .float 0, .float 0, .float 0, .float 0]) (S' := [.int (999999 : Int32), .int (0 : Int32), .int a1]) (M' := (hs t, F, G)) 2 (fun _ => rfl) ?_
  refine wp_C (i := 143) (pc' := 8) (Li := [.int a1, .int (0 : Int32), .int (999999 : Int32)]) (rest := []) (fun _ => rfl) h
theorem rg225_8 {t : Nat} {F : ip_F} {G : ip_G} {Q : Option Value → ip_M → Prop} {a1 a2 as0 : Int32} {v3 v4 v5 v6 v7 : Value} (h : (as0 = (0 : Int32) → wp 225 21 [.ref 193, .int a1, .int a2, v3, v4, v5, v6, v7] [] (hs t, F, G) Q) ∧ (¬ as0 = (0 : Int32) → wp 143 0 [.int a2, .int (0 : Int32), .int (60 : Int32)] [] (hs t, F, G) (fun v M' => wp 225 18 [.ref 193, .int a1, .int a2, v3, v4, v5, v6, v7] (v.toList ++ []) M' Q))) : wp 225 8 [.ref 193, .int a1, .int a2, v3, v4, v5, v6, v7] [.int as0] (hs t, F, G) Q := by
  refine wp_ifc (pc1 := 21) (c := .eq) rfl (fun hc => ?_) (fun hc => ?_)
  · replace h := h.1 hc
    exact h
  · replace h := h.2 hc
    refine wp_N (j' := 225) (pc' := 15) (L' := [.ref 193, .int a1, .int a2, v3, v4, v5, v6, v7]) (S' := [.int (60 : Int32), .int (0 : Int32), .int a2]) (M' := (hs t, F, G)) 2 (fun _ => rfl) ?_
    refine wp_C (i := 143) (pc' := 18) (Li := [.int a2, .int (0 : Int32), .int (60 : Int32)]) (rest := []) (fun _ => rfl) h
theorem rg225_18 {t : Nat} {F : ip_F} {G : ip_G} {Q : Option Value → ip_M → Prop} {a1 a2 as0 : Int32} {v3 v4 v5 v6 v7 : Value} (h : (¬ as0 = (0 : Int32) → wp 187 0 [.ref 193, .ref 208, .int (0 : Int32), .float 0] [] (hs t, F, G) (fun v M' => wp 225 35 [.ref 193, .int a1, .int a2, v3, v4, v5, v6, v7] (v.toList ++ []) M' Q)) ∧ (as0 = (0 : Int32) → wp 225 21 [.ref 193, .int a1, .int a2, v3, v4, v5, v6, v7] [] (hs t, F, G) Q)) : wp 225 18 [.ref 193, .int a1, .int a2, v3, v4, v5, v6, v7] [.int as0] (hs t, F, G) Q := by
  refine wp_ifc (pc1 := 26) (c := .ne) rfl (fun hc => ?_) (fun hc => ?_)
  · replace h := h.1 hc
    refine wp_N (j' := 225) (pc' := 32) (L' := [.ref 193, .int a1, .int a2, v3, v4, v5, v6, v7]) (S' := [.int (0 : Int32), .ref 208, .ref 193]) (M' := (hs t, F, G)) 3 (fun _ => rfl) ?_
    refine wp_C (i := 187) (pc' := 35) (Li := [.ref 193, .ref 208, .int (0 : Int32), .float 0]) (rest := []) (fun _ => rfl) h
  · replace h := h.2 (Decidable.not_not.mp hc)
    exact h
theorem rg225_21 {t : Nat} {F : ip_F} {G : ip_G} {Q : Option Value → ip_M → Prop} {a1 a2 : Int32} {v3 v4 v5 v6 v7 : Value} (h : wp 140 0 [.ref 193] [] (hs t, F, G) (fun v M' => wp 225 25 [.ref 193, .int a1, .int a2, v3, v4, v5, v6, v7] (v.toList ++ []) M' Q)) : wp 225 21 [.ref 193, .int a1, .int a2, v3, v4, v5, v6, v7] [] (hs t, F, G) Q := by
  refine wp_N (j' := 225) (pc' := 22) (L' := [.ref 193, .int a1, .int a2, v3, v4, v5, v6, v7]) (S' := [.ref 193]) (M' := (hs t, F, G)) 0 (fun _ => rfl) ?_
  refine wp_C (i := 140) (pc' := 25) (Li := [.ref 193]) (rest := []) (fun _ => rfl) h
theorem rg225_25 {t : Nat} {F : ip_F} {G : ip_G} {Q : Option Value → ip_M → Prop} {a1 a2 as0 : Int32} {v3 v4 v5 v6 v7 : Value} (h : Q (some (.int as0)) (hs t, F, G)) : wp 225 25 [.ref 193, .int a1, .int a2, v3, v4, v5, v6, v7] [.int as0] (hs t, F, G) Q := by
  exact wp_RI rfl rfl h
theorem rg225_35 {t : Nat} {F : ip_F} {G : ip_G} {Q : Option Value → ip_M → Prop} {a1 a2 : Int32} {v3 v4 v5 v6 v7 : Value} (h : wp 225 44 [.ref 193, .int a1, .int a2, .long a1.toInt64, .float 0, .int (0 : Int32), .int (0 : Int32), v7] [] (hs t, F, G) Q) : wp 225 35 [.ref 193, .int a1, .int a2, v3, v4, v5, v6, v7] [] (hs t, F, G) Q := by
  refine wp_N (j' := 225) (pc' := 44) (L' := [.ref 193, .int a1, .int a2, .long a1.toInt64, .float 0, .int (0 : Int32), .int (0 : Int32), v7]) (S' := []) (M' := (hs t, F, G)) 6 (fun _ => rfl) ?_
  exact h
theorem rg225_44 {t : Nat} {F : ip_F} {G : ip_G} {Q : Option Value → ip_M → Prop} {a1 a2 a5 a6 : Int32} {b3 : Int64} {v4 v7 : Value} (h : (a2 ≤ a6 → wp 188 0 [.ref 193, .ref 208, .int (0 : Int32), .float 0] [] (hs t, F, G) (fun v M' => wp 225 138 [.ref 193, .int a1, .int a2, .long b3, v4, .int a5, .int a6, v7] (v.toList ++ []) M' Q)) ∧ (a6 < a2 → wp 150 0 [.ref 193, .int (((((b3 * (1103515245 : Int64)) + (12345 : Int64)) - ((b3 * (1103515245 : Int64)) + (12345 : Int64)) / (2147483648 : Int64) * (2147483648 : Int64)) / (65536 : Int64)) - ((((b3 * (1103515245 : Int64)) + (12345 : Int64)) - ((b3 * (1103515245 : Int64)) + (12345 : Int64)) / (2147483648 : Int64) * (2147483648 : Int64)) / (65536 : Int64)) / (6 : Int64) * (6 : Int64)).toInt32] [] (hs t, F, G) (fun v M' => wp 225 82 [.ref 193, .int a1, .int a2, .long (((b3 * (1103515245 : Int64)) + (12345 : Int64)) - ((b3 * (1103515245 : Int64)) + (12345 : Int64)) / (2147483648 : Int64) * (2147483648 : Int64)), .float 0, .int a5, .int a6, .int (((((b3 * (1103515245 : Int64)) + (12345 : Int64)) - ((b3 * (1103515245 : Int64)) + (12345 : Int64)) / (2147483648 : Int64) * (2147483648 : Int64)) / (65536 : Int64)) - ((((b3 * (1103515245 : Int64)) + (12345 : Int64)) - ((b3 * (1103515245 : Int64)) + (12345 : Int64)) / (2147483648 : Int64) * (2147483648 : Int64)) / (65536 : Int64)) / (6 : Int64) * (6 : Int64)).toInt32] (v.toList ++ []) M' Q))) : wp 225 44 [.ref 193, .int a1, .int a2, .long b3, v4, .int a5, .int a6, v7] [] (hs t, F, G) Q := by
  refine wp_N (j' := 225) (pc' := 47) (L' := [.ref 193, .int a1, .int a2, .long b3, v4, .int a5, .int a6, v7]) (S' := [.int a2, .int a6]) (M' := (hs t, F, G)) 1 (fun _ => rfl) ?_
  refine wp_icmp (pc1 := 129) (c := .ge) rfl (fun hc => ?_) (fun hc => ?_)
  · replace h := h.1 hc
    refine wp_N (j' := 225) (pc' := 135) (L' := [.ref 193, .int a1, .int a2, .long b3, v4, .int a5, .int a6, v7]) (S' := [.int (0 : Int32), .ref 208, .ref 193]) (M' := (hs t, F, G)) 3 (fun _ => rfl) ?_
    refine wp_C (i := 188) (pc' := 138) (Li := [.ref 193, .ref 208, .int (0 : Int32), .float 0]) (rest := []) (fun _ => rfl) h
  · replace h := h.2 (Int32.not_le.mp hc)
    refine wp_N (j' := 225) (pc' := 51) (L' := [.ref 193, .int a1, .int a2, .long b3, v4, .int a5, .int a6, v7]) (S' := [.long b3]) (M' := (hs t, F, G)) 0 (fun _ => rfl) ?_
    refine wp_ldc2 (v := (1103515245 : Int64)) rfl rfl rfl ?_
    refine wp_lmul rfl ?_
    refine wp_ldc2 (v := (12345 : Int64)) rfl rfl rfl ?_
    refine wp_ladd rfl ?_
    refine wp_ldc2 (v := (2147483648 : Int64)) rfl rfl rfl ?_
    refine wp_lrem rfl (by decide) ?_
    refine wp_N (j' := 225) (pc' := 65) (L' := [.ref 193, .int a1, .int a2, .long (((b3 * (1103515245 : Int64)) + (12345 : Int64)) - ((b3 * (1103515245 : Int64)) + (12345 : Int64)) / (2147483648 : Int64) * (2147483648 : Int64)), .float 0, .int a5, .int a6, v7]) (S' := [.long (((b3 * (1103515245 : Int64)) + (12345 : Int64)) - ((b3 * (1103515245 : Int64)) + (12345 : Int64)) / (2147483648 : Int64) * (2147483648 : Int64))]) (M' := (hs t, F, G)) 1 (fun n9 => (show ∀ (z0 : Int64), ip_run none (n9 + 2) 225 63 [.ref 193, .int a1, .int a2, .long b3, v4, .int a5, .int a6, v7] [.long z0] (hs t, F, G) (0, 0) = ip_run none n9 225 65 [.ref 193, .int a1, .int a2, .long z0, .float 0, .int a5, .int a6, v7] [.long z0] (hs t, F, G) (0, 0) from fun _ => rfl) (((b3 * (1103515245 : Int64)) + (12345 : Int64)) - ((b3 * (1103515245 : Int64)) + (12345 : Int64)) / (2147483648 : Int64) * (2147483648 : Int64))) ?_
    refine wp_ldc2 (v := (65536 : Int64)) rfl rfl rfl ?_
    refine wp_ldiv rfl (by decide) ?_
    refine wp_ldc2 (v := (6 : Int64)) rfl rfl rfl ?_
    refine wp_lrem rfl (by decide) ?_
    refine wp_l2i rfl ?_
    refine wp_N (j' := 225) (pc' := 79) (L' := [.ref 193, .int a1, .int a2, .long (((b3 * (1103515245 : Int64)) + (12345 : Int64)) - ((b3 * (1103515245 : Int64)) + (12345 : Int64)) / (2147483648 : Int64) * (2147483648 : Int64)), .float 0, .int a5, .int a6, .int (((((b3 * (1103515245 : Int64)) + (12345 : Int64)) - ((b3 * (1103515245 : Int64)) + (12345 : Int64)) / (2147483648 : Int64) * (2147483648 : Int64)) / (65536 : Int64)) - ((((b3 * (1103515245 : Int64)) + (12345 : Int64)) - ((b3 * (1103515245 : Int64)) + (12345 : Int64)) / (2147483648 : Int64) * (2147483648 : Int64)) / (65536 : Int64)) / (6 : Int64) * (6 : Int64)).toInt32]) (S' := [.int (((((b3 * (1103515245 : Int64)) + (12345 : Int64)) - ((b3 * (1103515245 : Int64)) + (12345 : Int64)) / (2147483648 : Int64) * (2147483648 : Int64)) / (65536 : Int64)) - ((((b3 * (1103515245 : Int64)) + (12345 : Int64)) - ((b3 * (1103515245 : Int64)) + (12345 : Int64)) / (2147483648 : Int64) * (2147483648 : Int64)) / (65536 : Int64)) / (6 : Int64) * (6 : Int64)).toInt32, .ref 193]) (M' := (hs t, F, G)) 2 (fun n9 => (show ∀ (z0 : Int32) (z1 : Int64), ip_run none (n9 + 3) 225 74 [.ref 193, .int a1, .int a2, .long z1, .float 0, .int a5, .int a6, v7] [.int z0] (hs t, F, G) (0, 0) = ip_run none n9 225 79 [.ref 193, .int a1, .int a2, .long z1, .float 0, .int a5, .int a6, .int z0] [.int z0, .ref 193] (hs t, F, G) (0, 0) from fun _ _ => rfl) (((((b3 * (1103515245 : Int64)) + (12345 : Int64)) - ((b3 * (1103515245 : Int64)) + (12345 : Int64)) / (2147483648 : Int64) * (2147483648 : Int64)) / (65536 : Int64)) - ((((b3 * (1103515245 : Int64)) + (12345 : Int64)) - ((b3 * (1103515245 : Int64)) + (12345 : Int64)) / (2147483648 : Int64) * (2147483648 : Int64)) / (65536 : Int64)) / (6 : Int64) * (6 : Int64)).toInt32 (((b3 * (1103515245 : Int64)) + (12345 : Int64)) - ((b3 * (1103515245 : Int64)) + (12345 : Int64)) / (2147483648 : Int64) * (2147483648 : Int64))) ?_
    refine wp_C (i := 150) (pc' := 82) (Li := [.ref 193, .int (((((b3 * (1103515245 : Int64)) + (12345 : Int64)) - ((b3 * (1103515245 : Int64)) + (12345 : Int64)) / (2147483648 : Int64) * (2147483648 : Int64)) / (65536 : Int64)) - ((((b3 * (1103515245 : Int64)) + (12345 : Int64)) - ((b3 * (1103515245 : Int64)) + (12345 : Int64)) / (2147483648 : Int64) * (2147483648 : Int64)) / (65536 : Int64)) / (6 : Int64) * (6 : Int64)).toInt32]) (rest := []) (fun n9 => (show ∀ (z0 : Int32) (z1 : Int64), ip_run none (n9 + 1) 225 79 [.ref 193, .int a1, .int a2, .long z1, .float 0, .int a5, .int a6, .int z0] [.int z0, .ref 193] (hs t, F, G) (0, 0) = (ip_run none n9 150 0 [.ref 193, .int z0] [] (hs t, F, G) (0, 0)).bind fun r => ip_run none n9 225 82 [.ref 193, .int a1, .int a2, .long z1, .float 0, .int a5, .int a6, .int z0] (r.1.toList ++ []) r.2 (0, 0) from fun _ _ => rfl) (((((b3 * (1103515245 : Int64)) + (12345 : Int64)) - ((b3 * (1103515245 : Int64)) + (12345 : Int64)) / (2147483648 : Int64) * (2147483648 : Int64)) / (65536 : Int64)) - ((((b3 * (1103515245 : Int64)) + (12345 : Int64)) - ((b3 * (1103515245 : Int64)) + (12345 : Int64)) / (2147483648 : Int64) * (2147483648 : Int64)) / (65536 : Int64)) / (6 : Int64) * (6 : Int64)).toInt32 (((b3 * (1103515245 : Int64)) + (12345 : Int64)) - ((b3 * (1103515245 : Int64)) + (12345 : Int64)) / (2147483648 : Int64) * (2147483648 : Int64))) h
theorem rg225_82 {t : Nat} {F : ip_F} {G : ip_G} {Q : Option Value → ip_M → Prop} {a1 a2 a5 a6 a7 as0 : Int32} {b3 : Int64} {v4 : Value} (h : (as0 = (0 : Int32) → wp 225 110 [.ref 193, .int a1, .int a2, .long b3, v4, .int a5, .int a6, .int a7] [] (hs t, F, G) Q) ∧ (¬ as0 = (0 : Int32) → (vp_in a7 6) ∧ ((vp_in a7 6) ∧ (wp 225 110 [.ref 193, .int a1, .int a2, .long b3, v4, .int a5, .int a6, .int a7] [] (hs t, (ip_u (ip_u F 198 (a7).toNatClampNeg ((b3 / (1048576 : Int64)) - (b3 / (1048576 : Int64)) / (6 : Int64) * (6 : Int64)).toInt32) 199 (a7).toNatClampNeg (0 : Int32)), G) Q)))) : wp 225 82 [.ref 193, .int a1, .int a2, .long b3, v4, .int a5, .int a6, .int a7] [.int as0] (hs t, F, G) Q := by
  refine wp_ifc (pc1 := 110) (c := .eq) rfl (fun hc => ?_) (fun hc => ?_)
  · replace h := h.1 hc
    exact h
  · replace h := h.2 hc
    refine wp_N (j' := 225) (pc' := 92) (L' := [.ref 193, .int a1, .int a2, .long b3, v4, .int a5, .int a6, .int a7]) (S' := [.long b3, .int a7, .ref 198]) (M' := (hs t, F, G)) 3 (fun _ => rfl) ?_
    refine wp_ldc2 (v := (1048576 : Int64)) rfl rfl rfl ?_
    refine wp_ldiv rfl (by decide) ?_
    refine wp_ldc2 (v := (6 : Int64)) rfl rfl rfl ?_
    refine wp_lrem rfl (by decide) ?_
    refine wp_l2i rfl ?_
    obtain ⟨h1_, h⟩ := h
    refine wp_ias (m := (a7).toNatClampNeg) rfl rfl rfl h1_ ?_
    refine wp_N (j' := 225) (pc' := 109) (L' := [.ref 193, .int a1, .int a2, .long b3, v4, .int a5, .int a6, .int a7]) (S' := [.int (0 : Int32), .int a7, .ref 199]) (M' := (hs t, (ip_u F 198 (a7).toNatClampNeg ((b3 / (1048576 : Int64)) - (b3 / (1048576 : Int64)) / (6 : Int64) * (6 : Int64)).toInt32), G)) 3 (fun _ => rfl) ?_
    obtain ⟨h2_, h⟩ := h
    refine wp_ias (m := (a7).toNatClampNeg) rfl rfl rfl h2_ ?_
    exact h
theorem rg225_110 {t : Nat} {F : ip_F} {G : ip_G} {Q : Option Value → ip_M → Prop} {a1 a2 a5 a6 a7 : Int32} {b3 : Int64} {v4 : Value} (h : wp 186 0 [.ref 193, .float 0, .float 0, .float 0] [] (hs t, F, G) (fun v M' => wp 225 116 [.ref 193, .int a1, .int a2, .long b3, v4, .int a5, .int a6, .int a7] (v.toList ++ [.int a5]) M' Q)) : wp 225 110 [.ref 193, .int a1, .int a2, .long b3, v4, .int a5, .int a6, .int a7] [] (hs t, F, G) Q := by
  refine wp_N (j' := 225) (pc' := 113) (L' := [.ref 193, .int a1, .int a2, .long b3, v4, .int a5, .int a6, .int a7]) (S' := [.ref 193, .int a5]) (M' := (hs t, F, G)) 1 (fun _ => rfl) ?_
  refine wp_C (i := 186) (pc' := 116) (Li := [.ref 193, .float 0, .float 0, .float 0]) (rest := [.int a5]) (fun _ => rfl) h
theorem rg225_116 {t : Nat} {F : ip_F} {G : ip_G} {Q : Option Value → ip_M → Prop} {a1 a2 a5 a6 a7 as0 as1 : Int32} {b3 : Int64} {v4 : Value} (h : wp 190 0 [.ref 193, .float 0] [] (hs t, F, G) (fun v M' => wp 225 123 [.ref 193, .int a1, .int a2, .long b3, (ip_unl v4), .int (as0 + as1), .int a6, .int a7] (v.toList ++ []) M' Q)) : wp 225 116 [.ref 193, .int a1, .int a2, .long b3, v4, .int a5, .int a6, .int a7] [.int as1, .int as0] (hs t, F, G) Q := by
  refine wp_N (j' := 225) (pc' := 120) (L' := [.ref 193, .int a1, .int a2, .long b3, (ip_unl v4), .int (as0 + as1), .int a6, .int a7]) (S' := [.ref 193]) (M' := (hs t, F, G)) 2 (fun _ => rfl) ?_
  refine wp_C (i := 190) (pc' := 123) (Li := [.ref 193, .float 0]) (rest := []) (fun _ => rfl) h
theorem rg225_123 {t : Nat} {F : ip_F} {G : ip_G} {Q : Option Value → ip_M → Prop} {a1 a2 a5 a6 a7 : Int32} {b3 : Int64} {v4 : Value} (h : wp 225 44 [.ref 193, .int a1, .int a2, .long b3, v4, .int a5, .int (a6 + (1 : Int32)), .int a7] [] (hs t, F, G) Q) : wp 225 123 [.ref 193, .int a1, .int a2, .long b3, v4, .int a5, .int a6, .int a7] [] (hs t, F, G) Q := by
  refine wp_N (j' := 225) (pc' := 44) (L' := [.ref 193, .int a1, .int a2, .long b3, v4, .int a5, .int (a6 + (1 : Int32)), .int a7]) (S' := []) (M' := (hs t, F, G)) 1 (fun _ => rfl) ?_
  exact h
theorem rg225_138 {t : Nat} {F : ip_F} {G : ip_G} {Q : Option Value → ip_M → Prop} {a1 a2 a5 a6 : Int32} {b3 : Int64} {v4 v7 : Value} (h : Q (some (.int a5)) (hs t, F, G)) : wp 225 138 [.ref 193, .int a1, .int a2, .long b3, v4, .int a5, .int a6, v7] [] (hs t, F, G) Q := by
  refine wp_N (j' := 225) (pc' := 140) (L' := [.ref 193, .int a1, .int a2, .long b3, v4, .int a5, .int a6, v7]) (S' := [.int a5]) (M' := (hs t, F, G)) 0 (fun _ => rfl) ?_
  exact wp_RI rfl rfl h
theorem rg226_0 {t : Nat} {F : ip_F} {G : ip_G} {Q : Option Value → ip_M → Prop} {a1 : Int32} (h : (¬ a1 = (0 : Int32) → (¬ a1 = (1 : Int32) → wp 140 0 [.ref 193] [] (hs t, F, G) (fun v M' => wp 226 27 [.ref 193, .int a1] (v.toList ++ []) M' Q)) ∧ (a1 = (1 : Int32) → Q (some (.long (G 193 27))) (hs t, F, G))) ∧ (a1 = (0 : Int32) → Q (some (.long (G 193 26))) (hs t, F, G))) : wp 226 0 [.ref 193, .int a1] [] (hs t, F, G) Q := by
  refine wp_N (j' := 226) (pc' := 1) (L' := [.ref 193, .int a1]) (S' := [.int a1]) (M' := (hs t, F, G)) 0 (fun _ => rfl) ?_
  refine wp_ifc (pc1 := 11) (c := .ne) rfl (fun hc => ?_) (fun hc => ?_)
  · replace h := h.1 hc
    refine wp_N (j' := 226) (pc' := 13) (L' := [.ref 193, .int a1]) (S' := [.int (1 : Int32), .int a1]) (M' := (hs t, F, G)) 1 (fun _ => rfl) ?_
    refine wp_icmp (pc1 := 23) (c := .ne) rfl (fun hc => ?_) (fun hc => ?_)
    · replace h := h.1 hc
      refine wp_N (j' := 226) (pc' := 24) (L' := [.ref 193, .int a1]) (S' := [.ref 193]) (M' := (hs t, F, G)) 0 (fun _ => rfl) ?_
      refine wp_C (i := 140) (pc' := 27) (Li := [.ref 193]) (rest := []) (fun _ => rfl) h
    · replace h := h.2 (Decidable.not_not.mp hc)
      refine wp_N (j' := 226) (pc' := 28) (L' := [.ref 193, .int a1]) (S' := [.long (G 193 27)]) (M' := (hs t, F, G)) 2 (fun _ => rfl) ?_
      exact wp_RL rfl rfl h
  · replace h := h.2 (Decidable.not_not.mp hc)
    refine wp_N (j' := 226) (pc' := 28) (L' := [.ref 193, .int a1]) (S' := [.long (G 193 26)]) (M' := (hs t, F, G)) 2 (fun _ => rfl) ?_
    exact wp_RL rfl rfl h
theorem rg226_27 {t : Nat} {F : ip_F} {G : ip_G} {Q : Option Value → ip_M → Prop} {a1 as0 : Int32} (h : Q (some (.long as0.toInt64)) (hs t, F, G)) : wp 226 27 [.ref 193, .int a1] [.int as0] (hs t, F, G) Q := by
  refine wp_N (j' := 226) (pc' := 28) (L' := [.ref 193, .int a1]) (S' := [.long as0.toInt64]) (M' := (hs t, F, G)) 0 (fun _ => rfl) ?_
  exact wp_RL rfl rfl h
theorem rg227_0 {t : Nat} {F : ip_F} {G : ip_G} {Q : Option Value → ip_M → Prop} {a1 n1 : Nat} {a2 : Int32} (ha1 : (hs t)[a1]? = some (1, 0, [n1])) (h : wp 187 0 [.ref 193, .ref a1, .int a2, .float 0] [] (hs t, F, G) (fun v M' => wp 227 6 [.ref 193, .ref a1, .int a2, .float 0] (v.toList ++ []) M' Q)) : wp 227 0 [.ref 193, .ref a1, .int a2, .float 0] [] (hs t, F, G) Q := by
  refine wp_N (j' := 227) (pc' := 3) (L' := [.ref 193, .ref a1, .int a2, .float 0]) (S' := [.int a2, .ref a1, .ref 193]) (M' := (hs t, F, G)) 2 (fun _ => rfl) ?_
  refine wp_C (i := 187) (pc' := 6) (Li := [.ref 193, .ref a1, .int a2, .float 0]) (rest := []) (fun _ => rfl) h
theorem rg227_6 {t : Nat} {F : ip_F} {G : ip_G} {Q : Option Value → ip_M → Prop} {a1 n1 : Nat} {a2 : Int32} {v3 : Value} (ha1 : (hs t)[a1]? = some (1, 0, [n1])) (h : (vp_in (a2 + (25 : Int32)) n1) ∧ ((vp_in (a2 + (26 : Int32)) n1) ∧ ((vp_in (a2 + (27 : Int32)) n1) ∧ ((vp_in (a2 + (28 : Int32)) n1) ∧ ((vp_in (a2 + (29 : Int32)) n1) ∧ (wp 227 58 [.ref 193, .ref a1, .int a2, .int (0 : Int32)] [] (hs t, (ip_u (ip_u (ip_u (ip_u (ip_u F a1 ((a2 + (25 : Int32))).toNatClampNeg (F 193 1)) a1 ((a2 + (26 : Int32))).toNatClampNeg ((ip_u F a1 ((a2 + (25 : Int32))).toNatClampNeg (F 193 1)) 193 3)) a1 ((a2 + (27 : Int32))).toNatClampNeg ((ip_u (ip_u F a1 ((a2 + (25 : Int32))).toNatClampNeg (F 193 1)) a1 ((a2 + (26 : Int32))).toNatClampNeg ((ip_u F a1 ((a2 + (25 : Int32))).toNatClampNeg (F 193 1)) 193 3)) 193 4)) a1 ((a2 + (28 : Int32))).toNatClampNeg ((ip_u (ip_u (ip_u F a1 ((a2 + (25 : Int32))).toNatClampNeg (F 193 1)) a1 ((a2 + (26 : Int32))).toNatClampNeg ((ip_u F a1 ((a2 + (25 : Int32))).toNatClampNeg (F 193 1)) 193 3)) a1 ((a2 + (27 : Int32))).toNatClampNeg ((ip_u (ip_u F a1 ((a2 + (25 : Int32))).toNatClampNeg (F 193 1)) a1 ((a2 + (26 : Int32))).toNatClampNeg ((ip_u F a1 ((a2 + (25 : Int32))).toNatClampNeg (F 193 1)) 193 3)) 193 4)) 193 5)) a1 ((a2 + (29 : Int32))).toNatClampNeg ((ip_u (ip_u (ip_u (ip_u F a1 ((a2 + (25 : Int32))).toNatClampNeg (F 193 1)) a1 ((a2 + (26 : Int32))).toNatClampNeg ((ip_u F a1 ((a2 + (25 : Int32))).toNatClampNeg (F 193 1)) 193 3)) a1 ((a2 + (27 : Int32))).toNatClampNeg ((ip_u (ip_u F a1 ((a2 + (25 : Int32))).toNatClampNeg (F 193 1)) a1 ((a2 + (26 : Int32))).toNatClampNeg ((ip_u F a1 ((a2 + (25 : Int32))).toNatClampNeg (F 193 1)) 193 3)) 193 4)) a1 ((a2 + (28 : Int32))).toNatClampNeg ((ip_u (ip_u (ip_u F a1 ((a2 + (25 : Int32))).toNatClampNeg (F 193 1)) a1 ((a2 + (26 : Int32))).toNatClampNeg ((ip_u F a1 ((a2 + (25 : Int32))).toNatClampNeg (F 193 1)) 193 3)) a1 ((a2 + (27 : Int32))).toNatClampNeg ((ip_u (ip_u F a1 ((a2 + (25 : Int32))).toNatClampNeg (F 193 1)) a1 ((a2 + (26 : Int32))).toNatClampNeg ((ip_u F a1 ((a2 + (25 : Int32))).toNatClampNeg (F 193 1)) 193 3)) 193 4)) 193 5)) 193 22)), G) Q)))))) : wp 227 6 [.ref 193, .ref a1, .int a2, v3] [] (hs t, F, G) Q := by
  refine wp_N (j' := 227) (pc' := 15) (L' := [.ref 193, .ref a1, .int a2, v3]) (S' := [.int (F 193 1), .int (a2 + (25 : Int32)), .ref a1]) (M' := (hs t, F, G)) 5 (fun _ => rfl) ?_
  obtain ⟨h1_, h⟩ := h
  refine wp_ias (m := ((a2 + (25 : Int32))).toNatClampNeg) rfl ha1 rfl h1_ ?_
  refine wp_N (j' := 227) (pc' := 25) (L' := [.ref 193, .ref a1, .int a2, v3]) (S' := [.int ((ip_u F a1 ((a2 + (25 : Int32))).toNatClampNeg (F 193 1)) 193 3), .int (a2 + (26 : Int32)), .ref a1]) (M' := (hs t, (ip_u F a1 ((a2 + (25 : Int32))).toNatClampNeg (F 193 1)), G)) 5 (fun _ => rfl) ?_
  obtain ⟨h2_, h⟩ := h
  refine wp_ias (m := ((a2 + (26 : Int32))).toNatClampNeg) rfl ha1 rfl h2_ ?_
  refine wp_N (j' := 227) (pc' := 35) (L' := [.ref 193, .ref a1, .int a2, v3]) (S' := [.int ((ip_u (ip_u F a1 ((a2 + (25 : Int32))).toNatClampNeg (F 193 1)) a1 ((a2 + (26 : Int32))).toNatClampNeg ((ip_u F a1 ((a2 + (25 : Int32))).toNatClampNeg (F 193 1)) 193 3)) 193 4), .int (a2 + (27 : Int32)), .ref a1]) (M' := (hs t, (ip_u (ip_u F a1 ((a2 + (25 : Int32))).toNatClampNeg (F 193 1)) a1 ((a2 + (26 : Int32))).toNatClampNeg ((ip_u F a1 ((a2 + (25 : Int32))).toNatClampNeg (F 193 1)) 193 3)), G)) 5 (fun _ => rfl) ?_
  obtain ⟨h3_, h⟩ := h
  refine wp_ias (m := ((a2 + (27 : Int32))).toNatClampNeg) rfl ha1 rfl h3_ ?_
  refine wp_N (j' := 227) (pc' := 45) (L' := [.ref 193, .ref a1, .int a2, v3]) (S' := [.int ((ip_u (ip_u (ip_u F a1 ((a2 + (25 : Int32))).toNatClampNeg (F 193 1)) a1 ((a2 + (26 : Int32))).toNatClampNeg ((ip_u F a1 ((a2 + (25 : Int32))).toNatClampNeg (F 193 1)) 193 3)) a1 ((a2 + (27 : Int32))).toNatClampNeg ((ip_u (ip_u F a1 ((a2 + (25 : Int32))).toNatClampNeg (F 193 1)) a1 ((a2 + (26 : Int32))).toNatClampNeg ((ip_u F a1 ((a2 + (25 : Int32))).toNatClampNeg (F 193 1)) 193 3)) 193 4)) 193 5), .int (a2 + (28 : Int32)), .ref a1]) (M' := (hs t, (ip_u (ip_u (ip_u F a1 ((a2 + (25 : Int32))).toNatClampNeg (F 193 1)) a1 ((a2 + (26 : Int32))).toNatClampNeg ((ip_u F a1 ((a2 + (25 : Int32))).toNatClampNeg (F 193 1)) 193 3)) a1 ((a2 + (27 : Int32))).toNatClampNeg ((ip_u (ip_u F a1 ((a2 + (25 : Int32))).toNatClampNeg (F 193 1)) a1 ((a2 + (26 : Int32))).toNatClampNeg ((ip_u F a1 ((a2 + (25 : Int32))).toNatClampNeg (F 193 1)) 193 3)) 193 4)), G)) 5 (fun _ => rfl) ?_
  obtain ⟨h4_, h⟩ := h
  refine wp_ias (m := ((a2 + (28 : Int32))).toNatClampNeg) rfl ha1 rfl h4_ ?_
  refine wp_N (j' := 227) (pc' := 55) (L' := [.ref 193, .ref a1, .int a2, v3]) (S' := [.int ((ip_u (ip_u (ip_u (ip_u F a1 ((a2 + (25 : Int32))).toNatClampNeg (F 193 1)) a1 ((a2 + (26 : Int32))).toNatClampNeg ((ip_u F a1 ((a2 + (25 : Int32))).toNatClampNeg (F 193 1)) 193 3)) a1 ((a2 + (27 : Int32))).toNatClampNeg ((ip_u (ip_u F a1 ((a2 + (25 : Int32))).toNatClampNeg (F 193 1)) a1 ((a2 + (26 : Int32))).toNatClampNeg ((ip_u F a1 ((a2 + (25 : Int32))).toNatClampNeg (F 193 1)) 193 3)) 193 4)) a1 ((a2 + (28 : Int32))).toNatClampNeg ((ip_u (ip_u (ip_u F a1 ((a2 + (25 : Int32))).toNatClampNeg (F 193 1)) a1 ((a2 + (26 : Int32))).toNatClampNeg ((ip_u F a1 ((a2 + (25 : Int32))).toNatClampNeg (F 193 1)) 193 3)) a1 ((a2 + (27 : Int32))).toNatClampNeg ((ip_u (ip_u F a1 ((a2 + (25 : Int32))).toNatClampNeg (F 193 1)) a1 ((a2 + (26 : Int32))).toNatClampNeg ((ip_u F a1 ((a2 + (25 : Int32))).toNatClampNeg (F 193 1)) 193 3)) 193 4)) 193 5)) 193 22), .int (a2 + (29 : Int32)), .ref a1]) (M' := (hs t, (ip_u (ip_u (ip_u (ip_u F a1 ((a2 + (25 : Int32))).toNatClampNeg (F 193 1)) a1 ((a2 + (26 : Int32))).toNatClampNeg ((ip_u F a1 ((a2 + (25 : Int32))).toNatClampNeg (F 193 1)) 193 3)) a1 ((a2 + (27 : Int32))).toNatClampNeg ((ip_u (ip_u F a1 ((a2 + (25 : Int32))).toNatClampNeg (F 193 1)) a1 ((a2 + (26 : Int32))).toNatClampNeg ((ip_u F a1 ((a2 + (25 : Int32))).toNatClampNeg (F 193 1)) 193 3)) 193 4)) a1 ((a2 + (28 : Int32))).toNatClampNeg ((ip_u (ip_u (ip_u F a1 ((a2 + (25 : Int32))).toNatClampNeg (F 193 1)) a1 ((a2 + (26 : Int32))).toNatClampNeg ((ip_u F a1 ((a2 + (25 : Int32))).toNatClampNeg (F 193 1)) 193 3)) a1 ((a2 + (27 : Int32))).toNatClampNeg ((ip_u (ip_u F a1 ((a2 + (25 : Int32))).toNatClampNeg (F 193 1)) a1 ((a2 + (26 : Int32))).toNatClampNeg ((ip_u F a1 ((a2 + (25 : Int32))).toNatClampNeg (F 193 1)) 193 3)) 193 4)) 193 5)), G)) 5 (fun _ => rfl) ?_
  obtain ⟨h5_, h⟩ := h
  refine wp_ias (m := ((a2 + (29 : Int32))).toNatClampNeg) rfl ha1 rfl h5_ ?_
  refine wp_N (j' := 227) (pc' := 58) (L' := [.ref 193, .ref a1, .int a2, .int (0 : Int32)]) (S' := []) (M' := (hs t, (ip_u (ip_u (ip_u (ip_u (ip_u F a1 ((a2 + (25 : Int32))).toNatClampNeg (F 193 1)) a1 ((a2 + (26 : Int32))).toNatClampNeg ((ip_u F a1 ((a2 + (25 : Int32))).toNatClampNeg (F 193 1)) 193 3)) a1 ((a2 + (27 : Int32))).toNatClampNeg ((ip_u (ip_u F a1 ((a2 + (25 : Int32))).toNatClampNeg (F 193 1)) a1 ((a2 + (26 : Int32))).toNatClampNeg ((ip_u F a1 ((a2 + (25 : Int32))).toNatClampNeg (F 193 1)) 193 3)) 193 4)) a1 ((a2 + (28 : Int32))).toNatClampNeg ((ip_u (ip_u (ip_u F a1 ((a2 + (25 : Int32))).toNatClampNeg (F 193 1)) a1 ((a2 + (26 : Int32))).toNatClampNeg ((ip_u F a1 ((a2 + (25 : Int32))).toNatClampNeg (F 193 1)) 193 3)) a1 ((a2 + (27 : Int32))).toNatClampNeg ((ip_u (ip_u F a1 ((a2 + (25 : Int32))).toNatClampNeg (F 193 1)) a1 ((a2 + (26 : Int32))).toNatClampNeg ((ip_u F a1 ((a2 + (25 : Int32))).toNatClampNeg (F 193 1)) 193 3)) 193 4)) 193 5)) a1 ((a2 + (29 : Int32))).toNatClampNeg ((ip_u (ip_u (ip_u (ip_u F a1 ((a2 + (25 : Int32))).toNatClampNeg (F 193 1)) a1 ((a2 + (26 : Int32))).toNatClampNeg ((ip_u F a1 ((a2 + (25 : Int32))).toNatClampNeg (F 193 1)) 193 3)) a1 ((a2 + (27 : Int32))).toNatClampNeg ((ip_u (ip_u F a1 ((a2 + (25 : Int32))).toNatClampNeg (F 193 1)) a1 ((a2 + (26 : Int32))).toNatClampNeg ((ip_u F a1 ((a2 + (25 : Int32))).toNatClampNeg (F 193 1)) 193 3)) 193 4)) a1 ((a2 + (28 : Int32))).toNatClampNeg ((ip_u (ip_u (ip_u F a1 ((a2 + (25 : Int32))).toNatClampNeg (F 193 1)) a1 ((a2 + (26 : Int32))).toNatClampNeg ((ip_u F a1 ((a2 + (25 : Int32))).toNatClampNeg (F 193 1)) 193 3)) a1 ((a2 + (27 : Int32))).toNatClampNeg ((ip_u (ip_u F a1 ((a2 + (25 : Int32))).toNatClampNeg (F 193 1)) a1 ((a2 + (26 : Int32))).toNatClampNeg ((ip_u F a1 ((a2 + (25 : Int32))).toNatClampNeg (F 193 1)) 193 3)) 193 4)) 193 5)) 193 22)), G)) 1 (fun _ => rfl) ?_
  exact h
theorem rg227_58 {t : Nat} {F : ip_F} {G : ip_G} {Q : Option Value → ip_M → Prop} {a1 n1 : Nat} {a2 a3 : Int32} (ha1 : (hs t)[a1]? = some (1, 0, [n1])) (h : ((6 : Int32) ≤ a3 → wp 227 86 [.ref 193, .ref a1, .int a2, .int (0 : Int32)] [] (hs t, F, G) Q) ∧ (a3 < (6 : Int32) → (vp_in a3 6) ∧ ((vp_in ((a2 + (30 : Int32)) + a3) n1) ∧ (wp 227 58 [.ref 193, .ref a1, .int a2, .int (a3 + (1 : Int32))] [] (hs t, (ip_u F a1 (((a2 + (30 : Int32)) + a3)).toNatClampNeg (F 195 (a3).toNatClampNeg)), G) Q)))) : wp 227 58 [.ref 193, .ref a1, .int a2, .int a3] [] (hs t, F, G) Q := by
  refine wp_N (j' := 227) (pc' := 61) (L' := [.ref 193, .ref a1, .int a2, .int a3]) (S' := [.int (6 : Int32), .int a3]) (M' := (hs t, F, G)) 1 (fun _ => rfl) ?_
  refine wp_icmp (pc1 := 84) (c := .ge) rfl (fun hc => ?_) (fun hc => ?_)
  · replace h := h.1 hc
    refine wp_N (j' := 227) (pc' := 86) (L' := [.ref 193, .ref a1, .int a2, .int (0 : Int32)]) (S' := []) (M' := (hs t, F, G)) 1 (fun _ => rfl) ?_
    exact h
  · replace h := h.2 (Int32.not_le.mp hc)
    refine wp_N (j' := 227) (pc' := 76) (L' := [.ref 193, .ref a1, .int a2, .int a3]) (S' := [.int a3, .ref 195, .int ((a2 + (30 : Int32)) + a3), .ref a1]) (M' := (hs t, F, G)) 8 (fun _ => rfl) ?_
    obtain ⟨h1_, h⟩ := h
    refine wp_ial (m := (a3).toNatClampNeg) rfl rfl rfl h1_ ?_
    obtain ⟨h2_, h⟩ := h
    refine wp_ias (m := (((a2 + (30 : Int32)) + a3)).toNatClampNeg) rfl ha1 rfl h2_ ?_
    refine wp_N (j' := 227) (pc' := 58) (L' := [.ref 193, .ref a1, .int a2, .int (a3 + (1 : Int32))]) (S' := []) (M' := (hs t, (ip_u F a1 (((a2 + (30 : Int32)) + a3)).toNatClampNeg (F 195 (a3).toNatClampNeg)), G)) 1 (fun _ => rfl) ?_
    exact h
theorem rg227_86 {t : Nat} {F : ip_F} {G : ip_G} {Q : Option Value → ip_M → Prop} {a1 n1 : Nat} {a2 a3 : Int32} (ha1 : (hs t)[a1]? = some (1, 0, [n1])) (h : ((8 : Int32) ≤ a3 → wp 227 114 [.ref 193, .ref a1, .int a2, .int (0 : Int32)] [] (hs t, F, G) Q) ∧ (a3 < (8 : Int32) → (vp_in a3 8) ∧ ((vp_in ((a2 + (36 : Int32)) + a3) n1) ∧ (wp 227 86 [.ref 193, .ref a1, .int a2, .int (a3 + (1 : Int32))] [] (hs t, (ip_u F a1 (((a2 + (36 : Int32)) + a3)).toNatClampNeg (F 200 (a3).toNatClampNeg)), G) Q)))) : wp 227 86 [.ref 193, .ref a1, .int a2, .int a3] [] (hs t, F, G) Q := by
  refine wp_N (j' := 227) (pc' := 89) (L' := [.ref 193, .ref a1, .int a2, .int a3]) (S' := [.int (8 : Int32), .int a3]) (M' := (hs t, F, G)) 1 (fun _ => rfl) ?_
  refine wp_icmp (pc1 := 112) (c := .ge) rfl (fun hc => ?_) (fun hc => ?_)
  · replace h := h.1 hc
    refine wp_N (j' := 227) (pc' := 114) (L' := [.ref 193, .ref a1, .int a2, .int (0 : Int32)]) (S' := []) (M' := (hs t, F, G)) 1 (fun _ => rfl) ?_
    exact h
  · replace h := h.2 (Int32.not_le.mp hc)
    refine wp_N (j' := 227) (pc' := 104) (L' := [.ref 193, .ref a1, .int a2, .int a3]) (S' := [.int a3, .ref 200, .int ((a2 + (36 : Int32)) + a3), .ref a1]) (M' := (hs t, F, G)) 8 (fun _ => rfl) ?_
    obtain ⟨h1_, h⟩ := h
    refine wp_ial (m := (a3).toNatClampNeg) rfl rfl rfl h1_ ?_
    obtain ⟨h2_, h⟩ := h
    refine wp_ias (m := (((a2 + (36 : Int32)) + a3)).toNatClampNeg) rfl ha1 rfl h2_ ?_
    refine wp_N (j' := 227) (pc' := 86) (L' := [.ref 193, .ref a1, .int a2, .int (a3 + (1 : Int32))]) (S' := []) (M' := (hs t, (ip_u F a1 (((a2 + (36 : Int32)) + a3)).toNatClampNeg (F 200 (a3).toNatClampNeg)), G)) 1 (fun _ => rfl) ?_
    exact h
theorem rg227_114 {t : Nat} {F : ip_F} {G : ip_G} {Q : Option Value → ip_M → Prop} {a1 n1 : Nat} {a2 a3 : Int32} (ha1 : (hs t)[a1]? = some (1, 0, [n1])) (h : ((18 : Int32) ≤ a3 → wp 227 142 [.ref 193, .ref a1, .int a2, .int (0 : Int32)] [] (hs t, F, G) Q) ∧ (a3 < (18 : Int32) → (vp_in a3 18) ∧ ((vp_in ((a2 + (44 : Int32)) + a3) n1) ∧ (wp 227 114 [.ref 193, .ref a1, .int a2, .int (a3 + (1 : Int32))] [] (hs t, (ip_u F a1 (((a2 + (44 : Int32)) + a3)).toNatClampNeg (F 201 (a3).toNatClampNeg)), G) Q)))) : wp 227 114 [.ref 193, .ref a1, .int a2, .int a3] [] (hs t, F, G) Q := by
  refine wp_N (j' := 227) (pc' := 117) (L' := [.ref 193, .ref a1, .int a2, .int a3]) (S' := [.int (18 : Int32), .int a3]) (M' := (hs t, F, G)) 1 (fun _ => rfl) ?_
  refine wp_icmp (pc1 := 140) (c := .ge) rfl (fun hc => ?_) (fun hc => ?_)
  · replace h := h.1 hc
    refine wp_N (j' := 227) (pc' := 142) (L' := [.ref 193, .ref a1, .int a2, .int (0 : Int32)]) (S' := []) (M' := (hs t, F, G)) 1 (fun _ => rfl) ?_
    exact h
  · replace h := h.2 (Int32.not_le.mp hc)
    refine wp_N (j' := 227) (pc' := 132) (L' := [.ref 193, .ref a1, .int a2, .int a3]) (S' := [.int a3, .ref 201, .int ((a2 + (44 : Int32)) + a3), .ref a1]) (M' := (hs t, F, G)) 8 (fun _ => rfl) ?_
    obtain ⟨h1_, h⟩ := h
    refine wp_ial (m := (a3).toNatClampNeg) rfl rfl rfl h1_ ?_
    obtain ⟨h2_, h⟩ := h
    refine wp_ias (m := (((a2 + (44 : Int32)) + a3)).toNatClampNeg) rfl ha1 rfl h2_ ?_
    refine wp_N (j' := 227) (pc' := 114) (L' := [.ref 193, .ref a1, .int a2, .int (a3 + (1 : Int32))]) (S' := []) (M' := (hs t, (ip_u F a1 (((a2 + (44 : Int32)) + a3)).toNatClampNeg (F 201 (a3).toNatClampNeg)), G)) 1 (fun _ => rfl) ?_
    exact h
theorem rg227_142 {t : Nat} {F : ip_F} {G : ip_G} {Q : Option Value → ip_M → Prop} {a1 n1 : Nat} {a2 a3 : Int32} (ha1 : (hs t)[a1]? = some (1, 0, [n1])) (h : ((24 : Int32) ≤ a3 → wp 227 170 [.ref 193, .ref a1, .int a2, .int (0 : Int32)] [] (hs t, F, G) Q) ∧ (a3 < (24 : Int32) → (vp_in a3 24) ∧ ((vp_in ((a2 + (62 : Int32)) + a3) n1) ∧ (wp 227 142 [.ref 193, .ref a1, .int a2, .int (a3 + (1 : Int32))] [] (hs t, (ip_u F a1 (((a2 + (62 : Int32)) + a3)).toNatClampNeg (F 202 (a3).toNatClampNeg)), G) Q)))) : wp 227 142 [.ref 193, .ref a1, .int a2, .int a3] [] (hs t, F, G) Q := by
  refine wp_N (j' := 227) (pc' := 145) (L' := [.ref 193, .ref a1, .int a2, .int a3]) (S' := [.int (24 : Int32), .int a3]) (M' := (hs t, F, G)) 1 (fun _ => rfl) ?_
  refine wp_icmp (pc1 := 168) (c := .ge) rfl (fun hc => ?_) (fun hc => ?_)
  · replace h := h.1 hc
    refine wp_N (j' := 227) (pc' := 170) (L' := [.ref 193, .ref a1, .int a2, .int (0 : Int32)]) (S' := []) (M' := (hs t, F, G)) 1 (fun _ => rfl) ?_
    exact h
  · replace h := h.2 (Int32.not_le.mp hc)
    refine wp_N (j' := 227) (pc' := 160) (L' := [.ref 193, .ref a1, .int a2, .int a3]) (S' := [.int a3, .ref 202, .int ((a2 + (62 : Int32)) + a3), .ref a1]) (M' := (hs t, F, G)) 8 (fun _ => rfl) ?_
    obtain ⟨h1_, h⟩ := h
    refine wp_ial (m := (a3).toNatClampNeg) rfl rfl rfl h1_ ?_
    obtain ⟨h2_, h⟩ := h
    refine wp_ias (m := (((a2 + (62 : Int32)) + a3)).toNatClampNeg) rfl ha1 rfl h2_ ?_
    refine wp_N (j' := 227) (pc' := 142) (L' := [.ref 193, .ref a1, .int a2, .int (a3 + (1 : Int32))]) (S' := []) (M' := (hs t, (ip_u F a1 (((a2 + (62 : Int32)) + a3)).toNatClampNeg (F 202 (a3).toNatClampNeg)), G)) 1 (fun _ => rfl) ?_
    exact h
theorem rg227_170 {t : Nat} {F : ip_F} {G : ip_G} {Q : Option Value → ip_M → Prop} {a1 n1 : Nat} {a2 a3 : Int32} (ha1 : (hs t)[a1]? = some (1, 0, [n1])) (h : ((200 : Int32) ≤ a3 → Q none (hs t, F, G)) ∧ (a3 < (200 : Int32) → (vp_in a3 200) ∧ ((vp_in ((a2 + (86 : Int32)) + a3) n1) ∧ (wp 227 170 [.ref 193, .ref a1, .int a2, .int (a3 + (1 : Int32))] [] (hs t, (ip_u F a1 (((a2 + (86 : Int32)) + a3)).toNatClampNeg (F 207 (a3).toNatClampNeg)), G) Q)))) : wp 227 170 [.ref 193, .ref a1, .int a2, .int a3] [] (hs t, F, G) Q := by
  refine wp_N (j' := 227) (pc' := 174) (L' := [.ref 193, .ref a1, .int a2, .int a3]) (S' := [.int (200 : Int32), .int a3]) (M' := (hs t, F, G)) 1 (fun _ => rfl) ?_
  refine wp_icmp (pc1 := 197) (c := .ge) rfl (fun hc => ?_) (fun hc => ?_)
  · replace h := h.1 hc
    exact wp_RV rfl rfl h
  · replace h := h.2 (Int32.not_le.mp hc)
    refine wp_N (j' := 227) (pc' := 189) (L' := [.ref 193, .ref a1, .int a2, .int a3]) (S' := [.int a3, .ref 207, .int ((a2 + (86 : Int32)) + a3), .ref a1]) (M' := (hs t, F, G)) 8 (fun _ => rfl) ?_
    obtain ⟨h1_, h⟩ := h
    refine wp_ial (m := (a3).toNatClampNeg) rfl rfl rfl h1_ ?_
    obtain ⟨h2_, h⟩ := h
    refine wp_ias (m := (((a2 + (86 : Int32)) + a3)).toNatClampNeg) rfl ha1 rfl h2_ ?_
    refine wp_N (j' := 227) (pc' := 170) (L' := [.ref 193, .ref a1, .int a2, .int (a3 + (1 : Int32))]) (S' := []) (M' := (hs t, (ip_u F a1 (((a2 + (86 : Int32)) + a3)).toNatClampNeg (F 207 (a3).toNatClampNeg)), G)) 1 (fun _ => rfl) ?_
    exact h
theorem rg228_0 {t : Nat} {F : ip_F} {G : ip_G} {Q : Option Value → ip_M → Prop} {a1 n1 : Nat} {a2 : Int32} (ha1 : (hs t)[a1]? = some (1, 0, [n1])) (h : wp 188 0 [.ref 193, .ref a1, .int a2, .float 0] [] (hs t, F, G) (fun v M' => wp 228 6 [.ref 193, .ref a1, .int a2, .float 0] (v.toList ++ []) M' Q)) : wp 228 0 [.ref 193, .ref a1, .int a2, .float 0] [] (hs t, F, G) Q := by
  refine wp_N (j' := 228) (pc' := 3) (L' := [.ref 193, .ref a1, .int a2, .float 0]) (S' := [.int a2, .ref a1, .ref 193]) (M' := (hs t, F, G)) 2 (fun _ => rfl) ?_
  refine wp_C (i := 188) (pc' := 6) (Li := [.ref 193, .ref a1, .int a2, .float 0]) (rest := []) (fun _ => rfl) h
theorem rg228_6 {t : Nat} {F : ip_F} {G : ip_G} {Q : Option Value → ip_M → Prop} {a1 n1 : Nat} {a2 : Int32} {v3 : Value} (ha1 : (hs t)[a1]? = some (1, 0, [n1])) (h : (vp_in (a2 + (25 : Int32)) n1) ∧ ((vp_in (a2 + (26 : Int32)) n1) ∧ ((vp_in (a2 + (27 : Int32)) n1) ∧ ((vp_in (a2 + (28 : Int32)) n1) ∧ ((vp_in (a2 + (29 : Int32)) n1) ∧ (wp 228 58 [.ref 193, .ref a1, .int a2, .int (0 : Int32)] [] (hs t, (ip_u (ip_u (ip_u (ip_u (ip_u F 193 1 (F a1 ((a2 + (25 : Int32))).toNatClampNeg)) 193 3 ((ip_u F 193 1 (F a1 ((a2 + (25 : Int32))).toNatClampNeg)) a1 ((a2 + (26 : Int32))).toNatClampNeg)) 193 4 ((ip_u (ip_u F 193 1 (F a1 ((a2 + (25 : Int32))).toNatClampNeg)) 193 3 ((ip_u F 193 1 (F a1 ((a2 + (25 : Int32))).toNatClampNeg)) a1 ((a2 + (26 : Int32))).toNatClampNeg)) a1 ((a2 + (27 : Int32))).toNatClampNeg)) 193 5 ((ip_u (ip_u (ip_u F 193 1 (F a1 ((a2 + (25 : Int32))).toNatClampNeg)) 193 3 ((ip_u F 193 1 (F a1 ((a2 + (25 : Int32))).toNatClampNeg)) a1 ((a2 + (26 : Int32))).toNatClampNeg)) 193 4 ((ip_u (ip_u F 193 1 (F a1 ((a2 + (25 : Int32))).toNatClampNeg)) 193 3 ((ip_u F 193 1 (F a1 ((a2 + (25 : Int32))).toNatClampNeg)) a1 ((a2 + (26 : Int32))).toNatClampNeg)) a1 ((a2 + (27 : Int32))).toNatClampNeg)) a1 ((a2 + (28 : Int32))).toNatClampNeg)) 193 22 ((ip_u (ip_u (ip_u (ip_u F 193 1 (F a1 ((a2 + (25 : Int32))).toNatClampNeg)) 193 3 ((ip_u F 193 1 (F a1 ((a2 + (25 : Int32))).toNatClampNeg)) a1 ((a2 + (26 : Int32))).toNatClampNeg)) 193 4 ((ip_u (ip_u F 193 1 (F a1 ((a2 + (25 : Int32))).toNatClampNeg)) 193 3 ((ip_u F 193 1 (F a1 ((a2 + (25 : Int32))).toNatClampNeg)) a1 ((a2 + (26 : Int32))).toNatClampNeg)) a1 ((a2 + (27 : Int32))).toNatClampNeg)) 193 5 ((ip_u (ip_u (ip_u F 193 1 (F a1 ((a2 + (25 : Int32))).toNatClampNeg)) 193 3 ((ip_u F 193 1 (F a1 ((a2 + (25 : Int32))).toNatClampNeg)) a1 ((a2 + (26 : Int32))).toNatClampNeg)) 193 4 ((ip_u (ip_u F 193 1 (F a1 ((a2 + (25 : Int32))).toNatClampNeg)) 193 3 ((ip_u F 193 1 (F a1 ((a2 + (25 : Int32))).toNatClampNeg)) a1 ((a2 + (26 : Int32))).toNatClampNeg)) a1 ((a2 + (27 : Int32))).toNatClampNeg)) a1 ((a2 + (28 : Int32))).toNatClampNeg)) a1 ((a2 + (29 : Int32))).toNatClampNeg)), G) Q)))))) : wp 228 6 [.ref 193, .ref a1, .int a2, v3] [] (hs t, F, G) Q := by
  refine wp_N (j' := 228) (pc' := 12) (L' := [.ref 193, .ref a1, .int a2, v3]) (S' := [.int (a2 + (25 : Int32)), .ref a1, .ref 193]) (M' := (hs t, F, G)) 4 (fun _ => rfl) ?_
  obtain ⟨h1_, h⟩ := h
  refine wp_ial (m := ((a2 + (25 : Int32))).toNatClampNeg) rfl ha1 rfl h1_ ?_
  refine wp_putI rfl rfl rfl rfl rfl rfl (by decide) ?_
  refine wp_N (j' := 228) (pc' := 22) (L' := [.ref 193, .ref a1, .int a2, v3]) (S' := [.int (a2 + (26 : Int32)), .ref a1, .ref 193]) (M' := (hs t, (ip_u F 193 1 (F a1 ((a2 + (25 : Int32))).toNatClampNeg)), G)) 4 (fun _ => rfl) ?_
  obtain ⟨h2_, h⟩ := h
  refine wp_ial (m := ((a2 + (26 : Int32))).toNatClampNeg) rfl ha1 rfl h2_ ?_
  refine wp_putI rfl rfl rfl rfl rfl rfl (by decide) ?_
  refine wp_N (j' := 228) (pc' := 32) (L' := [.ref 193, .ref a1, .int a2, v3]) (S' := [.int (a2 + (27 : Int32)), .ref a1, .ref 193]) (M' := (hs t, (ip_u (ip_u F 193 1 (F a1 ((a2 + (25 : Int32))).toNatClampNeg)) 193 3 ((ip_u F 193 1 (F a1 ((a2 + (25 : Int32))).toNatClampNeg)) a1 ((a2 + (26 : Int32))).toNatClampNeg)), G)) 4 (fun _ => rfl) ?_
  obtain ⟨h3_, h⟩ := h
  refine wp_ial (m := ((a2 + (27 : Int32))).toNatClampNeg) rfl ha1 rfl h3_ ?_
  refine wp_putI rfl rfl rfl rfl rfl rfl (by decide) ?_
  refine wp_N (j' := 228) (pc' := 42) (L' := [.ref 193, .ref a1, .int a2, v3]) (S' := [.int (a2 + (28 : Int32)), .ref a1, .ref 193]) (M' := (hs t, (ip_u (ip_u (ip_u F 193 1 (F a1 ((a2 + (25 : Int32))).toNatClampNeg)) 193 3 ((ip_u F 193 1 (F a1 ((a2 + (25 : Int32))).toNatClampNeg)) a1 ((a2 + (26 : Int32))).toNatClampNeg)) 193 4 ((ip_u (ip_u F 193 1 (F a1 ((a2 + (25 : Int32))).toNatClampNeg)) 193 3 ((ip_u F 193 1 (F a1 ((a2 + (25 : Int32))).toNatClampNeg)) a1 ((a2 + (26 : Int32))).toNatClampNeg)) a1 ((a2 + (27 : Int32))).toNatClampNeg)), G)) 4 (fun _ => rfl) ?_
  obtain ⟨h4_, h⟩ := h
  refine wp_ial (m := ((a2 + (28 : Int32))).toNatClampNeg) rfl ha1 rfl h4_ ?_
  refine wp_putI rfl rfl rfl rfl rfl rfl (by decide) ?_
  refine wp_N (j' := 228) (pc' := 52) (L' := [.ref 193, .ref a1, .int a2, v3]) (S' := [.int (a2 + (29 : Int32)), .ref a1, .ref 193]) (M' := (hs t, (ip_u (ip_u (ip_u (ip_u F 193 1 (F a1 ((a2 + (25 : Int32))).toNatClampNeg)) 193 3 ((ip_u F 193 1 (F a1 ((a2 + (25 : Int32))).toNatClampNeg)) a1 ((a2 + (26 : Int32))).toNatClampNeg)) 193 4 ((ip_u (ip_u F 193 1 (F a1 ((a2 + (25 : Int32))).toNatClampNeg)) 193 3 ((ip_u F 193 1 (F a1 ((a2 + (25 : Int32))).toNatClampNeg)) a1 ((a2 + (26 : Int32))).toNatClampNeg)) a1 ((a2 + (27 : Int32))).toNatClampNeg)) 193 5 ((ip_u (ip_u (ip_u F 193 1 (F a1 ((a2 + (25 : Int32))).toNatClampNeg)) 193 3 ((ip_u F 193 1 (F a1 ((a2 + (25 : Int32))).toNatClampNeg)) a1 ((a2 + (26 : Int32))).toNatClampNeg)) 193 4 ((ip_u (ip_u F 193 1 (F a1 ((a2 + (25 : Int32))).toNatClampNeg)) 193 3 ((ip_u F 193 1 (F a1 ((a2 + (25 : Int32))).toNatClampNeg)) a1 ((a2 + (26 : Int32))).toNatClampNeg)) a1 ((a2 + (27 : Int32))).toNatClampNeg)) a1 ((a2 + (28 : Int32))).toNatClampNeg)), G)) 4 (fun _ => rfl) ?_
  obtain ⟨h5_, h⟩ := h
  refine wp_ial (m := ((a2 + (29 : Int32))).toNatClampNeg) rfl ha1 rfl h5_ ?_
  refine wp_putI rfl rfl rfl rfl rfl rfl (by decide) ?_
  refine wp_N (j' := 228) (pc' := 58) (L' := [.ref 193, .ref a1, .int a2, .int (0 : Int32)]) (S' := []) (M' := (hs t, (ip_u (ip_u (ip_u (ip_u (ip_u F 193 1 (F a1 ((a2 + (25 : Int32))).toNatClampNeg)) 193 3 ((ip_u F 193 1 (F a1 ((a2 + (25 : Int32))).toNatClampNeg)) a1 ((a2 + (26 : Int32))).toNatClampNeg)) 193 4 ((ip_u (ip_u F 193 1 (F a1 ((a2 + (25 : Int32))).toNatClampNeg)) 193 3 ((ip_u F 193 1 (F a1 ((a2 + (25 : Int32))).toNatClampNeg)) a1 ((a2 + (26 : Int32))).toNatClampNeg)) a1 ((a2 + (27 : Int32))).toNatClampNeg)) 193 5 ((ip_u (ip_u (ip_u F 193 1 (F a1 ((a2 + (25 : Int32))).toNatClampNeg)) 193 3 ((ip_u F 193 1 (F a1 ((a2 + (25 : Int32))).toNatClampNeg)) a1 ((a2 + (26 : Int32))).toNatClampNeg)) 193 4 ((ip_u (ip_u F 193 1 (F a1 ((a2 + (25 : Int32))).toNatClampNeg)) 193 3 ((ip_u F 193 1 (F a1 ((a2 + (25 : Int32))).toNatClampNeg)) a1 ((a2 + (26 : Int32))).toNatClampNeg)) a1 ((a2 + (27 : Int32))).toNatClampNeg)) a1 ((a2 + (28 : Int32))).toNatClampNeg)) 193 22 ((ip_u (ip_u (ip_u (ip_u F 193 1 (F a1 ((a2 + (25 : Int32))).toNatClampNeg)) 193 3 ((ip_u F 193 1 (F a1 ((a2 + (25 : Int32))).toNatClampNeg)) a1 ((a2 + (26 : Int32))).toNatClampNeg)) 193 4 ((ip_u (ip_u F 193 1 (F a1 ((a2 + (25 : Int32))).toNatClampNeg)) 193 3 ((ip_u F 193 1 (F a1 ((a2 + (25 : Int32))).toNatClampNeg)) a1 ((a2 + (26 : Int32))).toNatClampNeg)) a1 ((a2 + (27 : Int32))).toNatClampNeg)) 193 5 ((ip_u (ip_u (ip_u F 193 1 (F a1 ((a2 + (25 : Int32))).toNatClampNeg)) 193 3 ((ip_u F 193 1 (F a1 ((a2 + (25 : Int32))).toNatClampNeg)) a1 ((a2 + (26 : Int32))).toNatClampNeg)) 193 4 ((ip_u (ip_u F 193 1 (F a1 ((a2 + (25 : Int32))).toNatClampNeg)) 193 3 ((ip_u F 193 1 (F a1 ((a2 + (25 : Int32))).toNatClampNeg)) a1 ((a2 + (26 : Int32))).toNatClampNeg)) a1 ((a2 + (27 : Int32))).toNatClampNeg)) a1 ((a2 + (28 : Int32))).toNatClampNeg)) a1 ((a2 + (29 : Int32))).toNatClampNeg)), G)) 1 (fun _ => rfl) ?_
  exact h
theorem rg228_58 {t : Nat} {F : ip_F} {G : ip_G} {Q : Option Value → ip_M → Prop} {a1 n1 : Nat} {a2 a3 : Int32} (ha1 : (hs t)[a1]? = some (1, 0, [n1])) (h : ((6 : Int32) ≤ a3 → wp 228 86 [.ref 193, .ref a1, .int a2, .int (0 : Int32)] [] (hs t, F, G) Q) ∧ (a3 < (6 : Int32) → (vp_in ((a2 + (30 : Int32)) + a3) n1) ∧ ((vp_in a3 6) ∧ (wp 228 58 [.ref 193, .ref a1, .int a2, .int (a3 + (1 : Int32))] [] (hs t, (ip_u F 195 (a3).toNatClampNeg (F a1 (((a2 + (30 : Int32)) + a3)).toNatClampNeg)), G) Q)))) : wp 228 58 [.ref 193, .ref a1, .int a2, .int a3] [] (hs t, F, G) Q := by
  refine wp_N (j' := 228) (pc' := 61) (L' := [.ref 193, .ref a1, .int a2, .int a3]) (S' := [.int (6 : Int32), .int a3]) (M' := (hs t, F, G)) 1 (fun _ => rfl) ?_
  refine wp_icmp (pc1 := 84) (c := .ge) rfl (fun hc => ?_) (fun hc => ?_)
  · replace h := h.1 hc
    refine wp_N (j' := 228) (pc' := 86) (L' := [.ref 193, .ref a1, .int a2, .int (0 : Int32)]) (S' := []) (M' := (hs t, F, G)) 1 (fun _ => rfl) ?_
    exact h
  · replace h := h.2 (Int32.not_le.mp hc)
    refine wp_N (j' := 228) (pc' := 76) (L' := [.ref 193, .ref a1, .int a2, .int a3]) (S' := [.int ((a2 + (30 : Int32)) + a3), .ref a1, .int a3, .ref 195]) (M' := (hs t, F, G)) 8 (fun _ => rfl) ?_
    obtain ⟨h1_, h⟩ := h
    refine wp_ial (m := (((a2 + (30 : Int32)) + a3)).toNatClampNeg) rfl ha1 rfl h1_ ?_
    obtain ⟨h2_, h⟩ := h
    refine wp_ias (m := (a3).toNatClampNeg) rfl rfl rfl h2_ ?_
    refine wp_N (j' := 228) (pc' := 58) (L' := [.ref 193, .ref a1, .int a2, .int (a3 + (1 : Int32))]) (S' := []) (M' := (hs t, (ip_u F 195 (a3).toNatClampNeg (F a1 (((a2 + (30 : Int32)) + a3)).toNatClampNeg)), G)) 1 (fun _ => rfl) ?_
    exact h
theorem rg228_86 {t : Nat} {F : ip_F} {G : ip_G} {Q : Option Value → ip_M → Prop} {a1 n1 : Nat} {a2 a3 : Int32} (ha1 : (hs t)[a1]? = some (1, 0, [n1])) (h : ((8 : Int32) ≤ a3 → wp 228 114 [.ref 193, .ref a1, .int a2, .int (0 : Int32)] [] (hs t, F, G) Q) ∧ (a3 < (8 : Int32) → (vp_in ((a2 + (36 : Int32)) + a3) n1) ∧ ((vp_in a3 8) ∧ (wp 228 86 [.ref 193, .ref a1, .int a2, .int (a3 + (1 : Int32))] [] (hs t, (ip_u F 200 (a3).toNatClampNeg (F a1 (((a2 + (36 : Int32)) + a3)).toNatClampNeg)), G) Q)))) : wp 228 86 [.ref 193, .ref a1, .int a2, .int a3] [] (hs t, F, G) Q := by
  refine wp_N (j' := 228) (pc' := 89) (L' := [.ref 193, .ref a1, .int a2, .int a3]) (S' := [.int (8 : Int32), .int a3]) (M' := (hs t, F, G)) 1 (fun _ => rfl) ?_
  refine wp_icmp (pc1 := 112) (c := .ge) rfl (fun hc => ?_) (fun hc => ?_)
  · replace h := h.1 hc
    refine wp_N (j' := 228) (pc' := 114) (L' := [.ref 193, .ref a1, .int a2, .int (0 : Int32)]) (S' := []) (M' := (hs t, F, G)) 1 (fun _ => rfl) ?_
    exact h
  · replace h := h.2 (Int32.not_le.mp hc)
    refine wp_N (j' := 228) (pc' := 104) (L' := [.ref 193, .ref a1, .int a2, .int a3]) (S' := [.int ((a2 + (36 : Int32)) + a3), .ref a1, .int a3, .ref 200]) (M' := (hs t, F, G)) 8 (fun _ => rfl) ?_
    obtain ⟨h1_, h⟩ := h
    refine wp_ial (m := (((a2 + (36 : Int32)) + a3)).toNatClampNeg) rfl ha1 rfl h1_ ?_
    obtain ⟨h2_, h⟩ := h
    refine wp_ias (m := (a3).toNatClampNeg) rfl rfl rfl h2_ ?_
    refine wp_N (j' := 228) (pc' := 86) (L' := [.ref 193, .ref a1, .int a2, .int (a3 + (1 : Int32))]) (S' := []) (M' := (hs t, (ip_u F 200 (a3).toNatClampNeg (F a1 (((a2 + (36 : Int32)) + a3)).toNatClampNeg)), G)) 1 (fun _ => rfl) ?_
    exact h
theorem rg228_114 {t : Nat} {F : ip_F} {G : ip_G} {Q : Option Value → ip_M → Prop} {a1 n1 : Nat} {a2 a3 : Int32} (ha1 : (hs t)[a1]? = some (1, 0, [n1])) (h : ((18 : Int32) ≤ a3 → wp 228 142 [.ref 193, .ref a1, .int a2, .int (0 : Int32)] [] (hs t, F, G) Q) ∧ (a3 < (18 : Int32) → (vp_in ((a2 + (44 : Int32)) + a3) n1) ∧ ((vp_in a3 18) ∧ (wp 228 114 [.ref 193, .ref a1, .int a2, .int (a3 + (1 : Int32))] [] (hs t, (ip_u F 201 (a3).toNatClampNeg (F a1 (((a2 + (44 : Int32)) + a3)).toNatClampNeg)), G) Q)))) : wp 228 114 [.ref 193, .ref a1, .int a2, .int a3] [] (hs t, F, G) Q := by
  refine wp_N (j' := 228) (pc' := 117) (L' := [.ref 193, .ref a1, .int a2, .int a3]) (S' := [.int (18 : Int32), .int a3]) (M' := (hs t, F, G)) 1 (fun _ => rfl) ?_
  refine wp_icmp (pc1 := 140) (c := .ge) rfl (fun hc => ?_) (fun hc => ?_)
  · replace h := h.1 hc
    refine wp_N (j' := 228) (pc' := 142) (L' := [.ref 193, .ref a1, .int a2, .int (0 : Int32)]) (S' := []) (M' := (hs t, F, G)) 1 (fun _ => rfl) ?_
    exact h
  · replace h := h.2 (Int32.not_le.mp hc)
    refine wp_N (j' := 228) (pc' := 132) (L' := [.ref 193, .ref a1, .int a2, .int a3]) (S' := [.int ((a2 + (44 : Int32)) + a3), .ref a1, .int a3, .ref 201]) (M' := (hs t, F, G)) 8 (fun _ => rfl) ?_
    obtain ⟨h1_, h⟩ := h
    refine wp_ial (m := (((a2 + (44 : Int32)) + a3)).toNatClampNeg) rfl ha1 rfl h1_ ?_
    obtain ⟨h2_, h⟩ := h
    refine wp_ias (m := (a3).toNatClampNeg) rfl rfl rfl h2_ ?_
    refine wp_N (j' := 228) (pc' := 114) (L' := [.ref 193, .ref a1, .int a2, .int (a3 + (1 : Int32))]) (S' := []) (M' := (hs t, (ip_u F 201 (a3).toNatClampNeg (F a1 (((a2 + (44 : Int32)) + a3)).toNatClampNeg)), G)) 1 (fun _ => rfl) ?_
    exact h
theorem rg228_142 {t : Nat} {F : ip_F} {G : ip_G} {Q : Option Value → ip_M → Prop} {a1 n1 : Nat} {a2 a3 : Int32} (ha1 : (hs t)[a1]? = some (1, 0, [n1])) (h : ((24 : Int32) ≤ a3 → wp 228 170 [.ref 193, .ref a1, .int a2, .int (0 : Int32)] [] (hs t, F, G) Q) ∧ (a3 < (24 : Int32) → (vp_in ((a2 + (62 : Int32)) + a3) n1) ∧ ((vp_in a3 24) ∧ (wp 228 142 [.ref 193, .ref a1, .int a2, .int (a3 + (1 : Int32))] [] (hs t, (ip_u F 202 (a3).toNatClampNeg (F a1 (((a2 + (62 : Int32)) + a3)).toNatClampNeg)), G) Q)))) : wp 228 142 [.ref 193, .ref a1, .int a2, .int a3] [] (hs t, F, G) Q := by
  refine wp_N (j' := 228) (pc' := 145) (L' := [.ref 193, .ref a1, .int a2, .int a3]) (S' := [.int (24 : Int32), .int a3]) (M' := (hs t, F, G)) 1 (fun _ => rfl) ?_
  refine wp_icmp (pc1 := 168) (c := .ge) rfl (fun hc => ?_) (fun hc => ?_)
  · replace h := h.1 hc
    refine wp_N (j' := 228) (pc' := 170) (L' := [.ref 193, .ref a1, .int a2, .int (0 : Int32)]) (S' := []) (M' := (hs t, F, G)) 1 (fun _ => rfl) ?_
    exact h
  · replace h := h.2 (Int32.not_le.mp hc)
    refine wp_N (j' := 228) (pc' := 160) (L' := [.ref 193, .ref a1, .int a2, .int a3]) (S' := [.int ((a2 + (62 : Int32)) + a3), .ref a1, .int a3, .ref 202]) (M' := (hs t, F, G)) 8 (fun _ => rfl) ?_
    obtain ⟨h1_, h⟩ := h
    refine wp_ial (m := (((a2 + (62 : Int32)) + a3)).toNatClampNeg) rfl ha1 rfl h1_ ?_
    obtain ⟨h2_, h⟩ := h
    refine wp_ias (m := (a3).toNatClampNeg) rfl rfl rfl h2_ ?_
    refine wp_N (j' := 228) (pc' := 142) (L' := [.ref 193, .ref a1, .int a2, .int (a3 + (1 : Int32))]) (S' := []) (M' := (hs t, (ip_u F 202 (a3).toNatClampNeg (F a1 (((a2 + (62 : Int32)) + a3)).toNatClampNeg)), G)) 1 (fun _ => rfl) ?_
    exact h
theorem rg228_170 {t : Nat} {F : ip_F} {G : ip_G} {Q : Option Value → ip_M → Prop} {a1 n1 : Nat} {a2 a3 : Int32} (ha1 : (hs t)[a1]? = some (1, 0, [n1])) (h : ((200 : Int32) ≤ a3 → Q none (hs t, F, G)) ∧ (a3 < (200 : Int32) → (vp_in ((a2 + (86 : Int32)) + a3) n1) ∧ ((vp_in a3 200) ∧ (wp 228 170 [.ref 193, .ref a1, .int a2, .int (a3 + (1 : Int32))] [] (hs t, (ip_u F 207 (a3).toNatClampNeg (F a1 (((a2 + (86 : Int32)) + a3)).toNatClampNeg)), G) Q)))) : wp 228 170 [.ref 193, .ref a1, .int a2, .int a3] [] (hs t, F, G) Q := by
  refine wp_N (j' := 228) (pc' := 174) (L' := [.ref 193, .ref a1, .int a2, .int a3]) (S' := [.int (200 : Int32), .int a3]) (M' := (hs t, F, G)) 1 (fun _ => rfl) ?_
  refine wp_icmp (pc1 := 197) (c := .ge) rfl (fun hc => ?_) (fun hc => ?_)
  · replace h := h.1 hc
    exact wp_RV rfl rfl h
  · replace h := h.2 (Int32.not_le.mp hc)
    refine wp_N (j' := 228) (pc' := 189) (L' := [.ref 193, .ref a1, .int a2, .int a3]) (S' := [.int ((a2 + (86 : Int32)) + a3), .ref a1, .int a3, .ref 207]) (M' := (hs t, F, G)) 8 (fun _ => rfl) ?_
    obtain ⟨h1_, h⟩ := h
    refine wp_ial (m := (((a2 + (86 : Int32)) + a3)).toNatClampNeg) rfl ha1 rfl h1_ ?_
    obtain ⟨h2_, h⟩ := h
    refine wp_ias (m := (a3).toNatClampNeg) rfl rfl rfl h2_ ?_
    refine wp_N (j' := 228) (pc' := 170) (L' := [.ref 193, .ref a1, .int a2, .int (a3 + (1 : Int32))]) (S' := []) (M' := (hs t, (ip_u F 207 (a3).toNatClampNeg (F a1 (((a2 + (86 : Int32)) + a3)).toNatClampNeg)), G)) 1 (fun _ => rfl) ?_
    exact h
theorem rg229_0 {t : Nat} {F : ip_F} {G : ip_G} {Q : Option Value → ip_M → Prop} {a1 : Int32} (h : wp 143 0 [.int a1, .int (0 : Int32), .int (1 : Int32)] [] (hs t, F, G) (fun v M' => wp 229 6 [.ref 193, .int a1] (v.toList ++ []) M' Q)) : wp 229 0 [.ref 193, .int a1] [] (hs t, F, G) Q := by
  refine wp_N (j' := 229) (pc' := 3) (L' := [.ref 193, .int a1]) (S' := [.int (1 : Int32), .int (0 : Int32), .int a1]) (M' := (hs t, F, G)) 2 (fun _ => rfl) ?_
  refine wp_C (i := 143) (pc' := 6) (Li := [.int a1, .int (0 : Int32), .int (1 : Int32)]) (rest := []) (fun _ => rfl) h
theorem rg229_6 {t : Nat} {F : ip_F} {G : ip_G} {Q : Option Value → ip_M → Prop} {a1 as0 : Int32} (h : (¬ as0 = (0 : Int32) → (vp_in a1 2) ∧ (wp 227 0 [.ref 193, .ref 211, .int ((300 : Int32) * a1), .float 0] [] (hs t, (ip_u F 212 (a1).toNatClampNeg (1 : Int32)), G) (fun v M' => wp 229 34 [.ref 193, .int a1] (v.toList ++ []) M' Q))) ∧ (as0 = (0 : Int32) → wp 140 0 [.ref 193] [] (hs t, F, G) (fun v M' => wp 229 13 [.ref 193, .int a1] (v.toList ++ []) M' Q))) : wp 229 6 [.ref 193, .int a1] [.int as0] (hs t, F, G) Q := by
  refine wp_ifc (pc1 := 14) (c := .ne) rfl (fun hc => ?_) (fun hc => ?_)
  · replace h := h.1 hc
    refine wp_N (j' := 229) (pc' := 20) (L' := [.ref 193, .int a1]) (S' := [.int (1 : Int32), .int a1, .ref 212]) (M' := (hs t, F, G)) 3 (fun _ => rfl) ?_
    obtain ⟨h1_, h⟩ := h
    refine wp_ias (m := (a1).toNatClampNeg) rfl rfl rfl h1_ ?_
    refine wp_N (j' := 229) (pc' := 31) (L' := [.ref 193, .int a1]) (S' := [.int ((300 : Int32) * a1), .ref 211, .ref 193]) (M' := (hs t, (ip_u F 212 (a1).toNatClampNeg (1 : Int32)), G)) 5 (fun _ => rfl) ?_
    refine wp_C (i := 227) (pc' := 34) (Li := [.ref 193, .ref 211, .int ((300 : Int32) * a1), .float 0]) (rest := []) (fun _ => rfl) h
  · replace h := h.2 (Decidable.not_not.mp hc)
    refine wp_N (j' := 229) (pc' := 10) (L' := [.ref 193, .int a1]) (S' := [.ref 193]) (M' := (hs t, F, G)) 0 (fun _ => rfl) ?_
    refine wp_C (i := 140) (pc' := 13) (Li := [.ref 193]) (rest := []) (fun _ => rfl) h
theorem rg229_13 {t : Nat} {F : ip_F} {G : ip_G} {Q : Option Value → ip_M → Prop} {a1 as0 : Int32} (h : Q (some (.int as0)) (hs t, F, G)) : wp 229 13 [.ref 193, .int a1] [.int as0] (hs t, F, G) Q := by
  exact wp_RI rfl rfl h
theorem rg229_34 {t : Nat} {F : ip_F} {G : ip_G} {Q : Option Value → ip_M → Prop} {a1 : Int32} (h : Q (some (.int (1 : Int32))) (hs t, F, G)) : wp 229 34 [.ref 193, .int a1] [] (hs t, F, G) Q := by
  refine wp_N (j' := 229) (pc' := 35) (L' := [.ref 193, .int a1]) (S' := [.int (1 : Int32)]) (M' := (hs t, F, G)) 0 (fun _ => rfl) ?_
  exact wp_RI rfl rfl h
theorem rg230_0 {t : Nat} {F : ip_F} {G : ip_G} {Q : Option Value → ip_M → Prop} {a1 : Int32} (h : wp 143 0 [.int a1, .int (0 : Int32), .int (1 : Int32)] [] (hs t, F, G) (fun v M' => wp 230 6 [.ref 193, .int a1] (v.toList ++ []) M' Q)) : wp 230 0 [.ref 193, .int a1] [] (hs t, F, G) Q := by
  refine wp_N (j' := 230) (pc' := 3) (L' := [.ref 193, .int a1]) (S' := [.int (1 : Int32), .int (0 : Int32), .int a1]) (M' := (hs t, F, G)) 2 (fun _ => rfl) ?_
  refine wp_C (i := 143) (pc' := 6) (Li := [.int a1, .int (0 : Int32), .int (1 : Int32)]) (rest := []) (fun _ => rfl) h
theorem rg230_6 {t : Nat} {F : ip_F} {G : ip_G} {Q : Option Value → ip_M → Prop} {a1 as0 : Int32} (h : (¬ as0 = (0 : Int32) → (vp_in a1 2) ∧ ((¬ (F 212 (a1).toNatClampNeg) = (0 : Int32) → wp 228 0 [.ref 193, .ref 211, .int ((300 : Int32) * a1), .float 0] [] (hs t, F, G) (fun v M' => wp 230 41 [.ref 193, .int a1] (v.toList ++ []) M' Q)) ∧ ((F 212 (a1).toNatClampNeg) = (0 : Int32) → wp 141 0 [.ref 193] [] (hs t, F, G) (fun v M' => wp 230 27 [.ref 193, .int a1] (v.toList ++ []) M' Q)))) ∧ (as0 = (0 : Int32) → wp 140 0 [.ref 193] [] (hs t, F, G) (fun v M' => wp 230 13 [.ref 193, .int a1] (v.toList ++ []) M' Q))) : wp 230 6 [.ref 193, .int a1] [.int as0] (hs t, F, G) Q := by
  refine wp_ifc (pc1 := 14) (c := .ne) rfl (fun hc => ?_) (fun hc => ?_)
  · replace h := h.1 hc
    refine wp_N (j' := 230) (pc' := 19) (L' := [.ref 193, .int a1]) (S' := [.int a1, .ref 212]) (M' := (hs t, F, G)) 2 (fun _ => rfl) ?_
    obtain ⟨h1_, h⟩ := h
    refine wp_ial (m := (a1).toNatClampNeg) rfl rfl rfl h1_ ?_
    refine wp_ifc (pc1 := 28) (c := .ne) rfl (fun hc => ?_) (fun hc => ?_)
    · replace h := h.1 hc
      refine wp_N (j' := 230) (pc' := 38) (L' := [.ref 193, .int a1]) (S' := [.int ((300 : Int32) * a1), .ref 211, .ref 193]) (M' := (hs t, F, G)) 5 (fun _ => rfl) ?_
      refine wp_C (i := 228) (pc' := 41) (Li := [.ref 193, .ref 211, .int ((300 : Int32) * a1), .float 0]) (rest := []) (fun _ => rfl) h
    · replace h := h.2 (Decidable.not_not.mp hc)
      refine wp_N (j' := 230) (pc' := 24) (L' := [.ref 193, .int a1]) (S' := [.ref 193]) (M' := (hs t, F, G)) 0 (fun _ => rfl) ?_
      refine wp_C (i := 141) (pc' := 27) (Li := [.ref 193]) (rest := []) (fun _ => rfl) h
  · replace h := h.2 (Decidable.not_not.mp hc)
    refine wp_N (j' := 230) (pc' := 10) (L' := [.ref 193, .int a1]) (S' := [.ref 193]) (M' := (hs t, F, G)) 0 (fun _ => rfl) ?_
    refine wp_C (i := 140) (pc' := 13) (Li := [.ref 193]) (rest := []) (fun _ => rfl) h
theorem rg230_13 {t : Nat} {F : ip_F} {G : ip_G} {Q : Option Value → ip_M → Prop} {a1 as0 : Int32} (h : Q (some (.int as0)) (hs t, F, G)) : wp 230 13 [.ref 193, .int a1] [.int as0] (hs t, F, G) Q := by
  exact wp_RI rfl rfl h
theorem rg230_27 {t : Nat} {F : ip_F} {G : ip_G} {Q : Option Value → ip_M → Prop} {a1 as0 : Int32} (h : Q (some (.int as0)) (hs t, F, G)) : wp 230 27 [.ref 193, .int a1] [.int as0] (hs t, F, G) Q := by
  exact wp_RI rfl rfl h
theorem rg230_41 {t : Nat} {F : ip_F} {G : ip_G} {Q : Option Value → ip_M → Prop} {a1 : Int32} (h : Q (some (.int (1 : Int32))) (hs t, F, G)) : wp 230 41 [.ref 193, .int a1] [] (hs t, F, G) Q := by
  refine wp_N (j' := 230) (pc' := 42) (L' := [.ref 193, .int a1]) (S' := [.int (1 : Int32)]) (M' := (hs t, F, G)) 0 (fun _ => rfl) ?_
  exact wp_RI rfl rfl h
theorem rg231_0 {t : Nat} {F : ip_F} {G : ip_G} {Q : Option Value → ip_M → Prop} {a1 : Int32} (h : wp 143 0 [.int a1, .int (0 : Int32), .int (2 : Int32)] [] (hs t, F, G) (fun v M' => wp 231 6 [.ref 193, .int a1] (v.toList ++ []) M' Q)) : wp 231 0 [.ref 193, .int a1] [] (hs t, F, G) Q := by
  refine wp_N (j' := 231) (pc' := 3) (L' := [.ref 193, .int a1]) (S' := [.int (2 : Int32), .int (0 : Int32), .int a1]) (M' := (hs t, F, G)) 2 (fun _ => rfl) ?_
  refine wp_C (i := 143) (pc' := 6) (Li := [.int a1, .int (0 : Int32), .int (2 : Int32)]) (rest := []) (fun _ => rfl) h
theorem rg231_6 {t : Nat} {F : ip_F} {G : ip_G} {Q : Option Value → ip_M → Prop} {a1 as0 : Int32} (h : (¬ as0 = (0 : Int32) → (vp_in a1 3) ∧ (Q (some (.int (F 194 (a1).toNatClampNeg))) (hs t, F, G))) ∧ (as0 = (0 : Int32) → Q (some (.int (-1 : Int32))) (hs t, (ip_u F 194 0 ((F 194 0) + (1 : Int32))), G))) : wp 231 6 [.ref 193, .int a1] [.int as0] (hs t, F, G) Q := by
  refine wp_ifc (pc1 := 21) (c := .ne) rfl (fun hc => ?_) (fun hc => ?_)
  · replace h := h.1 hc
    refine wp_N (j' := 231) (pc' := 26) (L' := [.ref 193, .int a1]) (S' := [.int a1, .ref 194]) (M' := (hs t, F, G)) 2 (fun _ => rfl) ?_
    obtain ⟨h1_, h⟩ := h
    refine wp_ial (m := (a1).toNatClampNeg) rfl rfl rfl h1_ ?_
    exact wp_RI rfl rfl h
  · replace h := h.2 (Decidable.not_not.mp hc)
    refine wp_N (j' := 231) (pc' := 15) (L' := [.ref 193, .int a1]) (S' := [.int (0 : Int32), .ref 194, .int (0 : Int32), .ref 194]) (M' := (hs t, F, G)) 3 (fun _ => rfl) ?_
    refine wp_ial (m := 0) rfl rfl rfl (vp_d rfl) ?_
    refine wp_N (j' := 231) (pc' := 18) (L' := [.ref 193, .int a1]) (S' := [.int ((F 194 0) + (1 : Int32)), .int (0 : Int32), .ref 194]) (M' := (hs t, F, G)) 1 (fun _ => rfl) ?_
    refine wp_ias (m := 0) rfl rfl rfl (vp_d rfl) ?_
    refine wp_N (j' := 231) (pc' := 20) (L' := [.ref 193, .int a1]) (S' := [.int (-1 : Int32)]) (M' := (hs t, (ip_u F 194 0 ((F 194 0) + (1 : Int32))), G)) 0 (fun _ => rfl) ?_
    exact wp_RI rfl rfl h
theorem rg232_0 {t : Nat} {F : ip_F} {G : ip_G} {Q : Option Value → ip_M → Prop} {a1 : Int32} (h : (a1 = (0 : Int32) → Q (some (.int (F 193 1))) (hs t, F, G)) ∧ ((a1 = (1 : Int32) → wp 174 0 [.ref 193, .float 0, .float 0] [] (hs t, F, G) (fun v M' => wp 232 61 [.ref 193, .int a1] (v.toList ++ []) M' Q)) ∧ ((a1 = (2 : Int32) → wp 175 0 [.ref 193, .float 0, .float 0] [] (hs t, F, G) (fun v M' => wp 232 69 [.ref 193, .int a1] (v.toList ++ []) M' Q)) ∧ ((a1 = (3 : Int32) → Q (some (.int (F 193 2))) (hs t, F, G)) ∧ ((a1 = (4 : Int32) → wp 186 0 [.ref 193, .float 0, .float 0, .float 0] [] (hs t, F, G) (fun v M' => wp 232 82 [.ref 193, .int a1] (v.toList ++ []) M' Q)) ∧ ((a1 = (5 : Int32) → Q (some (.int (F 193 3))) (hs t, F, G)) ∧ ((a1 = (6 : Int32) → Q (some (.int (F 193 4))) (hs t, F, G)) ∧ ((a1 = (7 : Int32) → Q (some (.int (F 193 5))) (hs t, F, G)) ∧ ((a1 = (8 : Int32) → Q (some (.int (F 193 22))) (hs t, F, G)) ∧ ((¬ a1 = (0 : Int32) ∧ ¬ a1 = (1 : Int32) ∧ ¬ a1 = (2 : Int32) ∧ ¬ a1 = (3 : Int32) ∧ ¬ a1 = (4 : Int32) ∧ ¬ a1 = (5 : Int32) ∧ ¬ a1 = (6 : Int32) ∧ ¬ a1 = (7 : Int32) ∧ ¬ a1 = (8 : Int32) → Q (some (.int (F 193 15))) (hs t, F, G)))))))))))) : wp 232 0 [.ref 193, .int a1] [] (hs t, F, G) Q := by
  refine wp_N (j' := 232) (pc' := 1) (L' := [.ref 193, .int a1]) (S' := [.int a1]) (M' := (hs t, F, G)) 0 (fun _ => rfl) ?_
  by_cases e0 : a1 = (0 : Int32)
  · replace h := h.1 e0
    refine wp_S (x := a1) (d := 102) (lo := 0) (hi := 8) (offs := #[51, 56, 64, 72, 77, 82, 87, 92, 97]) (S' := []) (t := 52) (fun _ => rfl) (by rw [e0]; rfl) ?_
    refine wp_N (j' := 232) (pc' := 56) (L' := [.ref 193, .int a1]) (S' := [.int (F 193 1)]) (M' := (hs t, F, G)) 1 (fun _ => rfl) ?_
    exact wp_RI rfl rfl h
  replace h := h.2
  by_cases e1 : a1 = (1 : Int32)
  · replace h := h.1 e1
    refine wp_S (x := a1) (d := 102) (lo := 0) (hi := 8) (offs := #[51, 56, 64, 72, 77, 82, 87, 92, 97]) (S' := []) (t := 57) (fun _ => rfl) (by rw [e1]; rfl) ?_
    refine wp_N (j' := 232) (pc' := 58) (L' := [.ref 193, .int a1]) (S' := [.ref 193]) (M' := (hs t, F, G)) 0 (fun _ => rfl) ?_
    refine wp_C (i := 174) (pc' := 61) (Li := [.ref 193, .float 0, .float 0]) (rest := []) (fun _ => rfl) h
  replace h := h.2
  by_cases e2 : a1 = (2 : Int32)
  · replace h := h.1 e2
    refine wp_S (x := a1) (d := 102) (lo := 0) (hi := 8) (offs := #[51, 56, 64, 72, 77, 82, 87, 92, 97]) (S' := []) (t := 65) (fun _ => rfl) (by rw [e2]; rfl) ?_
    refine wp_N (j' := 232) (pc' := 66) (L' := [.ref 193, .int a1]) (S' := [.ref 193]) (M' := (hs t, F, G)) 0 (fun _ => rfl) ?_
    refine wp_C (i := 175) (pc' := 69) (Li := [.ref 193, .float 0, .float 0]) (rest := []) (fun _ => rfl) h
  replace h := h.2
  by_cases e3 : a1 = (3 : Int32)
  · replace h := h.1 e3
    refine wp_S (x := a1) (d := 102) (lo := 0) (hi := 8) (offs := #[51, 56, 64, 72, 77, 82, 87, 92, 97]) (S' := []) (t := 73) (fun _ => rfl) (by rw [e3]; rfl) ?_
    refine wp_N (j' := 232) (pc' := 77) (L' := [.ref 193, .int a1]) (S' := [.int (F 193 2)]) (M' := (hs t, F, G)) 1 (fun _ => rfl) ?_
    exact wp_RI rfl rfl h
  replace h := h.2
  by_cases e4 : a1 = (4 : Int32)
  · replace h := h.1 e4
    refine wp_S (x := a1) (d := 102) (lo := 0) (hi := 8) (offs := #[51, 56, 64, 72, 77, 82, 87, 92, 97]) (S' := []) (t := 78) (fun _ => rfl) (by rw [e4]; rfl) ?_
    refine wp_N (j' := 232) (pc' := 79) (L' := [.ref 193, .int a1]) (S' := [.ref 193]) (M' := (hs t, F, G)) 0 (fun _ => rfl) ?_
    refine wp_C (i := 186) (pc' := 82) (Li := [.ref 193, .float 0, .float 0, .float 0]) (rest := []) (fun _ => rfl) h
  replace h := h.2
  by_cases e5 : a1 = (5 : Int32)
  · replace h := h.1 e5
    refine wp_S (x := a1) (d := 102) (lo := 0) (hi := 8) (offs := #[51, 56, 64, 72, 77, 82, 87, 92, 97]) (S' := []) (t := 83) (fun _ => rfl) (by rw [e5]; rfl) ?_
    refine wp_N (j' := 232) (pc' := 87) (L' := [.ref 193, .int a1]) (S' := [.int (F 193 3)]) (M' := (hs t, F, G)) 1 (fun _ => rfl) ?_
    exact wp_RI rfl rfl h
  replace h := h.2
  by_cases e6 : a1 = (6 : Int32)
  · replace h := h.1 e6
    refine wp_S (x := a1) (d := 102) (lo := 0) (hi := 8) (offs := #[51, 56, 64, 72, 77, 82, 87, 92, 97]) (S' := []) (t := 88) (fun _ => rfl) (by rw [e6]; rfl) ?_
    refine wp_N (j' := 232) (pc' := 92) (L' := [.ref 193, .int a1]) (S' := [.int (F 193 4)]) (M' := (hs t, F, G)) 1 (fun _ => rfl) ?_
    exact wp_RI rfl rfl h
  replace h := h.2
  by_cases e7 : a1 = (7 : Int32)
  · replace h := h.1 e7
    refine wp_S (x := a1) (d := 102) (lo := 0) (hi := 8) (offs := #[51, 56, 64, 72, 77, 82, 87, 92, 97]) (S' := []) (t := 93) (fun _ => rfl) (by rw [e7]; rfl) ?_
    refine wp_N (j' := 232) (pc' := 97) (L' := [.ref 193, .int a1]) (S' := [.int (F 193 5)]) (M' := (hs t, F, G)) 1 (fun _ => rfl) ?_
    exact wp_RI rfl rfl h
  replace h := h.2
  by_cases e8 : a1 = (8 : Int32)
  · replace h := h.1 e8
    refine wp_S (x := a1) (d := 102) (lo := 0) (hi := 8) (offs := #[51, 56, 64, 72, 77, 82, 87, 92, 97]) (S' := []) (t := 98) (fun _ => rfl) (by rw [e8]; rfl) ?_
    refine wp_N (j' := 232) (pc' := 102) (L' := [.ref 193, .int a1]) (S' := [.int (F 193 22)]) (M' := (hs t, F, G)) 1 (fun _ => rfl) ?_
    exact wp_RI rfl rfl h
  replace h := h.2
  replace h := h ⟨e0, e1, e2, e3, e4, e5, e6, e7, e8⟩
  have h1_ : ∀ i : Nat, i < 9 → ¬ a1 = Int32.ofInt (0 + i) := by
    intro i hi
    match i, hi with
    | 0, _ => exact e0
    | 1, _ => exact e1
    | 2, _ => exact e2
    | 3, _ => exact e3
    | 4, _ => exact e4
    | 5, _ => exact e5
    | 6, _ => exact e6
    | 7, _ => exact e7
    | 8, _ => exact e8
  refine wp_S (x := a1) (d := 102) (lo := 0) (hi := 8) (offs := #[51, 56, 64, 72, 77, 82, 87, 92, 97]) (S' := []) (t := 103) (fun _ => rfl) (wp_Sd (by have := in_out2 (lo := 0) (n := 9) h1_ (by decide) (by decide); simp only [Int.cast_ofNat_Int] at this; omega) (by decide)) ?_
  refine wp_N (j' := 232) (pc' := 107) (L' := [.ref 193, .int a1]) (S' := [.int (F 193 15)]) (M' := (hs t, F, G)) 1 (fun _ => rfl) ?_
  exact wp_RI rfl rfl h
theorem rg232_61 {t : Nat} {F : ip_F} {G : ip_G} {Q : Option Value → ip_M → Prop} {a1 as0 : Int32} (h : wp 147 0 [.int as0, .float 0, .float 0] [] (hs t, F, G) (fun v M' => wp 232 64 [.ref 193, .int a1] (v.toList ++ []) M' Q)) : wp 232 61 [.ref 193, .int a1] [.int as0] (hs t, F, G) Q := by
  refine wp_C (i := 147) (pc' := 64) (Li := [.int as0, .float 0, .float 0]) (rest := []) (fun _ => rfl) h
theorem rg232_64 {t : Nat} {F : ip_F} {G : ip_G} {Q : Option Value → ip_M → Prop} {a1 as0 : Int32} (h : Q (some (.int as0)) (hs t, F, G)) : wp 232 64 [.ref 193, .int a1] [.int as0] (hs t, F, G) Q := by
  exact wp_RI rfl rfl h
theorem rg232_69 {t : Nat} {F : ip_F} {G : ip_G} {Q : Option Value → ip_M → Prop} {a1 as0 : Int32} (h : wp 147 0 [.int as0, .float 0, .float 0] [] (hs t, F, G) (fun v M' => wp 232 72 [.ref 193, .int a1] (v.toList ++ []) M' Q)) : wp 232 69 [.ref 193, .int a1] [.int as0] (hs t, F, G) Q := by
  refine wp_C (i := 147) (pc' := 72) (Li := [.int as0, .float 0, .float 0]) (rest := []) (fun _ => rfl) h
theorem rg232_72 {t : Nat} {F : ip_F} {G : ip_G} {Q : Option Value → ip_M → Prop} {a1 as0 : Int32} (h : Q (some (.int as0)) (hs t, F, G)) : wp 232 72 [.ref 193, .int a1] [.int as0] (hs t, F, G) Q := by
  exact wp_RI rfl rfl h
theorem rg232_82 {t : Nat} {F : ip_F} {G : ip_G} {Q : Option Value → ip_M → Prop} {a1 as0 : Int32} (h : Q (some (.int as0)) (hs t, F, G)) : wp 232 82 [.ref 193, .int a1] [.int as0] (hs t, F, G) Q := by
  exact wp_RI rfl rfl h
theorem rg233_0 {t : Nat} {F : ip_F} {G : ip_G} {Q : Option Value → ip_M → Prop} {a1 : Int32} (h : wp 143 0 [.int a1, .int (0 : Int32), .int (9 : Int32)] [] (hs t, F, G) (fun v M' => wp 233 7 [.ref 193, .int a1] (v.toList ++ []) M' Q)) : wp 233 0 [.ref 193, .int a1] [] (hs t, F, G) Q := by
  refine wp_N (j' := 233) (pc' := 4) (L' := [.ref 193, .int a1]) (S' := [.int (9 : Int32), .int (0 : Int32), .int a1]) (M' := (hs t, F, G)) 2 (fun _ => rfl) ?_
  refine wp_C (i := 143) (pc' := 7) (Li := [.int a1, .int (0 : Int32), .int (9 : Int32)]) (rest := []) (fun _ => rfl) h
theorem rg233_7 {t : Nat} {F : ip_F} {G : ip_G} {Q : Option Value → ip_M → Prop} {a1 as0 : Int32} (h : (as0 = (0 : Int32) → wp 140 0 [.ref 193] [] (hs t, F, G) (fun v M' => wp 233 22 [.ref 193, .int a1] (v.toList ++ []) M' Q)) ∧ (¬ as0 = (0 : Int32) → wp 232 0 [.ref 193, .int a1] [] (hs t, F, G) (fun v M' => wp 233 15 [.ref 193, .int a1] (v.toList ++ []) M' Q))) : wp 233 7 [.ref 193, .int a1] [.int as0] (hs t, F, G) Q := by
  refine wp_ifc (pc1 := 18) (c := .eq) rfl (fun hc => ?_) (fun hc => ?_)
  · replace h := h.1 hc
    refine wp_N (j' := 233) (pc' := 19) (L' := [.ref 193, .int a1]) (S' := [.ref 193]) (M' := (hs t, F, G)) 0 (fun _ => rfl) ?_
    refine wp_C (i := 140) (pc' := 22) (Li := [.ref 193]) (rest := []) (fun _ => rfl) h
  · replace h := h.2 hc
    refine wp_N (j' := 233) (pc' := 12) (L' := [.ref 193, .int a1]) (S' := [.int a1, .ref 193]) (M' := (hs t, F, G)) 1 (fun _ => rfl) ?_
    refine wp_C (i := 232) (pc' := 15) (Li := [.ref 193, .int a1]) (rest := []) (fun _ => rfl) h
theorem rg233_15 {t : Nat} {F : ip_F} {G : ip_G} {Q : Option Value → ip_M → Prop} {a1 as0 : Int32} (h : wp 233 22 [.ref 193, .int a1] [.int as0] (hs t, F, G) Q) : wp 233 15 [.ref 193, .int a1] [.int as0] (hs t, F, G) Q := by
  refine wp_N (j' := 233) (pc' := 22) (L' := [.ref 193, .int a1]) (S' := [.int as0]) (M' := (hs t, F, G)) 0 (fun _ => rfl) ?_
  exact h
theorem rg233_22 {t : Nat} {F : ip_F} {G : ip_G} {Q : Option Value → ip_M → Prop} {a1 as0 : Int32} (h : Q (some (.int as0)) (hs t, F, G)) : wp 233 22 [.ref 193, .int a1] [.int as0] (hs t, F, G) Q := by
  exact wp_RI rfl rfl h
theorem rg234_0 {t : Nat} {F : ip_F} {G : ip_G} {Q : Option Value → ip_M → Prop} {b1 : Int64} (h : Q none (hs t, F, (ip_ul G 193 30 (((31 : Int64) * (G 193 30)) + b1)))) : wp 234 0 [.ref 193, .long b1, .float 0] [] (hs t, F, G) Q := by
  refine wp_N (j' := 234) (pc' := 1) (L' := [.ref 193, .long b1, .float 0]) (S' := [.ref 193]) (M' := (hs t, F, G)) 0 (fun _ => rfl) ?_
  refine wp_ldc2 (v := (31 : Int64)) rfl rfl rfl ?_
  refine wp_N (j' := 234) (pc' := 8) (L' := [.ref 193, .long b1, .float 0]) (S' := [.long (G 193 30), .long (31 : Int64), .ref 193]) (M' := (hs t, F, G)) 1 (fun _ => rfl) ?_
  refine wp_lmul rfl ?_
  refine wp_N (j' := 234) (pc' := 10) (L' := [.ref 193, .long b1, .float 0]) (S' := [.long b1, .long ((31 : Int64) * (G 193 30)), .ref 193]) (M' := (hs t, F, G)) 0 (fun n9 => (show ∀ (z0 : Int64), ip_run none (n9 + 1) 234 9 [.ref 193, .long b1, .float 0] [.long z0, .ref 193] (hs t, F, G) (0, 0) = ip_run none n9 234 10 [.ref 193, .long b1, .float 0] [.long b1, .long z0, .ref 193] (hs t, F, G) (0, 0) from fun _ => rfl) ((31 : Int64) * (G 193 30))) ?_
  refine wp_ladd rfl ?_
  refine wp_putL rfl rfl rfl rfl rfl rfl (by decide) ?_
  exact wp_RV rfl rfl h
theorem rg235_0 {t : Nat} {F : ip_F} {G : ip_G} {Q : Option Value → ip_M → Prop} (h : wp 235 9 [.ref 193, .int (0 : Int32), .float 0] [] (hs t, F, (ip_ul G 193 30 (1549 : Int64))) Q) : wp 235 0 [.ref 193, .float 0, .float 0] [] (hs t, F, G) Q := by
  refine wp_N (j' := 235) (pc' := 1) (L' := [.ref 193, .float 0, .float 0]) (S' := [.ref 193]) (M' := (hs t, F, G)) 0 (fun _ => rfl) ?_
  refine wp_ldc2 (v := (1549 : Int64)) rfl rfl rfl ?_
  refine wp_putL rfl rfl rfl rfl rfl rfl (by decide) ?_
  refine wp_N (j' := 235) (pc' := 9) (L' := [.ref 193, .int (0 : Int32), .float 0]) (S' := []) (M' := (hs t, F, (ip_ul G 193 30 (1549 : Int64)))) 1 (fun _ => rfl) ?_
  exact h
theorem rg235_9 {t : Nat} {F : ip_F} {G : ip_G} {Q : Option Value → ip_M → Prop} {a1 : Int32} {v2 : Value} (h : ((9 : Int32) < a1 → wp 235 33 [.ref 193, .int (0 : Int32), v2] [] (hs t, F, G) Q) ∧ (a1 ≤ (9 : Int32) → wp 232 0 [.ref 193, .int a1] [] (hs t, F, G) (fun v M' => wp 235 21 [.ref 193, .int a1, v2] (v.toList ++ [.ref 193]) M' Q))) : wp 235 9 [.ref 193, .int a1, v2] [] (hs t, F, G) Q := by
  refine wp_N (j' := 235) (pc' := 12) (L' := [.ref 193, .int a1, v2]) (S' := [.int (9 : Int32), .int a1]) (M' := (hs t, F, G)) 1 (fun _ => rfl) ?_
  refine wp_icmp (pc1 := 31) (c := .gt) rfl (fun hc => ?_) (fun hc => ?_)
  · replace h := h.1 hc
    refine wp_N (j' := 235) (pc' := 33) (L' := [.ref 193, .int (0 : Int32), v2]) (S' := []) (M' := (hs t, F, G)) 1 (fun _ => rfl) ?_
    exact h
  · replace h := h.2 (Int32.not_lt.mp hc)
    refine wp_N (j' := 235) (pc' := 18) (L' := [.ref 193, .int a1, v2]) (S' := [.int a1, .ref 193, .ref 193]) (M' := (hs t, F, G)) 2 (fun _ => rfl) ?_
    refine wp_C (i := 232) (pc' := 21) (Li := [.ref 193, .int a1]) (rest := [.ref 193]) (fun _ => rfl) h
theorem rg235_21 {t : Nat} {F : ip_F} {G : ip_G} {Q : Option Value → ip_M → Prop} {a1 as1 : Int32} {v2 : Value} (h : wp 234 0 [.ref 193, .long as1.toInt64, .float 0] [] (hs t, F, G) (fun v M' => wp 235 25 [.ref 193, .int a1, v2] (v.toList ++ []) M' Q)) : wp 235 21 [.ref 193, .int a1, v2] [.int as1, .ref 193] (hs t, F, G) Q := by
  refine wp_N (j' := 235) (pc' := 22) (L' := [.ref 193, .int a1, v2]) (S' := [.long as1.toInt64, .ref 193]) (M' := (hs t, F, G)) 0 (fun _ => rfl) ?_
  refine wp_C (i := 234) (pc' := 25) (Li := [.ref 193, .long as1.toInt64, .float 0]) (rest := []) (fun _ => rfl) h
theorem rg235_25 {t : Nat} {F : ip_F} {G : ip_G} {Q : Option Value → ip_M → Prop} {a1 : Int32} {v2 : Value} (h : wp 235 9 [.ref 193, .int (a1 + (1 : Int32)), v2] [] (hs t, F, G) Q) : wp 235 25 [.ref 193, .int a1, v2] [] (hs t, F, G) Q := by
  refine wp_N (j' := 235) (pc' := 9) (L' := [.ref 193, .int (a1 + (1 : Int32)), v2]) (S' := []) (M' := (hs t, F, G)) 1 (fun _ => rfl) ?_
  exact h
theorem rg235_33 {t : Nat} {F : ip_F} {G : ip_G} {Q : Option Value → ip_M → Prop} {a1 : Int32} {v2 : Value} (h : ((6 : Int32) ≤ a1 → wp 235 58 [.ref 193, .int (0 : Int32), v2] [] (hs t, F, G) Q) ∧ (a1 < (6 : Int32) → (vp_in a1 6) ∧ (wp 234 0 [.ref 193, .long (F 195 (a1).toNatClampNeg).toInt64, .float 0] [] (hs t, F, G) (fun v M' => wp 235 50 [.ref 193, .int a1, v2] (v.toList ++ []) M' Q)))) : wp 235 33 [.ref 193, .int a1, v2] [] (hs t, F, G) Q := by
  refine wp_N (j' := 235) (pc' := 36) (L' := [.ref 193, .int a1, v2]) (S' := [.int (6 : Int32), .int a1]) (M' := (hs t, F, G)) 1 (fun _ => rfl) ?_
  refine wp_icmp (pc1 := 56) (c := .ge) rfl (fun hc => ?_) (fun hc => ?_)
  · replace h := h.1 hc
    refine wp_N (j' := 235) (pc' := 58) (L' := [.ref 193, .int (0 : Int32), v2]) (S' := []) (M' := (hs t, F, G)) 1 (fun _ => rfl) ?_
    exact h
  · replace h := h.2 (Int32.not_le.mp hc)
    refine wp_N (j' := 235) (pc' := 45) (L' := [.ref 193, .int a1, v2]) (S' := [.int a1, .ref 195, .ref 193]) (M' := (hs t, F, G)) 3 (fun _ => rfl) ?_
    obtain ⟨h1_, h⟩ := h
    refine wp_ial (m := (a1).toNatClampNeg) rfl rfl rfl h1_ ?_
    refine wp_N (j' := 235) (pc' := 47) (L' := [.ref 193, .int a1, v2]) (S' := [.long (F 195 (a1).toNatClampNeg).toInt64, .ref 193]) (M' := (hs t, F, G)) 0 (fun _ => rfl) ?_
    refine wp_C (i := 234) (pc' := 50) (Li := [.ref 193, .long (F 195 (a1).toNatClampNeg).toInt64, .float 0]) (rest := []) (fun n9 => (show ∀ (z0 : Int64), ip_run none (n9 + 1) 235 47 [.ref 193, .int a1, v2] [.long z0, .ref 193] (hs t, F, G) (0, 0) = (ip_run none n9 234 0 [.ref 193, .long z0, .float 0] [] (hs t, F, G) (0, 0)).bind fun r => ip_run none n9 235 50 [.ref 193, .int a1, v2] (r.1.toList ++ []) r.2 (0, 0) from fun _ => rfl) (F 195 (a1).toNatClampNeg).toInt64) h
theorem rg235_50 {t : Nat} {F : ip_F} {G : ip_G} {Q : Option Value → ip_M → Prop} {a1 : Int32} {v2 : Value} (h : wp 235 33 [.ref 193, .int (a1 + (1 : Int32)), v2] [] (hs t, F, G) Q) : wp 235 50 [.ref 193, .int a1, v2] [] (hs t, F, G) Q := by
  refine wp_N (j' := 235) (pc' := 33) (L' := [.ref 193, .int (a1 + (1 : Int32)), v2]) (S' := []) (M' := (hs t, F, G)) 1 (fun _ => rfl) ?_
  exact h
theorem rg235_58 {t : Nat} {F : ip_F} {G : ip_G} {Q : Option Value → ip_M → Prop} {a1 : Int32} {v2 : Value} (h : ((F 193 1) ≤ a1 → wp 235 98 [.ref 193, .int (0 : Int32), v2] [] (hs t, F, G) Q) ∧ (a1 < (F 193 1) → wp 235 68 [.ref 193, .int a1, .int (0 : Int32)] [] (hs t, F, G) Q)) : wp 235 58 [.ref 193, .int a1, v2] [] (hs t, F, G) Q := by
  refine wp_N (j' := 235) (pc' := 63) (L' := [.ref 193, .int a1, v2]) (S' := [.int (F 193 1), .int a1]) (M' := (hs t, F, G)) 2 (fun _ => rfl) ?_
  refine wp_icmp (pc1 := 96) (c := .ge) rfl (fun hc => ?_) (fun hc => ?_)
  · replace h := h.1 hc
    refine wp_N (j' := 235) (pc' := 98) (L' := [.ref 193, .int (0 : Int32), v2]) (S' := []) (M' := (hs t, F, G)) 1 (fun _ => rfl) ?_
    exact h
  · replace h := h.2 (Int32.not_le.mp hc)
    refine wp_N (j' := 235) (pc' := 68) (L' := [.ref 193, .int a1, .int (0 : Int32)]) (S' := []) (M' := (hs t, F, G)) 1 (fun _ => rfl) ?_
    exact h
theorem rg235_68 {t : Nat} {F : ip_F} {G : ip_G} {Q : Option Value → ip_M → Prop} {a1 a2 : Int32} (h : ((3 : Int32) < a2 → wp 235 58 [.ref 193, .int (a1 + (1 : Int32)), .int a2] [] (hs t, F, G) Q) ∧ (a2 ≤ (3 : Int32) → wp 196 0 [.ref 193, .int a1, .int a2] [] (hs t, F, G) (fun v M' => wp 235 80 [.ref 193, .int a1, .int a2] (v.toList ++ [.ref 193]) M' Q))) : wp 235 68 [.ref 193, .int a1, .int a2] [] (hs t, F, G) Q := by
  refine wp_N (j' := 235) (pc' := 70) (L' := [.ref 193, .int a1, .int a2]) (S' := [.int (3 : Int32), .int a2]) (M' := (hs t, F, G)) 1 (fun _ => rfl) ?_
  refine wp_icmp (pc1 := 90) (c := .gt) rfl (fun hc => ?_) (fun hc => ?_)
  · replace h := h.1 hc
    refine wp_N (j' := 235) (pc' := 58) (L' := [.ref 193, .int (a1 + (1 : Int32)), .int a2]) (S' := []) (M' := (hs t, F, G)) 1 (fun _ => rfl) ?_
    exact h
  · replace h := h.2 (Int32.not_lt.mp hc)
    refine wp_N (j' := 235) (pc' := 77) (L' := [.ref 193, .int a1, .int a2]) (S' := [.int a2, .int a1, .ref 193, .ref 193]) (M' := (hs t, F, G)) 3 (fun _ => rfl) ?_
    refine wp_C (i := 196) (pc' := 80) (Li := [.ref 193, .int a1, .int a2]) (rest := [.ref 193]) (fun _ => rfl) h
theorem rg235_80 {t : Nat} {F : ip_F} {G : ip_G} {Q : Option Value → ip_M → Prop} {a1 a2 as1 : Int32} (h : wp 234 0 [.ref 193, .long as1.toInt64, .float 0] [] (hs t, F, G) (fun v M' => wp 235 84 [.ref 193, .int a1, .int a2] (v.toList ++ []) M' Q)) : wp 235 80 [.ref 193, .int a1, .int a2] [.int as1, .ref 193] (hs t, F, G) Q := by
  refine wp_N (j' := 235) (pc' := 81) (L' := [.ref 193, .int a1, .int a2]) (S' := [.long as1.toInt64, .ref 193]) (M' := (hs t, F, G)) 0 (fun _ => rfl) ?_
  refine wp_C (i := 234) (pc' := 84) (Li := [.ref 193, .long as1.toInt64, .float 0]) (rest := []) (fun _ => rfl) h
theorem rg235_84 {t : Nat} {F : ip_F} {G : ip_G} {Q : Option Value → ip_M → Prop} {a1 a2 : Int32} (h : wp 235 68 [.ref 193, .int a1, .int (a2 + (1 : Int32))] [] (hs t, F, G) Q) : wp 235 84 [.ref 193, .int a1, .int a2] [] (hs t, F, G) Q := by
  refine wp_N (j' := 235) (pc' := 68) (L' := [.ref 193, .int a1, .int (a2 + (1 : Int32))]) (S' := []) (M' := (hs t, F, G)) 1 (fun _ => rfl) ?_
  exact h
theorem rg235_98 {t : Nat} {F : ip_F} {G : ip_G} {Q : Option Value → ip_M → Prop} {a1 : Int32} {v2 : Value} (h : (((2 : Int32) * (F 193 3)) ≤ a1 → wp 235 127 [.ref 193, .int (0 : Int32), v2] [] (hs t, F, G) Q) ∧ (a1 < ((2 : Int32) * (F 193 3)) → (vp_in a1 8) ∧ (wp 234 0 [.ref 193, .long (F 200 (a1).toNatClampNeg).toInt64, .float 0] [] (hs t, F, G) (fun v M' => wp 235 119 [.ref 193, .int a1, v2] (v.toList ++ []) M' Q)))) : wp 235 98 [.ref 193, .int a1, v2] [] (hs t, F, G) Q := by
  refine wp_N (j' := 235) (pc' := 105) (L' := [.ref 193, .int a1, v2]) (S' := [.int ((2 : Int32) * (F 193 3)), .int a1]) (M' := (hs t, F, G)) 4 (fun _ => rfl) ?_
  refine wp_icmp (pc1 := 125) (c := .ge) rfl (fun hc => ?_) (fun hc => ?_)
  · replace h := h.1 hc
    refine wp_N (j' := 235) (pc' := 127) (L' := [.ref 193, .int (0 : Int32), v2]) (S' := []) (M' := (hs t, F, G)) 1 (fun _ => rfl) ?_
    exact h
  · replace h := h.2 (Int32.not_le.mp hc)
    refine wp_N (j' := 235) (pc' := 114) (L' := [.ref 193, .int a1, v2]) (S' := [.int a1, .ref 200, .ref 193]) (M' := (hs t, F, G)) 3 (fun _ => rfl) ?_
    obtain ⟨h1_, h⟩ := h
    refine wp_ial (m := (a1).toNatClampNeg) rfl rfl rfl h1_ ?_
    refine wp_N (j' := 235) (pc' := 116) (L' := [.ref 193, .int a1, v2]) (S' := [.long (F 200 (a1).toNatClampNeg).toInt64, .ref 193]) (M' := (hs t, F, G)) 0 (fun _ => rfl) ?_
    refine wp_C (i := 234) (pc' := 119) (Li := [.ref 193, .long (F 200 (a1).toNatClampNeg).toInt64, .float 0]) (rest := []) (fun n9 => (show ∀ (z0 : Int64), ip_run none (n9 + 1) 235 116 [.ref 193, .int a1, v2] [.long z0, .ref 193] (hs t, F, G) (0, 0) = (ip_run none n9 234 0 [.ref 193, .long z0, .float 0] [] (hs t, F, G) (0, 0)).bind fun r => ip_run none n9 235 119 [.ref 193, .int a1, v2] (r.1.toList ++ []) r.2 (0, 0) from fun _ => rfl) (F 200 (a1).toNatClampNeg).toInt64) h
theorem rg235_119 {t : Nat} {F : ip_F} {G : ip_G} {Q : Option Value → ip_M → Prop} {a1 : Int32} {v2 : Value} (h : wp 235 98 [.ref 193, .int (a1 + (1 : Int32)), v2] [] (hs t, F, G) Q) : wp 235 119 [.ref 193, .int a1, v2] [] (hs t, F, G) Q := by
  refine wp_N (j' := 235) (pc' := 98) (L' := [.ref 193, .int (a1 + (1 : Int32)), v2]) (S' := []) (M' := (hs t, F, G)) 1 (fun _ => rfl) ?_
  exact h
theorem rg235_127 {t : Nat} {F : ip_F} {G : ip_G} {Q : Option Value → ip_M → Prop} {a1 : Int32} {v2 : Value} (h : (((3 : Int32) * (F 193 4)) ≤ a1 → wp 235 156 [.ref 193, .int (0 : Int32), v2] [] (hs t, F, G) Q) ∧ (a1 < ((3 : Int32) * (F 193 4)) → (vp_in a1 18) ∧ (wp 234 0 [.ref 193, .long (F 201 (a1).toNatClampNeg).toInt64, .float 0] [] (hs t, F, G) (fun v M' => wp 235 148 [.ref 193, .int a1, v2] (v.toList ++ []) M' Q)))) : wp 235 127 [.ref 193, .int a1, v2] [] (hs t, F, G) Q := by
  refine wp_N (j' := 235) (pc' := 134) (L' := [.ref 193, .int a1, v2]) (S' := [.int ((3 : Int32) * (F 193 4)), .int a1]) (M' := (hs t, F, G)) 4 (fun _ => rfl) ?_
  refine wp_icmp (pc1 := 154) (c := .ge) rfl (fun hc => ?_) (fun hc => ?_)
  · replace h := h.1 hc
    refine wp_N (j' := 235) (pc' := 156) (L' := [.ref 193, .int (0 : Int32), v2]) (S' := []) (M' := (hs t, F, G)) 1 (fun _ => rfl) ?_
    exact h
  · replace h := h.2 (Int32.not_le.mp hc)
    refine wp_N (j' := 235) (pc' := 143) (L' := [.ref 193, .int a1, v2]) (S' := [.int a1, .ref 201, .ref 193]) (M' := (hs t, F, G)) 3 (fun _ => rfl) ?_
    obtain ⟨h1_, h⟩ := h
    refine wp_ial (m := (a1).toNatClampNeg) rfl rfl rfl h1_ ?_
    refine wp_N (j' := 235) (pc' := 145) (L' := [.ref 193, .int a1, v2]) (S' := [.long (F 201 (a1).toNatClampNeg).toInt64, .ref 193]) (M' := (hs t, F, G)) 0 (fun _ => rfl) ?_
    refine wp_C (i := 234) (pc' := 148) (Li := [.ref 193, .long (F 201 (a1).toNatClampNeg).toInt64, .float 0]) (rest := []) (fun n9 => (show ∀ (z0 : Int64), ip_run none (n9 + 1) 235 145 [.ref 193, .int a1, v2] [.long z0, .ref 193] (hs t, F, G) (0, 0) = (ip_run none n9 234 0 [.ref 193, .long z0, .float 0] [] (hs t, F, G) (0, 0)).bind fun r => ip_run none n9 235 148 [.ref 193, .int a1, v2] (r.1.toList ++ []) r.2 (0, 0) from fun _ => rfl) (F 201 (a1).toNatClampNeg).toInt64) h
theorem rg235_148 {t : Nat} {F : ip_F} {G : ip_G} {Q : Option Value → ip_M → Prop} {a1 : Int32} {v2 : Value} (h : wp 235 127 [.ref 193, .int (a1 + (1 : Int32)), v2] [] (hs t, F, G) Q) : wp 235 148 [.ref 193, .int a1, v2] [] (hs t, F, G) Q := by
  refine wp_N (j' := 235) (pc' := 127) (L' := [.ref 193, .int (a1 + (1 : Int32)), v2]) (S' := []) (M' := (hs t, F, G)) 1 (fun _ => rfl) ?_
  exact h
theorem rg235_156 {t : Nat} {F : ip_F} {G : ip_G} {Q : Option Value → ip_M → Prop} {a1 : Int32} {v2 : Value} (h : (((4 : Int32) * (F 193 5)) ≤ a1 → wp 234 0 [.ref 193, .long (G 193 26), .float 0] [] (hs t, F, G) (fun v M' => wp 235 191 [.ref 193, .int a1, v2] (v.toList ++ []) M' Q)) ∧ (a1 < ((4 : Int32) * (F 193 5)) → (vp_in a1 24) ∧ (wp 234 0 [.ref 193, .long (F 202 (a1).toNatClampNeg).toInt64, .float 0] [] (hs t, F, G) (fun v M' => wp 235 177 [.ref 193, .int a1, v2] (v.toList ++ []) M' Q)))) : wp 235 156 [.ref 193, .int a1, v2] [] (hs t, F, G) Q := by
  refine wp_N (j' := 235) (pc' := 163) (L' := [.ref 193, .int a1, v2]) (S' := [.int ((4 : Int32) * (F 193 5)), .int a1]) (M' := (hs t, F, G)) 4 (fun _ => rfl) ?_
  refine wp_icmp (pc1 := 183) (c := .ge) rfl (fun hc => ?_) (fun hc => ?_)
  · replace h := h.1 hc
    refine wp_N (j' := 235) (pc' := 188) (L' := [.ref 193, .int a1, v2]) (S' := [.long (G 193 26), .ref 193]) (M' := (hs t, F, G)) 2 (fun _ => rfl) ?_
    refine wp_C (i := 234) (pc' := 191) (Li := [.ref 193, .long (G 193 26), .float 0]) (rest := []) (fun _ => rfl) h
  · replace h := h.2 (Int32.not_le.mp hc)
    refine wp_N (j' := 235) (pc' := 172) (L' := [.ref 193, .int a1, v2]) (S' := [.int a1, .ref 202, .ref 193]) (M' := (hs t, F, G)) 3 (fun _ => rfl) ?_
    obtain ⟨h1_, h⟩ := h
    refine wp_ial (m := (a1).toNatClampNeg) rfl rfl rfl h1_ ?_
    refine wp_N (j' := 235) (pc' := 174) (L' := [.ref 193, .int a1, v2]) (S' := [.long (F 202 (a1).toNatClampNeg).toInt64, .ref 193]) (M' := (hs t, F, G)) 0 (fun _ => rfl) ?_
    refine wp_C (i := 234) (pc' := 177) (Li := [.ref 193, .long (F 202 (a1).toNatClampNeg).toInt64, .float 0]) (rest := []) (fun n9 => (show ∀ (z0 : Int64), ip_run none (n9 + 1) 235 174 [.ref 193, .int a1, v2] [.long z0, .ref 193] (hs t, F, G) (0, 0) = (ip_run none n9 234 0 [.ref 193, .long z0, .float 0] [] (hs t, F, G) (0, 0)).bind fun r => ip_run none n9 235 177 [.ref 193, .int a1, v2] (r.1.toList ++ []) r.2 (0, 0) from fun _ => rfl) (F 202 (a1).toNatClampNeg).toInt64) h
theorem rg235_177 {t : Nat} {F : ip_F} {G : ip_G} {Q : Option Value → ip_M → Prop} {a1 : Int32} {v2 : Value} (h : wp 235 156 [.ref 193, .int (a1 + (1 : Int32)), v2] [] (hs t, F, G) Q) : wp 235 177 [.ref 193, .int a1, v2] [] (hs t, F, G) Q := by
  refine wp_N (j' := 235) (pc' := 156) (L' := [.ref 193, .int (a1 + (1 : Int32)), v2]) (S' := []) (M' := (hs t, F, G)) 1 (fun _ => rfl) ?_
  exact h
theorem rg235_191 {t : Nat} {F : ip_F} {G : ip_G} {Q : Option Value → ip_M → Prop} {a1 : Int32} {v2 : Value} (h : wp 234 0 [.ref 193, .long (G 193 27), .float 0] [] (hs t, F, G) (fun v M' => wp 235 199 [.ref 193, .int a1, v2] (v.toList ++ []) M' Q)) : wp 235 191 [.ref 193, .int a1, v2] [] (hs t, F, G) Q := by
  refine wp_N (j' := 235) (pc' := 196) (L' := [.ref 193, .int a1, v2]) (S' := [.long (G 193 27), .ref 193]) (M' := (hs t, F, G)) 2 (fun _ => rfl) ?_
  refine wp_C (i := 234) (pc' := 199) (Li := [.ref 193, .long (G 193 27), .float 0]) (rest := []) (fun _ => rfl) h
theorem rg235_199 {t : Nat} {F : ip_F} {G : ip_G} {Q : Option Value → ip_M → Prop} {a1 : Int32} {v2 : Value} (h : Q (some (.long (G 193 30))) (hs t, F, G)) : wp 235 199 [.ref 193, .int a1, v2] [] (hs t, F, G) Q := by
  refine wp_N (j' := 235) (pc' := 203) (L' := [.ref 193, .int a1, v2]) (S' := [.long (G 193 30)]) (M' := (hs t, F, G)) 1 (fun _ => rfl) ?_
  exact wp_RL rfl rfl h
