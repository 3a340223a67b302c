/-! ===== regions of code, on ===== -/
theorem rg35_0 {t : Nat} {F : ip_F} {G : ip_G} {Q : Option Value → ip_M → Prop} (h : wp 89 0 [.ref 65, .int (5 : Int32)] [] (hs 62, (ip_u F 64 5 (0 : Int32)), G) (fun v M' => wp 35 18 [.ref 64, .ref 62, .float 0] (v.toList ++ []) M' Q)) : wp 35 0 [.ref 64, .ref 62, .float 0] [] (hs t, F, G) Q := by
  refine wp_N (j' := 35) (pc' := 7) (L' := [.ref 64, .ref 62, .float 0]) (S' := [.int (0 : Int32), .ref 64]) (M' := (hs 62, F, G)) 4 (fun _ => rfl) ?_
  refine wp_putI rfl rfl rfl rfl rfl rfl (by decide) ?_
  refine wp_N (j' := 35) (pc' := 15) (L' := [.ref 64, .ref 62, .float 0]) (S' := [.int (5 : Int32), .ref 65]) (M' := (hs 62, (ip_u F 64 5 (0 : Int32)), G)) 2 (fun _ => rfl) ?_
  refine wp_C (i := 89) (pc' := 18) (Li := [.ref 65, .int (5 : Int32)]) (rest := []) (fun _ => rfl) h
theorem rg35_18 {t : Nat} {F : ip_F} {G : ip_G} {Q : Option Value → ip_M → Prop} {v2 : Value} (h : wp 35 20 [.ref 64, .ref 62, .int (0 : Int32)] [] (hs 62, F, G) Q) : wp 35 18 [.ref 64, .ref 62, v2] [] (hs 62, F, G) Q := by
  refine wp_N (j' := 35) (pc' := 20) (L' := [.ref 64, .ref 62, .int (0 : Int32)]) (S' := []) (M' := (hs 62, F, G)) 1 (fun _ => rfl) ?_
  exact h
theorem rg35_20 {t : Nat} {F : ip_F} {G : ip_G} {Q : Option Value → ip_M → Prop} {a2 : Int32} (h : ((150 : Int32) < a2 → Q (some (.int ((-10 : Int32) - (F 64 4)))) (hs 62, F, G)) ∧ (a2 ≤ (150 : Int32) → wp 40 0 [.ref 64, .float 0] [] (hs 62, F, G) (fun v M' => wp 35 31 [.ref 64, .ref 62, .int a2] (v.toList ++ []) M' Q))) : wp 35 20 [.ref 64, .ref 62, .int a2] [] (hs 62, F, G) Q := by
  refine wp_N (j' := 35) (pc' := 24) (L' := [.ref 64, .ref 62, .int a2]) (S' := [.int (150 : Int32), .int a2]) (M' := (hs 62, F, G)) 1 (fun _ => rfl) ?_
  refine wp_icmp (pc1 := 74) (c := .gt) rfl (fun hc => ?_) (fun hc => ?_)
  · replace h := h.1 hc
    refine wp_N (j' := 35) (pc' := 81) (L' := [.ref 64, .ref 62, .int a2]) (S' := [.int ((-10 : Int32) - (F 64 4))]) (M' := (hs 62, F, G)) 3 (fun _ => rfl) ?_
    exact wp_RI rfl rfl h
  · replace h := h.2 (Int32.not_lt.mp hc)
    refine wp_N (j' := 35) (pc' := 28) (L' := [.ref 64, .ref 62, .int a2]) (S' := [.ref 64]) (M' := (hs 62, F, G)) 0 (fun _ => rfl) ?_
    refine wp_C (i := 40) (pc' := 31) (Li := [.ref 64, .float 0]) (rest := []) (fun _ => rfl) h
theorem rg35_31 {t : Nat} {F : ip_F} {G : ip_G} {Q : Option Value → ip_M → Prop} {a2 : Int32} (h : (¬ (F 64 3) = (0 : Int32) → wp 35 44 [.ref 64, .ref 62, .int a2] [] (hs 62, F, G) Q) ∧ ((F 64 3) = (0 : Int32) → (a2 ≤ (0 : Int32) → wp 35 44 [.ref 64, .ref 62, .int a2] [] (hs 62, F, G) Q) ∧ ((0 : Int32) < a2 → Q (some (.int a2)) (hs 62, F, G)))) : wp 35 31 [.ref 64, .ref 62, .int a2] [] (hs 62, F, G) Q := by
  refine wp_N (j' := 35) (pc' := 35) (L' := [.ref 64, .ref 62, .int a2]) (S' := [.int (F 64 3)]) (M' := (hs 62, F, G)) 1 (fun _ => rfl) ?_
  refine wp_ifc (pc1 := 44) (c := .ne) rfl (fun hc => ?_) (fun hc => ?_)
  · replace h := h.1 hc
    exact h
  · replace h := h.2 (Decidable.not_not.mp hc)
    refine wp_N (j' := 35) (pc' := 39) (L' := [.ref 64, .ref 62, .int a2]) (S' := [.int a2]) (M' := (hs 62, F, G)) 0 (fun _ => rfl) ?_
    refine wp_ifc (pc1 := 44) (c := .le) rfl (fun hc => ?_) (fun hc => ?_)
    · replace h := h.1 hc
      exact h
    · replace h := h.2 (Int32.not_le.mp hc)
      refine wp_N (j' := 35) (pc' := 43) (L' := [.ref 64, .ref 62, .int a2]) (S' := [.int a2]) (M' := (hs 62, F, G)) 0 (fun _ => rfl) ?_
      exact wp_RI rfl rfl h
theorem rg35_44 {t : Nat} {F : ip_F} {G : ip_G} {Q : Option Value → ip_M → Prop} {a2 : Int32} (h : (¬ a2 = (0 : Int32) → wp 35 54 [.ref 64, .ref 62, .int a2] [.int (0 : Int32), .ref 64] (hs 62, F, G) Q) ∧ (a2 = (0 : Int32) → wp 35 54 [.ref 64, .ref 62, .int a2] [.int (1 : Int32), .ref 64] (hs 62, F, G) Q)) : wp 35 44 [.ref 64, .ref 62, .int a2] [] (hs 62, F, G) Q := by
  refine wp_N (j' := 35) (pc' := 46) (L' := [.ref 64, .ref 62, .int a2]) (S' := [.int a2, .ref 64]) (M' := (hs 62, F, G)) 1 (fun _ => rfl) ?_
  refine wp_ifc (pc1 := 53) (c := .ne) rfl (fun hc => ?_) (fun hc => ?_)
  · replace h := h.1 hc
    refine wp_N (j' := 35) (pc' := 54) (L' := [.ref 64, .ref 62, .int a2]) (S' := [.int (0 : Int32), .ref 64]) (M' := (hs 62, F, G)) 0 (fun _ => rfl) ?_
    exact h
  · replace h := h.2 (Decidable.not_not.mp hc)
    refine wp_N (j' := 35) (pc' := 54) (L' := [.ref 64, .ref 62, .int a2]) (S' := [.int (1 : Int32), .ref 64]) (M' := (hs 62, F, G)) 1 (fun _ => rfl) ?_
    exact h
theorem rg35_54 {t : Nat} {F : ip_F} {G : ip_G} {Q : Option Value → ip_M → Prop} {a2 as1 : Int32} (h : wp 36 0 [.ref 64, .int as1, .float 0, .float 0, .float 0] [] (hs 62, F, G) (fun v M' => wp 35 57 [.ref 64, .ref 62, .int a2] (v.toList ++ []) M' Q)) : wp 35 54 [.ref 64, .ref 62, .int a2] [.int as1, .ref 64] (hs 62, F, G) Q := by
  refine wp_C (i := 36) (pc' := 57) (Li := [.ref 64, .int as1, .float 0, .float 0, .float 0]) (rest := []) (fun _ => rfl) h
theorem rg35_57 {t : Nat} {F : ip_F} {G : ip_G} {Q : Option Value → ip_M → Prop} {a2 as0 : Int32} (h : (¬ as0 = (0 : Int32) → wp 35 20 [.ref 64, .ref 62, .int (a2 + (1 : Int32))] [] (hs 62, F, G) Q) ∧ (as0 = (0 : Int32) → Q (some (.int ((-10 : Int32) - (F 64 4)))) (hs 62, F, G))) : wp 35 57 [.ref 64, .ref 62, .int a2] [.int as0] (hs 62, F, G) Q := by
  refine wp_ifc (pc1 := 68) (c := .ne) rfl (fun hc => ?_) (fun hc => ?_)
  · replace h := h.1 hc
    refine wp_N (j' := 35) (pc' := 20) (L' := [.ref 64, .ref 62, .int (a2 + (1 : Int32))]) (S' := []) (M' := (hs 62, F, G)) 1 (fun _ => rfl) ?_
    exact h
  · replace h := h.2 (Decidable.not_not.mp hc)
    refine wp_N (j' := 35) (pc' := 67) (L' := [.ref 64, .ref 62, .int a2]) (S' := [.int ((-10 : Int32) - (F 64 4))]) (M' := (hs 62, F, G)) 3 (fun _ => rfl) ?_
    exact wp_RI rfl rfl h
theorem rg36_0 {t : Nat} {F : ip_F} {G : ip_G} {Q : Option Value → ip_M → Prop} {a1 : Int32} (h : (¬ (F 64 3) = (1 : Int32) → Q (some (.int (0 : Int32))) (hs 62, F, G)) ∧ ((F 64 3) = (1 : Int32) → ((F 64 6) = (-1 : Int32) → Q (some (.int (0 : Int32))) (hs 62, F, G)) ∧ (¬ (F 64 6) = (-1 : Int32) → (¬ (F 64 6) = (0 : Int32) → wp 36 28 [.ref 64, .int a1, .int (F 64 6), .float 0, .float 0] [.int (0 : Int32), .int a1] (hs 62, F, G) Q) ∧ ((F 64 6) = (0 : Int32) → wp 36 28 [.ref 64, .int a1, .int (F 64 6), .float 0, .float 0] [.int (1 : Int32), .int a1] (hs 62, F, G) Q)))) : wp 36 0 [.ref 64, .int a1, .float 0, .float 0, .float 0] [] (hs 62, F, G) Q := by
  refine wp_N (j' := 36) (pc' := 10) (L' := [.ref 64, .int a1, .int (F 64 6), .float 0, .float 0]) (S' := [.int (1 : Int32), .int (F 64 3)]) (M' := (hs 62, F, G)) 5 (fun _ => rfl) ?_
  refine wp_icmp (pc1 := 31) (c := .ne) rfl (fun hc => ?_) (fun hc => ?_)
  · replace h := h.1 hc
    refine wp_N (j' := 36) (pc' := 32) (L' := [.ref 64, .int a1, .int (F 64 6), .float 0, .float 0]) (S' := [.int (0 : Int32)]) (M' := (hs 62, F, G)) 0 (fun _ => rfl) ?_
    exact wp_RZ rfl rfl (by decide) h
  · replace h := h.2 (Decidable.not_not.mp hc)
    refine wp_N (j' := 36) (pc' := 15) (L' := [.ref 64, .int a1, .int (F 64 6), .float 0, .float 0]) (S' := [.int (-1 : Int32), .int (F 64 6)]) (M' := (hs 62, F, G)) 1 (fun _ => rfl) ?_
    refine wp_icmp (pc1 := 31) (c := .eq) rfl (fun hc => ?_) (fun hc => ?_)
    · replace h := h.1 hc
      refine wp_N (j' := 36) (pc' := 32) (L' := [.ref 64, .int a1, .int (F 64 6), .float 0, .float 0]) (S' := [.int (0 : Int32)]) (M' := (hs 62, F, G)) 0 (fun _ => rfl) ?_
      exact wp_RZ rfl rfl (by decide) h
    · replace h := h.2 hc
      refine wp_N (j' := 36) (pc' := 20) (L' := [.ref 64, .int a1, .int (F 64 6), .float 0, .float 0]) (S' := [.int (F 64 6), .int a1]) (M' := (hs 62, F, G)) 1 (fun _ => rfl) ?_
      refine wp_ifc (pc1 := 27) (c := .ne) rfl (fun hc => ?_) (fun hc => ?_)
      · replace h := h.1 hc
        refine wp_N (j' := 36) (pc' := 28) (L' := [.ref 64, .int a1, .int (F 64 6), .float 0, .float 0]) (S' := [.int (0 : Int32), .int a1]) (M' := (hs 62, F, G)) 0 (fun _ => rfl) ?_
        exact h
      · replace h := h.2 (Decidable.not_not.mp hc)
        refine wp_N (j' := 36) (pc' := 28) (L' := [.ref 64, .int a1, .int (F 64 6), .float 0, .float 0]) (S' := [.int (1 : Int32), .int a1]) (M' := (hs 62, F, G)) 1 (fun _ => rfl) ?_
        exact h
theorem rg36_28 {t : Nat} {F : ip_F} {G : ip_G} {Q : Option Value → ip_M → Prop} {a1 a2 as0 as1 : Int32} {v3 v4 : Value} (h : (as0 = as1 → wp 37 0 [.int a2] [] (hs 62, F, G) (fun v M' => wp 36 37 [.ref 64, .int a1, .int a2, v3, v4] (v.toList ++ []) M' Q)) ∧ (¬ as0 = as1 → Q (some (.int (0 : Int32))) (hs 62, F, G))) : wp 36 28 [.ref 64, .int a1, .int a2, v3, v4] [.int as1, .int as0] (hs 62, F, G) Q := by
  refine wp_icmp (pc1 := 33) (c := .eq) rfl (fun hc => ?_) (fun hc => ?_)
  · replace h := h.1 hc
    refine wp_N (j' := 36) (pc' := 34) (L' := [.ref 64, .int a1, .int a2, v3, v4]) (S' := [.int a2]) (M' := (hs 62, F, G)) 0 (fun _ => rfl) ?_
    refine wp_C (i := 37) (pc' := 37) (Li := [.int a2]) (rest := []) (fun _ => rfl) h
  · replace h := h.2 hc
    refine wp_N (j' := 36) (pc' := 32) (L' := [.ref 64, .int a1, .int a2, v3, v4]) (S' := [.int (0 : Int32)]) (M' := (hs 62, F, G)) 0 (fun _ => rfl) ?_
    exact wp_RZ rfl rfl (by decide) h
theorem rg36_37 {t : Nat} {F : ip_F} {G : ip_G} {Q : Option Value → ip_M → Prop} {a1 a2 as0 : Int32} {v3 v4 : Value} (h : wp 36 41 [.ref 64, .int a1, .int a2, .int as0, .int (0 : Int32)] [] (hs 62, F, G) Q) : wp 36 37 [.ref 64, .int a1, .int a2, v3, v4] [.int as0] (hs 62, F, G) Q := by
  refine wp_N (j' := 36) (pc' := 41) (L' := [.ref 64, .int a1, .int a2, .int as0, .int (0 : Int32)]) (S' := []) (M' := (hs 62, F, G)) 2 (fun _ => rfl) ?_
  exact h
theorem rg36_41 {t : Nat} {F : ip_F} {G : ip_G} {Q : Option Value → ip_M → Prop} {a1 a2 a3 a4 : Int32} (h : (a3 ≤ a4 → wp 36 98 [.ref 64, .int a1, .int a2, .int a3, .int a4] [] (hs 62, F, G) Q) ∧ (a4 < a3 → ((6 : Int32) ≤ a4 → wp 36 98 [.ref 64, .int a1, .int a2, .int a3, .int a4] [] (hs 62, F, G) Q) ∧ (a4 < (6 : Int32) → wp 40 0 [.ref 64, .float 0] [] (hs 62, F, G) (fun v M' => wp 36 61 [.ref 64, .int a1, .int a2, .int a3, .int a4] (v.toList ++ []) M' Q)))) : wp 36 41 [.ref 64, .int a1, .int a2, .int a3, .int a4] [] (hs 62, F, G) Q := by
  refine wp_N (j' := 36) (pc' := 44) (L' := [.ref 64, .int a1, .int a2, .int a3, .int a4]) (S' := [.int a3, .int a4]) (M' := (hs 62, F, G)) 1 (fun _ => rfl) ?_
  refine wp_icmp (pc1 := 98) (c := .ge) rfl (fun hc => ?_) (fun hc => ?_)
  · replace h := h.1 hc
    exact h
  · replace h := h.2 (Int32.not_le.mp hc)
    refine wp_N (j' := 36) (pc' := 53) (L' := [.ref 64, .int a1, .int a2, .int a3, .int a4]) (S' := [.ref 85, .int a4]) (M' := (hs 62, F, G)) 2 (fun _ => rfl) ?_
    refine wp_len rfl rfl (by decide) ?_
    refine wp_icmp (pc1 := 98) (c := .ge) rfl (fun hc => ?_) (fun hc => ?_)
    · replace h := h.1 hc
      exact h
    · replace h := h.2 (Int32.not_le.mp hc)
      refine wp_N (j' := 36) (pc' := 58) (L' := [.ref 64, .int a1, .int a2, .int a3, .int a4]) (S' := [.ref 64]) (M' := (hs 62, F, G)) 0 (fun _ => rfl) ?_
      refine wp_C (i := 40) (pc' := 61) (Li := [.ref 64, .float 0]) (rest := []) (fun _ => rfl) h
theorem rg36_61 {t : Nat} {F : ip_F} {G : ip_G} {Q : Option Value → ip_M → Prop} {a1 a2 a3 a4 : Int32} (h : (¬ (F 64 3) = (2 : Int32) → Q (some (.int (0 : Int32))) (hs 62, F, G)) ∧ ((F 64 3) = (2 : Int32) → wp 38 0 [.ref 64, .int a2, .int a4] [] (hs 62, F, G) (fun v M' => wp 36 76 [.ref 64, .int a1, .int a2, .int a3, .int a4] (v.toList ++ []) M' Q))) : wp 36 61 [.ref 64, .int a1, .int a2, .int a3, .int a4] [] (hs 62, F, G) Q := by
  refine wp_N (j' := 36) (pc' := 66) (L' := [.ref 64, .int a1, .int a2, .int a3, .int a4]) (S' := [.int (2 : Int32), .int (F 64 3)]) (M' := (hs 62, F, G)) 2 (fun _ => rfl) ?_
  refine wp_icmp (pc1 := 79) (c := .ne) rfl (fun hc => ?_) (fun hc => ?_)
  · replace h := h.1 hc
    refine wp_N (j' := 36) (pc' := 80) (L' := [.ref 64, .int a1, .int a2, .int a3, .int a4]) (S' := [.int (0 : Int32)]) (M' := (hs 62, F, G)) 0 (fun _ => rfl) ?_
    exact wp_RZ rfl rfl (by decide) h
  · replace h := h.2 (Decidable.not_not.mp hc)
    refine wp_N (j' := 36) (pc' := 73) (L' := [.ref 64, .int a1, .int a2, .int a3, .int a4]) (S' := [.int a4, .int a2, .ref 64]) (M' := (hs 62, F, G)) 2 (fun _ => rfl) ?_
    refine wp_C (i := 38) (pc' := 76) (Li := [.ref 64, .int a2, .int a4]) (rest := []) (fun _ => rfl) h
theorem rg36_76 {t : Nat} {F : ip_F} {G : ip_G} {Q : Option Value → ip_M → Prop} {a1 a2 a3 a4 as0 : Int32} (h : (¬ as0 = (0 : Int32) → (vp_in a4 6) ∧ (wp 36 41 [.ref 64, .int a1, .int a2, .int a3, .int (a4 + (1 : Int32))] [] (hs 62, (ip_u F 85 (a4).toNatClampNeg (F 64 6)), G) Q)) ∧ (as0 = (0 : Int32) → Q (some (.int (0 : Int32))) (hs 62, F, G))) : wp 36 76 [.ref 64, .int a1, .int a2, .int a3, .int a4] [.int as0] (hs 62, F, G) Q := by
  refine wp_ifc (pc1 := 81) (c := .ne) rfl (fun hc => ?_) (fun hc => ?_)
  · replace h := h.1 hc
    refine wp_N (j' := 36) (pc' := 91) (L' := [.ref 64, .int a1, .int a2, .int a3, .int a4]) (S' := [.int (F 64 6), .int a4, .ref 85]) (M' := (hs 62, F, G)) 4 (fun _ => rfl) ?_
    obtain ⟨h1_, h⟩ := h
    refine wp_ias (m := (a4).toNatClampNeg) rfl rfl rfl h1_ ?_
    refine wp_N (j' := 36) (pc' := 41) (L' := [.ref 64, .int a1, .int a2, .int a3, .int (a4 + (1 : Int32))]) (S' := []) (M' := (hs 62, (ip_u F 85 (a4).toNatClampNeg (F 64 6)), G)) 1 (fun _ => rfl) ?_
    exact h
  · replace h := h.2 (Decidable.not_not.mp hc)
    refine wp_N (j' := 36) (pc' := 80) (L' := [.ref 64, .int a1, .int a2, .int a3, .int a4]) (S' := [.int (0 : Int32)]) (M' := (hs 62, F, G)) 0 (fun _ => rfl) ?_
    exact wp_RZ rfl rfl (by decide) h
theorem rg36_98 {t : Nat} {F : ip_F} {G : ip_G} {Q : Option Value → ip_M → Prop} {a1 a2 a3 a4 : Int32} (h : wp 40 0 [.ref 64, .float 0] [] (hs 62, F, G) (fun v M' => wp 36 102 [.ref 64, .int a1, .int a2, .int a3, .int a4] (v.toList ++ []) M' Q)) : wp 36 98 [.ref 64, .int a1, .int a2, .int a3, .int a4] [] (hs 62, F, G) Q := by
  refine wp_N (j' := 36) (pc' := 99) (L' := [.ref 64, .int a1, .int a2, .int a3, .int a4]) (S' := [.ref 64]) (M' := (hs 62, F, G)) 0 (fun _ => rfl) ?_
  refine wp_C (i := 40) (pc' := 102) (Li := [.ref 64, .float 0]) (rest := []) (fun _ => rfl) h
theorem rg36_102 {t : Nat} {F : ip_F} {G : ip_G} {Q : Option Value → ip_M → Prop} {a1 a2 a3 a4 : Int32} (h : ((F 64 3) = (3 : Int32) → wp 39 0 [.ref 64, .int a2] [] (hs 62, F, G) (fun v M' => wp 36 117 [.ref 64, .int a1, .int a2, .int a3, .int a4] (v.toList ++ []) M' Q)) ∧ (¬ (F 64 3) = (3 : Int32) → Q (some (.int (0 : Int32))) (hs 62, F, G))) : wp 36 102 [.ref 64, .int a1, .int a2, .int a3, .int a4] [] (hs 62, F, G) Q := by
  refine wp_N (j' := 36) (pc' := 107) (L' := [.ref 64, .int a1, .int a2, .int a3, .int a4]) (S' := [.int (3 : Int32), .int (F 64 3)]) (M' := (hs 62, F, G)) 2 (fun _ => rfl) ?_
  refine wp_icmp (pc1 := 112) (c := .eq) rfl (fun hc => ?_) (fun hc => ?_)
  · replace h := h.1 hc
    refine wp_N (j' := 36) (pc' := 114) (L' := [.ref 64, .int a1, .int a2, .int a3, .int a4]) (S' := [.int a2, .ref 64]) (M' := (hs 62, F, G)) 1 (fun _ => rfl) ?_
    refine wp_C (i := 39) (pc' := 117) (Li := [.ref 64, .int a2]) (rest := []) (fun _ => rfl) h
  · replace h := h.2 hc
    refine wp_N (j' := 36) (pc' := 111) (L' := [.ref 64, .int a1, .int a2, .int a3, .int a4]) (S' := [.int (0 : Int32)]) (M' := (hs 62, F, G)) 0 (fun _ => rfl) ?_
    exact wp_RZ rfl rfl (by decide) h
theorem rg36_117 {t : Nat} {F : ip_F} {G : ip_G} {Q : Option Value → ip_M → Prop} {a1 a2 a3 a4 : Int32} (h : Q (some (.int (1 : Int32))) (hs 62, F, G)) : wp 36 117 [.ref 64, .int a1, .int a2, .int a3, .int a4] [] (hs 62, F, G) Q := by
  refine wp_N (j' := 36) (pc' := 118) (L' := [.ref 64, .int a1, .int a2, .int a3, .int a4]) (S' := [.int (1 : Int32)]) (M' := (hs 62, F, G)) 0 (fun _ => rfl) ?_
  exact wp_RZ rfl rfl (by decide) h
theorem rg37_0 {t : Nat} {F : ip_F} {G : ip_G} {Q : Option Value → ip_M → Prop} {a0 : Int32} (h : (¬ a0 = (1 : Int32) → (a0 = (2 : Int32) → Q (some (.int (3 : Int32))) (hs 62, F, G)) ∧ (¬ a0 = (2 : Int32) → (¬ a0 = (3 : Int32) → Q (some (.int (1 : Int32))) (hs 62, F, G)) ∧ (a0 = (3 : Int32) → Q (some (.int (3 : Int32))) (hs 62, F, G)))) ∧ (a0 = (1 : Int32) → Q (some (.int (6 : Int32))) (hs 62, F, G))) : wp 37 0 [.int a0] [] (hs 62, F, G) Q := by
  refine wp_N (j' := 37) (pc' := 2) (L' := [.int a0]) (S' := [.int (1 : Int32), .int a0]) (M' := (hs 62, F, G)) 1 (fun _ => rfl) ?_
  refine wp_icmp (pc1 := 8) (c := .ne) rfl (fun hc => ?_) (fun hc => ?_)
  · replace h := h.1 hc
    refine wp_N (j' := 37) (pc' := 10) (L' := [.int a0]) (S' := [.int (2 : Int32), .int a0]) (M' := (hs 62, F, G)) 1 (fun _ => rfl) ?_
    refine wp_icmp (pc1 := 18) (c := .eq) rfl (fun hc => ?_) (fun hc => ?_)
    · replace h := h.1 hc
      refine wp_N (j' := 37) (pc' := 23) (L' := [.int a0]) (S' := [.int (3 : Int32)]) (M' := (hs 62, F, G)) 1 (fun _ => rfl) ?_
      exact wp_RI rfl rfl h
    · replace h := h.2 hc
      refine wp_N (j' := 37) (pc' := 15) (L' := [.int a0]) (S' := [.int (3 : Int32), .int a0]) (M' := (hs 62, F, G)) 1 (fun _ => rfl) ?_
      refine wp_icmp (pc1 := 22) (c := .ne) rfl (fun hc => ?_) (fun hc => ?_)
      · replace h := h.1 hc
        refine wp_N (j' := 37) (pc' := 23) (L' := [.int a0]) (S' := [.int (1 : Int32)]) (M' := (hs 62, F, G)) 0 (fun _ => rfl) ?_
        exact wp_RI rfl rfl h
      · replace h := h.2 (Decidable.not_not.mp hc)
        refine wp_N (j' := 37) (pc' := 23) (L' := [.int a0]) (S' := [.int (3 : Int32)]) (M' := (hs 62, F, G)) 1 (fun _ => rfl) ?_
        exact wp_RI rfl rfl h
  · replace h := h.2 (Decidable.not_not.mp hc)
    refine wp_N (j' := 37) (pc' := 7) (L' := [.int a0]) (S' := [.int (6 : Int32)]) (M' := (hs 62, F, G)) 0 (fun _ => rfl) ?_
    exact wp_RI rfl rfl h
theorem rg38_0 {t : Nat} {F : ip_F} {G : ip_G} {Q : Option Value → ip_M → Prop} {a1 a2 : Int32} (h : (¬ a1 = (0 : Int32) → (¬ a1 = (1 : Int32) → (¬ a1 = (4 : Int32) → (¬ a2 = (0 : Int32) → (¬ a2 = (1 : Int32) → (¬ a1 = (2 : Int32) → wp 129 0 [.int (F 64 6), .int (0 : Int32), .int (99 : Int32)] [] (hs 62, F, G) (fun v M' => wp 38 109 [.ref 64, .int a1, .int a2] (v.toList ++ []) M' Q)) ∧ (a1 = (2 : Int32) → wp 129 0 [.int (F 64 6), .int (1 : Int32), .int (11 : Int32)] [] (hs 62, F, G) (fun v M' => wp 38 96 [.ref 64, .int a1, .int a2] (v.toList ++ []) M' Q))) ∧ (a2 = (1 : Int32) → wp 131 0 [.int (F 64 6)] [] (hs 62, F, G) (fun v M' => wp 38 80 [.ref 64, .int a1, .int a2] (v.toList ++ []) M' Q))) ∧ (a2 = (0 : Int32) → wp 129 0 [.int (F 64 6), .int (0 : Int32), .int ((F 65 6) - (1 : Int32))] [] (hs 62, F, G) (fun v M' => wp 38 67 [.ref 64, .int a1, .int a2] (v.toList ++ []) M' Q))) ∧ (a1 = (4 : Int32) → wp 129 0 [.int (F 64 6), .int (1 : Int32), .int (99 : Int32)] [] (hs 62, F, G) (fun v M' => wp 38 45 [.ref 64, .int a1, .int a2] (v.toList ++ []) M' Q))) ∧ (a1 = (1 : Int32) → wp 129 0 [.int (F 64 6), .int (0 : Int32), .int (3 : Int32)] [] (hs 62, F, G) (fun v M' => wp 38 29 [.ref 64, .int a1, .int a2] (v.toList ++ []) M' Q))) ∧ (a1 = (0 : Int32) → wp 129 0 [.int (F 64 6), .int (4 : Int32), .int (6 : Int32)] [] (hs 62, F, G) (fun v M' => wp 38 14 [.ref 64, .int a1, .int a2] (v.toList ++ []) M' Q))) : wp 38 0 [.ref 64, .int a1, .int a2] [] (hs 62, F, G) Q := by
  refine wp_N (j' := 38) (pc' := 1) (L' := [.ref 64, .int a1, .int a2]) (S' := [.int a1]) (M' := (hs 62, F, G)) 0 (fun _ => rfl) ?_
  refine wp_ifc (pc1 := 15) (c := .ne) rfl (fun hc => ?_) (fun hc => ?_)
  · replace h := h.1 hc
    refine wp_N (j' := 38) (pc' := 17) (L' := [.ref 64, .int a1, .int a2]) (S' := [.int (1 : Int32), .int a1]) (M' := (hs 62, F, G)) 1 (fun _ => rfl) ?_
    refine wp_icmp (pc1 := 30) (c := .ne) rfl (fun hc => ?_) (fun hc => ?_)
    · replace h := h.1 hc
      refine wp_N (j' := 38) (pc' := 32) (L' := [.ref 64, .int a1, .int a2]) (S' := [.int (4 : Int32), .int a1]) (M' := (hs 62, F, G)) 1 (fun _ => rfl) ?_
      refine wp_icmp (pc1 := 46) (c := .ne) rfl (fun hc => ?_) (fun hc => ?_)
      · replace h := h.1 hc
        refine wp_N (j' := 38) (pc' := 47) (L' := [.ref 64, .int a1, .int a2]) (S' := [.int a2]) (M' := (hs 62, F, G)) 0 (fun _ => rfl) ?_
        refine wp_ifc (pc1 := 68) (c := .ne) rfl (fun hc => ?_) (fun hc => ?_)
        · replace h := h.1 hc
          refine wp_N (j' := 38) (pc' := 70) (L' := [.ref 64, .int a1, .int a2]) (S' := [.int (1 : Int32), .int a2]) (M' := (hs 62, F, G)) 1 (fun _ => rfl) ?_
          refine wp_icmp (pc1 := 81) (c := .ne) rfl (fun hc => ?_) (fun hc => ?_)
          · replace h := h.1 hc
            refine wp_N (j' := 38) (pc' := 83) (L' := [.ref 64, .int a1, .int a2]) (S' := [.int (2 : Int32), .int a1]) (M' := (hs 62, F, G)) 1 (fun _ => rfl) ?_
            refine wp_icmp (pc1 := 99) (c := .ne) rfl (fun hc => ?_) (fun hc => ?_)
            · replace h := h.1 hc
              refine wp_N (j' := 38) (pc' := 106) (L' := [.ref 64, .int a1, .int a2]) (S' := [.int (99 : Int32), .int (0 : Int32), .int (F 64 6)]) (M' := (hs 62, F, G)) 3 (fun _ => rfl) ?_
              refine wp_C (i := 129) (pc' := 109) (Li := [.int (F 64 6), .int (0 : Int32), .int (99 : Int32)]) (rest := []) (fun _ => rfl) h
            · replace h := h.2 (Decidable.not_not.mp hc)
              refine wp_N (j' := 38) (pc' := 93) (L' := [.ref 64, .int a1, .int a2]) (S' := [.int (11 : Int32), .int (1 : Int32), .int (F 64 6)]) (M' := (hs 62, F, G)) 3 (fun _ => rfl) ?_
              refine wp_C (i := 129) (pc' := 96) (Li := [.int (F 64 6), .int (1 : Int32), .int (11 : Int32)]) (rest := []) (fun _ => rfl) h
          · replace h := h.2 (Decidable.not_not.mp hc)
            refine wp_N (j' := 38) (pc' := 77) (L' := [.ref 64, .int a1, .int a2]) (S' := [.int (F 64 6)]) (M' := (hs 62, F, G)) 1 (fun _ => rfl) ?_
            refine wp_C (i := 131) (pc' := 80) (Li := [.int (F 64 6)]) (rest := []) (fun _ => rfl) h
        · replace h := h.2 (Decidable.not_not.mp hc)
          refine wp_N (j' := 38) (pc' := 64) (L' := [.ref 64, .int a1, .int a2]) (S' := [.int ((F 65 6) - (1 : Int32)), .int (0 : Int32), .int (F 64 6)]) (M' := (hs 62, F, G)) 7 (fun _ => rfl) ?_
          refine wp_C (i := 129) (pc' := 67) (Li := [.int (F 64 6), .int (0 : Int32), .int ((F 65 6) - (1 : Int32))]) (rest := []) (fun _ => rfl) h
      · replace h := h.2 (Decidable.not_not.mp hc)
        refine wp_N (j' := 38) (pc' := 42) (L' := [.ref 64, .int a1, .int a2]) (S' := [.int (99 : Int32), .int (1 : Int32), .int (F 64 6)]) (M' := (hs 62, F, G)) 3 (fun _ => rfl) ?_
        refine wp_C (i := 129) (pc' := 45) (Li := [.int (F 64 6), .int (1 : Int32), .int (99 : Int32)]) (rest := []) (fun _ => rfl) h
    · replace h := h.2 (Decidable.not_not.mp hc)
      refine wp_N (j' := 38) (pc' := 26) (L' := [.ref 64, .int a1, .int a2]) (S' := [.int (3 : Int32), .int (0 : Int32), .int (F 64 6)]) (M' := (hs 62, F, G)) 3 (fun _ => rfl) ?_
      refine wp_C (i := 129) (pc' := 29) (Li := [.int (F 64 6), .int (0 : Int32), .int (3 : Int32)]) (rest := []) (fun _ => rfl) h
  · replace h := h.2 (Decidable.not_not.mp hc)
    refine wp_N (j' := 38) (pc' := 11) (L' := [.ref 64, .int a1, .int a2]) (S' := [.int (6 : Int32), .int (4 : Int32), .int (F 64 6)]) (M' := (hs 62, F, G)) 3 (fun _ => rfl) ?_
    refine wp_C (i := 129) (pc' := 14) (Li := [.int (F 64 6), .int (4 : Int32), .int (6 : Int32)]) (rest := []) (fun _ => rfl) h
theorem rg38_14 {t : Nat} {F : ip_F} {G : ip_G} {Q : Option Value → ip_M → Prop} {a1 a2 as0 : Int32} (h : (as0 &&& 1 = as0) ∧ (Q (some (.int as0)) (hs 62, F, G))) : wp 38 14 [.ref 64, .int a1, .int a2] [.int as0] (hs 62, F, G) Q := by
  obtain ⟨h1_, h⟩ := h
  exact wp_RZ rfl rfl h1_ h
theorem rg38_29 {t : Nat} {F : ip_F} {G : ip_G} {Q : Option Value → ip_M → Prop} {a1 a2 as0 : Int32} (h : (as0 &&& 1 = as0) ∧ (Q (some (.int as0)) (hs 62, F, G))) : wp 38 29 [.ref 64, .int a1, .int a2] [.int as0] (hs 62, F, G) Q := by
  obtain ⟨h1_, h⟩ := h
  exact wp_RZ rfl rfl h1_ h
theorem rg38_45 {t : Nat} {F : ip_F} {G : ip_G} {Q : Option Value → ip_M → Prop} {a1 a2 as0 : Int32} (h : (as0 &&& 1 = as0) ∧ (Q (some (.int as0)) (hs 62, F, G))) : wp 38 45 [.ref 64, .int a1, .int a2] [.int as0] (hs 62, F, G) Q := by
  obtain ⟨h1_, h⟩ := h
  exact wp_RZ rfl rfl h1_ h
theorem rg38_67 {t : Nat} {F : ip_F} {G : ip_G} {Q : Option Value → ip_M → Prop} {a1 a2 as0 : Int32} (h : (as0 &&& 1 = as0) ∧ (Q (some (.int as0)) (hs 62, F, G))) : wp 38 67 [.ref 64, .int a1, .int a2] [.int as0] (hs 62, F, G) Q := by
  obtain ⟨h1_, h⟩ := h
  exact wp_RZ rfl rfl h1_ h
theorem rg38_80 {t : Nat} {F : ip_F} {G : ip_G} {Q : Option Value → ip_M → Prop} {a1 a2 as0 : Int32} (h : (as0 &&& 1 = as0) ∧ (Q (some (.int as0)) (hs 62, F, G))) : wp 38 80 [.ref 64, .int a1, .int a2] [.int as0] (hs 62, F, G) Q := by
  obtain ⟨h1_, h⟩ := h
  exact wp_RZ rfl rfl h1_ h
theorem rg38_96 {t : Nat} {F : ip_F} {G : ip_G} {Q : Option Value → ip_M → Prop} {a1 a2 as0 : Int32} (h : wp 38 109 [.ref 64, .int a1, .int a2] [.int as0] (hs 62, F, G) Q) : wp 38 96 [.ref 64, .int a1, .int a2] [.int as0] (hs 62, F, G) Q := by
  refine wp_N (j' := 38) (pc' := 109) (L' := [.ref 64, .int a1, .int a2]) (S' := [.int as0]) (M' := (hs 62, F, G)) 0 (fun _ => rfl) ?_
  exact h
theorem rg38_109 {t : Nat} {F : ip_F} {G : ip_G} {Q : Option Value → ip_M → Prop} {a1 a2 as0 : Int32} (h : (as0 &&& 1 = as0) ∧ (Q (some (.int as0)) (hs 62, F, G))) : wp 38 109 [.ref 64, .int a1, .int a2] [.int as0] (hs 62, F, G) Q := by
  obtain ⟨h1_, h⟩ := h
  exact wp_RZ rfl rfl h1_ h
theorem rg39_0 {t : Nat} {F : ip_F} {G : ip_G} {Q : Option Value → ip_M → Prop} {a1 : Int32} (h : (a1 = (0 : Int32) → wp 89 0 [.ref 65, .int (F 85 0)] [] (hs 62, F, G) (fun v M' => wp 39 45 [.ref 64, .int a1] (v.toList ++ []) M' Q)) ∧ ((a1 = (1 : Int32) → wp 39 147 [.ref 64, .int a1] [] (hs 62, (ip_ur F 66 (va_cpy (F 85) (F 66) 0 0 6)), G) Q) ∧ ((a1 = (2 : Int32) → wp 72 0 [.ref 67, .int (F 85 0), .int (F 85 1), .int (F 85 2)] [] (hs 62, F, G) (fun v M' => wp 39 97 [.ref 64, .int a1] (v.toList ++ []) M' Q)) ∧ ((a1 = (3 : Int32) → wp 74 0 [.ref 67, .int (F 85 0), .int (F 85 1), .int (F 85 2)] [] (hs 62, F, G) (fun v M' => wp 39 128 [.ref 64, .int a1] (v.toList ++ []) M' Q)) ∧ ((¬ a1 = (0 : Int32) ∧ ¬ a1 = (1 : Int32) ∧ ¬ a1 = (2 : Int32) ∧ ¬ a1 = (3 : Int32) → wp 76 0 [.ref 67, .int (F 85 0), .float 0] [] (hs 62, F, G) (fun v M' => wp 39 147 [.ref 64, .int a1] (v.toList ++ []) M' Q))))))) : wp 39 0 [.ref 64, .int a1] [] (hs 62, F, G) Q := by
  refine wp_N (j' := 39) (pc' := 1) (L' := [.ref 64, .int a1]) (S' := [.int a1]) (M' := (hs 62, F, G)) 0 (fun _ => rfl) ?_
  by_cases e0 : a1 = (0 : Int32)
  · replace h := h.1 e0
    refine wp_S (x := a1) (d := 130) (lo := 0) (hi := 3) (offs := #[31, 47, 68, 99]) (S' := []) (t := 32) (fun _ => rfl) (by rw [e0]; rfl) ?_
    refine wp_N (j' := 39) (pc' := 41) (L' := [.ref 64, .int a1]) (S' := [.int (0 : Int32), .ref 85, .ref 65]) (M' := (hs 62, F, G)) 4 (fun _ => rfl) ?_
    refine wp_ial (m := 0) rfl rfl rfl (vp_d rfl) ?_
    refine wp_C (i := 89) (pc' := 45) (Li := [.ref 65, .int (F 85 0)]) (rest := []) (fun _ => rfl) h
  replace h := h.2
  by_cases e1 : a1 = (1 : Int32)
  · replace h := h.1 e1
    refine wp_S (x := a1) (d := 130) (lo := 0) (hi := 3) (offs := #[31, 47, 68, 99]) (S' := []) (t := 48) (fun _ => rfl) (by rw [e1]; rfl) ?_
    refine wp_N (j' := 39) (pc' := 63) (L' := [.ref 64, .int a1]) (S' := [.int (6 : Int32), .int (0 : Int32), .ref 66, .int (0 : Int32), .ref 85]) (M' := (hs 62, F, G)) 7 (fun _ => rfl) ?_
    refine wp_cpy (sp' := 0) (dp' := 0) (n' := 6) rfl rfl rfl (by decide) (by decide) rfl rfl rfl (by decide) (by decide) ?_
    refine wp_N (j' := 39) (pc' := 147) (L' := [.ref 64, .int a1]) (S' := []) (M' := (hs 62, (ip_ur F 66 (va_cpy (F 85) (F 66) 0 0 6)), G)) 0 (fun _ => rfl) ?_
    exact h
  replace h := h.2
  by_cases e2 : a1 = (2 : Int32)
  · replace h := h.1 e2
    refine wp_S (x := a1) (d := 130) (lo := 0) (hi := 3) (offs := #[31, 47, 68, 99]) (S' := []) (t := 69) (fun _ => rfl) (by rw [e2]; rfl) ?_
    refine wp_N (j' := 39) (pc' := 81) (L' := [.ref 64, .int a1]) (S' := [.int (0 : Int32), .ref 85, .ref 67]) (M' := (hs 62, F, G)) 5 (fun _ => rfl) ?_
    refine wp_ial (m := 0) rfl rfl rfl (vp_d rfl) ?_
    refine wp_N (j' := 39) (pc' := 87) (L' := [.ref 64, .int a1]) (S' := [.int (1 : Int32), .ref 85, .int (F 85 0), .ref 67]) (M' := (hs 62, F, G)) 2 (fun _ => rfl) ?_
    refine wp_ial (m := 1) rfl rfl rfl (vp_d rfl) ?_
    refine wp_N (j' := 39) (pc' := 93) (L' := [.ref 64, .int a1]) (S' := [.int (2 : Int32), .ref 85, .int (F 85 1), .int (F 85 0), .ref 67]) (M' := (hs 62, F, G)) 2 (fun _ => rfl) ?_
    refine wp_ial (m := 2) rfl rfl rfl (vp_d rfl) ?_
    refine wp_C (i := 72) (pc' := 97) (Li := [.ref 67, .int (F 85 0), .int (F 85 1), .int (F 85 2)]) (rest := []) (fun _ => rfl) h
  replace h := h.2
  by_cases e3 : a1 = (3 : Int32)
  · replace h := h.1 e3
    refine wp_S (x := a1) (d := 130) (lo := 0) (hi := 3) (offs := #[31, 47, 68, 99]) (S' := []) (t := 100) (fun _ => rfl) (by rw [e3]; rfl) ?_
    refine wp_N (j' := 39) (pc' := 112) (L' := [.ref 64, .int a1]) (S' := [.int (0 : Int32), .ref 85, .ref 67]) (M' := (hs 62, F, G)) 5 (fun _ => rfl) ?_
    refine wp_ial (m := 0) rfl rfl rfl (vp_d rfl) ?_
    refine wp_N (j' := 39) (pc' := 118) (L' := [.ref 64, .int a1]) (S' := [.int (1 : Int32), .ref 85, .int (F 85 0), .ref 67]) (M' := (hs 62, F, G)) 2 (fun _ => rfl) ?_
    refine wp_ial (m := 1) rfl rfl rfl (vp_d rfl) ?_
    refine wp_N (j' := 39) (pc' := 124) (L' := [.ref 64, .int a1]) (S' := [.int (2 : Int32), .ref 85, .int (F 85 1), .int (F 85 0), .ref 67]) (M' := (hs 62, F, G)) 2 (fun _ => rfl) ?_
    refine wp_ial (m := 2) rfl rfl rfl (vp_d rfl) ?_
    refine wp_C (i := 74) (pc' := 128) (Li := [.ref 67, .int (F 85 0), .int (F 85 1), .int (F 85 2)]) (rest := []) (fun _ => rfl) h
  replace h := h.2
  replace h := h ⟨e0, e1, e2, e3⟩
  have h1_ : ∀ i : Nat, i < 4 → ¬ a1 = Int32.ofInt (0 + i) := by
    intro i hi
    match i, hi with
    | 0, _ => exact e0
    | 1, _ => exact e1
    | 2, _ => exact e2
    | 3, _ => exact e3
  refine wp_S (x := a1) (d := 130) (lo := 0) (hi := 3) (offs := #[31, 47, 68, 99]) (S' := []) (t := 131) (fun _ => rfl) (wp_Sd (by have := in_out2 (lo := 0) (n := 4) h1_ (by decide) (by decide); simp only [Int.cast_ofNat_Int] at this; omega) (by decide)) ?_
  refine wp_N (j' := 39) (pc' := 143) (L' := [.ref 64, .int a1]) (S' := [.int (0 : Int32), .ref 85, .ref 67]) (M' := (hs 62, F, G)) 5 (fun _ => rfl) ?_
  refine wp_ial (m := 0) rfl rfl rfl (vp_d rfl) ?_
  refine wp_C (i := 76) (pc' := 147) (Li := [.ref 67, .int (F 85 0), .float 0]) (rest := []) (fun _ => rfl) h
theorem rg39_45 {t : Nat} {F : ip_F} {G : ip_G} {Q : Option Value → ip_M → Prop} {a1 : Int32} (h : wp 39 147 [.ref 64, .int a1] [] (hs 62, F, G) Q) : wp 39 45 [.ref 64, .int a1] [] (hs 62, F, G) Q := by
  refine wp_N (j' := 39) (pc' := 147) (L' := [.ref 64, .int a1]) (S' := []) (M' := (hs 62, F, G)) 0 (fun _ => rfl) ?_
  exact h
theorem rg39_97 {t : Nat} {F : ip_F} {G : ip_G} {Q : Option Value → ip_M → Prop} {a1 : Int32} (h : wp 39 147 [.ref 64, .int a1] [] (hs 62, F, G) Q) : wp 39 97 [.ref 64, .int a1] [] (hs 62, F, G) Q := by
  refine wp_N (j' := 39) (pc' := 147) (L' := [.ref 64, .int a1]) (S' := []) (M' := (hs 62, F, G)) 0 (fun _ => rfl) ?_
  exact h
theorem rg39_128 {t : Nat} {F : ip_F} {G : ip_G} {Q : Option Value → ip_M → Prop} {a1 : Int32} (h : wp 39 147 [.ref 64, .int a1] [] (hs 62, F, G) Q) : wp 39 128 [.ref 64, .int a1] [] (hs 62, F, G) Q := by
  refine wp_N (j' := 39) (pc' := 147) (L' := [.ref 64, .int a1]) (S' := []) (M' := (hs 62, F, G)) 0 (fun _ => rfl) ?_
  exact h
theorem rg39_147 {t : Nat} {F : ip_F} {G : ip_G} {Q : Option Value → ip_M → Prop} {a1 : Int32} (h : Q none (hs 62, F, G)) : wp 39 147 [.ref 64, .int a1] [] (hs 62, F, G) Q := by
  exact wp_RV rfl rfl h
theorem rg40_0 {t : Nat} {F : ip_F} {G : ip_G} {Q : Option Value → ip_M → Prop} (h : wp 41 0 [.ref 64, .int (F 64 5), .int (32 : Int32), .int (32 : Int32), .float 0] [] (hs 62, F, G) (fun v M' => wp 40 13 [.ref 64, .float 0] (v.toList ++ [.ref 64]) M' Q)) : wp 40 0 [.ref 64, .float 0] [] (hs 62, F, G) Q := by
  refine wp_N (j' := 40) (pc' := 10) (L' := [.ref 64, .float 0]) (S' := [.int (32 : Int32), .int (32 : Int32), .int (F 64 5), .ref 64, .ref 64]) (M' := (hs 62, F, G)) 5 (fun _ => rfl) ?_
  refine wp_C (i := 41) (pc' := 13) (Li := [.ref 64, .int (F 64 5), .int (32 : Int32), .int (32 : Int32), .float 0]) (rest := [.ref 64]) (fun _ => rfl) h
theorem rg40_13 {t : Nat} {F : ip_F} {G : ip_G} {Q : Option Value → ip_M → Prop} {as1 : Int32} {v1 : Value} (h : wp 86 0 [.ref 62, .int ((ip_u (ip_u (ip_u F 64 4 as1) 64 5 (((ip_u F 64 4 as1) 64 4) + (1 : Int32))) 64 6 (-1 : Int32)) 64 4)] [] (hs 62, (ip_u (ip_u (ip_u F 64 4 as1) 64 5 (((ip_u F 64 4 as1) 64 4) + (1 : Int32))) 64 6 (-1 : Int32)), G) (fun v M' => wp 40 42 [.ref 64, v1] (v.toList ++ []) M' Q)) : wp 40 13 [.ref 64, v1] [.int as1, .ref 64] (hs 62, F, G) Q := by
  refine wp_putI rfl rfl rfl rfl rfl rfl (by decide) ?_
  refine wp_N (j' := 40) (pc' := 23) (L' := [.ref 64, v1]) (S' := [.int (((ip_u F 64 4 as1) 64 4) + (1 : Int32)), .ref 64]) (M' := (hs 62, (ip_u F 64 4 as1), G)) 4 (fun _ => rfl) ?_
  refine wp_putI rfl rfl rfl rfl rfl rfl (by decide) ?_
  refine wp_N (j' := 40) (pc' := 28) (L' := [.ref 64, v1]) (S' := [.int (-1 : Int32), .ref 64]) (M' := (hs 62, (ip_u (ip_u F 64 4 as1) 64 5 (((ip_u F 64 4 as1) 64 4) + (1 : Int32))), G)) 1 (fun _ => rfl) ?_
  refine wp_putI rfl rfl rfl rfl rfl rfl (by decide) ?_
  refine wp_N (j' := 40) (pc' := 39) (L' := [.ref 64, v1]) (S' := [.int ((ip_u (ip_u (ip_u F 64 4 as1) 64 5 (((ip_u F 64 4 as1) 64 4) + (1 : Int32))) 64 6 (-1 : Int32)) 64 4), .ref 62]) (M' := (hs 62, (ip_u (ip_u (ip_u F 64 4 as1) 64 5 (((ip_u F 64 4 as1) 64 4) + (1 : Int32))) 64 6 (-1 : Int32)), G)) 3 (fun _ => rfl) ?_
  refine wp_C (i := 86) (pc' := 42) (Li := [.ref 62, .int ((ip_u (ip_u (ip_u F 64 4 as1) 64 5 (((ip_u F 64 4 as1) 64 4) + (1 : Int32))) 64 6 (-1 : Int32)) 64 4)]) (rest := []) (fun n9 => (show ∀ (z0 : Int32), ip_run none (n9 + 1) 40 39 [.ref 64, v1] [.int z0, .ref 62] (hs 62, (ip_u (ip_u (ip_u F 64 4 as1) 64 5 (((ip_u F 64 4 as1) 64 4) + (1 : Int32))) 64 6 (-1 : Int32)), G) (0, 0) = (ip_run none n9 86 0 [.ref 62, .int z0] [] (hs 62, (ip_u (ip_u (ip_u F 64 4 as1) 64 5 (((ip_u F 64 4 as1) 64 4) + (1 : Int32))) 64 6 (-1 : Int32)), G) (0, 0)).bind fun r => ip_run none n9 40 42 [.ref 64, v1] (r.1.toList ++ []) r.2 (0, 0) from fun _ => rfl) ((ip_u (ip_u (ip_u F 64 4 as1) 64 5 (((ip_u F 64 4 as1) 64 4) + (1 : Int32))) 64 6 (-1 : Int32)) 64 4)) h
theorem rg40_42 {t : Nat} {F : ip_F} {G : ip_G} {Q : Option Value → ip_M → Prop} {as0 : Int32} {v1 : Value} (h : (¬ as0 = (-1 : Int32) → wp 129 0 [.int as0, .int (97 : Int32), .int (122 : Int32)] [] (hs 62, F, G) (fun v M' => wp 40 72 [.ref 64, .int as0] (v.toList ++ []) M' Q)) ∧ (as0 = (-1 : Int32) → Q none (hs 62, (ip_u (ip_u F 64 3 (0 : Int32)) 64 5 ((ip_u F 64 3 (0 : Int32)) 64 4)), G))) : wp 40 42 [.ref 64, v1] [.int as0] (hs 62, F, G) Q := by
  refine wp_N (j' := 40) (pc' := 45) (L' := [.ref 64, .int as0]) (S' := [.int (-1 : Int32), .int as0]) (M' := (hs 62, F, G)) 2 (fun _ => rfl) ?_
  refine wp_icmp (pc1 := 64) (c := .ne) rfl (fun hc => ?_) (fun hc => ?_)
  · replace h := h.1 hc
    refine wp_N (j' := 40) (pc' := 69) (L' := [.ref 64, .int as0]) (S' := [.int (122 : Int32), .int (97 : Int32), .int as0]) (M' := (hs 62, F, G)) 2 (fun _ => rfl) ?_
    refine wp_C (i := 129) (pc' := 72) (Li := [.int as0, .int (97 : Int32), .int (122 : Int32)]) (rest := []) (fun _ => rfl) h
  · replace h := h.2 (Decidable.not_not.mp hc)
    refine wp_N (j' := 40) (pc' := 50) (L' := [.ref 64, .int as0]) (S' := [.int (0 : Int32), .ref 64]) (M' := (hs 62, F, G)) 1 (fun _ => rfl) ?_
    refine wp_putI rfl rfl rfl rfl rfl rfl (by decide) ?_
    refine wp_N (j' := 40) (pc' := 58) (L' := [.ref 64, .int as0]) (S' := [.int ((ip_u F 64 3 (0 : Int32)) 64 4), .ref 64]) (M' := (hs 62, (ip_u F 64 3 (0 : Int32)), G)) 2 (fun _ => rfl) ?_
    refine wp_putI rfl rfl rfl rfl rfl rfl (by decide) ?_
    refine wp_N (j' := 40) (pc' := 177) (L' := [.ref 64, .int as0]) (S' := []) (M' := (hs 62, (ip_u (ip_u F 64 3 (0 : Int32)) 64 5 ((ip_u F 64 3 (0 : Int32)) 64 4)), G)) 0 (fun _ => rfl) ?_
    exact wp_RV rfl rfl h
theorem rg40_72 {t : Nat} {F : ip_F} {G : ip_G} {Q : Option Value → ip_M → Prop} {a1 as0 : Int32} (h : (as0 = (0 : Int32) → wp 129 0 [.int a1, .int (48 : Int32), .int (57 : Int32)] [] (hs 62, F, G) (fun v M' => wp 40 115 [.ref 64, .int a1] (v.toList ++ []) M' Q)) ∧ (¬ as0 = (0 : Int32) → wp 41 0 [.ref 64, .int ((ip_u F 64 3 (1 : Int32)) 64 4), .int (97 : Int32), .int (122 : Int32), .float 0] [] (hs 62, (ip_u F 64 3 (1 : Int32)), G) (fun v M' => wp 40 93 [.ref 64, .int a1] (v.toList ++ [.ref 64]) M' Q))) : wp 40 72 [.ref 64, .int a1] [.int as0] (hs 62, F, G) Q := by
  refine wp_ifc (pc1 := 107) (c := .eq) rfl (fun hc => ?_) (fun hc => ?_)
  · replace h := h.1 hc
    refine wp_N (j' := 40) (pc' := 112) (L' := [.ref 64, .int a1]) (S' := [.int (57 : Int32), .int (48 : Int32), .int a1]) (M' := (hs 62, F, G)) 2 (fun _ => rfl) ?_
    refine wp_C (i := 129) (pc' := 115) (Li := [.int a1, .int (48 : Int32), .int (57 : Int32)]) (rest := []) (fun _ => rfl) h
  · replace h := h.2 hc
    refine wp_N (j' := 40) (pc' := 77) (L' := [.ref 64, .int a1]) (S' := [.int (1 : Int32), .ref 64]) (M' := (hs 62, F, G)) 1 (fun _ => rfl) ?_
    refine wp_putI rfl rfl rfl rfl rfl rfl (by decide) ?_
    refine wp_N (j' := 40) (pc' := 90) (L' := [.ref 64, .int a1]) (S' := [.int (122 : Int32), .int (97 : Int32), .int ((ip_u F 64 3 (1 : Int32)) 64 4), .ref 64, .ref 64]) (M' := (hs 62, (ip_u F 64 3 (1 : Int32)), G)) 5 (fun _ => rfl) ?_
    refine wp_C (i := 41) (pc' := 93) (Li := [.ref 64, .int ((ip_u F 64 3 (1 : Int32)) 64 4), .int (97 : Int32), .int (122 : Int32), .float 0]) (rest := [.ref 64]) (fun _ => rfl) h
theorem rg40_93 {t : Nat} {F : ip_F} {G : ip_G} {Q : Option Value → ip_M → Prop} {a1 as1 : Int32} (h : wp 42 0 [.ref 64, .float 0] [] (hs 62, (ip_u F 64 5 as1), G) (fun v M' => wp 40 101 [.ref 64, .int a1] (v.toList ++ [.ref 64]) M' Q)) : wp 40 93 [.ref 64, .int a1] [.int as1, .ref 64] (hs 62, F, G) Q := by
  refine wp_putI rfl rfl rfl rfl rfl rfl (by decide) ?_
  refine wp_N (j' := 40) (pc' := 98) (L' := [.ref 64, .int a1]) (S' := [.ref 64, .ref 64]) (M' := (hs 62, (ip_u F 64 5 as1), G)) 1 (fun _ => rfl) ?_
  refine wp_C (i := 42) (pc' := 101) (Li := [.ref 64, .float 0]) (rest := [.ref 64]) (fun _ => rfl) h
theorem rg40_101 {t : Nat} {F : ip_F} {G : ip_G} {Q : Option Value → ip_M → Prop} {a1 as1 : Int32} (h : Q none (hs 62, (ip_u F 64 6 as1), G)) : wp 40 101 [.ref 64, .int a1] [.int as1, .ref 64] (hs 62, F, G) Q := by
  refine wp_putI rfl rfl rfl rfl rfl rfl (by decide) ?_
  refine wp_N (j' := 40) (pc' := 177) (L' := [.ref 64, .int a1]) (S' := []) (M' := (hs 62, (ip_u F 64 6 as1), G)) 0 (fun _ => rfl) ?_
  exact wp_RV rfl rfl h
theorem rg40_115 {t : Nat} {F : ip_F} {G : ip_G} {Q : Option Value → ip_M → Prop} {a1 as0 : Int32} (h : (as0 = (0 : Int32) → (¬ a1 = (59 : Int32) → wp 40 174 [.ref 64, .int a1] [.int (4 : Int32), .ref 64] (hs 62, F, G) Q) ∧ (a1 = (59 : Int32) → wp 40 174 [.ref 64, .int a1] [.int (3 : Int32), .ref 64] (hs 62, F, G) Q)) ∧ (¬ as0 = (0 : Int32) → wp 41 0 [.ref 64, .int (F 64 4), .int (48 : Int32), .int (57 : Int32), .float 0] [] (hs 62, F, G) (fun v M' => wp 40 131 [.ref 64, .int a1] (v.toList ++ [.ref 64]) M' Q))) : wp 40 115 [.ref 64, .int a1] [.int as0] (hs 62, F, G) Q := by
  refine wp_ifc (pc1 := 162) (c := .eq) rfl (fun hc => ?_) (fun hc => ?_)
  · replace h := h.1 hc
    refine wp_N (j' := 40) (pc' := 166) (L' := [.ref 64, .int a1]) (S' := [.int (59 : Int32), .int a1, .ref 64]) (M' := (hs 62, F, G)) 2 (fun _ => rfl) ?_
    refine wp_icmp (pc1 := 173) (c := .ne) rfl (fun hc => ?_) (fun hc => ?_)
    · replace h := h.1 hc
      refine wp_N (j' := 40) (pc' := 174) (L' := [.ref 64, .int a1]) (S' := [.int (4 : Int32), .ref 64]) (M' := (hs 62, F, G)) 0 (fun _ => rfl) ?_
      exact h
    · replace h := h.2 (Decidable.not_not.mp hc)
      refine wp_N (j' := 40) (pc' := 174) (L' := [.ref 64, .int a1]) (S' := [.int (3 : Int32), .ref 64]) (M' := (hs 62, F, G)) 1 (fun _ => rfl) ?_
      exact h
  · replace h := h.2 hc
    refine wp_N (j' := 40) (pc' := 128) (L' := [.ref 64, .int a1]) (S' := [.int (57 : Int32), .int (48 : Int32), .int (F 64 4), .ref 64, .ref 64]) (M' := (hs 62, F, G)) 5 (fun _ => rfl) ?_
    refine wp_C (i := 41) (pc' := 131) (Li := [.ref 64, .int (F 64 4), .int (48 : Int32), .int (57 : Int32), .float 0]) (rest := [.ref 64]) (fun _ => rfl) h
theorem rg40_131 {t : Nat} {F : ip_F} {G : ip_G} {Q : Option Value → ip_M → Prop} {a1 as1 : Int32} (h : wp 44 0 [.ref 64, .float 0, .float 0] [] (hs 62, (ip_u F 64 5 as1), G) (fun v M' => wp 40 139 [.ref 64, .int a1] (v.toList ++ [.ref 64]) M' Q)) : wp 40 131 [.ref 64, .int a1] [.int as1, .ref 64] (hs 62, F, G) Q := by
  refine wp_putI rfl rfl rfl rfl rfl rfl (by decide) ?_
  refine wp_N (j' := 40) (pc' := 136) (L' := [.ref 64, .int a1]) (S' := [.ref 64, .ref 64]) (M' := (hs 62, (ip_u F 64 5 as1), G)) 1 (fun _ => rfl) ?_
  refine wp_C (i := 44) (pc' := 139) (Li := [.ref 64, .float 0, .float 0]) (rest := [.ref 64]) (fun _ => rfl) h
theorem rg40_139 {t : Nat} {F : ip_F} {G : ip_G} {Q : Option Value → ip_M → Prop} {a1 as1 : Int32} (h : (¬ ((ip_u F 64 6 as1) 64 6) = (-1 : Int32) → wp 40 156 [.ref 64, .int a1] [.int (2 : Int32), .ref 64] (hs 62, (ip_u F 64 6 as1), G) Q) ∧ (((ip_u F 64 6 as1) 64 6) = (-1 : Int32) → wp 40 156 [.ref 64, .int a1] [.int (4 : Int32), .ref 64] (hs 62, (ip_u F 64 6 as1), G) Q)) : wp 40 139 [.ref 64, .int a1] [.int as1, .ref 64] (hs 62, F, G) Q := by
  refine wp_putI rfl rfl rfl rfl rfl rfl (by decide) ?_
  refine wp_N (j' := 40) (pc' := 148) (L' := [.ref 64, .int a1]) (S' := [.int (-1 : Int32), .int ((ip_u F 64 6 as1) 64 6), .ref 64]) (M' := (hs 62, (ip_u F 64 6 as1), G)) 3 (fun _ => rfl) ?_
  refine wp_icmp (pc1 := 155) (c := .ne) rfl (fun hc => ?_) (fun hc => ?_)
  · replace h := h.1 hc
    refine wp_N (j' := 40) (pc' := 156) (L' := [.ref 64, .int a1]) (S' := [.int (2 : Int32), .ref 64]) (M' := (hs 62, (ip_u F 64 6 as1), G)) 0 (fun _ => rfl) ?_
    exact h
  · replace h := h.2 (Decidable.not_not.mp hc)
    refine wp_N (j' := 40) (pc' := 156) (L' := [.ref 64, .int a1]) (S' := [.int (4 : Int32), .ref 64]) (M' := (hs 62, (ip_u F 64 6 as1), G)) 1 (fun _ => rfl) ?_
    exact h
theorem rg40_156 {t : Nat} {F : ip_F} {G : ip_G} {Q : Option Value → ip_M → Prop} {a1 as1 : Int32} (h : Q none (hs 62, (ip_u F 64 3 as1), G)) : wp 40 156 [.ref 64, .int a1] [.int as1, .ref 64] (hs 62, F, G) Q := by
  refine wp_putI rfl rfl rfl rfl rfl rfl (by decide) ?_
  refine wp_N (j' := 40) (pc' := 177) (L' := [.ref 64, .int a1]) (S' := []) (M' := (hs 62, (ip_u F 64 3 as1), G)) 0 (fun _ => rfl) ?_
  exact wp_RV rfl rfl h
theorem rg40_174 {t : Nat} {F : ip_F} {G : ip_G} {Q : Option Value → ip_M → Prop} {a1 as1 : Int32} (h : Q none (hs 62, (ip_u F 64 3 as1), G)) : wp 40 174 [.ref 64, .int a1] [.int as1, .ref 64] (hs 62, F, G) Q := by
  refine wp_putI rfl rfl rfl rfl rfl rfl (by decide) ?_
  exact wp_RV rfl rfl h
theorem rg41_0 {t : Nat} {F : ip_F} {G : ip_G} {Q : Option Value → ip_M → Prop} {a1 a2 a3 : Int32} (h : wp 41 3 [.ref 64, .int a1, .int a2, .int a3, .int a1] [] (hs 62, F, G) Q) : wp 41 0 [.ref 64, .int a1, .int a2, .int a3, .float 0] [] (hs 62, F, G) Q := by
  refine wp_N (j' := 41) (pc' := 3) (L' := [.ref 64, .int a1, .int a2, .int a3, .int a1]) (S' := []) (M' := (hs 62, F, G)) 1 (fun _ => rfl) ?_
  exact h
theorem rg41_3 {t : Nat} {F : ip_F} {G : ip_G} {Q : Option Value → ip_M → Prop} {a1 a2 a3 a4 : Int32} (h : ((F 62 1) ≤ a4 → Q (some (.int a4)) (hs 62, F, G)) ∧ (a4 < (F 62 1) → wp 86 0 [.ref 62, .int a4] [] (hs 62, F, G) (fun v M' => wp 41 24 [.ref 64, .int a1, .int a2, .int a3, .int a4] (v.toList ++ []) M' Q))) : wp 41 3 [.ref 64, .int a1, .int a2, .int a3, .int a4] [] (hs 62, F, G) Q := by
  refine wp_N (j' := 41) (pc' := 12) (L' := [.ref 64, .int a1, .int a2, .int a3, .int a4]) (S' := [.int (F 62 1), .int a4]) (M' := (hs 62, F, G)) 3 (fun _ => rfl) ?_
  refine wp_icmp (pc1 := 38) (c := .ge) rfl (fun hc => ?_) (fun hc => ?_)
  · replace h := h.1 hc
    refine wp_N (j' := 41) (pc' := 40) (L' := [.ref 64, .int a1, .int a2, .int a3, .int a4]) (S' := [.int a4]) (M' := (hs 62, F, G)) 0 (fun _ => rfl) ?_
    exact wp_RI rfl rfl h
  · replace h := h.2 (Int32.not_le.mp hc)
    refine wp_N (j' := 41) (pc' := 21) (L' := [.ref 64, .int a1, .int a2, .int a3, .int a4]) (S' := [.int a4, .ref 62]) (M' := (hs 62, F, G)) 2 (fun _ => rfl) ?_
    refine wp_C (i := 86) (pc' := 24) (Li := [.ref 62, .int a4]) (rest := []) (fun _ => rfl) h
theorem rg41_24 {t : Nat} {F : ip_F} {G : ip_G} {Q : Option Value → ip_M → Prop} {a1 a2 a3 a4 as0 : Int32} (h : wp 129 0 [.int as0, .int a2, .int a3] [] (hs 62, F, G) (fun v M' => wp 41 29 [.ref 64, .int a1, .int a2, .int a3, .int a4] (v.toList ++ []) M' Q)) : wp 41 24 [.ref 64, .int a1, .int a2, .int a3, .int a4] [.int as0] (hs 62, F, G) Q := by
  refine wp_N (j' := 41) (pc' := 26) (L' := [.ref 64, .int a1, .int a2, .int a3, .int a4]) (S' := [.int a3, .int a2, .int as0]) (M' := (hs 62, F, G)) 1 (fun _ => rfl) ?_
  refine wp_C (i := 129) (pc' := 29) (Li := [.int as0, .int a2, .int a3]) (rest := []) (fun _ => rfl) h
theorem rg41_29 {t : Nat} {F : ip_F} {G : ip_G} {Q : Option Value → ip_M → Prop} {a1 a2 a3 a4 as0 : Int32} (h : (as0 = (0 : Int32) → Q (some (.int a4)) (hs 62, F, G)) ∧ (¬ as0 = (0 : Int32) → wp 41 3 [.ref 64, .int a1, .int a2, .int a3, .int (a4 + (1 : Int32))] [] (hs 62, F, G) Q)) : wp 41 29 [.ref 64, .int a1, .int a2, .int a3, .int a4] [.int as0] (hs 62, F, G) Q := by
  refine wp_ifc (pc1 := 38) (c := .eq) rfl (fun hc => ?_) (fun hc => ?_)
  · replace h := h.1 hc
    refine wp_N (j' := 41) (pc' := 40) (L' := [.ref 64, .int a1, .int a2, .int a3, .int a4]) (S' := [.int a4]) (M' := (hs 62, F, G)) 0 (fun _ => rfl) ?_
    exact wp_RI rfl rfl h
  · replace h := h.2 hc
    refine wp_N (j' := 41) (pc' := 3) (L' := [.ref 64, .int a1, .int a2, .int a3, .int (a4 + (1 : Int32))]) (S' := []) (M' := (hs 62, F, G)) 1 (fun _ => rfl) ?_
    exact h
theorem rg42_0 {t : Nat} {F : ip_F} {G : ip_G} {Q : Option Value → ip_M → Prop} {w : Nat} (h : wp 42 2 [.ref 64, .int (0 : Int32)] [] (hs 62, F, G) Q) : wp 42 0 [.ref 64, .float 0] [] (hs 62, F, G) Q := by
  refine wp_N (j' := 42) (pc' := 2) (L' := [.ref 64, .int (0 : Int32)]) (S' := []) (M' := (hs 62, F, G)) 1 (fun _ => rfl) ?_
  exact h
theorem rg42_2 {t : Nat} {F : ip_F} {G : ip_G} {Q : Option Value → ip_M → Prop} {w : Nat} {a1 : Int32} (h : ((4 : Int32) < a1 → Q (some (.int (-1 : Int32))) (hs 62, F, G)) ∧ (a1 ≤ (4 : Int32) → wp 43 0 [.int a1] [] (hs 62, F, G) (fun v M' => wp 42 15 [.ref 64, .int a1] (v.toList ++ [.ref 62]) M' Q))) : wp 42 2 [.ref 64, .int a1] [] (hs 62, F, G) Q := by
  refine wp_N (j' := 42) (pc' := 4) (L' := [.ref 64, .int a1]) (S' := [.int (4 : Int32), .int a1]) (M' := (hs 62, F, G)) 1 (fun _ => rfl) ?_
  refine wp_icmp (pc1 := 37) (c := .gt) rfl (fun hc => ?_) (fun hc => ?_)
  · replace h := h.1 hc
    refine wp_N (j' := 42) (pc' := 38) (L' := [.ref 64, .int a1]) (S' := [.int (-1 : Int32)]) (M' := (hs 62, F, G)) 0 (fun _ => rfl) ?_
    exact wp_RI rfl rfl h
  · replace h := h.2 (Int32.not_lt.mp hc)
    refine wp_N (j' := 42) (pc' := 12) (L' := [.ref 64, .int a1]) (S' := [.int a1, .ref 62]) (M' := (hs 62, F, G)) 2 (fun _ => rfl) ?_
    refine wp_C (i := 43) (pc' := 15) (Li := [.int a1]) (rest := [.ref 62]) (fun _ => rfl) h
theorem rg42_15 {t : Nat} {F : ip_F} {G : ip_G} {Q : Option Value → ip_M → Prop} {w : Nat} {a1 : Int32} (h : wp 87 0 [.ref 62, .ref w, .int (F 64 4), .int (F 64 5), .float 0] [] (hs 62, F, G) (fun v M' => wp 42 26 [.ref 64, .int a1] (v.toList ++ []) M' Q)) : wp 42 15 [.ref 64, .int a1] [.ref w, .ref 62] (hs 62, F, G) Q := by
  refine wp_N (j' := 42) (pc' := 23) (L' := [.ref 64, .int a1]) (S' := [.int (F 64 5), .int (F 64 4), .ref w, .ref 62]) (M' := (hs 62, F, G)) 3 (fun _ => rfl) ?_
  refine wp_C (i := 87) (pc' := 26) (Li := [.ref 62, .ref w, .int (F 64 4), .int (F 64 5), .float 0]) (rest := []) (fun _ => rfl) h
theorem rg42_26 {t : Nat} {F : ip_F} {G : ip_G} {Q : Option Value → ip_M → Prop} {w : Nat} {a1 as0 : Int32} (h : (as0 = (0 : Int32) → wp 42 2 [.ref 64, .int (a1 + (1 : Int32))] [] (hs 62, F, G) Q) ∧ (¬ as0 = (0 : Int32) → Q (some (.int a1)) (hs 62, F, G))) : wp 42 26 [.ref 64, .int a1] [.int as0] (hs 62, F, G) Q := by
  refine wp_ifc (pc1 := 31) (c := .eq) rfl (fun hc => ?_) (fun hc => ?_)
  · replace h := h.1 hc
    refine wp_N (j' := 42) (pc' := 2) (L' := [.ref 64, .int (a1 + (1 : Int32))]) (S' := []) (M' := (hs 62, F, G)) 1 (fun _ => rfl) ?_
    exact h
  · replace h := h.2 hc
    refine wp_N (j' := 42) (pc' := 30) (L' := [.ref 64, .int a1]) (S' := [.int a1]) (M' := (hs 62, F, G)) 0 (fun _ => rfl) ?_
    exact wp_RI rfl rfl h
theorem rg43_0 {t : Nat} {F : ip_F} {G : ip_G} {Q : Option Value → ip_M → Prop} {a0 : Int32} (h : (a0 = (0 : Int32) → Q (some (.ref 1000001)) (hs 62, F, G)) ∧ ((a0 = (1 : Int32) → Q (some (.ref 1000002)) (hs 62, F, G)) ∧ ((a0 = (2 : Int32) → Q (some (.ref 1000003)) (hs 62, F, G)) ∧ ((a0 = (3 : Int32) → Q (some (.ref 1000004)) (hs 62, F, G)) ∧ ((¬ a0 = (0 : Int32) ∧ ¬ a0 = (1 : Int32) ∧ ¬ a0 = (2 : Int32) ∧ ¬ a0 = (3 : Int32) → Q (some (.ref 1000005)) (hs 62, F, G))))))) : wp 43 0 [.int a0] [] (hs 62, F, G) Q := by
  refine wp_N (j' := 43) (pc' := 1) (L' := [.int a0]) (S' := [.int a0]) (M' := (hs 62, F, G)) 0 (fun _ => rfl) ?_
  by_cases e0 : a0 = (0 : Int32)
  · replace h := h.1 e0
    refine wp_S (x := a0) (d := 43) (lo := 0) (hi := 3) (offs := #[31, 34, 37, 40]) (S' := []) (t := 32) (fun _ => rfl) (by rw [e0]; rfl) ?_
    refine wp_N (j' := 43) (pc' := 34) (L' := [.int a0]) (S' := [.ref 1000001]) (M' := (hs 62, F, G)) 0 (fun _ => rfl) ?_
    exact wp_RA rfl rfl h
  replace h := h.2
  by_cases e1 : a0 = (1 : Int32)
  · replace h := h.1 e1
    refine wp_S (x := a0) (d := 43) (lo := 0) (hi := 3) (offs := #[31, 34, 37, 40]) (S' := []) (t := 35) (fun _ => rfl) (by rw [e1]; rfl) ?_
    refine wp_N (j' := 43) (pc' := 37) (L' := [.int a0]) (S' := [.ref 1000002]) (M' := (hs 62, F, G)) 0 (fun _ => rfl) ?_
    exact wp_RA rfl rfl h
  replace h := h.2
  by_cases e2 : a0 = (2 : Int32)
  · replace h := h.1 e2
    refine wp_S (x := a0) (d := 43) (lo := 0) (hi := 3) (offs := #[31, 34, 37, 40]) (S' := []) (t := 38) (fun _ => rfl) (by rw [e2]; rfl) ?_
    refine wp_N (j' := 43) (pc' := 40) (L' := [.int a0]) (S' := [.ref 1000003]) (M' := (hs 62, F, G)) 0 (fun _ => rfl) ?_
    exact wp_RA rfl rfl h
  replace h := h.2
  by_cases e3 : a0 = (3 : Int32)
  · replace h := h.1 e3
    refine wp_S (x := a0) (d := 43) (lo := 0) (hi := 3) (offs := #[31, 34, 37, 40]) (S' := []) (t := 41) (fun _ => rfl) (by rw [e3]; rfl) ?_
    refine wp_N (j' := 43) (pc' := 43) (L' := [.int a0]) (S' := [.ref 1000004]) (M' := (hs 62, F, G)) 0 (fun _ => rfl) ?_
    exact wp_RA rfl rfl h
  replace h := h.2
  replace h := h ⟨e0, e1, e2, e3⟩
  have h1_ : ∀ i : Nat, i < 4 → ¬ a0 = Int32.ofInt (0 + i) := by
    intro i hi
    match i, hi with
    | 0, _ => exact e0
    | 1, _ => exact e1
    | 2, _ => exact e2
    | 3, _ => exact e3
  refine wp_S (x := a0) (d := 43) (lo := 0) (hi := 3) (offs := #[31, 34, 37, 40]) (S' := []) (t := 44) (fun _ => rfl) (wp_Sd (by have := in_out2 (lo := 0) (n := 4) h1_ (by decide) (by decide); simp only [Int.cast_ofNat_Int] at this; omega) (by decide)) ?_
  refine wp_N (j' := 43) (pc' := 46) (L' := [.int a0]) (S' := [.ref 1000005]) (M' := (hs 62, F, G)) 0 (fun _ => rfl) ?_
  exact wp_RA rfl rfl h
theorem rg44_0 {t : Nat} {F : ip_F} {G : ip_G} {Q : Option Value → ip_M → Prop} (h : (((F 64 5) - (F 64 4)) ≤ (2 : Int32) → wp 44 22 [.ref 64, .int (0 : Int32), .int (F 64 4)] [] (hs 62, F, G) Q) ∧ ((2 : Int32) < ((F 64 5) - (F 64 4)) → Q (some (.int (-1 : Int32))) (hs 62, F, G))) : wp 44 0 [.ref 64, .float 0, .float 0] [] (hs 62, F, G) Q := by
  refine wp_N (j' := 44) (pc' := 10) (L' := [.ref 64, .float 0, .float 0]) (S' := [.int (2 : Int32), .int ((F 64 5) - (F 64 4))]) (M' := (hs 62, F, G)) 5 (fun _ => rfl) ?_
  refine wp_icmp (pc1 := 15) (c := .le) rfl (fun hc => ?_) (fun hc => ?_)
  · replace h := h.1 hc
    refine wp_N (j' := 44) (pc' := 22) (L' := [.ref 64, .int (0 : Int32), .int (F 64 4)]) (S' := []) (M' := (hs 62, F, G)) 4 (fun _ => rfl) ?_
    exact h
  · replace h := h.2 (Int32.not_le.mp hc)
    refine wp_N (j' := 44) (pc' := 14) (L' := [.ref 64, .float 0, .float 0]) (S' := [.int (-1 : Int32)]) (M' := (hs 62, F, G)) 0 (fun _ => rfl) ?_
    exact wp_RI rfl rfl h
theorem rg44_22 {t : Nat} {F : ip_F} {G : ip_G} {Q : Option Value → ip_M → Prop} {a1 a2 : Int32} (h : ((F 64 5) ≤ a2 → Q (some (.int a1)) (hs 62, F, G)) ∧ (a2 < (F 64 5) → wp 86 0 [.ref 62, .int a2] [] (hs 62, F, G) (fun v M' => wp 44 42 [.ref 64, .int a1, .int a2] (v.toList ++ [.int ((10 : Int32) * a1)]) M' Q))) : wp 44 22 [.ref 64, .int a1, .int a2] [] (hs 62, F, G) Q := by
  refine wp_N (j' := 44) (pc' := 27) (L' := [.ref 64, .int a1, .int a2]) (S' := [.int (F 64 5), .int a2]) (M' := (hs 62, F, G)) 2 (fun _ => rfl) ?_
  refine wp_icmp (pc1 := 53) (c := .ge) rfl (fun hc => ?_) (fun hc => ?_)
  · replace h := h.1 hc
    refine wp_N (j' := 44) (pc' := 54) (L' := [.ref 64, .int a1, .int a2]) (S' := [.int a1]) (M' := (hs 62, F, G)) 0 (fun _ => rfl) ?_
    exact wp_RI rfl rfl h
  · replace h := h.2 (Int32.not_le.mp hc)
    refine wp_N (j' := 44) (pc' := 39) (L' := [.ref 64, .int a1, .int a2]) (S' := [.int a2, .ref 62, .int ((10 : Int32) * a1)]) (M' := (hs 62, F, G)) 5 (fun _ => rfl) ?_
    refine wp_C (i := 86) (pc' := 42) (Li := [.ref 62, .int a2]) (rest := [.int ((10 : Int32) * a1)]) (fun _ => rfl) h
theorem rg44_42 {t : Nat} {F : ip_F} {G : ip_G} {Q : Option Value → ip_M → Prop} {a1 a2 as0 as1 : Int32} (h : wp 44 22 [.ref 64, .int ((as0 + as1) - (48 : Int32)), .int (a2 + (1 : Int32))] [] (hs 62, F, G) Q) : wp 44 42 [.ref 64, .int a1, .int a2] [.int as1, .int as0] (hs 62, F, G) Q := by
  refine wp_N (j' := 44) (pc' := 22) (L' := [.ref 64, .int ((as0 + as1) - (48 : Int32)), .int (a2 + (1 : Int32))]) (S' := []) (M' := (hs 62, F, G)) 5 (fun _ => rfl) ?_
  exact h
theorem rg46_0 {t : Nat} {F : ip_F} {G : ip_G} {Q : Option Value → ip_M → Prop} {k : Nat} {a1 a2 a3 a4 : Int32} (hk : ok4 t k) (h : ((6 : Int32) ≤ (F k 1) → wp 46 66 [.ref k, .int a1, .int a2, .int a3, .int a4, .float 0] [] (hs t, F, G) Q) ∧ ((F k 1) < (6 : Int32) → (vp_in ((4 : Int32) * (F k 1)) 24) ∧ ((vp_in (((4 : Int32) * (F k 1)) + (1 : Int32)) 24) ∧ ((vp_in (((4 : Int32) * (F k 1)) + (2 : Int32)) 24) ∧ ((vp_in (((4 : Int32) * (F k 1)) + (3 : Int32)) 24) ∧ (wp 46 66 [.ref k, .int a1, .int a2, .int a3, .int a4, .int ((4 : Int32) * (F k 1))] [] (hs t, (ip_u (ip_u (ip_u (ip_u (ip_u F (k + 1) (((4 : Int32) * (F k 1))).toNatClampNeg a1) (k + 1) ((((4 : Int32) * (F k 1)) + (1 : Int32))).toNatClampNeg a2) (k + 1) ((((4 : Int32) * (F k 1)) + (2 : Int32))).toNatClampNeg a3) (k + 1) ((((4 : Int32) * (F k 1)) + (3 : Int32))).toNatClampNeg a4) k 1 (((ip_u (ip_u (ip_u (ip_u F (k + 1) (((4 : Int32) * (F k 1))).toNatClampNeg a1) (k + 1) ((((4 : Int32) * (F k 1)) + (1 : Int32))).toNatClampNeg a2) (k + 1) ((((4 : Int32) * (F k 1)) + (2 : Int32))).toNatClampNeg a3) (k + 1) ((((4 : Int32) * (F k 1)) + (3 : Int32))).toNatClampNeg a4) k 1) + (1 : Int32))), G) Q)))))) : wp 46 0 [.ref k, .int a1, .int a2, .int a3, .int a4, .float 0] [] (hs t, F, G) Q := by
  refine wp_N (j' := 46) (pc' := 1) (L' := [.ref k, .int a1, .int a2, .int a3, .int a4, .float 0]) (S' := [.ref k]) (M' := (hs t, F, G)) 0 (fun _ => rfl) ?_
  refine wp_getI rfl hk.1 rfl rfl rfl (by decide) ?_
  refine wp_N (j' := 46) (pc' := 6) (L' := [.ref k, .int a1, .int a2, .int a3, .int a4, .float 0]) (S' := [.int (6 : Int32), .int (F k 1)]) (M' := (hs t, F, G)) 0 (fun _ => rfl) ?_
  refine wp_icmp (pc1 := 66) (c := .ge) rfl (fun hc => ?_) (fun hc => ?_)
  · replace h := h.1 hc
    exact h
  · replace h := h.2 (Int32.not_le.mp hc)
    refine wp_N (j' := 46) (pc' := 11) (L' := [.ref k, .int a1, .int a2, .int a3, .int a4, .float 0]) (S' := [.ref k, .int (4 : Int32)]) (M' := (hs t, F, G)) 1 (fun _ => rfl) ?_
    refine wp_getI rfl hk.1 rfl rfl rfl (by decide) ?_
    refine wp_N (j' := 46) (pc' := 18) (L' := [.ref k, .int a1, .int a2, .int a3, .int a4, .int ((4 : Int32) * (F k 1))]) (S' := [.ref k]) (M' := (hs t, F, G)) 2 (fun _ => rfl) ?_
    refine wp_getR (r := (k + 1)) rfl hk.1 rfl rfl rfl (hs_lt hk.2) (by decide) ?_
    refine wp_N (j' := 46) (pc' := 24) (L' := [.ref k, .int a1, .int a2, .int a3, .int a4, .int ((4 : Int32) * (F k 1))]) (S' := [.int a1, .int ((4 : Int32) * (F k 1)), .ref (k + 1)]) (M' := (hs t, F, G)) 1 (fun _ => rfl) ?_
    obtain ⟨h1_, h⟩ := h
    refine wp_ias (m := (((4 : Int32) * (F k 1))).toNatClampNeg) rfl hk.2 rfl h1_ ?_
    refine wp_N (j' := 46) (pc' := 26) (L' := [.ref k, .int a1, .int a2, .int a3, .int a4, .int ((4 : Int32) * (F k 1))]) (S' := [.ref k]) (M' := (hs t, (ip_u F (k + 1) (((4 : Int32) * (F k 1))).toNatClampNeg a1), G)) 0 (fun _ => rfl) ?_
    refine wp_getR (r := (k + 1)) rfl hk.1 rfl rfl rfl (hs_lt hk.2) (by decide) ?_
    refine wp_N (j' := 46) (pc' := 34) (L' := [.ref k, .int a1, .int a2, .int a3, .int a4, .int ((4 : Int32) * (F k 1))]) (S' := [.int a2, .int (((4 : Int32) * (F k 1)) + (1 : Int32)), .ref (k + 1)]) (M' := (hs t, (ip_u F (k + 1) (((4 : Int32) * (F k 1))).toNatClampNeg a1), G)) 3 (fun _ => rfl) ?_
    obtain ⟨h2_, h⟩ := h
    refine wp_ias (m := ((((4 : Int32) * (F k 1)) + (1 : Int32))).toNatClampNeg) rfl hk.2 rfl h2_ ?_
    refine wp_N (j' := 46) (pc' := 36) (L' := [.ref k, .int a1, .int a2, .int a3, .int a4, .int ((4 : Int32) * (F k 1))]) (S' := [.ref k]) (M' := (hs t, (ip_u (ip_u F (k + 1) (((4 : Int32) * (F k 1))).toNatClampNeg a1) (k + 1) ((((4 : Int32) * (F k 1)) + (1 : Int32))).toNatClampNeg a2), G)) 0 (fun _ => rfl) ?_
    refine wp_getR (r := (k + 1)) rfl hk.1 rfl rfl rfl (hs_lt hk.2) (by decide) ?_
    refine wp_N (j' := 46) (pc' := 44) (L' := [.ref k, .int a1, .int a2, .int a3, .int a4, .int ((4 : Int32) * (F k 1))]) (S' := [.int a3, .int (((4 : Int32) * (F k 1)) + (2 : Int32)), .ref (k + 1)]) (M' := (hs t, (ip_u (ip_u F (k + 1) (((4 : Int32) * (F k 1))).toNatClampNeg a1) (k + 1) ((((4 : Int32) * (F k 1)) + (1 : Int32))).toNatClampNeg a2), G)) 3 (fun _ => rfl) ?_
    obtain ⟨h3_, h⟩ := h
    refine wp_ias (m := ((((4 : Int32) * (F k 1)) + (2 : Int32))).toNatClampNeg) rfl hk.2 rfl h3_ ?_
    refine wp_N (j' := 46) (pc' := 46) (L' := [.ref k, .int a1, .int a2, .int a3, .int a4, .int ((4 : Int32) * (F k 1))]) (S' := [.ref k]) (M' := (hs t, (ip_u (ip_u (ip_u F (k + 1) (((4 : Int32) * (F k 1))).toNatClampNeg a1) (k + 1) ((((4 : Int32) * (F k 1)) + (1 : Int32))).toNatClampNeg a2) (k + 1) ((((4 : Int32) * (F k 1)) + (2 : Int32))).toNatClampNeg a3), G)) 0 (fun _ => rfl) ?_
    refine wp_getR (r := (k + 1)) rfl hk.1 rfl rfl rfl (hs_lt hk.2) (by decide) ?_
    refine wp_N (j' := 46) (pc' := 55) (L' := [.ref k, .int a1, .int a2, .int a3, .int a4, .int ((4 : Int32) * (F k 1))]) (S' := [.int a4, .int (((4 : Int32) * (F k 1)) + (3 : Int32)), .ref (k + 1)]) (M' := (hs t, (ip_u (ip_u (ip_u F (k + 1) (((4 : Int32) * (F k 1))).toNatClampNeg a1) (k + 1) ((((4 : Int32) * (F k 1)) + (1 : Int32))).toNatClampNeg a2) (k + 1) ((((4 : Int32) * (F k 1)) + (2 : Int32))).toNatClampNeg a3), G)) 3 (fun _ => rfl) ?_
    obtain ⟨h4_, h⟩ := h
    refine wp_ias (m := ((((4 : Int32) * (F k 1)) + (3 : Int32))).toNatClampNeg) rfl hk.2 rfl h4_ ?_
    refine wp_N (j' := 46) (pc' := 58) (L' := [.ref k, .int a1, .int a2, .int a3, .int a4, .int ((4 : Int32) * (F k 1))]) (S' := [.ref k, .ref k]) (M' := (hs t, (ip_u (ip_u (ip_u (ip_u F (k + 1) (((4 : Int32) * (F k 1))).toNatClampNeg a1) (k + 1) ((((4 : Int32) * (F k 1)) + (1 : Int32))).toNatClampNeg a2) (k + 1) ((((4 : Int32) * (F k 1)) + (2 : Int32))).toNatClampNeg a3) (k + 1) ((((4 : Int32) * (F k 1)) + (3 : Int32))).toNatClampNeg a4), G)) 1 (fun _ => rfl) ?_
    refine wp_getI rfl hk.1 rfl rfl rfl (by decide) ?_
    refine wp_N (j' := 46) (pc' := 63) (L' := [.ref k, .int a1, .int a2, .int a3, .int a4, .int ((4 : Int32) * (F k 1))]) (S' := [.int (((ip_u (ip_u (ip_u (ip_u F (k + 1) (((4 : Int32) * (F k 1))).toNatClampNeg a1) (k + 1) ((((4 : Int32) * (F k 1)) + (1 : Int32))).toNatClampNeg a2) (k + 1) ((((4 : Int32) * (F k 1)) + (2 : Int32))).toNatClampNeg a3) (k + 1) ((((4 : Int32) * (F k 1)) + (3 : Int32))).toNatClampNeg a4) k 1) + (1 : Int32)), .ref k]) (M' := (hs t, (ip_u (ip_u (ip_u (ip_u F (k + 1) (((4 : Int32) * (F k 1))).toNatClampNeg a1) (k + 1) ((((4 : Int32) * (F k 1)) + (1 : Int32))).toNatClampNeg a2) (k + 1) ((((4 : Int32) * (F k 1)) + (2 : Int32))).toNatClampNeg a3) (k + 1) ((((4 : Int32) * (F k 1)) + (3 : Int32))).toNatClampNeg a4), G)) 1 (fun _ => rfl) ?_
    refine wp_putI rfl hk.1 rfl rfl rfl rfl (by decide) ?_
    exact h
theorem rg46_66 {t : Nat} {F : ip_F} {G : ip_G} {Q : Option Value → ip_M → Prop} {k : Nat} {a1 a2 a3 a4 : Int32} {v5 : Value} (hk : ok4 t k) (h : Q (some (.int (F k 1))) (hs t, F, G)) : wp 46 66 [.ref k, .int a1, .int a2, .int a3, .int a4, v5] [] (hs t, F, G) Q := by
  refine wp_N (j' := 46) (pc' := 67) (L' := [.ref k, .int a1, .int a2, .int a3, .int a4, v5]) (S' := [.ref k]) (M' := (hs t, F, G)) 0 (fun _ => rfl) ?_
  refine wp_getI rfl hk.1 rfl rfl rfl (by decide) ?_
  exact wp_RI rfl rfl h
theorem rg47_0 {t : Nat} {F : ip_F} {G : ip_G} {Q : Option Value → ip_M → Prop} {k : Nat} {a1 a2 : Int32} (hk : ok4 t k) (h : wp 129 0 [.int a1, .int (0 : Int32), .int ((F k 1) - (1 : Int32))] [] (hs t, F, G) (fun v M' => wp 47 11 [.ref k, .int a1, .int a2, .float 0] (v.toList ++ []) M' Q)) : wp 47 0 [.ref k, .int a1, .int a2, .float 0] [] (hs t, F, G) Q := by
  refine wp_N (j' := 47) (pc' := 3) (L' := [.ref k, .int a1, .int a2, .float 0]) (S' := [.ref k, .int (0 : Int32), .int a1]) (M' := (hs t, F, G)) 2 (fun _ => rfl) ?_
  refine wp_getI rfl hk.1 rfl rfl rfl (by decide) ?_
  refine wp_N (j' := 47) (pc' := 8) (L' := [.ref k, .int a1, .int a2, .float 0]) (S' := [.int ((F k 1) - (1 : Int32)), .int (0 : Int32), .int a1]) (M' := (hs t, F, G)) 1 (fun _ => rfl) ?_
  refine wp_C (i := 129) (pc' := 11) (Li := [.int a1, .int (0 : Int32), .int ((F k 1) - (1 : Int32))]) (rest := []) (fun _ => rfl) h
theorem rg47_11 {t : Nat} {F : ip_F} {G : ip_G} {Q : Option Value → ip_M → Prop} {k : Nat} {a1 a2 as0 : Int32} {v3 : Value} (hk : ok4 t k) (h : (as0 = (0 : Int32) → wp 47 28 [.ref k, .int a1, .int a2, v3] [.int (0 : Int32)] (hs t, F, G) Q) ∧ (¬ as0 = (0 : Int32) → wp 129 0 [.int a2, .int (0 : Int32), .int (3 : Int32)] [] (hs t, F, G) (fun v M' => wp 47 20 [.ref k, .int a1, .int a2, v3] (v.toList ++ []) M' Q))) : wp 47 11 [.ref k, .int a1, .int a2, v3] [.int as0] (hs t, F, G) Q := by
  refine wp_ifc (pc1 := 27) (c := .eq) rfl (fun hc => ?_) (fun hc => ?_)
  · replace h := h.1 hc
    refine wp_N (j' := 47) (pc' := 28) (L' := [.ref k, .int a1, .int a2, v3]) (S' := [.int (0 : Int32)]) (M' := (hs t, F, G)) 0 (fun _ => rfl) ?_
    exact h
  · replace h := h.2 hc
    refine wp_N (j' := 47) (pc' := 17) (L' := [.ref k, .int a1, .int a2, v3]) (S' := [.int (3 : Int32), .int (0 : Int32), .int a2]) (M' := (hs t, F, G)) 2 (fun _ => rfl) ?_
    refine wp_C (i := 129) (pc' := 20) (Li := [.int a2, .int (0 : Int32), .int (3 : Int32)]) (rest := []) (fun _ => rfl) h
theorem rg47_20 {t : Nat} {F : ip_F} {G : ip_G} {Q : Option Value → ip_M → Prop} {k : Nat} {a1 a2 as0 : Int32} {v3 : Value} (hk : ok4 t k) (h : (as0 = (0 : Int32) → wp 47 28 [.ref k, .int a1, .int a2, v3] [.int (0 : Int32)] (hs t, F, G) Q) ∧ (¬ as0 = (0 : Int32) → wp 47 28 [.ref k, .int a1, .int a2, v3] [.int (1 : Int32)] (hs t, F, G) Q)) : wp 47 20 [.ref k, .int a1, .int a2, v3] [.int as0] (hs t, F, G) Q := by
  refine wp_ifc (pc1 := 27) (c := .eq) rfl (fun hc => ?_) (fun hc => ?_)
  · replace h := h.1 hc
    refine wp_N (j' := 47) (pc' := 28) (L' := [.ref k, .int a1, .int a2, v3]) (S' := [.int (0 : Int32)]) (M' := (hs t, F, G)) 0 (fun _ => rfl) ?_
    exact h
  · replace h := h.2 hc
    refine wp_N (j' := 47) (pc' := 28) (L' := [.ref k, .int a1, .int a2, v3]) (S' := [.int (1 : Int32)]) (M' := (hs t, F, G)) 1 (fun _ => rfl) ?_
    exact h
theorem rg47_28 {t : Nat} {F : ip_F} {G : ip_G} {Q : Option Value → ip_M → Prop} {k : Nat} {a1 a2 as0 : Int32} {v3 : Value} (hk : ok4 t k) (h : (as0 = (0 : Int32) → Q (some (.int (-1 : Int32))) (hs t, F, G)) ∧ (¬ as0 = (0 : Int32) → (vp_in (((4 : Int32) * a1) + a2) 24) ∧ (Q (some (.int (F (k + 1) ((((4 : Int32) * a1) + a2)).toNatClampNeg))) (hs t, F, G)))) : wp 47 28 [.ref k, .int a1, .int a2, v3] [.int as0] (hs t, F, G) Q := by
  refine wp_N (j' := 47) (pc' := 30) (L' := [.ref k, .int a1, .int a2, .int as0]) (S' := [.int as0]) (M' := (hs t, F, G)) 1 (fun _ => rfl) ?_
  refine wp_ifc (pc1 := 46) (c := .eq) rfl (fun hc => ?_) (fun hc => ?_)
  · replace h := h.1 hc
    refine wp_N (j' := 47) (pc' := 47) (L' := [.ref k, .int a1, .int a2, .int as0]) (S' := [.int (-1 : Int32)]) (M' := (hs t, F, G)) 0 (fun _ => rfl) ?_
    exact wp_RI rfl rfl h
  · replace h := h.2 hc
    refine wp_N (j' := 47) (pc' := 34) (L' := [.ref k, .int a1, .int a2, .int as0]) (S' := [.ref k]) (M' := (hs t, F, G)) 0 (fun _ => rfl) ?_
    refine wp_getR (r := (k + 1)) rfl hk.1 rfl rfl rfl (hs_lt hk.2) (by decide) ?_
    refine wp_N (j' := 47) (pc' := 42) (L' := [.ref k, .int a1, .int a2, .int as0]) (S' := [.int (((4 : Int32) * a1) + a2), .ref (k + 1)]) (M' := (hs t, F, G)) 4 (fun _ => rfl) ?_
    obtain ⟨h1_, h⟩ := h
    refine wp_ial (m := ((((4 : Int32) * a1) + a2)).toNatClampNeg) rfl hk.2 rfl h1_ ?_
    refine wp_N (j' := 47) (pc' := 47) (L' := [.ref k, .int a1, .int a2, .int as0]) (S' := [.int (F (k + 1) ((((4 : Int32) * a1) + a2)).toNatClampNeg)]) (M' := (hs t, F, G)) 0 (fun _ => rfl) ?_
    exact wp_RI rfl rfl h
theorem rg48_0 {t : Nat} {F : ip_F} {G : ip_G} {Q : Option Value → ip_M → Prop} {k : Nat} {a3 : Int32} {b1 : Int64} (hk : ok4 t k) (h : wp 48 6 [.ref k, .long b1, .float 0, .int a3, .long b1, .float 0, .int (0 : Int32), .float 0] [] (hs t, F, G) Q) : wp 48 0 [.ref k, .long b1, .float 0, .int a3, .float 0, .float 0, .float 0, .float 0] [] (hs t, F, G) Q := by
  refine wp_N (j' := 48) (pc' := 6) (L' := [.ref k, .long b1, .float 0, .int a3, .long b1, .float 0, .int (0 : Int32), .float 0]) (S' := []) (M' := (hs t, F, G)) 3 (fun _ => rfl) ?_
  exact h
theorem rg48_6 {t : Nat} {F : ip_F} {G : ip_G} {Q : Option Value → ip_M → Prop} {k : Nat} {a3 a6 : Int32} {b1 b4 : Int64} {v2 v5 v7 : Value} (hk : ok4 t k) (h : ((F k 1) ≤ a6 → Q (some (.long b4)) (hs t, F, G)) ∧ (a6 < (F k 1) → wp 48 18 [.ref k, .long b1, v2, .int a3, .long b4, v5, .int a6, .int (0 : Int32)] [] (hs t, F, G) Q)) : wp 48 6 [.ref k, .long b1, v2, .int a3, .long b4, v5, .int a6, v7] [] (hs t, F, G) Q := by
  refine wp_N (j' := 48) (pc' := 9) (L' := [.ref k, .long b1, v2, .int a3, .long b4, v5, .int a6, v7]) (S' := [.ref k, .int a6]) (M' := (hs t, F, G)) 1 (fun _ => rfl) ?_
  refine wp_getI rfl hk.1 rfl rfl rfl (by decide) ?_
  refine wp_icmp (pc1 := 54) (c := .ge) rfl (fun hc => ?_) (fun hc => ?_)
  · replace h := h.1 hc
    refine wp_N (j' := 48) (pc' := 56) (L' := [.ref k, .long b1, v2, .int a3, .long b4, v5, .int a6, v7]) (S' := [.long b4]) (M' := (hs t, F, G)) 0 (fun _ => rfl) ?_
    exact wp_RL rfl rfl h
  · replace h := h.2 (Int32.not_le.mp hc)
    refine wp_N (j' := 48) (pc' := 18) (L' := [.ref k, .long b1, v2, .int a3, .long b4, v5, .int a6, .int (0 : Int32)]) (S' := []) (M' := (hs t, F, G)) 1 (fun _ => rfl) ?_
    exact h
theorem rg48_18 {t : Nat} {F : ip_F} {G : ip_G} {Q : Option Value → ip_M → Prop} {k : Nat} {a3 a6 a7 : Int32} {b1 b4 : Int64} {v2 v5 : Value} (hk : ok4 t k) (h : (a3 ≤ a7 → wp 48 6 [.ref k, .long b1, v2, .int a3, .long b4, (ip_unl v5), .int (a6 + (1 : Int32)), .int a7] [] (hs t, F, G) Q) ∧ (a7 < a3 → wp 47 0 [.ref k, .int a6, .int a7, .float 0] [] (hs t, F, G) (fun v M' => wp 48 38 [.ref k, .long b1, v2, .int a3, .long b4, v5, .int a6, .int a7] (v.toList ++ [.long ((31 : Int64) * b4)]) M' Q))) : wp 48 18 [.ref k, .long b1, v2, .int a3, .long b4, v5, .int a6, .int a7] [] (hs t, F, G) Q := by
  refine wp_N (j' := 48) (pc' := 21) (L' := [.ref k, .long b1, v2, .int a3, .long b4, v5, .int a6, .int a7]) (S' := [.int a3, .int a7]) (M' := (hs t, F, G)) 1 (fun _ => rfl) ?_
  refine wp_icmp (pc1 := 48) (c := .ge) rfl (fun hc => ?_) (fun hc => ?_)
  · replace h := h.1 hc
    refine wp_N (j' := 48) (pc' := 6) (L' := [.ref k, .long b1, v2, .int a3, .long b4, (ip_unl v5), .int (a6 + (1 : Int32)), .int a7]) (S' := []) (M' := (hs t, F, G)) 1 (fun _ => rfl) ?_
    exact h
  · replace h := h.2 (Int32.not_le.mp hc)
    refine wp_ldc2 (v := (31 : Int64)) rfl rfl rfl ?_
    refine wp_N (j' := 48) (pc' := 29) (L' := [.ref k, .long b1, v2, .int a3, .long b4, v5, .int a6, .int a7]) (S' := [.long b4, .long (31 : Int64)]) (M' := (hs t, F, G)) 0 (fun _ => rfl) ?_
    refine wp_lmul rfl ?_
    refine wp_N (j' := 48) (pc' := 35) (L' := [.ref k, .long b1, v2, .int a3, .long b4, v5, .int a6, .int a7]) (S' := [.int a7, .int a6, .ref k, .long ((31 : Int64) * b4)]) (M' := (hs t, F, G)) 2 (fun _ => rfl) ?_
    refine wp_CV (as := [.int a6, .int a7]) (S := [.long ((31 : Int64) * b4)]) rfl hk.1 rfl rfl rfl (Nat.le_of_ble_eq_true rfl) rfl ⟨rfl, rfl⟩ rfl h
theorem rg48_38 {t : Nat} {F : ip_F} {G : ip_G} {Q : Option Value → ip_M → Prop} {k : Nat} {a3 a6 a7 as1 : Int32} {b1 b4 bs0 : Int64} {v2 v5 : Value} (hk : ok4 t k) (h : wp 48 18 [.ref k, .long b1, v2, .int a3, .long (bs0 + as1.toInt64), .float 0, .int a6, .int (a7 + (1 : Int32))] [] (hs t, F, G) Q) : wp 48 38 [.ref k, .long b1, v2, .int a3, .long b4, v5, .int a6, .int a7] [.int as1, .long bs0] (hs t, F, G) Q := by
  refine wp_N (j' := 48) (pc' := 39) (L' := [.ref k, .long b1, v2, .int a3, .long b4, v5, .int a6, .int a7]) (S' := [.long as1.toInt64, .long bs0]) (M' := (hs t, F, G)) 0 (fun _ => rfl) ?_
  refine wp_ladd rfl ?_
  refine wp_N (j' := 48) (pc' := 18) (L' := [.ref k, .long b1, v2, .int a3, .long (bs0 + as1.toInt64), .float 0, .int a6, .int (a7 + (1 : Int32))]) (S' := []) (M' := (hs t, F, G)) 2 (fun _ => rfl) ?_
  exact h
theorem rg49_0 {t : Nat} {F : ip_F} {G : ip_G} {Q : Option Value → ip_M → Prop} {k : Nat} (hk : ok4 t k) (h : Q (some (.int (F k 1))) (hs t, (ip_u F k 1 (0 : Int32)), G)) : wp 49 0 [.ref k, .float 0] [] (hs t, F, G) Q := by
  refine wp_N (j' := 49) (pc' := 1) (L' := [.ref k, .float 0]) (S' := [.ref k]) (M' := (hs t, F, G)) 0 (fun _ => rfl) ?_
  refine wp_getI rfl hk.1 rfl rfl rfl (by decide) ?_
  refine wp_N (j' := 49) (pc' := 7) (L' := [.ref k, .int (F k 1)]) (S' := [.int (0 : Int32), .ref k]) (M' := (hs t, F, G)) 2 (fun _ => rfl) ?_
  refine wp_putI rfl hk.1 rfl rfl rfl rfl (by decide) ?_
  refine wp_N (j' := 49) (pc' := 11) (L' := [.ref k, .int (F k 1)]) (S' := [.int (F k 1)]) (M' := (hs t, (ip_u F k 1 (0 : Int32)), G)) 0 (fun _ => rfl) ?_
  exact wp_RI rfl rfl h
theorem rg50_0 {t : Nat} {F : ip_F} {G : ip_G} {Q : Option Value → ip_M → Prop} {k o : Nat} (hk : ok4 t k) (ho : ok4 t o) (h : Q none (hs t, (ip_ur (ip_u F k 1 (F o 1)) (k + 1) (va_cpy ((ip_u F k 1 (F o 1)) (o + 1)) ((ip_u F k 1 (F o 1)) (k + 1)) 0 0 24)), G)) : wp 50 0 [.ref k, .ref o] [] (hs t, F, G) Q := by
  refine wp_N (j' := 50) (pc' := 2) (L' := [.ref k, .ref o]) (S' := [.ref o, .ref k]) (M' := (hs t, F, G)) 1 (fun _ => rfl) ?_
  refine wp_getI rfl ho.1 rfl rfl rfl (by decide) ?_
  refine wp_putI rfl hk.1 rfl rfl rfl rfl (by decide) ?_
  refine wp_N (j' := 50) (pc' := 9) (L' := [.ref k, .ref o]) (S' := [.ref o]) (M' := (hs t, (ip_u F k 1 (F o 1)), G)) 0 (fun _ => rfl) ?_
  refine wp_getR (r := (o + 1)) rfl ho.1 rfl rfl rfl (hs_lt ho.2) (by decide) ?_
  refine wp_N (j' := 50) (pc' := 14) (L' := [.ref k, .ref o]) (S' := [.ref k, .int (0 : Int32), .ref (o + 1)]) (M' := (hs t, (ip_u F k 1 (F o 1)), G)) 1 (fun _ => rfl) ?_
  refine wp_getR (r := (k + 1)) rfl hk.1 rfl rfl rfl (hs_lt hk.2) (by decide) ?_
  refine wp_N (j' := 50) (pc' := 20) (L' := [.ref k, .ref o]) (S' := [.int (24 : Int32), .int (0 : Int32), .ref (k + 1), .int (0 : Int32), .ref (o + 1)]) (M' := (hs t, (ip_u F k 1 (F o 1)), G)) 1 (fun _ => rfl) ?_
  refine wp_cpy (sp' := 0) (dp' := 0) (n' := 24) rfl ho.2 hk.2 (by decide) (by decide) rfl rfl rfl (by decide) (by decide) ?_
  exact wp_RV rfl rfl h
theorem rg51_0 {t : Nat} {F : ip_F} {G : ip_G} {Q : Option Value → ip_M → Prop} {a0 a1 a2 : Int32} (h : (a1 < (3 : Int32) → wp 51 10 [.int a0, .int a1, .int a2, .float 0, .float 0] [.int (0 : Int32)] (hs t, F, G) Q) ∧ ((3 : Int32) ≤ a1 → wp 51 10 [.int a0, .int a1, .int a2, .float 0, .float 0] [.int (1 : Int32)] (hs t, F, G) Q)) : wp 51 0 [.int a0, .int a1, .int a2, .float 0, .float 0] [] (hs t, F, G) Q := by
  refine wp_N (j' := 51) (pc' := 2) (L' := [.int a0, .int a1, .int a2, .float 0, .float 0]) (S' := [.int (3 : Int32), .int a1]) (M' := (hs t, F, G)) 1 (fun _ => rfl) ?_
  refine wp_icmp (pc1 := 9) (c := .lt) rfl (fun hc => ?_) (fun hc => ?_)
  · replace h := h.1 hc
    refine wp_N (j' := 51) (pc' := 10) (L' := [.int a0, .int a1, .int a2, .float 0, .float 0]) (S' := [.int (0 : Int32)]) (M' := (hs t, F, G)) 0 (fun _ => rfl) ?_
    exact h
  · replace h := h.2 (Int32.not_lt.mp hc)
    refine wp_N (j' := 51) (pc' := 10) (L' := [.int a0, .int a1, .int a2, .float 0, .float 0]) (S' := [.int (1 : Int32)]) (M' := (hs t, F, G)) 1 (fun _ => rfl) ?_
    exact h
theorem rg51_10 {t : Nat} {F : ip_F} {G : ip_G} {Q : Option Value → ip_M → Prop} {a0 a1 a2 as0 : Int32} {v3 v4 : Value} (h : ((a2 - a2 / (5 : Int32) * (5 : Int32)) = (0 : Int32) → wp 51 22 [.int a0, .int a1, .int a2, .int as0, v4] [.int (0 : Int32)] (hs t, F, G) Q) ∧ (¬ (a2 - a2 / (5 : Int32) * (5 : Int32)) = (0 : Int32) → wp 51 22 [.int a0, .int a1, .int a2, .int as0, v4] [.int (1 : Int32)] (hs t, F, G) Q)) : wp 51 10 [.int a0, .int a1, .int a2, v3, v4] [.int as0] (hs t, F, G) Q := by
  refine wp_N (j' := 51) (pc' := 13) (L' := [.int a0, .int a1, .int a2, .int as0, v4]) (S' := [.int (5 : Int32), .int a2]) (M' := (hs t, F, G)) 2 (fun _ => rfl) ?_
  refine wp_irem rfl (by decide) ?_
  refine wp_ifc (pc1 := 21) (c := .eq) rfl (fun hc => ?_) (fun hc => ?_)
  · replace h := h.1 hc
    refine wp_N (j' := 51) (pc' := 22) (L' := [.int a0, .int a1, .int a2, .int as0, v4]) (S' := [.int (0 : Int32)]) (M' := (hs t, F, G)) 0 (fun _ => rfl) ?_
    exact h
  · replace h := h.2 hc
    refine wp_N (j' := 51) (pc' := 22) (L' := [.int a0, .int a1, .int a2, .int as0, v4]) (S' := [.int (1 : Int32)]) (M' := (hs t, F, G)) 1 (fun _ => rfl) ?_
    exact h
theorem rg51_22 {t : Nat} {F : ip_F} {G : ip_G} {Q : Option Value → ip_M → Prop} {a0 a1 a2 a3 as0 : Int32} {v4 : Value} (h : (a0 = (0 : Int32) → Q (some (.int (1 : Int32))) (hs t, F, G)) ∧ ((a0 = (1 : Int32) → (a3 &&& 1 = a3) ∧ (Q (some (.int a3)) (hs t, F, G))) ∧ ((a0 = (2 : Int32) → (as0 &&& 1 = as0) ∧ (Q (some (.int as0)) (hs t, F, G))) ∧ ((a0 = (3 : Int32) → (a1 < (9 : Int32) → Q (some (.int (0 : Int32))) (hs t, F, G)) ∧ ((9 : Int32) ≤ a1 → (a3 = (0 : Int32) → Q (some (.int (0 : Int32))) (hs t, F, G)) ∧ (¬ a3 = (0 : Int32) → Q (some (.int (1 : Int32))) (hs t, F, G)))) ∧ ((a0 = (4 : Int32) → (¬ (a1 - a1 / (2 : Int32) * (2 : Int32)) = (0 : Int32) → Q (some (.int (0 : Int32))) (hs t, F, G)) ∧ ((a1 - a1 / (2 : Int32) * (2 : Int32)) = (0 : Int32) → Q (some (.int (1 : Int32))) (hs t, F, G))) ∧ ((¬ a0 = (0 : Int32) ∧ ¬ a0 = (1 : Int32) ∧ ¬ a0 = (2 : Int32) ∧ ¬ a0 = (3 : Int32) ∧ ¬ a0 = (4 : Int32) → (as0 = (0 : Int32) → Q (some (.int (0 : Int32))) (hs t, F, G)) ∧ (¬ as0 = (0 : Int32) → (¬ (a2 - a2 / (2 : Int32) * (2 : Int32)) = (0 : Int32) → Q (some (.int (0 : Int32))) (hs t, F, G)) ∧ ((a2 - a2 / (2 : Int32) * (2 : Int32)) = (0 : Int32) → Q (some (.int (1 : Int32))) (hs t, F, G)))))))))) : wp 51 22 [.int a0, .int a1, .int a2, .int a3, v4] [.int as0] (hs t, F, G) Q := by
  refine wp_N (j' := 51) (pc' := 25) (L' := [.int a0, .int a1, .int a2, .int a3, .int as0]) (S' := [.int a0]) (M' := (hs t, F, G)) 1 (fun _ => rfl) ?_
  by_cases e0 : a0 = (0 : Int32)
  · replace h := h.1 e0
    refine wp_S (x := a0) (d := 70) (lo := 0) (hi := 4) (offs := #[35, 37, 39, 42, 58]) (S' := []) (t := 60) (fun _ => rfl) (by rw [e0]; rfl) ?_
    refine wp_N (j' := 51) (pc' := 61) (L' := [.int a0, .int a1, .int a2, .int a3, .int as0]) (S' := [.int (1 : Int32)]) (M' := (hs t, F, G)) 0 (fun _ => rfl) ?_
    exact wp_RZ rfl rfl (by decide) h
  replace h := h.2
  by_cases e1 : a0 = (1 : Int32)
  · replace h := h.1 e1
    refine wp_S (x := a0) (d := 70) (lo := 0) (hi := 4) (offs := #[35, 37, 39, 42, 58]) (S' := []) (t := 62) (fun _ => rfl) (by rw [e1]; rfl) ?_
    refine wp_N (j' := 51) (pc' := 63) (L' := [.int a0, .int a1, .int a2, .int a3, .int as0]) (S' := [.int a3]) (M' := (hs t, F, G)) 0 (fun _ => rfl) ?_
    obtain ⟨h1_, h⟩ := h
    exact wp_RZ rfl rfl h1_ h
  replace h := h.2
  by_cases e2 : a0 = (2 : Int32)
  · replace h := h.1 e2
    refine wp_S (x := a0) (d := 70) (lo := 0) (hi := 4) (offs := #[35, 37, 39, 42, 58]) (S' := []) (t := 64) (fun _ => rfl) (by rw [e2]; rfl) ?_
    refine wp_N (j' := 51) (pc' := 66) (L' := [.int a0, .int a1, .int a2, .int a3, .int as0]) (S' := [.int as0]) (M' := (hs t, F, G)) 0 (fun _ => rfl) ?_
    obtain ⟨h2_, h⟩ := h
    exact wp_RZ rfl rfl h2_ h
  replace h := h.2
  by_cases e3 : a0 = (3 : Int32)
  · replace h := h.1 e3
    refine wp_S (x := a0) (d := 70) (lo := 0) (hi := 4) (offs := #[35, 37, 39, 42, 58]) (S' := []) (t := 67) (fun _ => rfl) (by rw [e3]; rfl) ?_
    refine wp_N (j' := 51) (pc' := 70) (L' := [.int a0, .int a1, .int a2, .int a3, .int as0]) (S' := [.int (9 : Int32), .int a1]) (M' := (hs t, F, G)) 1 (fun _ => rfl) ?_
    refine wp_icmp (pc1 := 81) (c := .lt) rfl (fun hc => ?_) (fun hc => ?_)
    · replace h := h.1 hc
      refine wp_N (j' := 51) (pc' := 82) (L' := [.int a0, .int a1, .int a2, .int a3, .int as0]) (S' := [.int (0 : Int32)]) (M' := (hs t, F, G)) 0 (fun _ => rfl) ?_
      exact wp_RZ rfl rfl (by decide) h
    · replace h := h.2 (Int32.not_lt.mp hc)
      refine wp_N (j' := 51) (pc' := 74) (L' := [.int a0, .int a1, .int a2, .int a3, .int as0]) (S' := [.int a3]) (M' := (hs t, F, G)) 0 (fun _ => rfl) ?_
      refine wp_ifc (pc1 := 81) (c := .eq) rfl (fun hc => ?_) (fun hc => ?_)
      · replace h := h.1 hc
        refine wp_N (j' := 51) (pc' := 82) (L' := [.int a0, .int a1, .int a2, .int a3, .int as0]) (S' := [.int (0 : Int32)]) (M' := (hs t, F, G)) 0 (fun _ => rfl) ?_
        exact wp_RZ rfl rfl (by decide) h
      · replace h := h.2 hc
        refine wp_N (j' := 51) (pc' := 82) (L' := [.int a0, .int a1, .int a2, .int a3, .int as0]) (S' := [.int (1 : Int32)]) (M' := (hs t, F, G)) 1 (fun _ => rfl) ?_
        exact wp_RZ rfl rfl (by decide) h
  replace h := h.2
  by_cases e4 : a0 = (4 : Int32)
  · replace h := h.1 e4
    refine wp_S (x := a0) (d := 70) (lo := 0) (hi := 4) (offs := #[35, 37, 39, 42, 58]) (S' := []) (t := 83) (fun _ => rfl) (by rw [e4]; rfl) ?_
    refine wp_N (j' := 51) (pc' := 85) (L' := [.int a0, .int a1, .int a2, .int a3, .int as0]) (S' := [.int (2 : Int32), .int a1]) (M' := (hs t, F, G)) 1 (fun _ => rfl) ?_
    refine wp_irem rfl (by decide) ?_
    refine wp_ifc (pc1 := 93) (c := .ne) rfl (fun hc => ?_) (fun hc => ?_)
    · replace h := h.1 hc
      refine wp_N (j' := 51) (pc' := 94) (L' := [.int a0, .int a1, .int a2, .int a3, .int as0]) (S' := [.int (0 : Int32)]) (M' := (hs t, F, G)) 0 (fun _ => rfl) ?_
      exact wp_RZ rfl rfl (by decide) h
    · replace h := h.2 (Decidable.not_not.mp hc)
      refine wp_N (j' := 51) (pc' := 94) (L' := [.int a0, .int a1, .int a2, .int a3, .int as0]) (S' := [.int (1 : Int32)]) (M' := (hs t, F, G)) 1 (fun _ => rfl) ?_
      exact wp_RZ rfl rfl (by decide) h
  replace h := h.2
  replace h := h ⟨e0, e1, e2, e3, e4⟩
  have h3_ : ∀ i : Nat, i < 5 → ¬ a0 = Int32.ofInt (0 + i) := by
    intro i hi
    match i, hi with
    | 0, _ => exact e0
    | 1, _ => exact e1
    | 2, _ => exact e2
    | 3, _ => exact e3
    | 4, _ => exact e4
  refine wp_S (x := a0) (d := 70) (lo := 0) (hi := 4) (offs := #[35, 37, 39, 42, 58]) (S' := []) (t := 95) (fun _ => rfl) (wp_Sd (by have := in_out2 (lo := 0) (n := 5) h3_ (by decide) (by decide); simp only [Int.cast_ofNat_Int] at this; omega) (by decide)) ?_
  refine wp_N (j' := 51) (pc' := 97) (L' := [.int a0, .int a1, .int a2, .int a3, .int as0]) (S' := [.int as0]) (M' := (hs t, F, G)) 0 (fun _ => rfl) ?_
  refine wp_ifc (pc1 := 110) (c := .eq) rfl (fun hc => ?_) (fun hc => ?_)
  · replace h := h.1 hc
    refine wp_N (j' := 51) (pc' := 111) (L' := [.int a0, .int a1, .int a2, .int a3, .int as0]) (S' := [.int (0 : Int32)]) (M' := (hs t, F, G)) 0 (fun _ => rfl) ?_
    exact wp_RZ rfl rfl (by decide) h
  · replace h := h.2 hc
    refine wp_N (j' := 51) (pc' := 102) (L' := [.int a0, .int a1, .int a2, .int a3, .int as0]) (S' := [.int (2 : Int32), .int a2]) (M' := (hs t, F, G)) 1 (fun _ => rfl) ?_
    refine wp_irem rfl (by decide) ?_
    refine wp_ifc (pc1 := 110) (c := .ne) rfl (fun hc => ?_) (fun hc => ?_)
    · replace h := h.1 hc
      refine wp_N (j' := 51) (pc' := 111) (L' := [.int a0, .int a1, .int a2, .int a3, .int as0]) (S' := [.int (0 : Int32)]) (M' := (hs t, F, G)) 0 (fun _ => rfl) ?_
      exact wp_RZ rfl rfl (by decide) h
    · replace h := h.2 (Decidable.not_not.mp hc)
      refine wp_N (j' := 51) (pc' := 111) (L' := [.int a0, .int a1, .int a2, .int a3, .int as0]) (S' := [.int (1 : Int32)]) (M' := (hs t, F, G)) 1 (fun _ => rfl) ?_
      exact wp_RZ rfl rfl (by decide) h
theorem rg53_0 {t : Nat} {F : ip_F} {G : ip_G} {Q : Option Value → ip_M → Prop} (h : wp 79 0 [.ref 3, .float 0, .float 0] [] (hs t, F, G) (fun v M' => wp 53 7 [.ref 88, .ref 1, .float 0, .float 0, .float 0, .float 0] (v.toList ++ []) M' Q)) : wp 53 0 [.ref 88, .ref 1, .float 0, .float 0, .float 0, .float 0] [] (hs t, F, G) Q := by
  refine wp_N (j' := 53) (pc' := 4) (L' := [.ref 88, .ref 1, .float 0, .float 0, .float 0, .float 0]) (S' := [.ref 3]) (M' := (hs t, F, G)) 1 (fun _ => rfl) ?_
  refine wp_C (i := 79) (pc' := 7) (Li := [.ref 3, .float 0, .float 0]) (rest := []) (fun _ => rfl) h
theorem rg53_7 {t : Nat} {F : ip_F} {G : ip_G} {Q : Option Value → ip_M → Prop} {as0 : Int32} {v2 v3 v4 v5 : Value} (h : wp 22 0 [.ref 89, .int (F 1 6), .ref 2, .float 0, .float 0] [] (hs t, F, G) (fun v M' => wp 53 25 [.ref 88, .ref 1, .int as0, .int (-1 : Int32), v4, v5] (v.toList ++ []) M' Q)) : wp 53 7 [.ref 88, .ref 1, v2, v3, v4, v5] [.int as0] (hs t, F, G) Q := by
  refine wp_N (j' := 53) (pc' := 22) (L' := [.ref 88, .ref 1, .int as0, .int (-1 : Int32), v4, v5]) (S' := [.ref 2, .int (F 1 6), .ref 89]) (M' := (hs t, F, G)) 8 (fun _ => rfl) ?_
  refine wp_C (i := 22) (pc' := 25) (Li := [.ref 89, .int (F 1 6), .ref 2, .float 0, .float 0]) (rest := []) (fun _ => rfl) h
theorem rg53_25 {t : Nat} {F : ip_F} {G : ip_G} {Q : Option Value → ip_M → Prop} {a2 a3 : Int32} {v4 v5 : Value} (h : wp 53 28 [.ref 88, .ref 1, .int a2, .int a3, .int (0 : Int32), v5] [] (hs t, F, G) Q) : wp 53 25 [.ref 88, .ref 1, .int a2, .int a3, v4, v5] [] (hs t, F, G) Q := by
  refine wp_N (j' := 53) (pc' := 28) (L' := [.ref 88, .ref 1, .int a2, .int a3, .int (0 : Int32), v5]) (S' := []) (M' := (hs t, F, G)) 1 (fun _ => rfl) ?_
  exact h
theorem rg53_28 {t : Nat} {F : ip_F} {G : ip_G} {Q : Option Value → ip_M → Prop} {a2 a3 a4 : Int32} {v5 : Value} (h : ((64 : Int32) ≤ a4 → Q (some (.int a3)) (hs t, F, G)) ∧ (a4 < (64 : Int32) → (a3 = (-1 : Int32) → wp 53 57 [.ref 88, .ref 1, .int a2, .int a3, .int a4, v5] [.int (1 : Int32)] (hs t, F, G) Q) ∧ (¬ a3 = (-1 : Int32) → wp 236 0 [.int a4] [] (hs t, F, G) (fun v M' => wp 53 45 [.ref 88, .ref 1, .int a2, .int a3, .int a4, v5] (v.toList ++ []) M' Q)))) : wp 53 28 [.ref 88, .ref 1, .int a2, .int a3, .int a4, v5] [] (hs t, F, G) Q := by
  refine wp_N (j' := 53) (pc' := 32) (L' := [.ref 88, .ref 1, .int a2, .int a3, .int a4, v5]) (S' := [.int (64 : Int32), .int a4]) (M' := (hs t, F, G)) 1 (fun _ => rfl) ?_
  refine wp_icmp (pc1 := 113) (c := .ge) rfl (fun hc => ?_) (fun hc => ?_)
  · replace h := h.1 hc
    refine wp_N (j' := 53) (pc' := 114) (L' := [.ref 88, .ref 1, .int a2, .int a3, .int a4, v5]) (S' := [.int a3]) (M' := (hs t, F, G)) 0 (fun _ => rfl) ?_
    exact wp_RI rfl rfl h
  · replace h := h.2 (Int32.not_le.mp hc)
    refine wp_N (j' := 53) (pc' := 37) (L' := [.ref 88, .ref 1, .int a2, .int a3, .int a4, v5]) (S' := [.int (-1 : Int32), .int a3]) (M' := (hs t, F, G)) 1 (fun _ => rfl) ?_
    refine wp_icmp (pc1 := 52) (c := .eq) rfl (fun hc => ?_) (fun hc => ?_)
    · replace h := h.1 hc
      refine wp_N (j' := 53) (pc' := 57) (L' := [.ref 88, .ref 1, .int a2, .int a3, .int a4, v5]) (S' := [.int (1 : Int32)]) (M' := (hs t, F, G)) 1 (fun _ => rfl) ?_
      exact h
    · replace h := h.2 hc
      refine wp_N (j' := 53) (pc' := 42) (L' := [.ref 88, .ref 1, .int a2, .int a3, .int a4, v5]) (S' := [.int a4]) (M' := (hs t, F, G)) 0 (fun _ => rfl) ?_
      refine wp_C (i := 236) (pc' := 45) (Li := [.int a4]) (rest := []) (fun _ => rfl) h
theorem rg53_45 {t : Nat} {F : ip_F} {G : ip_G} {Q : Option Value → ip_M → Prop} {a2 a3 a4 as0 : Int32} {v5 : Value} (h : wp 236 0 [.int a3] [] (hs t, F, G) (fun v M' => wp 53 49 [.ref 88, .ref 1, .int a2, .int a3, .int a4, v5] (v.toList ++ [.int as0]) M' Q)) : wp 53 45 [.ref 88, .ref 1, .int a2, .int a3, .int a4, v5] [.int as0] (hs t, F, G) Q := by
  refine wp_N (j' := 53) (pc' := 46) (L' := [.ref 88, .ref 1, .int a2, .int a3, .int a4, v5]) (S' := [.int a3, .int as0]) (M' := (hs t, F, G)) 0 (fun _ => rfl) ?_
  refine wp_C (i := 236) (pc' := 49) (Li := [.int a3]) (rest := [.int as0]) (fun _ => rfl) h
theorem rg53_49 {t : Nat} {F : ip_F} {G : ip_G} {Q : Option Value → ip_M → Prop} {a2 a3 a4 as0 as1 : Int32} {v5 : Value} (h : (as1 ≤ as0 → wp 53 57 [.ref 88, .ref 1, .int a2, .int a3, .int a4, v5] [.int (0 : Int32)] (hs t, F, G) Q) ∧ (as0 < as1 → wp 53 57 [.ref 88, .ref 1, .int a2, .int a3, .int a4, v5] [.int (1 : Int32)] (hs t, F, G) Q)) : wp 53 49 [.ref 88, .ref 1, .int a2, .int a3, .int a4, v5] [.int as1, .int as0] (hs t, F, G) Q := by
  refine wp_icmp (pc1 := 56) (c := .ge) rfl (fun hc => ?_) (fun hc => ?_)
  · replace h := h.1 hc
    refine wp_N (j' := 53) (pc' := 57) (L' := [.ref 88, .ref 1, .int a2, .int a3, .int a4, v5]) (S' := [.int (0 : Int32)]) (M' := (hs t, F, G)) 0 (fun _ => rfl) ?_
    exact h
  · replace h := h.2 (Int32.not_le.mp hc)
    refine wp_N (j' := 53) (pc' := 57) (L' := [.ref 88, .ref 1, .int a2, .int a3, .int a4, v5]) (S' := [.int (1 : Int32)]) (M' := (hs t, F, G)) 1 (fun _ => rfl) ?_
    exact h
theorem rg53_57 {t : Nat} {F : ip_F} {G : ip_G} {Q : Option Value → ip_M → Prop} {a2 a3 a4 as0 : Int32} {v5 : Value} (h : (as0 = (0 : Int32) → wp 53 107 [.ref 88, .ref 1, .int a2, .int a3, .int a4, .int as0] [] (hs t, F, G) Q) ∧ (¬ as0 = (0 : Int32) → (¬ (a4 &&& (a2 ^^^ (-1 : Int32))) = (0 : Int32) → wp 53 107 [.ref 88, .ref 1, .int a2, .int a3, .int a4, .int as0] [] (hs t, F, G) Q) ∧ ((a4 &&& (a2 ^^^ (-1 : Int32))) = (0 : Int32) → wp 25 0 [.ref 89, .ref 3, .int (a2 &&& (a4 ^^^ (-1 : Int32))), .float 0, .float 0] [] (hs t, F, G) (fun v M' => wp 53 90 [.ref 88, .ref 1, .int a2, .int a3, .int a4, .int as0] (v.toList ++ []) M' Q)))) : wp 53 57 [.ref 88, .ref 1, .int a2, .int a3, .int a4, v5] [.int as0] (hs t, F, G) Q := by
  refine wp_N (j' := 53) (pc' := 61) (L' := [.ref 88, .ref 1, .int a2, .int a3, .int a4, .int as0]) (S' := [.int as0]) (M' := (hs t, F, G)) 1 (fun _ => rfl) ?_
  refine wp_ifc (pc1 := 107) (c := .eq) rfl (fun hc => ?_) (fun hc => ?_)
  · replace h := h.1 hc
    exact h
  · replace h := h.2 hc
    refine wp_N (j' := 53) (pc' := 70) (L' := [.ref 88, .ref 1, .int a2, .int a3, .int a4, .int as0]) (S' := [.int (a4 &&& (a2 ^^^ (-1 : Int32)))]) (M' := (hs t, F, G)) 4 (fun _ => rfl) ?_
    refine wp_ifc (pc1 := 107) (c := .ne) rfl (fun hc => ?_) (fun hc => ?_)
    · replace h := h.1 hc
      exact h
    · replace h := h.2 (Decidable.not_not.mp hc)
      refine wp_N (j' := 53) (pc' := 87) (L' := [.ref 88, .ref 1, .int a2, .int a3, .int a4, .int as0]) (S' := [.int (a2 &&& (a4 ^^^ (-1 : Int32))), .ref 3, .ref 89]) (M' := (hs t, F, G)) 8 (fun _ => rfl) ?_
      refine wp_C (i := 25) (pc' := 90) (Li := [.ref 89, .ref 3, .int (a2 &&& (a4 ^^^ (-1 : Int32))), .float 0, .float 0]) (rest := []) (fun n9 => (show ∀ (z0 : Int32), ip_run none (n9 + 1) 53 87 [.ref 88, .ref 1, .int a2, .int a3, .int a4, .int as0] [.int z0, .ref 3, .ref 89] (hs t, F, G) (0, 0) = (ip_run none n9 25 0 [.ref 89, .ref 3, .int z0, .float 0, .float 0] [] (hs t, F, G) (0, 0)).bind fun r => ip_run none n9 53 90 [.ref 88, .ref 1, .int a2, .int a3, .int a4, .int as0] (r.1.toList ++ []) r.2 (0, 0) from fun _ => rfl) (a2 &&& (a4 ^^^ (-1 : Int32)))) h
theorem rg53_90 {t : Nat} {F : ip_F} {G : ip_G} {Q : Option Value → ip_M → Prop} {a2 a3 a4 a5 : Int32} (h : wp 31 0 [.ref 89] [] (hs t, F, G) (fun v M' => wp 53 97 [.ref 88, .ref 1, .int a2, .int a3, .int a4, .int a5] (v.toList ++ []) M' Q)) : wp 53 90 [.ref 88, .ref 1, .int a2, .int a3, .int a4, .int a5] [] (hs t, F, G) Q := by
  refine wp_N (j' := 53) (pc' := 94) (L' := [.ref 88, .ref 1, .int a2, .int a3, .int a4, .int a5]) (S' := [.ref 89]) (M' := (hs t, F, G)) 1 (fun _ => rfl) ?_
  refine wp_C (i := 31) (pc' := 97) (Li := [.ref 89]) (rest := []) (fun _ => rfl) h
theorem rg53_97 {t : Nat} {F : ip_F} {G : ip_G} {Q : Option Value → ip_M → Prop} {a2 a3 a4 a5 as0 : Int32} (h : (as0 = (0 : Int32) → wp 53 106 [.ref 88, .ref 1, .int a2, .int a3, .int a4, .int a5] [.int a3] (hs t, F, G) Q) ∧ (¬ as0 = (0 : Int32) → wp 53 106 [.ref 88, .ref 1, .int a2, .int a3, .int a4, .int a5] [.int a4] (hs t, F, G) Q)) : wp 53 97 [.ref 88, .ref 1, .int a2, .int a3, .int a4, .int a5] [.int as0] (hs t, F, G) Q := by
  refine wp_ifc (pc1 := 105) (c := .eq) rfl (fun hc => ?_) (fun hc => ?_)
  · replace h := h.1 hc
    refine wp_N (j' := 53) (pc' := 106) (L' := [.ref 88, .ref 1, .int a2, .int a3, .int a4, .int a5]) (S' := [.int a3]) (M' := (hs t, F, G)) 0 (fun _ => rfl) ?_
    exact h
  · replace h := h.2 hc
    refine wp_N (j' := 53) (pc' := 106) (L' := [.ref 88, .ref 1, .int a2, .int a3, .int a4, .int a5]) (S' := [.int a4]) (M' := (hs t, F, G)) 1 (fun _ => rfl) ?_
    exact h
theorem rg53_106 {t : Nat} {F : ip_F} {G : ip_G} {Q : Option Value → ip_M → Prop} {a2 a3 a4 a5 as0 : Int32} (h : wp 53 107 [.ref 88, .ref 1, .int a2, .int as0, .int a4, .int a5] [] (hs t, F, G) Q) : wp 53 106 [.ref 88, .ref 1, .int a2, .int a3, .int a4, .int a5] [.int as0] (hs t, F, G) Q := by
  refine wp_N (j' := 53) (pc' := 107) (L' := [.ref 88, .ref 1, .int a2, .int as0, .int a4, .int a5]) (S' := []) (M' := (hs t, F, G)) 0 (fun _ => rfl) ?_
  exact h
theorem rg53_107 {t : Nat} {F : ip_F} {G : ip_G} {Q : Option Value → ip_M → Prop} {a2 a3 a4 a5 : Int32} (h : wp 53 28 [.ref 88, .ref 1, .int a2, .int a3, .int (a4 + (1 : Int32)), .int a5] [] (hs t, F, G) Q) : wp 53 107 [.ref 88, .ref 1, .int a2, .int a3, .int a4, .int a5] [] (hs t, F, G) Q := by
  refine wp_N (j' := 53) (pc' := 28) (L' := [.ref 88, .ref 1, .int a2, .int a3, .int (a4 + (1 : Int32)), .int a5]) (S' := []) (M' := (hs t, F, G)) 1 (fun _ => rfl) ?_
  exact h
theorem rg54_0 {t : Nat} {F : ip_F} {G : ip_G} {Q : Option Value → ip_M → Prop} (h : wp 79 0 [.ref 3, .float 0, .float 0] [] (hs t, F, G) (fun v M' => wp 54 7 [.ref 88, .ref 1, .float 0, .float 0, .float 0] (v.toList ++ []) M' Q)) : wp 54 0 [.ref 88, .ref 1, .float 0, .float 0, .float 0] [] (hs t, F, G) Q := by
  refine wp_N (j' := 54) (pc' := 4) (L' := [.ref 88, .ref 1, .float 0, .float 0, .float 0]) (S' := [.ref 3]) (M' := (hs t, F, G)) 1 (fun _ => rfl) ?_
  refine wp_C (i := 79) (pc' := 7) (Li := [.ref 3, .float 0, .float 0]) (rest := []) (fun _ => rfl) h
theorem rg54_7 {t : Nat} {F : ip_F} {G : ip_G} {Q : Option Value → ip_M → Prop} {as0 : Int32} {v2 v3 v4 : Value} (h : wp 243 0 [.ref 121, .int (1 : Int32), .float 0, .float 0] [] (hs t, F, G) (fun v M' => wp 54 16 [.ref 88, .ref 1, .int as0, v3, v4] (v.toList ++ []) M' Q)) : wp 54 7 [.ref 88, .ref 1, v2, v3, v4] [.int as0] (hs t, F, G) Q := by
  refine wp_N (j' := 54) (pc' := 13) (L' := [.ref 88, .ref 1, .int as0, v3, v4]) (S' := [.int (1 : Int32), .ref 121]) (M' := (hs t, F, G)) 3 (fun _ => rfl) ?_
  refine wp_C (i := 243) (pc' := 16) (Li := [.ref 121, .int (1 : Int32), .float 0, .float 0]) (rest := []) (fun _ => rfl) h
theorem rg54_16 {t : Nat} {F : ip_F} {G : ip_G} {Q : Option Value → ip_M → Prop} {a2 : Int32} {v3 v4 : Value} (h : wp 54 18 [.ref 88, .ref 1, .int a2, .int (0 : Int32), v4] [] (hs t, F, G) Q) : wp 54 16 [.ref 88, .ref 1, .int a2, v3, v4] [] (hs t, F, G) Q := by
  refine wp_N (j' := 54) (pc' := 18) (L' := [.ref 88, .ref 1, .int a2, .int (0 : Int32), v4]) (S' := []) (M' := (hs t, F, G)) 1 (fun _ => rfl) ?_
  exact h
theorem rg54_18 {t : Nat} {F : ip_F} {G : ip_G} {Q : Option Value → ip_M → Prop} {a2 a3 : Int32} {v4 : Value} (h : ((1000 : Int32) ≤ a3 → Q (some (.int (-1 : Int32))) (hs t, F, G)) ∧ (a3 < (1000 : Int32) → wp 22 0 [.ref 89, .int (F 1 6), .ref 121, .float 0, .float 0] [] (hs t, F, G) (fun v M' => wp 54 40 [.ref 88, .ref 1, .int a2, .int a3, v4] (v.toList ++ []) M' Q))) : wp 54 18 [.ref 88, .ref 1, .int a2, .int a3, v4] [] (hs t, F, G) Q := by
  refine wp_N (j' := 54) (pc' := 22) (L' := [.ref 88, .ref 1, .int a2, .int a3, v4]) (S' := [.int (1000 : Int32), .int a3]) (M' := (hs t, F, G)) 1 (fun _ => rfl) ?_
  refine wp_icmp (pc1 := 96) (c := .ge) rfl (fun hc => ?_) (fun hc => ?_)
  · replace h := h.1 hc
    refine wp_N (j' := 54) (pc' := 97) (L' := [.ref 88, .ref 1, .int a2, .int a3, v4]) (S' := [.int (-1 : Int32)]) (M' := (hs t, F, G)) 0 (fun _ => rfl) ?_
    exact wp_RI rfl rfl h
  · replace h := h.2 (Int32.not_le.mp hc)
    refine wp_N (j' := 54) (pc' := 37) (L' := [.ref 88, .ref 1, .int a2, .int a3, v4]) (S' := [.ref 121, .int (F 1 6), .ref 89]) (M' := (hs t, F, G)) 5 (fun _ => rfl) ?_
    refine wp_C (i := 22) (pc' := 40) (Li := [.ref 89, .int (F 1 6), .ref 121, .float 0, .float 0]) (rest := []) (fun _ => rfl) h
theorem rg54_40 {t : Nat} {F : ip_F} {G : ip_G} {Q : Option Value → ip_M → Prop} {a2 a3 : Int32} {v4 : Value} (h : wp 25 0 [.ref 89, .ref 3, .int a2, .float 0, .float 0] [] (hs t, F, G) (fun v M' => wp 54 52 [.ref 88, .ref 1, .int a2, .int a3, v4] (v.toList ++ []) M' Q)) : wp 54 40 [.ref 88, .ref 1, .int a2, .int a3, v4] [] (hs t, F, G) Q := by
  refine wp_N (j' := 54) (pc' := 49) (L' := [.ref 88, .ref 1, .int a2, .int a3, v4]) (S' := [.int a2, .ref 3, .ref 89]) (M' := (hs t, F, G)) 4 (fun _ => rfl) ?_
  refine wp_C (i := 25) (pc' := 52) (Li := [.ref 89, .ref 3, .int a2, .float 0, .float 0]) (rest := []) (fun _ => rfl) h
theorem rg54_52 {t : Nat} {F : ip_F} {G : ip_G} {Q : Option Value → ip_M → Prop} {a2 a3 : Int32} {v4 : Value} (h : wp 30 0 [.ref 89, .float 0] [] (hs t, F, G) (fun v M' => wp 54 59 [.ref 88, .ref 1, .int a2, .int a3, v4] (v.toList ++ []) M' Q)) : wp 54 52 [.ref 88, .ref 1, .int a2, .int a3, v4] [] (hs t, F, G) Q := by
  refine wp_N (j' := 54) (pc' := 56) (L' := [.ref 88, .ref 1, .int a2, .int a3, v4]) (S' := [.ref 89]) (M' := (hs t, F, G)) 1 (fun _ => rfl) ?_
  refine wp_C (i := 30) (pc' := 59) (Li := [.ref 89, .float 0]) (rest := []) (fun _ => rfl) h
theorem rg54_59 {t : Nat} {F : ip_F} {G : ip_G} {Q : Option Value → ip_M → Prop} {a2 a3 as0 : Int32} {v4 : Value} (h : (¬ as0 = (-1 : Int32) → wp 55 0 [.ref 88, .int ((if (6 : Int32) < as0 then (6 : Int32) else as0) - (1 : Int32)), .float 0] [] (hs t, F, G) (fun v M' => wp 54 85 [.ref 88, .ref 1, .int a2, .int a3, .int as0] (v.toList ++ []) M' Q)) ∧ (as0 = (-1 : Int32) → wp 56 0 [.ref 88, .float 0, .float 0] [] (hs t, F, G) (fun v M' => wp 54 71 [.ref 88, .ref 1, .int a2, .int a3, .int as0] (v.toList ++ []) M' Q))) : wp 54 59 [.ref 88, .ref 1, .int a2, .int a3, v4] [.int as0] (hs t, F, G) Q := by
  refine wp_N (j' := 54) (pc' := 64) (L' := [.ref 88, .ref 1, .int a2, .int a3, .int as0]) (S' := [.int (-1 : Int32), .int as0]) (M' := (hs t, F, G)) 2 (fun _ => rfl) ?_
  refine wp_icmp (pc1 := 72) (c := .ne) rfl (fun hc => ?_) (fun hc => ?_)
  · replace h := h.1 hc
    refine wp_N (j' := 54) (pc' := 82) (L' := [.ref 88, .ref 1, .int a2, .int a3, .int as0]) (S' := [.int ((if (6 : Int32) < as0 then (6 : Int32) else as0) - (1 : Int32)), .ref 88]) (M' := (hs t, F, G)) 5 (fun _ => rfl) ?_
    refine wp_C (i := 55) (pc' := 85) (Li := [.ref 88, .int ((if (6 : Int32) < as0 then (6 : Int32) else as0) - (1 : Int32)), .float 0]) (rest := []) (fun _ => rfl) h
  · replace h := h.2 (Decidable.not_not.mp hc)
    refine wp_N (j' := 54) (pc' := 68) (L' := [.ref 88, .ref 1, .int a2, .int a3, .int as0]) (S' := [.ref 88]) (M' := (hs t, F, G)) 0 (fun _ => rfl) ?_
    refine wp_C (i := 56) (pc' := 71) (Li := [.ref 88, .float 0, .float 0]) (rest := []) (fun _ => rfl) h
theorem rg54_71 {t : Nat} {F : ip_F} {G : ip_G} {Q : Option Value → ip_M → Prop} {a2 a3 a4 as0 : Int32} (h : Q (some (.int as0)) (hs t, F, G)) : wp 54 71 [.ref 88, .ref 1, .int a2, .int a3, .int a4] [.int as0] (hs t, F, G) Q := by
  exact wp_RI rfl rfl h
theorem rg54_85 {t : Nat} {F : ip_F} {G : ip_G} {Q : Option Value → ip_M → Prop} {a2 a3 a4 as0 : Int32} (h : (¬ as0 = (0 : Int32) → wp 54 18 [.ref 88, .ref 1, .int a2, .int (a3 + (1 : Int32)), .int a4] [] (hs t, F, G) Q) ∧ (as0 = (0 : Int32) → Q (some (.int (-1 : Int32))) (hs t, F, G))) : wp 54 85 [.ref 88, .ref 1, .int a2, .int a3, .int a4] [.int as0] (hs t, F, G) Q := by
  refine wp_ifc (pc1 := 90) (c := .ne) rfl (fun hc => ?_) (fun hc => ?_)
  · replace h := h.1 hc
    refine wp_N (j' := 54) (pc' := 18) (L' := [.ref 88, .ref 1, .int a2, .int (a3 + (1 : Int32)), .int a4]) (S' := []) (M' := (hs t, F, G)) 1 (fun _ => rfl) ?_
    exact h
  · replace h := h.2 (Decidable.not_not.mp hc)
    refine wp_N (j' := 54) (pc' := 89) (L' := [.ref 88, .ref 1, .int a2, .int a3, .int a4]) (S' := [.int (-1 : Int32)]) (M' := (hs t, F, G)) 0 (fun _ => rfl) ?_
    exact wp_RI rfl rfl h
theorem rg55_0 {t : Nat} {F : ip_F} {G : ip_G} {Q : Option Value → ip_M → Prop} {a1 : Int32} (h : wp 55 2 [.ref 88, .int a1, .int (5 : Int32)] [] (hs t, F, G) Q) : wp 55 0 [.ref 88, .int a1, .float 0] [] (hs t, F, G) Q := by
  refine wp_N (j' := 55) (pc' := 2) (L' := [.ref 88, .int a1, .int (5 : Int32)]) (S' := []) (M' := (hs t, F, G)) 1 (fun _ => rfl) ?_
  exact h
theorem rg55_2 {t : Nat} {F : ip_F} {G : ip_G} {Q : Option Value → ip_M → Prop} {a1 a2 : Int32} (h : (a2 < (0 : Int32) → Q (some (.int (0 : Int32))) (hs t, F, G)) ∧ ((0 : Int32) ≤ a2 → (a1 < a2 → wp 55 33 [.ref 88, .int a1, .int a2] [] (hs t, F, G) Q) ∧ (a2 ≤ a1 → (vp_in a2 6) ∧ (((3 : Int32) ≤ (F 121 (a2).toNatClampNeg) → wp 55 33 [.ref 88, .int a1, .int a2] [] (hs t, F, G) Q) ∧ ((F 121 (a2).toNatClampNeg) < (3 : Int32) → (vp_in a2 6) ∧ ((vp_in a2 6) ∧ (Q (some (.int (1 : Int32))) (hs t, (ip_u F 121 (a2).toNatClampNeg ((F 121 (a2).toNatClampNeg) + (1 : Int32))), G)))))))) : wp 55 2 [.ref 88, .int a1, .int a2] [] (hs t, F, G) Q := by
  refine wp_N (j' := 55) (pc' := 3) (L' := [.ref 88, .int a1, .int a2]) (S' := [.int a2]) (M' := (hs t, F, G)) 0 (fun _ => rfl) ?_
  refine wp_ifc (pc1 := 46) (c := .lt) rfl (fun hc => ?_) (fun hc => ?_)
  · replace h := h.1 hc
    refine wp_N (j' := 55) (pc' := 47) (L' := [.ref 88, .int a1, .int a2]) (S' := [.int (0 : Int32)]) (M' := (hs t, F, G)) 0 (fun _ => rfl) ?_
    exact wp_RZ rfl rfl (by decide) h
  · replace h := h.2 (Int32.not_lt.mp hc)
    refine wp_N (j' := 55) (pc' := 8) (L' := [.ref 88, .int a1, .int a2]) (S' := [.int a1, .int a2]) (M' := (hs t, F, G)) 1 (fun _ => rfl) ?_
    refine wp_icmp (pc1 := 33) (c := .gt) rfl (fun hc => ?_) (fun hc => ?_)
    · replace h := h.1 hc
      exact h
    · replace h := h.2 (Int32.not_lt.mp hc)
      refine wp_N (j' := 55) (pc' := 16) (L' := [.ref 88, .int a1, .int a2]) (S' := [.int a2, .ref 121]) (M' := (hs t, F, G)) 2 (fun _ => rfl) ?_
      obtain ⟨h1_, h⟩ := h
      refine wp_ial (m := (a2).toNatClampNeg) rfl rfl rfl h1_ ?_
      refine wp_N (j' := 55) (pc' := 18) (L' := [.ref 88, .int a1, .int a2]) (S' := [.int (3 : Int32), .int (F 121 (a2).toNatClampNeg)]) (M' := (hs t, F, G)) 0 (fun _ => rfl) ?_
      refine wp_icmp (pc1 := 33) (c := .ge) rfl (fun hc => ?_) (fun hc => ?_)
      · replace h := h.1 hc
        exact h
      · replace h := h.2 (Int32.not_le.mp hc)
        refine wp_N (j' := 55) (pc' := 27) (L' := [.ref 88, .int a1, .int a2]) (S' := [.int a2, .ref 121, .int a2, .ref 121]) (M' := (hs t, F, G)) 3 (fun _ => rfl) ?_
        obtain ⟨h2_, h⟩ := h
        refine wp_ial (m := (a2).toNatClampNeg) rfl rfl rfl h2_ ?_
        refine wp_N (j' := 55) (pc' := 30) (L' := [.ref 88, .int a1, .int a2]) (S' := [.int ((F 121 (a2).toNatClampNeg) + (1 : Int32)), .int a2, .ref 121]) (M' := (hs t, F, G)) 1 (fun _ => rfl) ?_
        obtain ⟨h3_, h⟩ := h
        refine wp_ias (m := (a2).toNatClampNeg) rfl rfl rfl h3_ ?_
        refine wp_N (j' := 55) (pc' := 32) (L' := [.ref 88, .int a1, .int a2]) (S' := [.int (1 : Int32)]) (M' := (hs t, (ip_u F 121 (a2).toNatClampNeg ((F 121 (a2).toNatClampNeg) + (1 : Int32))), G)) 0 (fun _ => rfl) ?_
        exact wp_RZ rfl rfl (by decide) h
theorem rg55_33 {t : Nat} {F : ip_F} {G : ip_G} {Q : Option Value → ip_M → Prop} {a1 a2 : Int32} (h : (vp_in a2 6) ∧ (wp 55 2 [.ref 88, .int a1, .int (a2 + (Int32.ofInt (-1)))] [] (hs t, (ip_u F 121 (a2).toNatClampNeg (1 : Int32)), G) Q)) : wp 55 33 [.ref 88, .int a1, .int a2] [] (hs t, F, G) Q := by
  refine wp_N (j' := 55) (pc' := 39) (L' := [.ref 88, .int a1, .int a2]) (S' := [.int (1 : Int32), .int a2, .ref 121]) (M' := (hs t, F, G)) 3 (fun _ => rfl) ?_
  obtain ⟨h1_, h⟩ := h
  refine wp_ias (m := (a2).toNatClampNeg) rfl rfl rfl h1_ ?_
  refine wp_inc (k := 2) (n := -1) (L' := [.ref 88, .int a1, .int (a2 + (Int32.ofInt (-1)))]) rfl rfl rfl ?_
  refine wp_N (j' := 55) (pc' := 2) (L' := [.ref 88, .int a1, .int (a2 + (Int32.ofInt (-1)))]) (S' := []) (M' := (hs t, (ip_u F 121 (a2).toNatClampNeg (1 : Int32)), G)) 0 (fun _ => rfl) ?_
  exact h
theorem rg56_0 {t : Nat} {F : ip_F} {G : ip_G} {Q : Option Value → ip_M → Prop} (h : wp 56 4 [.ref 88, .int (0 : Int32), .int (0 : Int32)] [] (hs t, F, G) Q) : wp 56 0 [.ref 88, .float 0, .float 0] [] (hs t, F, G) Q := by
  refine wp_N (j' := 56) (pc' := 4) (L' := [.ref 88, .int (0 : Int32), .int (0 : Int32)]) (S' := []) (M' := (hs t, F, G)) 3 (fun _ => rfl) ?_
  exact h
theorem rg56_4 {t : Nat} {F : ip_F} {G : ip_G} {Q : Option Value → ip_M → Prop} {a1 a2 : Int32} (h : ((6 : Int32) ≤ a2 → Q (some (.int a1)) (hs t, F, G)) ∧ (a2 < (6 : Int32) → (vp_in a2 6) ∧ (wp 56 4 [.ref 88, .int (((10 : Int32) * a1) + (F 121 (a2).toNatClampNeg)), .int (a2 + (1 : Int32))] [] (hs t, F, G) Q))) : wp 56 4 [.ref 88, .int a1, .int a2] [] (hs t, F, G) Q := by
  refine wp_N (j' := 56) (pc' := 7) (L' := [.ref 88, .int a1, .int a2]) (S' := [.int (6 : Int32), .int a2]) (M' := (hs t, F, G)) 1 (fun _ => rfl) ?_
  refine wp_icmp (pc1 := 28) (c := .ge) rfl (fun hc => ?_) (fun hc => ?_)
  · replace h := h.1 hc
    refine wp_N (j' := 56) (pc' := 29) (L' := [.ref 88, .int a1, .int a2]) (S' := [.int a1]) (M' := (hs t, F, G)) 0 (fun _ => rfl) ?_
    exact wp_RI rfl rfl h
  · replace h := h.2 (Int32.not_le.mp hc)
    refine wp_N (j' := 56) (pc' := 19) (L' := [.ref 88, .int a1, .int a2]) (S' := [.int a2, .ref 121, .int ((10 : Int32) * a1)]) (M' := (hs t, F, G)) 5 (fun _ => rfl) ?_
    obtain ⟨h1_, h⟩ := h
    refine wp_ial (m := (a2).toNatClampNeg) rfl rfl rfl h1_ ?_
    refine wp_N (j' := 56) (pc' := 4) (L' := [.ref 88, .int (((10 : Int32) * a1) + (F 121 (a2).toNatClampNeg)), .int (a2 + (1 : Int32))]) (S' := []) (M' := (hs t, F, G)) 3 (fun _ => rfl) ?_
    exact h
theorem rg57_0 {t : Nat} {F : ip_F} {G : ip_G} {Q : Option Value → ip_M → Prop} (h : wp 63 0 [.ref 119, .ref 3] [] (hs t, F, G) (fun v M' => wp 57 11 [.ref 88, .ref 1, .float 0] (v.toList ++ []) M' Q)) : wp 57 0 [.ref 88, .ref 1, .float 0] [] (hs t, F, G) Q := by
  refine wp_N (j' := 57) (pc' := 8) (L' := [.ref 88, .ref 1, .float 0]) (S' := [.ref 3, .ref 119]) (M' := (hs t, F, G)) 3 (fun _ => rfl) ?_
  refine wp_C (i := 63) (pc' := 11) (Li := [.ref 119, .ref 3]) (rest := []) (fun _ => rfl) h
theorem rg57_11 {t : Nat} {F : ip_F} {G : ip_G} {Q : Option Value → ip_M → Prop} {v2 : Value} (h : wp 22 0 [.ref 89, .int (F 1 6), .ref 2, .float 0, .float 0] [] (hs t, F, G) (fun v M' => wp 57 26 [.ref 88, .ref 1, v2] (v.toList ++ []) M' Q)) : wp 57 11 [.ref 88, .ref 1, v2] [] (hs t, F, G) Q := by
  refine wp_N (j' := 57) (pc' := 23) (L' := [.ref 88, .ref 1, v2]) (S' := [.ref 2, .int (F 1 6), .ref 89]) (M' := (hs t, F, G)) 5 (fun _ => rfl) ?_
  refine wp_C (i := 22) (pc' := 26) (Li := [.ref 89, .int (F 1 6), .ref 2, .float 0, .float 0]) (rest := []) (fun _ => rfl) h
theorem rg57_26 {t : Nat} {F : ip_F} {G : ip_G} {Q : Option Value → ip_M → Prop} {v2 : Value} (h : wp 57 28 [.ref 88, .ref 1, .int (0 : Int32)] [] (hs t, F, G) Q) : wp 57 26 [.ref 88, .ref 1, v2] [] (hs t, F, G) Q := by
  refine wp_N (j' := 57) (pc' := 28) (L' := [.ref 88, .ref 1, .int (0 : Int32)]) (S' := []) (M' := (hs t, F, G)) 1 (fun _ => rfl) ?_
  exact h
theorem rg57_28 {t : Nat} {F : ip_F} {G : ip_G} {Q : Option Value → ip_M → Prop} {a2 : Int32} (h : ((60 : Int32) < a2 → Q (some (.int (-1 : Int32))) (hs t, F, G)) ∧ (a2 ≤ (60 : Int32) → wp 79 0 [.ref 119, .float 0, .float 0] [] (hs t, F, G) (fun v M' => wp 57 49 [.ref 88, .ref 1, .int a2] (v.toList ++ [.ref 119, .ref 89]) M' Q))) : wp 57 28 [.ref 88, .ref 1, .int a2] [] (hs t, F, G) Q := by
  refine wp_N (j' := 57) (pc' := 31) (L' := [.ref 88, .ref 1, .int a2]) (S' := [.int (60 : Int32), .int a2]) (M' := (hs t, F, G)) 1 (fun _ => rfl) ?_
  refine wp_icmp (pc1 := 77) (c := .gt) rfl (fun hc => ?_) (fun hc => ?_)
  · replace h := h.1 hc
    refine wp_N (j' := 57) (pc' := 78) (L' := [.ref 88, .ref 1, .int a2]) (S' := [.int (-1 : Int32)]) (M' := (hs t, F, G)) 0 (fun _ => rfl) ?_
    exact wp_RI rfl rfl h
  · replace h := h.2 (Int32.not_lt.mp hc)
    refine wp_N (j' := 57) (pc' := 46) (L' := [.ref 88, .ref 1, .int a2]) (S' := [.ref 119, .ref 119, .ref 89]) (M' := (hs t, F, G)) 5 (fun _ => rfl) ?_
    refine wp_C (i := 79) (pc' := 49) (Li := [.ref 119, .float 0, .float 0]) (rest := [.ref 119, .ref 89]) (fun _ => rfl) h
theorem rg57_49 {t : Nat} {F : ip_F} {G : ip_G} {Q : Option Value → ip_M → Prop} {a2 as2 : Int32} (h : wp 25 0 [.ref 89, .ref 119, .int as2, .float 0, .float 0] [] (hs t, F, G) (fun v M' => wp 57 52 [.ref 88, .ref 1, .int a2] (v.toList ++ []) M' Q)) : wp 57 49 [.ref 88, .ref 1, .int a2] [.int as2, .ref 119, .ref 89] (hs t, F, G) Q := by
  refine wp_C (i := 25) (pc' := 52) (Li := [.ref 89, .ref 119, .int as2, .float 0, .float 0]) (rest := []) (fun _ => rfl) h
theorem rg57_52 {t : Nat} {F : ip_F} {G : ip_G} {Q : Option Value → ip_M → Prop} {a2 : Int32} (h : wp 31 0 [.ref 89] [] (hs t, F, G) (fun v M' => wp 57 59 [.ref 88, .ref 1, .int a2] (v.toList ++ []) M' Q)) : wp 57 52 [.ref 88, .ref 1, .int a2] [] (hs t, F, G) Q := by
  refine wp_N (j' := 57) (pc' := 56) (L' := [.ref 88, .ref 1, .int a2]) (S' := [.ref 89]) (M' := (hs t, F, G)) 1 (fun _ => rfl) ?_
  refine wp_C (i := 31) (pc' := 59) (Li := [.ref 89]) (rest := []) (fun _ => rfl) h
theorem rg57_59 {t : Nat} {F : ip_F} {G : ip_G} {Q : Option Value → ip_M → Prop} {a2 as0 : Int32} (h : (as0 = (0 : Int32) → wp 75 0 [.ref 119, .float 0] [] (hs t, F, G) (fun v M' => wp 57 71 [.ref 88, .ref 1, .int a2] (v.toList ++ []) M' Q)) ∧ (¬ as0 = (0 : Int32) → Q (some (.int a2)) (hs t, F, G))) : wp 57 59 [.ref 88, .ref 1, .int a2] [.int as0] (hs t, F, G) Q := by
  refine wp_ifc (pc1 := 64) (c := .eq) rfl (fun hc => ?_) (fun hc => ?_)
  · replace h := h.1 hc
    refine wp_N (j' := 57) (pc' := 68) (L' := [.ref 88, .ref 1, .int a2]) (S' := [.ref 119]) (M' := (hs t, F, G)) 1 (fun _ => rfl) ?_
    refine wp_C (i := 75) (pc' := 71) (Li := [.ref 119, .float 0]) (rest := []) (fun _ => rfl) h
  · replace h := h.2 hc
    refine wp_N (j' := 57) (pc' := 63) (L' := [.ref 88, .ref 1, .int a2]) (S' := [.int a2]) (M' := (hs t, F, G)) 0 (fun _ => rfl) ?_
    exact wp_RI rfl rfl h
theorem rg57_71 {t : Nat} {F : ip_F} {G : ip_G} {Q : Option Value → ip_M → Prop} {a2 : Int32} (h : wp 57 28 [.ref 88, .ref 1, .int (a2 + (1 : Int32))] [] (hs t, F, G) Q) : wp 57 71 [.ref 88, .ref 1, .int a2] [] (hs t, F, G) Q := by
  refine wp_N (j' := 57) (pc' := 28) (L' := [.ref 88, .ref 1, .int (a2 + (1 : Int32))]) (S' := []) (M' := (hs t, F, G)) 1 (fun _ => rfl) ?_
  exact h
theorem rg58_0 {t : Nat} {F : ip_F} {G : ip_G} {Q : Option Value → ip_M → Prop} {a2 : Int32} (h : wp 79 0 [.ref 3, .float 0, .float 0] [] (hs t, F, G) (fun v M' => wp 58 7 [.ref 88, .ref 1, .int a2, .float 0, .float 0, .float 0, .float 0, .float 0, .float 0] (v.toList ++ []) M' Q)) : wp 58 0 [.ref 88, .ref 1, .int a2, .float 0, .float 0, .float 0, .float 0, .float 0, .float 0] [] (hs t, F, G) Q := by
  refine wp_N (j' := 58) (pc' := 4) (L' := [.ref 88, .ref 1, .int a2, .float 0, .float 0, .float 0, .float 0, .float 0, .float 0]) (S' := [.ref 3]) (M' := (hs t, F, G)) 1 (fun _ => rfl) ?_
  refine wp_C (i := 79) (pc' := 7) (Li := [.ref 3, .float 0, .float 0]) (rest := []) (fun _ => rfl) h
theorem rg58_7 {t : Nat} {F : ip_F} {G : ip_G} {Q : Option Value → ip_M → Prop} {a2 as0 : Int32} {v3 v4 v5 v6 v7 v8 : Value} (h : wp 22 0 [.ref 89, .int (F 1 6), .ref 2, .float 0, .float 0] [] (hs t, F, G) (fun v M' => wp 58 26 [.ref 88, .ref 1, .int a2, .int as0, .long (0 : Int64), .float 0, v6, v7, v8] (v.toList ++ []) M' Q)) : wp 58 7 [.ref 88, .ref 1, .int a2, v3, v4, v5, v6, v7, v8] [.int as0] (hs t, F, G) Q := by
  refine wp_N (j' := 58) (pc' := 23) (L' := [.ref 88, .ref 1, .int a2, .int as0, .long (0 : Int64), .float 0, v6, v7, v8]) (S' := [.ref 2, .int (F 1 6), .ref 89]) (M' := (hs t, F, G)) 8 (fun _ => rfl) ?_
  refine wp_C (i := 22) (pc' := 26) (Li := [.ref 89, .int (F 1 6), .ref 2, .float 0, .float 0]) (rest := []) (fun _ => rfl) h
theorem rg58_26 {t : Nat} {F : ip_F} {G : ip_G} {Q : Option Value → ip_M → Prop} {a2 a3 : Int32} {b4 : Int64} {v5 v6 v7 v8 : Value} (h : wp 58 29 [.ref 88, .ref 1, .int a2, .int a3, .long b4, (ip_unl v5), .int (0 : Int32), v7, v8] [] (hs t, F, G) Q) : wp 58 26 [.ref 88, .ref 1, .int a2, .int a3, .long b4, v5, v6, v7, v8] [] (hs t, F, G) Q := by
  refine wp_N (j' := 58) (pc' := 29) (L' := [.ref 88, .ref 1, .int a2, .int a3, .long b4, (ip_unl v5), .int (0 : Int32), v7, v8]) (S' := []) (M' := (hs t, F, G)) 1 (fun _ => rfl) ?_
  exact h
theorem rg58_29 {t : Nat} {F : ip_F} {G : ip_G} {Q : Option Value → ip_M → Prop} {a2 a3 a6 : Int32} {b4 : Int64} {v5 v7 v8 : Value} (h : ((64 : Int32) ≤ a6 → Q (some (.long b4)) (hs t, F, G)) ∧ (a6 < (64 : Int32) → (¬ (a6 &&& (a3 ^^^ (-1 : Int32))) = (0 : Int32) → wp 58 113 [.ref 88, .ref 1, .int a2, .int a3, .long b4, v5, .int a6, v7, v8] [] (hs t, F, G) Q) ∧ ((a6 &&& (a3 ^^^ (-1 : Int32))) = (0 : Int32) → wp 25 0 [.ref 89, .ref 3, .int (a3 &&& (a6 ^^^ (-1 : Int32))), .float 0, .float 0] [] (hs t, F, G) (fun v M' => wp 58 62 [.ref 88, .ref 1, .int a2, .int a3, .long b4, v5, .int a6, v7, v8] (v.toList ++ []) M' Q)))) : wp 58 29 [.ref 88, .ref 1, .int a2, .int a3, .long b4, v5, .int a6, v7, v8] [] (hs t, F, G) Q := by
  refine wp_N (j' := 58) (pc' := 33) (L' := [.ref 88, .ref 1, .int a2, .int a3, .long b4, v5, .int a6, v7, v8]) (S' := [.int (64 : Int32), .int a6]) (M' := (hs t, F, G)) 1 (fun _ => rfl) ?_
  refine wp_icmp (pc1 := 119) (c := .ge) rfl (fun hc => ?_) (fun hc => ?_)
  · replace h := h.1 hc
    refine wp_N (j' := 58) (pc' := 121) (L' := [.ref 88, .ref 1, .int a2, .int a3, .long b4, v5, .int a6, v7, v8]) (S' := [.long b4]) (M' := (hs t, F, G)) 0 (fun _ => rfl) ?_
    exact wp_RL rfl rfl h
  · replace h := h.2 (Int32.not_le.mp hc)
    refine wp_N (j' := 58) (pc' := 42) (L' := [.ref 88, .ref 1, .int a2, .int a3, .long b4, v5, .int a6, v7, v8]) (S' := [.int (a6 &&& (a3 ^^^ (-1 : Int32)))]) (M' := (hs t, F, G)) 4 (fun _ => rfl) ?_
    refine wp_ifc (pc1 := 113) (c := .ne) rfl (fun hc => ?_) (fun hc => ?_)
    · replace h := h.1 hc
      exact h
    · replace h := h.2 (Decidable.not_not.mp hc)
      refine wp_N (j' := 58) (pc' := 59) (L' := [.ref 88, .ref 1, .int a2, .int a3, .long b4, v5, .int a6, v7, v8]) (S' := [.int (a3 &&& (a6 ^^^ (-1 : Int32))), .ref 3, .ref 89]) (M' := (hs t, F, G)) 8 (fun _ => rfl) ?_
      refine wp_C (i := 25) (pc' := 62) (Li := [.ref 89, .ref 3, .int (a3 &&& (a6 ^^^ (-1 : Int32))), .float 0, .float 0]) (rest := []) (fun n9 => (show ∀ (z0 : Int32), ip_run none (n9 + 1) 58 59 [.ref 88, .ref 1, .int a2, .int a3, .long b4, v5, .int a6, v7, v8] [.int z0, .ref 3, .ref 89] (hs t, F, G) (0, 0) = (ip_run none n9 25 0 [.ref 89, .ref 3, .int z0, .float 0, .float 0] [] (hs t, F, G) (0, 0)).bind fun r => ip_run none n9 58 62 [.ref 88, .ref 1, .int a2, .int a3, .long b4, v5, .int a6, v7, v8] (r.1.toList ++ []) r.2 (0, 0) from fun _ => rfl) (a3 &&& (a6 ^^^ (-1 : Int32)))) h
theorem rg58_62 {t : Nat} {F : ip_F} {G : ip_G} {Q : Option Value → ip_M → Prop} {a2 a3 a6 : Int32} {b4 : Int64} {v5 v7 v8 : Value} (h : wp 236 0 [.int a6] [] (hs t, F, G) (fun v M' => wp 58 69 [.ref 88, .ref 1, .int a2, .int a3, .long b4, v5, .int a6, v7, v8] (v.toList ++ [.long a2.toInt64]) M' Q)) : wp 58 62 [.ref 88, .ref 1, .int a2, .int a3, .long b4, v5, .int a6, v7, v8] [] (hs t, F, G) Q := by
  refine wp_N (j' := 58) (pc' := 66) (L' := [.ref 88, .ref 1, .int a2, .int a3, .long b4, v5, .int a6, v7, v8]) (S' := [.int a6, .long a2.toInt64]) (M' := (hs t, F, G)) 2 (fun _ => rfl) ?_
  refine wp_C (i := 236) (pc' := 69) (Li := [.int a6]) (rest := [.long a2.toInt64]) (fun _ => rfl) h
theorem rg58_69 {t : Nat} {F : ip_F} {G : ip_G} {Q : Option Value → ip_M → Prop} {a2 a3 a6 as1 : Int32} {b4 bs0 : Int64} {v5 v7 v8 : Value} (h : wp 138 0 [.long bs0, .float 0, .int as1, .float 0, .float 0, .float 0] [] (hs t, F, G) (fun v M' => wp 58 72 [.ref 88, .ref 1, .int a2, .int a3, .long b4, v5, .int a6, v7, v8] (v.toList ++ []) M' Q)) : wp 58 69 [.ref 88, .ref 1, .int a2, .int a3, .long b4, v5, .int a6, v7, v8] [.int as1, .long bs0] (hs t, F, G) Q := by
  refine wp_C (i := 138) (pc' := 72) (Li := [.long bs0, .float 0, .int as1, .float 0, .float 0, .float 0]) (rest := []) (fun _ => rfl) h
theorem rg58_72 {t : Nat} {F : ip_F} {G : ip_G} {Q : Option Value → ip_M → Prop} {a2 a3 a6 : Int32} {b4 bs0 : Int64} {v5 v7 v8 : Value} (h : wp 236 0 [.int (a3 &&& (a6 ^^^ (-1 : Int32)))] [] (hs t, F, G) (fun v M' => wp 58 86 [.ref 88, .ref 1, .int a2, .int a3, .long b4, v5, .int a6, v7, v8] (v.toList ++ [.long ((10 : Int32) - a2).toInt64, .long bs0]) M' Q)) : wp 58 72 [.ref 88, .ref 1, .int a2, .int a3, .long b4, v5, .int a6, v7, v8] [.long bs0] (hs t, F, G) Q := by
  refine wp_N (j' := 58) (pc' := 83) (L' := [.ref 88, .ref 1, .int a2, .int a3, .long b4, v5, .int a6, v7, v8]) (S' := [.int (a3 &&& (a6 ^^^ (-1 : Int32))), .long ((10 : Int32) - a2).toInt64, .long bs0]) (M' := (hs t, F, G)) 8 (fun _ => rfl) ?_
  refine wp_C (i := 236) (pc' := 86) (Li := [.int (a3 &&& (a6 ^^^ (-1 : Int32)))]) (rest := [.long ((10 : Int32) - a2).toInt64, .long bs0]) (fun n9 => (show ∀ (z0 : Int32) (z1 : Int64), ip_run none (n9 + 1) 58 83 [.ref 88, .ref 1, .int a2, .int a3, .long b4, v5, .int a6, v7, v8] [.int z0, .long z1, .long bs0] (hs t, F, G) (0, 0) = (ip_run none n9 236 0 [.int z0] [] (hs t, F, G) (0, 0)).bind fun r => ip_run none n9 58 86 [.ref 88, .ref 1, .int a2, .int a3, .long b4, v5, .int a6, v7, v8] (r.1.toList ++ [.long z1, .long bs0]) r.2 (0, 0) from fun _ _ => rfl) (a3 &&& (a6 ^^^ (-1 : Int32))) ((10 : Int32) - a2).toInt64) h
theorem rg58_86 {t : Nat} {F : ip_F} {G : ip_G} {Q : Option Value → ip_M → Prop} {a2 a3 a6 as2 : Int32} {b4 bs0 bs1 : Int64} {v5 v7 v8 : Value} (h : wp 138 0 [.long bs1, .float 0, .int as2, .float 0, .float 0, .float 0] [] (hs t, F, G) (fun v M' => wp 58 89 [.ref 88, .ref 1, .int a2, .int a3, .long b4, v5, .int a6, v7, v8] (v.toList ++ [.long bs0]) M' Q)) : wp 58 86 [.ref 88, .ref 1, .int a2, .int a3, .long b4, v5, .int a6, v7, v8] [.int as2, .long bs1, .long bs0] (hs t, F, G) Q := by
  refine wp_C (i := 138) (pc' := 89) (Li := [.long bs1, .float 0, .int as2, .float 0, .float 0, .float 0]) (rest := [.long bs0]) (fun _ => rfl) h
theorem rg58_89 {t : Nat} {F : ip_F} {G : ip_G} {Q : Option Value → ip_M → Prop} {a2 a3 a6 : Int32} {b4 bs0 bs1 : Int64} {v5 v7 v8 : Value} (h : wp 31 0 [.ref 89] [] (hs t, F, G) (fun v M' => wp 58 101 [.ref 88, .ref 1, .int a2, .int a3, .long b4, v5, .int a6, .long (bs0 * bs1), .float 0] (v.toList ++ [.long b4]) M' Q)) : wp 58 89 [.ref 88, .ref 1, .int a2, .int a3, .long b4, v5, .int a6, v7, v8] [.long bs1, .long bs0] (hs t, F, G) Q := by
  refine wp_lmul rfl ?_
  refine wp_N (j' := 58) (pc' := 98) (L' := [.ref 88, .ref 1, .int a2, .int a3, .long b4, v5, .int a6, .long (bs0 * bs1), .float 0]) (S' := [.ref 89, .long b4]) (M' := (hs t, F, G)) 3 (fun _ => rfl) ?_
  refine wp_C (i := 31) (pc' := 101) (Li := [.ref 89]) (rest := [.long b4]) (fun _ => rfl) h
theorem rg58_101 {t : Nat} {F : ip_F} {G : ip_G} {Q : Option Value → ip_M → Prop} {a2 a3 a6 as1 : Int32} {b4 b7 bs0 : Int64} {v5 v8 : Value} (h : (as1 = (0 : Int32) → wp 58 110 [.ref 88, .ref 1, .int a2, .int a3, .long b4, v5, .int a6, .long b7, v8] [.long (0 : Int64), .long bs0] (hs t, F, G) Q) ∧ (¬ as1 = (0 : Int32) → wp 58 110 [.ref 88, .ref 1, .int a2, .int a3, .long b4, v5, .int a6, .long b7, v8] [.long b7, .long bs0] (hs t, F, G) Q)) : wp 58 101 [.ref 88, .ref 1, .int a2, .int a3, .long b4, v5, .int a6, .long b7, v8] [.int as1, .long bs0] (hs t, F, G) Q := by
  refine wp_ifc (pc1 := 109) (c := .eq) rfl (fun hc => ?_) (fun hc => ?_)
  · replace h := h.1 hc
    refine wp_N (j' := 58) (pc' := 110) (L' := [.ref 88, .ref 1, .int a2, .int a3, .long b4, v5, .int a6, .long b7, v8]) (S' := [.long (0 : Int64), .long bs0]) (M' := (hs t, F, G)) 0 (fun _ => rfl) ?_
    exact h
  · replace h := h.2 hc
    refine wp_N (j' := 58) (pc' := 110) (L' := [.ref 88, .ref 1, .int a2, .int a3, .long b4, v5, .int a6, .long b7, v8]) (S' := [.long b7, .long bs0]) (M' := (hs t, F, G)) 1 (fun _ => rfl) ?_
    exact h
theorem rg58_110 {t : Nat} {F : ip_F} {G : ip_G} {Q : Option Value → ip_M → Prop} {a2 a3 a6 : Int32} {b4 b7 bs0 bs1 : Int64} {v5 v8 : Value} (h : wp 58 113 [.ref 88, .ref 1, .int a2, .int a3, .long (bs0 + bs1), .float 0, .int a6, .long b7, v8] [] (hs t, F, G) Q) : wp 58 110 [.ref 88, .ref 1, .int a2, .int a3, .long b4, v5, .int a6, .long b7, v8] [.long bs1, .long bs0] (hs t, F, G) Q := by
  refine wp_ladd rfl ?_
  refine wp_N (j' := 58) (pc' := 113) (L' := [.ref 88, .ref 1, .int a2, .int a3, .long (bs0 + bs1), .float 0, .int a6, .long b7, v8]) (S' := []) (M' := (hs t, F, G)) 0 (fun _ => rfl) ?_
  exact h
theorem rg58_113 {t : Nat} {F : ip_F} {G : ip_G} {Q : Option Value → ip_M → Prop} {a2 a3 a6 : Int32} {b4 : Int64} {v5 v7 v8 : Value} (h : wp 58 29 [.ref 88, .ref 1, .int a2, .int a3, .long b4, (ip_unl v5), .int (a6 + (1 : Int32)), v7, v8] [] (hs t, F, G) Q) : wp 58 113 [.ref 88, .ref 1, .int a2, .int a3, .long b4, v5, .int a6, v7, v8] [] (hs t, F, G) Q := by
  refine wp_N (j' := 58) (pc' := 29) (L' := [.ref 88, .ref 1, .int a2, .int a3, .long b4, (ip_unl v5), .int (a6 + (1 : Int32)), v7, v8]) (S' := []) (M' := (hs t, F, G)) 1 (fun _ => rfl) ?_
  exact h
theorem rg59_0 {t : Nat} {F : ip_F} {G : ip_G} {Q : Option Value → ip_M → Prop} {a2 a3 : Int32} (h : wp 79 0 [.ref 3, .float 0, .float 0] [] (hs t, F, G) (fun v M' => wp 59 7 [.ref 88, .ref 1, .int a2, .int a3, .float 0, .float 0, .float 0, .float 0] (v.toList ++ []) M' Q)) : wp 59 0 [.ref 88, .ref 1, .int a2, .int a3, .float 0, .float 0, .float 0, .float 0] [] (hs t, F, G) Q := by
  refine wp_N (j' := 59) (pc' := 4) (L' := [.ref 88, .ref 1, .int a2, .int a3, .float 0, .float 0, .float 0, .float 0]) (S' := [.ref 3]) (M' := (hs t, F, G)) 1 (fun _ => rfl) ?_
  refine wp_C (i := 79) (pc' := 7) (Li := [.ref 3, .float 0, .float 0]) (rest := []) (fun _ => rfl) h
theorem rg59_7 {t : Nat} {F : ip_F} {G : ip_G} {Q : Option Value → ip_M → Prop} {a2 a3 as0 : Int32} {v4 v5 v6 v7 : Value} (h : wp 22 0 [.ref 89, .int (F 1 6), .ref 2, .float 0, .float 0] [] (hs t, F, G) (fun v M' => wp 59 32 [.ref 88, .ref 1, .int a2, .int a3, .int ((as0 ||| ((1 : Int32) <<< (a2 &&& 31))) ||| ((1 : Int32) <<< (a3 &&& 31))), v5, v6, v7] (v.toList ++ []) M' Q)) : wp 59 7 [.ref 88, .ref 1, .int a2, .int a3, v4, v5, v6, v7] [.int as0] (hs t, F, G) Q := by
  refine wp_N (j' := 59) (pc' := 29) (L' := [.ref 88, .ref 1, .int a2, .int a3, .int ((as0 ||| ((1 : Int32) <<< (a2 &&& 31))) ||| ((1 : Int32) <<< (a3 &&& 31))), v5, v6, v7]) (S' := [.ref 2, .int (F 1 6), .ref 89]) (M' := (hs t, F, G)) 14 (fun _ => rfl) ?_
  refine wp_C (i := 22) (pc' := 32) (Li := [.ref 89, .int (F 1 6), .ref 2, .float 0, .float 0]) (rest := []) (fun _ => rfl) h
theorem rg59_32 {t : Nat} {F : ip_F} {G : ip_G} {Q : Option Value → ip_M → Prop} {a2 a3 a4 : Int32} {v5 v6 v7 : Value} (h : wp 59 35 [.ref 88, .ref 1, .int a2, .int a3, .int a4, .int (0 : Int32), v6, v7] [] (hs t, F, G) Q) : wp 59 32 [.ref 88, .ref 1, .int a2, .int a3, .int a4, v5, v6, v7] [] (hs t, F, G) Q := by
  refine wp_N (j' := 59) (pc' := 35) (L' := [.ref 88, .ref 1, .int a2, .int a3, .int a4, .int (0 : Int32), v6, v7]) (S' := []) (M' := (hs t, F, G)) 1 (fun _ => rfl) ?_
  exact h
theorem rg59_35 {t : Nat} {F : ip_F} {G : ip_G} {Q : Option Value → ip_M → Prop} {a2 a3 a4 a5 : Int32} {v6 v7 : Value} (h : ((4 : Int32) ≤ a5 → wp 59 139 [.ref 88, .ref 1, .int a2, .int a3, .int a4, .int (0 : Int32), .int (0 : Int32), v7] [] (hs t, F, G) Q) ∧ (a5 < (4 : Int32) → wp 24 0 [.ref 89, .int a2, .int a3, .int a5] [] (hs t, F, G) (fun v M' => wp 59 64 [.ref 88, .ref 1, .int a2, .int a3, .int a4, .int a5, .int (a5 &&& (1 : Int32)), .int (a5 >>> ((1 : Int32) &&& 31))] (v.toList ++ []) M' Q))) : wp 59 35 [.ref 88, .ref 1, .int a2, .int a3, .int a4, .int a5, v6, v7] [] (hs t, F, G) Q := by
  refine wp_N (j' := 59) (pc' := 38) (L' := [.ref 88, .ref 1, .int a2, .int a3, .int a4, .int a5, v6, v7]) (S' := [.int (4 : Int32), .int a5]) (M' := (hs t, F, G)) 1 (fun _ => rfl) ?_
  refine wp_icmp (pc1 := 133) (c := .ge) rfl (fun hc => ?_) (fun hc => ?_)
  · replace h := h.1 hc
    refine wp_N (j' := 59) (pc' := 139) (L' := [.ref 88, .ref 1, .int a2, .int a3, .int a4, .int (0 : Int32), .int (0 : Int32), v7]) (S' := []) (M' := (hs t, F, G)) 3 (fun _ => rfl) ?_
    exact h
  · replace h := h.2 (Int32.not_le.mp hc)
    refine wp_N (j' := 59) (pc' := 61) (L' := [.ref 88, .ref 1, .int a2, .int a3, .int a4, .int a5, .int (a5 &&& (1 : Int32)), .int (a5 >>> ((1 : Int32) &&& 31))]) (S' := [.int a5, .int a3, .int a2, .ref 89]) (M' := (hs t, F, G)) 12 (fun _ => rfl) ?_
    refine wp_C (i := 24) (pc' := 64) (Li := [.ref 89, .int a2, .int a3, .int a5]) (rest := []) (fun _ => rfl) h
theorem rg59_64 {t : Nat} {F : ip_F} {G : ip_G} {Q : Option Value → ip_M → Prop} {a2 a3 a4 a5 a6 a7 : Int32} (h : wp 25 0 [.ref 89, .ref 3, .int a4, .float 0, .float 0] [] (hs t, F, G) (fun v M' => wp 59 77 [.ref 88, .ref 1, .int a2, .int a3, .int a4, .int a5, .int a6, .int a7] (v.toList ++ []) M' Q)) : wp 59 64 [.ref 88, .ref 1, .int a2, .int a3, .int a4, .int a5, .int a6, .int a7] [] (hs t, F, G) Q := by
  refine wp_N (j' := 59) (pc' := 74) (L' := [.ref 88, .ref 1, .int a2, .int a3, .int a4, .int a5, .int a6, .int a7]) (S' := [.int a4, .ref 3, .ref 89]) (M' := (hs t, F, G)) 4 (fun _ => rfl) ?_
  refine wp_C (i := 25) (pc' := 77) (Li := [.ref 89, .ref 3, .int a4, .float 0, .float 0]) (rest := []) (fun _ => rfl) h
theorem rg59_77 {t : Nat} {F : ip_F} {G : ip_G} {Q : Option Value → ip_M → Prop} {a2 a3 a4 a5 a6 a7 : Int32} (h : wp 33 0 [.ref 89, .int (a2 + (1 : Int32)), .float 0, .float 0] [] (hs t, F, G) (fun v M' => wp 59 93 [.ref 88, .ref 1, .int a2, .int a3, .int a4, .int a5, .int a6, .int a7] (v.toList ++ [.int a5, .ref 122]) M' Q)) : wp 59 77 [.ref 88, .ref 1, .int a2, .int a3, .int a4, .int a5, .int a6, .int a7] [] (hs t, F, G) Q := by
  refine wp_N (j' := 59) (pc' := 90) (L' := [.ref 88, .ref 1, .int a2, .int a3, .int a4, .int a5, .int a6, .int a7]) (S' := [.int (a2 + (1 : Int32)), .ref 89, .int a5, .ref 122]) (M' := (hs t, F, G)) 7 (fun _ => rfl) ?_
  refine wp_C (i := 33) (pc' := 93) (Li := [.ref 89, .int (a2 + (1 : Int32)), .float 0, .float 0]) (rest := [.int a5, .ref 122]) (fun _ => rfl) h
theorem rg59_93 {t : Nat} {F : ip_F} {G : ip_G} {Q : Option Value → ip_M → Prop} {a2 a3 a4 a5 a6 a7 as1 as2 : Int32} (h : (vp_in as1 4) ∧ (wp 33 0 [.ref 89, .int (a3 + (1 : Int32)), .float 0, .float 0] [] (hs t, (ip_u F 122 (as1).toNatClampNeg ((as2 - a6) - ((2 : Int32) * a7))), G) (fun v M' => wp 59 118 [.ref 88, .ref 1, .int a2, .int a3, .int a4, .int a5, .int a6, .int a7] (v.toList ++ [.int a5, .ref 123]) M' Q))) : wp 59 93 [.ref 88, .ref 1, .int a2, .int a3, .int a4, .int a5, .int a6, .int a7] [.int as2, .int as1, .ref 122] (hs t, F, G) Q := by
  refine wp_N (j' := 59) (pc' := 101) (L' := [.ref 88, .ref 1, .int a2, .int a3, .int a4, .int a5, .int a6, .int a7]) (S' := [.int ((as2 - a6) - ((2 : Int32) * a7)), .int as1, .ref 122]) (M' := (hs t, F, G)) 5 (fun _ => rfl) ?_
  obtain ⟨h1_, h⟩ := h
  refine wp_ias (m := (as1).toNatClampNeg) rfl rfl rfl h1_ ?_
  refine wp_N (j' := 59) (pc' := 115) (L' := [.ref 88, .ref 1, .int a2, .int a3, .int a4, .int a5, .int a6, .int a7]) (S' := [.int (a3 + (1 : Int32)), .ref 89, .int a5, .ref 123]) (M' := (hs t, (ip_u F 122 (as1).toNatClampNeg ((as2 - a6) - ((2 : Int32) * a7))), G)) 7 (fun _ => rfl) ?_
  refine wp_C (i := 33) (pc' := 118) (Li := [.ref 89, .int (a3 + (1 : Int32)), .float 0, .float 0]) (rest := [.int a5, .ref 123]) (fun _ => rfl) h
theorem rg59_118 {t : Nat} {F : ip_F} {G : ip_G} {Q : Option Value → ip_M → Prop} {a2 a3 a4 a5 a6 a7 as1 as2 : Int32} (h : (vp_in as1 4) ∧ (wp 59 35 [.ref 88, .ref 1, .int a2, .int a3, .int a4, .int (a5 + (1 : Int32)), .int a6, .int a7] [] (hs t, (ip_u F 123 (as1).toNatClampNeg ((as2 - a7) - ((2 : Int32) * a6))), G) Q)) : wp 59 118 [.ref 88, .ref 1, .int a2, .int a3, .int a4, .int a5, .int a6, .int a7] [.int as2, .int as1, .ref 123] (hs t, F, G) Q := by
  refine wp_N (j' := 59) (pc' := 126) (L' := [.ref 88, .ref 1, .int a2, .int a3, .int a4, .int a5, .int a6, .int a7]) (S' := [.int ((as2 - a7) - ((2 : Int32) * a6)), .int as1, .ref 123]) (M' := (hs t, F, G)) 5 (fun _ => rfl) ?_
  obtain ⟨h1_, h⟩ := h
  refine wp_ias (m := (as1).toNatClampNeg) rfl rfl rfl h1_ ?_
  refine wp_N (j' := 59) (pc' := 35) (L' := [.ref 88, .ref 1, .int a2, .int a3, .int a4, .int (a5 + (1 : Int32)), .int a6, .int a7]) (S' := []) (M' := (hs t, (ip_u F 123 (as1).toNatClampNeg ((as2 - a7) - ((2 : Int32) * a6))), G)) 1 (fun _ => rfl) ?_
  exact h
theorem rg59_139 {t : Nat} {F : ip_F} {G : ip_G} {Q : Option Value → ip_M → Prop} {a2 a3 a4 a5 a6 : Int32} {v7 : Value} (h : ((4 : Int32) ≤ a6 → Q (some (.int a5)) (hs t, F, G)) ∧ (a6 < (4 : Int32) → (vp_in a6 4) ∧ ((vp_in (a6 ^^^ (1 : Int32)) 4) ∧ (((F 122 (a6).toNatClampNeg) < (F 122 ((a6 ^^^ (1 : Int32))).toNatClampNeg) → wp 59 192 [.ref 88, .ref 1, .int a2, .int a3, .int a4, .int a5, .int a6, v7] [] (hs t, F, G) Q) ∧ ((F 122 ((a6 ^^^ (1 : Int32))).toNatClampNeg) ≤ (F 122 (a6).toNatClampNeg) → (vp_in a6 4) ∧ ((vp_in (a6 ^^^ (2 : Int32)) 4) ∧ (((F 123 (a6).toNatClampNeg) < (F 123 ((a6 ^^^ (2 : Int32))).toNatClampNeg) → wp 59 192 [.ref 88, .ref 1, .int a2, .int a3, .int a4, .int a5, .int a6, v7] [] (hs t, F, G) Q) ∧ ((F 123 ((a6 ^^^ (2 : Int32))).toNatClampNeg) ≤ (F 123 (a6).toNatClampNeg) → wp 59 192 [.ref 88, .ref 1, .int a2, .int a3, .int a4, .int (a5 ||| ((1 : Int32) <<< (a6 &&& 31))), .int a6, v7] [] (hs t, F, G) Q)))))))) : wp 59 139 [.ref 88, .ref 1, .int a2, .int a3, .int a4, .int a5, .int a6, v7] [] (hs t, F, G) Q := by
  refine wp_N (j' := 59) (pc' := 142) (L' := [.ref 88, .ref 1, .int a2, .int a3, .int a4, .int a5, .int a6, v7]) (S' := [.int (4 : Int32), .int a6]) (M' := (hs t, F, G)) 1 (fun _ => rfl) ?_
  refine wp_icmp (pc1 := 198) (c := .ge) rfl (fun hc => ?_) (fun hc => ?_)
  · replace h := h.1 hc
    refine wp_N (j' := 59) (pc' := 200) (L' := [.ref 88, .ref 1, .int a2, .int a3, .int a4, .int a5, .int a6, v7]) (S' := [.int a5]) (M' := (hs t, F, G)) 0 (fun _ => rfl) ?_
    exact wp_RI rfl rfl h
  · replace h := h.2 (Int32.not_le.mp hc)
    refine wp_N (j' := 59) (pc' := 151) (L' := [.ref 88, .ref 1, .int a2, .int a3, .int a4, .int a5, .int a6, v7]) (S' := [.int a6, .ref 122]) (M' := (hs t, F, G)) 2 (fun _ => rfl) ?_
    obtain ⟨h1_, h⟩ := h
    refine wp_ial (m := (a6).toNatClampNeg) rfl rfl rfl h1_ ?_
    refine wp_N (j' := 59) (pc' := 160) (L' := [.ref 88, .ref 1, .int a2, .int a3, .int a4, .int a5, .int a6, v7]) (S' := [.int (a6 ^^^ (1 : Int32)), .ref 122, .int (F 122 (a6).toNatClampNeg)]) (M' := (hs t, F, G)) 4 (fun _ => rfl) ?_
    obtain ⟨h2_, h⟩ := h
    refine wp_ial (m := ((a6 ^^^ (1 : Int32))).toNatClampNeg) rfl rfl rfl h2_ ?_
    refine wp_icmp (pc1 := 192) (c := .lt) rfl (fun hc => ?_) (fun hc => ?_)
    · replace h := h.1 hc
      exact h
    · replace h := h.2 (Int32.not_lt.mp hc)
      refine wp_N (j' := 59) (pc' := 170) (L' := [.ref 88, .ref 1, .int a2, .int a3, .int a4, .int a5, .int a6, v7]) (S' := [.int a6, .ref 123]) (M' := (hs t, F, G)) 2 (fun _ => rfl) ?_
      obtain ⟨h3_, h⟩ := h
      refine wp_ial (m := (a6).toNatClampNeg) rfl rfl rfl h3_ ?_
      refine wp_N (j' := 59) (pc' := 179) (L' := [.ref 88, .ref 1, .int a2, .int a3, .int a4, .int a5, .int a6, v7]) (S' := [.int (a6 ^^^ (2 : Int32)), .ref 123, .int (F 123 (a6).toNatClampNeg)]) (M' := (hs t, F, G)) 4 (fun _ => rfl) ?_
      obtain ⟨h4_, h⟩ := h
      refine wp_ial (m := ((a6 ^^^ (2 : Int32))).toNatClampNeg) rfl rfl rfl h4_ ?_
      refine wp_icmp (pc1 := 192) (c := .lt) rfl (fun hc => ?_) (fun hc => ?_)
      · replace h := h.1 hc
        exact h
      · replace h := h.2 (Int32.not_lt.mp hc)
        refine wp_N (j' := 59) (pc' := 192) (L' := [.ref 88, .ref 1, .int a2, .int a3, .int a4, .int (a5 ||| ((1 : Int32) <<< (a6 &&& 31))), .int a6, v7]) (S' := []) (M' := (hs t, F, G)) 5 (fun _ => rfl) ?_
        exact h
theorem rg59_192 {t : Nat} {F : ip_F} {G : ip_G} {Q : Option Value → ip_M → Prop} {a2 a3 a4 a5 a6 : Int32} {v7 : Value} (h : wp 59 139 [.ref 88, .ref 1, .int a2, .int a3, .int a4, .int a5, .int (a6 + (1 : Int32)), v7] [] (hs t, F, G) Q) : wp 59 192 [.ref 88, .ref 1, .int a2, .int a3, .int a4, .int a5, .int a6, v7] [] (hs t, F, G) Q := by
  refine wp_N (j' := 59) (pc' := 139) (L' := [.ref 88, .ref 1, .int a2, .int a3, .int a4, .int a5, .int (a6 + (1 : Int32)), v7]) (S' := []) (M' := (hs t, F, G)) 1 (fun _ => rfl) ?_
  exact h
theorem rg60_0 {t : Nat} {F : ip_F} {G : ip_G} {Q : Option Value → ip_M → Prop} {a2 a3 : Int32} (h : wp 63 0 [.ref 119, .ref 3] [] (hs t, F, G) (fun v M' => wp 60 18 [.ref 88, .ref 1, .int a2, .int a3, .long a2.toInt64, .float 0, .int (0 : Int32), .float 0, .float 0] (v.toList ++ []) M' Q)) : wp 60 0 [.ref 88, .ref 1, .int a2, .int a3, .float 0, .float 0, .float 0, .float 0, .float 0] [] (hs t, F, G) Q := by
  refine wp_N (j' := 60) (pc' := 15) (L' := [.ref 88, .ref 1, .int a2, .int a3, .long a2.toInt64, .float 0, .int (0 : Int32), .float 0, .float 0]) (S' := [.ref 3, .ref 119]) (M' := (hs t, F, G)) 8 (fun _ => rfl) ?_
  refine wp_C (i := 63) (pc' := 18) (Li := [.ref 119, .ref 3]) (rest := []) (fun _ => rfl) h
theorem rg60_18 {t : Nat} {F : ip_F} {G : ip_G} {Q : Option Value → ip_M → Prop} {a2 a3 a6 : Int32} {b4 : Int64} {v5 v7 v8 : Value} (h : wp 22 0 [.ref 89, .int (F 1 6), .ref 2, .float 0, .float 0] [] (hs t, F, G) (fun v M' => wp 60 33 [.ref 88, .ref 1, .int a2, .int a3, .long b4, v5, .int a6, v7, v8] (v.toList ++ []) M' Q)) : wp 60 18 [.ref 88, .ref 1, .int a2, .int a3, .long b4, v5, .int a6, v7, v8] [] (hs t, F, G) Q := by
  refine wp_N (j' := 60) (pc' := 30) (L' := [.ref 88, .ref 1, .int a2, .int a3, .long b4, v5, .int a6, v7, v8]) (S' := [.ref 2, .int (F 1 6), .ref 89]) (M' := (hs t, F, G)) 5 (fun _ => rfl) ?_
  refine wp_C (i := 22) (pc' := 33) (Li := [.ref 89, .int (F 1 6), .ref 2, .float 0, .float 0]) (rest := []) (fun _ => rfl) h
theorem rg60_33 {t : Nat} {F : ip_F} {G : ip_G} {Q : Option Value → ip_M → Prop} {a2 a3 a6 : Int32} {b4 : Int64} {v5 v7 v8 : Value} (h : wp 60 36 [.ref 88, .ref 1, .int a2, .int a3, .long b4, v5, .int a6, .int (0 : Int32), v8] [] (hs t, F, G) Q) : wp 60 33 [.ref 88, .ref 1, .int a2, .int a3, .long b4, v5, .int a6, v7, v8] [] (hs t, F, G) Q := by
  refine wp_N (j' := 60) (pc' := 36) (L' := [.ref 88, .ref 1, .int a2, .int a3, .long b4, v5, .int a6, .int (0 : Int32), v8]) (S' := []) (M' := (hs t, F, G)) 1 (fun _ => rfl) ?_
  exact h
theorem rg60_36 {t : Nat} {F : ip_F} {G : ip_G} {Q : Option Value → ip_M → Prop} {a2 a3 a6 a7 : Int32} {b4 : Int64} {v5 v8 : Value} (h : (a3 ≤ a7 → Q (some (.int a6)) (hs t, F, G)) ∧ (a7 < a3 → ((F 1 6) ≤ (((((b4 * (1103515245 : Int64)) + (12345 : Int64)) - ((b4 * (1103515245 : Int64)) + (12345 : Int64)) / (2147483648 : Int64) * (2147483648 : Int64)) / (65536 : Int64)) - ((((b4 * (1103515245 : Int64)) + (12345 : Int64)) - ((b4 * (1103515245 : Int64)) + (12345 : Int64)) / (2147483648 : Int64) * (2147483648 : Int64)) / (65536 : Int64)) / (6 : Int64) * (6 : Int64)).toInt32 → wp 60 101 [.ref 88, .ref 1, .int a2, .int a3, .long (((b4 * (1103515245 : Int64)) + (12345 : Int64)) - ((b4 * (1103515245 : Int64)) + (12345 : Int64)) / (2147483648 : Int64) * (2147483648 : Int64)), .float 0, .int a6, .int a7, .int (((((b4 * (1103515245 : Int64)) + (12345 : Int64)) - ((b4 * (1103515245 : Int64)) + (12345 : Int64)) / (2147483648 : Int64) * (2147483648 : Int64)) / (65536 : Int64)) - ((((b4 * (1103515245 : Int64)) + (12345 : Int64)) - ((b4 * (1103515245 : Int64)) + (12345 : Int64)) / (2147483648 : Int64) * (2147483648 : Int64)) / (65536 : Int64)) / (6 : Int64) * (6 : Int64)).toInt32] [] (hs t, F, G) Q) ∧ ((((((b4 * (1103515245 : Int64)) + (12345 : Int64)) - ((b4 * (1103515245 : Int64)) + (12345 : Int64)) / (2147483648 : Int64) * (2147483648 : Int64)) / (65536 : Int64)) - ((((b4 * (1103515245 : Int64)) + (12345 : Int64)) - ((b4 * (1103515245 : Int64)) + (12345 : Int64)) / (2147483648 : Int64) * (2147483648 : Int64)) / (65536 : Int64)) / (6 : Int64) * (6 : Int64)).toInt32 < (F 1 6) → wp 74 0 [.ref 119, .int (((((b4 * (1103515245 : Int64)) + (12345 : Int64)) - ((b4 * (1103515245 : Int64)) + (12345 : Int64)) / (2147483648 : Int64) * (2147483648 : Int64)) / (65536 : Int64)) - ((((b4 * (1103515245 : Int64)) + (12345 : Int64)) - ((b4 * (1103515245 : Int64)) + (12345 : Int64)) / (2147483648 : Int64) * (2147483648 : Int64)) / (65536 : Int64)) / (6 : Int64) * (6 : Int64)).toInt32, .int (((((b4 * (1103515245 : Int64)) + (12345 : Int64)) - ((b4 * (1103515245 : Int64)) + (12345 : Int64)) / (2147483648 : Int64) * (2147483648 : Int64)) / (1048576 : Int64)) - ((((b4 * (1103515245 : Int64)) + (12345 : Int64)) - ((b4 * (1103515245 : Int64)) + (12345 : Int64)) / (2147483648 : Int64) * (2147483648 : Int64)) / (1048576 : Int64)) / (6 : Int64) * (6 : Int64)).toInt32, .int (0 : Int32)] [] (hs t, F, G) (fun v M' => wp 60 101 [.ref 88, .ref 1, .int a2, .int a3, .long (((b4 * (1103515245 : Int64)) + (12345 : Int64)) - ((b4 * (1103515245 : Int64)) + (12345 : Int64)) / (2147483648 : Int64) * (2147483648 : Int64)), .float 0, .int a6, .int a7, .int (((((b4 * (1103515245 : Int64)) + (12345 : Int64)) - ((b4 * (1103515245 : Int64)) + (12345 : Int64)) / (2147483648 : Int64) * (2147483648 : Int64)) / (65536 : Int64)) - ((((b4 * (1103515245 : Int64)) + (12345 : Int64)) - ((b4 * (1103515245 : Int64)) + (12345 : Int64)) / (2147483648 : Int64) * (2147483648 : Int64)) / (65536 : Int64)) / (6 : Int64) * (6 : Int64)).toInt32] (v.toList ++ []) M' Q)))) : wp 60 36 [.ref 88, .ref 1, .int a2, .int a3, .long b4, v5, .int a6, .int a7, v8] [] (hs t, F, G) Q := by
  refine wp_N (j' := 60) (pc' := 39) (L' := [.ref 88, .ref 1, .int a2, .int a3, .long b4, v5, .int a6, .int a7, v8]) (S' := [.int a3, .int a7]) (M' := (hs t, F, G)) 1 (fun _ => rfl) ?_
  refine wp_icmp (pc1 := 144) (c := .ge) rfl (fun hc => ?_) (fun hc => ?_)
  · replace h := h.1 hc
    refine wp_N (j' := 60) (pc' := 146) (L' := [.ref 88, .ref 1, .int a2, .int a3, .long b4, v5, .int a6, .int a7, v8]) (S' := [.int a6]) (M' := (hs t, F, G)) 0 (fun _ => rfl) ?_
    exact wp_RI rfl rfl h
  · replace h := h.2 (Int32.not_le.mp hc)
    refine wp_N (j' := 60) (pc' := 44) (L' := [.ref 88, .ref 1, .int a2, .int a3, .long b4, v5, .int a6, .int a7, v8]) (S' := [.long b4]) (M' := (hs t, F, G)) 0 (fun _ => rfl) ?_
    refine wp_ldc2 (v := (1103515245 : Int64)) rfl rfl rfl ?_
    refine wp_lmul rfl ?_
    refine wp_ldc2 (v := (12345 : Int64)) rfl rfl rfl ?_
    refine wp_ladd rfl ?_
    refine wp_ldc2 (v := (2147483648 : Int64)) rfl rfl rfl ?_
    refine wp_lrem rfl (by decide) ?_
    refine wp_N (j' := 60) (pc' := 60) (L' := [.ref 88, .ref 1, .int a2, .int a3, .long (((b4 * (1103515245 : Int64)) + (12345 : Int64)) - ((b4 * (1103515245 : Int64)) + (12345 : Int64)) / (2147483648 : Int64) * (2147483648 : Int64)), .float 0, .int a6, .int a7, v8]) (S' := [.long (((b4 * (1103515245 : Int64)) + (12345 : Int64)) - ((b4 * (1103515245 : Int64)) + (12345 : Int64)) / (2147483648 : Int64) * (2147483648 : Int64))]) (M' := (hs t, F, G)) 1 (fun n9 => (show ∀ (z0 : Int64), ip_run none (n9 + 2) 60 56 [.ref 88, .ref 1, .int a2, .int a3, .long b4, v5, .int a6, .int a7, v8] [.long z0] (hs t, F, G) (0, 0) = ip_run none n9 60 60 [.ref 88, .ref 1, .int a2, .int a3, .long z0, .float 0, .int a6, .int a7, v8] [.long z0] (hs t, F, G) (0, 0) from fun _ => rfl) (((b4 * (1103515245 : Int64)) + (12345 : Int64)) - ((b4 * (1103515245 : Int64)) + (12345 : Int64)) / (2147483648 : Int64) * (2147483648 : Int64))) ?_
    refine wp_ldc2 (v := (65536 : Int64)) rfl rfl rfl ?_
    refine wp_ldiv rfl (by decide) ?_
    refine wp_ldc2 (v := (6 : Int64)) rfl rfl rfl ?_
    refine wp_lrem rfl (by decide) ?_
    refine wp_l2i rfl ?_
    refine wp_N (j' := 60) (pc' := 77) (L' := [.ref 88, .ref 1, .int a2, .int a3, .long (((b4 * (1103515245 : Int64)) + (12345 : Int64)) - ((b4 * (1103515245 : Int64)) + (12345 : Int64)) / (2147483648 : Int64) * (2147483648 : Int64)), .float 0, .int a6, .int a7, .int (((((b4 * (1103515245 : Int64)) + (12345 : Int64)) - ((b4 * (1103515245 : Int64)) + (12345 : Int64)) / (2147483648 : Int64) * (2147483648 : Int64)) / (65536 : Int64)) - ((((b4 * (1103515245 : Int64)) + (12345 : Int64)) - ((b4 * (1103515245 : Int64)) + (12345 : Int64)) / (2147483648 : Int64) * (2147483648 : Int64)) / (65536 : Int64)) / (6 : Int64) * (6 : Int64)).toInt32]) (S' := [.int (F 1 6), .int (((((b4 * (1103515245 : Int64)) + (12345 : Int64)) - ((b4 * (1103515245 : Int64)) + (12345 : Int64)) / (2147483648 : Int64) * (2147483648 : Int64)) / (65536 : Int64)) - ((((b4 * (1103515245 : Int64)) + (12345 : Int64)) - ((b4 * (1103515245 : Int64)) + (12345 : Int64)) / (2147483648 : Int64) * (2147483648 : Int64)) / (65536 : Int64)) / (6 : Int64) * (6 : Int64)).toInt32]) (M' := (hs t, F, G)) 3 (fun n9 => (show ∀ (z0 : Int32) (z1 : Int64), ip_run none (n9 + 4) 60 69 [.ref 88, .ref 1, .int a2, .int a3, .long z1, .float 0, .int a6, .int a7, v8] [.int z0] (hs t, F, G) (0, 0) = ip_run none n9 60 77 [.ref 88, .ref 1, .int a2, .int a3, .long z1, .float 0, .int a6, .int a7, .int z0] [.int (F 1 6), .int z0] (hs t, F, G) (0, 0) from fun _ _ => rfl) (((((b4 * (1103515245 : Int64)) + (12345 : Int64)) - ((b4 * (1103515245 : Int64)) + (12345 : Int64)) / (2147483648 : Int64) * (2147483648 : Int64)) / (65536 : Int64)) - ((((b4 * (1103515245 : Int64)) + (12345 : Int64)) - ((b4 * (1103515245 : Int64)) + (12345 : Int64)) / (2147483648 : Int64) * (2147483648 : Int64)) / (65536 : Int64)) / (6 : Int64) * (6 : Int64)).toInt32 (((b4 * (1103515245 : Int64)) + (12345 : Int64)) - ((b4 * (1103515245 : Int64)) + (12345 : Int64)) / (2147483648 : Int64) * (2147483648 : Int64))) ?_
    refine wp_icmp (pc1 := 101) (c := .ge) rfl (fun hc => ?_) (fun hc => ?_)
    · replace h := h.1 hc
      exact h
    · replace h := h.2 (Int32.not_le.mp hc)
      refine wp_N (j' := 60) (pc' := 88) (L' := [.ref 88, .ref 1, .int a2, .int a3, .long (((b4 * (1103515245 : Int64)) + (12345 : Int64)) - ((b4 * (1103515245 : Int64)) + (12345 : Int64)) / (2147483648 : Int64) * (2147483648 : Int64)), .float 0, .int a6, .int a7, .int (((((b4 * (1103515245 : Int64)) + (12345 : Int64)) - ((b4 * (1103515245 : Int64)) + (12345 : Int64)) / (2147483648 : Int64) * (2147483648 : Int64)) / (65536 : Int64)) - ((((b4 * (1103515245 : Int64)) + (12345 : Int64)) - ((b4 * (1103515245 : Int64)) + (12345 : Int64)) / (2147483648 : Int64) * (2147483648 : Int64)) / (65536 : Int64)) / (6 : Int64) * (6 : Int64)).toInt32]) (S' := [.long (((b4 * (1103515245 : Int64)) + (12345 : Int64)) - ((b4 * (1103515245 : Int64)) + (12345 : Int64)) / (2147483648 : Int64) * (2147483648 : Int64)), .int (((((b4 * (1103515245 : Int64)) + (12345 : Int64)) - ((b4 * (1103515245 : Int64)) + (12345 : Int64)) / (2147483648 : Int64) * (2147483648 : Int64)) / (65536 : Int64)) - ((((b4 * (1103515245 : Int64)) + (12345 : Int64)) - ((b4 * (1103515245 : Int64)) + (12345 : Int64)) / (2147483648 : Int64) * (2147483648 : Int64)) / (65536 : Int64)) / (6 : Int64) * (6 : Int64)).toInt32, .ref 119]) (M' := (hs t, F, G)) 3 (fun n9 => (show ∀ (z0 : Int32) (z1 : Int64), ip_run none (n9 + 4) 60 80 [.ref 88, .ref 1, .int a2, .int a3, .long z1, .float 0, .int a6, .int a7, .int z0] [] (hs t, F, G) (0, 0) = ip_run none n9 60 88 [.ref 88, .ref 1, .int a2, .int a3, .long z1, .float 0, .int a6, .int a7, .int z0] [.long z1, .int z0, .ref 119] (hs t, F, G) (0, 0) from fun _ _ => rfl) (((((b4 * (1103515245 : Int64)) + (12345 : Int64)) - ((b4 * (1103515245 : Int64)) + (12345 : Int64)) / (2147483648 : Int64) * (2147483648 : Int64)) / (65536 : Int64)) - ((((b4 * (1103515245 : Int64)) + (12345 : Int64)) - ((b4 * (1103515245 : Int64)) + (12345 : Int64)) / (2147483648 : Int64) * (2147483648 : Int64)) / (65536 : Int64)) / (6 : Int64) * (6 : Int64)).toInt32 (((b4 * (1103515245 : Int64)) + (12345 : Int64)) - ((b4 * (1103515245 : Int64)) + (12345 : Int64)) / (2147483648 : Int64) * (2147483648 : Int64))) ?_
      refine wp_ldc2 (v := (1048576 : Int64)) rfl rfl rfl ?_
      refine wp_ldiv rfl (by decide) ?_
      refine wp_ldc2 (v := (6 : Int64)) rfl rfl rfl ?_
      refine wp_lrem rfl (by decide) ?_
      refine wp_l2i rfl ?_
      refine wp_N (j' := 60) (pc' := 98) (L' := [.ref 88, .ref 1, .int a2, .int a3, .long (((b4 * (1103515245 : Int64)) + (12345 : Int64)) - ((b4 * (1103515245 : Int64)) + (12345 : Int64)) / (2147483648 : Int64) * (2147483648 : Int64)), .float 0, .int a6, .int a7, .int (((((b4 * (1103515245 : Int64)) + (12345 : Int64)) - ((b4 * (1103515245 : Int64)) + (12345 : Int64)) / (2147483648 : Int64) * (2147483648 : Int64)) / (65536 : Int64)) - ((((b4 * (1103515245 : Int64)) + (12345 : Int64)) - ((b4 * (1103515245 : Int64)) + (12345 : Int64)) / (2147483648 : Int64) * (2147483648 : Int64)) / (65536 : Int64)) / (6 : Int64) * (6 : Int64)).toInt32]) (S' := [.int (0 : Int32), .int (((((b4 * (1103515245 : Int64)) + (12345 : Int64)) - ((b4 * (1103515245 : Int64)) + (12345 : Int64)) / (2147483648 : Int64) * (2147483648 : Int64)) / (1048576 : Int64)) - ((((b4 * (1103515245 : Int64)) + (12345 : Int64)) - ((b4 * (1103515245 : Int64)) + (12345 : Int64)) / (2147483648 : Int64) * (2147483648 : Int64)) / (1048576 : Int64)) / (6 : Int64) * (6 : Int64)).toInt32, .int (((((b4 * (1103515245 : Int64)) + (12345 : Int64)) - ((b4 * (1103515245 : Int64)) + (12345 : Int64)) / (2147483648 : Int64) * (2147483648 : Int64)) / (65536 : Int64)) - ((((b4 * (1103515245 : Int64)) + (12345 : Int64)) - ((b4 * (1103515245 : Int64)) + (12345 : Int64)) / (2147483648 : Int64) * (2147483648 : Int64)) / (65536 : Int64)) / (6 : Int64) * (6 : Int64)).toInt32, .ref 119]) (M' := (hs t, F, G)) 0 (fun n9 => (show ∀ (z0 : Int32) (z1 : Int32) (z2 : Int64), ip_run none (n9 + 1) 60 97 [.ref 88, .ref 1, .int a2, .int a3, .long z2, .float 0, .int a6, .int a7, .int z1] [.int z0, .int z1, .ref 119] (hs t, F, G) (0, 0) = ip_run none n9 60 98 [.ref 88, .ref 1, .int a2, .int a3, .long z2, .float 0, .int a6, .int a7, .int z1] [.int (0 : Int32), .int z0, .int z1, .ref 119] (hs t, F, G) (0, 0) from fun _ _ _ => rfl) (((((b4 * (1103515245 : Int64)) + (12345 : Int64)) - ((b4 * (1103515245 : Int64)) + (12345 : Int64)) / (2147483648 : Int64) * (2147483648 : Int64)) / (1048576 : Int64)) - ((((b4 * (1103515245 : Int64)) + (12345 : Int64)) - ((b4 * (1103515245 : Int64)) + (12345 : Int64)) / (2147483648 : Int64) * (2147483648 : Int64)) / (1048576 : Int64)) / (6 : Int64) * (6 : Int64)).toInt32 (((((b4 * (1103515245 : Int64)) + (12345 : Int64)) - ((b4 * (1103515245 : Int64)) + (12345 : Int64)) / (2147483648 : Int64) * (2147483648 : Int64)) / (65536 : Int64)) - ((((b4 * (1103515245 : Int64)) + (12345 : Int64)) - ((b4 * (1103515245 : Int64)) + (12345 : Int64)) / (2147483648 : Int64) * (2147483648 : Int64)) / (65536 : Int64)) / (6 : Int64) * (6 : Int64)).toInt32 (((b4 * (1103515245 : Int64)) + (12345 : Int64)) - ((b4 * (1103515245 : Int64)) + (12345 : Int64)) / (2147483648 : Int64) * (2147483648 : Int64))) ?_
      refine wp_C (i := 74) (pc' := 101) (Li := [.ref 119, .int (((((b4 * (1103515245 : Int64)) + (12345 : Int64)) - ((b4 * (1103515245 : Int64)) + (12345 : Int64)) / (2147483648 : Int64) * (2147483648 : Int64)) / (65536 : Int64)) - ((((b4 * (1103515245 : Int64)) + (12345 : Int64)) - ((b4 * (1103515245 : Int64)) + (12345 : Int64)) / (2147483648 : Int64) * (2147483648 : Int64)) / (65536 : Int64)) / (6 : Int64) * (6 : Int64)).toInt32, .int (((((b4 * (1103515245 : Int64)) + (12345 : Int64)) - ((b4 * (1103515245 : Int64)) + (12345 : Int64)) / (2147483648 : Int64) * (2147483648 : Int64)) / (1048576 : Int64)) - ((((b4 * (1103515245 : Int64)) + (12345 : Int64)) - ((b4 * (1103515245 : Int64)) + (12345 : Int64)) / (2147483648 : Int64) * (2147483648 : Int64)) / (1048576 : Int64)) / (6 : Int64) * (6 : Int64)).toInt32, .int (0 : Int32)]) (rest := []) (fun n9 => (show ∀ (z0 : Int32) (z1 : Int32) (z2 : Int64), ip_run none (n9 + 1) 60 98 [.ref 88, .ref 1, .int a2, .int a3, .long z2, .float 0, .int a6, .int a7, .int z1] [.int (0 : Int32), .int z0, .int z1, .ref 119] (hs t, F, G) (0, 0) = (ip_run none n9 74 0 [.ref 119, .int z1, .int z0, .int (0 : Int32)] [] (hs t, F, G) (0, 0)).bind fun r => ip_run none n9 60 101 [.ref 88, .ref 1, .int a2, .int a3, .long z2, .float 0, .int a6, .int a7, .int z1] (r.1.toList ++ []) r.2 (0, 0) from fun _ _ _ => rfl) (((((b4 * (1103515245 : Int64)) + (12345 : Int64)) - ((b4 * (1103515245 : Int64)) + (12345 : Int64)) / (2147483648 : Int64) * (2147483648 : Int64)) / (1048576 : Int64)) - ((((b4 * (1103515245 : Int64)) + (12345 : Int64)) - ((b4 * (1103515245 : Int64)) + (12345 : Int64)) / (2147483648 : Int64) * (2147483648 : Int64)) / (1048576 : Int64)) / (6 : Int64) * (6 : Int64)).toInt32 (((((b4 * (1103515245 : Int64)) + (12345 : Int64)) - ((b4 * (1103515245 : Int64)) + (12345 : Int64)) / (2147483648 : Int64) * (2147483648 : Int64)) / (65536 : Int64)) - ((((b4 * (1103515245 : Int64)) + (12345 : Int64)) - ((b4 * (1103515245 : Int64)) + (12345 : Int64)) / (2147483648 : Int64) * (2147483648 : Int64)) / (65536 : Int64)) / (6 : Int64) * (6 : Int64)).toInt32 (((b4 * (1103515245 : Int64)) + (12345 : Int64)) - ((b4 * (1103515245 : Int64)) + (12345 : Int64)) / (2147483648 : Int64) * (2147483648 : Int64))) h
theorem rg60_101 {t : Nat} {F : ip_F} {G : ip_G} {Q : Option Value → ip_M → Prop} {a2 a3 a6 a7 a8 : Int32} {b4 : Int64} {v5 : Value} (h : wp 79 0 [.ref 119, .float 0, .float 0] [] (hs t, F, G) (fun v M' => wp 60 116 [.ref 88, .ref 1, .int a2, .int a3, .long b4, v5, .int a6, .int a7, .int a8] (v.toList ++ [.ref 119, .ref 89]) M' Q)) : wp 60 101 [.ref 88, .ref 1, .int a2, .int a3, .long b4, v5, .int a6, .int a7, .int a8] [] (hs t, F, G) Q := by
  refine wp_N (j' := 60) (pc' := 113) (L' := [.ref 88, .ref 1, .int a2, .int a3, .long b4, v5, .int a6, .int a7, .int a8]) (S' := [.ref 119, .ref 119, .ref 89]) (M' := (hs t, F, G)) 5 (fun _ => rfl) ?_
  refine wp_C (i := 79) (pc' := 116) (Li := [.ref 119, .float 0, .float 0]) (rest := [.ref 119, .ref 89]) (fun _ => rfl) h
theorem rg60_116 {t : Nat} {F : ip_F} {G : ip_G} {Q : Option Value → ip_M → Prop} {a2 a3 a6 a7 a8 as2 : Int32} {b4 : Int64} {v5 : Value} (h : wp 25 0 [.ref 89, .ref 119, .int as2, .float 0, .float 0] [] (hs t, F, G) (fun v M' => wp 60 119 [.ref 88, .ref 1, .int a2, .int a3, .long b4, v5, .int a6, .int a7, .int a8] (v.toList ++ []) M' Q)) : wp 60 116 [.ref 88, .ref 1, .int a2, .int a3, .long b4, v5, .int a6, .int a7, .int a8] [.int as2, .ref 119, .ref 89] (hs t, F, G) Q := by
  refine wp_C (i := 25) (pc' := 119) (Li := [.ref 89, .ref 119, .int as2, .float 0, .float 0]) (rest := []) (fun _ => rfl) h
theorem rg60_119 {t : Nat} {F : ip_F} {G : ip_G} {Q : Option Value → ip_M → Prop} {a2 a3 a6 a7 a8 : Int32} {b4 : Int64} {v5 : Value} (h : wp 32 0 [.ref 89, .float 0, .float 0] [] (hs t, F, G) (fun v M' => wp 60 128 [.ref 88, .ref 1, .int a2, .int a3, .long b4, v5, .int a6, .int a7, .int a8] (v.toList ++ [.int a6]) M' Q)) : wp 60 119 [.ref 88, .ref 1, .int a2, .int a3, .long b4, v5, .int a6, .int a7, .int a8] [] (hs t, F, G) Q := by
  refine wp_N (j' := 60) (pc' := 125) (L' := [.ref 88, .ref 1, .int a2, .int a3, .long b4, v5, .int a6, .int a7, .int a8]) (S' := [.ref 89, .int a6]) (M' := (hs t, F, G)) 2 (fun _ => rfl) ?_
  refine wp_C (i := 32) (pc' := 128) (Li := [.ref 89, .float 0, .float 0]) (rest := [.int a6]) (fun _ => rfl) h
theorem rg60_128 {t : Nat} {F : ip_F} {G : ip_G} {Q : Option Value → ip_M → Prop} {a2 a3 a6 a7 a8 as0 as1 : Int32} {b4 : Int64} {v5 : Value} (h : wp 75 0 [.ref 119, .float 0] [] (hs t, F, G) (fun v M' => wp 60 138 [.ref 88, .ref 1, .int a2, .int a3, .long b4, (ip_unl v5), .int (as0 + as1), .int a7, .int a8] (v.toList ++ []) M' Q)) : wp 60 128 [.ref 88, .ref 1, .int a2, .int a3, .long b4, v5, .int a6, .int a7, .int a8] [.int as1, .int as0] (hs t, F, G) Q := by
  refine wp_N (j' := 60) (pc' := 135) (L' := [.ref 88, .ref 1, .int a2, .int a3, .long b4, (ip_unl v5), .int (as0 + as1), .int a7, .int a8]) (S' := [.ref 119]) (M' := (hs t, F, G)) 3 (fun _ => rfl) ?_
  refine wp_C (i := 75) (pc' := 138) (Li := [.ref 119, .float 0]) (rest := []) (fun _ => rfl) h
theorem rg60_138 {t : Nat} {F : ip_F} {G : ip_G} {Q : Option Value → ip_M → Prop} {a2 a3 a6 a7 a8 : Int32} {b4 : Int64} {v5 : Value} (h : wp 60 36 [.ref 88, .ref 1, .int a2, .int a3, .long b4, v5, .int a6, .int (a7 + (1 : Int32)), .int a8] [] (hs t, F, G) Q) : wp 60 138 [.ref 88, .ref 1, .int a2, .int a3, .long b4, v5, .int a6, .int a7, .int a8] [] (hs t, F, G) Q := by
  refine wp_N (j' := 60) (pc' := 36) (L' := [.ref 88, .ref 1, .int a2, .int a3, .long b4, v5, .int a6, .int (a7 + (1 : Int32)), .int a8]) (S' := []) (M' := (hs t, F, G)) 1 (fun _ => rfl) ?_
  exact h
theorem rg62_0 {t : Nat} {F : ip_F} {G : ip_G} {Q : Option Value → ip_M → Prop} {k : Nat} (hk : ok7 t k) (h : wp 62 2 [.ref k, .int (0 : Int32)] [] (hs t, F, G) Q) : wp 62 0 [.ref k, .float 0] [] (hs t, F, G) Q := by
  refine wp_N (j' := 62) (pc' := 2) (L' := [.ref k, .int (0 : Int32)]) (S' := []) (M' := (hs t, F, G)) 1 (fun _ => rfl) ?_
  exact h
theorem rg62_2 {t : Nat} {F : ip_F} {G : ip_G} {Q : Option Value → ip_M → Prop} {k : Nat} {a1 : Int32} (hk : ok7 t k) (h : ((25 : Int32) ≤ a1 → Q none (hs t, F, G)) ∧ (a1 < (25 : Int32) → ((12 : Int32) ≤ a1 → wp 62 24 [.ref k, .int a1] [.int (0 : Int32), .int a1, .ref (k + 1)] (hs t, F, G) Q) ∧ (a1 < (12 : Int32) → wp 62 24 [.ref k, .int a1] [.int (-1 : Int32), .int a1, .ref (k + 1)] (hs t, F, G) Q))) : wp 62 2 [.ref k, .int a1] [] (hs t, F, G) Q := by
  refine wp_N (j' := 62) (pc' := 5) (L' := [.ref k, .int a1]) (S' := [.int (25 : Int32), .int a1]) (M' := (hs t, F, G)) 1 (fun _ => rfl) ?_
  refine wp_icmp (pc1 := 31) (c := .ge) rfl (fun hc => ?_) (fun hc => ?_)
  · replace h := h.1 hc
    exact wp_RV rfl rfl h
  · replace h := h.2 (Int32.not_le.mp hc)
    refine wp_N (j' := 62) (pc' := 9) (L' := [.ref k, .int a1]) (S' := [.ref k]) (M' := (hs t, F, G)) 0 (fun _ => rfl) ?_
    refine wp_getR (r := (k + 1)) rfl hk.1 rfl rfl rfl (hs_lt hk.2) (by decide) ?_
    refine wp_N (j' := 62) (pc' := 16) (L' := [.ref k, .int a1]) (S' := [.int (12 : Int32), .int a1, .int a1, .ref (k + 1)]) (M' := (hs t, F, G)) 2 (fun _ => rfl) ?_
    refine wp_icmp (pc1 := 23) (c := .ge) rfl (fun hc => ?_) (fun hc => ?_)
    · replace h := h.1 hc
      refine wp_N (j' := 62) (pc' := 24) (L' := [.ref k, .int a1]) (S' := [.int (0 : Int32), .int a1, .ref (k + 1)]) (M' := (hs t, F, G)) 0 (fun _ => rfl) ?_
      exact h
    · replace h := h.2 (Int32.not_le.mp hc)
      refine wp_N (j' := 62) (pc' := 24) (L' := [.ref k, .int a1]) (S' := [.int (-1 : Int32), .int a1, .ref (k + 1)]) (M' := (hs t, F, G)) 1 (fun _ => rfl) ?_
      exact h
theorem rg62_24 {t : Nat} {F : ip_F} {G : ip_G} {Q : Option Value → ip_M → Prop} {k : Nat} {a1 as1 as2 : Int32} (hk : ok7 t k) (h : (vp_in as1 25) ∧ (wp 62 2 [.ref k, .int (a1 + (1 : Int32))] [] (hs t, (ip_u F (k + 1) (as1).toNatClampNeg as2), G) Q)) : wp 62 24 [.ref k, .int a1] [.int as2, .int as1, .ref (k + 1)] (hs t, F, G) Q := by
  obtain ⟨h1_, h⟩ := h
  refine wp_ias (m := (as1).toNatClampNeg) rfl hk.2 rfl h1_ ?_
  refine wp_N (j' := 62) (pc' := 2) (L' := [.ref k, .int (a1 + (1 : Int32))]) (S' := []) (M' := (hs t, (ip_u F (k + 1) (as1).toNatClampNeg as2), G)) 1 (fun _ => rfl) ?_
  exact h
theorem rg63_0 {t : Nat} {F : ip_F} {G : ip_G} {Q : Option Value → ip_M → Prop} {k o : Nat} (hk : ok7 t k) (ho : ok7 t o) (h : Q none (hs t, (ip_ur F (k + 1) (va_cpy (F (o + 1)) (F (k + 1)) 0 0 25)), G)) : wp 63 0 [.ref k, .ref o] [] (hs t, F, G) Q := by
  refine wp_N (j' := 63) (pc' := 1) (L' := [.ref k, .ref o]) (S' := [.ref o]) (M' := (hs t, F, G)) 0 (fun _ => rfl) ?_
  refine wp_getR (r := (o + 1)) rfl ho.1 rfl rfl rfl (hs_lt ho.2) (by decide) ?_
  refine wp_N (j' := 63) (pc' := 6) (L' := [.ref k, .ref o]) (S' := [.ref k, .int (0 : Int32), .ref (o + 1)]) (M' := (hs t, F, G)) 1 (fun _ => rfl) ?_
  refine wp_getR (r := (k + 1)) rfl hk.1 rfl rfl rfl (hs_lt hk.2) (by decide) ?_
  refine wp_N (j' := 63) (pc' := 12) (L' := [.ref k, .ref o]) (S' := [.int (25 : Int32), .int (0 : Int32), .ref (k + 1), .int (0 : Int32), .ref (o + 1)]) (M' := (hs t, F, G)) 1 (fun _ => rfl) ?_
  refine wp_cpy (sp' := 0) (dp' := 0) (n' := 25) rfl ho.2 hk.2 (by decide) (by decide) rfl rfl rfl (by decide) (by decide) ?_
  exact wp_RV rfl rfl h
theorem rg64_0 {t : Nat} {F : ip_F} {G : ip_G} {Q : Option Value → ip_M → Prop} {k : Nat} {a1 a2 : Int32} (hk : ok7 t k) (h : (a2 < (0 : Int32) → Q (some (.int (-1 : Int32))) (hs t, F, G)) ∧ ((0 : Int32) ≤ a2 → ((6 : Int32) ≤ a2 → Q (some (.int (-1 : Int32))) (hs t, F, G)) ∧ (a2 < (6 : Int32) → (vp_in (a1 + a2) 25) ∧ (Q (some (.int (F (k + 1) ((a1 + a2)).toNatClampNeg))) (hs t, F, G))))) : wp 64 0 [.ref k, .int a1, .int a2] [] (hs t, F, G) Q := by
  refine wp_N (j' := 64) (pc' := 1) (L' := [.ref k, .int a1, .int a2]) (S' := [.int a2]) (M' := (hs t, F, G)) 0 (fun _ => rfl) ?_
  refine wp_ifc (pc1 := 21) (c := .lt) rfl (fun hc => ?_) (fun hc => ?_)
  · replace h := h.1 hc
    refine wp_N (j' := 64) (pc' := 22) (L' := [.ref k, .int a1, .int a2]) (S' := [.int (-1 : Int32)]) (M' := (hs t, F, G)) 0 (fun _ => rfl) ?_
    exact wp_RI rfl rfl h
  · replace h := h.2 (Int32.not_lt.mp hc)
    refine wp_N (j' := 64) (pc' := 7) (L' := [.ref k, .int a1, .int a2]) (S' := [.int (6 : Int32), .int a2]) (M' := (hs t, F, G)) 1 (fun _ => rfl) ?_
    refine wp_icmp (pc1 := 21) (c := .ge) rfl (fun hc => ?_) (fun hc => ?_)
    · replace h := h.1 hc
      refine wp_N (j' := 64) (pc' := 22) (L' := [.ref k, .int a1, .int a2]) (S' := [.int (-1 : Int32)]) (M' := (hs t, F, G)) 0 (fun _ => rfl) ?_
      exact wp_RI rfl rfl h
    · replace h := h.2 (Int32.not_le.mp hc)
      refine wp_N (j' := 64) (pc' := 11) (L' := [.ref k, .int a1, .int a2]) (S' := [.ref k]) (M' := (hs t, F, G)) 0 (fun _ => rfl) ?_
      refine wp_getR (r := (k + 1)) rfl hk.1 rfl rfl rfl (hs_lt hk.2) (by decide) ?_
      refine wp_N (j' := 64) (pc' := 17) (L' := [.ref k, .int a1, .int a2]) (S' := [.int (a1 + a2), .ref (k + 1)]) (M' := (hs t, F, G)) 2 (fun _ => rfl) ?_
      obtain ⟨h1_, h⟩ := h
      refine wp_ial (m := ((a1 + a2)).toNatClampNeg) rfl hk.2 rfl h1_ ?_
      refine wp_N (j' := 64) (pc' := 22) (L' := [.ref k, .int a1, .int a2]) (S' := [.int (F (k + 1) ((a1 + a2)).toNatClampNeg)]) (M' := (hs t, F, G)) 0 (fun _ => rfl) ?_
      exact wp_RI rfl rfl h
theorem rg65_0 {t : Nat} {F : ip_F} {G : ip_G} {Q : Option Value → ip_M → Prop} {k : Nat} {a1 a2 a3 : Int32} (hk : ok7 t k) (h : (a2 < (0 : Int32) → Q none (hs t, F, G)) ∧ ((0 : Int32) ≤ a2 → ((6 : Int32) ≤ a2 → Q none (hs t, F, G)) ∧ (a2 < (6 : Int32) → (vp_in (a1 + a2) 25) ∧ (Q none (hs t, (ip_u F (k + 1) ((a1 + a2)).toNatClampNeg a3), G))))) : wp 65 0 [.ref k, .int a1, .int a2, .int a3] [] (hs t, F, G) Q := by
  refine wp_N (j' := 65) (pc' := 1) (L' := [.ref k, .int a1, .int a2, .int a3]) (S' := [.int a2]) (M' := (hs t, F, G)) 0 (fun _ => rfl) ?_
  refine wp_ifc (pc1 := 19) (c := .lt) rfl (fun hc => ?_) (fun hc => ?_)
  · replace h := h.1 hc
    exact wp_RV rfl rfl h
  · replace h := h.2 (Int32.not_lt.mp hc)
    refine wp_N (j' := 65) (pc' := 7) (L' := [.ref k, .int a1, .int a2, .int a3]) (S' := [.int (6 : Int32), .int a2]) (M' := (hs t, F, G)) 1 (fun _ => rfl) ?_
    refine wp_icmp (pc1 := 19) (c := .ge) rfl (fun hc => ?_) (fun hc => ?_)
    · replace h := h.1 hc
      exact wp_RV rfl rfl h
    · replace h := h.2 (Int32.not_le.mp hc)
      refine wp_N (j' := 65) (pc' := 11) (L' := [.ref k, .int a1, .int a2, .int a3]) (S' := [.ref k]) (M' := (hs t, F, G)) 0 (fun _ => rfl) ?_
      refine wp_getR (r := (k + 1)) rfl hk.1 rfl rfl rfl (hs_lt hk.2) (by decide) ?_
      refine wp_N (j' := 65) (pc' := 18) (L' := [.ref k, .int a1, .int a2, .int a3]) (S' := [.int a3, .int (a1 + a2), .ref (k + 1)]) (M' := (hs t, F, G)) 3 (fun _ => rfl) ?_
      obtain ⟨h1_, h⟩ := h
      refine wp_ias (m := ((a1 + a2)).toNatClampNeg) rfl hk.2 rfl h1_ ?_
      exact wp_RV rfl rfl h
theorem rg66_0 {t : Nat} {F : ip_F} {G : ip_G} {Q : Option Value → ip_M → Prop} {k : Nat} {a1 : Int32} (hk : ok7 t k) (h : wp 64 0 [.ref k, .int (0 : Int32), .int a1] [] (hs t, F, G) (fun v M' => wp 66 6 [.ref k, .int a1] (v.toList ++ []) M' Q)) : wp 66 0 [.ref k, .int a1] [] (hs t, F, G) Q := by
  refine wp_N (j' := 66) (pc' := 3) (L' := [.ref k, .int a1]) (S' := [.int a1, .int (0 : Int32), .ref k]) (M' := (hs t, F, G)) 2 (fun _ => rfl) ?_
  refine wp_CV (as := [.int (0 : Int32), .int a1]) (S := []) rfl hk.1 rfl rfl rfl (Nat.le_of_ble_eq_true rfl) rfl ⟨rfl, rfl⟩ rfl h
theorem rg66_6 {t : Nat} {F : ip_F} {G : ip_G} {Q : Option Value → ip_M → Prop} {k : Nat} {a1 as0 : Int32} (hk : ok7 t k) (h : Q (some (.int as0)) (hs t, F, G)) : wp 66 6 [.ref k, .int a1] [.int as0] (hs t, F, G) Q := by
  exact wp_RI rfl rfl h
theorem rg67_0 {t : Nat} {F : ip_F} {G : ip_G} {Q : Option Value → ip_M → Prop} {k : Nat} {a1 : Int32} (hk : ok7 t k) (h : wp 64 0 [.ref k, .int (6 : Int32), .int a1] [] (hs t, F, G) (fun v M' => wp 67 7 [.ref k, .int a1] (v.toList ++ []) M' Q)) : wp 67 0 [.ref k, .int a1] [] (hs t, F, G) Q := by
  refine wp_N (j' := 67) (pc' := 4) (L' := [.ref k, .int a1]) (S' := [.int a1, .int (6 : Int32), .ref k]) (M' := (hs t, F, G)) 2 (fun _ => rfl) ?_
  refine wp_CV (as := [.int (6 : Int32), .int a1]) (S := []) rfl hk.1 rfl rfl rfl (Nat.le_of_ble_eq_true rfl) rfl ⟨rfl, rfl⟩ rfl h
theorem rg67_7 {t : Nat} {F : ip_F} {G : ip_G} {Q : Option Value → ip_M → Prop} {k : Nat} {a1 as0 : Int32} (hk : ok7 t k) (h : Q (some (.int as0)) (hs t, F, G)) : wp 67 7 [.ref k, .int a1] [.int as0] (hs t, F, G) Q := by
  exact wp_RI rfl rfl h
theorem rg68_0 {t : Nat} {F : ip_F} {G : ip_G} {Q : Option Value → ip_M → Prop} {k : Nat} {a1 : Int32} (hk : ok7 t k) (h : wp 64 0 [.ref k, .int (12 : Int32), .int a1] [] (hs t, F, G) (fun v M' => wp 68 7 [.ref k, .int a1] (v.toList ++ []) M' Q)) : wp 68 0 [.ref k, .int a1] [] (hs t, F, G) Q := by
  refine wp_N (j' := 68) (pc' := 4) (L' := [.ref k, .int a1]) (S' := [.int a1, .int (12 : Int32), .ref k]) (M' := (hs t, F, G)) 2 (fun _ => rfl) ?_
  refine wp_CV (as := [.int (12 : Int32), .int a1]) (S := []) rfl hk.1 rfl rfl rfl (Nat.le_of_ble_eq_true rfl) rfl ⟨rfl, rfl⟩ rfl h
theorem rg68_7 {t : Nat} {F : ip_F} {G : ip_G} {Q : Option Value → ip_M → Prop} {k : Nat} {a1 as0 : Int32} (hk : ok7 t k) (h : Q (some (.int as0)) (hs t, F, G)) : wp 68 7 [.ref k, .int a1] [.int as0] (hs t, F, G) Q := by
  exact wp_RI rfl rfl h
theorem rg69_0 {t : Nat} {F : ip_F} {G : ip_G} {Q : Option Value → ip_M → Prop} {k : Nat} {a1 : Int32} (hk : ok7 t k) (h : wp 64 0 [.ref k, .int (18 : Int32), .int a1] [] (hs t, F, G) (fun v M' => wp 69 7 [.ref k, .int a1] (v.toList ++ []) M' Q)) : wp 69 0 [.ref k, .int a1] [] (hs t, F, G) Q := by
  refine wp_N (j' := 69) (pc' := 4) (L' := [.ref k, .int a1]) (S' := [.int a1, .int (18 : Int32), .ref k]) (M' := (hs t, F, G)) 2 (fun _ => rfl) ?_
  refine wp_CV (as := [.int (18 : Int32), .int a1]) (S := []) rfl hk.1 rfl rfl rfl (Nat.le_of_ble_eq_true rfl) rfl ⟨rfl, rfl⟩ rfl h
theorem rg69_7 {t : Nat} {F : ip_F} {G : ip_G} {Q : Option Value → ip_M → Prop} {k : Nat} {a1 as0 : Int32} (hk : ok7 t k) (h : Q (some (.int as0)) (hs t, F, G)) : wp 69 7 [.ref k, .int a1] [.int as0] (hs t, F, G) Q := by
  exact wp_RI rfl rfl h
theorem rg70_0 {t : Nat} {F : ip_F} {G : ip_G} {Q : Option Value → ip_M → Prop} {k : Nat} (hk : ok7 t k) (h : Q (some (.int (F (k + 1) 24))) (hs t, F, G)) : wp 70 0 [.ref k] [] (hs t, F, G) Q := by
  refine wp_N (j' := 70) (pc' := 1) (L' := [.ref k]) (S' := [.ref k]) (M' := (hs t, F, G)) 0 (fun _ => rfl) ?_
  refine wp_getR (r := (k + 1)) rfl hk.1 rfl rfl rfl (hs_lt hk.2) (by decide) ?_
  refine wp_N (j' := 70) (pc' := 6) (L' := [.ref k]) (S' := [.int (24 : Int32), .ref (k + 1)]) (M' := (hs t, F, G)) 0 (fun _ => rfl) ?_
  refine wp_ial (m := 24) rfl hk.2 rfl (vp_d rfl) ?_
  exact wp_RI rfl rfl h
theorem rg71_0 {t : Nat} {F : ip_F} {G : ip_G} {Q : Option Value → ip_M → Prop} {k : Nat} {a1 : Int32} (hk : ok7 t k) (h : wp 64 0 [.ref k, .int (0 : Int32), .int a1] [] (hs t, F, G) (fun v M' => wp 71 6 [.ref k, .int a1] (v.toList ++ []) M' Q)) : wp 71 0 [.ref k, .int a1] [] (hs t, F, G) Q := by
  refine wp_N (j' := 71) (pc' := 3) (L' := [.ref k, .int a1]) (S' := [.int a1, .int (0 : Int32), .ref k]) (M' := (hs t, F, G)) 2 (fun _ => rfl) ?_
  refine wp_CV (as := [.int (0 : Int32), .int a1]) (S := []) rfl hk.1 rfl rfl rfl (Nat.le_of_ble_eq_true rfl) rfl ⟨rfl, rfl⟩ rfl h
theorem rg71_6 {t : Nat} {F : ip_F} {G : ip_G} {Q : Option Value → ip_M → Prop} {k : Nat} {a1 as0 : Int32} (hk : ok7 t k) (h : (as0 = (-1 : Int32) → Q (some (.int (0 : Int32))) (hs t, F, G)) ∧ (¬ as0 = (-1 : Int32) → Q (some (.int (1 : Int32))) (hs t, F, G))) : wp 71 6 [.ref k, .int a1] [.int as0] (hs t, F, G) Q := by
  refine wp_N (j' := 71) (pc' := 7) (L' := [.ref k, .int a1]) (S' := [.int (-1 : Int32), .int as0]) (M' := (hs t, F, G)) 0 (fun _ => rfl) ?_
  refine wp_icmp (pc1 := 14) (c := .eq) rfl (fun hc => ?_) (fun hc => ?_)
  · replace h := h.1 hc
    refine wp_N (j' := 71) (pc' := 15) (L' := [.ref k, .int a1]) (S' := [.int (0 : Int32)]) (M' := (hs t, F, G)) 0 (fun _ => rfl) ?_
    exact wp_RZ rfl rfl (by decide) h
  · replace h := h.2 hc
    refine wp_N (j' := 71) (pc' := 15) (L' := [.ref k, .int a1]) (S' := [.int (1 : Int32)]) (M' := (hs t, F, G)) 1 (fun _ => rfl) ?_
    exact wp_RZ rfl rfl (by decide) h
theorem rg72_0 {t : Nat} {F : ip_F} {G : ip_G} {Q : Option Value → ip_M → Prop} {k : Nat} {a1 a2 a3 : Int32} (hk : ok7 t k) (h : wp 65 0 [.ref k, .int (0 : Int32), .int a1, .int a2] [] (hs t, F, G) (fun v M' => wp 72 7 [.ref k, .int a1, .int a2, .int a3] (v.toList ++ []) M' Q)) : wp 72 0 [.ref k, .int a1, .int a2, .int a3] [] (hs t, F, G) Q := by
  refine wp_N (j' := 72) (pc' := 4) (L' := [.ref k, .int a1, .int a2, .int a3]) (S' := [.int a2, .int a1, .int (0 : Int32), .ref k]) (M' := (hs t, F, G)) 3 (fun _ => rfl) ?_
  refine wp_CV (as := [.int (0 : Int32), .int a1, .int a2]) (S := []) rfl hk.1 rfl rfl rfl (Nat.le_of_ble_eq_true rfl) rfl ⟨rfl, rfl⟩ rfl h
theorem rg72_7 {t : Nat} {F : ip_F} {G : ip_G} {Q : Option Value → ip_M → Prop} {k : Nat} {a1 a2 a3 : Int32} (hk : ok7 t k) (h : wp 65 0 [.ref k, .int (6 : Int32), .int a1, .int a3] [] (hs t, F, G) (fun v M' => wp 72 15 [.ref k, .int a1, .int a2, .int a3] (v.toList ++ []) M' Q)) : wp 72 7 [.ref k, .int a1, .int a2, .int a3] [] (hs t, F, G) Q := by
  refine wp_N (j' := 72) (pc' := 12) (L' := [.ref k, .int a1, .int a2, .int a3]) (S' := [.int a3, .int a1, .int (6 : Int32), .ref k]) (M' := (hs t, F, G)) 3 (fun _ => rfl) ?_
  refine wp_CV (as := [.int (6 : Int32), .int a1, .int a3]) (S := []) rfl hk.1 rfl rfl rfl (Nat.le_of_ble_eq_true rfl) rfl ⟨rfl, rfl⟩ rfl h
theorem rg72_15 {t : Nat} {F : ip_F} {G : ip_G} {Q : Option Value → ip_M → Prop} {k : Nat} {a1 a2 a3 : Int32} (hk : ok7 t k) (h : Q none (hs t, F, G)) : wp 72 15 [.ref k, .int a1, .int a2, .int a3] [] (hs t, F, G) Q := by
  exact wp_RV rfl rfl h
theorem rg73_0 {t : Nat} {F : ip_F} {G : ip_G} {Q : Option Value → ip_M → Prop} {k : Nat} {a1 : Int32} (hk : ok7 t k) (h : wp 72 0 [.ref k, .int a1, .int (-1 : Int32), .int (-1 : Int32)] [] (hs t, F, G) (fun v M' => wp 73 7 [.ref k, .int a1] (v.toList ++ []) M' Q)) : wp 73 0 [.ref k, .int a1] [] (hs t, F, G) Q := by
  refine wp_N (j' := 73) (pc' := 4) (L' := [.ref k, .int a1]) (S' := [.int (-1 : Int32), .int (-1 : Int32), .int a1, .ref k]) (M' := (hs t, F, G)) 3 (fun _ => rfl) ?_
  refine wp_CV (as := [.int a1, .int (-1 : Int32), .int (-1 : Int32)]) (S := []) rfl hk.1 rfl rfl rfl (Nat.le_of_ble_eq_true rfl) rfl ⟨rfl, rfl⟩ rfl h
theorem rg73_7 {t : Nat} {F : ip_F} {G : ip_G} {Q : Option Value → ip_M → Prop} {k : Nat} {a1 : Int32} (hk : ok7 t k) (h : Q none (hs t, F, G)) : wp 73 7 [.ref k, .int a1] [] (hs t, F, G) Q := by
  exact wp_RV rfl rfl h
theorem rg74_0 {t : Nat} {F : ip_F} {G : ip_G} {Q : Option Value → ip_M → Prop} {k : Nat} {a1 a2 a3 : Int32} (hk : ok7 t k) (h : wp 65 0 [.ref k, .int (12 : Int32), .int a1, .int a2] [] (hs t, F, G) (fun v M' => wp 74 8 [.ref k, .int a1, .int a2, .int a3] (v.toList ++ []) M' Q)) : wp 74 0 [.ref k, .int a1, .int a2, .int a3] [] (hs t, F, G) Q := by
  refine wp_N (j' := 74) (pc' := 5) (L' := [.ref k, .int a1, .int a2, .int a3]) (S' := [.int a2, .int a1, .int (12 : Int32), .ref k]) (M' := (hs t, F, G)) 3 (fun _ => rfl) ?_
  refine wp_CV (as := [.int (12 : Int32), .int a1, .int a2]) (S := []) rfl hk.1 rfl rfl rfl (Nat.le_of_ble_eq_true rfl) rfl ⟨rfl, rfl⟩ rfl h
theorem rg74_8 {t : Nat} {F : ip_F} {G : ip_G} {Q : Option Value → ip_M → Prop} {k : Nat} {a1 a2 a3 : Int32} (hk : ok7 t k) (h : wp 65 0 [.ref k, .int (18 : Int32), .int a1, .int a3] [] (hs t, F, G) (fun v M' => wp 74 16 [.ref k, .int a1, .int a2, .int a3] (v.toList ++ []) M' Q)) : wp 74 8 [.ref k, .int a1, .int a2, .int a3] [] (hs t, F, G) Q := by
  refine wp_N (j' := 74) (pc' := 13) (L' := [.ref k, .int a1, .int a2, .int a3]) (S' := [.int a3, .int a1, .int (18 : Int32), .ref k]) (M' := (hs t, F, G)) 3 (fun _ => rfl) ?_
  refine wp_CV (as := [.int (18 : Int32), .int a1, .int a3]) (S := []) rfl hk.1 rfl rfl rfl (Nat.le_of_ble_eq_true rfl) rfl ⟨rfl, rfl⟩ rfl h
theorem rg74_16 {t : Nat} {F : ip_F} {G : ip_G} {Q : Option Value → ip_M → Prop} {k : Nat} {a1 a2 a3 : Int32} (hk : ok7 t k) (h : Q none (hs t, F, G)) : wp 74 16 [.ref k, .int a1, .int a2, .int a3] [] (hs t, F, G) Q := by
  exact wp_RV rfl rfl h
theorem rg75_0 {t : Nat} {F : ip_F} {G : ip_G} {Q : Option Value → ip_M → Prop} {k : Nat} (hk : ok7 t k) (h : wp 75 14 [.ref k, .int (18 : Int32)] [] (hs t, (ip_u F (k + 1) 24 ((F (k + 1) 24) + (1 : Int32))), G) Q) : wp 75 0 [.ref k, .float 0] [] (hs t, F, G) Q := by
  refine wp_N (j' := 75) (pc' := 1) (L' := [.ref k, .float 0]) (S' := [.ref k]) (M' := (hs t, F, G)) 0 (fun _ => rfl) ?_
  refine wp_getR (r := (k + 1)) rfl hk.1 rfl rfl rfl (hs_lt hk.2) (by decide) ?_
  refine wp_N (j' := 75) (pc' := 7) (L' := [.ref k, .float 0]) (S' := [.int (24 : Int32), .ref (k + 1), .int (24 : Int32), .ref (k + 1)]) (M' := (hs t, F, G)) 1 (fun _ => rfl) ?_
  refine wp_ial (m := 24) rfl hk.2 rfl (vp_d rfl) ?_
  refine wp_N (j' := 75) (pc' := 10) (L' := [.ref k, .float 0]) (S' := [.int ((F (k + 1) 24) + (1 : Int32)), .int (24 : Int32), .ref (k + 1)]) (M' := (hs t, F, G)) 1 (fun _ => rfl) ?_
  refine wp_ias (m := 24) rfl hk.2 rfl (vp_d rfl) ?_
  refine wp_N (j' := 75) (pc' := 14) (L' := [.ref k, .int (18 : Int32)]) (S' := []) (M' := (hs t, (ip_u F (k + 1) 24 ((F (k + 1) 24) + (1 : Int32))), G)) 1 (fun _ => rfl) ?_
  exact h
theorem rg75_14 {t : Nat} {F : ip_F} {G : ip_G} {Q : Option Value → ip_M → Prop} {k : Nat} {a1 : Int32} (hk : ok7 t k) (h : ((24 : Int32) ≤ a1 → Q none (hs t, F, G)) ∧ (a1 < (24 : Int32) → (vp_in a1 25) ∧ ((vp_in a1 25) ∧ (wp 75 14 [.ref k, .int (a1 + (1 : Int32))] [] (hs t, (ip_u F (k + 1) (a1).toNatClampNeg (if (99 : Int32) < ((F (k + 1) (a1).toNatClampNeg) + (1 : Int32)) then (99 : Int32) else ((F (k + 1) (a1).toNatClampNeg) + (1 : Int32)))), G) Q)))) : wp 75 14 [.ref k, .int a1] [] (hs t, F, G) Q := by
  refine wp_N (j' := 75) (pc' := 17) (L' := [.ref k, .int a1]) (S' := [.int (24 : Int32), .int a1]) (M' := (hs t, F, G)) 1 (fun _ => rfl) ?_
  refine wp_icmp (pc1 := 45) (c := .ge) rfl (fun hc => ?_) (fun hc => ?_)
  · replace h := h.1 hc
    exact wp_RV rfl rfl h
  · replace h := h.2 (Int32.not_le.mp hc)
    refine wp_N (j' := 75) (pc' := 21) (L' := [.ref k, .int a1]) (S' := [.ref k]) (M' := (hs t, F, G)) 0 (fun _ => rfl) ?_
    refine wp_getR (r := (k + 1)) rfl hk.1 rfl rfl rfl (hs_lt hk.2) (by decide) ?_
    refine wp_N (j' := 75) (pc' := 26) (L' := [.ref k, .int a1]) (S' := [.ref k, .int a1, .ref (k + 1)]) (M' := (hs t, F, G)) 1 (fun _ => rfl) ?_
    refine wp_getR (r := (k + 1)) rfl hk.1 rfl rfl rfl (hs_lt hk.2) (by decide) ?_
    refine wp_N (j' := 75) (pc' := 30) (L' := [.ref k, .int a1]) (S' := [.int a1, .ref (k + 1), .int a1, .ref (k + 1)]) (M' := (hs t, F, G)) 0 (fun _ => rfl) ?_
    obtain ⟨h1_, h⟩ := h
    refine wp_ial (m := (a1).toNatClampNeg) rfl hk.2 rfl h1_ ?_
    refine wp_N (j' := 75) (pc' := 38) (L' := [.ref k, .int a1]) (S' := [.int (if (99 : Int32) < ((F (k + 1) (a1).toNatClampNeg) + (1 : Int32)) then (99 : Int32) else ((F (k + 1) (a1).toNatClampNeg) + (1 : Int32))), .int a1, .ref (k + 1)]) (M' := (hs t, F, G)) 3 (fun _ => rfl) ?_
    obtain ⟨h2_, h⟩ := h
    refine wp_ias (m := (a1).toNatClampNeg) rfl hk.2 rfl h2_ ?_
    refine wp_N (j' := 75) (pc' := 14) (L' := [.ref k, .int (a1 + (1 : Int32))]) (S' := []) (M' := (hs t, (ip_u F (k + 1) (a1).toNatClampNeg (if (99 : Int32) < ((F (k + 1) (a1).toNatClampNeg) + (1 : Int32)) then (99 : Int32) else ((F (k + 1) (a1).toNatClampNeg) + (1 : Int32)))), G)) 1 (fun _ => rfl) ?_
    exact h
theorem rg76_0 {t : Nat} {F : ip_F} {G : ip_G} {Q : Option Value → ip_M → Prop} {k : Nat} {a1 : Int32} (hk : ok7 t k) (h : wp 76 2 [.ref k, .int a1, .int (0 : Int32)] [] (hs t, F, G) Q) : wp 76 0 [.ref k, .int a1, .float 0] [] (hs t, F, G) Q := by
  refine wp_N (j' := 76) (pc' := 2) (L' := [.ref k, .int a1, .int (0 : Int32)]) (S' := []) (M' := (hs t, F, G)) 1 (fun _ => rfl) ?_
  exact h
theorem rg76_2 {t : Nat} {F : ip_F} {G : ip_G} {Q : Option Value → ip_M → Prop} {k : Nat} {a1 a2 : Int32} (hk : ok7 t k) (h : (a1 ≤ a2 → Q none (hs t, F, G)) ∧ (a2 < a1 → wp 70 0 [.ref k] [] (hs t, F, G) (fun v M' => wp 76 11 [.ref k, .int a1, .int a2] (v.toList ++ []) M' Q))) : wp 76 2 [.ref k, .int a1, .int a2] [] (hs t, F, G) Q := by
  refine wp_N (j' := 76) (pc' := 4) (L' := [.ref k, .int a1, .int a2]) (S' := [.int a1, .int a2]) (M' := (hs t, F, G)) 1 (fun _ => rfl) ?_
  refine wp_icmp (pc1 := 27) (c := .ge) rfl (fun hc => ?_) (fun hc => ?_)
  · replace h := h.1 hc
    exact wp_RV rfl rfl h
  · replace h := h.2 (Int32.not_le.mp hc)
    refine wp_N (j' := 76) (pc' := 8) (L' := [.ref k, .int a1, .int a2]) (S' := [.ref k]) (M' := (hs t, F, G)) 0 (fun _ => rfl) ?_
    refine wp_CV (as := []) (S := []) rfl hk.1 rfl rfl rfl (Nat.le_of_ble_eq_true rfl) rfl ⟨rfl, rfl⟩ rfl h
theorem rg76_11 {t : Nat} {F : ip_F} {G : ip_G} {Q : Option Value → ip_M → Prop} {k : Nat} {a1 a2 as0 : Int32} (hk : ok7 t k) (h : ((999 : Int32) ≤ as0 → Q none (hs t, F, G)) ∧ (as0 < (999 : Int32) → wp 75 0 [.ref k, .float 0] [] (hs t, F, G) (fun v M' => wp 76 21 [.ref k, .int a1, .int a2] (v.toList ++ []) M' Q))) : wp 76 11 [.ref k, .int a1, .int a2] [.int as0] (hs t, F, G) Q := by
  refine wp_N (j' := 76) (pc' := 14) (L' := [.ref k, .int a1, .int a2]) (S' := [.int (999 : Int32), .int as0]) (M' := (hs t, F, G)) 0 (fun _ => rfl) ?_
  refine wp_icmp (pc1 := 27) (c := .ge) rfl (fun hc => ?_) (fun hc => ?_)
  · replace h := h.1 hc
    exact wp_RV rfl rfl h
  · replace h := h.2 (Int32.not_le.mp hc)
    refine wp_N (j' := 76) (pc' := 18) (L' := [.ref k, .int a1, .int a2]) (S' := [.ref k]) (M' := (hs t, F, G)) 0 (fun _ => rfl) ?_
    refine wp_CV (as := []) (S := []) rfl hk.1 rfl rfl rfl (Nat.le_of_ble_eq_true rfl) rfl ⟨rfl, rfl⟩ rfl h
theorem rg76_21 {t : Nat} {F : ip_F} {G : ip_G} {Q : Option Value → ip_M → Prop} {k : Nat} {a1 a2 : Int32} (hk : ok7 t k) (h : wp 76 2 [.ref k, .int a1, .int (a2 + (1 : Int32))] [] (hs t, F, G) Q) : wp 76 21 [.ref k, .int a1, .int a2] [] (hs t, F, G) Q := by
  refine wp_N (j' := 76) (pc' := 2) (L' := [.ref k, .int a1, .int (a2 + (1 : Int32))]) (S' := []) (M' := (hs t, F, G)) 1 (fun _ => rfl) ?_
  exact h
theorem rg77_0 {t : Nat} {F : ip_F} {G : ip_G} {Q : Option Value → ip_M → Prop} {k : Nat} {a1 : Int32} (hk : ok7 t k) (h : wp 71 0 [.ref k, .int a1] [] (hs t, F, G) (fun v M' => wp 77 5 [.ref k, .int a1] (v.toList ++ []) M' Q)) : wp 77 0 [.ref k, .int a1] [] (hs t, F, G) Q := by
  refine wp_N (j' := 77) (pc' := 2) (L' := [.ref k, .int a1]) (S' := [.int a1, .ref k]) (M' := (hs t, F, G)) 1 (fun _ => rfl) ?_
  refine wp_CV (as := [.int a1]) (S := []) rfl hk.1 rfl rfl rfl (Nat.le_of_ble_eq_true rfl) rfl ⟨rfl, rfl⟩ rfl h
theorem rg77_5 {t : Nat} {F : ip_F} {G : ip_G} {Q : Option Value → ip_M → Prop} {k : Nat} {a1 as0 : Int32} (hk : ok7 t k) (h : (as0 = (0 : Int32) → Q (some (.int (0 : Int32))) (hs t, F, G)) ∧ (¬ as0 = (0 : Int32) → wp 68 0 [.ref k, .int a1] [] (hs t, F, G) (fun v M' => wp 77 13 [.ref k, .int a1] (v.toList ++ []) M' Q))) : wp 77 5 [.ref k, .int a1] [.int as0] (hs t, F, G) Q := by
  refine wp_ifc (pc1 := 32) (c := .eq) rfl (fun hc => ?_) (fun hc => ?_)
  · replace h := h.1 hc
    refine wp_N (j' := 77) (pc' := 33) (L' := [.ref k, .int a1]) (S' := [.int (0 : Int32)]) (M' := (hs t, F, G)) 0 (fun _ => rfl) ?_
    exact wp_RZ rfl rfl (by decide) h
  · replace h := h.2 hc
    refine wp_N (j' := 77) (pc' := 10) (L' := [.ref k, .int a1]) (S' := [.int a1, .ref k]) (M' := (hs t, F, G)) 1 (fun _ => rfl) ?_
    refine wp_CV (as := [.int a1]) (S := []) rfl hk.1 rfl rfl rfl (Nat.le_of_ble_eq_true rfl) rfl ⟨rfl, rfl⟩ rfl h
theorem rg77_13 {t : Nat} {F : ip_F} {G : ip_G} {Q : Option Value → ip_M → Prop} {k : Nat} {a1 as0 : Int32} (hk : ok7 t k) (h : wp 69 0 [.ref k, .int a1] [] (hs t, F, G) (fun v M' => wp 77 18 [.ref k, .int a1] (v.toList ++ [.int as0]) M' Q)) : wp 77 13 [.ref k, .int a1] [.int as0] (hs t, F, G) Q := by
  refine wp_N (j' := 77) (pc' := 15) (L' := [.ref k, .int a1]) (S' := [.int a1, .ref k, .int as0]) (M' := (hs t, F, G)) 1 (fun _ => rfl) ?_
  refine wp_CV (as := [.int a1]) (S := [.int as0]) rfl hk.1 rfl rfl rfl (Nat.le_of_ble_eq_true rfl) rfl ⟨rfl, rfl⟩ rfl h
theorem rg77_18 {t : Nat} {F : ip_F} {G : ip_G} {Q : Option Value → ip_M → Prop} {k : Nat} {a1 as0 as1 : Int32} (hk : ok7 t k) (h : wp 70 0 [.ref k] [] (hs t, F, G) (fun v M' => wp 77 22 [.ref k, .int a1] (v.toList ++ [.int as1, .int as0]) M' Q)) : wp 77 18 [.ref k, .int a1] [.int as1, .int as0] (hs t, F, G) Q := by
  refine wp_N (j' := 77) (pc' := 19) (L' := [.ref k, .int a1]) (S' := [.ref k, .int as1, .int as0]) (M' := (hs t, F, G)) 0 (fun _ => rfl) ?_
  refine wp_CV (as := []) (S := [.int as1, .int as0]) rfl hk.1 rfl rfl rfl (Nat.le_of_ble_eq_true rfl) rfl ⟨rfl, rfl⟩ rfl h
theorem rg77_22 {t : Nat} {F : ip_F} {G : ip_G} {Q : Option Value → ip_M → Prop} {k : Nat} {a1 as0 as1 as2 : Int32} (hk : ok7 t k) (h : wp 51 0 [.int as0, .int as1, .int as2, .float 0, .float 0] [] (hs t, F, G) (fun v M' => wp 77 25 [.ref k, .int a1] (v.toList ++ []) M' Q)) : wp 77 22 [.ref k, .int a1] [.int as2, .int as1, .int as0] (hs t, F, G) Q := by
  refine wp_C (i := 51) (pc' := 25) (Li := [.int as0, .int as1, .int as2, .float 0, .float 0]) (rest := []) (fun _ => rfl) h
theorem rg77_25 {t : Nat} {F : ip_F} {G : ip_G} {Q : Option Value → ip_M → Prop} {k : Nat} {a1 as0 : Int32} (hk : ok7 t k) (h : (as0 = (0 : Int32) → Q (some (.int (0 : Int32))) (hs t, F, G)) ∧ (¬ as0 = (0 : Int32) → Q (some (.int (1 : Int32))) (hs t, F, G))) : wp 77 25 [.ref k, .int a1] [.int as0] (hs t, F, G) Q := by
  refine wp_ifc (pc1 := 32) (c := .eq) rfl (fun hc => ?_) (fun hc => ?_)
  · replace h := h.1 hc
    refine wp_N (j' := 77) (pc' := 33) (L' := [.ref k, .int a1]) (S' := [.int (0 : Int32)]) (M' := (hs t, F, G)) 0 (fun _ => rfl) ?_
    exact wp_RZ rfl rfl (by decide) h
  · replace h := h.2 hc
    refine wp_N (j' := 77) (pc' := 33) (L' := [.ref k, .int a1]) (S' := [.int (1 : Int32)]) (M' := (hs t, F, G)) 1 (fun _ => rfl) ?_
    exact wp_RZ rfl rfl (by decide) h
theorem rg78_0 {t : Nat} {F : ip_F} {G : ip_G} {Q : Option Value → ip_M → Prop} {k : Nat} (hk : ok7 t k) (h : wp 78 4 [.ref k, .int (0 : Int32), .int (0 : Int32)] [] (hs t, F, G) Q) : wp 78 0 [.ref k, .float 0, .float 0] [] (hs t, F, G) Q := by
  refine wp_N (j' := 78) (pc' := 4) (L' := [.ref k, .int (0 : Int32), .int (0 : Int32)]) (S' := []) (M' := (hs t, F, G)) 3 (fun _ => rfl) ?_
  exact h
theorem rg78_4 {t : Nat} {F : ip_F} {G : ip_G} {Q : Option Value → ip_M → Prop} {k : Nat} {a1 a2 : Int32} (hk : ok7 t k) (h : ((6 : Int32) ≤ a2 → Q (some (.int a1)) (hs t, F, G)) ∧ (a2 < (6 : Int32) → wp 71 0 [.ref k, .int a2] [] (hs t, F, G) (fun v M' => wp 78 16 [.ref k, .int a1, .int a2] (v.toList ++ [.int a1]) M' Q))) : wp 78 4 [.ref k, .int a1, .int a2] [] (hs t, F, G) Q := by
  refine wp_N (j' := 78) (pc' := 7) (L' := [.ref k, .int a1, .int a2]) (S' := [.int (6 : Int32), .int a2]) (M' := (hs t, F, G)) 1 (fun _ => rfl) ?_
  refine wp_icmp (pc1 := 34) (c := .ge) rfl (fun hc => ?_) (fun hc => ?_)
  · replace h := h.1 hc
    refine wp_N (j' := 78) (pc' := 35) (L' := [.ref k, .int a1, .int a2]) (S' := [.int a1]) (M' := (hs t, F, G)) 0 (fun _ => rfl) ?_
    exact wp_RI rfl rfl h
  · replace h := h.2 (Int32.not_le.mp hc)
    refine wp_N (j' := 78) (pc' := 13) (L' := [.ref k, .int a1, .int a2]) (S' := [.int a2, .ref k, .int a1]) (M' := (hs t, F, G)) 2 (fun _ => rfl) ?_
    refine wp_CV (as := [.int a2]) (S := [.int a1]) rfl hk.1 rfl rfl rfl (Nat.le_of_ble_eq_true rfl) rfl ⟨rfl, rfl⟩ rfl h
theorem rg78_16 {t : Nat} {F : ip_F} {G : ip_G} {Q : Option Value → ip_M → Prop} {k : Nat} {a1 a2 as0 as1 : Int32} (hk : ok7 t k) (h : (as1 = (0 : Int32) → wp 78 26 [.ref k, .int a1, .int a2] [.int (0 : Int32), .int as0] (hs t, F, G) Q) ∧ (¬ as1 = (0 : Int32) → wp 78 26 [.ref k, .int a1, .int a2] [.int ((1 : Int32) <<< (a2 &&& 31)), .int as0] (hs t, F, G) Q)) : wp 78 16 [.ref k, .int a1, .int a2] [.int as1, .int as0] (hs t, F, G) Q := by
  refine wp_ifc (pc1 := 25) (c := .eq) rfl (fun hc => ?_) (fun hc => ?_)
  · replace h := h.1 hc
    refine wp_N (j' := 78) (pc' := 26) (L' := [.ref k, .int a1, .int a2]) (S' := [.int (0 : Int32), .int as0]) (M' := (hs t, F, G)) 0 (fun _ => rfl) ?_
    exact h
  · replace h := h.2 hc
    refine wp_N (j' := 78) (pc' := 26) (L' := [.ref k, .int a1, .int a2]) (S' := [.int ((1 : Int32) <<< (a2 &&& 31)), .int as0]) (M' := (hs t, F, G)) 3 (fun _ => rfl) ?_
    exact h
theorem rg78_26 {t : Nat} {F : ip_F} {G : ip_G} {Q : Option Value → ip_M → Prop} {k : Nat} {a1 a2 as0 as1 : Int32} (hk : ok7 t k) (h : wp 78 4 [.ref k, .int (as0 ||| as1), .int (a2 + (1 : Int32))] [] (hs t, F, G) Q) : wp 78 26 [.ref k, .int a1, .int a2] [.int as1, .int as0] (hs t, F, G) Q := by
  refine wp_N (j' := 78) (pc' := 4) (L' := [.ref k, .int (as0 ||| as1), .int (a2 + (1 : Int32))]) (S' := []) (M' := (hs t, F, G)) 3 (fun _ => rfl) ?_
  exact h
theorem rg79_0 {t : Nat} {F : ip_F} {G : ip_G} {Q : Option Value → ip_M → Prop} {k : Nat} (hk : ok7 t k) (h : wp 79 4 [.ref k, .int (0 : Int32), .int (0 : Int32)] [] (hs t, F, G) Q) : wp 79 0 [.ref k, .float 0, .float 0] [] (hs t, F, G) Q := by
  refine wp_N (j' := 79) (pc' := 4) (L' := [.ref k, .int (0 : Int32), .int (0 : Int32)]) (S' := []) (M' := (hs t, F, G)) 3 (fun _ => rfl) ?_
  exact h
theorem rg79_4 {t : Nat} {F : ip_F} {G : ip_G} {Q : Option Value → ip_M → Prop} {k : Nat} {a1 a2 : Int32} (hk : ok7 t k) (h : ((6 : Int32) ≤ a2 → Q (some (.int a1)) (hs t, F, G)) ∧ (a2 < (6 : Int32) → wp 77 0 [.ref k, .int a2] [] (hs t, F, G) (fun v M' => wp 79 16 [.ref k, .int a1, .int a2] (v.toList ++ [.int a1]) M' Q))) : wp 79 4 [.ref k, .int a1, .int a2] [] (hs t, F, G) Q := by
  refine wp_N (j' := 79) (pc' := 7) (L' := [.ref k, .int a1, .int a2]) (S' := [.int (6 : Int32), .int a2]) (M' := (hs t, F, G)) 1 (fun _ => rfl) ?_
  refine wp_icmp (pc1 := 34) (c := .ge) rfl (fun hc => ?_) (fun hc => ?_)
  · replace h := h.1 hc
    refine wp_N (j' := 79) (pc' := 35) (L' := [.ref k, .int a1, .int a2]) (S' := [.int a1]) (M' := (hs t, F, G)) 0 (fun _ => rfl) ?_
    exact wp_RI rfl rfl h
  · replace h := h.2 (Int32.not_le.mp hc)
    refine wp_N (j' := 79) (pc' := 13) (L' := [.ref k, .int a1, .int a2]) (S' := [.int a2, .ref k, .int a1]) (M' := (hs t, F, G)) 2 (fun _ => rfl) ?_
    refine wp_CV (as := [.int a2]) (S := [.int a1]) rfl hk.1 rfl rfl rfl (Nat.le_of_ble_eq_true rfl) rfl ⟨rfl, rfl⟩ rfl h
theorem rg79_16 {t : Nat} {F : ip_F} {G : ip_G} {Q : Option Value → ip_M → Prop} {k : Nat} {a1 a2 as0 as1 : Int32} (hk : ok7 t k) (h : (as1 = (0 : Int32) → wp 79 26 [.ref k, .int a1, .int a2] [.int (0 : Int32), .int as0] (hs t, F, G) Q) ∧ (¬ as1 = (0 : Int32) → wp 79 26 [.ref k, .int a1, .int a2] [.int ((1 : Int32) <<< (a2 &&& 31)), .int as0] (hs t, F, G) Q)) : wp 79 16 [.ref k, .int a1, .int a2] [.int as1, .int as0] (hs t, F, G) Q := by
  refine wp_ifc (pc1 := 25) (c := .eq) rfl (fun hc => ?_) (fun hc => ?_)
  · replace h := h.1 hc
    refine wp_N (j' := 79) (pc' := 26) (L' := [.ref k, .int a1, .int a2]) (S' := [.int (0 : Int32), .int as0]) (M' := (hs t, F, G)) 0 (fun _ => rfl) ?_
    exact h
  · replace h := h.2 hc
    refine wp_N (j' := 79) (pc' := 26) (L' := [.ref k, .int a1, .int a2]) (S' := [.int ((1 : Int32) <<< (a2 &&& 31)), .int as0]) (M' := (hs t, F, G)) 3 (fun _ => rfl) ?_
    exact h
theorem rg79_26 {t : Nat} {F : ip_F} {G : ip_G} {Q : Option Value → ip_M → Prop} {k : Nat} {a1 a2 as0 as1 : Int32} (hk : ok7 t k) (h : wp 79 4 [.ref k, .int (as0 ||| as1), .int (a2 + (1 : Int32))] [] (hs t, F, G) Q) : wp 79 26 [.ref k, .int a1, .int a2] [.int as1, .int as0] (hs t, F, G) Q := by
  refine wp_N (j' := 79) (pc' := 4) (L' := [.ref k, .int (as0 ||| as1), .int (a2 + (1 : Int32))]) (S' := []) (M' := (hs t, F, G)) 3 (fun _ => rfl) ?_
  exact h
theorem rg80_0 {t : Nat} {F : ip_F} {G : ip_G} {Q : Option Value → ip_M → Prop} {k : Nat} {a1 : Int32} (hk : ok7 t k) (h : wp 80 4 [.ref k, .int a1, .int (0 : Int32), .int (0 : Int32)] [] (hs t, F, G) Q) : wp 80 0 [.ref k, .int a1, .float 0, .float 0] [] (hs t, F, G) Q := by
  refine wp_N (j' := 80) (pc' := 4) (L' := [.ref k, .int a1, .int (0 : Int32), .int (0 : Int32)]) (S' := []) (M' := (hs t, F, G)) 3 (fun _ => rfl) ?_
  exact h
theorem rg80_4 {t : Nat} {F : ip_F} {G : ip_G} {Q : Option Value → ip_M → Prop} {k : Nat} {a1 a2 a3 : Int32} (hk : ok7 t k) (h : ((6 : Int32) ≤ a3 → Q (some (.int a2)) (hs t, F, G)) ∧ (a3 < (6 : Int32) → wp 77 0 [.ref k, .int a3] [] (hs t, F, G) (fun v M' => wp 80 16 [.ref k, .int a1, .int a2, .int a3] (v.toList ++ [.int a2]) M' Q))) : wp 80 4 [.ref k, .int a1, .int a2, .int a3] [] (hs t, F, G) Q := by
  refine wp_N (j' := 80) (pc' := 7) (L' := [.ref k, .int a1, .int a2, .int a3]) (S' := [.int (6 : Int32), .int a3]) (M' := (hs t, F, G)) 1 (fun _ => rfl) ?_
  refine wp_icmp (pc1 := 41) (c := .ge) rfl (fun hc => ?_) (fun hc => ?_)
  · replace h := h.1 hc
    refine wp_N (j' := 80) (pc' := 42) (L' := [.ref k, .int a1, .int a2, .int a3]) (S' := [.int a2]) (M' := (hs t, F, G)) 0 (fun _ => rfl) ?_
    exact wp_RI rfl rfl h
  · replace h := h.2 (Int32.not_le.mp hc)
    refine wp_N (j' := 80) (pc' := 13) (L' := [.ref k, .int a1, .int a2, .int a3]) (S' := [.int a3, .ref k, .int a2]) (M' := (hs t, F, G)) 2 (fun _ => rfl) ?_
    refine wp_CV (as := [.int a3]) (S := [.int a2]) rfl hk.1 rfl rfl rfl (Nat.le_of_ble_eq_true rfl) rfl ⟨rfl, rfl⟩ rfl h
theorem rg80_16 {t : Nat} {F : ip_F} {G : ip_G} {Q : Option Value → ip_M → Prop} {k : Nat} {a1 a2 a3 as0 as1 : Int32} (hk : ok7 t k) (h : (as1 = (0 : Int32) → wp 80 33 [.ref k, .int a1, .int a2, .int a3] [.int (0 : Int32), .int as0] (hs t, F, G) Q) ∧ (¬ as1 = (0 : Int32) → wp 67 0 [.ref k, .int a3] [] (hs t, F, G) (fun v M' => wp 80 24 [.ref k, .int a1, .int a2, .int a3] (v.toList ++ [.int as0]) M' Q))) : wp 80 16 [.ref k, .int a1, .int a2, .int a3] [.int as1, .int as0] (hs t, F, G) Q := by
  refine wp_ifc (pc1 := 32) (c := .eq) rfl (fun hc => ?_) (fun hc => ?_)
  · replace h := h.1 hc
    refine wp_N (j' := 80) (pc' := 33) (L' := [.ref k, .int a1, .int a2, .int a3]) (S' := [.int (0 : Int32), .int as0]) (M' := (hs t, F, G)) 0 (fun _ => rfl) ?_
    exact h
  · replace h := h.2 hc
    refine wp_N (j' := 80) (pc' := 21) (L' := [.ref k, .int a1, .int a2, .int a3]) (S' := [.int a3, .ref k, .int as0]) (M' := (hs t, F, G)) 1 (fun _ => rfl) ?_
    refine wp_CV (as := [.int a3]) (S := [.int as0]) rfl hk.1 rfl rfl rfl (Nat.le_of_ble_eq_true rfl) rfl ⟨rfl, rfl⟩ rfl h
theorem rg80_24 {t : Nat} {F : ip_F} {G : ip_G} {Q : Option Value → ip_M → Prop} {k : Nat} {a1 a2 a3 as0 as1 : Int32} (hk : ok7 t k) (h : (¬ as1 = a1 → wp 80 33 [.ref k, .int a1, .int a2, .int a3] [.int (0 : Int32), .int as0] (hs t, F, G) Q) ∧ (as1 = a1 → wp 80 33 [.ref k, .int a1, .int a2, .int a3] [.int (1 : Int32), .int as0] (hs t, F, G) Q)) : wp 80 24 [.ref k, .int a1, .int a2, .int a3] [.int as1, .int as0] (hs t, F, G) Q := by
  refine wp_N (j' := 80) (pc' := 25) (L' := [.ref k, .int a1, .int a2, .int a3]) (S' := [.int a1, .int as1, .int as0]) (M' := (hs t, F, G)) 0 (fun _ => rfl) ?_
  refine wp_icmp (pc1 := 32) (c := .ne) rfl (fun hc => ?_) (fun hc => ?_)
  · replace h := h.1 hc
    refine wp_N (j' := 80) (pc' := 33) (L' := [.ref k, .int a1, .int a2, .int a3]) (S' := [.int (0 : Int32), .int as0]) (M' := (hs t, F, G)) 0 (fun _ => rfl) ?_
    exact h
  · replace h := h.2 (Decidable.not_not.mp hc)
    refine wp_N (j' := 80) (pc' := 33) (L' := [.ref k, .int a1, .int a2, .int a3]) (S' := [.int (1 : Int32), .int as0]) (M' := (hs t, F, G)) 1 (fun _ => rfl) ?_
    exact h
theorem rg80_33 {t : Nat} {F : ip_F} {G : ip_G} {Q : Option Value → ip_M → Prop} {k : Nat} {a1 a2 a3 as0 as1 : Int32} (hk : ok7 t k) (h : wp 80 4 [.ref k, .int a1, .int (as0 + as1), .int (a3 + (1 : Int32))] [] (hs t, F, G) Q) : wp 80 33 [.ref k, .int a1, .int a2, .int a3] [.int as1, .int as0] (hs t, F, G) Q := by
  refine wp_N (j' := 80) (pc' := 4) (L' := [.ref k, .int a1, .int (as0 + as1), .int (a3 + (1 : Int32))]) (S' := []) (M' := (hs t, F, G)) 3 (fun _ => rfl) ?_
  exact h
theorem rg81_0 {t : Nat} {F : ip_F} {G : ip_G} {Q : Option Value → ip_M → Prop} {k : Nat} (hk : ok7 t k) (h : wp 81 6 [.ref k, .int (0 : Int32), .int (0 : Int32), .int (1 : Int32), .float 0] [] (hs t, F, G) Q) : wp 81 0 [.ref k, .float 0, .float 0, .float 0, .float 0] [] (hs t, F, G) Q := by
  refine wp_N (j' := 81) (pc' := 6) (L' := [.ref k, .int (0 : Int32), .int (0 : Int32), .int (1 : Int32), .float 0]) (S' := []) (M' := (hs t, F, G)) 5 (fun _ => rfl) ?_
  exact h
theorem rg81_6 {t : Nat} {F : ip_F} {G : ip_G} {Q : Option Value → ip_M → Prop} {k : Nat} {a1 a2 a3 : Int32} {v4 : Value} (hk : ok7 t k) (h : ((12 : Int32) ≤ a3 → Q (some (.int a1)) (hs t, F, G)) ∧ (a3 < (12 : Int32) → wp 80 0 [.ref k, .int a3, .float 0, .float 0] [] (hs t, F, G) (fun v M' => wp 81 17 [.ref k, .int a1, .int a2, .int a3, v4] (v.toList ++ []) M' Q))) : wp 81 6 [.ref k, .int a1, .int a2, .int a3, v4] [] (hs t, F, G) Q := by
  refine wp_N (j' := 81) (pc' := 9) (L' := [.ref k, .int a1, .int a2, .int a3, v4]) (S' := [.int (12 : Int32), .int a3]) (M' := (hs t, F, G)) 1 (fun _ => rfl) ?_
  refine wp_icmp (pc1 := 36) (c := .ge) rfl (fun hc => ?_) (fun hc => ?_)
  · replace h := h.1 hc
    refine wp_N (j' := 81) (pc' := 37) (L' := [.ref k, .int a1, .int a2, .int a3, v4]) (S' := [.int a1]) (M' := (hs t, F, G)) 0 (fun _ => rfl) ?_
    exact wp_RI rfl rfl h
  · replace h := h.2 (Int32.not_le.mp hc)
    refine wp_N (j' := 81) (pc' := 14) (L' := [.ref k, .int a1, .int a2, .int a3, v4]) (S' := [.int a3, .ref k]) (M' := (hs t, F, G)) 1 (fun _ => rfl) ?_
    refine wp_CV (as := [.int a3]) (S := []) rfl hk.1 rfl rfl rfl (Nat.le_of_ble_eq_true rfl) rfl ⟨rfl, rfl⟩ rfl h
theorem rg81_17 {t : Nat} {F : ip_F} {G : ip_G} {Q : Option Value → ip_M → Prop} {k : Nat} {a1 a2 a3 as0 : Int32} {v4 : Value} (hk : ok7 t k) (h : (as0 ≤ a2 → wp 81 30 [.ref k, .int a1, .int a2, .int a3, .int as0] [] (hs t, F, G) Q) ∧ (a2 < as0 → wp 81 30 [.ref k, .int a3, .int as0, .int a3, .int as0] [] (hs t, F, G) Q)) : wp 81 17 [.ref k, .int a1, .int a2, .int a3, v4] [.int as0] (hs t, F, G) Q := by
  refine wp_N (j' := 81) (pc' := 22) (L' := [.ref k, .int a1, .int a2, .int a3, .int as0]) (S' := [.int a2, .int as0]) (M' := (hs t, F, G)) 2 (fun _ => rfl) ?_
  refine wp_icmp (pc1 := 30) (c := .le) rfl (fun hc => ?_) (fun hc => ?_)
  · replace h := h.1 hc
    exact h
  · replace h := h.2 (Int32.not_le.mp hc)
    refine wp_N (j' := 81) (pc' := 30) (L' := [.ref k, .int a3, .int as0, .int a3, .int as0]) (S' := []) (M' := (hs t, F, G)) 3 (fun _ => rfl) ?_
    exact h
theorem rg81_30 {t : Nat} {F : ip_F} {G : ip_G} {Q : Option Value → ip_M → Prop} {k : Nat} {a1 a2 a3 a4 : Int32} (hk : ok7 t k) (h : wp 81 6 [.ref k, .int a1, .int a2, .int (a3 + (1 : Int32)), .int a4] [] (hs t, F, G) Q) : wp 81 30 [.ref k, .int a1, .int a2, .int a3, .int a4] [] (hs t, F, G) Q := by
  refine wp_N (j' := 81) (pc' := 6) (L' := [.ref k, .int a1, .int a2, .int (a3 + (1 : Int32)), .int a4]) (S' := []) (M' := (hs t, F, G)) 1 (fun _ => rfl) ?_
  exact h
theorem rg82_0 {t : Nat} {F : ip_F} {G : ip_G} {Q : Option Value → ip_M → Prop} {a0 a1 a2 : Int32} (h : (a0 = (0 : Int32) → Q (some (.int (if a2 < (a1 + (1 : Int32)) then a2 else (a1 + (1 : Int32))))) (hs t, F, G)) ∧ ((a0 = (1 : Int32) → Q (some (.int (if ((if a2 < (a1 + (1 : Int32)) then a2 else (a1 + (1 : Int32))) - (2 : Int32)) < (1 : Int32) then (1 : Int32) else ((if a2 < (a1 + (1 : Int32)) then a2 else (a1 + (1 : Int32))) - (2 : Int32))))) (hs t, F, G)) ∧ ((a0 = (2 : Int32) → Q (some (.int (if a2 < ((if a2 < (a1 + (1 : Int32)) then a2 else (a1 + (1 : Int32))) + (1 : Int32)) then a2 else ((if a2 < (a1 + (1 : Int32)) then a2 else (a1 + (1 : Int32))) + (1 : Int32))))) (hs t, F, G)) ∧ ((a0 = (3 : Int32) → (¬ (if a2 < ((if a2 < (a1 + (1 : Int32)) then a2 else (a1 + (1 : Int32))) + (1 : Int32)) then a2 else ((if a2 < (a1 + (1 : Int32)) then a2 else (a1 + (1 : Int32))) + (1 : Int32))) = a2 → Q (some (.int a1)) (hs t, F, G)) ∧ ((if a2 < ((if a2 < (a1 + (1 : Int32)) then a2 else (a1 + (1 : Int32))) + (1 : Int32)) then a2 else ((if a2 < (a1 + (1 : Int32)) then a2 else (a1 + (1 : Int32))) + (1 : Int32))) = a2 → Q (some (.int a2)) (hs t, F, G))) ∧ ((a0 = (4 : Int32) → Q (some (.int ((a2 + (1 : Int32)) - (if ((if a2 < (a1 + (1 : Int32)) then a2 else (a1 + (1 : Int32))) - (2 : Int32)) < (1 : Int32) then (1 : Int32) else ((if a2 < (a1 + (1 : Int32)) then a2 else (a1 + (1 : Int32))) - (2 : Int32)))))) (hs t, F, G)) ∧ ((¬ a0 = (0 : Int32) ∧ ¬ a0 = (1 : Int32) ∧ ¬ a0 = (2 : Int32) ∧ ¬ a0 = (3 : Int32) ∧ ¬ a0 = (4 : Int32) → Q (some (.int (if a2 < ((if a2 < (a1 + (1 : Int32)) then a2 else (a1 + (1 : Int32))) + (1 : Int32)) then a2 else ((if a2 < (a1 + (1 : Int32)) then a2 else (a1 + (1 : Int32))) + (1 : Int32))))) (hs t, F, G)))))))) : wp 82 0 [.int a0, .int a1, .int a2, .float 0, .float 0, .float 0] [] (hs t, F, G) Q := by
  refine wp_N (j' := 82) (pc' := 27) (L' := [.int a0, .int a1, .int a2, .int (if a2 < (a1 + (1 : Int32)) then a2 else (a1 + (1 : Int32))), .int (if ((if a2 < (a1 + (1 : Int32)) then a2 else (a1 + (1 : Int32))) - (2 : Int32)) < (1 : Int32) then (1 : Int32) else ((if a2 < (a1 + (1 : Int32)) then a2 else (a1 + (1 : Int32))) - (2 : Int32))), .int (if a2 < ((if a2 < (a1 + (1 : Int32)) then a2 else (a1 + (1 : Int32))) + (1 : Int32)) then a2 else ((if a2 < (a1 + (1 : Int32)) then a2 else (a1 + (1 : Int32))) + (1 : Int32)))]) (S' := [.int a0]) (M' := (hs t, F, G)) 18 (fun _ => rfl) ?_
  by_cases e0 : a0 = (0 : Int32)
  · replace h := h.1 e0
    refine wp_S (x := a0) (d := 60) (lo := 0) (hi := 4) (offs := #[33, 35, 38, 41, 53]) (S' := []) (t := 60) (fun _ => rfl) (by rw [e0]; rfl) ?_
    refine wp_N (j' := 82) (pc' := 61) (L' := [.int a0, .int a1, .int a2, .int (if a2 < (a1 + (1 : Int32)) then a2 else (a1 + (1 : Int32))), .int (if ((if a2 < (a1 + (1 : Int32)) then a2 else (a1 + (1 : Int32))) - (2 : Int32)) < (1 : Int32) then (1 : Int32) else ((if a2 < (a1 + (1 : Int32)) then a2 else (a1 + (1 : Int32))) - (2 : Int32))), .int (if a2 < ((if a2 < (a1 + (1 : Int32)) then a2 else (a1 + (1 : Int32))) + (1 : Int32)) then a2 else ((if a2 < (a1 + (1 : Int32)) then a2 else (a1 + (1 : Int32))) + (1 : Int32)))]) (S' := [.int (if a2 < (a1 + (1 : Int32)) then a2 else (a1 + (1 : Int32)))]) (M' := (hs t, F, G)) 0 (fun _ => rfl) ?_
    exact wp_RI rfl rfl h
  replace h := h.2
  by_cases e1 : a0 = (1 : Int32)
  · replace h := h.1 e1
    refine wp_S (x := a0) (d := 60) (lo := 0) (hi := 4) (offs := #[33, 35, 38, 41, 53]) (S' := []) (t := 62) (fun _ => rfl) (by rw [e1]; rfl) ?_
    refine wp_N (j' := 82) (pc' := 64) (L' := [.int a0, .int a1, .int a2, .int (if a2 < (a1 + (1 : Int32)) then a2 else (a1 + (1 : Int32))), .int (if ((if a2 < (a1 + (1 : Int32)) then a2 else (a1 + (1 : Int32))) - (2 : Int32)) < (1 : Int32) then (1 : Int32) else ((if a2 < (a1 + (1 : Int32)) then a2 else (a1 + (1 : Int32))) - (2 : Int32))), .int (if a2 < ((if a2 < (a1 + (1 : Int32)) then a2 else (a1 + (1 : Int32))) + (1 : Int32)) then a2 else ((if a2 < (a1 + (1 : Int32)) then a2 else (a1 + (1 : Int32))) + (1 : Int32)))]) (S' := [.int (if ((if a2 < (a1 + (1 : Int32)) then a2 else (a1 + (1 : Int32))) - (2 : Int32)) < (1 : Int32) then (1 : Int32) else ((if a2 < (a1 + (1 : Int32)) then a2 else (a1 + (1 : Int32))) - (2 : Int32)))]) (M' := (hs t, F, G)) 0 (fun _ => rfl) ?_
    exact wp_RI rfl rfl h
  replace h := h.2
  by_cases e2 : a0 = (2 : Int32)
  · replace h := h.1 e2
    refine wp_S (x := a0) (d := 60) (lo := 0) (hi := 4) (offs := #[33, 35, 38, 41, 53]) (S' := []) (t := 65) (fun _ => rfl) (by rw [e2]; rfl) ?_
    refine wp_N (j' := 82) (pc' := 67) (L' := [.int a0, .int a1, .int a2, .int (if a2 < (a1 + (1 : Int32)) then a2 else (a1 + (1 : Int32))), .int (if ((if a2 < (a1 + (1 : Int32)) then a2 else (a1 + (1 : Int32))) - (2 : Int32)) < (1 : Int32) then (1 : Int32) else ((if a2 < (a1 + (1 : Int32)) then a2 else (a1 + (1 : Int32))) - (2 : Int32))), .int (if a2 < ((if a2 < (a1 + (1 : Int32)) then a2 else (a1 + (1 : Int32))) + (1 : Int32)) then a2 else ((if a2 < (a1 + (1 : Int32)) then a2 else (a1 + (1 : Int32))) + (1 : Int32)))]) (S' := [.int (if a2 < ((if a2 < (a1 + (1 : Int32)) then a2 else (a1 + (1 : Int32))) + (1 : Int32)) then a2 else ((if a2 < (a1 + (1 : Int32)) then a2 else (a1 + (1 : Int32))) + (1 : Int32)))]) (M' := (hs t, F, G)) 0 (fun _ => rfl) ?_
    exact wp_RI rfl rfl h
  replace h := h.2
  by_cases e3 : a0 = (3 : Int32)
  · replace h := h.1 e3
    refine wp_S (x := a0) (d := 60) (lo := 0) (hi := 4) (offs := #[33, 35, 38, 41, 53]) (S' := []) (t := 68) (fun _ => rfl) (by rw [e3]; rfl) ?_
    refine wp_N (j' := 82) (pc' := 71) (L' := [.int a0, .int a1, .int a2, .int (if a2 < (a1 + (1 : Int32)) then a2 else (a1 + (1 : Int32))), .int (if ((if a2 < (a1 + (1 : Int32)) then a2 else (a1 + (1 : Int32))) - (2 : Int32)) < (1 : Int32) then (1 : Int32) else ((if a2 < (a1 + (1 : Int32)) then a2 else (a1 + (1 : Int32))) - (2 : Int32))), .int (if a2 < ((if a2 < (a1 + (1 : Int32)) then a2 else (a1 + (1 : Int32))) + (1 : Int32)) then a2 else ((if a2 < (a1 + (1 : Int32)) then a2 else (a1 + (1 : Int32))) + (1 : Int32)))]) (S' := [.int a2, .int (if a2 < ((if a2 < (a1 + (1 : Int32)) then a2 else (a1 + (1 : Int32))) + (1 : Int32)) then a2 else ((if a2 < (a1 + (1 : Int32)) then a2 else (a1 + (1 : Int32))) + (1 : Int32)))]) (M' := (hs t, F, G)) 1 (fun _ => rfl) ?_
    refine wp_icmp (pc1 := 78) (c := .ne) rfl (fun hc => ?_) (fun hc => ?_)
    · replace h := h.1 hc
      refine wp_N (j' := 82) (pc' := 79) (L' := [.int a0, .int a1, .int a2, .int (if a2 < (a1 + (1 : Int32)) then a2 else (a1 + (1 : Int32))), .int (if ((if a2 < (a1 + (1 : Int32)) then a2 else (a1 + (1 : Int32))) - (2 : Int32)) < (1 : Int32) then (1 : Int32) else ((if a2 < (a1 + (1 : Int32)) then a2 else (a1 + (1 : Int32))) - (2 : Int32))), .int (if a2 < ((if a2 < (a1 + (1 : Int32)) then a2 else (a1 + (1 : Int32))) + (1 : Int32)) then a2 else ((if a2 < (a1 + (1 : Int32)) then a2 else (a1 + (1 : Int32))) + (1 : Int32)))]) (S' := [.int a1]) (M' := (hs t, F, G)) 0 (fun _ => rfl) ?_
      exact wp_RI rfl rfl h
    · replace h := h.2 (Decidable.not_not.mp hc)
      refine wp_N (j' := 82) (pc' := 79) (L' := [.int a0, .int a1, .int a2, .int (if a2 < (a1 + (1 : Int32)) then a2 else (a1 + (1 : Int32))), .int (if ((if a2 < (a1 + (1 : Int32)) then a2 else (a1 + (1 : Int32))) - (2 : Int32)) < (1 : Int32) then (1 : Int32) else ((if a2 < (a1 + (1 : Int32)) then a2 else (a1 + (1 : Int32))) - (2 : Int32))), .int (if a2 < ((if a2 < (a1 + (1 : Int32)) then a2 else (a1 + (1 : Int32))) + (1 : Int32)) then a2 else ((if a2 < (a1 + (1 : Int32)) then a2 else (a1 + (1 : Int32))) + (1 : Int32)))]) (S' := [.int a2]) (M' := (hs t, F, G)) 1 (fun _ => rfl) ?_
      exact wp_RI rfl rfl h
  replace h := h.2
  by_cases e4 : a0 = (4 : Int32)
  · replace h := h.1 e4
    refine wp_S (x := a0) (d := 60) (lo := 0) (hi := 4) (offs := #[33, 35, 38, 41, 53]) (S' := []) (t := 80) (fun _ => rfl) (by rw [e4]; rfl) ?_
    refine wp_N (j' := 82) (pc' := 86) (L' := [.int a0, .int a1, .int a2, .int (if a2 < (a1 + (1 : Int32)) then a2 else (a1 + (1 : Int32))), .int (if ((if a2 < (a1 + (1 : Int32)) then a2 else (a1 + (1 : Int32))) - (2 : Int32)) < (1 : Int32) then (1 : Int32) else ((if a2 < (a1 + (1 : Int32)) then a2 else (a1 + (1 : Int32))) - (2 : Int32))), .int (if a2 < ((if a2 < (a1 + (1 : Int32)) then a2 else (a1 + (1 : Int32))) + (1 : Int32)) then a2 else ((if a2 < (a1 + (1 : Int32)) then a2 else (a1 + (1 : Int32))) + (1 : Int32)))]) (S' := [.int ((a2 + (1 : Int32)) - (if ((if a2 < (a1 + (1 : Int32)) then a2 else (a1 + (1 : Int32))) - (2 : Int32)) < (1 : Int32) then (1 : Int32) else ((if a2 < (a1 + (1 : Int32)) then a2 else (a1 + (1 : Int32))) - (2 : Int32))))]) (M' := (hs t, F, G)) 4 (fun _ => rfl) ?_
    exact wp_RI rfl rfl h
  replace h := h.2
  replace h := h ⟨e0, e1, e2, e3, e4⟩
  have h1_ : ∀ i : Nat, i < 5 → ¬ a0 = Int32.ofInt (0 + i) := by
    intro i hi
    match i, hi with
    | 0, _ => exact e0
    | 1, _ => exact e1
    | 2, _ => exact e2
    | 3, _ => exact e3
    | 4, _ => exact e4
  refine wp_S (x := a0) (d := 60) (lo := 0) (hi := 4) (offs := #[33, 35, 38, 41, 53]) (S' := []) (t := 87) (fun _ => rfl) (wp_Sd (by have := in_out2 (lo := 0) (n := 5) h1_ (by decide) (by decide); simp only [Int.cast_ofNat_Int] at this; omega) (by decide)) ?_
  refine wp_N (j' := 82) (pc' := 94) (L' := [.int a0, .int a1, .int a2, .int (if a2 < (a1 + (1 : Int32)) then a2 else (a1 + (1 : Int32))), .int (if ((if a2 < (a1 + (1 : Int32)) then a2 else (a1 + (1 : Int32))) - (2 : Int32)) < (1 : Int32) then (1 : Int32) else ((if a2 < (a1 + (1 : Int32)) then a2 else (a1 + (1 : Int32))) - (2 : Int32))), .int (if a2 < ((if a2 < (a1 + (1 : Int32)) then a2 else (a1 + (1 : Int32))) + (1 : Int32)) then a2 else ((if a2 < (a1 + (1 : Int32)) then a2 else (a1 + (1 : Int32))) + (1 : Int32)))]) (S' := [.int (if a2 < ((if a2 < (a1 + (1 : Int32)) then a2 else (a1 + (1 : Int32))) + (1 : Int32)) then a2 else ((if a2 < (a1 + (1 : Int32)) then a2 else (a1 + (1 : Int32))) + (1 : Int32)))]) (M' := (hs t, F, G)) 4 (fun _ => rfl) ?_
  exact wp_RI rfl rfl h
theorem rg84_0 {t : Nat} {F : ip_F} {G : ip_G} {Q : Option Value → ip_M → Prop} {k : Nat} (hk : ok9 t k) (h : Q (some (.int (F k 1))) (hs t, (ip_u F k 1 (0 : Int32)), G)) : wp 84 0 [.ref k, .float 0] [] (hs t, F, G) Q := by
  refine wp_N (j' := 84) (pc' := 1) (L' := [.ref k, .float 0]) (S' := [.ref k]) (M' := (hs t, F, G)) 0 (fun _ => rfl) ?_
  refine wp_getI rfl hk.1 rfl rfl rfl (by decide) ?_
  refine wp_N (j' := 84) (pc' := 7) (L' := [.ref k, .int (F k 1)]) (S' := [.int (0 : Int32), .ref k]) (M' := (hs t, F, G)) 2 (fun _ => rfl) ?_
  refine wp_putI rfl hk.1 rfl rfl rfl rfl (by decide) ?_
  refine wp_N (j' := 84) (pc' := 11) (L' := [.ref k, .int (F k 1)]) (S' := [.int (F k 1)]) (M' := (hs t, (ip_u F k 1 (0 : Int32)), G)) 0 (fun _ => rfl) ?_
  exact wp_RI rfl rfl h
theorem rg85_0 {t : Nat} {F : ip_F} {G : ip_G} {Q : Option Value → ip_M → Prop} {k : Nat} {a1 : Int32} (hk : ok9 t k) (h : ((150 : Int32) ≤ (F k 1) → Q none (hs t, F, G)) ∧ ((F k 1) < (150 : Int32) → (vp_in (F k 1) 150) ∧ (Q none (hs t, (ip_u (ip_u F (k + 1) ((F k 1)).toNatClampNeg (vp_nar .byte a1.toInt8.toInt32)) k 1 (((ip_u F (k + 1) ((F k 1)).toNatClampNeg (vp_nar .byte a1.toInt8.toInt32)) k 1) + (1 : Int32))), G)))) : wp 85 0 [.ref k, .int a1] [] (hs t, F, G) Q := by
  refine wp_N (j' := 85) (pc' := 1) (L' := [.ref k, .int a1]) (S' := [.ref k]) (M' := (hs t, F, G)) 0 (fun _ => rfl) ?_
  refine wp_getI rfl hk.1 rfl rfl rfl (by decide) ?_
  refine wp_N (j' := 85) (pc' := 7) (L' := [.ref k, .int a1]) (S' := [.int (150 : Int32), .int (F k 1)]) (M' := (hs t, F, G)) 0 (fun _ => rfl) ?_
  refine wp_icmp (pc1 := 31) (c := .ge) rfl (fun hc => ?_) (fun hc => ?_)
  · replace h := h.1 hc
    exact wp_RV rfl rfl h
  · replace h := h.2 (Int32.not_le.mp hc)
    refine wp_N (j' := 85) (pc' := 11) (L' := [.ref k, .int a1]) (S' := [.ref k]) (M' := (hs t, F, G)) 0 (fun _ => rfl) ?_
    refine wp_getR (r := (k + 1)) rfl hk.1 rfl rfl rfl (hs_lt hk.2) (by decide) ?_
    refine wp_N (j' := 85) (pc' := 15) (L' := [.ref k, .int a1]) (S' := [.ref k, .ref (k + 1)]) (M' := (hs t, F, G)) 0 (fun _ => rfl) ?_
    refine wp_getI rfl hk.1 rfl rfl rfl (by decide) ?_
    refine wp_N (j' := 85) (pc' := 20) (L' := [.ref k, .int a1]) (S' := [.int a1.toInt8.toInt32, .int (F k 1), .ref (k + 1)]) (M' := (hs t, F, G)) 1 (fun _ => rfl) ?_
    obtain ⟨h1_, h⟩ := h
    refine wp_bas2 (m := ((F k 1)).toNatClampNeg) rfl hk.2 rfl h1_ ?_
    refine wp_N (j' := 85) (pc' := 23) (L' := [.ref k, .int a1]) (S' := [.ref k, .ref k]) (M' := (hs t, (ip_u F (k + 1) ((F k 1)).toNatClampNeg (vp_nar .byte a1.toInt8.toInt32)), G)) 1 (fun _ => rfl) ?_
    refine wp_getI rfl hk.1 rfl rfl rfl (by decide) ?_
    refine wp_N (j' := 85) (pc' := 28) (L' := [.ref k, .int a1]) (S' := [.int (((ip_u F (k + 1) ((F k 1)).toNatClampNeg (vp_nar .byte a1.toInt8.toInt32)) k 1) + (1 : Int32)), .ref k]) (M' := (hs t, (ip_u F (k + 1) ((F k 1)).toNatClampNeg (vp_nar .byte a1.toInt8.toInt32)), G)) 1 (fun _ => rfl) ?_
    refine wp_putI rfl hk.1 rfl rfl rfl rfl (by decide) ?_
    exact wp_RV rfl rfl h
theorem rg86_0 {t : Nat} {F : ip_F} {G : ip_G} {Q : Option Value → ip_M → Prop} {k : Nat} {a1 : Int32} (hk : ok9 t k) (h : (a1 < (0 : Int32) → Q (some (.int (-1 : Int32))) (hs t, F, G)) ∧ ((0 : Int32) ≤ a1 → ((F k 1) ≤ a1 → Q (some (.int (-1 : Int32))) (hs t, F, G)) ∧ (a1 < (F k 1) → (vp_in a1 150) ∧ (Q (some (.int (F (k + 1) (a1).toNatClampNeg))) (hs t, F, G))))) : wp 86 0 [.ref k, .int a1] [] (hs t, F, G) Q := by
  refine wp_N (j' := 86) (pc' := 1) (L' := [.ref k, .int a1]) (S' := [.int a1]) (M' := (hs t, F, G)) 0 (fun _ => rfl) ?_
  refine wp_ifc (pc1 := 21) (c := .lt) rfl (fun hc => ?_) (fun hc => ?_)
  · replace h := h.1 hc
    refine wp_N (j' := 86) (pc' := 22) (L' := [.ref k, .int a1]) (S' := [.int (-1 : Int32)]) (M' := (hs t, F, G)) 0 (fun _ => rfl) ?_
    exact wp_RI rfl rfl h
  · replace h := h.2 (Int32.not_lt.mp hc)
    refine wp_N (j' := 86) (pc' := 6) (L' := [.ref k, .int a1]) (S' := [.ref k, .int a1]) (M' := (hs t, F, G)) 1 (fun _ => rfl) ?_
    refine wp_getI rfl hk.1 rfl rfl rfl (by decide) ?_
    refine wp_icmp (pc1 := 21) (c := .ge) rfl (fun hc => ?_) (fun hc => ?_)
    · replace h := h.1 hc
      refine wp_N (j' := 86) (pc' := 22) (L' := [.ref k, .int a1]) (S' := [.int (-1 : Int32)]) (M' := (hs t, F, G)) 0 (fun _ => rfl) ?_
      exact wp_RI rfl rfl h
    · replace h := h.2 (Int32.not_le.mp hc)
      refine wp_N (j' := 86) (pc' := 13) (L' := [.ref k, .int a1]) (S' := [.ref k]) (M' := (hs t, F, G)) 0 (fun _ => rfl) ?_
      refine wp_getR (r := (k + 1)) rfl hk.1 rfl rfl rfl (hs_lt hk.2) (by decide) ?_
      refine wp_N (j' := 86) (pc' := 17) (L' := [.ref k, .int a1]) (S' := [.int a1, .ref (k + 1)]) (M' := (hs t, F, G)) 0 (fun _ => rfl) ?_
      obtain ⟨h1_, h⟩ := h
      refine wp_bal (m := (a1).toNatClampNeg) rfl hk.2 (by decide) rfl h1_ ?_
      refine wp_N (j' := 86) (pc' := 22) (L' := [.ref k, .int a1]) (S' := [.int (F (k + 1) (a1).toNatClampNeg)]) (M' := (hs t, F, G)) 0 (fun _ => rfl) ?_
      exact wp_RI rfl rfl h
theorem rg89_0 {t : Nat} {F : ip_F} {G : ip_G} {Q : Option Value → ip_M → Prop} {k : Nat} {a1 : Int32} (hk : ok10 t k) (h : wp 243 0 [.ref (k + 1), .int (0 : Int32), .float 0, .float 0] [] (hs t, (ip_u F k 6 a1), G) (fun v M' => wp 89 13 [.ref k, .int a1] (v.toList ++ []) M' Q)) : wp 89 0 [.ref k, .int a1] [] (hs t, F, G) Q := by
  refine wp_N (j' := 89) (pc' := 2) (L' := [.ref k, .int a1]) (S' := [.int a1, .ref k]) (M' := (hs t, F, G)) 1 (fun _ => rfl) ?_
  refine wp_putI rfl hk.1 rfl rfl rfl rfl (by decide) ?_
  refine wp_N (j' := 89) (pc' := 6) (L' := [.ref k, .int a1]) (S' := [.ref k]) (M' := (hs t, (ip_u F k 6 a1), G)) 0 (fun _ => rfl) ?_
  refine wp_getR (r := (k + 1)) rfl hk.1 rfl rfl rfl (hs_lt hk.2.1) (by decide) ?_
  refine wp_N (j' := 89) (pc' := 10) (L' := [.ref k, .int a1]) (S' := [.int (0 : Int32), .ref (k + 1)]) (M' := (hs t, (ip_u F k 6 a1), G)) 0 (fun _ => rfl) ?_
  refine wp_C (i := 243) (pc' := 13) (Li := [.ref (k + 1), .int (0 : Int32), .float 0, .float 0]) (rest := []) (fun _ => rfl) h
theorem rg89_13 {t : Nat} {F : ip_F} {G : ip_G} {Q : Option Value → ip_M → Prop} {k : Nat} {a1 : Int32} (hk : ok10 t k) (h : wp 62 0 [.ref (k + 2), .float 0] [] (hs t, F, G) (fun v M' => wp 89 20 [.ref k, .int a1] (v.toList ++ []) M' Q)) : wp 89 13 [.ref k, .int a1] [] (hs t, F, G) Q := by
  refine wp_N (j' := 89) (pc' := 14) (L' := [.ref k, .int a1]) (S' := [.ref k]) (M' := (hs t, F, G)) 0 (fun _ => rfl) ?_
  refine wp_getR (r := (k + 2)) rfl hk.1 rfl rfl rfl (hs_lt hk.2.2.1.1) (by decide) ?_
  refine wp_CV (as := []) (S := []) rfl hk.2.2.1.1 rfl rfl rfl (Nat.le_of_ble_eq_true rfl) rfl ⟨rfl, rfl⟩ rfl h
theorem rg89_20 {t : Nat} {F : ip_F} {G : ip_G} {Q : Option Value → ip_M → Prop} {k : Nat} {a1 : Int32} (hk : ok10 t k) (h : wp 16 0 [.ref (k + 4)] [] (hs t, F, G) (fun v M' => wp 89 27 [.ref k, .int a1] (v.toList ++ []) M' Q)) : wp 89 20 [.ref k, .int a1] [] (hs t, F, G) Q := by
  refine wp_N (j' := 89) (pc' := 21) (L' := [.ref k, .int a1]) (S' := [.ref k]) (M' := (hs t, F, G)) 0 (fun _ => rfl) ?_
  refine wp_getR (r := (k + 4)) rfl hk.1 rfl rfl rfl (hs_lt hk.2.2.2.1.1) (by decide) ?_
  refine wp_CV (as := []) (S := []) rfl hk.2.2.2.1.1 rfl rfl rfl (Nat.le_of_ble_eq_true rfl) rfl ⟨rfl, rfl⟩ rfl h
theorem rg89_27 {t : Nat} {F : ip_F} {G : ip_G} {Q : Option Value → ip_M → Prop} {k : Nat} {a1 : Int32} (hk : ok10 t k) (h : wp 49 0 [.ref (k + 14), .float 0] [] (hs t, F, G) (fun v M' => wp 89 34 [.ref k, .int a1] (v.toList ++ []) M' Q)) : wp 89 27 [.ref k, .int a1] [] (hs t, F, G) Q := by
  refine wp_N (j' := 89) (pc' := 28) (L' := [.ref k, .int a1]) (S' := [.ref k]) (M' := (hs t, F, G)) 0 (fun _ => rfl) ?_
  refine wp_getR (r := (k + 14)) rfl hk.1 rfl rfl rfl (hs_lt hk.2.2.2.2.1.1) (by decide) ?_
  refine wp_CV (as := []) (S := []) rfl hk.2.2.2.2.1.1 rfl rfl rfl (Nat.le_of_ble_eq_true rfl) rfl ⟨rfl, rfl⟩ rfl h
theorem rg89_34 {t : Nat} {F : ip_F} {G : ip_G} {Q : Option Value → ip_M → Prop} {k : Nat} {a1 as0 : Int32} (hk : ok10 t k) (h : wp 49 0 [.ref (k + 16), .float 0] [] (hs t, F, G) (fun v M' => wp 89 42 [.ref k, .int a1] (v.toList ++ []) M' Q)) : wp 89 34 [.ref k, .int a1] [.int as0] (hs t, F, G) Q := by
  refine wp_N (j' := 89) (pc' := 36) (L' := [.ref k, .int a1]) (S' := [.ref k]) (M' := (hs t, F, G)) 1 (fun _ => rfl) ?_
  refine wp_getR (r := (k + 16)) rfl hk.1 rfl rfl rfl (hs_lt hk.2.2.2.2.2.1.1) (by decide) ?_
  refine wp_CV (as := []) (S := []) rfl hk.2.2.2.2.2.1.1 rfl rfl rfl (Nat.le_of_ble_eq_true rfl) rfl ⟨rfl, rfl⟩ rfl h
theorem rg89_42 {t : Nat} {F : ip_F} {G : ip_G} {Q : Option Value → ip_M → Prop} {k : Nat} {a1 as0 : Int32} (hk : ok10 t k) (h : wp 49 0 [.ref (k + 18), .float 0] [] (hs t, F, G) (fun v M' => wp 89 50 [.ref k, .int a1] (v.toList ++ []) M' Q)) : wp 89 42 [.ref k, .int a1] [.int as0] (hs t, F, G) Q := by
  refine wp_N (j' := 89) (pc' := 44) (L' := [.ref k, .int a1]) (S' := [.ref k]) (M' := (hs t, F, G)) 1 (fun _ => rfl) ?_
  refine wp_getR (r := (k + 18)) rfl hk.1 rfl rfl rfl (hs_lt hk.2.2.2.2.2.2.1) (by decide) ?_
  refine wp_CV (as := []) (S := []) rfl hk.2.2.2.2.2.2.1 rfl rfl rfl (Nat.le_of_ble_eq_true rfl) rfl ⟨rfl, rfl⟩ rfl h
theorem rg89_50 {t : Nat} {F : ip_F} {G : ip_G} {Q : Option Value → ip_M → Prop} {k : Nat} {a1 as0 : Int32} (hk : ok10 t k) (h : Q none (hs t, F, G)) : wp 89 50 [.ref k, .int a1] [.int as0] (hs t, F, G) Q := by
  refine wp_N (j' := 89) (pc' := 51) (L' := [.ref k, .int a1]) (S' := []) (M' := (hs t, F, G)) 0 (fun _ => rfl) ?_
  exact wp_RV rfl rfl h
theorem rg90_0 {t : Nat} {F : ip_F} {G : ip_G} {Q : Option Value → ip_M → Prop} {k o : Nat} (hk : ok10 t k) (ho : ok10 t o) (h : wp 63 0 [.ref (k + 2), .ref (o + 2)] [] (hs t, (ip_ur (ip_u F k 6 (F o 6)) (k + 1) (va_cpy ((ip_u F k 6 (F o 6)) (o + 1)) ((ip_u F k 6 (F o 6)) (k + 1)) 0 0 6)), G) (fun v M' => wp 90 34 [.ref k, .ref o] (v.toList ++ []) M' Q)) : wp 90 0 [.ref k, .ref o] [] (hs t, F, G) Q := by
  refine wp_N (j' := 90) (pc' := 2) (L' := [.ref k, .ref o]) (S' := [.ref o, .ref k]) (M' := (hs t, F, G)) 1 (fun _ => rfl) ?_
  refine wp_getI rfl ho.1 rfl rfl rfl (by decide) ?_
  refine wp_putI rfl hk.1 rfl rfl rfl rfl (by decide) ?_
  refine wp_N (j' := 90) (pc' := 9) (L' := [.ref k, .ref o]) (S' := [.ref o]) (M' := (hs t, (ip_u F k 6 (F o 6)), G)) 0 (fun _ => rfl) ?_
  refine wp_getR (r := (o + 1)) rfl ho.1 rfl rfl rfl (hs_lt ho.2.1) (by decide) ?_
  refine wp_N (j' := 90) (pc' := 14) (L' := [.ref k, .ref o]) (S' := [.ref k, .int (0 : Int32), .ref (o + 1)]) (M' := (hs t, (ip_u F k 6 (F o 6)), G)) 1 (fun _ => rfl) ?_
  refine wp_getR (r := (k + 1)) rfl hk.1 rfl rfl rfl (hs_lt hk.2.1) (by decide) ?_
  refine wp_N (j' := 90) (pc' := 20) (L' := [.ref k, .ref o]) (S' := [.int (6 : Int32), .int (0 : Int32), .ref (k + 1), .int (0 : Int32), .ref (o + 1)]) (M' := (hs t, (ip_u F k 6 (F o 6)), G)) 1 (fun _ => rfl) ?_
  refine wp_cpy (sp' := 0) (dp' := 0) (n' := 6) rfl ho.2.1 hk.2.1 (by decide) (by decide) rfl rfl rfl (by decide) (by decide) ?_
  refine wp_N (j' := 90) (pc' := 24) (L' := [.ref k, .ref o]) (S' := [.ref k]) (M' := (hs t, (ip_ur (ip_u F k 6 (F o 6)) (k + 1) (va_cpy ((ip_u F k 6 (F o 6)) (o + 1)) ((ip_u F k 6 (F o 6)) (k + 1)) 0 0 6)), G)) 0 (fun _ => rfl) ?_
  refine wp_getR (r := (k + 2)) rfl hk.1 rfl rfl rfl (hs_lt hk.2.2.1.1) (by decide) ?_
  refine wp_N (j' := 90) (pc' := 28) (L' := [.ref k, .ref o]) (S' := [.ref o, .ref (k + 2)]) (M' := (hs t, (ip_ur (ip_u F k 6 (F o 6)) (k + 1) (va_cpy ((ip_u F k 6 (F o 6)) (o + 1)) ((ip_u F k 6 (F o 6)) (k + 1)) 0 0 6)), G)) 0 (fun _ => rfl) ?_
  refine wp_getR (r := (o + 2)) rfl ho.1 rfl rfl rfl (hs_lt ho.2.2.1.1) (by decide) ?_
  refine wp_CV (as := [.ref (o + 2)]) (S := []) rfl hk.2.2.1.1 rfl rfl rfl (Nat.le_of_ble_eq_true rfl) rfl ⟨rfl, rfl⟩ rfl h
theorem rg90_34 {t : Nat} {F : ip_F} {G : ip_G} {Q : Option Value → ip_M → Prop} {k o : Nat} (hk : ok10 t k) (ho : ok10 t o) (h : wp 20 0 [.ref (k + 4), .ref (o + 4), .float 0] [] (hs t, F, G) (fun v M' => wp 90 45 [.ref k, .ref o] (v.toList ++ []) M' Q)) : wp 90 34 [.ref k, .ref o] [] (hs t, F, G) Q := by
  refine wp_N (j' := 90) (pc' := 35) (L' := [.ref k, .ref o]) (S' := [.ref k]) (M' := (hs t, F, G)) 0 (fun _ => rfl) ?_
  refine wp_getR (r := (k + 4)) rfl hk.1 rfl rfl rfl (hs_lt hk.2.2.2.1.1) (by decide) ?_
  refine wp_N (j' := 90) (pc' := 39) (L' := [.ref k, .ref o]) (S' := [.ref o, .ref (k + 4)]) (M' := (hs t, F, G)) 0 (fun _ => rfl) ?_
  refine wp_getR (r := (o + 4)) rfl ho.1 rfl rfl rfl (hs_lt ho.2.2.2.1.1) (by decide) ?_
  refine wp_CV (as := [.ref (o + 4)]) (S := []) rfl hk.2.2.2.1.1 rfl rfl rfl (Nat.le_of_ble_eq_true rfl) rfl ⟨rfl, rfl⟩ rfl h
theorem rg90_45 {t : Nat} {F : ip_F} {G : ip_G} {Q : Option Value → ip_M → Prop} {k o : Nat} (hk : ok10 t k) (ho : ok10 t o) (h : wp 50 0 [.ref (k + 14), .ref (o + 14)] [] (hs t, F, G) (fun v M' => wp 90 56 [.ref k, .ref o] (v.toList ++ []) M' Q)) : wp 90 45 [.ref k, .ref o] [] (hs t, F, G) Q := by
  refine wp_N (j' := 90) (pc' := 46) (L' := [.ref k, .ref o]) (S' := [.ref k]) (M' := (hs t, F, G)) 0 (fun _ => rfl) ?_
  refine wp_getR (r := (k + 14)) rfl hk.1 rfl rfl rfl (hs_lt hk.2.2.2.2.1.1) (by decide) ?_
  refine wp_N (j' := 90) (pc' := 50) (L' := [.ref k, .ref o]) (S' := [.ref o, .ref (k + 14)]) (M' := (hs t, F, G)) 0 (fun _ => rfl) ?_
  refine wp_getR (r := (o + 14)) rfl ho.1 rfl rfl rfl (hs_lt ho.2.2.2.2.1.1) (by decide) ?_
  refine wp_CV (as := [.ref (o + 14)]) (S := []) rfl hk.2.2.2.2.1.1 rfl rfl rfl (Nat.le_of_ble_eq_true rfl) rfl ⟨rfl, rfl⟩ rfl h
theorem rg90_56 {t : Nat} {F : ip_F} {G : ip_G} {Q : Option Value → ip_M → Prop} {k o : Nat} (hk : ok10 t k) (ho : ok10 t o) (h : wp 50 0 [.ref (k + 16), .ref (o + 16)] [] (hs t, F, G) (fun v M' => wp 90 67 [.ref k, .ref o] (v.toList ++ []) M' Q)) : wp 90 56 [.ref k, .ref o] [] (hs t, F, G) Q := by
  refine wp_N (j' := 90) (pc' := 57) (L' := [.ref k, .ref o]) (S' := [.ref k]) (M' := (hs t, F, G)) 0 (fun _ => rfl) ?_
  refine wp_getR (r := (k + 16)) rfl hk.1 rfl rfl rfl (hs_lt hk.2.2.2.2.2.1.1) (by decide) ?_
  refine wp_N (j' := 90) (pc' := 61) (L' := [.ref k, .ref o]) (S' := [.ref o, .ref (k + 16)]) (M' := (hs t, F, G)) 0 (fun _ => rfl) ?_
  refine wp_getR (r := (o + 16)) rfl ho.1 rfl rfl rfl (hs_lt ho.2.2.2.2.2.1.1) (by decide) ?_
  refine wp_CV (as := [.ref (o + 16)]) (S := []) rfl hk.2.2.2.2.2.1.1 rfl rfl rfl (Nat.le_of_ble_eq_true rfl) rfl ⟨rfl, rfl⟩ rfl h
theorem rg90_67 {t : Nat} {F : ip_F} {G : ip_G} {Q : Option Value → ip_M → Prop} {k o : Nat} (hk : ok10 t k) (ho : ok10 t o) (h : wp 50 0 [.ref (k + 18), .ref (o + 18)] [] (hs t, F, G) (fun v M' => wp 90 78 [.ref k, .ref o] (v.toList ++ []) M' Q)) : wp 90 67 [.ref k, .ref o] [] (hs t, F, G) Q := by
  refine wp_N (j' := 90) (pc' := 68) (L' := [.ref k, .ref o]) (S' := [.ref k]) (M' := (hs t, F, G)) 0 (fun _ => rfl) ?_
  refine wp_getR (r := (k + 18)) rfl hk.1 rfl rfl rfl (hs_lt hk.2.2.2.2.2.2.1) (by decide) ?_
  refine wp_N (j' := 90) (pc' := 72) (L' := [.ref k, .ref o]) (S' := [.ref o, .ref (k + 18)]) (M' := (hs t, F, G)) 0 (fun _ => rfl) ?_
  refine wp_getR (r := (o + 18)) rfl ho.1 rfl rfl rfl (hs_lt ho.2.2.2.2.2.2.1) (by decide) ?_
  refine wp_CV (as := [.ref (o + 18)]) (S := []) rfl hk.2.2.2.2.2.2.1 rfl rfl rfl (Nat.le_of_ble_eq_true rfl) rfl ⟨rfl, rfl⟩ rfl h
theorem rg90_78 {t : Nat} {F : ip_F} {G : ip_G} {Q : Option Value → ip_M → Prop} {k o : Nat} (hk : ok10 t k) (ho : ok10 t o) (h : Q none (hs t, F, G)) : wp 90 78 [.ref k, .ref o] [] (hs t, F, G) Q := by
  exact wp_RV rfl rfl h
