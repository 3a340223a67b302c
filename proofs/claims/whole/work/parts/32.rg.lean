/-! ===== regions of code, on ===== -/
theorem rg92_0 {t : Nat} {F : ip_F} {G : ip_G} {Q : Option Value → ip_M → Prop} {a1 : Int32} (h : wp 129 0 [.int a1, .int (4 : Int32), .int (6 : Int32)] [] (hs t, F, G) (fun v M' => wp 92 7 [.ref 0, .int a1, .float 0] (v.toList ++ []) M' Q)) : wp 92 0 [.ref 0, .int a1, .float 0] [] (hs t, F, G) Q := by
  refine wp_N (j' := 92) (pc' := 4) (L' := [.ref 0, .int a1, .float 0]) (S' := [.int (6 : Int32), .int (4 : Int32), .int a1]) (M' := (hs t, F, G)) 2 (fun _ => rfl) ?_
  refine wp_C (i := 129) (pc' := 7) (Li := [.int a1, .int (4 : Int32), .int (6 : Int32)]) (rest := []) (fun _ => rfl) h
theorem rg92_7 {t : Nat} {F : ip_F} {G : ip_G} {Q : Option Value → ip_M → Prop} {a1 as0 : Int32} {v2 : Value} (h : (¬ as0 = (0 : Int32) → wp 89 0 [.ref 1, .int a1] [] (hs t, F, G) (fun v M' => wp 92 33 [.ref 0, .int a1, .int (F 1 6)] (v.toList ++ []) M' Q)) ∧ (as0 = (0 : Int32) → wp 133 0 [.ref 0, .int (-2 : Int32), .float 0] [] (hs t, F, G) (fun v M' => wp 92 16 [.ref 0, .int a1, v2] (v.toList ++ []) M' Q))) : wp 92 7 [.ref 0, .int a1, v2] [.int as0] (hs t, F, G) Q := by
  refine wp_ifc (pc1 := 17) (c := .ne) rfl (fun hc => ?_) (fun hc => ?_)
  · replace h := h.1 hc
    refine wp_N (j' := 92) (pc' := 30) (L' := [.ref 0, .int a1, .int (F 1 6)]) (S' := [.int a1, .ref 1]) (M' := (hs t, F, G)) 6 (fun _ => rfl) ?_
    refine wp_C (i := 89) (pc' := 33) (Li := [.ref 1, .int a1]) (rest := []) (fun _ => rfl) h
  · replace h := h.2 (Decidable.not_not.mp hc)
    refine wp_N (j' := 92) (pc' := 13) (L' := [.ref 0, .int a1, v2]) (S' := [.int (-2 : Int32), .ref 0]) (M' := (hs t, F, G)) 1 (fun _ => rfl) ?_
    refine wp_C (i := 133) (pc' := 16) (Li := [.ref 0, .int (-2 : Int32), .float 0]) (rest := []) (fun _ => rfl) h
theorem rg92_16 {t : Nat} {F : ip_F} {G : ip_G} {Q : Option Value → ip_M → Prop} {a1 as0 : Int32} {v2 : Value} (h : Q (some (.int as0)) (hs t, F, G)) : wp 92 16 [.ref 0, .int a1, v2] [.int as0] (hs t, F, G) Q := by
  exact wp_RI rfl rfl h
theorem rg92_33 {t : Nat} {F : ip_F} {G : ip_G} {Q : Option Value → ip_M → Prop} {a1 a2 : Int32} (h : Q (some (.int a2)) (hs t, F, G)) : wp 92 33 [.ref 0, .int a1, .int a2] [] (hs t, F, G) Q := by
  refine wp_N (j' := 92) (pc' := 34) (L' := [.ref 0, .int a1, .int a2]) (S' := [.int a2]) (M' := (hs t, F, G)) 0 (fun _ => rfl) ?_
  exact wp_RI rfl rfl h
theorem rg93_0 {t : Nat} {F : ip_F} {G : ip_G} {Q : Option Value → ip_M → Prop} {a1 a2 : Int32} (h : wp 129 0 [.int a1, .int (0 : Int32), .int (5 : Int32)] [] (hs t, F, G) (fun v M' => wp 93 6 [.ref 0, .int a1, .int a2, .float 0] (v.toList ++ []) M' Q)) : wp 93 0 [.ref 0, .int a1, .int a2, .float 0] [] (hs t, F, G) Q := by
  refine wp_N (j' := 93) (pc' := 3) (L' := [.ref 0, .int a1, .int a2, .float 0]) (S' := [.int (5 : Int32), .int (0 : Int32), .int a1]) (M' := (hs t, F, G)) 2 (fun _ => rfl) ?_
  refine wp_C (i := 129) (pc' := 6) (Li := [.int a1, .int (0 : Int32), .int (5 : Int32)]) (rest := []) (fun _ => rfl) h
theorem rg93_6 {t : Nat} {F : ip_F} {G : ip_G} {Q : Option Value → ip_M → Prop} {a1 a2 as0 : Int32} {v3 : Value} (h : (as0 = (0 : Int32) → wp 93 18 [.ref 0, .int a1, .int a2, v3] [] (hs t, F, G) Q) ∧ (¬ as0 = (0 : Int32) → wp 129 0 [.int a2, .int (0 : Int32), .int (3 : Int32)] [] (hs t, F, G) (fun v M' => wp 93 15 [.ref 0, .int a1, .int a2, v3] (v.toList ++ []) M' Q))) : wp 93 6 [.ref 0, .int a1, .int a2, v3] [.int as0] (hs t, F, G) Q := by
  refine wp_ifc (pc1 := 18) (c := .eq) rfl (fun hc => ?_) (fun hc => ?_)
  · replace h := h.1 hc
    exact h
  · replace h := h.2 hc
    refine wp_N (j' := 93) (pc' := 12) (L' := [.ref 0, .int a1, .int a2, v3]) (S' := [.int (3 : Int32), .int (0 : Int32), .int a2]) (M' := (hs t, F, G)) 2 (fun _ => rfl) ?_
    refine wp_C (i := 129) (pc' := 15) (Li := [.int a2, .int (0 : Int32), .int (3 : Int32)]) (rest := []) (fun _ => rfl) h
theorem rg93_15 {t : Nat} {F : ip_F} {G : ip_G} {Q : Option Value → ip_M → Prop} {a1 a2 as0 : Int32} {v3 : Value} (h : (¬ as0 = (0 : Int32) → (vp_in a1 6) ∧ ((vp_in a1 6) ∧ (wp 16 0 [.ref 5] [] (hs t, (ip_u F 2 (a1).toNatClampNeg a2), G) (fun v M' => wp 93 55 [.ref 0, .int a1, .int a2, .int (F 2 (a1).toNatClampNeg)] (v.toList ++ []) M' Q)))) ∧ (as0 = (0 : Int32) → wp 93 18 [.ref 0, .int a1, .int a2, v3] [] (hs t, F, G) Q)) : wp 93 15 [.ref 0, .int a1, .int a2, v3] [.int as0] (hs t, F, G) Q := by
  refine wp_ifc (pc1 := 25) (c := .ne) rfl (fun hc => ?_) (fun hc => ?_)
  · replace h := h.1 hc
    refine wp_N (j' := 93) (pc' := 33) (L' := [.ref 0, .int a1, .int a2, v3]) (S' := [.int a1, .ref 2]) (M' := (hs t, F, G)) 3 (fun _ => rfl) ?_
    obtain ⟨h1_, h⟩ := h
    refine wp_ial (m := (a1).toNatClampNeg) rfl rfl rfl h1_ ?_
    refine wp_N (j' := 93) (pc' := 44) (L' := [.ref 0, .int a1, .int a2, .int (F 2 (a1).toNatClampNeg)]) (S' := [.int a2, .int a1, .ref 2]) (M' := (hs t, F, G)) 5 (fun _ => rfl) ?_
    obtain ⟨h2_, h⟩ := h
    refine wp_ias (m := (a1).toNatClampNeg) rfl rfl rfl h2_ ?_
    refine wp_N (j' := 93) (pc' := 52) (L' := [.ref 0, .int a1, .int a2, .int (F 2 (a1).toNatClampNeg)]) (S' := [.ref 5]) (M' := (hs t, (ip_u F 2 (a1).toNatClampNeg a2), G)) 2 (fun _ => rfl) ?_
    refine wp_C (i := 16) (pc' := 55) (Li := [.ref 5]) (rest := []) (fun _ => rfl) h
  · replace h := h.2 (Decidable.not_not.mp hc)
    exact h
theorem rg93_18 {t : Nat} {F : ip_F} {G : ip_G} {Q : Option Value → ip_M → Prop} {a1 a2 : Int32} {v3 : Value} (h : wp 133 0 [.ref 0, .int (-2 : Int32), .float 0] [] (hs t, F, G) (fun v M' => wp 93 24 [.ref 0, .int a1, .int a2, v3] (v.toList ++ []) M' Q)) : wp 93 18 [.ref 0, .int a1, .int a2, v3] [] (hs t, F, G) Q := by
  refine wp_N (j' := 93) (pc' := 21) (L' := [.ref 0, .int a1, .int a2, v3]) (S' := [.int (-2 : Int32), .ref 0]) (M' := (hs t, F, G)) 1 (fun _ => rfl) ?_
  refine wp_C (i := 133) (pc' := 24) (Li := [.ref 0, .int (-2 : Int32), .float 0]) (rest := []) (fun _ => rfl) h
theorem rg93_24 {t : Nat} {F : ip_F} {G : ip_G} {Q : Option Value → ip_M → Prop} {a1 a2 as0 : Int32} {v3 : Value} (h : Q (some (.int as0)) (hs t, F, G)) : wp 93 24 [.ref 0, .int a1, .int a2, v3] [.int as0] (hs t, F, G) Q := by
  exact wp_RI rfl rfl h
theorem rg93_55 {t : Nat} {F : ip_F} {G : ip_G} {Q : Option Value → ip_M → Prop} {a1 a2 a3 : Int32} (h : Q (some (.int a3)) (hs t, F, G)) : wp 93 55 [.ref 0, .int a1, .int a2, .int a3] [] (hs t, F, G) Q := by
  refine wp_N (j' := 93) (pc' := 56) (L' := [.ref 0, .int a1, .int a2, .int a3]) (S' := [.int a3]) (M' := (hs t, F, G)) 0 (fun _ => rfl) ?_
  exact wp_RI rfl rfl h
theorem rg94_0 {t : Nat} {F : ip_F} {G : ip_G} {Q : Option Value → ip_M → Prop} {a1 : Int32} (h : wp 129 0 [.int a1, .int (0 : Int32), .int (127 : Int32)] [] (hs t, F, G) (fun v M' => wp 94 7 [.ref 0, .int a1] (v.toList ++ []) M' Q)) : wp 94 0 [.ref 0, .int a1] [] (hs t, F, G) Q := by
  refine wp_N (j' := 94) (pc' := 4) (L' := [.ref 0, .int a1]) (S' := [.int (127 : Int32), .int (0 : Int32), .int a1]) (M' := (hs t, F, G)) 2 (fun _ => rfl) ?_
  refine wp_C (i := 129) (pc' := 7) (Li := [.int a1, .int (0 : Int32), .int (127 : Int32)]) (rest := []) (fun _ => rfl) h
theorem rg94_7 {t : Nat} {F : ip_F} {G : ip_G} {Q : Option Value → ip_M → Prop} {a1 as0 : Int32} (h : (¬ as0 = (0 : Int32) → ((F 62 1) < (150 : Int32) → wp 85 0 [.ref 62, .int a1] [] (hs t, F, G) (fun v M' => wp 94 45 [.ref 0, .int a1] (v.toList ++ []) M' Q)) ∧ ((150 : Int32) ≤ (F 62 1) → wp 133 0 [.ref 0, .int (-4 : Int32), .float 0] [] (hs t, F, G) (fun v M' => wp 94 36 [.ref 0, .int a1] (v.toList ++ []) M' Q))) ∧ (as0 = (0 : Int32) → wp 133 0 [.ref 0, .int (-2 : Int32), .float 0] [] (hs t, F, G) (fun v M' => wp 94 16 [.ref 0, .int a1] (v.toList ++ []) M' Q))) : wp 94 7 [.ref 0, .int a1] [.int as0] (hs t, F, G) Q := by
  refine wp_ifc (pc1 := 17) (c := .ne) rfl (fun hc => ?_) (fun hc => ?_)
  · replace h := h.1 hc
    refine wp_N (j' := 94) (pc' := 27) (L' := [.ref 0, .int a1]) (S' := [.int (150 : Int32), .int (F 62 1)]) (M' := (hs t, F, G)) 3 (fun _ => rfl) ?_
    refine wp_icmp (pc1 := 37) (c := .lt) rfl (fun hc => ?_) (fun hc => ?_)
    · replace h := h.1 hc
      refine wp_N (j' := 94) (pc' := 42) (L' := [.ref 0, .int a1]) (S' := [.int a1, .ref 62]) (M' := (hs t, F, G)) 2 (fun _ => rfl) ?_
      refine wp_C (i := 85) (pc' := 45) (Li := [.ref 62, .int a1]) (rest := []) (fun _ => rfl) h
    · replace h := h.2 (Int32.not_lt.mp hc)
      refine wp_N (j' := 94) (pc' := 33) (L' := [.ref 0, .int a1]) (S' := [.int (-4 : Int32), .ref 0]) (M' := (hs t, F, G)) 1 (fun _ => rfl) ?_
      refine wp_C (i := 133) (pc' := 36) (Li := [.ref 0, .int (-4 : Int32), .float 0]) (rest := []) (fun _ => rfl) h
  · replace h := h.2 (Decidable.not_not.mp hc)
    refine wp_N (j' := 94) (pc' := 13) (L' := [.ref 0, .int a1]) (S' := [.int (-2 : Int32), .ref 0]) (M' := (hs t, F, G)) 1 (fun _ => rfl) ?_
    refine wp_C (i := 133) (pc' := 16) (Li := [.ref 0, .int (-2 : Int32), .float 0]) (rest := []) (fun _ => rfl) h
theorem rg94_16 {t : Nat} {F : ip_F} {G : ip_G} {Q : Option Value → ip_M → Prop} {a1 as0 : Int32} (h : Q (some (.int as0)) (hs t, F, G)) : wp 94 16 [.ref 0, .int a1] [.int as0] (hs t, F, G) Q := by
  exact wp_RI rfl rfl h
theorem rg94_36 {t : Nat} {F : ip_F} {G : ip_G} {Q : Option Value → ip_M → Prop} {a1 as0 : Int32} (h : Q (some (.int as0)) (hs t, F, G)) : wp 94 36 [.ref 0, .int a1] [.int as0] (hs t, F, G) Q := by
  exact wp_RI rfl rfl h
theorem rg94_45 {t : Nat} {F : ip_F} {G : ip_G} {Q : Option Value → ip_M → Prop} {a1 : Int32} (h : Q (some (.int (F 62 1))) (hs t, F, G)) : wp 94 45 [.ref 0, .int a1] [] (hs t, F, G) Q := by
  refine wp_N (j' := 94) (pc' := 52) (L' := [.ref 0, .int a1]) (S' := [.int (F 62 1)]) (M' := (hs t, F, G)) 2 (fun _ => rfl) ?_
  exact wp_RI rfl rfl h
theorem rg95_0 {t : Nat} {F : ip_F} {G : ip_G} {Q : Option Value → ip_M → Prop} (h : wp 84 0 [.ref 62, .float 0] [] (hs t, F, G) (fun v M' => wp 95 7 [.ref 0] (v.toList ++ []) M' Q)) : wp 95 0 [.ref 0] [] (hs t, F, G) Q := by
  refine wp_N (j' := 95) (pc' := 4) (L' := [.ref 0]) (S' := [.ref 62]) (M' := (hs t, F, G)) 1 (fun _ => rfl) ?_
  refine wp_C (i := 84) (pc' := 7) (Li := [.ref 62, .float 0]) (rest := []) (fun _ => rfl) h
theorem rg95_7 {t : Nat} {F : ip_F} {G : ip_G} {Q : Option Value → ip_M → Prop} {as0 : Int32} (h : Q (some (.int as0)) (hs t, F, G)) : wp 95 7 [.ref 0] [.int as0] (hs t, F, G) Q := by
  exact wp_RI rfl rfl h
theorem rg96_0 {t : Nat} {F : ip_F} {G : ip_G} {Q : Option Value → ip_M → Prop} (h : wp 35 0 [.ref 64, .ref 62, .float 0] [] (hs t, F, G) (fun v M' => wp 96 11 [.ref 0, .float 0] (v.toList ++ []) M' Q)) : wp 96 0 [.ref 0, .float 0] [] (hs t, F, G) Q := by
  refine wp_N (j' := 96) (pc' := 8) (L' := [.ref 0, .float 0]) (S' := [.ref 62, .ref 64]) (M' := (hs t, F, G)) 3 (fun _ => rfl) ?_
  refine wp_C (i := 35) (pc' := 11) (Li := [.ref 64, .ref 62, .float 0]) (rest := []) (fun _ => rfl) h
theorem rg96_11 {t : Nat} {F : ip_F} {G : ip_G} {Q : Option Value → ip_M → Prop} {as0 : Int32} {v1 : Value} (h : (as0 ≤ (0 : Int32) → wp 96 30 [.ref 0, .int as0] [] (hs t, F, G) Q) ∧ ((0 : Int32) < as0 → wp 90 0 [.ref 1, .ref 65] [] (hs t, F, G) (fun v M' => wp 96 30 [.ref 0, .int as0] (v.toList ++ []) M' Q))) : wp 96 11 [.ref 0, v1] [.int as0] (hs t, F, G) Q := by
  refine wp_N (j' := 96) (pc' := 13) (L' := [.ref 0, .int as0]) (S' := [.int as0]) (M' := (hs t, F, G)) 1 (fun _ => rfl) ?_
  refine wp_ifc (pc1 := 30) (c := .le) rfl (fun hc => ?_) (fun hc => ?_)
  · replace h := h.1 hc
    exact h
  · replace h := h.2 (Int32.not_le.mp hc)
    refine wp_N (j' := 96) (pc' := 27) (L' := [.ref 0, .int as0]) (S' := [.ref 65, .ref 1]) (M' := (hs t, F, G)) 4 (fun _ => rfl) ?_
    refine wp_C (i := 90) (pc' := 30) (Li := [.ref 1, .ref 65]) (rest := []) (fun _ => rfl) h
theorem rg96_30 {t : Nat} {F : ip_F} {G : ip_G} {Q : Option Value → ip_M → Prop} {a1 : Int32} (h : Q (some (.int a1)) (hs t, F, G)) : wp 96 30 [.ref 0, .int a1] [] (hs t, F, G) Q := by
  refine wp_N (j' := 96) (pc' := 31) (L' := [.ref 0, .int a1]) (S' := [.int a1]) (M' := (hs t, F, G)) 0 (fun _ => rfl) ?_
  exact wp_RI rfl rfl h
theorem rg97_0 {t : Nat} {F : ip_F} {G : ip_G} {Q : Option Value → ip_M → Prop} {a1 a2 a3 : Int32} (h : wp 130 0 [.ref 0, .int a1] [] (hs t, F, G) (fun v M' => wp 97 5 [.ref 0, .int a1, .int a2, .int a3, .float 0] (v.toList ++ []) M' Q)) : wp 97 0 [.ref 0, .int a1, .int a2, .int a3, .float 0] [] (hs t, F, G) Q := by
  refine wp_N (j' := 97) (pc' := 2) (L' := [.ref 0, .int a1, .int a2, .int a3, .float 0]) (S' := [.int a1, .ref 0]) (M' := (hs t, F, G)) 1 (fun _ => rfl) ?_
  refine wp_C (i := 130) (pc' := 5) (Li := [.ref 0, .int a1]) (rest := []) (fun _ => rfl) h
theorem rg97_5 {t : Nat} {F : ip_F} {G : ip_G} {Q : Option Value → ip_M → Prop} {a1 a2 a3 as0 : Int32} {v4 : Value} (h : (as0 = (0 : Int32) → wp 97 25 [.ref 0, .int a1, .int a2, .int a3, v4] [] (hs t, F, G) Q) ∧ (¬ as0 = (0 : Int32) → wp 131 0 [.int a2] [] (hs t, F, G) (fun v M' => wp 97 12 [.ref 0, .int a1, .int a2, .int a3, v4] (v.toList ++ []) M' Q))) : wp 97 5 [.ref 0, .int a1, .int a2, .int a3, v4] [.int as0] (hs t, F, G) Q := by
  refine wp_ifc (pc1 := 25) (c := .eq) rfl (fun hc => ?_) (fun hc => ?_)
  · replace h := h.1 hc
    exact h
  · replace h := h.2 hc
    refine wp_N (j' := 97) (pc' := 9) (L' := [.ref 0, .int a1, .int a2, .int a3, v4]) (S' := [.int a2]) (M' := (hs t, F, G)) 0 (fun _ => rfl) ?_
    refine wp_C (i := 131) (pc' := 12) (Li := [.int a2]) (rest := []) (fun _ => rfl) h
theorem rg97_12 {t : Nat} {F : ip_F} {G : ip_G} {Q : Option Value → ip_M → Prop} {a1 a2 a3 as0 : Int32} {v4 : Value} (h : (as0 = (0 : Int32) → wp 97 25 [.ref 0, .int a1, .int a2, .int a3, v4] [] (hs t, F, G) Q) ∧ (¬ as0 = (0 : Int32) → wp 129 0 [.int a3, .int (1 : Int32), .int (11 : Int32)] [] (hs t, F, G) (fun v M' => wp 97 22 [.ref 0, .int a1, .int a2, .int a3, v4] (v.toList ++ []) M' Q))) : wp 97 12 [.ref 0, .int a1, .int a2, .int a3, v4] [.int as0] (hs t, F, G) Q := by
  refine wp_ifc (pc1 := 25) (c := .eq) rfl (fun hc => ?_) (fun hc => ?_)
  · replace h := h.1 hc
    exact h
  · replace h := h.2 hc
    refine wp_N (j' := 97) (pc' := 19) (L' := [.ref 0, .int a1, .int a2, .int a3, v4]) (S' := [.int (11 : Int32), .int (1 : Int32), .int a3]) (M' := (hs t, F, G)) 2 (fun _ => rfl) ?_
    refine wp_C (i := 129) (pc' := 22) (Li := [.int a3, .int (1 : Int32), .int (11 : Int32)]) (rest := []) (fun _ => rfl) h
theorem rg97_22 {t : Nat} {F : ip_F} {G : ip_G} {Q : Option Value → ip_M → Prop} {a1 a2 a3 as0 : Int32} {v4 : Value} (h : (¬ as0 = (0 : Int32) → wp 71 0 [.ref 3, .int a1] [] (hs t, F, G) (fun v M' => wp 97 43 [.ref 0, .int a1, .int a2, .int a3, v4] (v.toList ++ []) M' Q)) ∧ (as0 = (0 : Int32) → wp 97 25 [.ref 0, .int a1, .int a2, .int a3, v4] [] (hs t, F, G) Q)) : wp 97 22 [.ref 0, .int a1, .int a2, .int a3, v4] [.int as0] (hs t, F, G) Q := by
  refine wp_ifc (pc1 := 32) (c := .ne) rfl (fun hc => ?_) (fun hc => ?_)
  · replace h := h.1 hc
    refine wp_N (j' := 97) (pc' := 40) (L' := [.ref 0, .int a1, .int a2, .int a3, v4]) (S' := [.int a1, .ref 3]) (M' := (hs t, F, G)) 3 (fun _ => rfl) ?_
    refine wp_C (i := 71) (pc' := 43) (Li := [.ref 3, .int a1]) (rest := []) (fun _ => rfl) h
  · replace h := h.2 (Decidable.not_not.mp hc)
    exact h
theorem rg97_25 {t : Nat} {F : ip_F} {G : ip_G} {Q : Option Value → ip_M → Prop} {a1 a2 a3 : Int32} {v4 : Value} (h : wp 133 0 [.ref 0, .int (-2 : Int32), .float 0] [] (hs t, F, G) (fun v M' => wp 97 31 [.ref 0, .int a1, .int a2, .int a3, v4] (v.toList ++ []) M' Q)) : wp 97 25 [.ref 0, .int a1, .int a2, .int a3, v4] [] (hs t, F, G) Q := by
  refine wp_N (j' := 97) (pc' := 28) (L' := [.ref 0, .int a1, .int a2, .int a3, v4]) (S' := [.int (-2 : Int32), .ref 0]) (M' := (hs t, F, G)) 1 (fun _ => rfl) ?_
  refine wp_C (i := 133) (pc' := 31) (Li := [.ref 0, .int (-2 : Int32), .float 0]) (rest := []) (fun _ => rfl) h
theorem rg97_31 {t : Nat} {F : ip_F} {G : ip_G} {Q : Option Value → ip_M → Prop} {a1 a2 a3 as0 : Int32} {v4 : Value} (h : Q (some (.int as0)) (hs t, F, G)) : wp 97 31 [.ref 0, .int a1, .int a2, .int a3, v4] [.int as0] (hs t, F, G) Q := by
  exact wp_RI rfl rfl h
theorem rg97_43 {t : Nat} {F : ip_F} {G : ip_G} {Q : Option Value → ip_M → Prop} {a1 a2 a3 as0 : Int32} {v4 : Value} (h : (as0 = (0 : Int32) → wp 97 51 [.ref 0, .int a1, .int a2, .int a3, v4] [.int (0 : Int32)] (hs t, F, G) Q) ∧ (¬ as0 = (0 : Int32) → wp 97 51 [.ref 0, .int a1, .int a2, .int a3, v4] [.int (1 : Int32)] (hs t, F, G) Q)) : wp 97 43 [.ref 0, .int a1, .int a2, .int a3, v4] [.int as0] (hs t, F, G) Q := by
  refine wp_ifc (pc1 := 50) (c := .eq) rfl (fun hc => ?_) (fun hc => ?_)
  · replace h := h.1 hc
    refine wp_N (j' := 97) (pc' := 51) (L' := [.ref 0, .int a1, .int a2, .int a3, v4]) (S' := [.int (0 : Int32)]) (M' := (hs t, F, G)) 0 (fun _ => rfl) ?_
    exact h
  · replace h := h.2 hc
    refine wp_N (j' := 97) (pc' := 51) (L' := [.ref 0, .int a1, .int a2, .int a3, v4]) (S' := [.int (1 : Int32)]) (M' := (hs t, F, G)) 1 (fun _ => rfl) ?_
    exact h
theorem rg97_51 {t : Nat} {F : ip_F} {G : ip_G} {Q : Option Value → ip_M → Prop} {a1 a2 a3 as0 : Int32} {v4 : Value} (h : wp 17 0 [.ref 5, .ref 3] [] (hs t, F, G) (fun v M' => wp 97 70 [.ref 0, .int a1, .int a2, .int a3, .int as0] (v.toList ++ []) M' Q)) : wp 97 51 [.ref 0, .int a1, .int a2, .int a3, v4] [.int as0] (hs t, F, G) Q := by
  refine wp_N (j' := 97) (pc' := 67) (L' := [.ref 0, .int a1, .int a2, .int a3, .int as0]) (S' := [.ref 3, .ref 5]) (M' := (hs t, F, G)) 6 (fun _ => rfl) ?_
  refine wp_C (i := 17) (pc' := 70) (Li := [.ref 5, .ref 3]) (rest := []) (fun _ => rfl) h
theorem rg97_70 {t : Nat} {F : ip_F} {G : ip_G} {Q : Option Value → ip_M → Prop} {a1 a2 a3 a4 : Int32} (h : wp 72 0 [.ref 3, .int a1, .int a2, .int a3] [] (hs t, F, G) (fun v M' => wp 97 83 [.ref 0, .int a1, .int a2, .int a3, .int a4] (v.toList ++ []) M' Q)) : wp 97 70 [.ref 0, .int a1, .int a2, .int a3, .int a4] [] (hs t, F, G) Q := by
  refine wp_N (j' := 97) (pc' := 80) (L' := [.ref 0, .int a1, .int a2, .int a3, .int a4]) (S' := [.int a3, .int a2, .int a1, .ref 3]) (M' := (hs t, F, G)) 5 (fun _ => rfl) ?_
  refine wp_C (i := 72) (pc' := 83) (Li := [.ref 3, .int a1, .int a2, .int a3]) (rest := []) (fun _ => rfl) h
theorem rg97_83 {t : Nat} {F : ip_F} {G : ip_G} {Q : Option Value → ip_M → Prop} {a1 a2 a3 a4 : Int32} (h : Q (some (.int a4)) (hs t, F, G)) : wp 97 83 [.ref 0, .int a1, .int a2, .int a3, .int a4] [] (hs t, F, G) Q := by
  refine wp_N (j' := 97) (pc' := 85) (L' := [.ref 0, .int a1, .int a2, .int a3, .int a4]) (S' := [.int a4]) (M' := (hs t, F, G)) 0 (fun _ => rfl) ?_
  exact wp_RI rfl rfl h
theorem rg98_0 {t : Nat} {F : ip_F} {G : ip_G} {Q : Option Value → ip_M → Prop} {a1 : Int32} (h : wp 130 0 [.ref 0, .int a1] [] (hs t, F, G) (fun v M' => wp 98 5 [.ref 0, .int a1, .float 0] (v.toList ++ []) M' Q)) : wp 98 0 [.ref 0, .int a1, .float 0] [] (hs t, F, G) Q := by
  refine wp_N (j' := 98) (pc' := 2) (L' := [.ref 0, .int a1, .float 0]) (S' := [.int a1, .ref 0]) (M' := (hs t, F, G)) 1 (fun _ => rfl) ?_
  refine wp_C (i := 130) (pc' := 5) (Li := [.ref 0, .int a1]) (rest := []) (fun _ => rfl) h
theorem rg98_5 {t : Nat} {F : ip_F} {G : ip_G} {Q : Option Value → ip_M → Prop} {a1 as0 : Int32} {v2 : Value} (h : (¬ as0 = (0 : Int32) → wp 71 0 [.ref 3, .int a1] [] (hs t, F, G) (fun v M' => wp 98 26 [.ref 0, .int a1, v2] (v.toList ++ []) M' Q)) ∧ (as0 = (0 : Int32) → wp 133 0 [.ref 0, .int (-2 : Int32), .float 0] [] (hs t, F, G) (fun v M' => wp 98 14 [.ref 0, .int a1, v2] (v.toList ++ []) M' Q))) : wp 98 5 [.ref 0, .int a1, v2] [.int as0] (hs t, F, G) Q := by
  refine wp_ifc (pc1 := 15) (c := .ne) rfl (fun hc => ?_) (fun hc => ?_)
  · replace h := h.1 hc
    refine wp_N (j' := 98) (pc' := 23) (L' := [.ref 0, .int a1, v2]) (S' := [.int a1, .ref 3]) (M' := (hs t, F, G)) 3 (fun _ => rfl) ?_
    refine wp_C (i := 71) (pc' := 26) (Li := [.ref 3, .int a1]) (rest := []) (fun _ => rfl) h
  · replace h := h.2 (Decidable.not_not.mp hc)
    refine wp_N (j' := 98) (pc' := 11) (L' := [.ref 0, .int a1, v2]) (S' := [.int (-2 : Int32), .ref 0]) (M' := (hs t, F, G)) 1 (fun _ => rfl) ?_
    refine wp_C (i := 133) (pc' := 14) (Li := [.ref 0, .int (-2 : Int32), .float 0]) (rest := []) (fun _ => rfl) h
theorem rg98_14 {t : Nat} {F : ip_F} {G : ip_G} {Q : Option Value → ip_M → Prop} {a1 as0 : Int32} {v2 : Value} (h : Q (some (.int as0)) (hs t, F, G)) : wp 98 14 [.ref 0, .int a1, v2] [.int as0] (hs t, F, G) Q := by
  exact wp_RI rfl rfl h
theorem rg98_26 {t : Nat} {F : ip_F} {G : ip_G} {Q : Option Value → ip_M → Prop} {a1 as0 : Int32} {v2 : Value} (h : (¬ as0 = (0 : Int32) → wp 66 0 [.ref 3, .int a1] [] (hs t, F, G) (fun v M' => wp 98 47 [.ref 0, .int a1, v2] (v.toList ++ []) M' Q)) ∧ (as0 = (0 : Int32) → wp 133 0 [.ref 0, .int (-3 : Int32), .float 0] [] (hs t, F, G) (fun v M' => wp 98 35 [.ref 0, .int a1, v2] (v.toList ++ []) M' Q))) : wp 98 26 [.ref 0, .int a1, v2] [.int as0] (hs t, F, G) Q := by
  refine wp_ifc (pc1 := 36) (c := .ne) rfl (fun hc => ?_) (fun hc => ?_)
  · replace h := h.1 hc
    refine wp_N (j' := 98) (pc' := 44) (L' := [.ref 0, .int a1, v2]) (S' := [.int a1, .ref 3]) (M' := (hs t, F, G)) 3 (fun _ => rfl) ?_
    refine wp_C (i := 66) (pc' := 47) (Li := [.ref 3, .int a1]) (rest := []) (fun _ => rfl) h
  · replace h := h.2 (Decidable.not_not.mp hc)
    refine wp_N (j' := 98) (pc' := 32) (L' := [.ref 0, .int a1, v2]) (S' := [.int (-3 : Int32), .ref 0]) (M' := (hs t, F, G)) 1 (fun _ => rfl) ?_
    refine wp_C (i := 133) (pc' := 35) (Li := [.ref 0, .int (-3 : Int32), .float 0]) (rest := []) (fun _ => rfl) h
theorem rg98_35 {t : Nat} {F : ip_F} {G : ip_G} {Q : Option Value → ip_M → Prop} {a1 as0 : Int32} {v2 : Value} (h : Q (some (.int as0)) (hs t, F, G)) : wp 98 35 [.ref 0, .int a1, v2] [.int as0] (hs t, F, G) Q := by
  exact wp_RI rfl rfl h
theorem rg98_47 {t : Nat} {F : ip_F} {G : ip_G} {Q : Option Value → ip_M → Prop} {a1 as0 : Int32} {v2 : Value} (h : wp 17 0 [.ref 5, .ref 3] [] (hs t, F, G) (fun v M' => wp 98 65 [.ref 0, .int a1, .int as0] (v.toList ++ []) M' Q)) : wp 98 47 [.ref 0, .int a1, v2] [.int as0] (hs t, F, G) Q := by
  refine wp_N (j' := 98) (pc' := 62) (L' := [.ref 0, .int a1, .int as0]) (S' := [.ref 3, .ref 5]) (M' := (hs t, F, G)) 6 (fun _ => rfl) ?_
  refine wp_C (i := 17) (pc' := 65) (Li := [.ref 5, .ref 3]) (rest := []) (fun _ => rfl) h
theorem rg98_65 {t : Nat} {F : ip_F} {G : ip_G} {Q : Option Value → ip_M → Prop} {a1 a2 : Int32} (h : wp 73 0 [.ref 3, .int a1] [] (hs t, F, G) (fun v M' => wp 98 76 [.ref 0, .int a1, .int a2] (v.toList ++ []) M' Q)) : wp 98 65 [.ref 0, .int a1, .int a2] [] (hs t, F, G) Q := by
  refine wp_N (j' := 98) (pc' := 73) (L' := [.ref 0, .int a1, .int a2]) (S' := [.int a1, .ref 3]) (M' := (hs t, F, G)) 3 (fun _ => rfl) ?_
  refine wp_C (i := 73) (pc' := 76) (Li := [.ref 3, .int a1]) (rest := []) (fun _ => rfl) h
theorem rg98_76 {t : Nat} {F : ip_F} {G : ip_G} {Q : Option Value → ip_M → Prop} {a1 a2 : Int32} (h : Q (some (.int a2)) (hs t, F, G)) : wp 98 76 [.ref 0, .int a1, .int a2] [] (hs t, F, G) Q := by
  refine wp_N (j' := 98) (pc' := 77) (L' := [.ref 0, .int a1, .int a2]) (S' := [.int a2]) (M' := (hs t, F, G)) 0 (fun _ => rfl) ?_
  exact wp_RI rfl rfl h
theorem rg99_0 {t : Nat} {F : ip_F} {G : ip_G} {Q : Option Value → ip_M → Prop} {a1 a2 : Int32} (h : wp 130 0 [.ref 0, .int a1] [] (hs t, F, G) (fun v M' => wp 99 5 [.ref 0, .int a1, .int a2, .float 0] (v.toList ++ []) M' Q)) : wp 99 0 [.ref 0, .int a1, .int a2, .float 0] [] (hs t, F, G) Q := by
  refine wp_N (j' := 99) (pc' := 2) (L' := [.ref 0, .int a1, .int a2, .float 0]) (S' := [.int a1, .ref 0]) (M' := (hs t, F, G)) 1 (fun _ => rfl) ?_
  refine wp_C (i := 130) (pc' := 5) (Li := [.ref 0, .int a1]) (rest := []) (fun _ => rfl) h
theorem rg99_5 {t : Nat} {F : ip_F} {G : ip_G} {Q : Option Value → ip_M → Prop} {a1 a2 as0 : Int32} {v3 : Value} (h : (as0 = (0 : Int32) → wp 99 15 [.ref 0, .int a1, .int a2, v3] [] (hs t, F, G) Q) ∧ (¬ as0 = (0 : Int32) → wp 131 0 [.int a2] [] (hs t, F, G) (fun v M' => wp 99 12 [.ref 0, .int a1, .int a2, v3] (v.toList ++ []) M' Q))) : wp 99 5 [.ref 0, .int a1, .int a2, v3] [.int as0] (hs t, F, G) Q := by
  refine wp_ifc (pc1 := 15) (c := .eq) rfl (fun hc => ?_) (fun hc => ?_)
  · replace h := h.1 hc
    exact h
  · replace h := h.2 hc
    refine wp_N (j' := 99) (pc' := 9) (L' := [.ref 0, .int a1, .int a2, v3]) (S' := [.int a2]) (M' := (hs t, F, G)) 0 (fun _ => rfl) ?_
    refine wp_C (i := 131) (pc' := 12) (Li := [.int a2]) (rest := []) (fun _ => rfl) h
theorem rg99_12 {t : Nat} {F : ip_F} {G : ip_G} {Q : Option Value → ip_M → Prop} {a1 a2 as0 : Int32} {v3 : Value} (h : (¬ as0 = (0 : Int32) → wp 69 0 [.ref 3, .int a1] [] (hs t, F, G) (fun v M' => wp 99 33 [.ref 0, .int a1, .int a2, v3] (v.toList ++ []) M' Q)) ∧ (as0 = (0 : Int32) → wp 99 15 [.ref 0, .int a1, .int a2, v3] [] (hs t, F, G) Q)) : wp 99 12 [.ref 0, .int a1, .int a2, v3] [.int as0] (hs t, F, G) Q := by
  refine wp_ifc (pc1 := 22) (c := .ne) rfl (fun hc => ?_) (fun hc => ?_)
  · replace h := h.1 hc
    refine wp_N (j' := 99) (pc' := 30) (L' := [.ref 0, .int a1, .int a2, v3]) (S' := [.int a1, .ref 3]) (M' := (hs t, F, G)) 3 (fun _ => rfl) ?_
    refine wp_C (i := 69) (pc' := 33) (Li := [.ref 3, .int a1]) (rest := []) (fun _ => rfl) h
  · replace h := h.2 (Decidable.not_not.mp hc)
    exact h
theorem rg99_15 {t : Nat} {F : ip_F} {G : ip_G} {Q : Option Value → ip_M → Prop} {a1 a2 : Int32} {v3 : Value} (h : wp 133 0 [.ref 0, .int (-2 : Int32), .float 0] [] (hs t, F, G) (fun v M' => wp 99 21 [.ref 0, .int a1, .int a2, v3] (v.toList ++ []) M' Q)) : wp 99 15 [.ref 0, .int a1, .int a2, v3] [] (hs t, F, G) Q := by
  refine wp_N (j' := 99) (pc' := 18) (L' := [.ref 0, .int a1, .int a2, v3]) (S' := [.int (-2 : Int32), .ref 0]) (M' := (hs t, F, G)) 1 (fun _ => rfl) ?_
  refine wp_C (i := 133) (pc' := 21) (Li := [.ref 0, .int (-2 : Int32), .float 0]) (rest := []) (fun _ => rfl) h
theorem rg99_21 {t : Nat} {F : ip_F} {G : ip_G} {Q : Option Value → ip_M → Prop} {a1 a2 as0 : Int32} {v3 : Value} (h : Q (some (.int as0)) (hs t, F, G)) : wp 99 21 [.ref 0, .int a1, .int a2, v3] [.int as0] (hs t, F, G) Q := by
  exact wp_RI rfl rfl h
theorem rg99_33 {t : Nat} {F : ip_F} {G : ip_G} {Q : Option Value → ip_M → Prop} {a1 a2 as0 : Int32} {v3 : Value} (h : wp 17 0 [.ref 5, .ref 3] [] (hs t, F, G) (fun v M' => wp 99 51 [.ref 0, .int a1, .int a2, .int as0] (v.toList ++ []) M' Q)) : wp 99 33 [.ref 0, .int a1, .int a2, v3] [.int as0] (hs t, F, G) Q := by
  refine wp_N (j' := 99) (pc' := 48) (L' := [.ref 0, .int a1, .int a2, .int as0]) (S' := [.ref 3, .ref 5]) (M' := (hs t, F, G)) 6 (fun _ => rfl) ?_
  refine wp_C (i := 17) (pc' := 51) (Li := [.ref 5, .ref 3]) (rest := []) (fun _ => rfl) h
theorem rg99_51 {t : Nat} {F : ip_F} {G : ip_G} {Q : Option Value → ip_M → Prop} {a1 a2 a3 : Int32} (h : wp 74 0 [.ref 3, .int a1, .int a2, .int (0 : Int32)] [] (hs t, F, G) (fun v M' => wp 99 64 [.ref 0, .int a1, .int a2, .int a3] (v.toList ++ []) M' Q)) : wp 99 51 [.ref 0, .int a1, .int a2, .int a3] [] (hs t, F, G) Q := by
  refine wp_N (j' := 99) (pc' := 61) (L' := [.ref 0, .int a1, .int a2, .int a3]) (S' := [.int (0 : Int32), .int a2, .int a1, .ref 3]) (M' := (hs t, F, G)) 5 (fun _ => rfl) ?_
  refine wp_C (i := 74) (pc' := 64) (Li := [.ref 3, .int a1, .int a2, .int (0 : Int32)]) (rest := []) (fun _ => rfl) h
theorem rg99_64 {t : Nat} {F : ip_F} {G : ip_G} {Q : Option Value → ip_M → Prop} {a1 a2 a3 : Int32} (h : Q (some (.int a3)) (hs t, F, G)) : wp 99 64 [.ref 0, .int a1, .int a2, .int a3] [] (hs t, F, G) Q := by
  refine wp_N (j' := 99) (pc' := 65) (L' := [.ref 0, .int a1, .int a2, .int a3]) (S' := [.int a3]) (M' := (hs t, F, G)) 0 (fun _ => rfl) ?_
  exact wp_RI rfl rfl h
theorem rg100_0 {t : Nat} {F : ip_F} {G : ip_G} {Q : Option Value → ip_M → Prop} {a1 : Int32} (h : wp 129 0 [.int a1, .int (1 : Int32), .int (60 : Int32)] [] (hs t, F, G) (fun v M' => wp 100 7 [.ref 0, .int a1] (v.toList ++ []) M' Q)) : wp 100 0 [.ref 0, .int a1] [] (hs t, F, G) Q := by
  refine wp_N (j' := 100) (pc' := 4) (L' := [.ref 0, .int a1]) (S' := [.int (60 : Int32), .int (1 : Int32), .int a1]) (M' := (hs t, F, G)) 2 (fun _ => rfl) ?_
  refine wp_C (i := 129) (pc' := 7) (Li := [.int a1, .int (1 : Int32), .int (60 : Int32)]) (rest := []) (fun _ => rfl) h
theorem rg100_7 {t : Nat} {F : ip_F} {G : ip_G} {Q : Option Value → ip_M → Prop} {a1 as0 : Int32} (h : (¬ as0 = (0 : Int32) → wp 17 0 [.ref 5, .ref 3] [] (hs t, F, G) (fun v M' => wp 100 34 [.ref 0, .int a1] (v.toList ++ []) M' Q)) ∧ (as0 = (0 : Int32) → wp 133 0 [.ref 0, .int (-2 : Int32), .float 0] [] (hs t, F, G) (fun v M' => wp 100 16 [.ref 0, .int a1] (v.toList ++ []) M' Q))) : wp 100 7 [.ref 0, .int a1] [.int as0] (hs t, F, G) Q := by
  refine wp_ifc (pc1 := 17) (c := .ne) rfl (fun hc => ?_) (fun hc => ?_)
  · replace h := h.1 hc
    refine wp_N (j' := 100) (pc' := 31) (L' := [.ref 0, .int a1]) (S' := [.ref 3, .ref 5]) (M' := (hs t, F, G)) 5 (fun _ => rfl) ?_
    refine wp_C (i := 17) (pc' := 34) (Li := [.ref 5, .ref 3]) (rest := []) (fun _ => rfl) h
  · replace h := h.2 (Decidable.not_not.mp hc)
    refine wp_N (j' := 100) (pc' := 13) (L' := [.ref 0, .int a1]) (S' := [.int (-2 : Int32), .ref 0]) (M' := (hs t, F, G)) 1 (fun _ => rfl) ?_
    refine wp_C (i := 133) (pc' := 16) (Li := [.ref 0, .int (-2 : Int32), .float 0]) (rest := []) (fun _ => rfl) h
theorem rg100_16 {t : Nat} {F : ip_F} {G : ip_G} {Q : Option Value → ip_M → Prop} {a1 as0 : Int32} (h : Q (some (.int as0)) (hs t, F, G)) : wp 100 16 [.ref 0, .int a1] [.int as0] (hs t, F, G) Q := by
  exact wp_RI rfl rfl h
theorem rg100_34 {t : Nat} {F : ip_F} {G : ip_G} {Q : Option Value → ip_M → Prop} {a1 : Int32} (h : wp 76 0 [.ref 3, .int a1, .float 0] [] (hs t, F, G) (fun v M' => wp 100 45 [.ref 0, .int a1] (v.toList ++ []) M' Q)) : wp 100 34 [.ref 0, .int a1] [] (hs t, F, G) Q := by
  refine wp_N (j' := 100) (pc' := 42) (L' := [.ref 0, .int a1]) (S' := [.int a1, .ref 3]) (M' := (hs t, F, G)) 3 (fun _ => rfl) ?_
  refine wp_C (i := 76) (pc' := 45) (Li := [.ref 3, .int a1, .float 0]) (rest := []) (fun _ => rfl) h
theorem rg100_45 {t : Nat} {F : ip_F} {G : ip_G} {Q : Option Value → ip_M → Prop} {a1 : Int32} (h : wp 135 0 [.ref 0, .float 0] [] (hs t, F, G) (fun v M' => wp 100 49 [.ref 0, .int a1] (v.toList ++ []) M' Q)) : wp 100 45 [.ref 0, .int a1] [] (hs t, F, G) Q := by
  refine wp_N (j' := 100) (pc' := 46) (L' := [.ref 0, .int a1]) (S' := [.ref 0]) (M' := (hs t, F, G)) 0 (fun _ => rfl) ?_
  refine wp_C (i := 135) (pc' := 49) (Li := [.ref 0, .float 0]) (rest := []) (fun _ => rfl) h
theorem rg100_49 {t : Nat} {F : ip_F} {G : ip_G} {Q : Option Value → ip_M → Prop} {a1 : Int32} (h : wp 31 0 [.ref 89] [] (hs t, F, G) (fun v M' => wp 100 52 [.ref 0, .int a1] (v.toList ++ []) M' Q)) : wp 100 49 [.ref 0, .int a1] [.ref 89] (hs t, F, G) Q := by
  refine wp_C (i := 31) (pc' := 52) (Li := [.ref 89]) (rest := []) (fun _ => rfl) h
theorem rg100_52 {t : Nat} {F : ip_F} {G : ip_G} {Q : Option Value → ip_M → Prop} {a1 as0 : Int32} (h : (as0 = (0 : Int32) → Q (some (.int (0 : Int32))) (hs t, F, G)) ∧ (¬ as0 = (0 : Int32) → Q (some (.int (1 : Int32))) (hs t, F, G))) : wp 100 52 [.ref 0, .int a1] [.int as0] (hs t, F, G) Q := by
  refine wp_ifc (pc1 := 59) (c := .eq) rfl (fun hc => ?_) (fun hc => ?_)
  · replace h := h.1 hc
    refine wp_N (j' := 100) (pc' := 60) (L' := [.ref 0, .int a1]) (S' := [.int (0 : Int32)]) (M' := (hs t, F, G)) 0 (fun _ => rfl) ?_
    exact wp_RI rfl rfl h
  · replace h := h.2 hc
    refine wp_N (j' := 100) (pc' := 60) (L' := [.ref 0, .int a1]) (S' := [.int (1 : Int32)]) (M' := (hs t, F, G)) 1 (fun _ => rfl) ?_
    exact wp_RI rfl rfl h
theorem rg101_0 {t : Nat} {F : ip_F} {G : ip_G} {Q : Option Value → ip_M → Prop} (h : (¬ (F 5 1) = (0 : Int32) → wp 19 0 [.ref 5, .ref 3] [] (hs t, F, G) (fun v M' => wp 101 37 [.ref 0] (v.toList ++ []) M' Q)) ∧ ((F 5 1) = (0 : Int32) → wp 133 0 [.ref 0, .int (-3 : Int32), .float 0] [] (hs t, F, G) (fun v M' => wp 101 19 [.ref 0] (v.toList ++ []) M' Q))) : wp 101 0 [.ref 0] [] (hs t, F, G) Q := by
  refine wp_N (j' := 101) (pc' := 10) (L' := [.ref 0]) (S' := [.int (F 5 1)]) (M' := (hs t, F, G)) 3 (fun _ => rfl) ?_
  refine wp_ifc (pc1 := 20) (c := .ne) rfl (fun hc => ?_) (fun hc => ?_)
  · replace h := h.1 hc
    refine wp_N (j' := 101) (pc' := 34) (L' := [.ref 0]) (S' := [.ref 3, .ref 5]) (M' := (hs t, F, G)) 5 (fun _ => rfl) ?_
    refine wp_C (i := 19) (pc' := 37) (Li := [.ref 5, .ref 3]) (rest := []) (fun _ => rfl) h
  · replace h := h.2 (Decidable.not_not.mp hc)
    refine wp_N (j' := 101) (pc' := 16) (L' := [.ref 0]) (S' := [.int (-3 : Int32), .ref 0]) (M' := (hs t, F, G)) 1 (fun _ => rfl) ?_
    refine wp_C (i := 133) (pc' := 19) (Li := [.ref 0, .int (-3 : Int32), .float 0]) (rest := []) (fun _ => rfl) h
theorem rg101_19 {t : Nat} {F : ip_F} {G : ip_G} {Q : Option Value → ip_M → Prop} {as0 : Int32} (h : Q (some (.int as0)) (hs t, F, G)) : wp 101 19 [.ref 0] [.int as0] (hs t, F, G) Q := by
  exact wp_RI rfl rfl h
theorem rg101_37 {t : Nat} {F : ip_F} {G : ip_G} {Q : Option Value → ip_M → Prop} (h : wp 70 0 [.ref 3] [] (hs t, F, G) (fun v M' => wp 101 47 [.ref 0] (v.toList ++ []) M' Q)) : wp 101 37 [.ref 0] [] (hs t, F, G) Q := by
  refine wp_N (j' := 101) (pc' := 44) (L' := [.ref 0]) (S' := [.ref 3]) (M' := (hs t, F, G)) 2 (fun _ => rfl) ?_
  refine wp_C (i := 70) (pc' := 47) (Li := [.ref 3]) (rest := []) (fun _ => rfl) h
theorem rg101_47 {t : Nat} {F : ip_F} {G : ip_G} {Q : Option Value → ip_M → Prop} {as0 : Int32} (h : Q (some (.int as0)) (hs t, F, G)) : wp 101 47 [.ref 0] [.int as0] (hs t, F, G) Q := by
  exact wp_RI rfl rfl h
theorem rg102_0 {t : Nat} {F : ip_F} {G : ip_G} {Q : Option Value → ip_M → Prop} {a1 a2 : Int32} (h : wp 130 0 [.ref 0, .int a1] [] (hs t, F, G) (fun v M' => wp 102 5 [.ref 0, .int a1, .int a2] (v.toList ++ []) M' Q)) : wp 102 0 [.ref 0, .int a1, .int a2] [] (hs t, F, G) Q := by
  refine wp_N (j' := 102) (pc' := 2) (L' := [.ref 0, .int a1, .int a2]) (S' := [.int a1, .ref 0]) (M' := (hs t, F, G)) 1 (fun _ => rfl) ?_
  refine wp_C (i := 130) (pc' := 5) (Li := [.ref 0, .int a1]) (rest := []) (fun _ => rfl) h
theorem rg102_5 {t : Nat} {F : ip_F} {G : ip_G} {Q : Option Value → ip_M → Prop} {a1 a2 as0 : Int32} (h : (as0 = (0 : Int32) → wp 102 17 [.ref 0, .int a1, .int a2] [] (hs t, F, G) Q) ∧ (¬ as0 = (0 : Int32) → wp 129 0 [.int a2, .int (0 : Int32), .int (4 : Int32)] [] (hs t, F, G) (fun v M' => wp 102 14 [.ref 0, .int a1, .int a2] (v.toList ++ []) M' Q))) : wp 102 5 [.ref 0, .int a1, .int a2] [.int as0] (hs t, F, G) Q := by
  refine wp_ifc (pc1 := 17) (c := .eq) rfl (fun hc => ?_) (fun hc => ?_)
  · replace h := h.1 hc
    exact h
  · replace h := h.2 hc
    refine wp_N (j' := 102) (pc' := 11) (L' := [.ref 0, .int a1, .int a2]) (S' := [.int (4 : Int32), .int (0 : Int32), .int a2]) (M' := (hs t, F, G)) 2 (fun _ => rfl) ?_
    refine wp_C (i := 129) (pc' := 14) (Li := [.int a2, .int (0 : Int32), .int (4 : Int32)]) (rest := []) (fun _ => rfl) h
theorem rg102_14 {t : Nat} {F : ip_F} {G : ip_G} {Q : Option Value → ip_M → Prop} {a1 a2 as0 : Int32} (h : (¬ as0 = (0 : Int32) → wp 136 0 [.ref 0, .int a1, .int a2] [] (hs t, F, G) (fun v M' => wp 102 30 [.ref 0, .int a1, .int a2] (v.toList ++ []) M' Q)) ∧ (as0 = (0 : Int32) → wp 102 17 [.ref 0, .int a1, .int a2] [] (hs t, F, G) Q)) : wp 102 14 [.ref 0, .int a1, .int a2] [.int as0] (hs t, F, G) Q := by
  refine wp_ifc (pc1 := 24) (c := .ne) rfl (fun hc => ?_) (fun hc => ?_)
  · replace h := h.1 hc
    refine wp_N (j' := 102) (pc' := 27) (L' := [.ref 0, .int a1, .int a2]) (S' := [.int a2, .int a1, .ref 0]) (M' := (hs t, F, G)) 2 (fun _ => rfl) ?_
    refine wp_C (i := 136) (pc' := 30) (Li := [.ref 0, .int a1, .int a2]) (rest := []) (fun _ => rfl) h
  · replace h := h.2 (Decidable.not_not.mp hc)
    exact h
theorem rg102_17 {t : Nat} {F : ip_F} {G : ip_G} {Q : Option Value → ip_M → Prop} {a1 a2 : Int32} (h : wp 133 0 [.ref 0, .int (-2 : Int32), .float 0] [] (hs t, F, G) (fun v M' => wp 102 23 [.ref 0, .int a1, .int a2] (v.toList ++ []) M' Q)) : wp 102 17 [.ref 0, .int a1, .int a2] [] (hs t, F, G) Q := by
  refine wp_N (j' := 102) (pc' := 20) (L' := [.ref 0, .int a1, .int a2]) (S' := [.int (-2 : Int32), .ref 0]) (M' := (hs t, F, G)) 1 (fun _ => rfl) ?_
  refine wp_C (i := 133) (pc' := 23) (Li := [.ref 0, .int (-2 : Int32), .float 0]) (rest := []) (fun _ => rfl) h
theorem rg102_23 {t : Nat} {F : ip_F} {G : ip_G} {Q : Option Value → ip_M → Prop} {a1 a2 as0 : Int32} (h : Q (some (.int as0)) (hs t, F, G)) : wp 102 23 [.ref 0, .int a1, .int a2] [.int as0] (hs t, F, G) Q := by
  exact wp_RI rfl rfl h
theorem rg102_30 {t : Nat} {F : ip_F} {G : ip_G} {Q : Option Value → ip_M → Prop} {a1 a2 as0 : Int32} (h : Q (some (.int as0)) (hs t, F, G)) : wp 102 30 [.ref 0, .int a1, .int a2] [.int as0] (hs t, F, G) Q := by
  exact wp_RI rfl rfl h
theorem rg103_0 {t : Nat} {F : ip_F} {G : ip_G} {Q : Option Value → ip_M → Prop} {a1 a2 : Int32} (h : wp 129 0 [.int a1, .int (0 : Int32), .int (11 : Int32)] [] (hs t, F, G) (fun v M' => wp 103 7 [.ref 0, .int a1, .int a2, .float 0] (v.toList ++ []) M' Q)) : wp 103 0 [.ref 0, .int a1, .int a2, .float 0] [] (hs t, F, G) Q := by
  refine wp_N (j' := 103) (pc' := 4) (L' := [.ref 0, .int a1, .int a2, .float 0]) (S' := [.int (11 : Int32), .int (0 : Int32), .int a1]) (M' := (hs t, F, G)) 2 (fun _ => rfl) ?_
  refine wp_C (i := 129) (pc' := 7) (Li := [.int a1, .int (0 : Int32), .int (11 : Int32)]) (rest := []) (fun _ => rfl) h
theorem rg103_7 {t : Nat} {F : ip_F} {G : ip_G} {Q : Option Value → ip_M → Prop} {a1 a2 as0 : Int32} {v3 : Value} (h : (as0 = (0 : Int32) → wp 103 19 [.ref 0, .int a1, .int a2, v3] [] (hs t, F, G) Q) ∧ (¬ as0 = (0 : Int32) → wp 129 0 [.int a2, .int (0 : Int32), .int (1 : Int32)] [] (hs t, F, G) (fun v M' => wp 103 16 [.ref 0, .int a1, .int a2, v3] (v.toList ++ []) M' Q))) : wp 103 7 [.ref 0, .int a1, .int a2, v3] [.int as0] (hs t, F, G) Q := by
  refine wp_ifc (pc1 := 19) (c := .eq) rfl (fun hc => ?_) (fun hc => ?_)
  · replace h := h.1 hc
    exact h
  · replace h := h.2 hc
    refine wp_N (j' := 103) (pc' := 13) (L' := [.ref 0, .int a1, .int a2, v3]) (S' := [.int (1 : Int32), .int (0 : Int32), .int a2]) (M' := (hs t, F, G)) 2 (fun _ => rfl) ?_
    refine wp_C (i := 129) (pc' := 16) (Li := [.int a2, .int (0 : Int32), .int (1 : Int32)]) (rest := []) (fun _ => rfl) h
theorem rg103_16 {t : Nat} {F : ip_F} {G : ip_G} {Q : Option Value → ip_M → Prop} {a1 a2 as0 : Int32} {v3 : Value} (h : (¬ as0 = (0 : Int32) → wp 135 0 [.ref 0, .float 0] [] (hs t, F, G) (fun v M' => wp 103 30 [.ref 0, .int a1, .int a2, v3] (v.toList ++ []) M' Q)) ∧ (as0 = (0 : Int32) → wp 103 19 [.ref 0, .int a1, .int a2, v3] [] (hs t, F, G) Q)) : wp 103 16 [.ref 0, .int a1, .int a2, v3] [.int as0] (hs t, F, G) Q := by
  refine wp_ifc (pc1 := 26) (c := .ne) rfl (fun hc => ?_) (fun hc => ?_)
  · replace h := h.1 hc
    refine wp_N (j' := 103) (pc' := 27) (L' := [.ref 0, .int a1, .int a2, v3]) (S' := [.ref 0]) (M' := (hs t, F, G)) 0 (fun _ => rfl) ?_
    refine wp_C (i := 135) (pc' := 30) (Li := [.ref 0, .float 0]) (rest := []) (fun _ => rfl) h
  · replace h := h.2 (Decidable.not_not.mp hc)
    exact h
theorem rg103_19 {t : Nat} {F : ip_F} {G : ip_G} {Q : Option Value → ip_M → Prop} {a1 a2 : Int32} {v3 : Value} (h : wp 133 0 [.ref 0, .int (-2 : Int32), .float 0] [] (hs t, F, G) (fun v M' => wp 103 25 [.ref 0, .int a1, .int a2, v3] (v.toList ++ []) M' Q)) : wp 103 19 [.ref 0, .int a1, .int a2, v3] [] (hs t, F, G) Q := by
  refine wp_N (j' := 103) (pc' := 22) (L' := [.ref 0, .int a1, .int a2, v3]) (S' := [.int (-2 : Int32), .ref 0]) (M' := (hs t, F, G)) 1 (fun _ => rfl) ?_
  refine wp_C (i := 133) (pc' := 25) (Li := [.ref 0, .int (-2 : Int32), .float 0]) (rest := []) (fun _ => rfl) h
theorem rg103_25 {t : Nat} {F : ip_F} {G : ip_G} {Q : Option Value → ip_M → Prop} {a1 a2 as0 : Int32} {v3 : Value} (h : Q (some (.int as0)) (hs t, F, G)) : wp 103 25 [.ref 0, .int a1, .int a2, v3] [.int as0] (hs t, F, G) Q := by
  exact wp_RI rfl rfl h
theorem rg103_30 {t : Nat} {F : ip_F} {G : ip_G} {Q : Option Value → ip_M → Prop} {a1 a2 : Int32} {v3 : Value} (h : (¬ a2 = (0 : Int32) → (vp_in a1 12) ∧ (Q (some (.int (F 117 (a1).toNatClampNeg))) (hs t, F, G))) ∧ (a2 = (0 : Int32) → (vp_in a1 12) ∧ (Q (some (.int (F 116 (a1).toNatClampNeg))) (hs t, F, G)))) : wp 103 30 [.ref 0, .int a1, .int a2, v3] [.ref 89] (hs t, F, G) Q := by
  refine wp_N (j' := 103) (pc' := 32) (L' := [.ref 0, .int a1, .int a2, .ref 89]) (S' := [.int a2]) (M' := (hs t, F, G)) 1 (fun _ => rfl) ?_
  refine wp_ifc (pc1 := 44) (c := .ne) rfl (fun hc => ?_) (fun hc => ?_)
  · replace h := h.1 hc
    refine wp_N (j' := 103) (pc' := 49) (L' := [.ref 0, .int a1, .int a2, .ref 89]) (S' := [.int a1, .ref 117]) (M' := (hs t, F, G)) 2 (fun _ => rfl) ?_
    obtain ⟨h1_, h⟩ := h
    refine wp_ial (m := (a1).toNatClampNeg) rfl rfl rfl h1_ ?_
    exact wp_RI rfl rfl h
  · replace h := h.2 (Decidable.not_not.mp hc)
    refine wp_N (j' := 103) (pc' := 40) (L' := [.ref 0, .int a1, .int a2, .ref 89]) (S' := [.int a1, .ref 116]) (M' := (hs t, F, G)) 2 (fun _ => rfl) ?_
    obtain ⟨h2_, h⟩ := h
    refine wp_ial (m := (a1).toNatClampNeg) rfl rfl rfl h2_ ?_
    refine wp_N (j' := 103) (pc' := 50) (L' := [.ref 0, .int a1, .int a2, .ref 89]) (S' := [.int (F 116 (a1).toNatClampNeg)]) (M' := (hs t, F, G)) 0 (fun _ => rfl) ?_
    exact wp_RI rfl rfl h
theorem rg104_0 {t : Nat} {F : ip_F} {G : ip_G} {Q : Option Value → ip_M → Prop} {a1 : Int32} (h : wp 129 0 [.int a1, .int (0 : Int32), .int (1 : Int32)] [] (hs t, F, G) (fun v M' => wp 104 6 [.ref 0, .int a1, .float 0, .float 0] (v.toList ++ []) M' Q)) : wp 104 0 [.ref 0, .int a1, .float 0, .float 0] [] (hs t, F, G) Q := by
  refine wp_N (j' := 104) (pc' := 3) (L' := [.ref 0, .int a1, .float 0, .float 0]) (S' := [.int (1 : Int32), .int (0 : Int32), .int a1]) (M' := (hs t, F, G)) 2 (fun _ => rfl) ?_
  refine wp_C (i := 129) (pc' := 6) (Li := [.int a1, .int (0 : Int32), .int (1 : Int32)]) (rest := []) (fun _ => rfl) h
theorem rg104_6 {t : Nat} {F : ip_F} {G : ip_G} {Q : Option Value → ip_M → Prop} {a1 as0 : Int32} {v2 v3 : Value} (h : (¬ as0 = (0 : Int32) → wp 135 0 [.ref 0, .float 0] [] (hs t, F, G) (fun v M' => wp 104 20 [.ref 0, .int a1, v2, v3] (v.toList ++ []) M' Q)) ∧ (as0 = (0 : Int32) → wp 133 0 [.ref 0, .int (-2 : Int32), .float 0] [] (hs t, F, G) (fun v M' => wp 104 15 [.ref 0, .int a1, v2, v3] (v.toList ++ []) M' Q))) : wp 104 6 [.ref 0, .int a1, v2, v3] [.int as0] (hs t, F, G) Q := by
  refine wp_ifc (pc1 := 16) (c := .ne) rfl (fun hc => ?_) (fun hc => ?_)
  · replace h := h.1 hc
    refine wp_N (j' := 104) (pc' := 17) (L' := [.ref 0, .int a1, v2, v3]) (S' := [.ref 0]) (M' := (hs t, F, G)) 0 (fun _ => rfl) ?_
    refine wp_C (i := 135) (pc' := 20) (Li := [.ref 0, .float 0]) (rest := []) (fun _ => rfl) h
  · replace h := h.2 (Decidable.not_not.mp hc)
    refine wp_N (j' := 104) (pc' := 12) (L' := [.ref 0, .int a1, v2, v3]) (S' := [.int (-2 : Int32), .ref 0]) (M' := (hs t, F, G)) 1 (fun _ => rfl) ?_
    refine wp_C (i := 133) (pc' := 15) (Li := [.ref 0, .int (-2 : Int32), .float 0]) (rest := []) (fun _ => rfl) h
theorem rg104_15 {t : Nat} {F : ip_F} {G : ip_G} {Q : Option Value → ip_M → Prop} {a1 as0 : Int32} {v2 v3 : Value} (h : Q (some (.int as0)) (hs t, F, G)) : wp 104 15 [.ref 0, .int a1, v2, v3] [.int as0] (hs t, F, G) Q := by
  exact wp_RI rfl rfl h
theorem rg104_20 {t : Nat} {F : ip_F} {G : ip_G} {Q : Option Value → ip_M → Prop} {a1 : Int32} {v2 v3 : Value} (h : wp 30 0 [.ref 89, .float 0] [] (hs t, F, G) (fun v M' => wp 104 25 [.ref 0, .int a1, .ref 89, v3] (v.toList ++ []) M' Q)) : wp 104 20 [.ref 0, .int a1, v2, v3] [.ref 89] (hs t, F, G) Q := by
  refine wp_N (j' := 104) (pc' := 22) (L' := [.ref 0, .int a1, .ref 89, v3]) (S' := [.ref 89]) (M' := (hs t, F, G)) 1 (fun _ => rfl) ?_
  refine wp_C (i := 30) (pc' := 25) (Li := [.ref 89, .float 0]) (rest := []) (fun _ => rfl) h
theorem rg104_25 {t : Nat} {F : ip_F} {G : ip_G} {Q : Option Value → ip_M → Prop} {a1 as0 : Int32} {v3 : Value} (h : (¬ a1 = (0 : Int32) → wp 29 0 [.ref 89, .int as0, .float 0] [] (hs t, F, G) (fun v M' => wp 104 39 [.ref 0, .int a1, .ref 89, .int as0] (v.toList ++ []) M' Q)) ∧ (a1 = (0 : Int32) → wp 104 39 [.ref 0, .int a1, .ref 89, .int as0] [.int as0] (hs t, F, G) Q)) : wp 104 25 [.ref 0, .int a1, .ref 89, v3] [.int as0] (hs t, F, G) Q := by
  refine wp_N (j' := 104) (pc' := 27) (L' := [.ref 0, .int a1, .ref 89, .int as0]) (S' := [.int a1]) (M' := (hs t, F, G)) 1 (fun _ => rfl) ?_
  refine wp_ifc (pc1 := 34) (c := .ne) rfl (fun hc => ?_) (fun hc => ?_)
  · replace h := h.1 hc
    refine wp_N (j' := 104) (pc' := 36) (L' := [.ref 0, .int a1, .ref 89, .int as0]) (S' := [.int as0, .ref 89]) (M' := (hs t, F, G)) 1 (fun _ => rfl) ?_
    refine wp_C (i := 29) (pc' := 39) (Li := [.ref 89, .int as0, .float 0]) (rest := []) (fun _ => rfl) h
  · replace h := h.2 (Decidable.not_not.mp hc)
    refine wp_N (j' := 104) (pc' := 39) (L' := [.ref 0, .int a1, .ref 89, .int as0]) (S' := [.int as0]) (M' := (hs t, F, G)) 1 (fun _ => rfl) ?_
    exact h
theorem rg104_39 {t : Nat} {F : ip_F} {G : ip_G} {Q : Option Value → ip_M → Prop} {a1 a3 as0 : Int32} (h : Q (some (.int as0)) (hs t, F, G)) : wp 104 39 [.ref 0, .int a1, .ref 89, .int a3] [.int as0] (hs t, F, G) Q := by
  exact wp_RI rfl rfl h
theorem rg105_0 {t : Nat} {F : ip_F} {G : ip_G} {Q : Option Value → ip_M → Prop} {a1 : Int32} (h : wp 129 0 [.int a1, .int (0 : Int32), .int (1 : Int32)] [] (hs t, F, G) (fun v M' => wp 105 6 [.ref 0, .int a1, .float 0] (v.toList ++ []) M' Q)) : wp 105 0 [.ref 0, .int a1, .float 0] [] (hs t, F, G) Q := by
  refine wp_N (j' := 105) (pc' := 3) (L' := [.ref 0, .int a1, .float 0]) (S' := [.int (1 : Int32), .int (0 : Int32), .int a1]) (M' := (hs t, F, G)) 2 (fun _ => rfl) ?_
  refine wp_C (i := 129) (pc' := 6) (Li := [.int a1, .int (0 : Int32), .int (1 : Int32)]) (rest := []) (fun _ => rfl) h
theorem rg105_6 {t : Nat} {F : ip_F} {G : ip_G} {Q : Option Value → ip_M → Prop} {a1 as0 : Int32} {v2 : Value} (h : (¬ as0 = (0 : Int32) → wp 81 0 [.ref 3, .float 0, .float 0, .float 0, .float 0] [] (hs t, F, G) (fun v M' => wp 105 26 [.ref 0, .int a1, v2] (v.toList ++ []) M' Q)) ∧ (as0 = (0 : Int32) → wp 133 0 [.ref 0, .int (-2 : Int32), .float 0] [] (hs t, F, G) (fun v M' => wp 105 15 [.ref 0, .int a1, v2] (v.toList ++ []) M' Q))) : wp 105 6 [.ref 0, .int a1, v2] [.int as0] (hs t, F, G) Q := by
  refine wp_ifc (pc1 := 16) (c := .ne) rfl (fun hc => ?_) (fun hc => ?_)
  · replace h := h.1 hc
    refine wp_N (j' := 105) (pc' := 23) (L' := [.ref 0, .int a1, v2]) (S' := [.ref 3]) (M' := (hs t, F, G)) 2 (fun _ => rfl) ?_
    refine wp_C (i := 81) (pc' := 26) (Li := [.ref 3, .float 0, .float 0, .float 0, .float 0]) (rest := []) (fun _ => rfl) h
  · replace h := h.2 (Decidable.not_not.mp hc)
    refine wp_N (j' := 105) (pc' := 12) (L' := [.ref 0, .int a1, v2]) (S' := [.int (-2 : Int32), .ref 0]) (M' := (hs t, F, G)) 1 (fun _ => rfl) ?_
    refine wp_C (i := 133) (pc' := 15) (Li := [.ref 0, .int (-2 : Int32), .float 0]) (rest := []) (fun _ => rfl) h
theorem rg105_15 {t : Nat} {F : ip_F} {G : ip_G} {Q : Option Value → ip_M → Prop} {a1 as0 : Int32} {v2 : Value} (h : Q (some (.int as0)) (hs t, F, G)) : wp 105 15 [.ref 0, .int a1, v2] [.int as0] (hs t, F, G) Q := by
  exact wp_RI rfl rfl h
theorem rg105_26 {t : Nat} {F : ip_F} {G : ip_G} {Q : Option Value → ip_M → Prop} {a1 as0 : Int32} {v2 : Value} (h : (¬ a1 = (1 : Int32) → wp 80 0 [.ref 3, .int as0, .float 0, .float 0] [] (hs t, F, G) (fun v M' => wp 105 47 [.ref 0, .int a1, .int as0] (v.toList ++ []) M' Q)) ∧ (a1 = (1 : Int32) → wp 105 47 [.ref 0, .int a1, .int as0] [.int as0] (hs t, F, G) Q)) : wp 105 26 [.ref 0, .int a1, v2] [.int as0] (hs t, F, G) Q := by
  refine wp_N (j' := 105) (pc' := 29) (L' := [.ref 0, .int a1, .int as0]) (S' := [.int (1 : Int32), .int a1]) (M' := (hs t, F, G)) 2 (fun _ => rfl) ?_
  refine wp_icmp (pc1 := 36) (c := .ne) rfl (fun hc => ?_) (fun hc => ?_)
  · replace h := h.1 hc
    refine wp_N (j' := 105) (pc' := 44) (L' := [.ref 0, .int a1, .int as0]) (S' := [.int as0, .ref 3]) (M' := (hs t, F, G)) 3 (fun _ => rfl) ?_
    refine wp_C (i := 80) (pc' := 47) (Li := [.ref 3, .int as0, .float 0, .float 0]) (rest := []) (fun _ => rfl) h
  · replace h := h.2 (Decidable.not_not.mp hc)
    refine wp_N (j' := 105) (pc' := 47) (L' := [.ref 0, .int a1, .int as0]) (S' := [.int as0]) (M' := (hs t, F, G)) 1 (fun _ => rfl) ?_
    exact h
theorem rg105_47 {t : Nat} {F : ip_F} {G : ip_G} {Q : Option Value → ip_M → Prop} {a1 a2 as0 : Int32} (h : Q (some (.int as0)) (hs t, F, G)) : wp 105 47 [.ref 0, .int a1, .int a2] [.int as0] (hs t, F, G) Q := by
  exact wp_RI rfl rfl h
theorem rg106_0 {t : Nat} {F : ip_F} {G : ip_G} {Q : Option Value → ip_M → Prop} (h : wp 53 0 [.ref 88, .ref 1, .float 0, .float 0, .float 0, .float 0] [] (hs t, F, G) (fun v M' => wp 106 11 [.ref 0] (v.toList ++ []) M' Q)) : wp 106 0 [.ref 0] [] (hs t, F, G) Q := by
  refine wp_N (j' := 106) (pc' := 8) (L' := [.ref 0]) (S' := [.ref 1, .ref 88]) (M' := (hs t, F, G)) 3 (fun _ => rfl) ?_
  refine wp_C (i := 53) (pc' := 11) (Li := [.ref 88, .ref 1, .float 0, .float 0, .float 0, .float 0]) (rest := []) (fun _ => rfl) h
theorem rg106_11 {t : Nat} {F : ip_F} {G : ip_G} {Q : Option Value → ip_M → Prop} {as0 : Int32} (h : Q (some (.int as0)) (hs t, F, G)) : wp 106 11 [.ref 0] [.int as0] (hs t, F, G) Q := by
  exact wp_RI rfl rfl h
theorem rg107_0 {t : Nat} {F : ip_F} {G : ip_G} {Q : Option Value → ip_M → Prop} (h : wp 54 0 [.ref 88, .ref 1, .float 0, .float 0, .float 0] [] (hs t, F, G) (fun v M' => wp 107 11 [.ref 0] (v.toList ++ []) M' Q)) : wp 107 0 [.ref 0] [] (hs t, F, G) Q := by
  refine wp_N (j' := 107) (pc' := 8) (L' := [.ref 0]) (S' := [.ref 1, .ref 88]) (M' := (hs t, F, G)) 3 (fun _ => rfl) ?_
  refine wp_C (i := 54) (pc' := 11) (Li := [.ref 88, .ref 1, .float 0, .float 0, .float 0]) (rest := []) (fun _ => rfl) h
theorem rg107_11 {t : Nat} {F : ip_F} {G : ip_G} {Q : Option Value → ip_M → Prop} {as0 : Int32} (h : Q (some (.int as0)) (hs t, F, G)) : wp 107 11 [.ref 0] [.int as0] (hs t, F, G) Q := by
  exact wp_RI rfl rfl h
theorem rg108_0 {t : Nat} {F : ip_F} {G : ip_G} {Q : Option Value → ip_M → Prop} (h : wp 57 0 [.ref 88, .ref 1, .float 0] [] (hs t, F, G) (fun v M' => wp 108 11 [.ref 0] (v.toList ++ []) M' Q)) : wp 108 0 [.ref 0] [] (hs t, F, G) Q := by
  refine wp_N (j' := 108) (pc' := 8) (L' := [.ref 0]) (S' := [.ref 1, .ref 88]) (M' := (hs t, F, G)) 3 (fun _ => rfl) ?_
  refine wp_C (i := 57) (pc' := 11) (Li := [.ref 88, .ref 1, .float 0]) (rest := []) (fun _ => rfl) h
theorem rg108_11 {t : Nat} {F : ip_F} {G : ip_G} {Q : Option Value → ip_M → Prop} {as0 : Int32} (h : Q (some (.int as0)) (hs t, F, G)) : wp 108 11 [.ref 0] [.int as0] (hs t, F, G) Q := by
  exact wp_RI rfl rfl h
theorem rg109_0 {t : Nat} {F : ip_F} {G : ip_G} {Q : Option Value → ip_M → Prop} (h : wp 79 0 [.ref 3, .float 0, .float 0] [] (hs t, F, G) (fun v M' => wp 109 21 [.ref 0] (v.toList ++ [.int (((1 : Int32) <<< ((F 1 6) &&& 31)) - (1 : Int32))]) M' Q)) : wp 109 0 [.ref 0] [] (hs t, F, G) Q := by
  refine wp_N (j' := 109) (pc' := 18) (L' := [.ref 0]) (S' := [.ref 3, .int (((1 : Int32) <<< ((F 1 6) &&& 31)) - (1 : Int32))]) (M' := (hs t, F, G)) 9 (fun _ => rfl) ?_
  refine wp_C (i := 79) (pc' := 21) (Li := [.ref 3, .float 0, .float 0]) (rest := [.int (((1 : Int32) <<< ((F 1 6) &&& 31)) - (1 : Int32))]) (fun _ => rfl) h
theorem rg109_21 {t : Nat} {F : ip_F} {G : ip_G} {Q : Option Value → ip_M → Prop} {as0 as1 : Int32} (h : Q (some (.int (as0 &&& (as1 ^^^ (-1 : Int32))))) (hs t, F, G)) : wp 109 21 [.ref 0] [.int as1, .int as0] (hs t, F, G) Q := by
  refine wp_N (j' := 109) (pc' := 24) (L' := [.ref 0]) (S' := [.int (as0 &&& (as1 ^^^ (-1 : Int32)))]) (M' := (hs t, F, G)) 2 (fun _ => rfl) ?_
  exact wp_RI rfl rfl h
theorem rg110_0 {t : Nat} {F : ip_F} {G : ip_G} {Q : Option Value → ip_M → Prop} {a1 a2 : Int32} (h : wp 129 0 [.int a1, .int (1 : Int32), .int (11 : Int32)] [] (hs t, F, G) (fun v M' => wp 110 7 [.ref 0, .int a1, .int a2] (v.toList ++ []) M' Q)) : wp 110 0 [.ref 0, .int a1, .int a2] [] (hs t, F, G) Q := by
  refine wp_N (j' := 110) (pc' := 4) (L' := [.ref 0, .int a1, .int a2]) (S' := [.int (11 : Int32), .int (1 : Int32), .int a1]) (M' := (hs t, F, G)) 2 (fun _ => rfl) ?_
  refine wp_C (i := 129) (pc' := 7) (Li := [.int a1, .int (1 : Int32), .int (11 : Int32)]) (rest := []) (fun _ => rfl) h
theorem rg110_7 {t : Nat} {F : ip_F} {G : ip_G} {Q : Option Value → ip_M → Prop} {a1 a2 as0 : Int32} (h : (as0 = (0 : Int32) → wp 110 18 [.ref 0, .int a1, .int a2] [] (hs t, F, G) Q) ∧ (¬ as0 = (0 : Int32) → wp 132 0 [.ref 0, .int a2, .float 0, .float 0, .float 0, .float 0] [] (hs t, F, G) (fun v M' => wp 110 15 [.ref 0, .int a1, .int a2] (v.toList ++ []) M' Q))) : wp 110 7 [.ref 0, .int a1, .int a2] [.int as0] (hs t, F, G) Q := by
  refine wp_ifc (pc1 := 18) (c := .eq) rfl (fun hc => ?_) (fun hc => ?_)
  · replace h := h.1 hc
    exact h
  · replace h := h.2 hc
    refine wp_N (j' := 110) (pc' := 12) (L' := [.ref 0, .int a1, .int a2]) (S' := [.int a2, .ref 0]) (M' := (hs t, F, G)) 1 (fun _ => rfl) ?_
    refine wp_C (i := 132) (pc' := 15) (Li := [.ref 0, .int a2, .float 0, .float 0, .float 0, .float 0]) (rest := []) (fun _ => rfl) h
theorem rg110_15 {t : Nat} {F : ip_F} {G : ip_G} {Q : Option Value → ip_M → Prop} {a1 a2 as0 : Int32} (h : (¬ as0 = (0 : Int32) → ((F 15 1) < (4 : Int32) → wp 46 0 [.ref 15, .int a1, .int a2, .int (0 : Int32), .int (0 : Int32), .float 0] [] (hs t, F, G) (fun v M' => wp 110 60 [.ref 0, .int a1, .int a2] (v.toList ++ []) M' Q)) ∧ ((4 : Int32) ≤ (F 15 1) → wp 133 0 [.ref 0, .int (-4 : Int32), .float 0] [] (hs t, F, G) (fun v M' => wp 110 45 [.ref 0, .int a1, .int a2] (v.toList ++ []) M' Q))) ∧ (as0 = (0 : Int32) → wp 110 18 [.ref 0, .int a1, .int a2] [] (hs t, F, G) Q)) : wp 110 15 [.ref 0, .int a1, .int a2] [.int as0] (hs t, F, G) Q := by
  refine wp_ifc (pc1 := 25) (c := .ne) rfl (fun hc => ?_) (fun hc => ?_)
  · replace h := h.1 hc
    refine wp_N (j' := 110) (pc' := 36) (L' := [.ref 0, .int a1, .int a2]) (S' := [.int (4 : Int32), .int (F 15 1)]) (M' := (hs t, F, G)) 4 (fun _ => rfl) ?_
    refine wp_icmp (pc1 := 46) (c := .lt) rfl (fun hc => ?_) (fun hc => ?_)
    · replace h := h.1 hc
      refine wp_N (j' := 110) (pc' := 57) (L' := [.ref 0, .int a1, .int a2]) (S' := [.int (0 : Int32), .int (0 : Int32), .int a2, .int a1, .ref 15]) (M' := (hs t, F, G)) 6 (fun _ => rfl) ?_
      refine wp_C (i := 46) (pc' := 60) (Li := [.ref 15, .int a1, .int a2, .int (0 : Int32), .int (0 : Int32), .float 0]) (rest := []) (fun _ => rfl) h
    · replace h := h.2 (Int32.not_lt.mp hc)
      refine wp_N (j' := 110) (pc' := 42) (L' := [.ref 0, .int a1, .int a2]) (S' := [.int (-4 : Int32), .ref 0]) (M' := (hs t, F, G)) 1 (fun _ => rfl) ?_
      refine wp_C (i := 133) (pc' := 45) (Li := [.ref 0, .int (-4 : Int32), .float 0]) (rest := []) (fun _ => rfl) h
  · replace h := h.2 (Decidable.not_not.mp hc)
    exact h
theorem rg110_18 {t : Nat} {F : ip_F} {G : ip_G} {Q : Option Value → ip_M → Prop} {a1 a2 : Int32} (h : wp 133 0 [.ref 0, .int (-2 : Int32), .float 0] [] (hs t, F, G) (fun v M' => wp 110 24 [.ref 0, .int a1, .int a2] (v.toList ++ []) M' Q)) : wp 110 18 [.ref 0, .int a1, .int a2] [] (hs t, F, G) Q := by
  refine wp_N (j' := 110) (pc' := 21) (L' := [.ref 0, .int a1, .int a2]) (S' := [.int (-2 : Int32), .ref 0]) (M' := (hs t, F, G)) 1 (fun _ => rfl) ?_
  refine wp_C (i := 133) (pc' := 24) (Li := [.ref 0, .int (-2 : Int32), .float 0]) (rest := []) (fun _ => rfl) h
theorem rg110_24 {t : Nat} {F : ip_F} {G : ip_G} {Q : Option Value → ip_M → Prop} {a1 a2 as0 : Int32} (h : Q (some (.int as0)) (hs t, F, G)) : wp 110 24 [.ref 0, .int a1, .int a2] [.int as0] (hs t, F, G) Q := by
  exact wp_RI rfl rfl h
theorem rg110_45 {t : Nat} {F : ip_F} {G : ip_G} {Q : Option Value → ip_M → Prop} {a1 a2 as0 : Int32} (h : Q (some (.int as0)) (hs t, F, G)) : wp 110 45 [.ref 0, .int a1, .int a2] [.int as0] (hs t, F, G) Q := by
  exact wp_RI rfl rfl h
theorem rg110_60 {t : Nat} {F : ip_F} {G : ip_G} {Q : Option Value → ip_M → Prop} {a1 a2 as0 : Int32} (h : Q (some (.int as0)) (hs t, F, G)) : wp 110 60 [.ref 0, .int a1, .int a2] [.int as0] (hs t, F, G) Q := by
  exact wp_RI rfl rfl h
theorem rg111_0 {t : Nat} {F : ip_F} {G : ip_G} {Q : Option Value → ip_M → Prop} {a1 : Int32} (h : wp 129 0 [.int a1, .int (0 : Int32), .int (2 : Int32)] [] (hs t, F, G) (fun v M' => wp 111 6 [.ref 0, .int a1] (v.toList ++ []) M' Q)) : wp 111 0 [.ref 0, .int a1] [] (hs t, F, G) Q := by
  refine wp_N (j' := 111) (pc' := 3) (L' := [.ref 0, .int a1]) (S' := [.int (2 : Int32), .int (0 : Int32), .int a1]) (M' := (hs t, F, G)) 2 (fun _ => rfl) ?_
  refine wp_C (i := 129) (pc' := 6) (Li := [.int a1, .int (0 : Int32), .int (2 : Int32)]) (rest := []) (fun _ => rfl) h
theorem rg111_6 {t : Nat} {F : ip_F} {G : ip_G} {Q : Option Value → ip_M → Prop} {a1 as0 : Int32} (h : (¬ as0 = (0 : Int32) → wp 2 0 [.ref 124, .ref 1, .ref 89, .float 0, .float 0] [] (hs t, F, G) (fun v M' => wp 111 34 [.ref 0, .int a1] (v.toList ++ []) M' Q)) ∧ (as0 = (0 : Int32) → wp 133 0 [.ref 0, .int (-2 : Int32), .float 0] [] (hs t, F, G) (fun v M' => wp 111 15 [.ref 0, .int a1] (v.toList ++ []) M' Q))) : wp 111 6 [.ref 0, .int a1] [.int as0] (hs t, F, G) Q := by
  refine wp_ifc (pc1 := 16) (c := .ne) rfl (fun hc => ?_) (fun hc => ?_)
  · replace h := h.1 hc
    refine wp_N (j' := 111) (pc' := 31) (L' := [.ref 0, .int a1]) (S' := [.ref 89, .ref 1, .ref 124]) (M' := (hs t, F, G)) 6 (fun _ => rfl) ?_
    refine wp_C (i := 2) (pc' := 34) (Li := [.ref 124, .ref 1, .ref 89, .float 0, .float 0]) (rest := []) (fun _ => rfl) h
  · replace h := h.2 (Decidable.not_not.mp hc)
    refine wp_N (j' := 111) (pc' := 12) (L' := [.ref 0, .int a1]) (S' := [.int (-2 : Int32), .ref 0]) (M' := (hs t, F, G)) 1 (fun _ => rfl) ?_
    refine wp_C (i := 133) (pc' := 15) (Li := [.ref 0, .int (-2 : Int32), .float 0]) (rest := []) (fun _ => rfl) h
theorem rg111_15 {t : Nat} {F : ip_F} {G : ip_G} {Q : Option Value → ip_M → Prop} {a1 as0 : Int32} (h : Q (some (.int as0)) (hs t, F, G)) : wp 111 15 [.ref 0, .int a1] [.int as0] (hs t, F, G) Q := by
  exact wp_RI rfl rfl h
theorem rg111_34 {t : Nat} {F : ip_F} {G : ip_G} {Q : Option Value → ip_M → Prop} {a1 : Int32} (h : (¬ a1 = (0 : Int32) → (¬ a1 = (1 : Int32) → wp 6 0 [.ref 124, .float 0, .float 0] [] (hs t, F, G) (fun v M' => wp 111 68 [.ref 0, .int a1] (v.toList ++ []) M' Q)) ∧ (a1 = (1 : Int32) → wp 5 0 [.ref 124, .float 0, .float 0] [] (hs t, F, G) (fun v M' => wp 111 58 [.ref 0, .int a1] (v.toList ++ []) M' Q))) ∧ (a1 = (0 : Int32) → Q (some (.int (F 124 3))) (hs t, F, G))) : wp 111 34 [.ref 0, .int a1] [] (hs t, F, G) Q := by
  refine wp_N (j' := 111) (pc' := 35) (L' := [.ref 0, .int a1]) (S' := [.int a1]) (M' := (hs t, F, G)) 0 (fun _ => rfl) ?_
  refine wp_ifc (pc1 := 46) (c := .ne) rfl (fun hc => ?_) (fun hc => ?_)
  · replace h := h.1 hc
    refine wp_N (j' := 111) (pc' := 48) (L' := [.ref 0, .int a1]) (S' := [.int (1 : Int32), .int a1]) (M' := (hs t, F, G)) 1 (fun _ => rfl) ?_
    refine wp_icmp (pc1 := 61) (c := .ne) rfl (fun hc => ?_) (fun hc => ?_)
    · replace h := h.1 hc
      refine wp_N (j' := 111) (pc' := 65) (L' := [.ref 0, .int a1]) (S' := [.ref 124]) (M' := (hs t, F, G)) 1 (fun _ => rfl) ?_
      refine wp_C (i := 6) (pc' := 68) (Li := [.ref 124, .float 0, .float 0]) (rest := []) (fun _ => rfl) h
    · replace h := h.2 (Decidable.not_not.mp hc)
      refine wp_N (j' := 111) (pc' := 55) (L' := [.ref 0, .int a1]) (S' := [.ref 124]) (M' := (hs t, F, G)) 1 (fun _ => rfl) ?_
      refine wp_C (i := 5) (pc' := 58) (Li := [.ref 124, .float 0, .float 0]) (rest := []) (fun _ => rfl) h
  · replace h := h.2 (Decidable.not_not.mp hc)
    refine wp_N (j' := 111) (pc' := 45) (L' := [.ref 0, .int a1]) (S' := [.int (F 124 3)]) (M' := (hs t, F, G)) 2 (fun _ => rfl) ?_
    exact wp_RI rfl rfl h
theorem rg111_58 {t : Nat} {F : ip_F} {G : ip_G} {Q : Option Value → ip_M → Prop} {a1 as0 : Int32} (h : wp 111 68 [.ref 0, .int a1] [.int as0] (hs t, F, G) Q) : wp 111 58 [.ref 0, .int a1] [.int as0] (hs t, F, G) Q := by
  refine wp_N (j' := 111) (pc' := 68) (L' := [.ref 0, .int a1]) (S' := [.int as0]) (M' := (hs t, F, G)) 0 (fun _ => rfl) ?_
  exact h
theorem rg111_68 {t : Nat} {F : ip_F} {G : ip_G} {Q : Option Value → ip_M → Prop} {a1 as0 : Int32} (h : Q (some (.int as0)) (hs t, F, G)) : wp 111 68 [.ref 0, .int a1] [.int as0] (hs t, F, G) Q := by
  exact wp_RI rfl rfl h
theorem rg112_0 {t : Nat} {F : ip_F} {G : ip_G} {Q : Option Value → ip_M → Prop} (h : wp 2 0 [.ref 124, .ref 1, .ref 89, .float 0, .float 0] [] (hs t, F, G) (fun v M' => wp 112 18 [.ref 0] (v.toList ++ []) M' Q)) : wp 112 0 [.ref 0] [] (hs t, F, G) Q := by
  refine wp_N (j' := 112) (pc' := 15) (L' := [.ref 0]) (S' := [.ref 89, .ref 1, .ref 124]) (M' := (hs t, F, G)) 6 (fun _ => rfl) ?_
  refine wp_C (i := 2) (pc' := 18) (Li := [.ref 124, .ref 1, .ref 89, .float 0, .float 0]) (rest := []) (fun _ => rfl) h
theorem rg112_18 {t : Nat} {F : ip_F} {G : ip_G} {Q : Option Value → ip_M → Prop} (h : wp 7 0 [.ref 124, .float 0, .float 0, .float 0, .float 0] [] (hs t, F, G) (fun v M' => wp 112 25 [.ref 0] (v.toList ++ []) M' Q)) : wp 112 18 [.ref 0] [] (hs t, F, G) Q := by
  refine wp_N (j' := 112) (pc' := 22) (L' := [.ref 0]) (S' := [.ref 124]) (M' := (hs t, F, G)) 1 (fun _ => rfl) ?_
  refine wp_C (i := 7) (pc' := 25) (Li := [.ref 124, .float 0, .float 0, .float 0, .float 0]) (rest := []) (fun _ => rfl) h
theorem rg112_25 {t : Nat} {F : ip_F} {G : ip_G} {Q : Option Value → ip_M → Prop} {as0 : Int32} (h : Q (some (.int as0)) (hs t, F, G)) : wp 112 25 [.ref 0] [.int as0] (hs t, F, G) Q := by
  exact wp_RI rfl rfl h
theorem rg113_0 {t : Nat} {F : ip_F} {G : ip_G} {Q : Option Value → ip_M → Prop} {a1 a2 a3 : Int32} (h : wp 130 0 [.ref 0, .int a1] [] (hs t, F, G) (fun v M' => wp 113 5 [.ref 0, .int a1, .int a2, .int a3] (v.toList ++ []) M' Q)) : wp 113 0 [.ref 0, .int a1, .int a2, .int a3] [] (hs t, F, G) Q := by
  refine wp_N (j' := 113) (pc' := 2) (L' := [.ref 0, .int a1, .int a2, .int a3]) (S' := [.int a1, .ref 0]) (M' := (hs t, F, G)) 1 (fun _ => rfl) ?_
  refine wp_C (i := 130) (pc' := 5) (Li := [.ref 0, .int a1]) (rest := []) (fun _ => rfl) h
theorem rg113_5 {t : Nat} {F : ip_F} {G : ip_G} {Q : Option Value → ip_M → Prop} {a1 a2 a3 as0 : Int32} (h : (as0 = (0 : Int32) → wp 113 28 [.ref 0, .int a1, .int a2, .int a3] [] (hs t, F, G) Q) ∧ (¬ as0 = (0 : Int32) → wp 129 0 [.int a2, .int (1 : Int32), .int (6 : Int32)] [] (hs t, F, G) (fun v M' => wp 113 15 [.ref 0, .int a1, .int a2, .int a3] (v.toList ++ []) M' Q))) : wp 113 5 [.ref 0, .int a1, .int a2, .int a3] [.int as0] (hs t, F, G) Q := by
  refine wp_ifc (pc1 := 28) (c := .eq) rfl (fun hc => ?_) (fun hc => ?_)
  · replace h := h.1 hc
    exact h
  · replace h := h.2 hc
    refine wp_N (j' := 113) (pc' := 12) (L' := [.ref 0, .int a1, .int a2, .int a3]) (S' := [.int (6 : Int32), .int (1 : Int32), .int a2]) (M' := (hs t, F, G)) 2 (fun _ => rfl) ?_
    refine wp_C (i := 129) (pc' := 15) (Li := [.int a2, .int (1 : Int32), .int (6 : Int32)]) (rest := []) (fun _ => rfl) h
theorem rg113_15 {t : Nat} {F : ip_F} {G : ip_G} {Q : Option Value → ip_M → Prop} {a1 a2 a3 as0 : Int32} (h : (as0 = (0 : Int32) → wp 113 28 [.ref 0, .int a1, .int a2, .int a3] [] (hs t, F, G) Q) ∧ (¬ as0 = (0 : Int32) → wp 129 0 [.int a3, .int (1 : Int32), .int (6 : Int32)] [] (hs t, F, G) (fun v M' => wp 113 25 [.ref 0, .int a1, .int a2, .int a3] (v.toList ++ []) M' Q))) : wp 113 15 [.ref 0, .int a1, .int a2, .int a3] [.int as0] (hs t, F, G) Q := by
  refine wp_ifc (pc1 := 28) (c := .eq) rfl (fun hc => ?_) (fun hc => ?_)
  · replace h := h.1 hc
    exact h
  · replace h := h.2 hc
    refine wp_N (j' := 113) (pc' := 22) (L' := [.ref 0, .int a1, .int a2, .int a3]) (S' := [.int (6 : Int32), .int (1 : Int32), .int a3]) (M' := (hs t, F, G)) 2 (fun _ => rfl) ?_
    refine wp_C (i := 129) (pc' := 25) (Li := [.int a3, .int (1 : Int32), .int (6 : Int32)]) (rest := []) (fun _ => rfl) h
theorem rg113_25 {t : Nat} {F : ip_F} {G : ip_G} {Q : Option Value → ip_M → Prop} {a1 a2 a3 as0 : Int32} (h : (¬ as0 = (0 : Int32) → ((F 17 1) < (6 : Int32) → wp 46 0 [.ref 17, .int a1, .int a2, .int a3, .int (0 : Int32), .float 0] [] (hs t, F, G) (fun v M' => wp 113 71 [.ref 0, .int a1, .int a2, .int a3] (v.toList ++ []) M' Q)) ∧ ((6 : Int32) ≤ (F 17 1) → wp 133 0 [.ref 0, .int (-4 : Int32), .float 0] [] (hs t, F, G) (fun v M' => wp 113 56 [.ref 0, .int a1, .int a2, .int a3] (v.toList ++ []) M' Q))) ∧ (as0 = (0 : Int32) → wp 113 28 [.ref 0, .int a1, .int a2, .int a3] [] (hs t, F, G) Q)) : wp 113 25 [.ref 0, .int a1, .int a2, .int a3] [.int as0] (hs t, F, G) Q := by
  refine wp_ifc (pc1 := 35) (c := .ne) rfl (fun hc => ?_) (fun hc => ?_)
  · replace h := h.1 hc
    refine wp_N (j' := 113) (pc' := 47) (L' := [.ref 0, .int a1, .int a2, .int a3]) (S' := [.int (6 : Int32), .int (F 17 1)]) (M' := (hs t, F, G)) 4 (fun _ => rfl) ?_
    refine wp_icmp (pc1 := 57) (c := .lt) rfl (fun hc => ?_) (fun hc => ?_)
    · replace h := h.1 hc
      refine wp_N (j' := 113) (pc' := 68) (L' := [.ref 0, .int a1, .int a2, .int a3]) (S' := [.int (0 : Int32), .int a3, .int a2, .int a1, .ref 17]) (M' := (hs t, F, G)) 6 (fun _ => rfl) ?_
      refine wp_C (i := 46) (pc' := 71) (Li := [.ref 17, .int a1, .int a2, .int a3, .int (0 : Int32), .float 0]) (rest := []) (fun _ => rfl) h
    · replace h := h.2 (Int32.not_lt.mp hc)
      refine wp_N (j' := 113) (pc' := 53) (L' := [.ref 0, .int a1, .int a2, .int a3]) (S' := [.int (-4 : Int32), .ref 0]) (M' := (hs t, F, G)) 1 (fun _ => rfl) ?_
      refine wp_C (i := 133) (pc' := 56) (Li := [.ref 0, .int (-4 : Int32), .float 0]) (rest := []) (fun _ => rfl) h
  · replace h := h.2 (Decidable.not_not.mp hc)
    exact h
theorem rg113_28 {t : Nat} {F : ip_F} {G : ip_G} {Q : Option Value → ip_M → Prop} {a1 a2 a3 : Int32} (h : wp 133 0 [.ref 0, .int (-2 : Int32), .float 0] [] (hs t, F, G) (fun v M' => wp 113 34 [.ref 0, .int a1, .int a2, .int a3] (v.toList ++ []) M' Q)) : wp 113 28 [.ref 0, .int a1, .int a2, .int a3] [] (hs t, F, G) Q := by
  refine wp_N (j' := 113) (pc' := 31) (L' := [.ref 0, .int a1, .int a2, .int a3]) (S' := [.int (-2 : Int32), .ref 0]) (M' := (hs t, F, G)) 1 (fun _ => rfl) ?_
  refine wp_C (i := 133) (pc' := 34) (Li := [.ref 0, .int (-2 : Int32), .float 0]) (rest := []) (fun _ => rfl) h
theorem rg113_34 {t : Nat} {F : ip_F} {G : ip_G} {Q : Option Value → ip_M → Prop} {a1 a2 a3 as0 : Int32} (h : Q (some (.int as0)) (hs t, F, G)) : wp 113 34 [.ref 0, .int a1, .int a2, .int a3] [.int as0] (hs t, F, G) Q := by
  exact wp_RI rfl rfl h
theorem rg113_56 {t : Nat} {F : ip_F} {G : ip_G} {Q : Option Value → ip_M → Prop} {a1 a2 a3 as0 : Int32} (h : Q (some (.int as0)) (hs t, F, G)) : wp 113 56 [.ref 0, .int a1, .int a2, .int a3] [.int as0] (hs t, F, G) Q := by
  exact wp_RI rfl rfl h
theorem rg113_71 {t : Nat} {F : ip_F} {G : ip_G} {Q : Option Value → ip_M → Prop} {a1 a2 a3 as0 : Int32} (h : Q (some (.int as0)) (hs t, F, G)) : wp 113 71 [.ref 0, .int a1, .int a2, .int a3] [.int as0] (hs t, F, G) Q := by
  exact wp_RI rfl rfl h
theorem rg114_0 {t : Nat} {F : ip_F} {G : ip_G} {Q : Option Value → ip_M → Prop} {a1 a2 a3 a4 : Int32} (h : wp 130 0 [.ref 0, .int a1] [] (hs t, F, G) (fun v M' => wp 114 5 [.ref 0, .int a1, .int a2, .int a3, .int a4] (v.toList ++ []) M' Q)) : wp 114 0 [.ref 0, .int a1, .int a2, .int a3, .int a4] [] (hs t, F, G) Q := by
  refine wp_N (j' := 114) (pc' := 2) (L' := [.ref 0, .int a1, .int a2, .int a3, .int a4]) (S' := [.int a1, .ref 0]) (M' := (hs t, F, G)) 1 (fun _ => rfl) ?_
  refine wp_C (i := 130) (pc' := 5) (Li := [.ref 0, .int a1]) (rest := []) (fun _ => rfl) h
theorem rg114_5 {t : Nat} {F : ip_F} {G : ip_G} {Q : Option Value → ip_M → Prop} {a1 a2 a3 a4 as0 : Int32} (h : (as0 = (0 : Int32) → wp 114 38 [.ref 0, .int a1, .int a2, .int a3, .int a4] [] (hs t, F, G) Q) ∧ (¬ as0 = (0 : Int32) → wp 129 0 [.int a2, .int (0 : Int32), .int (99 : Int32)] [] (hs t, F, G) (fun v M' => wp 114 15 [.ref 0, .int a1, .int a2, .int a3, .int a4] (v.toList ++ []) M' Q))) : wp 114 5 [.ref 0, .int a1, .int a2, .int a3, .int a4] [.int as0] (hs t, F, G) Q := by
  refine wp_ifc (pc1 := 38) (c := .eq) rfl (fun hc => ?_) (fun hc => ?_)
  · replace h := h.1 hc
    exact h
  · replace h := h.2 hc
    refine wp_N (j' := 114) (pc' := 12) (L' := [.ref 0, .int a1, .int a2, .int a3, .int a4]) (S' := [.int (99 : Int32), .int (0 : Int32), .int a2]) (M' := (hs t, F, G)) 2 (fun _ => rfl) ?_
    refine wp_C (i := 129) (pc' := 15) (Li := [.int a2, .int (0 : Int32), .int (99 : Int32)]) (rest := []) (fun _ => rfl) h
theorem rg114_15 {t : Nat} {F : ip_F} {G : ip_G} {Q : Option Value → ip_M → Prop} {a1 a2 a3 a4 as0 : Int32} (h : (as0 = (0 : Int32) → wp 114 38 [.ref 0, .int a1, .int a2, .int a3, .int a4] [] (hs t, F, G) Q) ∧ (¬ as0 = (0 : Int32) → wp 129 0 [.int a3, .int (0 : Int32), .int (99 : Int32)] [] (hs t, F, G) (fun v M' => wp 114 25 [.ref 0, .int a1, .int a2, .int a3, .int a4] (v.toList ++ []) M' Q))) : wp 114 15 [.ref 0, .int a1, .int a2, .int a3, .int a4] [.int as0] (hs t, F, G) Q := by
  refine wp_ifc (pc1 := 38) (c := .eq) rfl (fun hc => ?_) (fun hc => ?_)
  · replace h := h.1 hc
    exact h
  · replace h := h.2 hc
    refine wp_N (j' := 114) (pc' := 22) (L' := [.ref 0, .int a1, .int a2, .int a3, .int a4]) (S' := [.int (99 : Int32), .int (0 : Int32), .int a3]) (M' := (hs t, F, G)) 2 (fun _ => rfl) ?_
    refine wp_C (i := 129) (pc' := 25) (Li := [.int a3, .int (0 : Int32), .int (99 : Int32)]) (rest := []) (fun _ => rfl) h
theorem rg114_25 {t : Nat} {F : ip_F} {G : ip_G} {Q : Option Value → ip_M → Prop} {a1 a2 a3 a4 as0 : Int32} (h : (as0 = (0 : Int32) → wp 114 38 [.ref 0, .int a1, .int a2, .int a3, .int a4] [] (hs t, F, G) Q) ∧ (¬ as0 = (0 : Int32) → wp 129 0 [.int a4, .int (0 : Int32), .int (1 : Int32)] [] (hs t, F, G) (fun v M' => wp 114 35 [.ref 0, .int a1, .int a2, .int a3, .int a4] (v.toList ++ []) M' Q))) : wp 114 25 [.ref 0, .int a1, .int a2, .int a3, .int a4] [.int as0] (hs t, F, G) Q := by
  refine wp_ifc (pc1 := 38) (c := .eq) rfl (fun hc => ?_) (fun hc => ?_)
  · replace h := h.1 hc
    exact h
  · replace h := h.2 hc
    refine wp_N (j' := 114) (pc' := 32) (L' := [.ref 0, .int a1, .int a2, .int a3, .int a4]) (S' := [.int (1 : Int32), .int (0 : Int32), .int a4]) (M' := (hs t, F, G)) 2 (fun _ => rfl) ?_
    refine wp_C (i := 129) (pc' := 35) (Li := [.int a4, .int (0 : Int32), .int (1 : Int32)]) (rest := []) (fun _ => rfl) h
theorem rg114_35 {t : Nat} {F : ip_F} {G : ip_G} {Q : Option Value → ip_M → Prop} {a1 a2 a3 a4 as0 : Int32} (h : (¬ as0 = (0 : Int32) → ((F 19 1) < (6 : Int32) → wp 46 0 [.ref 19, .int a1, .int a2, .int a3, .int a4, .float 0] [] (hs t, F, G) (fun v M' => wp 114 82 [.ref 0, .int a1, .int a2, .int a3, .int a4] (v.toList ++ []) M' Q)) ∧ ((6 : Int32) ≤ (F 19 1) → wp 133 0 [.ref 0, .int (-4 : Int32), .float 0] [] (hs t, F, G) (fun v M' => wp 114 66 [.ref 0, .int a1, .int a2, .int a3, .int a4] (v.toList ++ []) M' Q))) ∧ (as0 = (0 : Int32) → wp 114 38 [.ref 0, .int a1, .int a2, .int a3, .int a4] [] (hs t, F, G) Q)) : wp 114 35 [.ref 0, .int a1, .int a2, .int a3, .int a4] [.int as0] (hs t, F, G) Q := by
  refine wp_ifc (pc1 := 45) (c := .ne) rfl (fun hc => ?_) (fun hc => ?_)
  · replace h := h.1 hc
    refine wp_N (j' := 114) (pc' := 57) (L' := [.ref 0, .int a1, .int a2, .int a3, .int a4]) (S' := [.int (6 : Int32), .int (F 19 1)]) (M' := (hs t, F, G)) 4 (fun _ => rfl) ?_
    refine wp_icmp (pc1 := 67) (c := .lt) rfl (fun hc => ?_) (fun hc => ?_)
    · replace h := h.1 hc
      refine wp_N (j' := 114) (pc' := 79) (L' := [.ref 0, .int a1, .int a2, .int a3, .int a4]) (S' := [.int a4, .int a3, .int a2, .int a1, .ref 19]) (M' := (hs t, F, G)) 6 (fun _ => rfl) ?_
      refine wp_C (i := 46) (pc' := 82) (Li := [.ref 19, .int a1, .int a2, .int a3, .int a4, .float 0]) (rest := []) (fun _ => rfl) h
    · replace h := h.2 (Int32.not_lt.mp hc)
      refine wp_N (j' := 114) (pc' := 63) (L' := [.ref 0, .int a1, .int a2, .int a3, .int a4]) (S' := [.int (-4 : Int32), .ref 0]) (M' := (hs t, F, G)) 1 (fun _ => rfl) ?_
      refine wp_C (i := 133) (pc' := 66) (Li := [.ref 0, .int (-4 : Int32), .float 0]) (rest := []) (fun _ => rfl) h
  · replace h := h.2 (Decidable.not_not.mp hc)
    exact h
theorem rg114_38 {t : Nat} {F : ip_F} {G : ip_G} {Q : Option Value → ip_M → Prop} {a1 a2 a3 a4 : Int32} (h : wp 133 0 [.ref 0, .int (-2 : Int32), .float 0] [] (hs t, F, G) (fun v M' => wp 114 44 [.ref 0, .int a1, .int a2, .int a3, .int a4] (v.toList ++ []) M' Q)) : wp 114 38 [.ref 0, .int a1, .int a2, .int a3, .int a4] [] (hs t, F, G) Q := by
  refine wp_N (j' := 114) (pc' := 41) (L' := [.ref 0, .int a1, .int a2, .int a3, .int a4]) (S' := [.int (-2 : Int32), .ref 0]) (M' := (hs t, F, G)) 1 (fun _ => rfl) ?_
  refine wp_C (i := 133) (pc' := 44) (Li := [.ref 0, .int (-2 : Int32), .float 0]) (rest := []) (fun _ => rfl) h
theorem rg114_44 {t : Nat} {F : ip_F} {G : ip_G} {Q : Option Value → ip_M → Prop} {a1 a2 a3 a4 as0 : Int32} (h : Q (some (.int as0)) (hs t, F, G)) : wp 114 44 [.ref 0, .int a1, .int a2, .int a3, .int a4] [.int as0] (hs t, F, G) Q := by
  exact wp_RI rfl rfl h
theorem rg114_66 {t : Nat} {F : ip_F} {G : ip_G} {Q : Option Value → ip_M → Prop} {a1 a2 a3 a4 as0 : Int32} (h : Q (some (.int as0)) (hs t, F, G)) : wp 114 66 [.ref 0, .int a1, .int a2, .int a3, .int a4] [.int as0] (hs t, F, G) Q := by
  exact wp_RI rfl rfl h
theorem rg114_82 {t : Nat} {F : ip_F} {G : ip_G} {Q : Option Value → ip_M → Prop} {a1 a2 a3 a4 as0 : Int32} (h : Q (some (.int as0)) (hs t, F, G)) : wp 114 82 [.ref 0, .int a1, .int a2, .int a3, .int a4] [.int as0] (hs t, F, G) Q := by
  exact wp_RI rfl rfl h
theorem rg115_0 {t : Nat} {F : ip_F} {G : ip_G} {Q : Option Value → ip_M → Prop} {o : Nat} {a1 : Int32} (ho : ok4 t o) (h : wp 129 0 [.int a1, .int (0 : Int32), .int (2 : Int32)] [] (hs t, F, G) (fun v M' => wp 115 6 [.ref 0, .int a1, .float 0] (v.toList ++ []) M' Q)) : wp 115 0 [.ref 0, .int a1, .float 0] [] (hs t, F, G) Q := by
  refine wp_N (j' := 115) (pc' := 3) (L' := [.ref 0, .int a1, .float 0]) (S' := [.int (2 : Int32), .int (0 : Int32), .int a1]) (M' := (hs t, F, G)) 2 (fun _ => rfl) ?_
  refine wp_C (i := 129) (pc' := 6) (Li := [.int a1, .int (0 : Int32), .int (2 : Int32)]) (rest := []) (fun _ => rfl) h
theorem rg115_6 {t : Nat} {F : ip_F} {G : ip_G} {Q : Option Value → ip_M → Prop} {o : Nat} {a1 as0 : Int32} {v2 : Value} (ho : ok4 t o) (h : (¬ as0 = (0 : Int32) → (¬ a1 = (0 : Int32) → (¬ a1 = (1 : Int32) → wp 115 52 [.ref 0, .int a1, v2] [.ref 19] (hs t, F, G) Q) ∧ (a1 = (1 : Int32) → wp 115 52 [.ref 0, .int a1, v2] [.ref 17] (hs t, F, G) Q)) ∧ (a1 = (0 : Int32) → wp 115 52 [.ref 0, .int a1, v2] [.ref 15] (hs t, F, G) Q)) ∧ (as0 = (0 : Int32) → wp 133 0 [.ref 0, .int (-2 : Int32), .float 0] [] (hs t, F, G) (fun v M' => wp 115 15 [.ref 0, .int a1, v2] (v.toList ++ []) M' Q))) : wp 115 6 [.ref 0, .int a1, v2] [.int as0] (hs t, F, G) Q := by
  refine wp_ifc (pc1 := 16) (c := .ne) rfl (fun hc => ?_) (fun hc => ?_)
  · replace h := h.1 hc
    refine wp_N (j' := 115) (pc' := 17) (L' := [.ref 0, .int a1, v2]) (S' := [.int a1]) (M' := (hs t, F, G)) 0 (fun _ => rfl) ?_
    refine wp_ifc (pc1 := 30) (c := .ne) rfl (fun hc => ?_) (fun hc => ?_)
    · replace h := h.1 hc
      refine wp_N (j' := 115) (pc' := 32) (L' := [.ref 0, .int a1, v2]) (S' := [.int (1 : Int32), .int a1]) (M' := (hs t, F, G)) 1 (fun _ => rfl) ?_
      refine wp_icmp (pc1 := 45) (c := .ne) rfl (fun hc => ?_) (fun hc => ?_)
      · replace h := h.1 hc
        refine wp_N (j' := 115) (pc' := 52) (L' := [.ref 0, .int a1, v2]) (S' := [.ref 19]) (M' := (hs t, F, G)) 2 (fun _ => rfl) ?_
        exact h
      · replace h := h.2 (Decidable.not_not.mp hc)
        refine wp_N (j' := 115) (pc' := 52) (L' := [.ref 0, .int a1, v2]) (S' := [.ref 17]) (M' := (hs t, F, G)) 3 (fun _ => rfl) ?_
        exact h
    · replace h := h.2 (Decidable.not_not.mp hc)
      refine wp_N (j' := 115) (pc' := 52) (L' := [.ref 0, .int a1, v2]) (S' := [.ref 15]) (M' := (hs t, F, G)) 3 (fun _ => rfl) ?_
      exact h
  · replace h := h.2 (Decidable.not_not.mp hc)
    refine wp_N (j' := 115) (pc' := 12) (L' := [.ref 0, .int a1, v2]) (S' := [.int (-2 : Int32), .ref 0]) (M' := (hs t, F, G)) 1 (fun _ => rfl) ?_
    refine wp_C (i := 133) (pc' := 15) (Li := [.ref 0, .int (-2 : Int32), .float 0]) (rest := []) (fun _ => rfl) h
theorem rg115_15 {t : Nat} {F : ip_F} {G : ip_G} {Q : Option Value → ip_M → Prop} {o : Nat} {a1 as0 : Int32} {v2 : Value} (ho : ok4 t o) (h : Q (some (.int as0)) (hs t, F, G)) : wp 115 15 [.ref 0, .int a1, v2] [.int as0] (hs t, F, G) Q := by
  exact wp_RI rfl rfl h
theorem rg115_52 {t : Nat} {F : ip_F} {G : ip_G} {Q : Option Value → ip_M → Prop} {o : Nat} {a1 : Int32} {v2 : Value} (ho : ok4 t o) (h : wp 49 0 [.ref o, .float 0] [] (hs t, F, G) (fun v M' => wp 115 57 [.ref 0, .int a1, .ref o] (v.toList ++ []) M' Q)) : wp 115 52 [.ref 0, .int a1, v2] [.ref o] (hs t, F, G) Q := by
  refine wp_N (j' := 115) (pc' := 54) (L' := [.ref 0, .int a1, .ref o]) (S' := [.ref o]) (M' := (hs t, F, G)) 1 (fun _ => rfl) ?_
  refine wp_CV (as := []) (S := []) rfl ho.1 rfl rfl rfl (Nat.le_of_ble_eq_true rfl) rfl ⟨rfl, rfl⟩ rfl h
theorem rg115_57 {t : Nat} {F : ip_F} {G : ip_G} {Q : Option Value → ip_M → Prop} {o : Nat} {a1 as0 : Int32} (ho : ok4 t o) (h : Q (some (.int as0)) (hs t, F, G)) : wp 115 57 [.ref 0, .int a1, .ref o] [.int as0] (hs t, F, G) Q := by
  exact wp_RI rfl rfl h
theorem rg116_0 {t : Nat} {F : ip_F} {G : ip_G} {Q : Option Value → ip_M → Prop} {a1 : Int32} (h : wp 130 0 [.ref 0, .int a1] [] (hs t, F, G) (fun v M' => wp 116 5 [.ref 0, .int a1] (v.toList ++ []) M' Q)) : wp 116 0 [.ref 0, .int a1] [] (hs t, F, G) Q := by
  refine wp_N (j' := 116) (pc' := 2) (L' := [.ref 0, .int a1]) (S' := [.int a1, .ref 0]) (M' := (hs t, F, G)) 1 (fun _ => rfl) ?_
  refine wp_C (i := 130) (pc' := 5) (Li := [.ref 0, .int a1]) (rest := []) (fun _ => rfl) h
theorem rg116_5 {t : Nat} {F : ip_F} {G : ip_G} {Q : Option Value → ip_M → Prop} {a1 as0 : Int32} (h : (as0 = (0 : Int32) → wp 133 0 [.ref 0, .int (-2 : Int32), .float 0] [] (hs t, F, G) (fun v M' => wp 116 28 [.ref 0, .int a1] (v.toList ++ []) M' Q)) ∧ (¬ as0 = (0 : Int32) → wp 9 0 [.ref 17, .int a1, .float 0, .float 0, .float 0, .float 0, .float 0] [] (hs t, F, G) (fun v M' => wp 116 19 [.ref 0, .int a1] (v.toList ++ []) M' Q))) : wp 116 5 [.ref 0, .int a1] [.int as0] (hs t, F, G) Q := by
  refine wp_ifc (pc1 := 22) (c := .eq) rfl (fun hc => ?_) (fun hc => ?_)
  · replace h := h.1 hc
    refine wp_N (j' := 116) (pc' := 25) (L' := [.ref 0, .int a1]) (S' := [.int (-2 : Int32), .ref 0]) (M' := (hs t, F, G)) 1 (fun _ => rfl) ?_
    refine wp_C (i := 133) (pc' := 28) (Li := [.ref 0, .int (-2 : Int32), .float 0]) (rest := []) (fun _ => rfl) h
  · replace h := h.2 hc
    refine wp_N (j' := 116) (pc' := 16) (L' := [.ref 0, .int a1]) (S' := [.int a1, .ref 17]) (M' := (hs t, F, G)) 3 (fun _ => rfl) ?_
    refine wp_C (i := 9) (pc' := 19) (Li := [.ref 17, .int a1, .float 0, .float 0, .float 0, .float 0, .float 0]) (rest := []) (fun _ => rfl) h
theorem rg116_19 {t : Nat} {F : ip_F} {G : ip_G} {Q : Option Value → ip_M → Prop} {a1 as0 : Int32} (h : wp 116 28 [.ref 0, .int a1] [.int as0] (hs t, F, G) Q) : wp 116 19 [.ref 0, .int a1] [.int as0] (hs t, F, G) Q := by
  refine wp_N (j' := 116) (pc' := 28) (L' := [.ref 0, .int a1]) (S' := [.int as0]) (M' := (hs t, F, G)) 0 (fun _ => rfl) ?_
  exact h
theorem rg116_28 {t : Nat} {F : ip_F} {G : ip_G} {Q : Option Value → ip_M → Prop} {a1 as0 : Int32} (h : Q (some (.int as0)) (hs t, F, G)) : wp 116 28 [.ref 0, .int a1] [.int as0] (hs t, F, G) Q := by
  exact wp_RI rfl rfl h
theorem rg117_0 {t : Nat} {F : ip_F} {G : ip_G} {Q : Option Value → ip_M → Prop} {a1 : Int32} (h : wp 130 0 [.ref 0, .int a1] [] (hs t, F, G) (fun v M' => wp 117 5 [.ref 0, .int a1] (v.toList ++ []) M' Q)) : wp 117 0 [.ref 0, .int a1] [] (hs t, F, G) Q := by
  refine wp_N (j' := 117) (pc' := 2) (L' := [.ref 0, .int a1]) (S' := [.int a1, .ref 0]) (M' := (hs t, F, G)) 1 (fun _ => rfl) ?_
  refine wp_C (i := 130) (pc' := 5) (Li := [.ref 0, .int a1]) (rest := []) (fun _ => rfl) h
theorem rg117_5 {t : Nat} {F : ip_F} {G : ip_G} {Q : Option Value → ip_M → Prop} {a1 as0 : Int32} (h : (as0 = (0 : Int32) → wp 133 0 [.ref 0, .int (-2 : Int32), .float 0] [] (hs t, F, G) (fun v M' => wp 117 35 [.ref 0, .int a1] (v.toList ++ []) M' Q)) ∧ (¬ as0 = (0 : Int32) → wp 9 0 [.ref 17, .int a1, .float 0, .float 0, .float 0, .float 0, .float 0] [] (hs t, F, G) (fun v M' => wp 117 23 [.ref 0, .int a1] (v.toList ++ [.ref 124]) M' Q))) : wp 117 5 [.ref 0, .int a1] [.int as0] (hs t, F, G) Q := by
  refine wp_ifc (pc1 := 29) (c := .eq) rfl (fun hc => ?_) (fun hc => ?_)
  · replace h := h.1 hc
    refine wp_N (j' := 117) (pc' := 32) (L' := [.ref 0, .int a1]) (S' := [.int (-2 : Int32), .ref 0]) (M' := (hs t, F, G)) 1 (fun _ => rfl) ?_
    refine wp_C (i := 133) (pc' := 35) (Li := [.ref 0, .int (-2 : Int32), .float 0]) (rest := []) (fun _ => rfl) h
  · replace h := h.2 hc
    refine wp_N (j' := 117) (pc' := 20) (L' := [.ref 0, .int a1]) (S' := [.int a1, .ref 17, .ref 124]) (M' := (hs t, F, G)) 5 (fun _ => rfl) ?_
    refine wp_C (i := 9) (pc' := 23) (Li := [.ref 17, .int a1, .float 0, .float 0, .float 0, .float 0, .float 0]) (rest := [.ref 124]) (fun _ => rfl) h
theorem rg117_23 {t : Nat} {F : ip_F} {G : ip_G} {Q : Option Value → ip_M → Prop} {a1 as1 : Int32} (h : wp 10 0 [.ref 124, .int as1, .float 0, .float 0, .float 0, .float 0] [] (hs t, F, G) (fun v M' => wp 117 26 [.ref 0, .int a1] (v.toList ++ []) M' Q)) : wp 117 23 [.ref 0, .int a1] [.int as1, .ref 124] (hs t, F, G) Q := by
  refine wp_C (i := 10) (pc' := 26) (Li := [.ref 124, .int as1, .float 0, .float 0, .float 0, .float 0]) (rest := []) (fun _ => rfl) h
theorem rg117_26 {t : Nat} {F : ip_F} {G : ip_G} {Q : Option Value → ip_M → Prop} {a1 as0 : Int32} (h : wp 117 35 [.ref 0, .int a1] [.int as0] (hs t, F, G) Q) : wp 117 26 [.ref 0, .int a1] [.int as0] (hs t, F, G) Q := by
  refine wp_N (j' := 117) (pc' := 35) (L' := [.ref 0, .int a1]) (S' := [.int as0]) (M' := (hs t, F, G)) 0 (fun _ => rfl) ?_
  exact h
theorem rg117_35 {t : Nat} {F : ip_F} {G : ip_G} {Q : Option Value → ip_M → Prop} {a1 as0 : Int32} (h : Q (some (.int as0)) (hs t, F, G)) : wp 117 35 [.ref 0, .int a1] [.int as0] (hs t, F, G) Q := by
  exact wp_RI rfl rfl h
theorem rg118_0 {t : Nat} {F : ip_F} {G : ip_G} {Q : Option Value → ip_M → Prop} {a1 : Int32} (h : wp 130 0 [.ref 0, .int a1] [] (hs t, F, G) (fun v M' => wp 118 5 [.ref 0, .int a1] (v.toList ++ []) M' Q)) : wp 118 0 [.ref 0, .int a1] [] (hs t, F, G) Q := by
  refine wp_N (j' := 118) (pc' := 2) (L' := [.ref 0, .int a1]) (S' := [.int a1, .ref 0]) (M' := (hs t, F, G)) 1 (fun _ => rfl) ?_
  refine wp_C (i := 130) (pc' := 5) (Li := [.ref 0, .int a1]) (rest := []) (fun _ => rfl) h
theorem rg118_5 {t : Nat} {F : ip_F} {G : ip_G} {Q : Option Value → ip_M → Prop} {a1 as0 : Int32} (h : (as0 = (0 : Int32) → wp 133 0 [.ref 0, .int (-2 : Int32), .float 0] [] (hs t, F, G) (fun v M' => wp 118 28 [.ref 0, .int a1] (v.toList ++ []) M' Q)) ∧ (¬ as0 = (0 : Int32) → wp 12 0 [.ref 19, .int a1, .float 0, .float 0, .float 0, .float 0, .float 0] [] (hs t, F, G) (fun v M' => wp 118 19 [.ref 0, .int a1] (v.toList ++ []) M' Q))) : wp 118 5 [.ref 0, .int a1] [.int as0] (hs t, F, G) Q := by
  refine wp_ifc (pc1 := 22) (c := .eq) rfl (fun hc => ?_) (fun hc => ?_)
  · replace h := h.1 hc
    refine wp_N (j' := 118) (pc' := 25) (L' := [.ref 0, .int a1]) (S' := [.int (-2 : Int32), .ref 0]) (M' := (hs t, F, G)) 1 (fun _ => rfl) ?_
    refine wp_C (i := 133) (pc' := 28) (Li := [.ref 0, .int (-2 : Int32), .float 0]) (rest := []) (fun _ => rfl) h
  · replace h := h.2 hc
    refine wp_N (j' := 118) (pc' := 16) (L' := [.ref 0, .int a1]) (S' := [.int a1, .ref 19]) (M' := (hs t, F, G)) 3 (fun _ => rfl) ?_
    refine wp_C (i := 12) (pc' := 19) (Li := [.ref 19, .int a1, .float 0, .float 0, .float 0, .float 0, .float 0]) (rest := []) (fun _ => rfl) h
theorem rg118_19 {t : Nat} {F : ip_F} {G : ip_G} {Q : Option Value → ip_M → Prop} {a1 as0 : Int32} (h : wp 118 28 [.ref 0, .int a1] [.int as0] (hs t, F, G) Q) : wp 118 19 [.ref 0, .int a1] [.int as0] (hs t, F, G) Q := by
  refine wp_N (j' := 118) (pc' := 28) (L' := [.ref 0, .int a1]) (S' := [.int as0]) (M' := (hs t, F, G)) 0 (fun _ => rfl) ?_
  exact h
theorem rg118_28 {t : Nat} {F : ip_F} {G : ip_G} {Q : Option Value → ip_M → Prop} {a1 as0 : Int32} (h : Q (some (.int as0)) (hs t, F, G)) : wp 118 28 [.ref 0, .int a1] [.int as0] (hs t, F, G) Q := by
  exact wp_RI rfl rfl h
theorem rg119_0 {t : Nat} {F : ip_F} {G : ip_G} {Q : Option Value → ip_M → Prop} {a1 : Int32} (h : wp 130 0 [.ref 0, .int a1] [] (hs t, F, G) (fun v M' => wp 119 5 [.ref 0, .int a1] (v.toList ++ []) M' Q)) : wp 119 0 [.ref 0, .int a1] [] (hs t, F, G) Q := by
  refine wp_N (j' := 119) (pc' := 2) (L' := [.ref 0, .int a1]) (S' := [.int a1, .ref 0]) (M' := (hs t, F, G)) 1 (fun _ => rfl) ?_
  refine wp_C (i := 130) (pc' := 5) (Li := [.ref 0, .int a1]) (rest := []) (fun _ => rfl) h
theorem rg119_5 {t : Nat} {F : ip_F} {G : ip_G} {Q : Option Value → ip_M → Prop} {a1 as0 : Int32} (h : (as0 = (0 : Int32) → wp 133 0 [.ref 0, .int (-2 : Int32), .float 0] [] (hs t, F, G) (fun v M' => wp 119 31 [.ref 0, .int a1] (v.toList ++ []) M' Q)) ∧ (¬ as0 = (0 : Int32) → wp 12 0 [.ref 19, .int a1, .float 0, .float 0, .float 0, .float 0, .float 0] [] (hs t, F, G) (fun v M' => wp 119 19 [.ref 0, .int a1] (v.toList ++ []) M' Q))) : wp 119 5 [.ref 0, .int a1] [.int as0] (hs t, F, G) Q := by
  refine wp_ifc (pc1 := 25) (c := .eq) rfl (fun hc => ?_) (fun hc => ?_)
  · replace h := h.1 hc
    refine wp_N (j' := 119) (pc' := 28) (L' := [.ref 0, .int a1]) (S' := [.int (-2 : Int32), .ref 0]) (M' := (hs t, F, G)) 1 (fun _ => rfl) ?_
    refine wp_C (i := 133) (pc' := 31) (Li := [.ref 0, .int (-2 : Int32), .float 0]) (rest := []) (fun _ => rfl) h
  · replace h := h.2 hc
    refine wp_N (j' := 119) (pc' := 16) (L' := [.ref 0, .int a1]) (S' := [.int a1, .ref 19]) (M' := (hs t, F, G)) 3 (fun _ => rfl) ?_
    refine wp_C (i := 12) (pc' := 19) (Li := [.ref 19, .int a1, .float 0, .float 0, .float 0, .float 0, .float 0]) (rest := []) (fun _ => rfl) h
theorem rg119_19 {t : Nat} {F : ip_F} {G : ip_G} {Q : Option Value → ip_M → Prop} {a1 as0 : Int32} (h : wp 13 0 [.int as0, .float 0, .float 0, .float 0, .float 0, .float 0] [] (hs t, F, G) (fun v M' => wp 119 22 [.ref 0, .int a1] (v.toList ++ []) M' Q)) : wp 119 19 [.ref 0, .int a1] [.int as0] (hs t, F, G) Q := by
  refine wp_C (i := 13) (pc' := 22) (Li := [.int as0, .float 0, .float 0, .float 0, .float 0, .float 0]) (rest := []) (fun _ => rfl) h
theorem rg119_22 {t : Nat} {F : ip_F} {G : ip_G} {Q : Option Value → ip_M → Prop} {a1 as0 : Int32} (h : wp 119 31 [.ref 0, .int a1] [.int as0] (hs t, F, G) Q) : wp 119 22 [.ref 0, .int a1] [.int as0] (hs t, F, G) Q := by
  refine wp_N (j' := 119) (pc' := 31) (L' := [.ref 0, .int a1]) (S' := [.int as0]) (M' := (hs t, F, G)) 0 (fun _ => rfl) ?_
  exact h
theorem rg119_31 {t : Nat} {F : ip_F} {G : ip_G} {Q : Option Value → ip_M → Prop} {a1 as0 : Int32} (h : Q (some (.int as0)) (hs t, F, G)) : wp 119 31 [.ref 0, .int a1] [.int as0] (hs t, F, G) Q := by
  exact wp_RI rfl rfl h
theorem rg120_0 {t : Nat} {F : ip_F} {G : ip_G} {Q : Option Value → ip_M → Prop} {a1 a2 : Int32} (h : wp 130 0 [.ref 0, .int a1] [] (hs t, F, G) (fun v M' => wp 120 5 [.ref 0, .int a1, .int a2] (v.toList ++ []) M' Q)) : wp 120 0 [.ref 0, .int a1, .int a2] [] (hs t, F, G) Q := by
  refine wp_N (j' := 120) (pc' := 2) (L' := [.ref 0, .int a1, .int a2]) (S' := [.int a1, .ref 0]) (M' := (hs t, F, G)) 1 (fun _ => rfl) ?_
  refine wp_C (i := 130) (pc' := 5) (Li := [.ref 0, .int a1]) (rest := []) (fun _ => rfl) h
theorem rg120_5 {t : Nat} {F : ip_F} {G : ip_G} {Q : Option Value → ip_M → Prop} {a1 a2 as0 : Int32} (h : (as0 = (0 : Int32) → wp 120 21 [.ref 0, .int a1, .int a2] [] (hs t, F, G) Q) ∧ (¬ as0 = (0 : Int32) → wp 130 0 [.ref 0, .int a2] [] (hs t, F, G) (fun v M' => wp 120 13 [.ref 0, .int a1, .int a2] (v.toList ++ []) M' Q))) : wp 120 5 [.ref 0, .int a1, .int a2] [.int as0] (hs t, F, G) Q := by
  refine wp_ifc (pc1 := 21) (c := .eq) rfl (fun hc => ?_) (fun hc => ?_)
  · replace h := h.1 hc
    exact h
  · replace h := h.2 hc
    refine wp_N (j' := 120) (pc' := 10) (L' := [.ref 0, .int a1, .int a2]) (S' := [.int a2, .ref 0]) (M' := (hs t, F, G)) 1 (fun _ => rfl) ?_
    refine wp_C (i := 130) (pc' := 13) (Li := [.ref 0, .int a2]) (rest := []) (fun _ => rfl) h
theorem rg120_13 {t : Nat} {F : ip_F} {G : ip_G} {Q : Option Value → ip_M → Prop} {a1 a2 as0 : Int32} (h : (as0 = (0 : Int32) → wp 120 21 [.ref 0, .int a1, .int a2] [] (hs t, F, G) Q) ∧ (¬ as0 = (0 : Int32) → (¬ a1 = a2 → wp 71 0 [.ref 3, .int a1] [] (hs t, F, G) (fun v M' => wp 120 39 [.ref 0, .int a1, .int a2] (v.toList ++ []) M' Q)) ∧ (a1 = a2 → wp 120 21 [.ref 0, .int a1, .int a2] [] (hs t, F, G) Q))) : wp 120 13 [.ref 0, .int a1, .int a2] [.int as0] (hs t, F, G) Q := by
  refine wp_ifc (pc1 := 21) (c := .eq) rfl (fun hc => ?_) (fun hc => ?_)
  · replace h := h.1 hc
    exact h
  · replace h := h.2 hc
    refine wp_N (j' := 120) (pc' := 18) (L' := [.ref 0, .int a1, .int a2]) (S' := [.int a2, .int a1]) (M' := (hs t, F, G)) 1 (fun _ => rfl) ?_
    refine wp_icmp (pc1 := 28) (c := .ne) rfl (fun hc => ?_) (fun hc => ?_)
    · replace h := h.1 hc
      refine wp_N (j' := 120) (pc' := 36) (L' := [.ref 0, .int a1, .int a2]) (S' := [.int a1, .ref 3]) (M' := (hs t, F, G)) 3 (fun _ => rfl) ?_
      refine wp_C (i := 71) (pc' := 39) (Li := [.ref 3, .int a1]) (rest := []) (fun _ => rfl) h
    · replace h := h.2 (Decidable.not_not.mp hc)
      exact h
theorem rg120_21 {t : Nat} {F : ip_F} {G : ip_G} {Q : Option Value → ip_M → Prop} {a1 a2 : Int32} (h : wp 133 0 [.ref 0, .int (-2 : Int32), .float 0] [] (hs t, F, G) (fun v M' => wp 120 27 [.ref 0, .int a1, .int a2] (v.toList ++ []) M' Q)) : wp 120 21 [.ref 0, .int a1, .int a2] [] (hs t, F, G) Q := by
  refine wp_N (j' := 120) (pc' := 24) (L' := [.ref 0, .int a1, .int a2]) (S' := [.int (-2 : Int32), .ref 0]) (M' := (hs t, F, G)) 1 (fun _ => rfl) ?_
  refine wp_C (i := 133) (pc' := 27) (Li := [.ref 0, .int (-2 : Int32), .float 0]) (rest := []) (fun _ => rfl) h
theorem rg120_27 {t : Nat} {F : ip_F} {G : ip_G} {Q : Option Value → ip_M → Prop} {a1 a2 as0 : Int32} (h : Q (some (.int as0)) (hs t, F, G)) : wp 120 27 [.ref 0, .int a1, .int a2] [.int as0] (hs t, F, G) Q := by
  exact wp_RI rfl rfl h
theorem rg120_39 {t : Nat} {F : ip_F} {G : ip_G} {Q : Option Value → ip_M → Prop} {a1 a2 as0 : Int32} (h : (as0 = (0 : Int32) → wp 120 56 [.ref 0, .int a1, .int a2] [] (hs t, F, G) Q) ∧ (¬ as0 = (0 : Int32) → wp 71 0 [.ref 3, .int a2] [] (hs t, F, G) (fun v M' => wp 120 53 [.ref 0, .int a1, .int a2] (v.toList ++ []) M' Q))) : wp 120 39 [.ref 0, .int a1, .int a2] [.int as0] (hs t, F, G) Q := by
  refine wp_ifc (pc1 := 56) (c := .eq) rfl (fun hc => ?_) (fun hc => ?_)
  · replace h := h.1 hc
    exact h
  · replace h := h.2 hc
    refine wp_N (j' := 120) (pc' := 50) (L' := [.ref 0, .int a1, .int a2]) (S' := [.int a2, .ref 3]) (M' := (hs t, F, G)) 3 (fun _ => rfl) ?_
    refine wp_C (i := 71) (pc' := 53) (Li := [.ref 3, .int a2]) (rest := []) (fun _ => rfl) h
theorem rg120_53 {t : Nat} {F : ip_F} {G : ip_G} {Q : Option Value → ip_M → Prop} {a1 a2 as0 : Int32} (h : (¬ as0 = (0 : Int32) → wp 59 0 [.ref 88, .ref 1, .int a1, .int a2, .float 0, .float 0, .float 0, .float 0] [] (hs t, F, G) (fun v M' => wp 120 76 [.ref 0, .int a1, .int a2] (v.toList ++ []) M' Q)) ∧ (as0 = (0 : Int32) → wp 120 56 [.ref 0, .int a1, .int a2] [] (hs t, F, G) Q)) : wp 120 53 [.ref 0, .int a1, .int a2] [.int as0] (hs t, F, G) Q := by
  refine wp_ifc (pc1 := 63) (c := .ne) rfl (fun hc => ?_) (fun hc => ?_)
  · replace h := h.1 hc
    refine wp_N (j' := 120) (pc' := 73) (L' := [.ref 0, .int a1, .int a2]) (S' := [.int a2, .int a1, .ref 1, .ref 88]) (M' := (hs t, F, G)) 5 (fun _ => rfl) ?_
    refine wp_C (i := 59) (pc' := 76) (Li := [.ref 88, .ref 1, .int a1, .int a2, .float 0, .float 0, .float 0, .float 0]) (rest := []) (fun _ => rfl) h
  · replace h := h.2 (Decidable.not_not.mp hc)
    exact h
theorem rg120_56 {t : Nat} {F : ip_F} {G : ip_G} {Q : Option Value → ip_M → Prop} {a1 a2 : Int32} (h : wp 133 0 [.ref 0, .int (-3 : Int32), .float 0] [] (hs t, F, G) (fun v M' => wp 120 62 [.ref 0, .int a1, .int a2] (v.toList ++ []) M' Q)) : wp 120 56 [.ref 0, .int a1, .int a2] [] (hs t, F, G) Q := by
  refine wp_N (j' := 120) (pc' := 59) (L' := [.ref 0, .int a1, .int a2]) (S' := [.int (-3 : Int32), .ref 0]) (M' := (hs t, F, G)) 1 (fun _ => rfl) ?_
  refine wp_C (i := 133) (pc' := 62) (Li := [.ref 0, .int (-3 : Int32), .float 0]) (rest := []) (fun _ => rfl) h
theorem rg120_62 {t : Nat} {F : ip_F} {G : ip_G} {Q : Option Value → ip_M → Prop} {a1 a2 as0 : Int32} (h : Q (some (.int as0)) (hs t, F, G)) : wp 120 62 [.ref 0, .int a1, .int a2] [.int as0] (hs t, F, G) Q := by
  exact wp_RI rfl rfl h
theorem rg120_76 {t : Nat} {F : ip_F} {G : ip_G} {Q : Option Value → ip_M → Prop} {a1 a2 as0 : Int32} (h : Q (some (.int as0)) (hs t, F, G)) : wp 120 76 [.ref 0, .int a1, .int a2] [.int as0] (hs t, F, G) Q := by
  exact wp_RI rfl rfl h
theorem rg121_0 {t : Nat} {F : ip_F} {G : ip_G} {Q : Option Value → ip_M → Prop} {a1 : Int32} (h : wp 129 0 [.int a1, .int (0 : Int32), .int (10 : Int32)] [] (hs t, F, G) (fun v M' => wp 121 7 [.ref 0, .int a1, .float 0, .float 0, .float 0, .float 0, .float 0, .float 0] (v.toList ++ []) M' Q)) : wp 121 0 [.ref 0, .int a1, .float 0, .float 0, .float 0, .float 0, .float 0, .float 0] [] (hs t, F, G) Q := by
  refine wp_N (j' := 121) (pc' := 4) (L' := [.ref 0, .int a1, .float 0, .float 0, .float 0, .float 0, .float 0, .float 0]) (S' := [.int (10 : Int32), .int (0 : Int32), .int a1]) (M' := (hs t, F, G)) 2 (fun _ => rfl) ?_
  refine wp_C (i := 129) (pc' := 7) (Li := [.int a1, .int (0 : Int32), .int (10 : Int32)]) (rest := []) (fun _ => rfl) h
theorem rg121_7 {t : Nat} {F : ip_F} {G : ip_G} {Q : Option Value → ip_M → Prop} {a1 as0 : Int32} {v2 v3 v4 v5 v6 v7 : Value} (h : (¬ as0 = (0 : Int32) → wp 79 0 [.ref 3, .float 0, .float 0] [] (hs t, F, G) (fun v M' => wp 121 30 [.ref 0, .int a1, v2, v3, v4, v5, v6, v7] (v.toList ++ [.long (10 : Int64)]) M' Q)) ∧ (as0 = (0 : Int32) → wp 133 0 [.ref 0, .int (-2 : Int32), .float 0] [] (hs t, F, G) (fun v M' => wp 121 16 [.ref 0, .int a1, v2, v3, v4, v5, v6, v7] (v.toList ++ []) M' Q))) : wp 121 7 [.ref 0, .int a1, v2, v3, v4, v5, v6, v7] [.int as0] (hs t, F, G) Q := by
  refine wp_ifc (pc1 := 17) (c := .ne) rfl (fun hc => ?_) (fun hc => ?_)
  · replace h := h.1 hc
    refine wp_ldc2 (v := (10 : Int64)) rfl rfl rfl ?_
    refine wp_N (j' := 121) (pc' := 27) (L' := [.ref 0, .int a1, v2, v3, v4, v5, v6, v7]) (S' := [.ref 3, .long (10 : Int64)]) (M' := (hs t, F, G)) 2 (fun _ => rfl) ?_
    refine wp_C (i := 79) (pc' := 30) (Li := [.ref 3, .float 0, .float 0]) (rest := [.long (10 : Int64)]) (fun _ => rfl) h
  · replace h := h.2 (Decidable.not_not.mp hc)
    refine wp_N (j' := 121) (pc' := 13) (L' := [.ref 0, .int a1, v2, v3, v4, v5, v6, v7]) (S' := [.int (-2 : Int32), .ref 0]) (M' := (hs t, F, G)) 1 (fun _ => rfl) ?_
    refine wp_C (i := 133) (pc' := 16) (Li := [.ref 0, .int (-2 : Int32), .float 0]) (rest := []) (fun _ => rfl) h
theorem rg121_16 {t : Nat} {F : ip_F} {G : ip_G} {Q : Option Value → ip_M → Prop} {a1 as0 : Int32} {v2 v3 v4 v5 v6 v7 : Value} (h : Q (some (.int as0)) (hs t, F, G)) : wp 121 16 [.ref 0, .int a1, v2, v3, v4, v5, v6, v7] [.int as0] (hs t, F, G) Q := by
  exact wp_RI rfl rfl h
theorem rg121_30 {t : Nat} {F : ip_F} {G : ip_G} {Q : Option Value → ip_M → Prop} {a1 as1 : Int32} {bs0 : Int64} {v2 v3 v4 v5 v6 v7 : Value} (h : wp 236 0 [.int as1] [] (hs t, F, G) (fun v M' => wp 121 33 [.ref 0, .int a1, v2, v3, v4, v5, v6, v7] (v.toList ++ [.long bs0]) M' Q)) : wp 121 30 [.ref 0, .int a1, v2, v3, v4, v5, v6, v7] [.int as1, .long bs0] (hs t, F, G) Q := by
  refine wp_C (i := 236) (pc' := 33) (Li := [.int as1]) (rest := [.long bs0]) (fun _ => rfl) h
theorem rg121_33 {t : Nat} {F : ip_F} {G : ip_G} {Q : Option Value → ip_M → Prop} {a1 as1 : Int32} {bs0 : Int64} {v2 v3 v4 v5 v6 v7 : Value} (h : wp 138 0 [.long bs0, .float 0, .int as1, .float 0, .float 0, .float 0] [] (hs t, F, G) (fun v M' => wp 121 36 [.ref 0, .int a1, v2, v3, v4, v5, v6, v7] (v.toList ++ []) M' Q)) : wp 121 33 [.ref 0, .int a1, v2, v3, v4, v5, v6, v7] [.int as1, .long bs0] (hs t, F, G) Q := by
  refine wp_C (i := 138) (pc' := 36) (Li := [.long bs0, .float 0, .int as1, .float 0, .float 0, .float 0]) (rest := []) (fun _ => rfl) h
theorem rg121_36 {t : Nat} {F : ip_F} {G : ip_G} {Q : Option Value → ip_M → Prop} {a1 : Int32} {bs0 : Int64} {v2 v3 v4 v5 v6 v7 : Value} (h : wp 58 0 [.ref 88, .ref 1, .int a1, .float 0, .float 0, .float 0, .float 0, .float 0, .float 0] [] (hs t, F, G) (fun v M' => wp 121 49 [.ref 0, .int a1, .long bs0, .float 0, v4, v5, v6, v7] (v.toList ++ []) M' Q)) : wp 121 36 [.ref 0, .int a1, v2, v3, v4, v5, v6, v7] [.long bs0] (hs t, F, G) Q := by
  refine wp_N (j' := 121) (pc' := 46) (L' := [.ref 0, .int a1, .long bs0, .float 0, v4, v5, v6, v7]) (S' := [.int a1, .ref 1, .ref 88]) (M' := (hs t, F, G)) 5 (fun _ => rfl) ?_
  refine wp_C (i := 58) (pc' := 49) (Li := [.ref 88, .ref 1, .int a1, .float 0, .float 0, .float 0, .float 0, .float 0, .float 0]) (rest := []) (fun _ => rfl) h
theorem rg121_49 {t : Nat} {F : ip_F} {G : ip_G} {Q : Option Value → ip_M → Prop} {a1 : Int32} {b2 bs0 : Int64} {v3 v4 v5 v6 v7 : Value} (h : wp 139 0 [.long b2, .float 0, .long bs0, .float 0, .float 0, .float 0, .float 0, .float 0, .float 0, .float 0, .float 0] [] (hs t, F, G) (fun v M' => wp 121 57 [.ref 0, .int a1, .long b2, (ip_unl v3), .long bs0, .float 0, v6, v7] (v.toList ++ []) M' Q)) : wp 121 49 [.ref 0, .int a1, .long b2, v3, v4, v5, v6, v7] [.long bs0] (hs t, F, G) Q := by
  refine wp_N (j' := 121) (pc' := 54) (L' := [.ref 0, .int a1, .long b2, (ip_unl v3), .long bs0, .float 0, v6, v7]) (S' := [.long bs0, .long b2]) (M' := (hs t, F, G)) 2 (fun _ => rfl) ?_
  refine wp_C (i := 139) (pc' := 57) (Li := [.long b2, .float 0, .long bs0, .float 0, .float 0, .float 0, .float 0, .float 0, .float 0, .float 0, .float 0]) (rest := []) (fun _ => rfl) h
theorem rg121_57 {t : Nat} {F : ip_F} {G : ip_G} {Q : Option Value → ip_M → Prop} {a1 : Int32} {b2 b4 bs0 : Int64} {v3 v5 v6 v7 : Value} (h : ((lg_cmp bs0 (0 : Int64)) ≤ (0 : Int32) → wp 121 77 [.ref 0, .int a1, .long b2, v3, .long b4, (ip_unl v5), .long bs0, .float 0] [.long b4, .ref 0] (hs t, F, G) Q) ∧ ((0 : Int32) < (lg_cmp bs0 (0 : Int64)) → (¬ bs0 = 0) ∧ (wp 121 77 [.ref 0, .int a1, .long b2, v3, .long b4, (ip_unl v5), .long bs0, .float 0] [.long (b4 / bs0), .ref 0] (hs t, F, G) Q))) : wp 121 57 [.ref 0, .int a1, .long b2, v3, .long b4, v5, v6, v7] [.long bs0] (hs t, F, G) Q := by
  refine wp_N (j' := 121) (pc' := 64) (L' := [.ref 0, .int a1, .long b2, v3, .long b4, (ip_unl v5), .long bs0, .float 0]) (S' := [.int (lg_cmp bs0 (0 : Int64)), .ref 0]) (M' := (hs t, F, G)) 4 (fun _ => rfl) ?_
  refine wp_ifc (pc1 := 75) (c := .le) rfl (fun hc => ?_) (fun hc => ?_)
  · replace h := h.1 hc
    refine wp_N (j' := 121) (pc' := 77) (L' := [.ref 0, .int a1, .long b2, v3, .long b4, (ip_unl v5), .long bs0, .float 0]) (S' := [.long b4, .ref 0]) (M' := (hs t, F, G)) 0 (fun _ => rfl) ?_
    exact h
  · replace h := h.2 (Int32.not_le.mp hc)
    refine wp_N (j' := 121) (pc' := 71) (L' := [.ref 0, .int a1, .long b2, v3, .long b4, (ip_unl v5), .long bs0, .float 0]) (S' := [.long bs0, .long b4, .ref 0]) (M' := (hs t, F, G)) 1 (fun _ => rfl) ?_
    obtain ⟨h1_, h⟩ := h
    refine wp_ldiv rfl h1_ ?_
    refine wp_N (j' := 121) (pc' := 77) (L' := [.ref 0, .int a1, .long b2, v3, .long b4, (ip_unl v5), .long bs0, .float 0]) (S' := [.long (b4 / bs0), .ref 0]) (M' := (hs t, F, G)) 0 (fun _ => rfl) ?_
    exact h
theorem rg121_77 {t : Nat} {F : ip_F} {G : ip_G} {Q : Option Value → ip_M → Prop} {a1 : Int32} {b2 b4 b6 bs1 : Int64} {v3 v5 v7 : Value} (h : ((lg_cmp b6 (0 : Int64)) ≤ (0 : Int32) → wp 121 96 [.ref 0, .int a1, .long b2, v3, .long b4, v5, .long b6, v7] [.long b2, .ref 0] (hs t, F, (ip_ul G 0 9 bs1)) Q) ∧ ((0 : Int32) < (lg_cmp b6 (0 : Int64)) → (¬ b6 = 0) ∧ (wp 121 96 [.ref 0, .int a1, .long b2, v3, .long b4, v5, .long b6, v7] [.long (b2 / b6), .ref 0] (hs t, F, (ip_ul G 0 9 bs1)) Q))) : wp 121 77 [.ref 0, .int a1, .long b2, v3, .long b4, v5, .long b6, v7] [.long bs1, .ref 0] (hs t, F, G) Q := by
  refine wp_putL rfl rfl rfl rfl rfl rfl (by decide) ?_
  refine wp_N (j' := 121) (pc' := 85) (L' := [.ref 0, .int a1, .long b2, v3, .long b4, v5, .long b6, v7]) (S' := [.int (lg_cmp b6 (0 : Int64)), .ref 0]) (M' := (hs t, F, (ip_ul G 0 9 bs1))) 3 (fun _ => rfl) ?_
  refine wp_ifc (pc1 := 95) (c := .le) rfl (fun hc => ?_) (fun hc => ?_)
  · replace h := h.1 hc
    refine wp_N (j' := 121) (pc' := 96) (L' := [.ref 0, .int a1, .long b2, v3, .long b4, v5, .long b6, v7]) (S' := [.long b2, .ref 0]) (M' := (hs t, F, (ip_ul G 0 9 bs1))) 0 (fun _ => rfl) ?_
    exact h
  · replace h := h.2 (Int32.not_le.mp hc)
    refine wp_N (j' := 121) (pc' := 91) (L' := [.ref 0, .int a1, .long b2, v3, .long b4, v5, .long b6, v7]) (S' := [.long b6, .long b2, .ref 0]) (M' := (hs t, F, (ip_ul G 0 9 bs1))) 1 (fun _ => rfl) ?_
    obtain ⟨h1_, h⟩ := h
    refine wp_ldiv rfl h1_ ?_
    refine wp_N (j' := 121) (pc' := 96) (L' := [.ref 0, .int a1, .long b2, v3, .long b4, v5, .long b6, v7]) (S' := [.long (b2 / b6), .ref 0]) (M' := (hs t, F, (ip_ul G 0 9 bs1))) 0 (fun _ => rfl) ?_
    exact h
theorem rg121_96 {t : Nat} {F : ip_F} {G : ip_G} {Q : Option Value → ip_M → Prop} {a1 : Int32} {b2 b4 b6 bs1 : Int64} {v3 v5 v7 : Value} (h : Q (some (.int (1 : Int32))) (hs t, F, (ip_ul G 0 10 bs1))) : wp 121 96 [.ref 0, .int a1, .long b2, v3, .long b4, v5, .long b6, v7] [.long bs1, .ref 0] (hs t, F, G) Q := by
  refine wp_putL rfl rfl rfl rfl rfl rfl (by decide) ?_
  refine wp_N (j' := 121) (pc' := 100) (L' := [.ref 0, .int a1, .long b2, v3, .long b4, v5, .long b6, v7]) (S' := [.int (1 : Int32)]) (M' := (hs t, F, (ip_ul G 0 10 bs1))) 0 (fun _ => rfl) ?_
  exact wp_RI rfl rfl h
theorem rg122_0 {t : Nat} {F : ip_F} {G : ip_G} {Q : Option Value → ip_M → Prop} {a1 a2 : Int32} (h : wp 129 0 [.int a1, .int (0 : Int32), .int (999999 : Int32)] [] (hs t, F, G) (fun v M' => wp 122 8 [.ref 0, .int a1, .int a2] (v.toList ++ []) M' Q)) : wp 122 0 [.ref 0, .int a1, .int a2] [] (hs t, F, G) Q := by
  refine wp_N (j' := 122) (pc' := 5) (L' := [.ref 0, .int a1, .int a2]) (S' := [.int (999999 : Int32), .int (0 : Int32), .int a1]) (M' := (hs t, F, G)) 2 (fun _ => rfl) ?_
  refine wp_C (i := 129) (pc' := 8) (Li := [.int a1, .int (0 : Int32), .int (999999 : Int32)]) (rest := []) (fun _ => rfl) h
theorem rg122_8 {t : Nat} {F : ip_F} {G : ip_G} {Q : Option Value → ip_M → Prop} {a1 a2 as0 : Int32} (h : (as0 = (0 : Int32) → wp 122 21 [.ref 0, .int a1, .int a2] [] (hs t, F, G) Q) ∧ (¬ as0 = (0 : Int32) → wp 129 0 [.int a2, .int (0 : Int32), .int (60 : Int32)] [] (hs t, F, G) (fun v M' => wp 122 18 [.ref 0, .int a1, .int a2] (v.toList ++ []) M' Q))) : wp 122 8 [.ref 0, .int a1, .int a2] [.int as0] (hs t, F, G) Q := by
  refine wp_ifc (pc1 := 21) (c := .eq) rfl (fun hc => ?_) (fun hc => ?_)
  · replace h := h.1 hc
    exact h
  · replace h := h.2 hc
    refine wp_N (j' := 122) (pc' := 15) (L' := [.ref 0, .int a1, .int a2]) (S' := [.int (60 : Int32), .int (0 : Int32), .int a2]) (M' := (hs t, F, G)) 2 (fun _ => rfl) ?_
    refine wp_C (i := 129) (pc' := 18) (Li := [.int a2, .int (0 : Int32), .int (60 : Int32)]) (rest := []) (fun _ => rfl) h
theorem rg122_18 {t : Nat} {F : ip_F} {G : ip_G} {Q : Option Value → ip_M → Prop} {a1 a2 as0 : Int32} (h : (¬ as0 = (0 : Int32) → wp 60 0 [.ref 88, .ref 1, .int a1, .int a2, .float 0, .float 0, .float 0, .float 0, .float 0] [] (hs t, F, G) (fun v M' => wp 122 41 [.ref 0, .int a1, .int a2] (v.toList ++ []) M' Q)) ∧ (as0 = (0 : Int32) → wp 122 21 [.ref 0, .int a1, .int a2] [] (hs t, F, G) Q)) : wp 122 18 [.ref 0, .int a1, .int a2] [.int as0] (hs t, F, G) Q := by
  refine wp_ifc (pc1 := 28) (c := .ne) rfl (fun hc => ?_) (fun hc => ?_)
  · replace h := h.1 hc
    refine wp_N (j' := 122) (pc' := 38) (L' := [.ref 0, .int a1, .int a2]) (S' := [.int a2, .int a1, .ref 1, .ref 88]) (M' := (hs t, F, G)) 5 (fun _ => rfl) ?_
    refine wp_C (i := 60) (pc' := 41) (Li := [.ref 88, .ref 1, .int a1, .int a2, .float 0, .float 0, .float 0, .float 0, .float 0]) (rest := []) (fun _ => rfl) h
  · replace h := h.2 (Decidable.not_not.mp hc)
    exact h
theorem rg122_21 {t : Nat} {F : ip_F} {G : ip_G} {Q : Option Value → ip_M → Prop} {a1 a2 : Int32} (h : wp 133 0 [.ref 0, .int (-2 : Int32), .float 0] [] (hs t, F, G) (fun v M' => wp 122 27 [.ref 0, .int a1, .int a2] (v.toList ++ []) M' Q)) : wp 122 21 [.ref 0, .int a1, .int a2] [] (hs t, F, G) Q := by
  refine wp_N (j' := 122) (pc' := 24) (L' := [.ref 0, .int a1, .int a2]) (S' := [.int (-2 : Int32), .ref 0]) (M' := (hs t, F, G)) 1 (fun _ => rfl) ?_
  refine wp_C (i := 133) (pc' := 27) (Li := [.ref 0, .int (-2 : Int32), .float 0]) (rest := []) (fun _ => rfl) h
theorem rg122_27 {t : Nat} {F : ip_F} {G : ip_G} {Q : Option Value → ip_M → Prop} {a1 a2 as0 : Int32} (h : Q (some (.int as0)) (hs t, F, G)) : wp 122 27 [.ref 0, .int a1, .int a2] [.int as0] (hs t, F, G) Q := by
  exact wp_RI rfl rfl h
theorem rg122_41 {t : Nat} {F : ip_F} {G : ip_G} {Q : Option Value → ip_M → Prop} {a1 a2 as0 : Int32} (h : Q (some (.int as0)) (hs t, F, G)) : wp 122 41 [.ref 0, .int a1, .int a2] [.int as0] (hs t, F, G) Q := by
  exact wp_RI rfl rfl h
theorem rg123_0 {t : Nat} {F : ip_F} {G : ip_G} {Q : Option Value → ip_M → Prop} {a1 : Int32} (h : wp 129 0 [.int a1, .int (0 : Int32), .int (1 : Int32)] [] (hs t, F, G) (fun v M' => wp 123 6 [.ref 0, .int a1] (v.toList ++ []) M' Q)) : wp 123 0 [.ref 0, .int a1] [] (hs t, F, G) Q := by
  refine wp_N (j' := 123) (pc' := 3) (L' := [.ref 0, .int a1]) (S' := [.int (1 : Int32), .int (0 : Int32), .int a1]) (M' := (hs t, F, G)) 2 (fun _ => rfl) ?_
  refine wp_C (i := 129) (pc' := 6) (Li := [.int a1, .int (0 : Int32), .int (1 : Int32)]) (rest := []) (fun _ => rfl) h
theorem rg123_6 {t : Nat} {F : ip_F} {G : ip_G} {Q : Option Value → ip_M → Prop} {a1 as0 : Int32} (h : (¬ as0 = (0 : Int32) → (¬ a1 = (0 : Int32) → Q (some (.long (G 0 10))) (hs t, F, G)) ∧ (a1 = (0 : Int32) → Q (some (.long (G 0 9))) (hs t, F, G))) ∧ (as0 = (0 : Int32) → wp 133 0 [.ref 0, .int (-2 : Int32), .float 0] [] (hs t, F, G) (fun v M' => wp 123 15 [.ref 0, .int a1] (v.toList ++ []) M' Q))) : wp 123 6 [.ref 0, .int a1] [.int as0] (hs t, F, G) Q := by
  refine wp_ifc (pc1 := 17) (c := .ne) rfl (fun hc => ?_) (fun hc => ?_)
  · replace h := h.1 hc
    refine wp_N (j' := 123) (pc' := 18) (L' := [.ref 0, .int a1]) (S' := [.int a1]) (M' := (hs t, F, G)) 0 (fun _ => rfl) ?_
    refine wp_ifc (pc1 := 28) (c := .ne) rfl (fun hc => ?_) (fun hc => ?_)
    · replace h := h.1 hc
      refine wp_N (j' := 123) (pc' := 32) (L' := [.ref 0, .int a1]) (S' := [.long (G 0 10)]) (M' := (hs t, F, G)) 1 (fun _ => rfl) ?_
      exact wp_RL rfl rfl h
    · replace h := h.2 (Decidable.not_not.mp hc)
      refine wp_N (j' := 123) (pc' := 32) (L' := [.ref 0, .int a1]) (S' := [.long (G 0 9)]) (M' := (hs t, F, G)) 2 (fun _ => rfl) ?_
      exact wp_RL rfl rfl h
  · replace h := h.2 (Decidable.not_not.mp hc)
    refine wp_N (j' := 123) (pc' := 12) (L' := [.ref 0, .int a1]) (S' := [.int (-2 : Int32), .ref 0]) (M' := (hs t, F, G)) 1 (fun _ => rfl) ?_
    refine wp_C (i := 133) (pc' := 15) (Li := [.ref 0, .int (-2 : Int32), .float 0]) (rest := []) (fun _ => rfl) h
theorem rg123_15 {t : Nat} {F : ip_F} {G : ip_G} {Q : Option Value → ip_M → Prop} {a1 as0 : Int32} (h : Q (some (.long as0.toInt64)) (hs t, F, G)) : wp 123 15 [.ref 0, .int a1] [.int as0] (hs t, F, G) Q := by
  refine wp_N (j' := 123) (pc' := 16) (L' := [.ref 0, .int a1]) (S' := [.long as0.toInt64]) (M' := (hs t, F, G)) 0 (fun _ => rfl) ?_
  exact wp_RL rfl rfl h
theorem rg124_0 {t : Nat} {F : ip_F} {G : ip_G} {Q : Option Value → ip_M → Prop} {o : Nat} {a1 : Int32} (ho : ok10 t o) (h : wp 129 0 [.int a1, .int (0 : Int32), .int (1 : Int32)] [] (hs t, F, G) (fun v M' => wp 124 6 [.ref 0, .int a1] (v.toList ++ []) M' Q)) : wp 124 0 [.ref 0, .int a1] [] (hs t, F, G) Q := by
  refine wp_N (j' := 124) (pc' := 3) (L' := [.ref 0, .int a1]) (S' := [.int (1 : Int32), .int (0 : Int32), .int a1]) (M' := (hs t, F, G)) 2 (fun _ => rfl) ?_
  refine wp_C (i := 129) (pc' := 6) (Li := [.int a1, .int (0 : Int32), .int (1 : Int32)]) (rest := []) (fun _ => rfl) h
theorem rg124_6 {t : Nat} {F : ip_F} {G : ip_G} {Q : Option Value → ip_M → Prop} {o : Nat} {a1 as0 : Int32} (ho : ok10 t o) (h : (¬ as0 = (0 : Int32) → (vp_in a1 2) ∧ (wp 134 0 [.ref 0, .int a1] [] (hs t, (ip_u F 61 (a1).toNatClampNeg (vp_nar .boolean (1 : Int32))), G) (fun v M' => wp 124 28 [.ref 0, .int a1] (v.toList ++ []) M' Q))) ∧ (as0 = (0 : Int32) → wp 133 0 [.ref 0, .int (-2 : Int32), .float 0] [] (hs t, F, G) (fun v M' => wp 124 15 [.ref 0, .int a1] (v.toList ++ []) M' Q))) : wp 124 6 [.ref 0, .int a1] [.int as0] (hs t, F, G) Q := by
  refine wp_ifc (pc1 := 16) (c := .ne) rfl (fun hc => ?_) (fun hc => ?_)
  · replace h := h.1 hc
    refine wp_N (j' := 124) (pc' := 22) (L' := [.ref 0, .int a1]) (S' := [.int (1 : Int32), .int a1, .ref 61]) (M' := (hs t, F, G)) 3 (fun _ => rfl) ?_
    obtain ⟨h1_, h⟩ := h
    refine wp_bas1 (m := (a1).toNatClampNeg) rfl rfl rfl h1_ ?_
    refine wp_N (j' := 124) (pc' := 25) (L' := [.ref 0, .int a1]) (S' := [.int a1, .ref 0]) (M' := (hs t, (ip_u F 61 (a1).toNatClampNeg (vp_nar .boolean (1 : Int32))), G)) 1 (fun _ => rfl) ?_
    refine wp_C (i := 134) (pc' := 28) (Li := [.ref 0, .int a1]) (rest := []) (fun _ => rfl) h
  · replace h := h.2 (Decidable.not_not.mp hc)
    refine wp_N (j' := 124) (pc' := 12) (L' := [.ref 0, .int a1]) (S' := [.int (-2 : Int32), .ref 0]) (M' := (hs t, F, G)) 1 (fun _ => rfl) ?_
    refine wp_C (i := 133) (pc' := 15) (Li := [.ref 0, .int (-2 : Int32), .float 0]) (rest := []) (fun _ => rfl) h
theorem rg124_15 {t : Nat} {F : ip_F} {G : ip_G} {Q : Option Value → ip_M → Prop} {o : Nat} {a1 as0 : Int32} (ho : ok10 t o) (h : Q (some (.int as0)) (hs t, F, G)) : wp 124 15 [.ref 0, .int a1] [.int as0] (hs t, F, G) Q := by
  exact wp_RI rfl rfl h
theorem rg124_28 {t : Nat} {F : ip_F} {G : ip_G} {Q : Option Value → ip_M → Prop} {o : Nat} {a1 : Int32} (ho : ok10 t o) (h : wp 90 0 [.ref o, .ref 1] [] (hs t, F, G) (fun v M' => wp 124 35 [.ref 0, .int a1] (v.toList ++ []) M' Q)) : wp 124 28 [.ref 0, .int a1] [.ref o] (hs t, F, G) Q := by
  refine wp_N (j' := 124) (pc' := 32) (L' := [.ref 0, .int a1]) (S' := [.ref 1, .ref o]) (M' := (hs t, F, G)) 1 (fun _ => rfl) ?_
  refine wp_CV (as := [.ref 1]) (S := []) rfl ho.1 rfl rfl rfl (Nat.le_of_ble_eq_true rfl) rfl ⟨rfl, rfl⟩ rfl h
theorem rg124_35 {t : Nat} {F : ip_F} {G : ip_G} {Q : Option Value → ip_M → Prop} {o : Nat} {a1 : Int32} (ho : ok10 t o) (h : Q (some (.int (1 : Int32))) (hs t, F, G)) : wp 124 35 [.ref 0, .int a1] [] (hs t, F, G) Q := by
  refine wp_N (j' := 124) (pc' := 36) (L' := [.ref 0, .int a1]) (S' := [.int (1 : Int32)]) (M' := (hs t, F, G)) 0 (fun _ => rfl) ?_
  exact wp_RI rfl rfl h
theorem rg125_0 {t : Nat} {F : ip_F} {G : ip_G} {Q : Option Value → ip_M → Prop} {o : Nat} {a1 : Int32} (ho : ok10 t o) (h : wp 129 0 [.int a1, .int (0 : Int32), .int (1 : Int32)] [] (hs t, F, G) (fun v M' => wp 125 6 [.ref 0, .int a1] (v.toList ++ []) M' Q)) : wp 125 0 [.ref 0, .int a1] [] (hs t, F, G) Q := by
  refine wp_N (j' := 125) (pc' := 3) (L' := [.ref 0, .int a1]) (S' := [.int (1 : Int32), .int (0 : Int32), .int a1]) (M' := (hs t, F, G)) 2 (fun _ => rfl) ?_
  refine wp_C (i := 129) (pc' := 6) (Li := [.int a1, .int (0 : Int32), .int (1 : Int32)]) (rest := []) (fun _ => rfl) h
theorem rg125_6 {t : Nat} {F : ip_F} {G : ip_G} {Q : Option Value → ip_M → Prop} {o : Nat} {a1 as0 : Int32} (ho : ok10 t o) (h : (¬ as0 = (0 : Int32) → (vp_in a1 2) ∧ ((¬ (F 61 (a1).toNatClampNeg) = (0 : Int32) → wp 134 0 [.ref 0, .int a1] [] (hs t, F, G) (fun v M' => wp 125 41 [.ref 0, .int a1] (v.toList ++ [.ref 1]) M' Q)) ∧ ((F 61 (a1).toNatClampNeg) = (0 : Int32) → wp 133 0 [.ref 0, .int (-3 : Int32), .float 0] [] (hs t, F, G) (fun v M' => wp 125 31 [.ref 0, .int a1] (v.toList ++ []) M' Q)))) ∧ (as0 = (0 : Int32) → wp 133 0 [.ref 0, .int (-2 : Int32), .float 0] [] (hs t, F, G) (fun v M' => wp 125 15 [.ref 0, .int a1] (v.toList ++ []) M' Q))) : wp 125 6 [.ref 0, .int a1] [.int as0] (hs t, F, G) Q := by
  refine wp_ifc (pc1 := 16) (c := .ne) rfl (fun hc => ?_) (fun hc => ?_)
  · replace h := h.1 hc
    refine wp_N (j' := 125) (pc' := 21) (L' := [.ref 0, .int a1]) (S' := [.int a1, .ref 61]) (M' := (hs t, F, G)) 2 (fun _ => rfl) ?_
    obtain ⟨h1_, h⟩ := h
    refine wp_bal (m := (a1).toNatClampNeg) rfl rfl (by decide) rfl h1_ ?_
    refine wp_ifc (pc1 := 32) (c := .ne) rfl (fun hc => ?_) (fun hc => ?_)
    · replace h := h.1 hc
      refine wp_N (j' := 125) (pc' := 38) (L' := [.ref 0, .int a1]) (S' := [.int a1, .ref 0, .ref 1]) (M' := (hs t, F, G)) 3 (fun _ => rfl) ?_
      refine wp_C (i := 134) (pc' := 41) (Li := [.ref 0, .int a1]) (rest := [.ref 1]) (fun _ => rfl) h
    · replace h := h.2 (Decidable.not_not.mp hc)
      refine wp_N (j' := 125) (pc' := 28) (L' := [.ref 0, .int a1]) (S' := [.int (-3 : Int32), .ref 0]) (M' := (hs t, F, G)) 1 (fun _ => rfl) ?_
      refine wp_C (i := 133) (pc' := 31) (Li := [.ref 0, .int (-3 : Int32), .float 0]) (rest := []) (fun _ => rfl) h
  · replace h := h.2 (Decidable.not_not.mp hc)
    refine wp_N (j' := 125) (pc' := 12) (L' := [.ref 0, .int a1]) (S' := [.int (-2 : Int32), .ref 0]) (M' := (hs t, F, G)) 1 (fun _ => rfl) ?_
    refine wp_C (i := 133) (pc' := 15) (Li := [.ref 0, .int (-2 : Int32), .float 0]) (rest := []) (fun _ => rfl) h
theorem rg125_15 {t : Nat} {F : ip_F} {G : ip_G} {Q : Option Value → ip_M → Prop} {o : Nat} {a1 as0 : Int32} (ho : ok10 t o) (h : Q (some (.int as0)) (hs t, F, G)) : wp 125 15 [.ref 0, .int a1] [.int as0] (hs t, F, G) Q := by
  exact wp_RI rfl rfl h
theorem rg125_31 {t : Nat} {F : ip_F} {G : ip_G} {Q : Option Value → ip_M → Prop} {o : Nat} {a1 as0 : Int32} (ho : ok10 t o) (h : Q (some (.int as0)) (hs t, F, G)) : wp 125 31 [.ref 0, .int a1] [.int as0] (hs t, F, G) Q := by
  exact wp_RI rfl rfl h
theorem rg125_41 {t : Nat} {F : ip_F} {G : ip_G} {Q : Option Value → ip_M → Prop} {o : Nat} {a1 : Int32} (ho : ok10 t o) (h : wp 90 0 [.ref 1, .ref o] [] (hs t, F, G) (fun v M' => wp 125 44 [.ref 0, .int a1] (v.toList ++ []) M' Q)) : wp 125 41 [.ref 0, .int a1] [.ref o, .ref 1] (hs t, F, G) Q := by
  refine wp_C (i := 90) (pc' := 44) (Li := [.ref 1, .ref o]) (rest := []) (fun _ => rfl) h
theorem rg125_44 {t : Nat} {F : ip_F} {G : ip_G} {Q : Option Value → ip_M → Prop} {o : Nat} {a1 : Int32} (ho : ok10 t o) (h : Q (some (.int (1 : Int32))) (hs t, F, G)) : wp 125 44 [.ref 0, .int a1] [] (hs t, F, G) Q := by
  refine wp_N (j' := 125) (pc' := 45) (L' := [.ref 0, .int a1]) (S' := [.int (1 : Int32)]) (M' := (hs t, F, G)) 0 (fun _ => rfl) ?_
  exact wp_RI rfl rfl h
theorem rg126_0 {t : Nat} {F : ip_F} {G : ip_G} {Q : Option Value → ip_M → Prop} {a1 : Int32} (h : wp 129 0 [.int a1, .int (0 : Int32), .int (2 : Int32)] [] (hs t, F, G) (fun v M' => wp 126 6 [.ref 0, .int a1] (v.toList ++ []) M' Q)) : wp 126 0 [.ref 0, .int a1] [] (hs t, F, G) Q := by
  refine wp_N (j' := 126) (pc' := 3) (L' := [.ref 0, .int a1]) (S' := [.int (2 : Int32), .int (0 : Int32), .int a1]) (M' := (hs t, F, G)) 2 (fun _ => rfl) ?_
  refine wp_C (i := 129) (pc' := 6) (Li := [.int a1, .int (0 : Int32), .int (2 : Int32)]) (rest := []) (fun _ => rfl) h
theorem rg126_6 {t : Nat} {F : ip_F} {G : ip_G} {Q : Option Value → ip_M → Prop} {a1 as0 : Int32} (h : (¬ as0 = (0 : Int32) → (vp_in a1 3) ∧ (Q (some (.int (F 192 (a1).toNatClampNeg))) (hs t, F, G))) ∧ (as0 = (0 : Int32) → wp 133 0 [.ref 0, .int (-2 : Int32), .float 0] [] (hs t, F, G) (fun v M' => wp 126 15 [.ref 0, .int a1] (v.toList ++ []) M' Q))) : wp 126 6 [.ref 0, .int a1] [.int as0] (hs t, F, G) Q := by
  refine wp_ifc (pc1 := 18) (c := .ne) rfl (fun hc => ?_) (fun hc => ?_)
  · replace h := h.1 hc
    refine wp_N (j' := 126) (pc' := 23) (L' := [.ref 0, .int a1]) (S' := [.int a1, .ref 192]) (M' := (hs t, F, G)) 2 (fun _ => rfl) ?_
    obtain ⟨h1_, h⟩ := h
    refine wp_ial (m := (a1).toNatClampNeg) rfl rfl rfl h1_ ?_
    exact wp_RI rfl rfl h
  · replace h := h.2 (Decidable.not_not.mp hc)
    refine wp_N (j' := 126) (pc' := 12) (L' := [.ref 0, .int a1]) (S' := [.int (-2 : Int32), .ref 0]) (M' := (hs t, F, G)) 1 (fun _ => rfl) ?_
    refine wp_C (i := 133) (pc' := 15) (Li := [.ref 0, .int (-2 : Int32), .float 0]) (rest := []) (fun _ => rfl) h
theorem rg126_15 {t : Nat} {F : ip_F} {G : ip_G} {Q : Option Value → ip_M → Prop} {a1 as0 : Int32} (h : Q (some (.int (-1 : Int32))) (hs t, F, G)) : wp 126 15 [.ref 0, .int a1] [.int as0] (hs t, F, G) Q := by
  refine wp_N (j' := 126) (pc' := 17) (L' := [.ref 0, .int a1]) (S' := [.int (-1 : Int32)]) (M' := (hs t, F, G)) 1 (fun _ => rfl) ?_
  exact wp_RI rfl rfl h
theorem rg127_0 {t : Nat} {F : ip_F} {G : ip_G} {Q : Option Value → ip_M → Prop} {a1 : Int32} (h : wp 129 0 [.int a1, .int (0 : Int32), .int (9 : Int32)] [] (hs t, F, G) (fun v M' => wp 127 7 [.ref 0, .int a1] (v.toList ++ []) M' Q)) : wp 127 0 [.ref 0, .int a1] [] (hs t, F, G) Q := by
  refine wp_N (j' := 127) (pc' := 4) (L' := [.ref 0, .int a1]) (S' := [.int (9 : Int32), .int (0 : Int32), .int a1]) (M' := (hs t, F, G)) 2 (fun _ => rfl) ?_
  refine wp_C (i := 129) (pc' := 7) (Li := [.int a1, .int (0 : Int32), .int (9 : Int32)]) (rest := []) (fun _ => rfl) h
theorem rg127_7 {t : Nat} {F : ip_F} {G : ip_G} {Q : Option Value → ip_M → Prop} {a1 as0 : Int32} (h : (as0 = (0 : Int32) → wp 133 0 [.ref 0, .int (-2 : Int32), .float 0] [] (hs t, F, G) (fun v M' => wp 127 24 [.ref 0, .int a1] (v.toList ++ []) M' Q)) ∧ (¬ as0 = (0 : Int32) → wp 137 0 [.ref 0, .int a1] [] (hs t, F, G) (fun v M' => wp 127 15 [.ref 0, .int a1] (v.toList ++ []) M' Q))) : wp 127 7 [.ref 0, .int a1] [.int as0] (hs t, F, G) Q := by
  refine wp_ifc (pc1 := 18) (c := .eq) rfl (fun hc => ?_) (fun hc => ?_)
  · replace h := h.1 hc
    refine wp_N (j' := 127) (pc' := 21) (L' := [.ref 0, .int a1]) (S' := [.int (-2 : Int32), .ref 0]) (M' := (hs t, F, G)) 1 (fun _ => rfl) ?_
    refine wp_C (i := 133) (pc' := 24) (Li := [.ref 0, .int (-2 : Int32), .float 0]) (rest := []) (fun _ => rfl) h
  · replace h := h.2 hc
    refine wp_N (j' := 127) (pc' := 12) (L' := [.ref 0, .int a1]) (S' := [.int a1, .ref 0]) (M' := (hs t, F, G)) 1 (fun _ => rfl) ?_
    refine wp_C (i := 137) (pc' := 15) (Li := [.ref 0, .int a1]) (rest := []) (fun _ => rfl) h
theorem rg127_15 {t : Nat} {F : ip_F} {G : ip_G} {Q : Option Value → ip_M → Prop} {a1 as0 : Int32} (h : wp 127 24 [.ref 0, .int a1] [.int as0] (hs t, F, G) Q) : wp 127 15 [.ref 0, .int a1] [.int as0] (hs t, F, G) Q := by
  refine wp_N (j' := 127) (pc' := 24) (L' := [.ref 0, .int a1]) (S' := [.int as0]) (M' := (hs t, F, G)) 0 (fun _ => rfl) ?_
  exact h
theorem rg127_24 {t : Nat} {F : ip_F} {G : ip_G} {Q : Option Value → ip_M → Prop} {a1 as0 : Int32} (h : Q (some (.int as0)) (hs t, F, G)) : wp 127 24 [.ref 0, .int a1] [.int as0] (hs t, F, G) Q := by
  exact wp_RI rfl rfl h
theorem rg128_0 {t : Nat} {F : ip_F} {G : ip_G} {Q : Option Value → ip_M → Prop} (h : wp 128 6 [.ref 0, .long (1549 : Int64), .float 0, .int (0 : Int32), .float 0] [] (hs t, F, G) Q) : wp 128 0 [.ref 0, .float 0, .float 0, .float 0, .float 0] [] (hs t, F, G) Q := by
  refine wp_ldc2 (v := (1549 : Int64)) rfl rfl rfl ?_
  refine wp_N (j' := 128) (pc' := 6) (L' := [.ref 0, .long (1549 : Int64), .float 0, .int (0 : Int32), .float 0]) (S' := []) (M' := (hs t, F, G)) 2 (fun _ => rfl) ?_
  exact h
theorem rg128_6 {t : Nat} {F : ip_F} {G : ip_G} {Q : Option Value → ip_M → Prop} {a3 : Int32} {b1 : Int64} {v2 v4 : Value} (h : ((9 : Int32) < a3 → wp 128 33 [.ref 0, .long b1, (ip_unl v2), .int (0 : Int32), v4] [] (hs t, F, G) Q) ∧ (a3 ≤ (9 : Int32) → wp 137 0 [.ref 0, .int a3] [] (hs t, F, G) (fun v M' => wp 128 22 [.ref 0, .long b1, v2, .int a3, v4] (v.toList ++ [.long ((31 : Int64) * b1)]) M' Q))) : wp 128 6 [.ref 0, .long b1, v2, .int a3, v4] [] (hs t, F, G) Q := by
  refine wp_N (j' := 128) (pc' := 9) (L' := [.ref 0, .long b1, v2, .int a3, v4]) (S' := [.int (9 : Int32), .int a3]) (M' := (hs t, F, G)) 1 (fun _ => rfl) ?_
  refine wp_icmp (pc1 := 31) (c := .gt) rfl (fun hc => ?_) (fun hc => ?_)
  · replace h := h.1 hc
    refine wp_N (j' := 128) (pc' := 33) (L' := [.ref 0, .long b1, (ip_unl v2), .int (0 : Int32), v4]) (S' := []) (M' := (hs t, F, G)) 1 (fun _ => rfl) ?_
    exact h
  · replace h := h.2 (Int32.not_lt.mp hc)
    refine wp_ldc2 (v := (31 : Int64)) rfl rfl rfl ?_
    refine wp_N (j' := 128) (pc' := 16) (L' := [.ref 0, .long b1, v2, .int a3, v4]) (S' := [.long b1, .long (31 : Int64)]) (M' := (hs t, F, G)) 0 (fun _ => rfl) ?_
    refine wp_lmul rfl ?_
    refine wp_N (j' := 128) (pc' := 19) (L' := [.ref 0, .long b1, v2, .int a3, v4]) (S' := [.int a3, .ref 0, .long ((31 : Int64) * b1)]) (M' := (hs t, F, G)) 1 (fun _ => rfl) ?_
    refine wp_C (i := 137) (pc' := 22) (Li := [.ref 0, .int a3]) (rest := [.long ((31 : Int64) * b1)]) (fun _ => rfl) h
theorem rg128_22 {t : Nat} {F : ip_F} {G : ip_G} {Q : Option Value → ip_M → Prop} {a3 as1 : Int32} {b1 bs0 : Int64} {v2 v4 : Value} (h : wp 128 6 [.ref 0, .long (bs0 + as1.toInt64), .float 0, .int (a3 + (1 : Int32)), v4] [] (hs t, F, G) Q) : wp 128 22 [.ref 0, .long b1, v2, .int a3, v4] [.int as1, .long bs0] (hs t, F, G) Q := by
  refine wp_N (j' := 128) (pc' := 23) (L' := [.ref 0, .long b1, v2, .int a3, v4]) (S' := [.long as1.toInt64, .long bs0]) (M' := (hs t, F, G)) 0 (fun _ => rfl) ?_
  refine wp_ladd rfl ?_
  refine wp_N (j' := 128) (pc' := 6) (L' := [.ref 0, .long (bs0 + as1.toInt64), .float 0, .int (a3 + (1 : Int32)), v4]) (S' := []) (M' := (hs t, F, G)) 2 (fun _ => rfl) ?_
  exact h
theorem rg128_33 {t : Nat} {F : ip_F} {G : ip_G} {Q : Option Value → ip_M → Prop} {a3 : Int32} {b1 : Int64} {v2 v4 : Value} (h : ((6 : Int32) ≤ a3 → wp 128 64 [.ref 0, .long b1, (ip_unl v2), .int (0 : Int32), v4] [] (hs t, F, G) Q) ∧ (a3 < (6 : Int32) → (vp_in a3 6) ∧ (wp 128 33 [.ref 0, .long (((31 : Int64) * b1) + (F 2 (a3).toNatClampNeg).toInt64), .float 0, .int (a3 + (1 : Int32)), v4] [] (hs t, F, G) Q))) : wp 128 33 [.ref 0, .long b1, v2, .int a3, v4] [] (hs t, F, G) Q := by
  refine wp_N (j' := 128) (pc' := 36) (L' := [.ref 0, .long b1, v2, .int a3, v4]) (S' := [.int (6 : Int32), .int a3]) (M' := (hs t, F, G)) 1 (fun _ => rfl) ?_
  refine wp_icmp (pc1 := 62) (c := .ge) rfl (fun hc => ?_) (fun hc => ?_)
  · replace h := h.1 hc
    refine wp_N (j' := 128) (pc' := 64) (L' := [.ref 0, .long b1, (ip_unl v2), .int (0 : Int32), v4]) (S' := []) (M' := (hs t, F, G)) 1 (fun _ => rfl) ?_
    exact h
  · replace h := h.2 (Int32.not_le.mp hc)
    refine wp_ldc2 (v := (31 : Int64)) rfl rfl rfl ?_
    refine wp_N (j' := 128) (pc' := 43) (L' := [.ref 0, .long b1, v2, .int a3, v4]) (S' := [.long b1, .long (31 : Int64)]) (M' := (hs t, F, G)) 0 (fun _ => rfl) ?_
    refine wp_lmul rfl ?_
    refine wp_N (j' := 128) (pc' := 52) (L' := [.ref 0, .long b1, v2, .int a3, v4]) (S' := [.int a3, .ref 2, .long ((31 : Int64) * b1)]) (M' := (hs t, F, G)) 3 (fun _ => rfl) ?_
    obtain ⟨h1_, h⟩ := h
    refine wp_ial (m := (a3).toNatClampNeg) rfl rfl rfl h1_ ?_
    refine wp_N (j' := 128) (pc' := 54) (L' := [.ref 0, .long b1, v2, .int a3, v4]) (S' := [.long (F 2 (a3).toNatClampNeg).toInt64, .long ((31 : Int64) * b1)]) (M' := (hs t, F, G)) 0 (fun _ => rfl) ?_
    refine wp_ladd rfl ?_
    refine wp_N (j' := 128) (pc' := 33) (L' := [.ref 0, .long (((31 : Int64) * b1) + (F 2 (a3).toNatClampNeg).toInt64), .float 0, .int (a3 + (1 : Int32)), v4]) (S' := []) (M' := (hs t, F, G)) 2 (fun n9 => (show ∀ (z0 : Int64), ip_run none (n9 + 3) 128 55 [.ref 0, .long b1, v2, .int a3, v4] [.long z0] (hs t, F, G) (0, 0) = ip_run none n9 128 33 [.ref 0, .long z0, .float 0, .int (a3 + (1 : Int32)), v4] [] (hs t, F, G) (0, 0) from fun _ => rfl) (((31 : Int64) * b1) + (F 2 (a3).toNatClampNeg).toInt64)) ?_
    exact h
theorem rg128_64 {t : Nat} {F : ip_F} {G : ip_G} {Q : Option Value → ip_M → Prop} {a3 : Int32} {b1 : Int64} {v2 v4 : Value} (h : ((F 1 6) ≤ a3 → wp 48 0 [.ref 15, .long b1, .float 0, .int (2 : Int32), .float 0, .float 0, .float 0, .float 0] [] (hs t, F, G) (fun v M' => wp 128 123 [.ref 0, .long b1, v2, .int a3, v4] (v.toList ++ []) M' Q)) ∧ (a3 < (F 1 6) → wp 128 78 [.ref 0, .long b1, v2, .int a3, .int (0 : Int32)] [] (hs t, F, G) Q)) : wp 128 64 [.ref 0, .long b1, v2, .int a3, v4] [] (hs t, F, G) Q := by
  refine wp_N (j' := 128) (pc' := 72) (L' := [.ref 0, .long b1, v2, .int a3, v4]) (S' := [.int (F 1 6), .int a3]) (M' := (hs t, F, G)) 3 (fun _ => rfl) ?_
  refine wp_icmp (pc1 := 111) (c := .ge) rfl (fun hc => ?_) (fun hc => ?_)
  · replace h := h.1 hc
    refine wp_N (j' := 128) (pc' := 120) (L' := [.ref 0, .long b1, v2, .int a3, v4]) (S' := [.int (2 : Int32), .long b1, .ref 15]) (M' := (hs t, F, G)) 4 (fun _ => rfl) ?_
    refine wp_C (i := 48) (pc' := 123) (Li := [.ref 15, .long b1, .float 0, .int (2 : Int32), .float 0, .float 0, .float 0, .float 0]) (rest := []) (fun _ => rfl) h
  · replace h := h.2 (Int32.not_le.mp hc)
    refine wp_N (j' := 128) (pc' := 78) (L' := [.ref 0, .long b1, v2, .int a3, .int (0 : Int32)]) (S' := []) (M' := (hs t, F, G)) 1 (fun _ => rfl) ?_
    exact h
theorem rg128_78 {t : Nat} {F : ip_F} {G : ip_G} {Q : Option Value → ip_M → Prop} {a3 a4 : Int32} {b1 : Int64} {v2 : Value} (h : ((3 : Int32) < a4 → wp 128 64 [.ref 0, .long b1, (ip_unl v2), .int (a3 + (1 : Int32)), .int a4] [] (hs t, F, G) Q) ∧ (a4 ≤ (3 : Int32) → wp 136 0 [.ref 0, .int a3, .int a4] [] (hs t, F, G) (fun v M' => wp 128 96 [.ref 0, .long b1, v2, .int a3, .int a4] (v.toList ++ [.long ((31 : Int64) * b1)]) M' Q))) : wp 128 78 [.ref 0, .long b1, v2, .int a3, .int a4] [] (hs t, F, G) Q := by
  refine wp_N (j' := 128) (pc' := 81) (L' := [.ref 0, .long b1, v2, .int a3, .int a4]) (S' := [.int (3 : Int32), .int a4]) (M' := (hs t, F, G)) 1 (fun _ => rfl) ?_
  refine wp_icmp (pc1 := 105) (c := .gt) rfl (fun hc => ?_) (fun hc => ?_)
  · replace h := h.1 hc
    refine wp_N (j' := 128) (pc' := 64) (L' := [.ref 0, .long b1, (ip_unl v2), .int (a3 + (1 : Int32)), .int a4]) (S' := []) (M' := (hs t, F, G)) 1 (fun _ => rfl) ?_
    exact h
  · replace h := h.2 (Int32.not_lt.mp hc)
    refine wp_ldc2 (v := (31 : Int64)) rfl rfl rfl ?_
    refine wp_N (j' := 128) (pc' := 88) (L' := [.ref 0, .long b1, v2, .int a3, .int a4]) (S' := [.long b1, .long (31 : Int64)]) (M' := (hs t, F, G)) 0 (fun _ => rfl) ?_
    refine wp_lmul rfl ?_
    refine wp_N (j' := 128) (pc' := 93) (L' := [.ref 0, .long b1, v2, .int a3, .int a4]) (S' := [.int a4, .int a3, .ref 0, .long ((31 : Int64) * b1)]) (M' := (hs t, F, G)) 2 (fun _ => rfl) ?_
    refine wp_C (i := 136) (pc' := 96) (Li := [.ref 0, .int a3, .int a4]) (rest := [.long ((31 : Int64) * b1)]) (fun _ => rfl) h
theorem rg128_96 {t : Nat} {F : ip_F} {G : ip_G} {Q : Option Value → ip_M → Prop} {a3 a4 as1 : Int32} {b1 bs0 : Int64} {v2 : Value} (h : wp 128 78 [.ref 0, .long (bs0 + as1.toInt64), .float 0, .int a3, .int (a4 + (1 : Int32))] [] (hs t, F, G) Q) : wp 128 96 [.ref 0, .long b1, v2, .int a3, .int a4] [.int as1, .long bs0] (hs t, F, G) Q := by
  refine wp_N (j' := 128) (pc' := 97) (L' := [.ref 0, .long b1, v2, .int a3, .int a4]) (S' := [.long as1.toInt64, .long bs0]) (M' := (hs t, F, G)) 0 (fun _ => rfl) ?_
  refine wp_ladd rfl ?_
  refine wp_N (j' := 128) (pc' := 78) (L' := [.ref 0, .long (bs0 + as1.toInt64), .float 0, .int a3, .int (a4 + (1 : Int32))]) (S' := []) (M' := (hs t, F, G)) 2 (fun _ => rfl) ?_
  exact h
theorem rg128_123 {t : Nat} {F : ip_F} {G : ip_G} {Q : Option Value → ip_M → Prop} {a3 : Int32} {b1 bs0 : Int64} {v2 v4 : Value} (h : wp 48 0 [.ref 17, .long bs0, .float 0, .int (3 : Int32), .float 0, .float 0, .float 0, .float 0] [] (hs t, F, G) (fun v M' => wp 128 136 [.ref 0, .long bs0, .float 0, .int a3, v4] (v.toList ++ []) M' Q)) : wp 128 123 [.ref 0, .long b1, v2, .int a3, v4] [.long bs0] (hs t, F, G) Q := by
  refine wp_N (j' := 128) (pc' := 133) (L' := [.ref 0, .long bs0, .float 0, .int a3, v4]) (S' := [.int (3 : Int32), .long bs0, .ref 17]) (M' := (hs t, F, G)) 5 (fun _ => rfl) ?_
  refine wp_C (i := 48) (pc' := 136) (Li := [.ref 17, .long bs0, .float 0, .int (3 : Int32), .float 0, .float 0, .float 0, .float 0]) (rest := []) (fun _ => rfl) h
theorem rg128_136 {t : Nat} {F : ip_F} {G : ip_G} {Q : Option Value → ip_M → Prop} {a3 : Int32} {b1 bs0 : Int64} {v2 v4 : Value} (h : wp 48 0 [.ref 19, .long bs0, .float 0, .int (4 : Int32), .float 0, .float 0, .float 0, .float 0] [] (hs t, F, G) (fun v M' => wp 128 149 [.ref 0, .long bs0, .float 0, .int a3, v4] (v.toList ++ []) M' Q)) : wp 128 136 [.ref 0, .long b1, v2, .int a3, v4] [.long bs0] (hs t, F, G) Q := by
  refine wp_N (j' := 128) (pc' := 146) (L' := [.ref 0, .long bs0, .float 0, .int a3, v4]) (S' := [.int (4 : Int32), .long bs0, .ref 19]) (M' := (hs t, F, G)) 5 (fun _ => rfl) ?_
  refine wp_C (i := 48) (pc' := 149) (Li := [.ref 19, .long bs0, .float 0, .int (4 : Int32), .float 0, .float 0, .float 0, .float 0]) (rest := []) (fun _ => rfl) h
theorem rg128_149 {t : Nat} {F : ip_F} {G : ip_G} {Q : Option Value → ip_M → Prop} {a3 : Int32} {b1 bs0 : Int64} {v2 v4 : Value} (h : Q (some (.long (((31 : Int64) * (((31 : Int64) * bs0) + (G 0 9))) + (G 0 10)))) (hs t, F, G)) : wp 128 149 [.ref 0, .long b1, v2, .int a3, v4] [.long bs0] (hs t, F, G) Q := by
  refine wp_N (j' := 128) (pc' := 150) (L' := [.ref 0, .long bs0, .float 0, .int a3, v4]) (S' := []) (M' := (hs t, F, G)) 0 (fun _ => rfl) ?_
  refine wp_ldc2 (v := (31 : Int64)) rfl rfl rfl ?_
  refine wp_N (j' := 128) (pc' := 154) (L' := [.ref 0, .long bs0, .float 0, .int a3, v4]) (S' := [.long bs0, .long (31 : Int64)]) (M' := (hs t, F, G)) 0 (fun _ => rfl) ?_
  refine wp_lmul rfl ?_
  refine wp_N (j' := 128) (pc' := 159) (L' := [.ref 0, .long bs0, .float 0, .int a3, v4]) (S' := [.long (G 0 9), .long ((31 : Int64) * bs0)]) (M' := (hs t, F, G)) 1 (fun _ => rfl) ?_
  refine wp_ladd rfl ?_
  refine wp_N (j' := 128) (pc' := 161) (L' := [.ref 0, .long (((31 : Int64) * bs0) + (G 0 9)), .float 0, .int a3, v4]) (S' := []) (M' := (hs t, F, G)) 0 (fun n9 => (show ∀ (z0 : Int64), ip_run none (n9 + 1) 128 160 [.ref 0, .long bs0, .float 0, .int a3, v4] [.long z0] (hs t, F, G) (0, 0) = ip_run none n9 128 161 [.ref 0, .long z0, .float 0, .int a3, v4] [] (hs t, F, G) (0, 0) from fun _ => rfl) (((31 : Int64) * bs0) + (G 0 9))) ?_
  refine wp_ldc2 (v := (31 : Int64)) rfl rfl rfl ?_
  refine wp_N (j' := 128) (pc' := 165) (L' := [.ref 0, .long (((31 : Int64) * bs0) + (G 0 9)), .float 0, .int a3, v4]) (S' := [.long (((31 : Int64) * bs0) + (G 0 9)), .long (31 : Int64)]) (M' := (hs t, F, G)) 0 (fun n9 => (show ∀ (z0 : Int64), ip_run none (n9 + 1) 128 164 [.ref 0, .long z0, .float 0, .int a3, v4] [.long (31 : Int64)] (hs t, F, G) (0, 0) = ip_run none n9 128 165 [.ref 0, .long z0, .float 0, .int a3, v4] [.long z0, .long (31 : Int64)] (hs t, F, G) (0, 0) from fun _ => rfl) (((31 : Int64) * bs0) + (G 0 9))) ?_
  refine wp_lmul rfl ?_
  refine wp_N (j' := 128) (pc' := 170) (L' := [.ref 0, .long (((31 : Int64) * bs0) + (G 0 9)), .float 0, .int a3, v4]) (S' := [.long (G 0 10), .long ((31 : Int64) * (((31 : Int64) * bs0) + (G 0 9)))]) (M' := (hs t, F, G)) 1 (fun n9 => (show ∀ (z0 : Int64) (z1 : Int64), ip_run none (n9 + 2) 128 166 [.ref 0, .long z1, .float 0, .int a3, v4] [.long z0] (hs t, F, G) (0, 0) = ip_run none n9 128 170 [.ref 0, .long z1, .float 0, .int a3, v4] [.long (G 0 10), .long z0] (hs t, F, G) (0, 0) from fun _ _ => rfl) ((31 : Int64) * (((31 : Int64) * bs0) + (G 0 9))) (((31 : Int64) * bs0) + (G 0 9))) ?_
  refine wp_ladd rfl ?_
  exact wp_RL rfl rfl h
theorem rg129_0 {t : Nat} {F : ip_F} {G : ip_G} {Q : Option Value → ip_M → Prop} {a0 a1 a2 : Int32} (h : (a0 < a1 → Q (some (.int (0 : Int32))) (hs t, F, G)) ∧ (a1 ≤ a0 → (a2 < a0 → Q (some (.int (0 : Int32))) (hs t, F, G)) ∧ (a0 ≤ a2 → Q (some (.int (1 : Int32))) (hs t, F, G)))) : wp 129 0 [.int a0, .int a1, .int a2] [] (hs t, F, G) Q := by
  refine wp_N (j' := 129) (pc' := 2) (L' := [.int a0, .int a1, .int a2]) (S' := [.int a1, .int a0]) (M' := (hs t, F, G)) 1 (fun _ => rfl) ?_
  refine wp_icmp (pc1 := 14) (c := .lt) rfl (fun hc => ?_) (fun hc => ?_)
  · replace h := h.1 hc
    refine wp_N (j' := 129) (pc' := 15) (L' := [.int a0, .int a1, .int a2]) (S' := [.int (0 : Int32)]) (M' := (hs t, F, G)) 0 (fun _ => rfl) ?_
    exact wp_RZ rfl rfl (by decide) h
  · replace h := h.2 (Int32.not_lt.mp hc)
    refine wp_N (j' := 129) (pc' := 7) (L' := [.int a0, .int a1, .int a2]) (S' := [.int a2, .int a0]) (M' := (hs t, F, G)) 1 (fun _ => rfl) ?_
    refine wp_icmp (pc1 := 14) (c := .gt) rfl (fun hc => ?_) (fun hc => ?_)
    · replace h := h.1 hc
      refine wp_N (j' := 129) (pc' := 15) (L' := [.int a0, .int a1, .int a2]) (S' := [.int (0 : Int32)]) (M' := (hs t, F, G)) 0 (fun _ => rfl) ?_
      exact wp_RZ rfl rfl (by decide) h
    · replace h := h.2 (Int32.not_lt.mp hc)
      refine wp_N (j' := 129) (pc' := 15) (L' := [.int a0, .int a1, .int a2]) (S' := [.int (1 : Int32)]) (M' := (hs t, F, G)) 1 (fun _ => rfl) ?_
      exact wp_RZ rfl rfl (by decide) h
theorem rg130_0 {t : Nat} {F : ip_F} {G : ip_G} {Q : Option Value → ip_M → Prop} {a1 : Int32} (h : wp 129 0 [.int a1, .int (0 : Int32), .int ((F 1 6) - (1 : Int32))] [] (hs t, F, G) (fun v M' => wp 130 14 [.ref 0, .int a1] (v.toList ++ []) M' Q)) : wp 130 0 [.ref 0, .int a1] [] (hs t, F, G) Q := by
  refine wp_N (j' := 130) (pc' := 11) (L' := [.ref 0, .int a1]) (S' := [.int ((F 1 6) - (1 : Int32)), .int (0 : Int32), .int a1]) (M' := (hs t, F, G)) 6 (fun _ => rfl) ?_
  refine wp_C (i := 129) (pc' := 14) (Li := [.int a1, .int (0 : Int32), .int ((F 1 6) - (1 : Int32))]) (rest := []) (fun _ => rfl) h
theorem rg130_14 {t : Nat} {F : ip_F} {G : ip_G} {Q : Option Value → ip_M → Prop} {a1 as0 : Int32} (h : (as0 &&& 1 = as0) ∧ (Q (some (.int as0)) (hs t, F, G))) : wp 130 14 [.ref 0, .int a1] [.int as0] (hs t, F, G) Q := by
  obtain ⟨h1_, h⟩ := h
  exact wp_RZ rfl rfl h1_ h
theorem rg131_0 {t : Nat} {F : ip_F} {G : ip_G} {Q : Option Value → ip_M → Prop} {a0 : Int32} (h : wp 129 0 [.int a0, .int (0 : Int32), .int (5 : Int32)] [] (hs t, F, G) (fun v M' => wp 131 6 [.int a0] (v.toList ++ []) M' Q)) : wp 131 0 [.int a0] [] (hs t, F, G) Q := by
  refine wp_N (j' := 131) (pc' := 3) (L' := [.int a0]) (S' := [.int (5 : Int32), .int (0 : Int32), .int a0]) (M' := (hs t, F, G)) 2 (fun _ => rfl) ?_
  refine wp_C (i := 129) (pc' := 6) (Li := [.int a0, .int (0 : Int32), .int (5 : Int32)]) (rest := []) (fun _ => rfl) h
theorem rg131_6 {t : Nat} {F : ip_F} {G : ip_G} {Q : Option Value → ip_M → Prop} {a0 as0 : Int32} (h : (as0 &&& 1 = as0) ∧ (Q (some (.int as0)) (hs t, F, G))) : wp 131 6 [.int a0] [.int as0] (hs t, F, G) Q := by
  obtain ⟨h1_, h⟩ := h
  exact wp_RZ rfl rfl h1_ h
theorem rg132_0 {t : Nat} {F : ip_F} {G : ip_G} {Q : Option Value → ip_M → Prop} {a1 : Int32} (h : wp 132 7 [.ref 0, .int a1, .int a1, .int (0 : Int32), .int (0 : Int32), .float 0] [] (hs t, F, G) Q) : wp 132 0 [.ref 0, .int a1, .float 0, .float 0, .float 0, .float 0] [] (hs t, F, G) Q := by
  refine wp_N (j' := 132) (pc' := 7) (L' := [.ref 0, .int a1, .int a1, .int (0 : Int32), .int (0 : Int32), .float 0]) (S' := []) (M' := (hs t, F, G)) 5 (fun _ => rfl) ?_
  exact h
theorem rg132_7 {t : Nat} {F : ip_F} {G : ip_G} {Q : Option Value → ip_M → Prop} {a1 a2 a3 a4 : Int32} {v5 : Value} (h : ((F 1 6) ≤ a4 → (¬ a2 = (0 : Int32) → Q (some (.int (0 : Int32))) (hs t, F, G)) ∧ (a2 = (0 : Int32) → wp 236 0 [.int a3] [] (hs t, F, G) (fun v M' => wp 132 69 [.ref 0, .int a1, .int a2, .int a3, .int a4, v5] (v.toList ++ []) M' Q))) ∧ (a4 < (F 1 6) → wp 129 0 [.int (a2 - a2 / (10 : Int32) * (10 : Int32)), .int (1 : Int32), .int (F 1 6)] [] (hs t, F, G) (fun v M' => wp 132 38 [.ref 0, .int a1, .int a2, .int a3, .int a4, .int (a2 - a2 / (10 : Int32) * (10 : Int32))] (v.toList ++ []) M' Q))) : wp 132 7 [.ref 0, .int a1, .int a2, .int a3, .int a4, v5] [] (hs t, F, G) Q := by
  refine wp_N (j' := 132) (pc' := 16) (L' := [.ref 0, .int a1, .int a2, .int a3, .int a4, v5]) (S' := [.int (F 1 6), .int a4]) (M' := (hs t, F, G)) 3 (fun _ => rfl) ?_
  refine wp_icmp (pc1 := 61) (c := .ge) rfl (fun hc => ?_) (fun hc => ?_)
  · replace h := h.1 hc
    refine wp_N (j' := 132) (pc' := 62) (L' := [.ref 0, .int a1, .int a2, .int a3, .int a4, v5]) (S' := [.int a2]) (M' := (hs t, F, G)) 0 (fun _ => rfl) ?_
    refine wp_ifc (pc1 := 83) (c := .ne) rfl (fun hc => ?_) (fun hc => ?_)
    · replace h := h.1 hc
      refine wp_N (j' := 132) (pc' := 84) (L' := [.ref 0, .int a1, .int a2, .int a3, .int a4, v5]) (S' := [.int (0 : Int32)]) (M' := (hs t, F, G)) 0 (fun _ => rfl) ?_
      exact wp_RZ rfl rfl (by decide) h
    · replace h := h.2 (Decidable.not_not.mp hc)
      refine wp_N (j' := 132) (pc' := 66) (L' := [.ref 0, .int a1, .int a2, .int a3, .int a4, v5]) (S' := [.int a3]) (M' := (hs t, F, G)) 0 (fun _ => rfl) ?_
      refine wp_C (i := 236) (pc' := 69) (Li := [.int a3]) (rest := []) (fun _ => rfl) h
  · replace h := h.2 (Int32.not_le.mp hc)
    refine wp_N (j' := 132) (pc' := 22) (L' := [.ref 0, .int a1, .int a2, .int a3, .int a4, v5]) (S' := [.int (10 : Int32), .int a2]) (M' := (hs t, F, G)) 1 (fun _ => rfl) ?_
    refine wp_irem rfl (by decide) ?_
    refine wp_N (j' := 132) (pc' := 35) (L' := [.ref 0, .int a1, .int a2, .int a3, .int a4, .int (a2 - a2 / (10 : Int32) * (10 : Int32))]) (S' := [.int (F 1 6), .int (1 : Int32), .int (a2 - a2 / (10 : Int32) * (10 : Int32))]) (M' := (hs t, F, G)) 5 (fun _ => rfl) ?_
    refine wp_C (i := 129) (pc' := 38) (Li := [.int (a2 - a2 / (10 : Int32) * (10 : Int32)), .int (1 : Int32), .int (F 1 6)]) (rest := []) (fun _ => rfl) h
theorem rg132_38 {t : Nat} {F : ip_F} {G : ip_G} {Q : Option Value → ip_M → Prop} {a1 a2 a3 a4 a5 as0 : Int32} (h : (¬ as0 = (0 : Int32) → wp 132 7 [.ref 0, .int a1, .int (a2 / (10 : Int32)), .int (a3 ||| ((1 : Int32) <<< (a5 &&& 31))), .int (a4 + (1 : Int32)), .int a5] [] (hs t, F, G) Q) ∧ (as0 = (0 : Int32) → Q (some (.int (0 : Int32))) (hs t, F, G))) : wp 132 38 [.ref 0, .int a1, .int a2, .int a3, .int a4, .int a5] [.int as0] (hs t, F, G) Q := by
  refine wp_ifc (pc1 := 43) (c := .ne) rfl (fun hc => ?_) (fun hc => ?_)
  · replace h := h.1 hc
    refine wp_N (j' := 132) (pc' := 53) (L' := [.ref 0, .int a1, .int a2, .int (a3 ||| ((1 : Int32) <<< (a5 &&& 31))), .int a4, .int a5]) (S' := [.int (10 : Int32), .int a2]) (M' := (hs t, F, G)) 7 (fun _ => rfl) ?_
    refine wp_idiv rfl (by decide) ?_
    refine wp_N (j' := 132) (pc' := 7) (L' := [.ref 0, .int a1, .int (a2 / (10 : Int32)), .int (a3 ||| ((1 : Int32) <<< (a5 &&& 31))), .int (a4 + (1 : Int32)), .int a5]) (S' := []) (M' := (hs t, F, G)) 2 (fun _ => rfl) ?_
    exact h
  · replace h := h.2 (Decidable.not_not.mp hc)
    refine wp_N (j' := 132) (pc' := 42) (L' := [.ref 0, .int a1, .int a2, .int a3, .int a4, .int a5]) (S' := [.int (0 : Int32)]) (M' := (hs t, F, G)) 0 (fun _ => rfl) ?_
    exact wp_RZ rfl rfl (by decide) h
theorem rg132_69 {t : Nat} {F : ip_F} {G : ip_G} {Q : Option Value → ip_M → Prop} {a1 a2 a3 a4 as0 : Int32} {v5 : Value} (h : (¬ as0 = (F 1 6) → Q (some (.int (0 : Int32))) (hs t, F, G)) ∧ (as0 = (F 1 6) → Q (some (.int (1 : Int32))) (hs t, F, G))) : wp 132 69 [.ref 0, .int a1, .int a2, .int a3, .int a4, v5] [.int as0] (hs t, F, G) Q := by
  refine wp_N (j' := 132) (pc' := 76) (L' := [.ref 0, .int a1, .int a2, .int a3, .int a4, v5]) (S' := [.int (F 1 6), .int as0]) (M' := (hs t, F, G)) 2 (fun _ => rfl) ?_
  refine wp_icmp (pc1 := 83) (c := .ne) rfl (fun hc => ?_) (fun hc => ?_)
  · replace h := h.1 hc
    refine wp_N (j' := 132) (pc' := 84) (L' := [.ref 0, .int a1, .int a2, .int a3, .int a4, v5]) (S' := [.int (0 : Int32)]) (M' := (hs t, F, G)) 0 (fun _ => rfl) ?_
    exact wp_RZ rfl rfl (by decide) h
  · replace h := h.2 (Decidable.not_not.mp hc)
    refine wp_N (j' := 132) (pc' := 84) (L' := [.ref 0, .int a1, .int a2, .int a3, .int a4, v5]) (S' := [.int (1 : Int32)]) (M' := (hs t, F, G)) 1 (fun _ => rfl) ?_
    exact wp_RZ rfl rfl (by decide) h
theorem rg133_0 {t : Nat} {F : ip_F} {G : ip_G} {Q : Option Value → ip_M → Prop} {a1 : Int32} (h : wp 129 0 [.int ((-2 : Int32) - a1), .int (0 : Int32), .int (2 : Int32)] [] (hs t, F, G) (fun v M' => wp 133 11 [.ref 0, .int a1, .int ((-2 : Int32) - a1)] (v.toList ++ []) M' Q)) : wp 133 0 [.ref 0, .int a1, .float 0] [] (hs t, F, G) Q := by
  refine wp_N (j' := 133) (pc' := 8) (L' := [.ref 0, .int a1, .int ((-2 : Int32) - a1)]) (S' := [.int (2 : Int32), .int (0 : Int32), .int ((-2 : Int32) - a1)]) (M' := (hs t, F, G)) 6 (fun _ => rfl) ?_
  refine wp_C (i := 129) (pc' := 11) (Li := [.int ((-2 : Int32) - a1), .int (0 : Int32), .int (2 : Int32)]) (rest := []) (fun _ => rfl) h
theorem rg133_11 {t : Nat} {F : ip_F} {G : ip_G} {Q : Option Value → ip_M → Prop} {a1 a2 as0 : Int32} (h : (as0 = (0 : Int32) → Q (some (.int a1)) (hs t, F, G)) ∧ (¬ as0 = (0 : Int32) → (vp_in a2 3) ∧ ((vp_in a2 3) ∧ (Q (some (.int a1)) (hs t, (ip_u F 192 (a2).toNatClampNeg ((F 192 (a2).toNatClampNeg) + (1 : Int32))), G))))) : wp 133 11 [.ref 0, .int a1, .int a2] [.int as0] (hs t, F, G) Q := by
  refine wp_ifc (pc1 := 24) (c := .eq) rfl (fun hc => ?_) (fun hc => ?_)
  · replace h := h.1 hc
    refine wp_N (j' := 133) (pc' := 25) (L' := [.ref 0, .int a1, .int a2]) (S' := [.int a1]) (M' := (hs t, F, G)) 0 (fun _ => rfl) ?_
    exact wp_RI rfl rfl h
  · replace h := h.2 hc
    refine wp_N (j' := 133) (pc' := 20) (L' := [.ref 0, .int a1, .int a2]) (S' := [.int a2, .ref 192, .int a2, .ref 192]) (M' := (hs t, F, G)) 3 (fun _ => rfl) ?_
    obtain ⟨h1_, h⟩ := h
    refine wp_ial (m := (a2).toNatClampNeg) rfl rfl rfl h1_ ?_
    refine wp_N (j' := 133) (pc' := 23) (L' := [.ref 0, .int a1, .int a2]) (S' := [.int ((F 192 (a2).toNatClampNeg) + (1 : Int32)), .int a2, .ref 192]) (M' := (hs t, F, G)) 1 (fun _ => rfl) ?_
    obtain ⟨h2_, h⟩ := h
    refine wp_ias (m := (a2).toNatClampNeg) rfl rfl rfl h2_ ?_
    refine wp_N (j' := 133) (pc' := 25) (L' := [.ref 0, .int a1, .int a2]) (S' := [.int a1]) (M' := (hs t, (ip_u F 192 (a2).toNatClampNeg ((F 192 (a2).toNatClampNeg) + (1 : Int32))), G)) 0 (fun _ => rfl) ?_
    exact wp_RI rfl rfl h
theorem rg134_0 {t : Nat} {F : ip_F} {G : ip_G} {Q : Option Value → ip_M → Prop} {o : Nat} {a1 : Int32} (ho : ok10 t o) (h : (¬ a1 = (0 : Int32) → wp 134 15 [.ref 0, .int a1] [.ref 41] (hs t, F, G) Q) ∧ (a1 = (0 : Int32) → wp 134 15 [.ref 0, .int a1] [.ref 21] (hs t, F, G) Q)) : wp 134 0 [.ref 0, .int a1] [] (hs t, F, G) Q := by
  refine wp_N (j' := 134) (pc' := 1) (L' := [.ref 0, .int a1]) (S' := [.int a1]) (M' := (hs t, F, G)) 0 (fun _ => rfl) ?_
  refine wp_ifc (pc1 := 11) (c := .ne) rfl (fun hc => ?_) (fun hc => ?_)
  · replace h := h.1 hc
    refine wp_N (j' := 134) (pc' := 15) (L' := [.ref 0, .int a1]) (S' := [.ref 41]) (M' := (hs t, F, G)) 1 (fun _ => rfl) ?_
    exact h
  · replace h := h.2 (Decidable.not_not.mp hc)
    refine wp_N (j' := 134) (pc' := 15) (L' := [.ref 0, .int a1]) (S' := [.ref 21]) (M' := (hs t, F, G)) 2 (fun _ => rfl) ?_
    exact h
theorem rg134_15 {t : Nat} {F : ip_F} {G : ip_G} {Q : Option Value → ip_M → Prop} {o : Nat} {a1 : Int32} (ho : ok10 t o) (h : Q (some (.ref o)) (hs t, F, G)) : wp 134 15 [.ref 0, .int a1] [.ref o] (hs t, F, G) Q := by
  exact wp_RA rfl rfl h
theorem rg135_0 {t : Nat} {F : ip_F} {G : ip_G} {Q : Option Value → ip_M → Prop} (h : wp 22 0 [.ref 89, .int (F 1 6), .ref 2, .float 0, .float 0] [] (hs t, F, G) (fun v M' => wp 135 26 [.ref 0, .ref 89] (v.toList ++ []) M' Q)) : wp 135 0 [.ref 0, .float 0] [] (hs t, F, G) Q := by
  refine wp_N (j' := 135) (pc' := 23) (L' := [.ref 0, .ref 89]) (S' := [.ref 2, .int (F 1 6), .ref 89]) (M' := (hs t, F, G)) 10 (fun _ => rfl) ?_
  refine wp_C (i := 22) (pc' := 26) (Li := [.ref 89, .int (F 1 6), .ref 2, .float 0, .float 0]) (rest := []) (fun _ => rfl) h
theorem rg135_26 {t : Nat} {F : ip_F} {G : ip_G} {Q : Option Value → ip_M → Prop} (h : wp 79 0 [.ref 3, .float 0, .float 0] [] (hs t, F, G) (fun v M' => wp 135 44 [.ref 0, .ref 89] (v.toList ++ [.ref 3, .ref 89]) M' Q)) : wp 135 26 [.ref 0, .ref 89] [] (hs t, F, G) Q := by
  refine wp_N (j' := 135) (pc' := 41) (L' := [.ref 0, .ref 89]) (S' := [.ref 3, .ref 3, .ref 89]) (M' := (hs t, F, G)) 6 (fun _ => rfl) ?_
  refine wp_C (i := 79) (pc' := 44) (Li := [.ref 3, .float 0, .float 0]) (rest := [.ref 3, .ref 89]) (fun _ => rfl) h
theorem rg135_44 {t : Nat} {F : ip_F} {G : ip_G} {Q : Option Value → ip_M → Prop} {as2 : Int32} (h : wp 25 0 [.ref 89, .ref 3, .int as2, .float 0, .float 0] [] (hs t, F, G) (fun v M' => wp 135 47 [.ref 0, .ref 89] (v.toList ++ []) M' Q)) : wp 135 44 [.ref 0, .ref 89] [.int as2, .ref 3, .ref 89] (hs t, F, G) Q := by
  refine wp_C (i := 25) (pc' := 47) (Li := [.ref 89, .ref 3, .int as2, .float 0, .float 0]) (rest := []) (fun _ => rfl) h
theorem rg135_47 {t : Nat} {F : ip_F} {G : ip_G} {Q : Option Value → ip_M → Prop} (h : Q (some (.ref 89)) (hs t, F, G)) : wp 135 47 [.ref 0, .ref 89] [] (hs t, F, G) Q := by
  refine wp_N (j' := 135) (pc' := 48) (L' := [.ref 0, .ref 89]) (S' := [.ref 89]) (M' := (hs t, F, G)) 0 (fun _ => rfl) ?_
  exact wp_RA rfl rfl h
theorem rg136_0 {t : Nat} {F : ip_F} {G : ip_G} {Q : Option Value → ip_M → Prop} {a1 a2 : Int32} (h : (a2 = (0 : Int32) → wp 66 0 [.ref 3, .int a1] [] (hs t, F, G) (fun v M' => wp 136 43 [.ref 0, .int a1, .int a2] (v.toList ++ []) M' Q)) ∧ ((a2 = (1 : Int32) → wp 67 0 [.ref 3, .int a1] [] (hs t, F, G) (fun v M' => wp 136 55 [.ref 0, .int a1, .int a2] (v.toList ++ []) M' Q)) ∧ ((a2 = (2 : Int32) → wp 68 0 [.ref 3, .int a1] [] (hs t, F, G) (fun v M' => wp 136 67 [.ref 0, .int a1, .int a2] (v.toList ++ []) M' Q)) ∧ ((a2 = (3 : Int32) → wp 69 0 [.ref 3, .int a1] [] (hs t, F, G) (fun v M' => wp 136 79 [.ref 0, .int a1, .int a2] (v.toList ++ []) M' Q)) ∧ ((¬ a2 = (0 : Int32) ∧ ¬ a2 = (1 : Int32) ∧ ¬ a2 = (2 : Int32) ∧ ¬ a2 = (3 : Int32) → wp 77 0 [.ref 3, .int a1] [] (hs t, F, G) (fun v M' => wp 136 91 [.ref 0, .int a1, .int a2] (v.toList ++ []) M' Q))))))) : wp 136 0 [.ref 0, .int a1, .int a2] [] (hs t, F, G) Q := by
  refine wp_N (j' := 136) (pc' := 1) (L' := [.ref 0, .int a1, .int a2]) (S' := [.int a2]) (M' := (hs t, F, G)) 0 (fun _ => rfl) ?_
  by_cases e0 : a2 = (0 : Int32)
  · replace h := h.1 e0
    refine wp_S (x := a2) (d := 79) (lo := 0) (hi := 3) (offs := #[31, 43, 55, 67]) (S' := []) (t := 32) (fun _ => rfl) (by rw [e0]; rfl) ?_
    refine wp_N (j' := 136) (pc' := 40) (L' := [.ref 0, .int a1, .int a2]) (S' := [.int a1, .ref 3]) (M' := (hs t, F, G)) 3 (fun _ => rfl) ?_
    refine wp_C (i := 66) (pc' := 43) (Li := [.ref 3, .int a1]) (rest := []) (fun _ => rfl) h
  replace h := h.2
  by_cases e1 : a2 = (1 : Int32)
  · replace h := h.1 e1
    refine wp_S (x := a2) (d := 79) (lo := 0) (hi := 3) (offs := #[31, 43, 55, 67]) (S' := []) (t := 44) (fun _ => rfl) (by rw [e1]; rfl) ?_
    refine wp_N (j' := 136) (pc' := 52) (L' := [.ref 0, .int a1, .int a2]) (S' := [.int a1, .ref 3]) (M' := (hs t, F, G)) 3 (fun _ => rfl) ?_
    refine wp_C (i := 67) (pc' := 55) (Li := [.ref 3, .int a1]) (rest := []) (fun _ => rfl) h
  replace h := h.2
  by_cases e2 : a2 = (2 : Int32)
  · replace h := h.1 e2
    refine wp_S (x := a2) (d := 79) (lo := 0) (hi := 3) (offs := #[31, 43, 55, 67]) (S' := []) (t := 56) (fun _ => rfl) (by rw [e2]; rfl) ?_
    refine wp_N (j' := 136) (pc' := 64) (L' := [.ref 0, .int a1, .int a2]) (S' := [.int a1, .ref 3]) (M' := (hs t, F, G)) 3 (fun _ => rfl) ?_
    refine wp_C (i := 68) (pc' := 67) (Li := [.ref 3, .int a1]) (rest := []) (fun _ => rfl) h
  replace h := h.2
  by_cases e3 : a2 = (3 : Int32)
  · replace h := h.1 e3
    refine wp_S (x := a2) (d := 79) (lo := 0) (hi := 3) (offs := #[31, 43, 55, 67]) (S' := []) (t := 68) (fun _ => rfl) (by rw [e3]; rfl) ?_
    refine wp_N (j' := 136) (pc' := 76) (L' := [.ref 0, .int a1, .int a2]) (S' := [.int a1, .ref 3]) (M' := (hs t, F, G)) 3 (fun _ => rfl) ?_
    refine wp_C (i := 69) (pc' := 79) (Li := [.ref 3, .int a1]) (rest := []) (fun _ => rfl) h
  replace h := h.2
  replace h := h ⟨e0, e1, e2, e3⟩
  have h1_ : ∀ i : Nat, i < 4 → ¬ a2 = Int32.ofInt (0 + i) := by
    intro i hi
    match i, hi with
    | 0, _ => exact e0
    | 1, _ => exact e1
    | 2, _ => exact e2
    | 3, _ => exact e3
  refine wp_S (x := a2) (d := 79) (lo := 0) (hi := 3) (offs := #[31, 43, 55, 67]) (S' := []) (t := 80) (fun _ => rfl) (wp_Sd (by have := in_out2 (lo := 0) (n := 4) h1_ (by decide) (by decide); simp only [Int.cast_ofNat_Int] at this; omega) (by decide)) ?_
  refine wp_N (j' := 136) (pc' := 88) (L' := [.ref 0, .int a1, .int a2]) (S' := [.int a1, .ref 3]) (M' := (hs t, F, G)) 3 (fun _ => rfl) ?_
  refine wp_C (i := 77) (pc' := 91) (Li := [.ref 3, .int a1]) (rest := []) (fun _ => rfl) h
theorem rg136_43 {t : Nat} {F : ip_F} {G : ip_G} {Q : Option Value → ip_M → Prop} {a1 a2 as0 : Int32} (h : Q (some (.int as0)) (hs t, F, G)) : wp 136 43 [.ref 0, .int a1, .int a2] [.int as0] (hs t, F, G) Q := by
  exact wp_RI rfl rfl h
theorem rg136_55 {t : Nat} {F : ip_F} {G : ip_G} {Q : Option Value → ip_M → Prop} {a1 a2 as0 : Int32} (h : Q (some (.int as0)) (hs t, F, G)) : wp 136 55 [.ref 0, .int a1, .int a2] [.int as0] (hs t, F, G) Q := by
  exact wp_RI rfl rfl h
theorem rg136_67 {t : Nat} {F : ip_F} {G : ip_G} {Q : Option Value → ip_M → Prop} {a1 a2 as0 : Int32} (h : Q (some (.int as0)) (hs t, F, G)) : wp 136 67 [.ref 0, .int a1, .int a2] [.int as0] (hs t, F, G) Q := by
  exact wp_RI rfl rfl h
theorem rg136_79 {t : Nat} {F : ip_F} {G : ip_G} {Q : Option Value → ip_M → Prop} {a1 a2 as0 : Int32} (h : Q (some (.int as0)) (hs t, F, G)) : wp 136 79 [.ref 0, .int a1, .int a2] [.int as0] (hs t, F, G) Q := by
  exact wp_RI rfl rfl h
theorem rg136_91 {t : Nat} {F : ip_F} {G : ip_G} {Q : Option Value → ip_M → Prop} {a1 a2 as0 : Int32} (h : (as0 = (0 : Int32) → Q (some (.int (0 : Int32))) (hs t, F, G)) ∧ (¬ as0 = (0 : Int32) → Q (some (.int (1 : Int32))) (hs t, F, G))) : wp 136 91 [.ref 0, .int a1, .int a2] [.int as0] (hs t, F, G) Q := by
  refine wp_ifc (pc1 := 98) (c := .eq) rfl (fun hc => ?_) (fun hc => ?_)
  · replace h := h.1 hc
    refine wp_N (j' := 136) (pc' := 99) (L' := [.ref 0, .int a1, .int a2]) (S' := [.int (0 : Int32)]) (M' := (hs t, F, G)) 0 (fun _ => rfl) ?_
    exact wp_RI rfl rfl h
  · replace h := h.2 hc
    refine wp_N (j' := 136) (pc' := 99) (L' := [.ref 0, .int a1, .int a2]) (S' := [.int (1 : Int32)]) (M' := (hs t, F, G)) 1 (fun _ => rfl) ?_
    exact wp_RI rfl rfl h
theorem rg137_0 {t : Nat} {F : ip_F} {G : ip_G} {Q : Option Value → ip_M → Prop} {a1 : Int32} (h : (a1 = (0 : Int32) → Q (some (.int (F 1 6))) (hs t, F, G)) ∧ ((a1 = (1 : Int32) → wp 78 0 [.ref 3, .float 0, .float 0] [] (hs t, F, G) (fun v M' => wp 137 70 [.ref 0, .int a1] (v.toList ++ []) M' Q)) ∧ ((a1 = (2 : Int32) → wp 79 0 [.ref 3, .float 0, .float 0] [] (hs t, F, G) (fun v M' => wp 137 84 [.ref 0, .int a1] (v.toList ++ []) M' Q)) ∧ ((a1 = (3 : Int32) → wp 70 0 [.ref 3] [] (hs t, F, G) (fun v M' => wp 137 98 [.ref 0, .int a1] (v.toList ++ []) M' Q)) ∧ ((a1 = (4 : Int32) → wp 135 0 [.ref 0, .float 0] [] (hs t, F, G) (fun v M' => wp 137 103 [.ref 0, .int a1] (v.toList ++ []) M' Q)) ∧ ((a1 = (5 : Int32) → Q (some (.int (F 15 1))) (hs t, F, G)) ∧ ((a1 = (6 : Int32) → Q (some (.int (F 17 1))) (hs t, F, G)) ∧ ((a1 = (7 : Int32) → Q (some (.int (F 19 1))) (hs t, F, G)) ∧ ((a1 = (8 : Int32) → Q (some (.int (F 5 1))) (hs t, F, G)) ∧ ((¬ a1 = (0 : Int32) ∧ ¬ a1 = (1 : Int32) ∧ ¬ a1 = (2 : Int32) ∧ ¬ a1 = (3 : Int32) ∧ ¬ a1 = (4 : Int32) ∧ ¬ a1 = (5 : Int32) ∧ ¬ a1 = (6 : Int32) ∧ ¬ a1 = (7 : Int32) ∧ ¬ a1 = (8 : Int32) → Q (some (.int (F 62 1))) (hs t, F, G)))))))))))) : wp 137 0 [.ref 0, .int a1] [] (hs t, F, G) Q := by
  refine wp_N (j' := 137) (pc' := 1) (L' := [.ref 0, .int a1]) (S' := [.int a1]) (M' := (hs t, F, G)) 0 (fun _ => rfl) ?_
  by_cases e0 : a1 = (0 : Int32)
  · replace h := h.1 e0
    refine wp_S (x := a1) (d := 150) (lo := 0) (hi := 8) (offs := #[51, 59, 73, 87, 98, 106, 117, 128, 139]) (S' := []) (t := 52) (fun _ => rfl) (by rw [e0]; rfl) ?_
    refine wp_N (j' := 137) (pc' := 59) (L' := [.ref 0, .int a1]) (S' := [.int (F 1 6)]) (M' := (hs t, F, G)) 2 (fun _ => rfl) ?_
    exact wp_RI rfl rfl h
  replace h := h.2
  by_cases e1 : a1 = (1 : Int32)
  · replace h := h.1 e1
    refine wp_S (x := a1) (d := 150) (lo := 0) (hi := 8) (offs := #[51, 59, 73, 87, 98, 106, 117, 128, 139]) (S' := []) (t := 60) (fun _ => rfl) (by rw [e1]; rfl) ?_
    refine wp_N (j' := 137) (pc' := 67) (L' := [.ref 0, .int a1]) (S' := [.ref 3]) (M' := (hs t, F, G)) 2 (fun _ => rfl) ?_
    refine wp_C (i := 78) (pc' := 70) (Li := [.ref 3, .float 0, .float 0]) (rest := []) (fun _ => rfl) h
  replace h := h.2
  by_cases e2 : a1 = (2 : Int32)
  · replace h := h.1 e2
    refine wp_S (x := a1) (d := 150) (lo := 0) (hi := 8) (offs := #[51, 59, 73, 87, 98, 106, 117, 128, 139]) (S' := []) (t := 74) (fun _ => rfl) (by rw [e2]; rfl) ?_
    refine wp_N (j' := 137) (pc' := 81) (L' := [.ref 0, .int a1]) (S' := [.ref 3]) (M' := (hs t, F, G)) 2 (fun _ => rfl) ?_
    refine wp_C (i := 79) (pc' := 84) (Li := [.ref 3, .float 0, .float 0]) (rest := []) (fun _ => rfl) h
  replace h := h.2
  by_cases e3 : a1 = (3 : Int32)
  · replace h := h.1 e3
    refine wp_S (x := a1) (d := 150) (lo := 0) (hi := 8) (offs := #[51, 59, 73, 87, 98, 106, 117, 128, 139]) (S' := []) (t := 88) (fun _ => rfl) (by rw [e3]; rfl) ?_
    refine wp_N (j' := 137) (pc' := 95) (L' := [.ref 0, .int a1]) (S' := [.ref 3]) (M' := (hs t, F, G)) 2 (fun _ => rfl) ?_
    refine wp_C (i := 70) (pc' := 98) (Li := [.ref 3]) (rest := []) (fun _ => rfl) h
  replace h := h.2
  by_cases e4 : a1 = (4 : Int32)
  · replace h := h.1 e4
    refine wp_S (x := a1) (d := 150) (lo := 0) (hi := 8) (offs := #[51, 59, 73, 87, 98, 106, 117, 128, 139]) (S' := []) (t := 99) (fun _ => rfl) (by rw [e4]; rfl) ?_
    refine wp_N (j' := 137) (pc' := 100) (L' := [.ref 0, .int a1]) (S' := [.ref 0]) (M' := (hs t, F, G)) 0 (fun _ => rfl) ?_
    refine wp_C (i := 135) (pc' := 103) (Li := [.ref 0, .float 0]) (rest := []) (fun _ => rfl) h
  replace h := h.2
  by_cases e5 : a1 = (5 : Int32)
  · replace h := h.1 e5
    refine wp_S (x := a1) (d := 150) (lo := 0) (hi := 8) (offs := #[51, 59, 73, 87, 98, 106, 117, 128, 139]) (S' := []) (t := 107) (fun _ => rfl) (by rw [e5]; rfl) ?_
    refine wp_N (j' := 137) (pc' := 117) (L' := [.ref 0, .int a1]) (S' := [.int (F 15 1)]) (M' := (hs t, F, G)) 3 (fun _ => rfl) ?_
    exact wp_RI rfl rfl h
  replace h := h.2
  by_cases e6 : a1 = (6 : Int32)
  · replace h := h.1 e6
    refine wp_S (x := a1) (d := 150) (lo := 0) (hi := 8) (offs := #[51, 59, 73, 87, 98, 106, 117, 128, 139]) (S' := []) (t := 118) (fun _ => rfl) (by rw [e6]; rfl) ?_
    refine wp_N (j' := 137) (pc' := 128) (L' := [.ref 0, .int a1]) (S' := [.int (F 17 1)]) (M' := (hs t, F, G)) 3 (fun _ => rfl) ?_
    exact wp_RI rfl rfl h
  replace h := h.2
  by_cases e7 : a1 = (7 : Int32)
  · replace h := h.1 e7
    refine wp_S (x := a1) (d := 150) (lo := 0) (hi := 8) (offs := #[51, 59, 73, 87, 98, 106, 117, 128, 139]) (S' := []) (t := 129) (fun _ => rfl) (by rw [e7]; rfl) ?_
    refine wp_N (j' := 137) (pc' := 139) (L' := [.ref 0, .int a1]) (S' := [.int (F 19 1)]) (M' := (hs t, F, G)) 3 (fun _ => rfl) ?_
    exact wp_RI rfl rfl h
  replace h := h.2
  by_cases e8 : a1 = (8 : Int32)
  · replace h := h.1 e8
    refine wp_S (x := a1) (d := 150) (lo := 0) (hi := 8) (offs := #[51, 59, 73, 87, 98, 106, 117, 128, 139]) (S' := []) (t := 140) (fun _ => rfl) (by rw [e8]; rfl) ?_
    refine wp_N (j' := 137) (pc' := 150) (L' := [.ref 0, .int a1]) (S' := [.int (F 5 1)]) (M' := (hs t, F, G)) 3 (fun _ => rfl) ?_
    exact wp_RI rfl rfl h
  replace h := h.2
  replace h := h ⟨e0, e1, e2, e3, e4, e5, e6, e7, e8⟩
  have h1_ : ∀ i : Nat, i < 9 → ¬ a1 = Int32.ofInt (0 + i) := by
    intro i hi
    match i, hi with
    | 0, _ => exact e0
    | 1, _ => exact e1
    | 2, _ => exact e2
    | 3, _ => exact e3
    | 4, _ => exact e4
    | 5, _ => exact e5
    | 6, _ => exact e6
    | 7, _ => exact e7
    | 8, _ => exact e8
  refine wp_S (x := a1) (d := 150) (lo := 0) (hi := 8) (offs := #[51, 59, 73, 87, 98, 106, 117, 128, 139]) (S' := []) (t := 151) (fun _ => rfl) (wp_Sd (by have := in_out2 (lo := 0) (n := 9) h1_ (by decide) (by decide); simp only [Int.cast_ofNat_Int] at this; omega) (by decide)) ?_
  refine wp_N (j' := 137) (pc' := 158) (L' := [.ref 0, .int a1]) (S' := [.int (F 62 1)]) (M' := (hs t, F, G)) 2 (fun _ => rfl) ?_
  exact wp_RI rfl rfl h
theorem rg137_70 {t : Nat} {F : ip_F} {G : ip_G} {Q : Option Value → ip_M → Prop} {a1 as0 : Int32} (h : wp 236 0 [.int as0] [] (hs t, F, G) (fun v M' => wp 137 73 [.ref 0, .int a1] (v.toList ++ []) M' Q)) : wp 137 70 [.ref 0, .int a1] [.int as0] (hs t, F, G) Q := by
  refine wp_C (i := 236) (pc' := 73) (Li := [.int as0]) (rest := []) (fun _ => rfl) h
theorem rg137_73 {t : Nat} {F : ip_F} {G : ip_G} {Q : Option Value → ip_M → Prop} {a1 as0 : Int32} (h : Q (some (.int as0)) (hs t, F, G)) : wp 137 73 [.ref 0, .int a1] [.int as0] (hs t, F, G) Q := by
  exact wp_RI rfl rfl h
theorem rg137_84 {t : Nat} {F : ip_F} {G : ip_G} {Q : Option Value → ip_M → Prop} {a1 as0 : Int32} (h : wp 236 0 [.int as0] [] (hs t, F, G) (fun v M' => wp 137 87 [.ref 0, .int a1] (v.toList ++ []) M' Q)) : wp 137 84 [.ref 0, .int a1] [.int as0] (hs t, F, G) Q := by
  refine wp_C (i := 236) (pc' := 87) (Li := [.int as0]) (rest := []) (fun _ => rfl) h
theorem rg137_87 {t : Nat} {F : ip_F} {G : ip_G} {Q : Option Value → ip_M → Prop} {a1 as0 : Int32} (h : Q (some (.int as0)) (hs t, F, G)) : wp 137 87 [.ref 0, .int a1] [.int as0] (hs t, F, G) Q := by
  exact wp_RI rfl rfl h
theorem rg137_98 {t : Nat} {F : ip_F} {G : ip_G} {Q : Option Value → ip_M → Prop} {a1 as0 : Int32} (h : Q (some (.int as0)) (hs t, F, G)) : wp 137 98 [.ref 0, .int a1] [.int as0] (hs t, F, G) Q := by
  exact wp_RI rfl rfl h
theorem rg137_103 {t : Nat} {F : ip_F} {G : ip_G} {Q : Option Value → ip_M → Prop} {a1 : Int32} (h : wp 32 0 [.ref 89, .float 0, .float 0] [] (hs t, F, G) (fun v M' => wp 137 106 [.ref 0, .int a1] (v.toList ++ []) M' Q)) : wp 137 103 [.ref 0, .int a1] [.ref 89] (hs t, F, G) Q := by
  refine wp_C (i := 32) (pc' := 106) (Li := [.ref 89, .float 0, .float 0]) (rest := []) (fun _ => rfl) h
theorem rg137_106 {t : Nat} {F : ip_F} {G : ip_G} {Q : Option Value → ip_M → Prop} {a1 as0 : Int32} (h : Q (some (.int as0)) (hs t, F, G)) : wp 137 106 [.ref 0, .int a1] [.int as0] (hs t, F, G) Q := by
  exact wp_RI rfl rfl h
theorem rg138_0 {t : Nat} {F : ip_F} {G : ip_G} {Q : Option Value → ip_M → Prop} {a2 : Int32} {b0 : Int64} (h : wp 138 5 [.long b0, .float 0, .int a2, .long (1 : Int64), .float 0, .int (0 : Int32)] [] (hs t, F, G) Q) : wp 138 0 [.long b0, .float 0, .int a2, .float 0, .float 0, .float 0] [] (hs t, F, G) Q := by
  refine wp_N (j' := 138) (pc' := 5) (L' := [.long b0, .float 0, .int a2, .long (1 : Int64), .float 0, .int (0 : Int32)]) (S' := []) (M' := (hs t, F, G)) 3 (fun _ => rfl) ?_
  exact h
theorem rg138_5 {t : Nat} {F : ip_F} {G : ip_G} {Q : Option Value → ip_M → Prop} {a2 a5 : Int32} {b0 b3 : Int64} {v1 v4 : Value} (h : (a2 ≤ a5 → Q (some (.long b3)) (hs t, F, G)) ∧ (a5 < a2 → wp 138 5 [.long b0, v1, .int a2, .long (b3 * b0), .float 0, .int (a5 + (1 : Int32))] [] (hs t, F, G) Q)) : wp 138 5 [.long b0, v1, .int a2, .long b3, v4, .int a5] [] (hs t, F, G) Q := by
  refine wp_N (j' := 138) (pc' := 8) (L' := [.long b0, v1, .int a2, .long b3, v4, .int a5]) (S' := [.int a2, .int a5]) (M' := (hs t, F, G)) 1 (fun _ => rfl) ?_
  refine wp_icmp (pc1 := 21) (c := .ge) rfl (fun hc => ?_) (fun hc => ?_)
  · replace h := h.1 hc
    refine wp_N (j' := 138) (pc' := 22) (L' := [.long b0, v1, .int a2, .long b3, v4, .int a5]) (S' := [.long b3]) (M' := (hs t, F, G)) 0 (fun _ => rfl) ?_
    exact wp_RL rfl rfl h
  · replace h := h.2 (Int32.not_le.mp hc)
    refine wp_N (j' := 138) (pc' := 13) (L' := [.long b0, v1, .int a2, .long b3, v4, .int a5]) (S' := [.long b0, .long b3]) (M' := (hs t, F, G)) 1 (fun _ => rfl) ?_
    refine wp_lmul rfl ?_
    refine wp_N (j' := 138) (pc' := 5) (L' := [.long b0, v1, .int a2, .long (b3 * b0), .float 0, .int (a5 + (1 : Int32))]) (S' := []) (M' := (hs t, F, G)) 2 (fun _ => rfl) ?_
    exact h
theorem rg139_0 {t : Nat} {F : ip_F} {G : ip_G} {Q : Option Value → ip_M → Prop} {b0 b2 : Int64} (h : wp 139 9 [.long b0, .float 0, .long b2, .float 0, .long b0, .float 0, .long b2, .float 0, .int (0 : Int32), .float 0, .float 0] [] (hs t, F, G) Q) : wp 139 0 [.long b0, .float 0, .long b2, .float 0, .float 0, .float 0, .float 0, .float 0, .float 0, .float 0, .float 0] [] (hs t, F, G) Q := by
  refine wp_N (j' := 139) (pc' := 9) (L' := [.long b0, .float 0, .long b2, .float 0, .long b0, .float 0, .long b2, .float 0, .int (0 : Int32), .float 0, .float 0]) (S' := []) (M' := (hs t, F, G)) 5 (fun _ => rfl) ?_
  exact h
theorem rg139_9 {t : Nat} {F : ip_F} {G : ip_G} {Q : Option Value → ip_M → Prop} {a8 : Int32} {b0 b2 b4 b6 : Int64} {v1 v3 v5 v7 v9 v10 : Value} (h : ((1000 : Int32) ≤ a8 → wp 139 45 [.long b0, v1, .long b2, v3, .long b4, v5, .long b6, v7, .int a8, v9, v10] [] (hs t, F, G) Q) ∧ (a8 < (1000 : Int32) → ((lg_cmp b6 (0 : Int64)) = (0 : Int32) → wp 139 45 [.long b0, v1, .long b2, v3, .long b4, v5, .long b6, v7, .int a8, v9, v10] [] (hs t, F, G) Q) ∧ (¬ (lg_cmp b6 (0 : Int64)) = (0 : Int32) → (¬ b6 = 0) ∧ (wp 139 9 [.long b0, v1, .long b2, (ip_unl v3), .long b6, .float 0, .long (b4 - b4 / b6 * b6), .float 0, .int (a8 + (1 : Int32)), .long (b4 - b4 / b6 * b6), .float 0] [] (hs t, F, G) Q)))) : wp 139 9 [.long b0, v1, .long b2, v3, .long b4, v5, .long b6, v7, .int a8, v9, v10] [] (hs t, F, G) Q := by
  refine wp_N (j' := 139) (pc' := 14) (L' := [.long b0, v1, .long b2, v3, .long b4, v5, .long b6, v7, .int a8, v9, v10]) (S' := [.int (1000 : Int32), .int a8]) (M' := (hs t, F, G)) 1 (fun _ => rfl) ?_
  refine wp_icmp (pc1 := 45) (c := .ge) rfl (fun hc => ?_) (fun hc => ?_)
  · replace h := h.1 hc
    exact h
  · replace h := h.2 (Int32.not_le.mp hc)
    refine wp_N (j' := 139) (pc' := 21) (L' := [.long b0, v1, .long b2, v3, .long b4, v5, .long b6, v7, .int a8, v9, v10]) (S' := [.int (lg_cmp b6 (0 : Int64))]) (M' := (hs t, F, G)) 2 (fun _ => rfl) ?_
    refine wp_ifc (pc1 := 45) (c := .eq) rfl (fun hc => ?_) (fun hc => ?_)
    · replace h := h.1 hc
      exact h
    · replace h := h.2 hc
      refine wp_N (j' := 139) (pc' := 28) (L' := [.long b0, v1, .long b2, v3, .long b4, v5, .long b6, v7, .int a8, v9, v10]) (S' := [.long b6, .long b4]) (M' := (hs t, F, G)) 1 (fun _ => rfl) ?_
      obtain ⟨h1_, h⟩ := h
      refine wp_lrem rfl h1_ ?_
      refine wp_N (j' := 139) (pc' := 9) (L' := [.long b0, v1, .long b2, (ip_unl v3), .long b6, .float 0, .long (b4 - b4 / b6 * b6), .float 0, .int (a8 + (1 : Int32)), .long (b4 - b4 / b6 * b6), .float 0]) (S' := []) (M' := (hs t, F, G)) 6 (fun _ => rfl) ?_
      exact h
theorem rg139_45 {t : Nat} {F : ip_F} {G : ip_G} {Q : Option Value → ip_M → Prop} {a8 : Int32} {b0 b2 b4 b6 : Int64} {v1 v3 v5 v7 v9 v10 : Value} (h : Q (some (.long b4)) (hs t, F, G)) : wp 139 45 [.long b0, v1, .long b2, v3, .long b4, v5, .long b6, v7, .int a8, v9, v10] [] (hs t, F, G) Q := by
  refine wp_N (j' := 139) (pc' := 47) (L' := [.long b0, v1, .long b2, v3, .long b4, v5, .long b6, v7, .int a8, v9, v10]) (S' := [.long b4]) (M' := (hs t, F, G)) 0 (fun _ => rfl) ?_
  exact wp_RL rfl rfl h
