/-! ===== what the regions of code ask of the shape ===== -/
theorem hs_lt {t k : Nat} {x : ip_Sh} (h : (hs t)[k]? = some x) : k < ip_EX := by
  have h1 : k < (hs t).length := by
    rcases Nat.lt_or_ge k (hs t).length with q | q
    · exact q
    · rw [List.getElem?_eq_none q] at h
      cases h
  rw [hs_len] at h1
  unfold ip_EX
  omega
theorem hs_b8 {k : Nat} (h : k < 1000) : k + 2 + 8 < ip_EX := by
  unfold ip_EX
  omega
theorem in_out2 {x : Int32} {lo n : Nat} (h : ∀ i : Nat, i < n → ¬ x = Int32.ofInt ((lo : Int) + i)) (hn : n < 1000) (hl : lo < 1000) : x.toInt < lo ∨ (lo : Int) + n ≤ x.toInt := by
  rcases Int.lt_or_le x.toInt lo with h0 | h0
  · exact Or.inl h0
  · rcases Int.lt_or_le x.toInt (lo + n) with h1 | h1
    · exfalso
      refine h (x.toInt - lo).toNat (by omega) ?_
      rw [Int.toNat_of_nonneg (by omega), show (lo : Int) + (x.toInt - lo) = x.toInt by omega, Int32.ofInt_toInt]
    · exact Or.inr h1
theorem vp_d {i : Int32} {n : Nat} (h : decide (i < 0 ∨ n ≤ i.toNatClampNeg) = false) : vp_in i n := of_decide_eq_false h
theorem wp_inc {j pc k : Nat} {L L' S : List Value} {M : ip_M} {Q : Option Value → ip_M → Prop} {v : Int32} {n : Int} (hf : ip_fetch j pc = some (.iinc k n, 3, 0)) (hL : L[k]? = some (.int v)) (hL' : ip_sto L k (.int (v + Int32.ofInt n)) = L') (h : wp j (pc + 3) L' S M Q) : wp j pc L S M Q := by
  refine wp_N 0 (fun n9 => ?_) h
  rw [ip_run, hf]
  simp only [Option.bind_some, ip_ex, hL, hL']
section WPL
variable {j pc : Nat} {L S : List Value} {M : ip_M} {Q : Option Value → ip_M → Prop}
theorem wp_ladd {x y : Int64} (hf : ip_fetch j pc = some (.ladd, 1, 0)) (h : wp j (pc + 1) L (.long (x + y) :: S) M Q) : wp j pc L (.long y :: .long x :: S) M Q := by
  refine wp_N 0 (fun n9 => ?_) h
  rw [ip_run, hf]
  rfl
theorem wp_lmul {x y : Int64} (hf : ip_fetch j pc = some (.lmul, 1, 0)) (h : wp j (pc + 1) L (.long (x * y) :: S) M Q) : wp j pc L (.long y :: .long x :: S) M Q := by
  refine wp_N 0 (fun n9 => ?_) h
  rw [ip_run, hf]
  rfl
theorem wp_ldiv {x y : Int64} (hf : ip_fetch j pc = some (.ldiv, 1, 0)) (hy : ¬ y = 0) (h : wp j (pc + 1) L (.long (x / y) :: S) M Q) : wp j pc L (.long y :: .long x :: S) M Q := by
  refine wp_N 0 (fun n9 => ?_) h
  rw [ip_run, hf]
  simp only [Option.bind_some, ip_ex, ip_st, if_neg hy]
theorem wp_lrem {x y : Int64} (hf : ip_fetch j pc = some (.lrem, 1, 0)) (hy : ¬ y = 0) (h : wp j (pc + 1) L (.long (x - x / y * y) :: S) M Q) : wp j pc L (.long y :: .long x :: S) M Q := by
  refine wp_N 0 (fun n9 => ?_) h
  rw [ip_run, hf]
  simp only [Option.bind_some, ip_ex, ip_st, if_neg hy]
theorem wp_idiv {x y : Int32} (hf : ip_fetch j pc = some (.idiv, 1, 0)) (hy : ¬ y = 0) (h : wp j (pc + 1) L (.int (x / y) :: S) M Q) : wp j pc L (.int y :: .int x :: S) M Q := by
  refine wp_N 0 (fun n9 => ?_) h
  rw [ip_run, hf]
  simp only [Option.bind_some, ip_ex, ip_st, if_neg hy]
theorem wp_irem {x y : Int32} (hf : ip_fetch j pc = some (.irem, 1, 0)) (hy : ¬ y = 0) (h : wp j (pc + 1) L (.int (x - x / y * y) :: S) M Q) : wp j pc L (.int y :: .int x :: S) M Q := by
  refine wp_N 0 (fun n9 => ?_) h
  rw [ip_run, hf]
  simp only [Option.bind_some, ip_ex, ip_st, if_neg hy]
theorem wp_l2i {x : Int64} (hf : ip_fetch j pc = some (.l2i, 1, 0)) (h : wp j (pc + 1) L (.int x.toInt32 :: S) M Q) : wp j pc L (.long x :: S) M Q := by
  refine wp_N 0 (fun n9 => ?_) h
  rw [ip_run, hf]
  rfl
theorem wp_ldc2 {idx aux : Nat} {q : _} {v : Int64} (hf : ip_fetch j pc = some (.ldc2_w idx, 3, aux)) (hq : ip_KL[aux]? = some q) (hv : q.2.2.1 = v) (h : wp j (pc + 3) L (.long v :: S) M Q) : wp j pc L S M Q := by
  subst hv
  refine wp_N 0 (fun n9 => ?_) h
  rw [ip_run, hf]
  simp only [Option.bind_some, ip_ex, ip_st, hq, Option.map_some]
end WPL
theorem wp_icmp {j pc pc1 : Nat} {L S : List Value} {M : ip_M} {Q : Option Value → ip_M → Prop} {x y : Int32} {c : Jvm.ClassFile.Cond} {off : Int} (hf : ip_fetch j pc = some (.if_icmp c off, 3, pc1)) (h1 : ip_cmp x y c → wp j pc1 L S M Q) (h2 : ¬ ip_cmp x y c → wp j (pc + 3) L S M Q) : wp j pc L (.int y :: .int x :: S) M Q := by
  refine wp_I c (fun n9 => ?_) h1 h2
  rw [ip_run, hf]
  rfl
theorem wp_ifc {j pc pc1 : Nat} {L S : List Value} {M : ip_M} {Q : Option Value → ip_M → Prop} {x : Int32} {c : Jvm.ClassFile.Cond} {off : Int} (hf : ip_fetch j pc = some (.ifCond c off, 3, pc1)) (h1 : ip_cmp x 0 c → wp j pc1 L S M Q) (h2 : ¬ ip_cmp x 0 c → wp j (pc + 3) L S M Q) : wp j pc L (.int x :: S) M Q := by
  refine wp_I c (fun n9 => ?_) h1 h2
  rw [ip_run, hf]
  rfl
theorem wp_putL {j pc : Nat} {L S : List Value} {sh : List ip_Sh} {F : ip_F} {G : ip_G} {Q : Option Value → ip_M → Prop} {k ci f aux idx : Nat} {l : List Nat} {x : Int64} (hf : ip_fetch j pc = some (.putfield idx, 3, aux)) (hs : sh[k]? = some (3, ci, l)) (ha : aux / 64 = ci) (hf' : aux % 64 = f) (hd : l[f]? = some 1) (ht : ip_ty ci f = .long) (hx : aux < 100000) (h : wp j (pc + 3) L S (sh, F, ip_ul G k f x) Q) : wp j pc L (.long x :: .ref k :: S) (sh, F, G) Q := by
  refine wp_N 0 (fun n9 => ?_) h
  rw [ip_run, hf]
  have : ip_pf (sh, F, G) k aux (.long x) = some (sh, F, ip_ul G k f x) := by
    unfold ip_pf
    rw [show ((sh, F, G) : ip_M).1[k]? = some (3, ci, l) from hs]
    subst hf'
    simp only [ha, if_true, hd, Option.bind_some, ht, ip_pv]
  simp only [Option.bind_some, ip_ex, if_pos hx, this]
theorem rg2_0 {t : Nat} {F : ip_F} {G : ip_G} {Q : Option Value → ip_M → Prop} (h : wp 78 0 [.ref 3, .float 0, .float 0] [] (hs t, F, G) (fun v M' => wp 2 7 [.ref 124, .ref 1, .ref 89, .float 0, .float 0] (v.toList ++ []) M' Q)) : wp 2 0 [.ref 124, .ref 1, .ref 89, .float 0, .float 0] [] (hs t, F, G) Q := by
  refine wp_N (j' := 2) (pc' := 4) (L' := [.ref 124, .ref 1, .ref 89, .float 0, .float 0]) (S' := [.ref 3]) (M' := (hs t, F, G)) 1 (fun _ => rfl) ?_
  refine wp_C (i := 78) (pc' := 7) (Li := [.ref 3, .float 0, .float 0]) (rest := []) (fun _ => rfl) h
theorem rg2_7 {t : Nat} {F : ip_F} {G : ip_G} {Q : Option Value → ip_M → Prop} {as0 : Int32} {v3 v4 : Value} (h : wp 22 0 [.ref 89, .int ((ip_u F 124 3 (0 : Int32)) 1 6), .ref 2, .float 0, .float 0] [] (hs t, (ip_u F 124 3 (0 : Int32)), G) (fun v M' => wp 2 25 [.ref 124, .ref 1, .ref 89, .int as0, v4] (v.toList ++ []) M' Q)) : wp 2 7 [.ref 124, .ref 1, .ref 89, v3, v4] [.int as0] (hs t, F, G) Q := by
  refine wp_N (j' := 2) (pc' := 10) (L' := [.ref 124, .ref 1, .ref 89, .int as0, v4]) (S' := [.int (0 : Int32), .ref 124]) (M' := (hs t, F, G)) 2 (fun _ => rfl) ?_
  refine wp_putI rfl rfl rfl rfl rfl rfl (by decide) ?_
  refine wp_N (j' := 2) (pc' := 22) (L' := [.ref 124, .ref 1, .ref 89, .int as0, v4]) (S' := [.ref 2, .int ((ip_u F 124 3 (0 : Int32)) 1 6), .ref 89]) (M' := (hs t, (ip_u F 124 3 (0 : Int32)), G)) 4 (fun _ => rfl) ?_
  refine wp_C (i := 22) (pc' := 25) (Li := [.ref 89, .int ((ip_u F 124 3 (0 : Int32)) 1 6), .ref 2, .float 0, .float 0]) (rest := []) (fun _ => rfl) h
theorem rg2_25 {t : Nat} {F : ip_F} {G : ip_G} {Q : Option Value → ip_M → Prop} {a3 : Int32} {v4 : Value} (h : wp 2 28 [.ref 124, .ref 1, .ref 89, .int a3, .int (0 : Int32)] [] (hs t, F, G) Q) : wp 2 25 [.ref 124, .ref 1, .ref 89, .int a3, v4] [] (hs t, F, G) Q := by
  refine wp_N (j' := 2) (pc' := 28) (L' := [.ref 124, .ref 1, .ref 89, .int a3, .int (0 : Int32)]) (S' := []) (M' := (hs t, F, G)) 1 (fun _ => rfl) ?_
  exact h
theorem rg2_28 {t : Nat} {F : ip_F} {G : ip_G} {Q : Option Value → ip_M → Prop} {a3 a4 : Int32} (h : ((64 : Int32) ≤ a4 → Q none (hs t, F, G)) ∧ (a4 < (64 : Int32) → (¬ (a4 &&& (a3 ^^^ (-1 : Int32))) = (0 : Int32) → wp 2 72 [.ref 124, .ref 1, .ref 89, .int a3, .int a4] [] (hs t, F, G) Q) ∧ ((a4 &&& (a3 ^^^ (-1 : Int32))) = (0 : Int32) → wp 25 0 [.ref 89, .ref 3, .int a4, .float 0, .float 0] [] (hs t, F, G) (fun v M' => wp 2 54 [.ref 124, .ref 1, .ref 89, .int a3, .int a4] (v.toList ++ []) M' Q)))) : wp 2 28 [.ref 124, .ref 1, .ref 89, .int a3, .int a4] [] (hs t, F, G) Q := by
  refine wp_N (j' := 2) (pc' := 32) (L' := [.ref 124, .ref 1, .ref 89, .int a3, .int a4]) (S' := [.int (64 : Int32), .int a4]) (M' := (hs t, F, G)) 1 (fun _ => rfl) ?_
  refine wp_icmp (pc1 := 78) (c := .ge) rfl (fun hc => ?_) (fun hc => ?_)
  · replace h := h.1 hc
    exact wp_RV rfl rfl h
  · replace h := h.2 (Int32.not_le.mp hc)
    refine wp_N (j' := 2) (pc' := 41) (L' := [.ref 124, .ref 1, .ref 89, .int a3, .int a4]) (S' := [.int (a4 &&& (a3 ^^^ (-1 : Int32)))]) (M' := (hs t, F, G)) 4 (fun _ => rfl) ?_
    refine wp_ifc (pc1 := 72) (c := .ne) rfl (fun hc => ?_) (fun hc => ?_)
    · replace h := h.1 hc
      exact h
    · replace h := h.2 (Decidable.not_not.mp hc)
      refine wp_N (j' := 2) (pc' := 51) (L' := [.ref 124, .ref 1, .ref 89, .int a3, .int a4]) (S' := [.int a4, .ref 3, .ref 89]) (M' := (hs t, F, G)) 3 (fun _ => rfl) ?_
      refine wp_C (i := 25) (pc' := 54) (Li := [.ref 89, .ref 3, .int a4, .float 0, .float 0]) (rest := []) (fun _ => rfl) h
theorem rg2_54 {t : Nat} {F : ip_F} {G : ip_G} {Q : Option Value → ip_M → Prop} {a3 a4 : Int32} (h : wp 3 0 [.ref 15, .ref 89, .float 0, .float 0] [] (hs t, F, G) (fun v M' => wp 2 62 [.ref 124, .ref 1, .ref 89, .int a3, .int a4] (v.toList ++ []) M' Q)) : wp 2 54 [.ref 124, .ref 1, .ref 89, .int a3, .int a4] [] (hs t, F, G) Q := by
  refine wp_N (j' := 2) (pc' := 59) (L' := [.ref 124, .ref 1, .ref 89, .int a3, .int a4]) (S' := [.ref 89, .ref 15]) (M' := (hs t, F, G)) 2 (fun _ => rfl) ?_
  refine wp_C (i := 3) (pc' := 62) (Li := [.ref 15, .ref 89, .float 0, .float 0]) (rest := []) (fun _ => rfl) h
theorem rg2_62 {t : Nat} {F : ip_F} {G : ip_G} {Q : Option Value → ip_M → Prop} {a3 a4 as0 : Int32} (h : (as0 = (0 : Int32) → wp 2 72 [.ref 124, .ref 1, .ref 89, .int a3, .int a4] [] (hs t, F, G) Q) ∧ (¬ as0 = (0 : Int32) → wp 4 0 [.ref 124, .int a4, .ref 89] [] (hs t, F, G) (fun v M' => wp 2 72 [.ref 124, .ref 1, .ref 89, .int a3, .int a4] (v.toList ++ []) M' Q))) : wp 2 62 [.ref 124, .ref 1, .ref 89, .int a3, .int a4] [.int as0] (hs t, F, G) Q := by
  refine wp_ifc (pc1 := 72) (c := .eq) rfl (fun hc => ?_) (fun hc => ?_)
  · replace h := h.1 hc
    exact h
  · replace h := h.2 hc
    refine wp_N (j' := 2) (pc' := 69) (L' := [.ref 124, .ref 1, .ref 89, .int a3, .int a4]) (S' := [.ref 89, .int a4, .ref 124]) (M' := (hs t, F, G)) 2 (fun _ => rfl) ?_
    refine wp_C (i := 4) (pc' := 72) (Li := [.ref 124, .int a4, .ref 89]) (rest := []) (fun _ => rfl) h
theorem rg2_72 {t : Nat} {F : ip_F} {G : ip_G} {Q : Option Value → ip_M → Prop} {a3 a4 : Int32} (h : wp 2 28 [.ref 124, .ref 1, .ref 89, .int a3, .int (a4 + (1 : Int32))] [] (hs t, F, G) Q) : wp 2 72 [.ref 124, .ref 1, .ref 89, .int a3, .int a4] [] (hs t, F, G) Q := by
  refine wp_N (j' := 2) (pc' := 28) (L' := [.ref 124, .ref 1, .ref 89, .int a3, .int (a4 + (1 : Int32))]) (S' := []) (M' := (hs t, F, G)) 1 (fun _ => rfl) ?_
  exact h
theorem rg3_0 {t : Nat} {F : ip_F} {G : ip_G} {Q : Option Value → ip_M → Prop} (h : wp 3 2 [.ref 15, .ref 89, .int (0 : Int32), .float 0] [] (hs t, F, G) Q) : wp 3 0 [.ref 15, .ref 89, .float 0, .float 0] [] (hs t, F, G) Q := by
  refine wp_N (j' := 3) (pc' := 2) (L' := [.ref 15, .ref 89, .int (0 : Int32), .float 0]) (S' := []) (M' := (hs t, F, G)) 1 (fun _ => rfl) ?_
  exact h
theorem rg3_2 {t : Nat} {F : ip_F} {G : ip_G} {Q : Option Value → ip_M → Prop} {a2 : Int32} {v3 : Value} (h : ((F 15 1) ≤ a2 → Q (some (.int (1 : Int32))) (hs t, F, G)) ∧ (a2 < (F 15 1) → wp 47 0 [.ref 15, .int a2, .int (0 : Int32), .float 0] [] (hs t, F, G) (fun v M' => wp 3 16 [.ref 15, .ref 89, .int a2, v3] (v.toList ++ []) M' Q))) : wp 3 2 [.ref 15, .ref 89, .int a2, v3] [] (hs t, F, G) Q := by
  refine wp_N (j' := 3) (pc' := 7) (L' := [.ref 15, .ref 89, .int a2, v3]) (S' := [.int (F 15 1), .int a2]) (M' := (hs t, F, G)) 2 (fun _ => rfl) ?_
  refine wp_icmp (pc1 := 50) (c := .ge) rfl (fun hc => ?_) (fun hc => ?_)
  · replace h := h.1 hc
    refine wp_N (j' := 3) (pc' := 51) (L' := [.ref 15, .ref 89, .int a2, v3]) (S' := [.int (1 : Int32)]) (M' := (hs t, F, G)) 0 (fun _ => rfl) ?_
    exact wp_RZ rfl rfl (by decide) h
  · replace h := h.2 (Int32.not_le.mp hc)
    refine wp_N (j' := 3) (pc' := 13) (L' := [.ref 15, .ref 89, .int a2, v3]) (S' := [.int (0 : Int32), .int a2, .ref 15]) (M' := (hs t, F, G)) 2 (fun _ => rfl) ?_
    refine wp_C (i := 47) (pc' := 16) (Li := [.ref 15, .int a2, .int (0 : Int32), .float 0]) (rest := []) (fun _ => rfl) h
theorem rg3_16 {t : Nat} {F : ip_F} {G : ip_G} {Q : Option Value → ip_M → Prop} {a2 as0 : Int32} {v3 : Value} (h : wp 129 0 [.int as0, .int (0 : Int32), .int (11 : Int32)] [] (hs t, F, G) (fun v M' => wp 3 24 [.ref 15, .ref 89, .int a2, .int as0] (v.toList ++ []) M' Q)) : wp 3 16 [.ref 15, .ref 89, .int a2, v3] [.int as0] (hs t, F, G) Q := by
  refine wp_N (j' := 3) (pc' := 21) (L' := [.ref 15, .ref 89, .int a2, .int as0]) (S' := [.int (11 : Int32), .int (0 : Int32), .int as0]) (M' := (hs t, F, G)) 3 (fun _ => rfl) ?_
  refine wp_C (i := 129) (pc' := 24) (Li := [.int as0, .int (0 : Int32), .int (11 : Int32)]) (rest := []) (fun _ => rfl) h
theorem rg3_24 {t : Nat} {F : ip_F} {G : ip_G} {Q : Option Value → ip_M → Prop} {a2 a3 as0 : Int32} (h : (as0 = (0 : Int32) → Q (some (.int (0 : Int32))) (hs t, F, G)) ∧ (¬ as0 = (0 : Int32) → (vp_in a3 12) ∧ (wp 47 0 [.ref 15, .int a2, .int (1 : Int32), .float 0] [] (hs t, F, G) (fun v M' => wp 3 39 [.ref 15, .ref 89, .int a2, .int a3] (v.toList ++ [.int (F 117 (a3).toNatClampNeg)]) M' Q)))) : wp 3 24 [.ref 15, .ref 89, .int a2, .int a3] [.int as0] (hs t, F, G) Q := by
  refine wp_ifc (pc1 := 42) (c := .eq) rfl (fun hc => ?_) (fun hc => ?_)
  · replace h := h.1 hc
    refine wp_N (j' := 3) (pc' := 43) (L' := [.ref 15, .ref 89, .int a2, .int a3]) (S' := [.int (0 : Int32)]) (M' := (hs t, F, G)) 0 (fun _ => rfl) ?_
    exact wp_RZ rfl rfl (by decide) h
  · replace h := h.2 hc
    refine wp_N (j' := 3) (pc' := 32) (L' := [.ref 15, .ref 89, .int a2, .int a3]) (S' := [.int a3, .ref 117]) (M' := (hs t, F, G)) 2 (fun _ => rfl) ?_
    obtain ⟨h1_, h⟩ := h
    refine wp_ial (m := (a3).toNatClampNeg) rfl rfl rfl h1_ ?_
    refine wp_N (j' := 3) (pc' := 36) (L' := [.ref 15, .ref 89, .int a2, .int a3]) (S' := [.int (1 : Int32), .int a2, .ref 15, .int (F 117 (a3).toNatClampNeg)]) (M' := (hs t, F, G)) 2 (fun _ => rfl) ?_
    refine wp_C (i := 47) (pc' := 39) (Li := [.ref 15, .int a2, .int (1 : Int32), .float 0]) (rest := [.int (F 117 (a3).toNatClampNeg)]) (fun _ => rfl) h
theorem rg3_39 {t : Nat} {F : ip_F} {G : ip_G} {Q : Option Value → ip_M → Prop} {a2 a3 as0 as1 : Int32} (h : (as0 = as1 → wp 3 2 [.ref 15, .ref 89, .int (a2 + (1 : Int32)), .int a3] [] (hs t, F, G) Q) ∧ (¬ as0 = as1 → Q (some (.int (0 : Int32))) (hs t, F, G))) : wp 3 39 [.ref 15, .ref 89, .int a2, .int a3] [.int as1, .int as0] (hs t, F, G) Q := by
  refine wp_icmp (pc1 := 44) (c := .eq) rfl (fun hc => ?_) (fun hc => ?_)
  · replace h := h.1 hc
    refine wp_N (j' := 3) (pc' := 2) (L' := [.ref 15, .ref 89, .int (a2 + (1 : Int32)), .int a3]) (S' := []) (M' := (hs t, F, G)) 1 (fun _ => rfl) ?_
    exact h
  · replace h := h.2 hc
    refine wp_N (j' := 3) (pc' := 43) (L' := [.ref 15, .ref 89, .int a2, .int a3]) (S' := [.int (0 : Int32)]) (M' := (hs t, F, G)) 0 (fun _ => rfl) ?_
    exact wp_RZ rfl rfl (by decide) h
theorem rg4_0 {t : Nat} {F : ip_F} {G : ip_G} {Q : Option Value → ip_M → Prop} {a1 : Int32} (h : ((64 : Int32) ≤ (F 124 3) → Q none (hs t, F, G)) ∧ ((F 124 3) < (64 : Int32) → (vp_in (F 124 3) 64) ∧ ((vp_in ((ip_u F 125 ((F 124 3)).toNatClampNeg a1) 124 3) 64) ∧ (Q none (hs t, (ip_u (ip_ur (ip_u F 125 ((F 124 3)).toNatClampNeg a1) (127 + (((ip_u F 125 ((F 124 3)).toNatClampNeg a1) 124 3)).toNatClampNeg) (va_cpy ((ip_u F 125 ((F 124 3)).toNatClampNeg a1) 117) ((ip_u F 125 ((F 124 3)).toNatClampNeg a1) (127 + (((ip_u F 125 ((F 124 3)).toNatClampNeg a1) 124 3)).toNatClampNeg)) 0 0 12)) 124 3 (((ip_ur (ip_u F 125 ((F 124 3)).toNatClampNeg a1) (127 + (((ip_u F 125 ((F 124 3)).toNatClampNeg a1) 124 3)).toNatClampNeg) (va_cpy ((ip_u F 125 ((F 124 3)).toNatClampNeg a1) 117) ((ip_u F 125 ((F 124 3)).toNatClampNeg a1) (127 + (((ip_u F 125 ((F 124 3)).toNatClampNeg a1) 124 3)).toNatClampNeg)) 0 0 12)) 124 3) + (1 : Int32))), G))))) : wp 4 0 [.ref 124, .int a1, .ref 89] [] (hs t, F, G) Q := by
  refine wp_N (j' := 4) (pc' := 6) (L' := [.ref 124, .int a1, .ref 89]) (S' := [.int (64 : Int32), .int (F 124 3)]) (M' := (hs t, F, G)) 2 (fun _ => rfl) ?_
  refine wp_icmp (pc1 := 49) (c := .ge) rfl (fun hc => ?_) (fun hc => ?_)
  · replace h := h.1 hc
    exact wp_RV rfl rfl h
  · replace h := h.2 (Int32.not_le.mp hc)
    refine wp_N (j' := 4) (pc' := 18) (L' := [.ref 124, .int a1, .ref 89]) (S' := [.int a1, .int (F 124 3), .ref 125]) (M' := (hs t, F, G)) 4 (fun _ => rfl) ?_
    obtain ⟨h1_, h⟩ := h
    refine wp_ias (m := ((F 124 3)).toNatClampNeg) rfl rfl rfl h1_ ?_
    refine wp_N (j' := 4) (pc' := 32) (L' := [.ref 124, .int a1, .ref 89]) (S' := [.int ((ip_u F 125 ((F 124 3)).toNatClampNeg a1) 124 3), .ref 126, .int (0 : Int32), .ref 117]) (M' := (hs t, (ip_u F 125 ((F 124 3)).toNatClampNeg a1), G)) 6 (fun _ => rfl) ?_
    obtain ⟨h2_, h⟩ := h
    refine wp_aal (b := 127) (m := (((ip_u F 125 ((F 124 3)).toNatClampNeg a1) 124 3)).toNatClampNeg) rfl rfl hs_g127 (by decide) rfl h2_ ?_
    refine wp_N (j' := 4) (pc' := 36) (L' := [.ref 124, .int a1, .ref 89]) (S' := [.int (12 : Int32), .int (0 : Int32), .ref (127 + (((ip_u F 125 ((F 124 3)).toNatClampNeg a1) 124 3)).toNatClampNeg), .int (0 : Int32), .ref 117]) (M' := (hs t, (ip_u F 125 ((F 124 3)).toNatClampNeg a1), G)) 1 (fun _ => rfl) ?_
    refine wp_cpy (sp' := 0) (dp' := 0) (n' := 12) rfl rfl (hs_r127 t _ (vp_lt h2_)) (by decide) (by decide) rfl rfl rfl (by decide) (by decide) ?_
    refine wp_N (j' := 4) (pc' := 46) (L' := [.ref 124, .int a1, .ref 89]) (S' := [.int (((ip_ur (ip_u F 125 ((F 124 3)).toNatClampNeg a1) (127 + (((ip_u F 125 ((F 124 3)).toNatClampNeg a1) 124 3)).toNatClampNeg) (va_cpy ((ip_u F 125 ((F 124 3)).toNatClampNeg a1) 117) ((ip_u F 125 ((F 124 3)).toNatClampNeg a1) (127 + (((ip_u F 125 ((F 124 3)).toNatClampNeg a1) 124 3)).toNatClampNeg)) 0 0 12)) 124 3) + (1 : Int32)), .ref 124]) (M' := (hs t, (ip_ur (ip_u F 125 ((F 124 3)).toNatClampNeg a1) (127 + (((ip_u F 125 ((F 124 3)).toNatClampNeg a1) 124 3)).toNatClampNeg) (va_cpy ((ip_u F 125 ((F 124 3)).toNatClampNeg a1) 117) ((ip_u F 125 ((F 124 3)).toNatClampNeg a1) (127 + (((ip_u F 125 ((F 124 3)).toNatClampNeg a1) 124 3)).toNatClampNeg)) 0 0 12)), G)) 4 (fun _ => rfl) ?_
    refine wp_putI rfl rfl rfl rfl rfl rfl (by decide) ?_
    exact wp_RV rfl rfl h
theorem rg5_0 {t : Nat} {F : ip_F} {G : ip_G} {Q : Option Value → ip_M → Prop} (h : (¬ (F 124 3) = (0 : Int32) → wp 5 14 [.ref 124, .int (63 : Int32), .int (0 : Int32)] [] (hs t, F, G) Q) ∧ ((F 124 3) = (0 : Int32) → Q (some (.int (-1 : Int32))) (hs t, F, G))) : wp 5 0 [.ref 124, .float 0, .float 0] [] (hs t, F, G) Q := by
  refine wp_N (j' := 5) (pc' := 4) (L' := [.ref 124, .float 0, .float 0]) (S' := [.int (F 124 3)]) (M' := (hs t, F, G)) 1 (fun _ => rfl) ?_
  refine wp_ifc (pc1 := 9) (c := .ne) rfl (fun hc => ?_) (fun hc => ?_)
  · replace h := h.1 hc
    refine wp_N (j' := 5) (pc' := 14) (L' := [.ref 124, .int (63 : Int32), .int (0 : Int32)]) (S' := []) (M' := (hs t, F, G)) 3 (fun _ => rfl) ?_
    exact h
  · replace h := h.2 (Decidable.not_not.mp hc)
    refine wp_N (j' := 5) (pc' := 8) (L' := [.ref 124, .float 0, .float 0]) (S' := [.int (-1 : Int32)]) (M' := (hs t, F, G)) 0 (fun _ => rfl) ?_
    exact wp_RI rfl rfl h
theorem rg5_14 {t : Nat} {F : ip_F} {G : ip_G} {Q : Option Value → ip_M → Prop} {a1 a2 : Int32} (h : ((F 124 3) ≤ a2 → Q (some (.int a1)) (hs t, F, G)) ∧ (a2 < (F 124 3) → (vp_in a2 64) ∧ (wp 5 14 [.ref 124, .int (a1 &&& (F 125 (a2).toNatClampNeg)), .int (a2 + (1 : Int32))] [] (hs t, F, G) Q))) : wp 5 14 [.ref 124, .int a1, .int a2] [] (hs t, F, G) Q := by
  refine wp_N (j' := 5) (pc' := 19) (L' := [.ref 124, .int a1, .int a2]) (S' := [.int (F 124 3), .int a2]) (M' := (hs t, F, G)) 2 (fun _ => rfl) ?_
  refine wp_icmp (pc1 := 37) (c := .ge) rfl (fun hc => ?_) (fun hc => ?_)
  · replace h := h.1 hc
    refine wp_N (j' := 5) (pc' := 38) (L' := [.ref 124, .int a1, .int a2]) (S' := [.int a1]) (M' := (hs t, F, G)) 0 (fun _ => rfl) ?_
    exact wp_RI rfl rfl h
  · replace h := h.2 (Int32.not_le.mp hc)
    refine wp_N (j' := 5) (pc' := 28) (L' := [.ref 124, .int a1, .int a2]) (S' := [.int a2, .ref 125, .int a1]) (M' := (hs t, F, G)) 3 (fun _ => rfl) ?_
    obtain ⟨h1_, h⟩ := h
    refine wp_ial (m := (a2).toNatClampNeg) rfl rfl rfl h1_ ?_
    refine wp_N (j' := 5) (pc' := 14) (L' := [.ref 124, .int (a1 &&& (F 125 (a2).toNatClampNeg)), .int (a2 + (1 : Int32))]) (S' := []) (M' := (hs t, F, G)) 3 (fun _ => rfl) ?_
    exact h
theorem rg6_0 {t : Nat} {F : ip_F} {G : ip_G} {Q : Option Value → ip_M → Prop} (h : wp 6 4 [.ref 124, .int (0 : Int32), .int (0 : Int32)] [] (hs t, F, G) Q) : wp 6 0 [.ref 124, .float 0, .float 0] [] (hs t, F, G) Q := by
  refine wp_N (j' := 6) (pc' := 4) (L' := [.ref 124, .int (0 : Int32), .int (0 : Int32)]) (S' := []) (M' := (hs t, F, G)) 3 (fun _ => rfl) ?_
  exact h
theorem rg6_4 {t : Nat} {F : ip_F} {G : ip_G} {Q : Option Value → ip_M → Prop} {a1 a2 : Int32} (h : ((F 124 3) ≤ a2 → Q (some (.int a1)) (hs t, F, G)) ∧ (a2 < (F 124 3) → (vp_in a2 64) ∧ (wp 6 4 [.ref 124, .int (a1 ||| (F 125 (a2).toNatClampNeg)), .int (a2 + (1 : Int32))] [] (hs t, F, G) Q))) : wp 6 4 [.ref 124, .int a1, .int a2] [] (hs t, F, G) Q := by
  refine wp_N (j' := 6) (pc' := 9) (L' := [.ref 124, .int a1, .int a2]) (S' := [.int (F 124 3), .int a2]) (M' := (hs t, F, G)) 2 (fun _ => rfl) ?_
  refine wp_icmp (pc1 := 27) (c := .ge) rfl (fun hc => ?_) (fun hc => ?_)
  · replace h := h.1 hc
    refine wp_N (j' := 6) (pc' := 28) (L' := [.ref 124, .int a1, .int a2]) (S' := [.int a1]) (M' := (hs t, F, G)) 0 (fun _ => rfl) ?_
    exact wp_RI rfl rfl h
  · replace h := h.2 (Int32.not_le.mp hc)
    refine wp_N (j' := 6) (pc' := 18) (L' := [.ref 124, .int a1, .int a2]) (S' := [.int a2, .ref 125, .int a1]) (M' := (hs t, F, G)) 3 (fun _ => rfl) ?_
    obtain ⟨h1_, h⟩ := h
    refine wp_ial (m := (a2).toNatClampNeg) rfl rfl rfl h1_ ?_
    refine wp_N (j' := 6) (pc' := 4) (L' := [.ref 124, .int (a1 ||| (F 125 (a2).toNatClampNeg)), .int (a2 + (1 : Int32))]) (S' := []) (M' := (hs t, F, G)) 3 (fun _ => rfl) ?_
    exact h
theorem rg7_0 {t : Nat} {F : ip_F} {G : ip_G} {Q : Option Value → ip_M → Prop} (h : wp 7 9 [.ref 124, .int (-1 : Int32), .int (F 124 3), .int (1 : Int32), .float 0] [] (hs t, F, G) Q) : wp 7 0 [.ref 124, .float 0, .float 0, .float 0, .float 0] [] (hs t, F, G) Q := by
  refine wp_N (j' := 7) (pc' := 9) (L' := [.ref 124, .int (-1 : Int32), .int (F 124 3), .int (1 : Int32), .float 0]) (S' := []) (M' := (hs t, F, G)) 6 (fun _ => rfl) ?_
  exact h
theorem rg7_9 {t : Nat} {F : ip_F} {G : ip_G} {Q : Option Value → ip_M → Prop} {a1 a2 a3 : Int32} {v4 : Value} (h : ((12 : Int32) ≤ a3 → Q (some (.int a1)) (hs t, F, G)) ∧ (a3 < (12 : Int32) → ((F 124 3) ≤ (0 : Int32) → Q (some (.int a1)) (hs t, F, G)) ∧ ((0 : Int32) < (F 124 3) → wp 8 0 [.ref 124, .int a3, .float 0, .float 0, .float 0, .float 0] [] (hs t, F, G) (fun v M' => wp 7 27 [.ref 124, .int a1, .int a2, .int a3, v4] (v.toList ++ []) M' Q)))) : wp 7 9 [.ref 124, .int a1, .int a2, .int a3, v4] [] (hs t, F, G) Q := by
  refine wp_N (j' := 7) (pc' := 12) (L' := [.ref 124, .int a1, .int a2, .int a3, v4]) (S' := [.int (12 : Int32), .int a3]) (M' := (hs t, F, G)) 1 (fun _ => rfl) ?_
  refine wp_icmp (pc1 := 51) (c := .ge) rfl (fun hc => ?_) (fun hc => ?_)
  · replace h := h.1 hc
    refine wp_N (j' := 7) (pc' := 52) (L' := [.ref 124, .int a1, .int a2, .int a3, v4]) (S' := [.int a1]) (M' := (hs t, F, G)) 0 (fun _ => rfl) ?_
    exact wp_RI rfl rfl h
  · replace h := h.2 (Int32.not_le.mp hc)
    refine wp_N (j' := 7) (pc' := 19) (L' := [.ref 124, .int a1, .int a2, .int a3, v4]) (S' := [.int (F 124 3)]) (M' := (hs t, F, G)) 1 (fun _ => rfl) ?_
    refine wp_ifc (pc1 := 51) (c := .le) rfl (fun hc => ?_) (fun hc => ?_)
    · replace h := h.1 hc
      refine wp_N (j' := 7) (pc' := 52) (L' := [.ref 124, .int a1, .int a2, .int a3, v4]) (S' := [.int a1]) (M' := (hs t, F, G)) 0 (fun _ => rfl) ?_
      exact wp_RI rfl rfl h
    · replace h := h.2 (Int32.not_le.mp hc)
      refine wp_N (j' := 7) (pc' := 24) (L' := [.ref 124, .int a1, .int a2, .int a3, v4]) (S' := [.int a3, .ref 124]) (M' := (hs t, F, G)) 1 (fun _ => rfl) ?_
      refine wp_C (i := 8) (pc' := 27) (Li := [.ref 124, .int a3, .float 0, .float 0, .float 0, .float 0]) (rest := []) (fun _ => rfl) h
theorem rg7_27 {t : Nat} {F : ip_F} {G : ip_G} {Q : Option Value → ip_M → Prop} {a1 a2 a3 as0 : Int32} {v4 : Value} (h : (a1 = (-1 : Int32) → wp 7 40 [.ref 124, .int a1, .int a2, .int a3, .int as0] [] (hs t, F, G) Q) ∧ (¬ a1 = (-1 : Int32) → (a2 ≤ as0 → wp 7 45 [.ref 124, .int a1, .int a2, .int a3, .int as0] [] (hs t, F, G) Q) ∧ (as0 < a2 → wp 7 40 [.ref 124, .int a1, .int a2, .int a3, .int as0] [] (hs t, F, G) Q))) : wp 7 27 [.ref 124, .int a1, .int a2, .int a3, v4] [.int as0] (hs t, F, G) Q := by
  refine wp_N (j' := 7) (pc' := 31) (L' := [.ref 124, .int a1, .int a2, .int a3, .int as0]) (S' := [.int (-1 : Int32), .int a1]) (M' := (hs t, F, G)) 2 (fun _ => rfl) ?_
  refine wp_icmp (pc1 := 40) (c := .eq) rfl (fun hc => ?_) (fun hc => ?_)
  · replace h := h.1 hc
    exact h
  · replace h := h.2 hc
    refine wp_N (j' := 7) (pc' := 37) (L' := [.ref 124, .int a1, .int a2, .int a3, .int as0]) (S' := [.int a2, .int as0]) (M' := (hs t, F, G)) 1 (fun _ => rfl) ?_
    refine wp_icmp (pc1 := 45) (c := .ge) rfl (fun hc => ?_) (fun hc => ?_)
    · replace h := h.1 hc
      exact h
    · replace h := h.2 (Int32.not_le.mp hc)
      exact h
theorem rg7_40 {t : Nat} {F : ip_F} {G : ip_G} {Q : Option Value → ip_M → Prop} {a1 a2 a3 a4 : Int32} (h : wp 7 45 [.ref 124, .int a3, .int a4, .int a3, .int a4] [] (hs t, F, G) Q) : wp 7 40 [.ref 124, .int a1, .int a2, .int a3, .int a4] [] (hs t, F, G) Q := by
  refine wp_N (j' := 7) (pc' := 45) (L' := [.ref 124, .int a3, .int a4, .int a3, .int a4]) (S' := []) (M' := (hs t, F, G)) 3 (fun _ => rfl) ?_
  exact h
theorem rg7_45 {t : Nat} {F : ip_F} {G : ip_G} {Q : Option Value → ip_M → Prop} {a1 a2 a3 a4 : Int32} (h : wp 7 9 [.ref 124, .int a1, .int a2, .int (a3 + (1 : Int32)), .int a4] [] (hs t, F, G) Q) : wp 7 45 [.ref 124, .int a1, .int a2, .int a3, .int a4] [] (hs t, F, G) Q := by
  refine wp_N (j' := 7) (pc' := 9) (L' := [.ref 124, .int a1, .int a2, .int (a3 + (1 : Int32)), .int a4]) (S' := []) (M' := (hs t, F, G)) 1 (fun _ => rfl) ?_
  exact h
theorem rg8_0 {t : Nat} {F : ip_F} {G : ip_G} {Q : Option Value → ip_M → Prop} {a1 : Int32} (h : wp 8 4 [.ref 124, .int a1, .int (0 : Int32), .int (0 : Int32), .float 0, .float 0] [] (hs t, F, G) Q) : wp 8 0 [.ref 124, .int a1, .float 0, .float 0, .float 0, .float 0] [] (hs t, F, G) Q := by
  refine wp_N (j' := 8) (pc' := 4) (L' := [.ref 124, .int a1, .int (0 : Int32), .int (0 : Int32), .float 0, .float 0]) (S' := []) (M' := (hs t, F, G)) 3 (fun _ => rfl) ?_
  exact h
theorem rg8_4 {t : Nat} {F : ip_F} {G : ip_G} {Q : Option Value → ip_M → Prop} {a1 a2 a3 : Int32} {v4 v5 : Value} (h : ((F 124 3) ≤ a3 → Q (some (.int a2)) (hs t, F, G)) ∧ (a3 < (F 124 3) → wp 8 18 [.ref 124, .int a1, .int a2, .int a3, .int (0 : Int32), .int (0 : Int32)] [] (hs t, F, G) Q)) : wp 8 4 [.ref 124, .int a1, .int a2, .int a3, v4, v5] [] (hs t, F, G) Q := by
  refine wp_N (j' := 8) (pc' := 9) (L' := [.ref 124, .int a1, .int a2, .int a3, v4, v5]) (S' := [.int (F 124 3), .int a3]) (M' := (hs t, F, G)) 2 (fun _ => rfl) ?_
  refine wp_icmp (pc1 := 76) (c := .ge) rfl (fun hc => ?_) (fun hc => ?_)
  · replace h := h.1 hc
    refine wp_N (j' := 8) (pc' := 77) (L' := [.ref 124, .int a1, .int a2, .int a3, v4, v5]) (S' := [.int a2]) (M' := (hs t, F, G)) 0 (fun _ => rfl) ?_
    exact wp_RI rfl rfl h
  · replace h := h.2 (Int32.not_le.mp hc)
    refine wp_N (j' := 8) (pc' := 18) (L' := [.ref 124, .int a1, .int a2, .int a3, .int (0 : Int32), .int (0 : Int32)]) (S' := []) (M' := (hs t, F, G)) 3 (fun _ => rfl) ?_
    exact h
theorem rg8_18 {t : Nat} {F : ip_F} {G : ip_G} {Q : Option Value → ip_M → Prop} {a1 a2 a3 a4 a5 : Int32} (h : ((F 124 3) ≤ a5 → wp 8 4 [.ref 124, .int a1, .int (if a2 < a4 then a4 else a2), .int (a3 + (1 : Int32)), .int a4, .int a5] [] (hs t, F, G) Q) ∧ (a5 < (F 124 3) → (vp_in a3 64) ∧ ((vp_in a1 12) ∧ ((vp_in a5 64) ∧ ((vp_in a1 12) ∧ ((¬ (F (127 + (a3).toNatClampNeg) (a1).toNatClampNeg) = (F (127 + (a5).toNatClampNeg) (a1).toNatClampNeg) → wp 8 54 [.ref 124, .int a1, .int a2, .int a3, .int a4, .int a5] [.int (0 : Int32), .int a4] (hs t, F, G) Q) ∧ ((F (127 + (a3).toNatClampNeg) (a1).toNatClampNeg) = (F (127 + (a5).toNatClampNeg) (a1).toNatClampNeg) → wp 8 54 [.ref 124, .int a1, .int a2, .int a3, .int a4, .int a5] [.int (1 : Int32), .int a4] (hs t, F, G) Q))))))) : wp 8 18 [.ref 124, .int a1, .int a2, .int a3, .int a4, .int a5] [] (hs t, F, G) Q := by
  refine wp_N (j' := 8) (pc' := 24) (L' := [.ref 124, .int a1, .int a2, .int a3, .int a4, .int a5]) (S' := [.int (F 124 3), .int a5]) (M' := (hs t, F, G)) 2 (fun _ => rfl) ?_
  refine wp_icmp (pc1 := 63) (c := .ge) rfl (fun hc => ?_) (fun hc => ?_)
  · replace h := h.1 hc
    refine wp_N (j' := 8) (pc' := 4) (L' := [.ref 124, .int a1, .int (if a2 < a4 then a4 else a2), .int (a3 + (1 : Int32)), .int a4, .int a5]) (S' := []) (M' := (hs t, F, G)) 5 (fun _ => rfl) ?_
    exact h
  · replace h := h.2 (Int32.not_le.mp hc)
    refine wp_N (j' := 8) (pc' := 34) (L' := [.ref 124, .int a1, .int a2, .int a3, .int a4, .int a5]) (S' := [.int a3, .ref 126, .int a4]) (M' := (hs t, F, G)) 3 (fun _ => rfl) ?_
    obtain ⟨h1_, h⟩ := h
    refine wp_aal (b := 127) (m := (a3).toNatClampNeg) rfl rfl hs_g127 (by decide) rfl h1_ ?_
    refine wp_N (j' := 8) (pc' := 36) (L' := [.ref 124, .int a1, .int a2, .int a3, .int a4, .int a5]) (S' := [.int a1, .ref (127 + (a3).toNatClampNeg), .int a4]) (M' := (hs t, F, G)) 0 (fun _ => rfl) ?_
    obtain ⟨h2_, h⟩ := h
    refine wp_ial (m := (a1).toNatClampNeg) rfl (hs_r127 t _ (vp_lt h1_)) rfl h2_ ?_
    refine wp_N (j' := 8) (pc' := 43) (L' := [.ref 124, .int a1, .int a2, .int a3, .int a4, .int a5]) (S' := [.int a5, .ref 126, .int (F (127 + (a3).toNatClampNeg) (a1).toNatClampNeg), .int a4]) (M' := (hs t, F, G)) 2 (fun _ => rfl) ?_
    obtain ⟨h3_, h⟩ := h
    refine wp_aal (b := 127) (m := (a5).toNatClampNeg) rfl rfl hs_g127 (by decide) rfl h3_ ?_
    refine wp_N (j' := 8) (pc' := 45) (L' := [.ref 124, .int a1, .int a2, .int a3, .int a4, .int a5]) (S' := [.int a1, .ref (127 + (a5).toNatClampNeg), .int (F (127 + (a3).toNatClampNeg) (a1).toNatClampNeg), .int a4]) (M' := (hs t, F, G)) 0 (fun _ => rfl) ?_
    obtain ⟨h4_, h⟩ := h
    refine wp_ial (m := (a1).toNatClampNeg) rfl (hs_r127 t _ (vp_lt h3_)) rfl h4_ ?_
    refine wp_icmp (pc1 := 53) (c := .ne) rfl (fun hc => ?_) (fun hc => ?_)
    · replace h := h.1 hc
      refine wp_N (j' := 8) (pc' := 54) (L' := [.ref 124, .int a1, .int a2, .int a3, .int a4, .int a5]) (S' := [.int (0 : Int32), .int a4]) (M' := (hs t, F, G)) 0 (fun _ => rfl) ?_
      exact h
    · replace h := h.2 (Decidable.not_not.mp hc)
      refine wp_N (j' := 8) (pc' := 54) (L' := [.ref 124, .int a1, .int a2, .int a3, .int a4, .int a5]) (S' := [.int (1 : Int32), .int a4]) (M' := (hs t, F, G)) 1 (fun _ => rfl) ?_
      exact h
theorem rg8_54 {t : Nat} {F : ip_F} {G : ip_G} {Q : Option Value → ip_M → Prop} {a1 a2 a3 a4 a5 as0 as1 : Int32} (h : wp 8 18 [.ref 124, .int a1, .int a2, .int a3, .int (as0 + as1), .int (a5 + (1 : Int32))] [] (hs t, F, G) Q) : wp 8 54 [.ref 124, .int a1, .int a2, .int a3, .int a4, .int a5] [.int as1, .int as0] (hs t, F, G) Q := by
  refine wp_N (j' := 8) (pc' := 18) (L' := [.ref 124, .int a1, .int a2, .int a3, .int (as0 + as1), .int (a5 + (1 : Int32))]) (S' := []) (M' := (hs t, F, G)) 3 (fun _ => rfl) ?_
  exact h
theorem rg9_0 {t : Nat} {F : ip_F} {G : ip_G} {Q : Option Value → ip_M → Prop} {a1 : Int32} (h : wp 9 4 [.ref 17, .int a1, .int (0 : Int32), .int (0 : Int32), .float 0, .float 0, .float 0] [] (hs t, F, G) Q) : wp 9 0 [.ref 17, .int a1, .float 0, .float 0, .float 0, .float 0, .float 0] [] (hs t, F, G) Q := by
  refine wp_N (j' := 9) (pc' := 4) (L' := [.ref 17, .int a1, .int (0 : Int32), .int (0 : Int32), .float 0, .float 0, .float 0]) (S' := []) (M' := (hs t, F, G)) 3 (fun _ => rfl) ?_
  exact h
theorem rg9_4 {t : Nat} {F : ip_F} {G : ip_G} {Q : Option Value → ip_M → Prop} {a1 a2 a3 : Int32} {v4 v5 v6 : Value} (h : ((6 : Int32) ≤ a3 → Q (some (.int a2)) (hs t, F, G)) ∧ (a3 < (6 : Int32) → wp 9 16 [.ref 17, .int a1, .int a2, .int a3, .int (1 : Int32), .int (0 : Int32), v6] [] (hs t, F, G) Q)) : wp 9 4 [.ref 17, .int a1, .int a2, .int a3, v4, v5, v6] [] (hs t, F, G) Q := by
  refine wp_N (j' := 9) (pc' := 7) (L' := [.ref 17, .int a1, .int a2, .int a3, v4, v5, v6]) (S' := [.int (6 : Int32), .int a3]) (M' := (hs t, F, G)) 1 (fun _ => rfl) ?_
  refine wp_icmp (pc1 := 102) (c := .ge) rfl (fun hc => ?_) (fun hc => ?_)
  · replace h := h.1 hc
    refine wp_N (j' := 9) (pc' := 103) (L' := [.ref 17, .int a1, .int a2, .int a3, v4, v5, v6]) (S' := [.int a2]) (M' := (hs t, F, G)) 0 (fun _ => rfl) ?_
    exact wp_RI rfl rfl h
  · replace h := h.2 (Int32.not_le.mp hc)
    refine wp_N (j' := 9) (pc' := 16) (L' := [.ref 17, .int a1, .int a2, .int a3, .int (1 : Int32), .int (0 : Int32), v6]) (S' := []) (M' := (hs t, F, G)) 3 (fun _ => rfl) ?_
    exact h
theorem rg9_16 {t : Nat} {F : ip_F} {G : ip_G} {Q : Option Value → ip_M → Prop} {a1 a2 a3 a4 a5 : Int32} {v6 : Value} (h : ((F 17 1) ≤ a5 → (a4 = (0 : Int32) → wp 9 94 [.ref 17, .int a1, .int a2, .int a3, .int a4, .int a5, v6] [.int (0 : Int32), .int a2] (hs t, F, G) Q) ∧ (¬ a4 = (0 : Int32) → wp 9 94 [.ref 17, .int a1, .int a2, .int a3, .int a4, .int a5, v6] [.int ((1 : Int32) <<< (a3 &&& 31)), .int a2] (hs t, F, G) Q)) ∧ (a5 < (F 17 1) → wp 47 0 [.ref 17, .int a5, .int (1 : Int32), .float 0] [] (hs t, F, G) (fun v M' => wp 9 33 [.ref 17, .int a1, .int a2, .int a3, .int a4, .int a5, v6] (v.toList ++ [.int a3]) M' Q))) : wp 9 16 [.ref 17, .int a1, .int a2, .int a3, .int a4, .int a5, v6] [] (hs t, F, G) Q := by
  refine wp_N (j' := 9) (pc' := 22) (L' := [.ref 17, .int a1, .int a2, .int a3, .int a4, .int a5, v6]) (S' := [.int (F 17 1), .int a5]) (M' := (hs t, F, G)) 2 (fun _ => rfl) ?_
  refine wp_icmp (pc1 := 81) (c := .ge) rfl (fun hc => ?_) (fun hc => ?_)
  · replace h := h.1 hc
    refine wp_N (j' := 9) (pc' := 84) (L' := [.ref 17, .int a1, .int a2, .int a3, .int a4, .int a5, v6]) (S' := [.int a4, .int a2]) (M' := (hs t, F, G)) 1 (fun _ => rfl) ?_
    refine wp_ifc (pc1 := 93) (c := .eq) rfl (fun hc => ?_) (fun hc => ?_)
    · replace h := h.1 hc
      refine wp_N (j' := 9) (pc' := 94) (L' := [.ref 17, .int a1, .int a2, .int a3, .int a4, .int a5, v6]) (S' := [.int (0 : Int32), .int a2]) (M' := (hs t, F, G)) 0 (fun _ => rfl) ?_
      exact h
    · replace h := h.2 hc
      refine wp_N (j' := 9) (pc' := 94) (L' := [.ref 17, .int a1, .int a2, .int a3, .int a4, .int a5, v6]) (S' := [.int ((1 : Int32) <<< (a3 &&& 31)), .int a2]) (M' := (hs t, F, G)) 3 (fun _ => rfl) ?_
      exact h
  · replace h := h.2 (Int32.not_le.mp hc)
    refine wp_N (j' := 9) (pc' := 30) (L' := [.ref 17, .int a1, .int a2, .int a3, .int a4, .int a5, v6]) (S' := [.int (1 : Int32), .int a5, .ref 17, .int a3]) (M' := (hs t, F, G)) 3 (fun _ => rfl) ?_
    refine wp_C (i := 47) (pc' := 33) (Li := [.ref 17, .int a5, .int (1 : Int32), .float 0]) (rest := [.int a3]) (fun _ => rfl) h
theorem rg9_33 {t : Nat} {F : ip_F} {G : ip_G} {Q : Option Value → ip_M → Prop} {a1 a2 a3 a4 a5 as0 as1 : Int32} {v6 : Value} (h : wp 82 0 [.int as0, .int as1, .int (6 : Int32), .float 0, .float 0, .float 0] [] (hs t, F, G) (fun v M' => wp 9 38 [.ref 17, .int a1, .int a2, .int a3, .int a4, .int a5, v6] (v.toList ++ []) M' Q)) : wp 9 33 [.ref 17, .int a1, .int a2, .int a3, .int a4, .int a5, v6] [.int as1, .int as0] (hs t, F, G) Q := by
  refine wp_N (j' := 9) (pc' := 35) (L' := [.ref 17, .int a1, .int a2, .int a3, .int a4, .int a5, v6]) (S' := [.int (6 : Int32), .int as1, .int as0]) (M' := (hs t, F, G)) 0 (fun _ => rfl) ?_
  refine wp_C (i := 82) (pc' := 38) (Li := [.int as0, .int as1, .int (6 : Int32), .float 0, .float 0, .float 0]) (rest := []) (fun _ => rfl) h
theorem rg9_38 {t : Nat} {F : ip_F} {G : ip_G} {Q : Option Value → ip_M → Prop} {a1 a2 a3 a4 a5 as0 : Int32} {v6 : Value} (h : (a4 = (0 : Int32) → wp 9 73 [.ref 17, .int a1, .int a2, .int a3, .int a4, .int a5, .int as0] [.int (0 : Int32)] (hs t, F, G) Q) ∧ (¬ a4 = (0 : Int32) → wp 47 0 [.ref 17, .int a5, .int (0 : Int32), .float 0] [] (hs t, F, G) (fun v M' => wp 9 52 [.ref 17, .int a1, .int a2, .int a3, .int a4, .int a5, .int as0] (v.toList ++ []) M' Q))) : wp 9 38 [.ref 17, .int a1, .int a2, .int a3, .int a4, .int a5, v6] [.int as0] (hs t, F, G) Q := by
  refine wp_N (j' := 9) (pc' := 42) (L' := [.ref 17, .int a1, .int a2, .int a3, .int a4, .int a5, .int as0]) (S' := [.int a4]) (M' := (hs t, F, G)) 1 (fun _ => rfl) ?_
  refine wp_ifc (pc1 := 72) (c := .eq) rfl (fun hc => ?_) (fun hc => ?_)
  · replace h := h.1 hc
    refine wp_N (j' := 9) (pc' := 73) (L' := [.ref 17, .int a1, .int a2, .int a3, .int a4, .int a5, .int as0]) (S' := [.int (0 : Int32)]) (M' := (hs t, F, G)) 0 (fun _ => rfl) ?_
    exact h
  · replace h := h.2 hc
    refine wp_N (j' := 9) (pc' := 49) (L' := [.ref 17, .int a1, .int a2, .int a3, .int a4, .int a5, .int as0]) (S' := [.int (0 : Int32), .int a5, .ref 17]) (M' := (hs t, F, G)) 2 (fun _ => rfl) ?_
    refine wp_C (i := 47) (pc' := 52) (Li := [.ref 17, .int a5, .int (0 : Int32), .float 0]) (rest := []) (fun _ => rfl) h
theorem rg9_52 {t : Nat} {F : ip_F} {G : ip_G} {Q : Option Value → ip_M → Prop} {a1 a2 a3 a4 a5 a6 as0 : Int32} (h : (¬ as0 = a1 → wp 9 73 [.ref 17, .int a1, .int a2, .int a3, .int a4, .int a5, .int a6] [.int (1 : Int32)] (hs t, F, G) Q) ∧ (as0 = a1 → wp 47 0 [.ref 17, .int a5, .int (2 : Int32), .float 0] [] (hs t, F, G) (fun v M' => wp 9 65 [.ref 17, .int a1, .int a2, .int a3, .int a4, .int a5, .int a6] (v.toList ++ [.int a6]) M' Q))) : wp 9 52 [.ref 17, .int a1, .int a2, .int a3, .int a4, .int a5, .int a6] [.int as0] (hs t, F, G) Q := by
  refine wp_N (j' := 9) (pc' := 53) (L' := [.ref 17, .int a1, .int a2, .int a3, .int a4, .int a5, .int a6]) (S' := [.int a1, .int as0]) (M' := (hs t, F, G)) 0 (fun _ => rfl) ?_
  refine wp_icmp (pc1 := 68) (c := .ne) rfl (fun hc => ?_) (fun hc => ?_)
  · replace h := h.1 hc
    refine wp_N (j' := 9) (pc' := 73) (L' := [.ref 17, .int a1, .int a2, .int a3, .int a4, .int a5, .int a6]) (S' := [.int (1 : Int32)]) (M' := (hs t, F, G)) 1 (fun _ => rfl) ?_
    exact h
  · replace h := h.2 (Decidable.not_not.mp hc)
    refine wp_N (j' := 9) (pc' := 62) (L' := [.ref 17, .int a1, .int a2, .int a3, .int a4, .int a5, .int a6]) (S' := [.int (2 : Int32), .int a5, .ref 17, .int a6]) (M' := (hs t, F, G)) 3 (fun _ => rfl) ?_
    refine wp_C (i := 47) (pc' := 65) (Li := [.ref 17, .int a5, .int (2 : Int32), .float 0]) (rest := [.int a6]) (fun _ => rfl) h
theorem rg9_65 {t : Nat} {F : ip_F} {G : ip_G} {Q : Option Value → ip_M → Prop} {a1 a2 a3 a4 a5 a6 as0 as1 : Int32} (h : (¬ as0 = as1 → wp 9 73 [.ref 17, .int a1, .int a2, .int a3, .int a4, .int a5, .int a6] [.int (0 : Int32)] (hs t, F, G) Q) ∧ (as0 = as1 → wp 9 73 [.ref 17, .int a1, .int a2, .int a3, .int a4, .int a5, .int a6] [.int (1 : Int32)] (hs t, F, G) Q)) : wp 9 65 [.ref 17, .int a1, .int a2, .int a3, .int a4, .int a5, .int a6] [.int as1, .int as0] (hs t, F, G) Q := by
  refine wp_icmp (pc1 := 72) (c := .ne) rfl (fun hc => ?_) (fun hc => ?_)
  · replace h := h.1 hc
    refine wp_N (j' := 9) (pc' := 73) (L' := [.ref 17, .int a1, .int a2, .int a3, .int a4, .int a5, .int a6]) (S' := [.int (0 : Int32)]) (M' := (hs t, F, G)) 0 (fun _ => rfl) ?_
    exact h
  · replace h := h.2 (Decidable.not_not.mp hc)
    refine wp_N (j' := 9) (pc' := 73) (L' := [.ref 17, .int a1, .int a2, .int a3, .int a4, .int a5, .int a6]) (S' := [.int (1 : Int32)]) (M' := (hs t, F, G)) 1 (fun _ => rfl) ?_
    exact h
theorem rg9_73 {t : Nat} {F : ip_F} {G : ip_G} {Q : Option Value → ip_M → Prop} {a1 a2 a3 a4 a5 a6 as0 : Int32} (h : wp 9 16 [.ref 17, .int a1, .int a2, .int a3, .int as0, .int (a5 + (1 : Int32)), .int a6] [] (hs t, F, G) Q) : wp 9 73 [.ref 17, .int a1, .int a2, .int a3, .int a4, .int a5, .int a6] [.int as0] (hs t, F, G) Q := by
  refine wp_N (j' := 9) (pc' := 16) (L' := [.ref 17, .int a1, .int a2, .int a3, .int as0, .int (a5 + (1 : Int32)), .int a6]) (S' := []) (M' := (hs t, F, G)) 2 (fun _ => rfl) ?_
  exact h
theorem rg9_94 {t : Nat} {F : ip_F} {G : ip_G} {Q : Option Value → ip_M → Prop} {a1 a2 a3 a4 a5 as0 as1 : Int32} {v6 : Value} (h : wp 9 4 [.ref 17, .int a1, .int (as0 ||| as1), .int (a3 + (1 : Int32)), .int a4, .int a5, v6] [] (hs t, F, G) Q) : wp 9 94 [.ref 17, .int a1, .int a2, .int a3, .int a4, .int a5, v6] [.int as1, .int as0] (hs t, F, G) Q := by
  refine wp_N (j' := 9) (pc' := 4) (L' := [.ref 17, .int a1, .int (as0 ||| as1), .int (a3 + (1 : Int32)), .int a4, .int a5, v6]) (S' := []) (M' := (hs t, F, G)) 3 (fun _ => rfl) ?_
  exact h
theorem rg10_0 {t : Nat} {F : ip_F} {G : ip_G} {Q : Option Value → ip_M → Prop} {a1 : Int32} (h : wp 10 8 [.ref 124, .int a1, .int (-1 : Int32), .int (6 : Int32), .int (1 : Int32), .float 0] [] (hs t, F, G) Q) : wp 10 0 [.ref 124, .int a1, .float 0, .float 0, .float 0, .float 0] [] (hs t, F, G) Q := by
  refine wp_N (j' := 10) (pc' := 8) (L' := [.ref 124, .int a1, .int (-1 : Int32), .int (6 : Int32), .int (1 : Int32), .float 0]) (S' := []) (M' := (hs t, F, G)) 5 (fun _ => rfl) ?_
  exact h
theorem rg10_8 {t : Nat} {F : ip_F} {G : ip_G} {Q : Option Value → ip_M → Prop} {a1 a2 a3 a4 : Int32} {v5 : Value} (h : ((6 : Int32) < a4 → Q (some (.int a2)) (hs t, F, G)) ∧ (a4 ≤ (6 : Int32) → (a1 = (0 : Int32) → Q (some (.int a2)) (hs t, F, G)) ∧ (¬ a1 = (0 : Int32) → wp 11 0 [.ref 124, .int a1, .int a4, .float 0, .float 0, .float 0] [] (hs t, F, G) (fun v M' => wp 10 26 [.ref 124, .int a1, .int a2, .int a3, .int a4, v5] (v.toList ++ []) M' Q)))) : wp 10 8 [.ref 124, .int a1, .int a2, .int a3, .int a4, v5] [] (hs t, F, G) Q := by
  refine wp_N (j' := 10) (pc' := 12) (L' := [.ref 124, .int a1, .int a2, .int a3, .int a4, v5]) (S' := [.int (6 : Int32), .int a4]) (M' := (hs t, F, G)) 1 (fun _ => rfl) ?_
  refine wp_icmp (pc1 := 51) (c := .gt) rfl (fun hc => ?_) (fun hc => ?_)
  · replace h := h.1 hc
    refine wp_N (j' := 10) (pc' := 52) (L' := [.ref 124, .int a1, .int a2, .int a3, .int a4, v5]) (S' := [.int a2]) (M' := (hs t, F, G)) 0 (fun _ => rfl) ?_
    exact wp_RI rfl rfl h
  · replace h := h.2 (Int32.not_lt.mp hc)
    refine wp_N (j' := 10) (pc' := 16) (L' := [.ref 124, .int a1, .int a2, .int a3, .int a4, v5]) (S' := [.int a1]) (M' := (hs t, F, G)) 0 (fun _ => rfl) ?_
    refine wp_ifc (pc1 := 51) (c := .eq) rfl (fun hc => ?_) (fun hc => ?_)
    · replace h := h.1 hc
      refine wp_N (j' := 10) (pc' := 52) (L' := [.ref 124, .int a1, .int a2, .int a3, .int a4, v5]) (S' := [.int a2]) (M' := (hs t, F, G)) 0 (fun _ => rfl) ?_
      exact wp_RI rfl rfl h
    · replace h := h.2 hc
      refine wp_N (j' := 10) (pc' := 23) (L' := [.ref 124, .int a1, .int a2, .int a3, .int a4, v5]) (S' := [.int a4, .int a1, .ref 124]) (M' := (hs t, F, G)) 2 (fun _ => rfl) ?_
      refine wp_C (i := 11) (pc' := 26) (Li := [.ref 124, .int a1, .int a4, .float 0, .float 0, .float 0]) (rest := []) (fun _ => rfl) h
theorem rg10_26 {t : Nat} {F : ip_F} {G : ip_G} {Q : Option Value → ip_M → Prop} {a1 a2 a3 a4 as0 : Int32} {v5 : Value} (h : (a2 = (-1 : Int32) → wp 10 39 [.ref 124, .int a1, .int a2, .int a3, .int a4, .int as0] [] (hs t, F, G) Q) ∧ (¬ a2 = (-1 : Int32) → (a3 ≤ as0 → wp 10 45 [.ref 124, .int a1, .int a2, .int a3, .int a4, .int as0] [] (hs t, F, G) Q) ∧ (as0 < a3 → wp 10 39 [.ref 124, .int a1, .int a2, .int a3, .int a4, .int as0] [] (hs t, F, G) Q))) : wp 10 26 [.ref 124, .int a1, .int a2, .int a3, .int a4, v5] [.int as0] (hs t, F, G) Q := by
  refine wp_N (j' := 10) (pc' := 30) (L' := [.ref 124, .int a1, .int a2, .int a3, .int a4, .int as0]) (S' := [.int (-1 : Int32), .int a2]) (M' := (hs t, F, G)) 2 (fun _ => rfl) ?_
  refine wp_icmp (pc1 := 39) (c := .eq) rfl (fun hc => ?_) (fun hc => ?_)
  · replace h := h.1 hc
    exact h
  · replace h := h.2 hc
    refine wp_N (j' := 10) (pc' := 36) (L' := [.ref 124, .int a1, .int a2, .int a3, .int a4, .int as0]) (S' := [.int a3, .int as0]) (M' := (hs t, F, G)) 1 (fun _ => rfl) ?_
    refine wp_icmp (pc1 := 45) (c := .ge) rfl (fun hc => ?_) (fun hc => ?_)
    · replace h := h.1 hc
      exact h
    · replace h := h.2 (Int32.not_le.mp hc)
      exact h
theorem rg10_39 {t : Nat} {F : ip_F} {G : ip_G} {Q : Option Value → ip_M → Prop} {a1 a2 a3 a4 a5 : Int32} (h : wp 10 45 [.ref 124, .int a1, .int a4, .int a5, .int a4, .int a5] [] (hs t, F, G) Q) : wp 10 39 [.ref 124, .int a1, .int a2, .int a3, .int a4, .int a5] [] (hs t, F, G) Q := by
  refine wp_N (j' := 10) (pc' := 45) (L' := [.ref 124, .int a1, .int a4, .int a5, .int a4, .int a5]) (S' := []) (M' := (hs t, F, G)) 3 (fun _ => rfl) ?_
  exact h
theorem rg10_45 {t : Nat} {F : ip_F} {G : ip_G} {Q : Option Value → ip_M → Prop} {a1 a2 a3 a4 a5 : Int32} (h : wp 10 8 [.ref 124, .int a1, .int a2, .int a3, .int (a4 + (1 : Int32)), .int a5] [] (hs t, F, G) Q) : wp 10 45 [.ref 124, .int a1, .int a2, .int a3, .int a4, .int a5] [] (hs t, F, G) Q := by
  refine wp_N (j' := 10) (pc' := 8) (L' := [.ref 124, .int a1, .int a2, .int a3, .int (a4 + (1 : Int32)), .int a5]) (S' := []) (M' := (hs t, F, G)) 1 (fun _ => rfl) ?_
  exact h
theorem rg11_0 {t : Nat} {F : ip_F} {G : ip_G} {Q : Option Value → ip_M → Prop} {a1 a2 : Int32} (h : wp 243 0 [.ref 191, .int (0 : Int32), .float 0, .float 0] [] (hs t, F, G) (fun v M' => wp 11 10 [.ref 124, .int a1, .int a2, .int (0 : Int32), .float 0, .float 0] (v.toList ++ []) M' Q)) : wp 11 0 [.ref 124, .int a1, .int a2, .float 0, .float 0, .float 0] [] (hs t, F, G) Q := by
  refine wp_N (j' := 11) (pc' := 7) (L' := [.ref 124, .int a1, .int a2, .int (0 : Int32), .float 0, .float 0]) (S' := [.int (0 : Int32), .ref 191]) (M' := (hs t, F, G)) 4 (fun _ => rfl) ?_
  refine wp_C (i := 243) (pc' := 10) (Li := [.ref 191, .int (0 : Int32), .float 0, .float 0]) (rest := []) (fun _ => rfl) h
theorem rg11_10 {t : Nat} {F : ip_F} {G : ip_G} {Q : Option Value → ip_M → Prop} {a1 a2 a3 : Int32} {v4 v5 : Value} (h : wp 11 13 [.ref 124, .int a1, .int a2, .int a3, .int (0 : Int32), v5] [] (hs t, F, G) Q) : wp 11 10 [.ref 124, .int a1, .int a2, .int a3, v4, v5] [] (hs t, F, G) Q := by
  refine wp_N (j' := 11) (pc' := 13) (L' := [.ref 124, .int a1, .int a2, .int a3, .int (0 : Int32), v5]) (S' := []) (M' := (hs t, F, G)) 1 (fun _ => rfl) ?_
  exact h
theorem rg11_13 {t : Nat} {F : ip_F} {G : ip_G} {Q : Option Value → ip_M → Prop} {a1 a2 a3 a4 : Int32} {v5 : Value} (h : ((6 : Int32) ≤ a4 → Q (some (.int a3)) (hs t, F, G)) ∧ (a4 < (6 : Int32) → wp 82 0 [.int a4, .int a2, .int (6 : Int32), .float 0, .float 0, .float 0] [] (hs t, F, G) (fun v M' => wp 11 28 [.ref 124, .int a1, .int a2, .int a3, .int a4, v5] (v.toList ++ []) M' Q))) : wp 11 13 [.ref 124, .int a1, .int a2, .int a3, .int a4, v5] [] (hs t, F, G) Q := by
  refine wp_N (j' := 11) (pc' := 17) (L' := [.ref 124, .int a1, .int a2, .int a3, .int a4, v5]) (S' := [.int (6 : Int32), .int a4]) (M' := (hs t, F, G)) 1 (fun _ => rfl) ?_
  refine wp_icmp (pc1 := 80) (c := .ge) rfl (fun hc => ?_) (fun hc => ?_)
  · replace h := h.1 hc
    refine wp_N (j' := 11) (pc' := 81) (L' := [.ref 124, .int a1, .int a2, .int a3, .int a4, v5]) (S' := [.int a3]) (M' := (hs t, F, G)) 0 (fun _ => rfl) ?_
    exact wp_RI rfl rfl h
  · replace h := h.2 (Int32.not_le.mp hc)
    refine wp_N (j' := 11) (pc' := 25) (L' := [.ref 124, .int a1, .int a2, .int a3, .int a4, v5]) (S' := [.int (6 : Int32), .int a2, .int a4]) (M' := (hs t, F, G)) 2 (fun _ => rfl) ?_
    refine wp_C (i := 82) (pc' := 28) (Li := [.int a4, .int a2, .int (6 : Int32), .float 0, .float 0, .float 0]) (rest := []) (fun _ => rfl) h
theorem rg11_28 {t : Nat} {F : ip_F} {G : ip_G} {Q : Option Value → ip_M → Prop} {a1 a2 a3 a4 as0 : Int32} {v5 : Value} (h : (¬ ((a1 >>> (a4 &&& 31)) &&& (1 : Int32)) = (1 : Int32) → wp 11 74 [.ref 124, .int a1, .int a2, .int a3, .int a4, .int as0] [] (hs t, F, G) Q) ∧ (((a1 >>> (a4 &&& 31)) &&& (1 : Int32)) = (1 : Int32) → wp 129 0 [.int as0, .int (1 : Int32), .int (6 : Int32)] [] (hs t, F, G) (fun v M' => wp 11 48 [.ref 124, .int a1, .int a2, .int a3, .int a4, .int as0] (v.toList ++ []) M' Q))) : wp 11 28 [.ref 124, .int a1, .int a2, .int a3, .int a4, v5] [.int as0] (hs t, F, G) Q := by
  refine wp_N (j' := 11) (pc' := 37) (L' := [.ref 124, .int a1, .int a2, .int a3, .int a4, .int as0]) (S' := [.int (1 : Int32), .int ((a1 >>> (a4 &&& 31)) &&& (1 : Int32))]) (M' := (hs t, F, G)) 6 (fun _ => rfl) ?_
  refine wp_icmp (pc1 := 74) (c := .ne) rfl (fun hc => ?_) (fun hc => ?_)
  · replace h := h.1 hc
    exact h
  · replace h := h.2 (Decidable.not_not.mp hc)
    refine wp_N (j' := 11) (pc' := 45) (L' := [.ref 124, .int a1, .int a2, .int a3, .int a4, .int as0]) (S' := [.int (6 : Int32), .int (1 : Int32), .int as0]) (M' := (hs t, F, G)) 2 (fun _ => rfl) ?_
    refine wp_C (i := 129) (pc' := 48) (Li := [.int as0, .int (1 : Int32), .int (6 : Int32)]) (rest := []) (fun _ => rfl) h
theorem rg11_48 {t : Nat} {F : ip_F} {G : ip_G} {Q : Option Value → ip_M → Prop} {a1 a2 a3 a4 a5 as0 : Int32} (h : (as0 = (0 : Int32) → wp 11 74 [.ref 124, .int a1, .int a2, .int a3, .int a4, .int a5] [] (hs t, F, G) Q) ∧ (¬ as0 = (0 : Int32) → (vp_in a5 7) ∧ ((vp_in a5 7) ∧ ((vp_in a5 7) ∧ (wp 11 74 [.ref 124, .int a1, .int a2, .int (if a3 < ((ip_u F 191 (a5).toNatClampNeg ((F 191 (a5).toNatClampNeg) + (1 : Int32))) 191 (a5).toNatClampNeg) then ((ip_u F 191 (a5).toNatClampNeg ((F 191 (a5).toNatClampNeg) + (1 : Int32))) 191 (a5).toNatClampNeg) else a3), .int a4, .int a5] [] (hs t, (ip_u F 191 (a5).toNatClampNeg ((F 191 (a5).toNatClampNeg) + (1 : Int32))), G) Q))))) : wp 11 48 [.ref 124, .int a1, .int a2, .int a3, .int a4, .int a5] [.int as0] (hs t, F, G) Q := by
  refine wp_ifc (pc1 := 74) (c := .eq) rfl (fun hc => ?_) (fun hc => ?_)
  · replace h := h.1 hc
    exact h
  · replace h := h.2 hc
    refine wp_N (j' := 11) (pc' := 58) (L' := [.ref 124, .int a1, .int a2, .int a3, .int a4, .int a5]) (S' := [.int a5, .ref 191, .int a5, .ref 191]) (M' := (hs t, F, G)) 3 (fun _ => rfl) ?_
    obtain ⟨h1_, h⟩ := h
    refine wp_ial (m := (a5).toNatClampNeg) rfl rfl rfl h1_ ?_
    refine wp_N (j' := 11) (pc' := 61) (L' := [.ref 124, .int a1, .int a2, .int a3, .int a4, .int a5]) (S' := [.int ((F 191 (a5).toNatClampNeg) + (1 : Int32)), .int a5, .ref 191]) (M' := (hs t, F, G)) 1 (fun _ => rfl) ?_
    obtain ⟨h2_, h⟩ := h
    refine wp_ias (m := (a5).toNatClampNeg) rfl rfl rfl h2_ ?_
    refine wp_N (j' := 11) (pc' := 69) (L' := [.ref 124, .int a1, .int a2, .int a3, .int a4, .int a5]) (S' := [.int a5, .ref 191, .int a3]) (M' := (hs t, (ip_u F 191 (a5).toNatClampNeg ((F 191 (a5).toNatClampNeg) + (1 : Int32))), G)) 3 (fun _ => rfl) ?_
    obtain ⟨h3_, h⟩ := h
    refine wp_ial (m := (a5).toNatClampNeg) rfl rfl rfl h3_ ?_
    refine wp_N (j' := 11) (pc' := 74) (L' := [.ref 124, .int a1, .int a2, .int (if a3 < ((ip_u F 191 (a5).toNatClampNeg ((F 191 (a5).toNatClampNeg) + (1 : Int32))) 191 (a5).toNatClampNeg) then ((ip_u F 191 (a5).toNatClampNeg ((F 191 (a5).toNatClampNeg) + (1 : Int32))) 191 (a5).toNatClampNeg) else a3), .int a4, .int a5]) (S' := []) (M' := (hs t, (ip_u F 191 (a5).toNatClampNeg ((F 191 (a5).toNatClampNeg) + (1 : Int32))), G)) 1 (fun _ => rfl) ?_
    exact h
theorem rg11_74 {t : Nat} {F : ip_F} {G : ip_G} {Q : Option Value → ip_M → Prop} {a1 a2 a3 a4 a5 : Int32} (h : wp 11 13 [.ref 124, .int a1, .int a2, .int a3, .int (a4 + (1 : Int32)), .int a5] [] (hs t, F, G) Q) : wp 11 74 [.ref 124, .int a1, .int a2, .int a3, .int a4, .int a5] [] (hs t, F, G) Q := by
  refine wp_N (j' := 11) (pc' := 13) (L' := [.ref 124, .int a1, .int a2, .int a3, .int (a4 + (1 : Int32)), .int a5]) (S' := []) (M' := (hs t, F, G)) 1 (fun _ => rfl) ?_
  exact h
theorem rg12_0 {t : Nat} {F : ip_F} {G : ip_G} {Q : Option Value → ip_M → Prop} {a1 : Int32} (h : wp 12 4 [.ref 19, .int a1, .int (0 : Int32), .int (0 : Int32), .float 0, .float 0, .float 0] [] (hs t, F, G) Q) : wp 12 0 [.ref 19, .int a1, .float 0, .float 0, .float 0, .float 0, .float 0] [] (hs t, F, G) Q := by
  refine wp_N (j' := 12) (pc' := 4) (L' := [.ref 19, .int a1, .int (0 : Int32), .int (0 : Int32), .float 0, .float 0, .float 0]) (S' := []) (M' := (hs t, F, G)) 3 (fun _ => rfl) ?_
  exact h
theorem rg12_4 {t : Nat} {F : ip_F} {G : ip_G} {Q : Option Value → ip_M → Prop} {a1 a2 a3 : Int32} {v4 v5 v6 : Value} (h : ((6 : Int32) ≤ a3 → Q (some (.int a2)) (hs t, F, G)) ∧ (a3 < (6 : Int32) → wp 12 16 [.ref 19, .int a1, .int a2, .int a3, .int (1 : Int32), .int (0 : Int32), v6] [] (hs t, F, G) Q)) : wp 12 4 [.ref 19, .int a1, .int a2, .int a3, v4, v5, v6] [] (hs t, F, G) Q := by
  refine wp_N (j' := 12) (pc' := 7) (L' := [.ref 19, .int a1, .int a2, .int a3, v4, v5, v6]) (S' := [.int (6 : Int32), .int a3]) (M' := (hs t, F, G)) 1 (fun _ => rfl) ?_
  refine wp_icmp (pc1 := 115) (c := .ge) rfl (fun hc => ?_) (fun hc => ?_)
  · replace h := h.1 hc
    refine wp_N (j' := 12) (pc' := 116) (L' := [.ref 19, .int a1, .int a2, .int a3, v4, v5, v6]) (S' := [.int a2]) (M' := (hs t, F, G)) 0 (fun _ => rfl) ?_
    exact wp_RI rfl rfl h
  · replace h := h.2 (Int32.not_le.mp hc)
    refine wp_N (j' := 12) (pc' := 16) (L' := [.ref 19, .int a1, .int a2, .int a3, .int (1 : Int32), .int (0 : Int32), v6]) (S' := []) (M' := (hs t, F, G)) 3 (fun _ => rfl) ?_
    exact h
theorem rg12_16 {t : Nat} {F : ip_F} {G : ip_G} {Q : Option Value → ip_M → Prop} {a1 a2 a3 a4 a5 : Int32} {v6 : Value} (h : ((F 19 1) ≤ a5 → (a4 = (0 : Int32) → wp 12 107 [.ref 19, .int a1, .int a2, .int a3, .int a4, .int a5, v6] [.int (0 : Int32), .int a2] (hs t, F, G) Q) ∧ (¬ a4 = (0 : Int32) → wp 12 107 [.ref 19, .int a1, .int a2, .int a3, .int a4, .int a5, v6] [.int ((1 : Int32) <<< (a3 &&& 31)), .int a2] (hs t, F, G) Q)) ∧ (a5 < (F 19 1) → wp 47 0 [.ref 19, .int a5, .int (1 : Int32), .float 0] [] (hs t, F, G) (fun v M' => wp 12 33 [.ref 19, .int a1, .int a2, .int a3, .int a4, .int a5, v6] (v.toList ++ [.int a3]) M' Q))) : wp 12 16 [.ref 19, .int a1, .int a2, .int a3, .int a4, .int a5, v6] [] (hs t, F, G) Q := by
  refine wp_N (j' := 12) (pc' := 22) (L' := [.ref 19, .int a1, .int a2, .int a3, .int a4, .int a5, v6]) (S' := [.int (F 19 1), .int a5]) (M' := (hs t, F, G)) 2 (fun _ => rfl) ?_
  refine wp_icmp (pc1 := 94) (c := .ge) rfl (fun hc => ?_) (fun hc => ?_)
  · replace h := h.1 hc
    refine wp_N (j' := 12) (pc' := 97) (L' := [.ref 19, .int a1, .int a2, .int a3, .int a4, .int a5, v6]) (S' := [.int a4, .int a2]) (M' := (hs t, F, G)) 1 (fun _ => rfl) ?_
    refine wp_ifc (pc1 := 106) (c := .eq) rfl (fun hc => ?_) (fun hc => ?_)
    · replace h := h.1 hc
      refine wp_N (j' := 12) (pc' := 107) (L' := [.ref 19, .int a1, .int a2, .int a3, .int a4, .int a5, v6]) (S' := [.int (0 : Int32), .int a2]) (M' := (hs t, F, G)) 0 (fun _ => rfl) ?_
      exact h
    · replace h := h.2 hc
      refine wp_N (j' := 12) (pc' := 107) (L' := [.ref 19, .int a1, .int a2, .int a3, .int a4, .int a5, v6]) (S' := [.int ((1 : Int32) <<< (a3 &&& 31)), .int a2]) (M' := (hs t, F, G)) 3 (fun _ => rfl) ?_
      exact h
  · replace h := h.2 (Int32.not_le.mp hc)
    refine wp_N (j' := 12) (pc' := 30) (L' := [.ref 19, .int a1, .int a2, .int a3, .int a4, .int a5, v6]) (S' := [.int (1 : Int32), .int a5, .ref 19, .int a3]) (M' := (hs t, F, G)) 3 (fun _ => rfl) ?_
    refine wp_C (i := 47) (pc' := 33) (Li := [.ref 19, .int a5, .int (1 : Int32), .float 0]) (rest := [.int a3]) (fun _ => rfl) h
theorem rg12_33 {t : Nat} {F : ip_F} {G : ip_G} {Q : Option Value → ip_M → Prop} {a1 a2 a3 a4 a5 as0 as1 : Int32} {v6 : Value} (h : wp 47 0 [.ref 19, .int a5, .int (2 : Int32), .float 0] [] (hs t, F, G) (fun v M' => wp 12 40 [.ref 19, .int a1, .int a2, .int a3, .int a4, .int a5, v6] (v.toList ++ [.int as1, .int as0]) M' Q)) : wp 12 33 [.ref 19, .int a1, .int a2, .int a3, .int a4, .int a5, v6] [.int as1, .int as0] (hs t, F, G) Q := by
  refine wp_N (j' := 12) (pc' := 37) (L' := [.ref 19, .int a1, .int a2, .int a3, .int a4, .int a5, v6]) (S' := [.int (2 : Int32), .int a5, .ref 19, .int as1, .int as0]) (M' := (hs t, F, G)) 2 (fun _ => rfl) ?_
  refine wp_C (i := 47) (pc' := 40) (Li := [.ref 19, .int a5, .int (2 : Int32), .float 0]) (rest := [.int as1, .int as0]) (fun _ => rfl) h
theorem rg12_40 {t : Nat} {F : ip_F} {G : ip_G} {Q : Option Value → ip_M → Prop} {a1 a2 a3 a4 a5 as0 as1 as2 : Int32} {v6 : Value} (h : wp 51 0 [.int as0, .int as1, .int as2, .float 0, .float 0] [] (hs t, F, G) (fun v M' => wp 12 43 [.ref 19, .int a1, .int a2, .int a3, .int a4, .int a5, v6] (v.toList ++ []) M' Q)) : wp 12 40 [.ref 19, .int a1, .int a2, .int a3, .int a4, .int a5, v6] [.int as2, .int as1, .int as0] (hs t, F, G) Q := by
  refine wp_C (i := 51) (pc' := 43) (Li := [.int as0, .int as1, .int as2, .float 0, .float 0]) (rest := []) (fun _ => rfl) h
theorem rg12_43 {t : Nat} {F : ip_F} {G : ip_G} {Q : Option Value → ip_M → Prop} {a1 a2 a3 a4 a5 as0 : Int32} {v6 : Value} (h : (as0 = (0 : Int32) → wp 12 51 [.ref 19, .int a1, .int a2, .int a3, .int a4, .int a5, v6] [.int (0 : Int32)] (hs t, F, G) Q) ∧ (¬ as0 = (0 : Int32) → wp 12 51 [.ref 19, .int a1, .int a2, .int a3, .int a4, .int a5, v6] [.int (1 : Int32)] (hs t, F, G) Q)) : wp 12 43 [.ref 19, .int a1, .int a2, .int a3, .int a4, .int a5, v6] [.int as0] (hs t, F, G) Q := by
  refine wp_ifc (pc1 := 50) (c := .eq) rfl (fun hc => ?_) (fun hc => ?_)
  · replace h := h.1 hc
    refine wp_N (j' := 12) (pc' := 51) (L' := [.ref 19, .int a1, .int a2, .int a3, .int a4, .int a5, v6]) (S' := [.int (0 : Int32)]) (M' := (hs t, F, G)) 0 (fun _ => rfl) ?_
    exact h
  · replace h := h.2 hc
    refine wp_N (j' := 12) (pc' := 51) (L' := [.ref 19, .int a1, .int a2, .int a3, .int a4, .int a5, v6]) (S' := [.int (1 : Int32)]) (M' := (hs t, F, G)) 1 (fun _ => rfl) ?_
    exact h
theorem rg12_51 {t : Nat} {F : ip_F} {G : ip_G} {Q : Option Value → ip_M → Prop} {a1 a2 a3 a4 a5 as0 : Int32} {v6 : Value} (h : (a4 = (0 : Int32) → wp 12 86 [.ref 19, .int a1, .int a2, .int a3, .int a4, .int a5, .int as0] [.int (0 : Int32)] (hs t, F, G) Q) ∧ (¬ a4 = (0 : Int32) → wp 47 0 [.ref 19, .int a5, .int (0 : Int32), .float 0] [] (hs t, F, G) (fun v M' => wp 12 65 [.ref 19, .int a1, .int a2, .int a3, .int a4, .int a5, .int as0] (v.toList ++ []) M' Q))) : wp 12 51 [.ref 19, .int a1, .int a2, .int a3, .int a4, .int a5, v6] [.int as0] (hs t, F, G) Q := by
  refine wp_N (j' := 12) (pc' := 55) (L' := [.ref 19, .int a1, .int a2, .int a3, .int a4, .int a5, .int as0]) (S' := [.int a4]) (M' := (hs t, F, G)) 1 (fun _ => rfl) ?_
  refine wp_ifc (pc1 := 85) (c := .eq) rfl (fun hc => ?_) (fun hc => ?_)
  · replace h := h.1 hc
    refine wp_N (j' := 12) (pc' := 86) (L' := [.ref 19, .int a1, .int a2, .int a3, .int a4, .int a5, .int as0]) (S' := [.int (0 : Int32)]) (M' := (hs t, F, G)) 0 (fun _ => rfl) ?_
    exact h
  · replace h := h.2 hc
    refine wp_N (j' := 12) (pc' := 62) (L' := [.ref 19, .int a1, .int a2, .int a3, .int a4, .int a5, .int as0]) (S' := [.int (0 : Int32), .int a5, .ref 19]) (M' := (hs t, F, G)) 2 (fun _ => rfl) ?_
    refine wp_C (i := 47) (pc' := 65) (Li := [.ref 19, .int a5, .int (0 : Int32), .float 0]) (rest := []) (fun _ => rfl) h
theorem rg12_65 {t : Nat} {F : ip_F} {G : ip_G} {Q : Option Value → ip_M → Prop} {a1 a2 a3 a4 a5 a6 as0 : Int32} (h : (¬ as0 = a1 → wp 12 86 [.ref 19, .int a1, .int a2, .int a3, .int a4, .int a5, .int a6] [.int (1 : Int32)] (hs t, F, G) Q) ∧ (as0 = a1 → wp 47 0 [.ref 19, .int a5, .int (3 : Int32), .float 0] [] (hs t, F, G) (fun v M' => wp 12 78 [.ref 19, .int a1, .int a2, .int a3, .int a4, .int a5, .int a6] (v.toList ++ [.int a6]) M' Q))) : wp 12 65 [.ref 19, .int a1, .int a2, .int a3, .int a4, .int a5, .int a6] [.int as0] (hs t, F, G) Q := by
  refine wp_N (j' := 12) (pc' := 66) (L' := [.ref 19, .int a1, .int a2, .int a3, .int a4, .int a5, .int a6]) (S' := [.int a1, .int as0]) (M' := (hs t, F, G)) 0 (fun _ => rfl) ?_
  refine wp_icmp (pc1 := 81) (c := .ne) rfl (fun hc => ?_) (fun hc => ?_)
  · replace h := h.1 hc
    refine wp_N (j' := 12) (pc' := 86) (L' := [.ref 19, .int a1, .int a2, .int a3, .int a4, .int a5, .int a6]) (S' := [.int (1 : Int32)]) (M' := (hs t, F, G)) 1 (fun _ => rfl) ?_
    exact h
  · replace h := h.2 (Decidable.not_not.mp hc)
    refine wp_N (j' := 12) (pc' := 75) (L' := [.ref 19, .int a1, .int a2, .int a3, .int a4, .int a5, .int a6]) (S' := [.int (3 : Int32), .int a5, .ref 19, .int a6]) (M' := (hs t, F, G)) 3 (fun _ => rfl) ?_
    refine wp_C (i := 47) (pc' := 78) (Li := [.ref 19, .int a5, .int (3 : Int32), .float 0]) (rest := [.int a6]) (fun _ => rfl) h
theorem rg12_78 {t : Nat} {F : ip_F} {G : ip_G} {Q : Option Value → ip_M → Prop} {a1 a2 a3 a4 a5 a6 as0 as1 : Int32} (h : (¬ as0 = as1 → wp 12 86 [.ref 19, .int a1, .int a2, .int a3, .int a4, .int a5, .int a6] [.int (0 : Int32)] (hs t, F, G) Q) ∧ (as0 = as1 → wp 12 86 [.ref 19, .int a1, .int a2, .int a3, .int a4, .int a5, .int a6] [.int (1 : Int32)] (hs t, F, G) Q)) : wp 12 78 [.ref 19, .int a1, .int a2, .int a3, .int a4, .int a5, .int a6] [.int as1, .int as0] (hs t, F, G) Q := by
  refine wp_icmp (pc1 := 85) (c := .ne) rfl (fun hc => ?_) (fun hc => ?_)
  · replace h := h.1 hc
    refine wp_N (j' := 12) (pc' := 86) (L' := [.ref 19, .int a1, .int a2, .int a3, .int a4, .int a5, .int a6]) (S' := [.int (0 : Int32)]) (M' := (hs t, F, G)) 0 (fun _ => rfl) ?_
    exact h
  · replace h := h.2 (Decidable.not_not.mp hc)
    refine wp_N (j' := 12) (pc' := 86) (L' := [.ref 19, .int a1, .int a2, .int a3, .int a4, .int a5, .int a6]) (S' := [.int (1 : Int32)]) (M' := (hs t, F, G)) 1 (fun _ => rfl) ?_
    exact h
theorem rg12_86 {t : Nat} {F : ip_F} {G : ip_G} {Q : Option Value → ip_M → Prop} {a1 a2 a3 a4 a5 a6 as0 : Int32} (h : wp 12 16 [.ref 19, .int a1, .int a2, .int a3, .int as0, .int (a5 + (1 : Int32)), .int a6] [] (hs t, F, G) Q) : wp 12 86 [.ref 19, .int a1, .int a2, .int a3, .int a4, .int a5, .int a6] [.int as0] (hs t, F, G) Q := by
  refine wp_N (j' := 12) (pc' := 16) (L' := [.ref 19, .int a1, .int a2, .int a3, .int as0, .int (a5 + (1 : Int32)), .int a6]) (S' := []) (M' := (hs t, F, G)) 2 (fun _ => rfl) ?_
  exact h
theorem rg12_107 {t : Nat} {F : ip_F} {G : ip_G} {Q : Option Value → ip_M → Prop} {a1 a2 a3 a4 a5 as0 as1 : Int32} {v6 : Value} (h : wp 12 4 [.ref 19, .int a1, .int (as0 ||| as1), .int (a3 + (1 : Int32)), .int a4, .int a5, v6] [] (hs t, F, G) Q) : wp 12 107 [.ref 19, .int a1, .int a2, .int a3, .int a4, .int a5, v6] [.int as1, .int as0] (hs t, F, G) Q := by
  refine wp_N (j' := 12) (pc' := 4) (L' := [.ref 19, .int a1, .int (as0 ||| as1), .int (a3 + (1 : Int32)), .int a4, .int a5, v6]) (S' := []) (M' := (hs t, F, G)) 3 (fun _ => rfl) ?_
  exact h
theorem rg13_0 {t : Nat} {F : ip_F} {G : ip_G} {Q : Option Value → ip_M → Prop} {a0 : Int32} (h : wp 13 7 [.int a0, .int (-1 : Int32), .int (6 : Int32), .int (0 : Int32), .float 0, .float 0] [] (hs t, F, G) Q) : wp 13 0 [.int a0, .float 0, .float 0, .float 0, .float 0, .float 0] [] (hs t, F, G) Q := by
  refine wp_N (j' := 13) (pc' := 7) (L' := [.int a0, .int (-1 : Int32), .int (6 : Int32), .int (0 : Int32), .float 0, .float 0]) (S' := []) (M' := (hs t, F, G)) 5 (fun _ => rfl) ?_
  exact h
theorem rg13_7 {t : Nat} {F : ip_F} {G : ip_G} {Q : Option Value → ip_M → Prop} {a0 a1 a2 a3 : Int32} {v4 v5 : Value} (h : ((9 : Int32) < a3 → Q (some (.int a1)) (hs t, F, G)) ∧ (a3 ≤ (9 : Int32) → (a0 = (0 : Int32) → Q (some (.int a1)) (hs t, F, G)) ∧ (¬ a0 = (0 : Int32) → wp 13 20 [.int a0, .int a1, .int a2, .int a3, .int (0 : Int32), v5] [] (hs t, F, G) Q))) : wp 13 7 [.int a0, .int a1, .int a2, .int a3, v4, v5] [] (hs t, F, G) Q := by
  refine wp_N (j' := 13) (pc' := 10) (L' := [.int a0, .int a1, .int a2, .int a3, v4, v5]) (S' := [.int (9 : Int32), .int a3]) (M' := (hs t, F, G)) 1 (fun _ => rfl) ?_
  refine wp_icmp (pc1 := 70) (c := .gt) rfl (fun hc => ?_) (fun hc => ?_)
  · replace h := h.1 hc
    refine wp_N (j' := 13) (pc' := 71) (L' := [.int a0, .int a1, .int a2, .int a3, v4, v5]) (S' := [.int a1]) (M' := (hs t, F, G)) 0 (fun _ => rfl) ?_
    exact wp_RI rfl rfl h
  · replace h := h.2 (Int32.not_lt.mp hc)
    refine wp_N (j' := 13) (pc' := 14) (L' := [.int a0, .int a1, .int a2, .int a3, v4, v5]) (S' := [.int a0]) (M' := (hs t, F, G)) 0 (fun _ => rfl) ?_
    refine wp_ifc (pc1 := 70) (c := .eq) rfl (fun hc => ?_) (fun hc => ?_)
    · replace h := h.1 hc
      refine wp_N (j' := 13) (pc' := 71) (L' := [.int a0, .int a1, .int a2, .int a3, v4, v5]) (S' := [.int a1]) (M' := (hs t, F, G)) 0 (fun _ => rfl) ?_
      exact wp_RI rfl rfl h
    · replace h := h.2 hc
      refine wp_N (j' := 13) (pc' := 20) (L' := [.int a0, .int a1, .int a2, .int a3, .int (0 : Int32), v5]) (S' := []) (M' := (hs t, F, G)) 1 (fun _ => rfl) ?_
      exact h
theorem rg13_20 {t : Nat} {F : ip_F} {G : ip_G} {Q : Option Value → ip_M → Prop} {a0 a1 a2 a3 a4 : Int32} {v5 : Value} (h : ((9 : Int32) < a4 → wp 13 7 [.int a0, .int a1, .int a2, .int (a3 + (1 : Int32)), .int a4, v5] [] (hs t, F, G) Q) ∧ (a4 ≤ (9 : Int32) → wp 14 0 [.int a0, .int a4, .int a3, .float 0, .float 0, .float 0] [] (hs t, F, G) (fun v M' => wp 13 34 [.int a0, .int a1, .int a2, .int a3, .int a4, v5] (v.toList ++ []) M' Q))) : wp 13 20 [.int a0, .int a1, .int a2, .int a3, .int a4, v5] [] (hs t, F, G) Q := by
  refine wp_N (j' := 13) (pc' := 24) (L' := [.int a0, .int a1, .int a2, .int a3, .int a4, v5]) (S' := [.int (9 : Int32), .int a4]) (M' := (hs t, F, G)) 1 (fun _ => rfl) ?_
  refine wp_icmp (pc1 := 64) (c := .gt) rfl (fun hc => ?_) (fun hc => ?_)
  · replace h := h.1 hc
    refine wp_N (j' := 13) (pc' := 7) (L' := [.int a0, .int a1, .int a2, .int (a3 + (1 : Int32)), .int a4, v5]) (S' := []) (M' := (hs t, F, G)) 1 (fun _ => rfl) ?_
    exact h
  · replace h := h.2 (Int32.not_lt.mp hc)
    refine wp_N (j' := 13) (pc' := 31) (L' := [.int a0, .int a1, .int a2, .int a3, .int a4, v5]) (S' := [.int a3, .int a4, .int a0]) (M' := (hs t, F, G)) 2 (fun _ => rfl) ?_
    refine wp_C (i := 14) (pc' := 34) (Li := [.int a0, .int a4, .int a3, .float 0, .float 0, .float 0]) (rest := []) (fun _ => rfl) h
theorem rg13_34 {t : Nat} {F : ip_F} {G : ip_G} {Q : Option Value → ip_M → Prop} {a0 a1 a2 a3 a4 as0 : Int32} {v5 : Value} (h : (a1 = (-1 : Int32) → wp 13 47 [.int a0, .int a1, .int a2, .int a3, .int a4, .int as0] [] (hs t, F, G) Q) ∧ (¬ a1 = (-1 : Int32) → (a2 ≤ as0 → wp 13 58 [.int a0, .int a1, .int a2, .int a3, .int a4, .int as0] [] (hs t, F, G) Q) ∧ (as0 < a2 → wp 13 47 [.int a0, .int a1, .int a2, .int a3, .int a4, .int as0] [] (hs t, F, G) Q))) : wp 13 34 [.int a0, .int a1, .int a2, .int a3, .int a4, v5] [.int as0] (hs t, F, G) Q := by
  refine wp_N (j' := 13) (pc' := 38) (L' := [.int a0, .int a1, .int a2, .int a3, .int a4, .int as0]) (S' := [.int (-1 : Int32), .int a1]) (M' := (hs t, F, G)) 2 (fun _ => rfl) ?_
  refine wp_icmp (pc1 := 47) (c := .eq) rfl (fun hc => ?_) (fun hc => ?_)
  · replace h := h.1 hc
    exact h
  · replace h := h.2 hc
    refine wp_N (j' := 13) (pc' := 44) (L' := [.int a0, .int a1, .int a2, .int a3, .int a4, .int as0]) (S' := [.int a2, .int as0]) (M' := (hs t, F, G)) 1 (fun _ => rfl) ?_
    refine wp_icmp (pc1 := 58) (c := .ge) rfl (fun hc => ?_) (fun hc => ?_)
    · replace h := h.1 hc
      exact h
    · replace h := h.2 (Int32.not_le.mp hc)
      exact h
theorem rg13_47 {t : Nat} {F : ip_F} {G : ip_G} {Q : Option Value → ip_M → Prop} {a0 a1 a2 a3 a4 a5 : Int32} (h : wp 13 58 [.int a0, .int (((100 : Int32) * a3) + a4), .int a5, .int a3, .int a4, .int a5] [] (hs t, F, G) Q) : wp 13 47 [.int a0, .int a1, .int a2, .int a3, .int a4, .int a5] [] (hs t, F, G) Q := by
  refine wp_N (j' := 13) (pc' := 58) (L' := [.int a0, .int (((100 : Int32) * a3) + a4), .int a5, .int a3, .int a4, .int a5]) (S' := []) (M' := (hs t, F, G)) 7 (fun _ => rfl) ?_
  exact h
theorem rg13_58 {t : Nat} {F : ip_F} {G : ip_G} {Q : Option Value → ip_M → Prop} {a0 a1 a2 a3 a4 a5 : Int32} (h : wp 13 20 [.int a0, .int a1, .int a2, .int a3, .int (a4 + (1 : Int32)), .int a5] [] (hs t, F, G) Q) : wp 13 58 [.int a0, .int a1, .int a2, .int a3, .int a4, .int a5] [] (hs t, F, G) Q := by
  refine wp_N (j' := 13) (pc' := 20) (L' := [.int a0, .int a1, .int a2, .int a3, .int (a4 + (1 : Int32)), .int a5]) (S' := []) (M' := (hs t, F, G)) 1 (fun _ => rfl) ?_
  exact h
theorem rg14_0 {t : Nat} {F : ip_F} {G : ip_G} {Q : Option Value → ip_M → Prop} {a0 a1 a2 : Int32} (h : wp 14 5 [.int a0, .int a1, .int a2, .int (0 : Int32), .int (0 : Int32), .float 0] [] (hs t, F, G) Q) : wp 14 0 [.int a0, .int a1, .int a2, .float 0, .float 0, .float 0] [] (hs t, F, G) Q := by
  refine wp_N (j' := 14) (pc' := 5) (L' := [.int a0, .int a1, .int a2, .int (0 : Int32), .int (0 : Int32), .float 0]) (S' := []) (M' := (hs t, F, G)) 3 (fun _ => rfl) ?_
  exact h
theorem rg14_5 {t : Nat} {F : ip_F} {G : ip_G} {Q : Option Value → ip_M → Prop} {a0 a1 a2 a3 a4 : Int32} {v5 : Value} (h : ((6 : Int32) ≤ a4 → wp 236 0 [.int a0] [] (hs t, F, G) (fun v M' => wp 14 63 [.int a0, .int a1, .int a2, .int a3, .int a4, v5] (v.toList ++ [.int a3]) M' Q)) ∧ (a4 < (6 : Int32) → (¬ ((a0 >>> (a4 &&& 31)) &&& (1 : Int32)) = (1 : Int32) → wp 14 27 [.int a0, .int a1, .int a2, .int a3, .int a4, v5] [.int (0 : Int32)] (hs t, F, G) Q) ∧ (((a0 >>> (a4 &&& 31)) &&& (1 : Int32)) = (1 : Int32) → wp 14 27 [.int a0, .int a1, .int a2, .int a3, .int a4, v5] [.int (1 : Int32)] (hs t, F, G) Q))) : wp 14 5 [.int a0, .int a1, .int a2, .int a3, .int a4, v5] [] (hs t, F, G) Q := by
  refine wp_N (j' := 14) (pc' := 9) (L' := [.int a0, .int a1, .int a2, .int a3, .int a4, v5]) (S' := [.int (6 : Int32), .int a4]) (M' := (hs t, F, G)) 1 (fun _ => rfl) ?_
  refine wp_icmp (pc1 := 58) (c := .ge) rfl (fun hc => ?_) (fun hc => ?_)
  · replace h := h.1 hc
    refine wp_N (j' := 14) (pc' := 60) (L' := [.int a0, .int a1, .int a2, .int a3, .int a4, v5]) (S' := [.int a0, .int a3]) (M' := (hs t, F, G)) 1 (fun _ => rfl) ?_
    refine wp_C (i := 236) (pc' := 63) (Li := [.int a0]) (rest := [.int a3]) (fun _ => rfl) h
  · replace h := h.2 (Int32.not_le.mp hc)
    refine wp_N (j' := 14) (pc' := 19) (L' := [.int a0, .int a1, .int a2, .int a3, .int a4, v5]) (S' := [.int (1 : Int32), .int ((a0 >>> (a4 &&& 31)) &&& (1 : Int32))]) (M' := (hs t, F, G)) 5 (fun _ => rfl) ?_
    refine wp_icmp (pc1 := 26) (c := .ne) rfl (fun hc => ?_) (fun hc => ?_)
    · replace h := h.1 hc
      refine wp_N (j' := 14) (pc' := 27) (L' := [.int a0, .int a1, .int a2, .int a3, .int a4, v5]) (S' := [.int (0 : Int32)]) (M' := (hs t, F, G)) 0 (fun _ => rfl) ?_
      exact h
    · replace h := h.2 (Decidable.not_not.mp hc)
      refine wp_N (j' := 14) (pc' := 27) (L' := [.int a0, .int a1, .int a2, .int a3, .int a4, v5]) (S' := [.int (1 : Int32)]) (M' := (hs t, F, G)) 1 (fun _ => rfl) ?_
      exact h
theorem rg14_27 {t : Nat} {F : ip_F} {G : ip_G} {Q : Option Value → ip_M → Prop} {a0 a1 a2 a3 a4 as0 : Int32} {v5 : Value} (h : (as0 = (0 : Int32) → wp 14 50 [.int a0, .int a1, .int a2, .int a3, .int a4, .int as0] [.int (0 : Int32), .int a3] (hs t, F, G) Q) ∧ (¬ as0 = (0 : Int32) → wp 51 0 [.int a4, .int a1, .int a2, .float 0, .float 0] [] (hs t, F, G) (fun v M' => wp 14 42 [.int a0, .int a1, .int a2, .int a3, .int a4, .int as0] (v.toList ++ [.int a3]) M' Q))) : wp 14 27 [.int a0, .int a1, .int a2, .int a3, .int a4, v5] [.int as0] (hs t, F, G) Q := by
  refine wp_N (j' := 14) (pc' := 32) (L' := [.int a0, .int a1, .int a2, .int a3, .int a4, .int as0]) (S' := [.int as0, .int a3]) (M' := (hs t, F, G)) 2 (fun _ => rfl) ?_
  refine wp_ifc (pc1 := 49) (c := .eq) rfl (fun hc => ?_) (fun hc => ?_)
  · replace h := h.1 hc
    refine wp_N (j' := 14) (pc' := 50) (L' := [.int a0, .int a1, .int a2, .int a3, .int a4, .int as0]) (S' := [.int (0 : Int32), .int a3]) (M' := (hs t, F, G)) 0 (fun _ => rfl) ?_
    exact h
  · replace h := h.2 hc
    refine wp_N (j' := 14) (pc' := 39) (L' := [.int a0, .int a1, .int a2, .int a3, .int a4, .int as0]) (S' := [.int a2, .int a1, .int a4, .int a3]) (M' := (hs t, F, G)) 2 (fun _ => rfl) ?_
    refine wp_C (i := 51) (pc' := 42) (Li := [.int a4, .int a1, .int a2, .float 0, .float 0]) (rest := [.int a3]) (fun _ => rfl) h
theorem rg14_42 {t : Nat} {F : ip_F} {G : ip_G} {Q : Option Value → ip_M → Prop} {a0 a1 a2 a3 a4 a5 as0 as1 : Int32} (h : (as1 = (0 : Int32) → wp 14 50 [.int a0, .int a1, .int a2, .int a3, .int a4, .int a5] [.int (0 : Int32), .int as0] (hs t, F, G) Q) ∧ (¬ as1 = (0 : Int32) → wp 14 50 [.int a0, .int a1, .int a2, .int a3, .int a4, .int a5] [.int (1 : Int32), .int as0] (hs t, F, G) Q)) : wp 14 42 [.int a0, .int a1, .int a2, .int a3, .int a4, .int a5] [.int as1, .int as0] (hs t, F, G) Q := by
  refine wp_ifc (pc1 := 49) (c := .eq) rfl (fun hc => ?_) (fun hc => ?_)
  · replace h := h.1 hc
    refine wp_N (j' := 14) (pc' := 50) (L' := [.int a0, .int a1, .int a2, .int a3, .int a4, .int a5]) (S' := [.int (0 : Int32), .int as0]) (M' := (hs t, F, G)) 0 (fun _ => rfl) ?_
    exact h
  · replace h := h.2 hc
    refine wp_N (j' := 14) (pc' := 50) (L' := [.int a0, .int a1, .int a2, .int a3, .int a4, .int a5]) (S' := [.int (1 : Int32), .int as0]) (M' := (hs t, F, G)) 1 (fun _ => rfl) ?_
    exact h
theorem rg14_50 {t : Nat} {F : ip_F} {G : ip_G} {Q : Option Value → ip_M → Prop} {a0 a1 a2 a3 a4 a5 as0 as1 : Int32} (h : wp 14 5 [.int a0, .int a1, .int a2, .int (as0 + as1), .int (a4 + (1 : Int32)), .int a5] [] (hs t, F, G) Q) : wp 14 50 [.int a0, .int a1, .int a2, .int a3, .int a4, .int a5] [.int as1, .int as0] (hs t, F, G) Q := by
  refine wp_N (j' := 14) (pc' := 5) (L' := [.int a0, .int a1, .int a2, .int (as0 + as1), .int (a4 + (1 : Int32)), .int a5]) (S' := []) (M' := (hs t, F, G)) 3 (fun _ => rfl) ?_
  exact h
theorem rg14_63 {t : Nat} {F : ip_F} {G : ip_G} {Q : Option Value → ip_M → Prop} {a0 a1 a2 a3 a4 as0 as1 : Int32} {v5 : Value} (h : Q (some (.int (if as0 < (as1 - a3) then (as1 - a3) else as0))) (hs t, F, G)) : wp 14 63 [.int a0, .int a1, .int a2, .int a3, .int a4, v5] [.int as1, .int as0] (hs t, F, G) Q := by
  refine wp_N (j' := 14) (pc' := 68) (L' := [.int a0, .int a1, .int a2, .int a3, .int a4, v5]) (S' := [.int (if as0 < (as1 - a3) then (as1 - a3) else as0)]) (M' := (hs t, F, G)) 2 (fun _ => rfl) ?_
  exact wp_RI rfl rfl h
theorem rg16_0 {t : Nat} {F : ip_F} {G : ip_G} {Q : Option Value → ip_M → Prop} {k : Nat} (hk : ok1 t k) (h : Q none (hs t, (ip_u F k 1 (0 : Int32)), G)) : wp 16 0 [.ref k] [] (hs t, F, G) Q := by
  refine wp_N (j' := 16) (pc' := 2) (L' := [.ref k]) (S' := [.int (0 : Int32), .ref k]) (M' := (hs t, F, G)) 1 (fun _ => rfl) ?_
  refine wp_putI rfl hk.1 rfl rfl rfl rfl (by decide) ?_
  exact wp_RV rfl rfl h
theorem rg17_0 {t : Nat} {F : ip_F} {G : ip_G} {Q : Option Value → ip_M → Prop} {k o : Nat} (hk : ok1 t k) (ho : ok7 t o) (h : ((F k 1) < (8 : Int32) → wp 17 13 [.ref k, .ref o] [] (hs t, F, G) Q) ∧ ((8 : Int32) ≤ (F k 1) → wp 18 0 [.ref k, .float 0] [] (hs t, F, G) (fun v M' => wp 17 13 [.ref k, .ref o] (v.toList ++ []) M' Q))) : wp 17 0 [.ref k, .ref o] [] (hs t, F, G) Q := by
  refine wp_N (j' := 17) (pc' := 1) (L' := [.ref k, .ref o]) (S' := [.ref k]) (M' := (hs t, F, G)) 0 (fun _ => rfl) ?_
  refine wp_getI rfl hk.1 rfl rfl rfl (by decide) ?_
  refine wp_N (j' := 17) (pc' := 6) (L' := [.ref k, .ref o]) (S' := [.int (8 : Int32), .int (F k 1)]) (M' := (hs t, F, G)) 0 (fun _ => rfl) ?_
  refine wp_icmp (pc1 := 13) (c := .lt) rfl (fun hc => ?_) (fun hc => ?_)
  · replace h := h.1 hc
    exact h
  · replace h := h.2 (Int32.not_lt.mp hc)
    refine wp_N (j' := 17) (pc' := 10) (L' := [.ref k, .ref o]) (S' := [.ref k]) (M' := (hs t, F, G)) 0 (fun _ => rfl) ?_
    refine wp_CV (as := []) (S := []) rfl hk.1 rfl rfl rfl (Nat.le_of_ble_eq_true rfl) rfl ⟨rfl, rfl⟩ rfl h
theorem rg17_13 {t : Nat} {F : ip_F} {G : ip_G} {Q : Option Value → ip_M → Prop} {k o : Nat} (hk : ok1 t k) (ho : ok7 t o) (h : (vp_in (F k 1) 8) ∧ (Q none (hs t, (ip_u (ip_ur F ((k + 2) + ((F k 1)).toNatClampNeg) (va_cpy (F (o + 1)) (F ((k + 2) + ((F k 1)).toNatClampNeg)) 0 0 25)) k 1 (((ip_ur F ((k + 2) + ((F k 1)).toNatClampNeg) (va_cpy (F (o + 1)) (F ((k + 2) + ((F k 1)).toNatClampNeg)) 0 0 25)) k 1) + (1 : Int32))), G))) : wp 17 13 [.ref k, .ref o] [] (hs t, F, G) Q := by
  refine wp_N (j' := 17) (pc' := 14) (L' := [.ref k, .ref o]) (S' := [.ref o]) (M' := (hs t, F, G)) 0 (fun _ => rfl) ?_
  refine wp_getR (r := (o + 1)) rfl ho.1 rfl rfl rfl (hs_lt ho.2) (by decide) ?_
  refine wp_N (j' := 17) (pc' := 19) (L' := [.ref k, .ref o]) (S' := [.ref k, .int (0 : Int32), .ref (o + 1)]) (M' := (hs t, F, G)) 1 (fun _ => rfl) ?_
  refine wp_getR (r := (k + 1)) rfl hk.1 rfl rfl rfl (hs_lt hk.2.1) (by decide) ?_
  refine wp_N (j' := 17) (pc' := 23) (L' := [.ref k, .ref o]) (S' := [.ref k, .ref (k + 1), .int (0 : Int32), .ref (o + 1)]) (M' := (hs t, F, G)) 0 (fun _ => rfl) ?_
  refine wp_getI rfl hk.1 rfl rfl rfl (by decide) ?_
  obtain ⟨h1_, h⟩ := h
  refine wp_aal (b := (k + 2)) (m := ((F k 1)).toNatClampNeg) rfl hk.2.1 (hs_gk k) (hs_b8 hk.2.2.2) rfl h1_ ?_
  refine wp_N (j' := 17) (pc' := 30) (L' := [.ref k, .ref o]) (S' := [.int (25 : Int32), .int (0 : Int32), .ref ((k + 2) + ((F k 1)).toNatClampNeg), .int (0 : Int32), .ref (o + 1)]) (M' := (hs t, F, G)) 1 (fun _ => rfl) ?_
  refine wp_cpy (sp' := 0) (dp' := 0) (n' := 25) rfl ho.2 (hk.2.2.1 _ (vp_lt h1_)) (by decide) (by decide) rfl rfl rfl (by decide) (by decide) ?_
  refine wp_N (j' := 17) (pc' := 35) (L' := [.ref k, .ref o]) (S' := [.ref k, .ref k]) (M' := (hs t, (ip_ur F ((k + 2) + ((F k 1)).toNatClampNeg) (va_cpy (F (o + 1)) (F ((k + 2) + ((F k 1)).toNatClampNeg)) 0 0 25)), G)) 1 (fun _ => rfl) ?_
  refine wp_getI rfl hk.1 rfl rfl rfl (by decide) ?_
  refine wp_N (j' := 17) (pc' := 40) (L' := [.ref k, .ref o]) (S' := [.int (((ip_ur F ((k + 2) + ((F k 1)).toNatClampNeg) (va_cpy (F (o + 1)) (F ((k + 2) + ((F k 1)).toNatClampNeg)) 0 0 25)) k 1) + (1 : Int32)), .ref k]) (M' := (hs t, (ip_ur F ((k + 2) + ((F k 1)).toNatClampNeg) (va_cpy (F (o + 1)) (F ((k + 2) + ((F k 1)).toNatClampNeg)) 0 0 25)), G)) 1 (fun _ => rfl) ?_
  refine wp_putI rfl hk.1 rfl rfl rfl rfl (by decide) ?_
  exact wp_RV rfl rfl h
theorem rg18_0 {t : Nat} {F : ip_F} {G : ip_G} {Q : Option Value → ip_M → Prop} {k : Nat} (hk : ok1 t k) (h : wp 18 2 [.ref k, .int (1 : Int32)] [] (hs t, F, G) Q) : wp 18 0 [.ref k, .float 0] [] (hs t, F, G) Q := by
  refine wp_N (j' := 18) (pc' := 2) (L' := [.ref k, .int (1 : Int32)]) (S' := []) (M' := (hs t, F, G)) 1 (fun _ => rfl) ?_
  exact h
theorem rg18_2 {t : Nat} {F : ip_F} {G : ip_G} {Q : Option Value → ip_M → Prop} {k : Nat} {a1 : Int32} (hk : ok1 t k) (h : ((8 : Int32) ≤ a1 → Q none (hs t, (ip_u F k 1 (7 : Int32)), G)) ∧ (a1 < (8 : Int32) → (vp_in a1 8) ∧ ((vp_in (a1 - (1 : Int32)) 8) ∧ (wp 18 2 [.ref k, .int (a1 + (1 : Int32))] [] (hs t, (ip_ur F ((k + 2) + ((a1 - (1 : Int32))).toNatClampNeg) (va_cpy (F ((k + 2) + (a1).toNatClampNeg)) (F ((k + 2) + ((a1 - (1 : Int32))).toNatClampNeg)) 0 0 25)), G) Q)))) : wp 18 2 [.ref k, .int a1] [] (hs t, F, G) Q := by
  refine wp_N (j' := 18) (pc' := 5) (L' := [.ref k, .int a1]) (S' := [.int (8 : Int32), .int a1]) (M' := (hs t, F, G)) 1 (fun _ => rfl) ?_
  refine wp_icmp (pc1 := 35) (c := .ge) rfl (fun hc => ?_) (fun hc => ?_)
  · replace h := h.1 hc
    refine wp_N (j' := 18) (pc' := 38) (L' := [.ref k, .int a1]) (S' := [.int (7 : Int32), .ref k]) (M' := (hs t, F, G)) 1 (fun _ => rfl) ?_
    refine wp_putI rfl hk.1 rfl rfl rfl rfl (by decide) ?_
    exact wp_RV rfl rfl h
  · replace h := h.2 (Int32.not_le.mp hc)
    refine wp_N (j' := 18) (pc' := 9) (L' := [.ref k, .int a1]) (S' := [.ref k]) (M' := (hs t, F, G)) 0 (fun _ => rfl) ?_
    refine wp_getR (r := (k + 1)) rfl hk.1 rfl rfl rfl (hs_lt hk.2.1) (by decide) ?_
    refine wp_N (j' := 18) (pc' := 13) (L' := [.ref k, .int a1]) (S' := [.int a1, .ref (k + 1)]) (M' := (hs t, F, G)) 0 (fun _ => rfl) ?_
    obtain ⟨h1_, h⟩ := h
    refine wp_aal (b := (k + 2)) (m := (a1).toNatClampNeg) rfl hk.2.1 (hs_gk k) (hs_b8 hk.2.2.2) rfl h1_ ?_
    refine wp_N (j' := 18) (pc' := 16) (L' := [.ref k, .int a1]) (S' := [.ref k, .int (0 : Int32), .ref ((k + 2) + (a1).toNatClampNeg)]) (M' := (hs t, F, G)) 1 (fun _ => rfl) ?_
    refine wp_getR (r := (k + 1)) rfl hk.1 rfl rfl rfl (hs_lt hk.2.1) (by decide) ?_
    refine wp_N (j' := 18) (pc' := 22) (L' := [.ref k, .int a1]) (S' := [.int (a1 - (1 : Int32)), .ref (k + 1), .int (0 : Int32), .ref ((k + 2) + (a1).toNatClampNeg)]) (M' := (hs t, F, G)) 2 (fun _ => rfl) ?_
    obtain ⟨h2_, h⟩ := h
    refine wp_aal (b := (k + 2)) (m := ((a1 - (1 : Int32))).toNatClampNeg) rfl hk.2.1 (hs_gk k) (hs_b8 hk.2.2.2) rfl h2_ ?_
    refine wp_N (j' := 18) (pc' := 26) (L' := [.ref k, .int a1]) (S' := [.int (25 : Int32), .int (0 : Int32), .ref ((k + 2) + ((a1 - (1 : Int32))).toNatClampNeg), .int (0 : Int32), .ref ((k + 2) + (a1).toNatClampNeg)]) (M' := (hs t, F, G)) 1 (fun _ => rfl) ?_
    refine wp_cpy (sp' := 0) (dp' := 0) (n' := 25) rfl (hk.2.2.1 _ (vp_lt h1_)) (hk.2.2.1 _ (vp_lt h2_)) (by decide) (by decide) rfl rfl rfl (by decide) (by decide) ?_
    refine wp_N (j' := 18) (pc' := 2) (L' := [.ref k, .int (a1 + (1 : Int32))]) (S' := []) (M' := (hs t, (ip_ur F ((k + 2) + ((a1 - (1 : Int32))).toNatClampNeg) (va_cpy (F ((k + 2) + (a1).toNatClampNeg)) (F ((k + 2) + ((a1 - (1 : Int32))).toNatClampNeg)) 0 0 25)), G)) 1 (fun _ => rfl) ?_
    exact h
theorem rg19_0 {t : Nat} {F : ip_F} {G : ip_G} {Q : Option Value → ip_M → Prop} {k o : Nat} (hk : ok1 t k) (ho : ok7 t o) (h : ((F k 1) ≤ (0 : Int32) → Q none (hs t, F, G)) ∧ ((0 : Int32) < (F k 1) → (vp_in ((ip_u F k 1 ((F k 1) - (1 : Int32))) k 1) 8) ∧ (Q none (hs t, (ip_ur (ip_u F k 1 ((F k 1) - (1 : Int32))) (o + 1) (va_cpy ((ip_u F k 1 ((F k 1) - (1 : Int32))) ((k + 2) + (((ip_u F k 1 ((F k 1) - (1 : Int32))) k 1)).toNatClampNeg)) ((ip_u F k 1 ((F k 1) - (1 : Int32))) (o + 1)) 0 0 25)), G)))) : wp 19 0 [.ref k, .ref o] [] (hs t, F, G) Q := by
  refine wp_N (j' := 19) (pc' := 1) (L' := [.ref k, .ref o]) (S' := [.ref k]) (M' := (hs t, F, G)) 0 (fun _ => rfl) ?_
  refine wp_getI rfl hk.1 rfl rfl rfl (by decide) ?_
  refine wp_ifc (pc1 := 37) (c := .le) rfl (fun hc => ?_) (fun hc => ?_)
  · replace h := h.1 hc
    exact wp_RV rfl rfl h
  · replace h := h.2 (Int32.not_le.mp hc)
    refine wp_N (j' := 19) (pc' := 9) (L' := [.ref k, .ref o]) (S' := [.ref k, .ref k]) (M' := (hs t, F, G)) 1 (fun _ => rfl) ?_
    refine wp_getI rfl hk.1 rfl rfl rfl (by decide) ?_
    refine wp_N (j' := 19) (pc' := 14) (L' := [.ref k, .ref o]) (S' := [.int ((F k 1) - (1 : Int32)), .ref k]) (M' := (hs t, F, G)) 1 (fun _ => rfl) ?_
    refine wp_putI rfl hk.1 rfl rfl rfl rfl (by decide) ?_
    refine wp_N (j' := 19) (pc' := 18) (L' := [.ref k, .ref o]) (S' := [.ref k]) (M' := (hs t, (ip_u F k 1 ((F k 1) - (1 : Int32))), G)) 0 (fun _ => rfl) ?_
    refine wp_getR (r := (k + 1)) rfl hk.1 rfl rfl rfl (hs_lt hk.2.1) (by decide) ?_
    refine wp_N (j' := 19) (pc' := 22) (L' := [.ref k, .ref o]) (S' := [.ref k, .ref (k + 1)]) (M' := (hs t, (ip_u F k 1 ((F k 1) - (1 : Int32))), G)) 0 (fun _ => rfl) ?_
    refine wp_getI rfl hk.1 rfl rfl rfl (by decide) ?_
    obtain ⟨h1_, h⟩ := h
    refine wp_aal (b := (k + 2)) (m := (((ip_u F k 1 ((F k 1) - (1 : Int32))) k 1)).toNatClampNeg) rfl hk.2.1 (hs_gk k) (hs_b8 hk.2.2.2) rfl h1_ ?_
    refine wp_N (j' := 19) (pc' := 28) (L' := [.ref k, .ref o]) (S' := [.ref o, .int (0 : Int32), .ref ((k + 2) + (((ip_u F k 1 ((F k 1) - (1 : Int32))) k 1)).toNatClampNeg)]) (M' := (hs t, (ip_u F k 1 ((F k 1) - (1 : Int32))), G)) 1 (fun _ => rfl) ?_
    refine wp_getR (r := (o + 1)) rfl ho.1 rfl rfl rfl (hs_lt ho.2) (by decide) ?_
    refine wp_N (j' := 19) (pc' := 34) (L' := [.ref k, .ref o]) (S' := [.int (25 : Int32), .int (0 : Int32), .ref (o + 1), .int (0 : Int32), .ref ((k + 2) + (((ip_u F k 1 ((F k 1) - (1 : Int32))) k 1)).toNatClampNeg)]) (M' := (hs t, (ip_u F k 1 ((F k 1) - (1 : Int32))), G)) 1 (fun _ => rfl) ?_
    refine wp_cpy (sp' := 0) (dp' := 0) (n' := 25) rfl (hk.2.2.1 _ (vp_lt h1_)) ho.2 (by decide) (by decide) rfl rfl rfl (by decide) (by decide) ?_
    exact wp_RV rfl rfl h
theorem rg20_0 {t : Nat} {F : ip_F} {G : ip_G} {Q : Option Value → ip_M → Prop} {k o : Nat} (hk : ok1 t k) (ho : ok1 t o) (h : wp 20 10 [.ref k, .ref o, .int (0 : Int32)] [] (hs t, (ip_u F k 1 (F o 1)), G) Q) : wp 20 0 [.ref k, .ref o, .float 0] [] (hs t, F, G) Q := by
  refine wp_N (j' := 20) (pc' := 2) (L' := [.ref k, .ref o, .float 0]) (S' := [.ref o, .ref k]) (M' := (hs t, F, G)) 1 (fun _ => rfl) ?_
  refine wp_getI rfl ho.1 rfl rfl rfl (by decide) ?_
  refine wp_putI rfl hk.1 rfl rfl rfl rfl (by decide) ?_
  refine wp_N (j' := 20) (pc' := 10) (L' := [.ref k, .ref o, .int (0 : Int32)]) (S' := []) (M' := (hs t, (ip_u F k 1 (F o 1)), G)) 1 (fun _ => rfl) ?_
  exact h
theorem rg20_10 {t : Nat} {F : ip_F} {G : ip_G} {Q : Option Value → ip_M → Prop} {k o : Nat} {a2 : Int32} (hk : ok1 t k) (ho : ok1 t o) (h : ((8 : Int32) ≤ a2 → Q none (hs t, F, G)) ∧ (a2 < (8 : Int32) → (vp_in a2 8) ∧ ((vp_in a2 8) ∧ (wp 20 10 [.ref k, .ref o, .int (a2 + (1 : Int32))] [] (hs t, (ip_ur F ((k + 2) + (a2).toNatClampNeg) (va_cpy (F ((o + 2) + (a2).toNatClampNeg)) (F ((k + 2) + (a2).toNatClampNeg)) 0 0 25)), G) Q)))) : wp 20 10 [.ref k, .ref o, .int a2] [] (hs t, F, G) Q := by
  refine wp_N (j' := 20) (pc' := 13) (L' := [.ref k, .ref o, .int a2]) (S' := [.int (8 : Int32), .int a2]) (M' := (hs t, F, G)) 1 (fun _ => rfl) ?_
  refine wp_icmp (pc1 := 41) (c := .ge) rfl (fun hc => ?_) (fun hc => ?_)
  · replace h := h.1 hc
    exact wp_RV rfl rfl h
  · replace h := h.2 (Int32.not_le.mp hc)
    refine wp_N (j' := 20) (pc' := 17) (L' := [.ref k, .ref o, .int a2]) (S' := [.ref o]) (M' := (hs t, F, G)) 0 (fun _ => rfl) ?_
    refine wp_getR (r := (o + 1)) rfl ho.1 rfl rfl rfl (hs_lt ho.2.1) (by decide) ?_
    refine wp_N (j' := 20) (pc' := 21) (L' := [.ref k, .ref o, .int a2]) (S' := [.int a2, .ref (o + 1)]) (M' := (hs t, F, G)) 0 (fun _ => rfl) ?_
    obtain ⟨h1_, h⟩ := h
    refine wp_aal (b := (o + 2)) (m := (a2).toNatClampNeg) rfl ho.2.1 (hs_gk o) (hs_b8 ho.2.2.2) rfl h1_ ?_
    refine wp_N (j' := 20) (pc' := 24) (L' := [.ref k, .ref o, .int a2]) (S' := [.ref k, .int (0 : Int32), .ref ((o + 2) + (a2).toNatClampNeg)]) (M' := (hs t, F, G)) 1 (fun _ => rfl) ?_
    refine wp_getR (r := (k + 1)) rfl hk.1 rfl rfl rfl (hs_lt hk.2.1) (by decide) ?_
    refine wp_N (j' := 20) (pc' := 28) (L' := [.ref k, .ref o, .int a2]) (S' := [.int a2, .ref (k + 1), .int (0 : Int32), .ref ((o + 2) + (a2).toNatClampNeg)]) (M' := (hs t, F, G)) 0 (fun _ => rfl) ?_
    obtain ⟨h2_, h⟩ := h
    refine wp_aal (b := (k + 2)) (m := (a2).toNatClampNeg) rfl hk.2.1 (hs_gk k) (hs_b8 hk.2.2.2) rfl h2_ ?_
    refine wp_N (j' := 20) (pc' := 32) (L' := [.ref k, .ref o, .int a2]) (S' := [.int (25 : Int32), .int (0 : Int32), .ref ((k + 2) + (a2).toNatClampNeg), .int (0 : Int32), .ref ((o + 2) + (a2).toNatClampNeg)]) (M' := (hs t, F, G)) 1 (fun _ => rfl) ?_
    refine wp_cpy (sp' := 0) (dp' := 0) (n' := 25) rfl (ho.2.2.1 _ (vp_lt h1_)) (hk.2.2.1 _ (vp_lt h2_)) (by decide) (by decide) rfl rfl rfl (by decide) (by decide) ?_
    refine wp_N (j' := 20) (pc' := 10) (L' := [.ref k, .ref o, .int (a2 + (1 : Int32))]) (S' := []) (M' := (hs t, (ip_ur F ((k + 2) + (a2).toNatClampNeg) (va_cpy (F ((o + 2) + (a2).toNatClampNeg)) (F ((k + 2) + (a2).toNatClampNeg)) 0 0 25)), G)) 1 (fun _ => rfl) ?_
    exact h
theorem rg22_0 {t : Nat} {F : ip_F} {G : ip_G} {Q : Option Value → ip_M → Prop} {a2 : Nat} {a1 : Int32} (ha2 : (hs t)[a2]? = some (1, 0, [6])) (h : wp 22 12 [.ref 89, .int a1, .ref a2, .int (0 : Int32), .float 0] [] (hs t, (ip_u F 89 5 (if (6 : Int32) < a1 then (6 : Int32) else a1)), G) Q) : wp 22 0 [.ref 89, .int a1, .ref a2, .float 0, .float 0] [] (hs t, F, G) Q := by
  refine wp_N (j' := 22) (pc' := 7) (L' := [.ref 89, .int a1, .ref a2, .float 0, .float 0]) (S' := [.int (if (6 : Int32) < a1 then (6 : Int32) else a1), .ref 89]) (M' := (hs t, F, G)) 3 (fun _ => rfl) ?_
  refine wp_putI rfl rfl rfl rfl rfl rfl (by decide) ?_
  refine wp_N (j' := 22) (pc' := 12) (L' := [.ref 89, .int a1, .ref a2, .int (0 : Int32), .float 0]) (S' := []) (M' := (hs t, (ip_u F 89 5 (if (6 : Int32) < a1 then (6 : Int32) else a1)), G)) 1 (fun _ => rfl) ?_
  exact h
theorem rg22_12 {t : Nat} {F : ip_F} {G : ip_G} {Q : Option Value → ip_M → Prop} {a2 : Nat} {a1 a3 : Int32} {v4 : Value} (ha2 : (hs t)[a2]? = some (1, 0, [6])) (h : ((F 89 5) ≤ a3 → wp 28 0 [.ref 89, .ref (91 + 0), .float 0, .float 0] [] (hs t, F, G) (fun v M' => wp 22 61 [.ref 89, .int a1, .ref a2, .int a3, v4] (v.toList ++ [.int (0 : Int32), .ref 116]) M' Q)) ∧ (a3 < (F 89 5) → (vp_in a3 6) ∧ ((vp_in a3 6) ∧ (wp 22 12 [.ref 89, .int a1, .ref a2, .int (a3 + (1 : Int32)), v4] [] (hs t, (ip_u (ip_u F (91 + 0) (a3).toNatClampNeg (a3 + (1 : Int32))) 118 (a3).toNatClampNeg (a3 + (1 : Int32))), G) Q)))) : wp 22 12 [.ref 89, .int a1, .ref a2, .int a3, v4] [] (hs t, F, G) Q := by
  refine wp_N (j' := 22) (pc' := 17) (L' := [.ref 89, .int a1, .ref a2, .int a3, v4]) (S' := [.int (F 89 5), .int a3]) (M' := (hs t, F, G)) 2 (fun _ => rfl) ?_
  refine wp_icmp (pc1 := 46) (c := .ge) rfl (fun hc => ?_) (fun hc => ?_)
  · replace h := h.1 hc
    refine wp_N (j' := 22) (pc' := 57) (L' := [.ref 89, .int a1, .ref a2, .int a3, v4]) (S' := [.int (0 : Int32), .ref 90, .ref 89, .int (0 : Int32), .ref 116]) (M' := (hs t, F, G)) 6 (fun _ => rfl) ?_
    refine wp_aal (b := 91) (m := 0) rfl rfl hs_g91 (by decide) rfl (vp_d rfl) ?_
    refine wp_C (i := 28) (pc' := 61) (Li := [.ref 89, .ref (91 + 0), .float 0, .float 0]) (rest := [.int (0 : Int32), .ref 116]) (fun _ => rfl) h
  · replace h := h.2 (Int32.not_le.mp hc)
    refine wp_N (j' := 22) (pc' := 25) (L' := [.ref 89, .int a1, .ref a2, .int a3, v4]) (S' := [.int (0 : Int32), .ref 90]) (M' := (hs t, F, G)) 2 (fun _ => rfl) ?_
    refine wp_aal (b := 91) (m := 0) rfl rfl hs_g91 (by decide) rfl (vp_d rfl) ?_
    refine wp_N (j' := 22) (pc' := 30) (L' := [.ref 89, .int a1, .ref a2, .int a3, v4]) (S' := [.int (a3 + (1 : Int32)), .int a3, .ref (91 + 0)]) (M' := (hs t, F, G)) 3 (fun _ => rfl) ?_
    obtain ⟨h1_, h⟩ := h
    refine wp_ias (m := (a3).toNatClampNeg) rfl (hs_r91 t _ (vp_lt (show vp_in (0 : Int32) 12 from vp_d rfl))) rfl h1_ ?_
    refine wp_N (j' := 22) (pc' := 39) (L' := [.ref 89, .int a1, .ref a2, .int a3, v4]) (S' := [.int (a3 + (1 : Int32)), .int a3, .ref 118]) (M' := (hs t, (ip_u F (91 + 0) (a3).toNatClampNeg (a3 + (1 : Int32))), G)) 5 (fun _ => rfl) ?_
    obtain ⟨h2_, h⟩ := h
    refine wp_ias (m := (a3).toNatClampNeg) rfl rfl rfl h2_ ?_
    refine wp_N (j' := 22) (pc' := 12) (L' := [.ref 89, .int a1, .ref a2, .int (a3 + (1 : Int32)), v4]) (S' := []) (M' := (hs t, (ip_u (ip_u F (91 + 0) (a3).toNatClampNeg (a3 + (1 : Int32))) 118 (a3).toNatClampNeg (a3 + (1 : Int32))), G)) 1 (fun _ => rfl) ?_
    exact h
theorem rg22_61 {t : Nat} {F : ip_F} {G : ip_G} {Q : Option Value → ip_M → Prop} {a2 : Nat} {a1 a3 as1 as2 : Int32} {v4 : Value} (ha2 : (hs t)[a2]? = some (1, 0, [6])) (h : (vp_in as1 12) ∧ (wp 22 64 [.ref 89, .int a1, .ref a2, .int (1 : Int32), v4] [] (hs t, (ip_u F 116 (as1).toNatClampNeg as2), G) Q)) : wp 22 61 [.ref 89, .int a1, .ref a2, .int a3, v4] [.int as2, .int as1, .ref 116] (hs t, F, G) Q := by
  obtain ⟨h1_, h⟩ := h
  refine wp_ias (m := (as1).toNatClampNeg) rfl rfl rfl h1_ ?_
  refine wp_N (j' := 22) (pc' := 64) (L' := [.ref 89, .int a1, .ref a2, .int (1 : Int32), v4]) (S' := []) (M' := (hs t, (ip_u F 116 (as1).toNatClampNeg as2), G)) 1 (fun _ => rfl) ?_
  exact h
theorem rg22_64 {t : Nat} {F : ip_F} {G : ip_G} {Q : Option Value → ip_M → Prop} {a2 : Nat} {a1 a3 : Int32} {v4 : Value} (ha2 : (hs t)[a2]? = some (1, 0, [6])) (h : ((12 : Int32) ≤ a3 → Q none (hs t, F, G)) ∧ (a3 < (12 : Int32) → (vp_in (a3 - (1 : Int32)) 12) ∧ ((vp_in a3 12) ∧ ((vp_in a3 12) ∧ (((6 : Int32) ≤ ((a3 - (1 : Int32)) - (a3 - (1 : Int32)) / (6 : Int32) * (6 : Int32)) → wp 22 121 [.ref 89, .int a1, .ref a2, .int a3, .int ((a3 - (1 : Int32)) - (a3 - (1 : Int32)) / (6 : Int32) * (6 : Int32))] [.int (0 : Int32), .ref (91 + (a3).toNatClampNeg), .ref 89] (hs t, (ip_ur F (91 + (a3).toNatClampNeg) (va_cpy (F (91 + ((a3 - (1 : Int32))).toNatClampNeg)) (F (91 + (a3).toNatClampNeg)) 0 0 6)), G) Q) ∧ (((a3 - (1 : Int32)) - (a3 - (1 : Int32)) / (6 : Int32) * (6 : Int32)) < (6 : Int32) → (vp_in ((a3 - (1 : Int32)) - (a3 - (1 : Int32)) / (6 : Int32) * (6 : Int32)) 6) ∧ (wp 22 121 [.ref 89, .int a1, .ref a2, .int a3, .int ((a3 - (1 : Int32)) - (a3 - (1 : Int32)) / (6 : Int32) * (6 : Int32))] [.int ((ip_ur F (91 + (a3).toNatClampNeg) (va_cpy (F (91 + ((a3 - (1 : Int32))).toNatClampNeg)) (F (91 + (a3).toNatClampNeg)) 0 0 6)) a2 (((a3 - (1 : Int32)) - (a3 - (1 : Int32)) / (6 : Int32) * (6 : Int32))).toNatClampNeg), .ref (91 + (a3).toNatClampNeg), .ref 89] (hs t, (ip_ur F (91 + (a3).toNatClampNeg) (va_cpy (F (91 + ((a3 - (1 : Int32))).toNatClampNeg)) (F (91 + (a3).toNatClampNeg)) 0 0 6)), G) Q))))))) : wp 22 64 [.ref 89, .int a1, .ref a2, .int a3, v4] [] (hs t, F, G) Q := by
  refine wp_N (j' := 22) (pc' := 67) (L' := [.ref 89, .int a1, .ref a2, .int a3, v4]) (S' := [.int (12 : Int32), .int a3]) (M' := (hs t, F, G)) 1 (fun _ => rfl) ?_
  refine wp_icmp (pc1 := 146) (c := .ge) rfl (fun hc => ?_) (fun hc => ?_)
  · replace h := h.1 hc
    exact wp_RV rfl rfl h
  · replace h := h.2 (Int32.not_le.mp hc)
    refine wp_N (j' := 22) (pc' := 77) (L' := [.ref 89, .int a1, .ref a2, .int a3, v4]) (S' := [.int (a3 - (1 : Int32)), .ref 90]) (M' := (hs t, F, G)) 4 (fun _ => rfl) ?_
    obtain ⟨h1_, h⟩ := h
    refine wp_aal (b := 91) (m := ((a3 - (1 : Int32))).toNatClampNeg) rfl rfl hs_g91 (by decide) rfl h1_ ?_
    refine wp_N (j' := 22) (pc' := 84) (L' := [.ref 89, .int a1, .ref a2, .int a3, v4]) (S' := [.int a3, .ref 90, .int (0 : Int32), .ref (91 + ((a3 - (1 : Int32))).toNatClampNeg)]) (M' := (hs t, F, G)) 3 (fun _ => rfl) ?_
    obtain ⟨h2_, h⟩ := h
    refine wp_aal (b := 91) (m := (a3).toNatClampNeg) rfl rfl hs_g91 (by decide) rfl h2_ ?_
    refine wp_N (j' := 22) (pc' := 88) (L' := [.ref 89, .int a1, .ref a2, .int a3, v4]) (S' := [.int (6 : Int32), .int (0 : Int32), .ref (91 + (a3).toNatClampNeg), .int (0 : Int32), .ref (91 + ((a3 - (1 : Int32))).toNatClampNeg)]) (M' := (hs t, F, G)) 1 (fun _ => rfl) ?_
    refine wp_cpy (sp' := 0) (dp' := 0) (n' := 6) rfl (hs_r91 t _ (vp_lt h1_)) (hs_r91 t _ (vp_lt h2_)) (by decide) (by decide) rfl rfl rfl (by decide) (by decide) ?_
    refine wp_N (j' := 22) (pc' := 96) (L' := [.ref 89, .int a1, .ref a2, .int a3, v4]) (S' := [.int (6 : Int32), .int (a3 - (1 : Int32))]) (M' := (hs t, (ip_ur F (91 + (a3).toNatClampNeg) (va_cpy (F (91 + ((a3 - (1 : Int32))).toNatClampNeg)) (F (91 + (a3).toNatClampNeg)) 0 0 6)), G)) 3 (fun _ => rfl) ?_
    refine wp_irem rfl (by decide) ?_
    refine wp_N (j' := 22) (pc' := 105) (L' := [.ref 89, .int a1, .ref a2, .int a3, .int ((a3 - (1 : Int32)) - (a3 - (1 : Int32)) / (6 : Int32) * (6 : Int32))]) (S' := [.int a3, .ref 90, .ref 89]) (M' := (hs t, (ip_ur F (91 + (a3).toNatClampNeg) (va_cpy (F (91 + ((a3 - (1 : Int32))).toNatClampNeg)) (F (91 + (a3).toNatClampNeg)) 0 0 6)), G)) 4 (fun _ => rfl) ?_
    obtain ⟨h3_, h⟩ := h
    refine wp_aal (b := 91) (m := (a3).toNatClampNeg) rfl rfl hs_g91 (by decide) rfl h3_ ?_
    refine wp_N (j' := 22) (pc' := 109) (L' := [.ref 89, .int a1, .ref a2, .int a3, .int ((a3 - (1 : Int32)) - (a3 - (1 : Int32)) / (6 : Int32) * (6 : Int32))]) (S' := [.ref a2, .int ((a3 - (1 : Int32)) - (a3 - (1 : Int32)) / (6 : Int32) * (6 : Int32)), .ref (91 + (a3).toNatClampNeg), .ref 89]) (M' := (hs t, (ip_ur F (91 + (a3).toNatClampNeg) (va_cpy (F (91 + ((a3 - (1 : Int32))).toNatClampNeg)) (F (91 + (a3).toNatClampNeg)) 0 0 6)), G)) 1 (fun _ => rfl) ?_
    refine wp_len rfl ha2 (by decide) ?_
    refine wp_icmp (pc1 := 120) (c := .ge) rfl (fun hc => ?_) (fun hc => ?_)
    · replace h := h.1 hc
      refine wp_N (j' := 22) (pc' := 121) (L' := [.ref 89, .int a1, .ref a2, .int a3, .int ((a3 - (1 : Int32)) - (a3 - (1 : Int32)) / (6 : Int32) * (6 : Int32))]) (S' := [.int (0 : Int32), .ref (91 + (a3).toNatClampNeg), .ref 89]) (M' := (hs t, (ip_ur F (91 + (a3).toNatClampNeg) (va_cpy (F (91 + ((a3 - (1 : Int32))).toNatClampNeg)) (F (91 + (a3).toNatClampNeg)) 0 0 6)), G)) 0 (fun _ => rfl) ?_
      exact h
    · replace h := h.2 (Int32.not_le.mp hc)
      refine wp_N (j' := 22) (pc' := 116) (L' := [.ref 89, .int a1, .ref a2, .int a3, .int ((a3 - (1 : Int32)) - (a3 - (1 : Int32)) / (6 : Int32) * (6 : Int32))]) (S' := [.int ((a3 - (1 : Int32)) - (a3 - (1 : Int32)) / (6 : Int32) * (6 : Int32)), .ref a2, .ref (91 + (a3).toNatClampNeg), .ref 89]) (M' := (hs t, (ip_ur F (91 + (a3).toNatClampNeg) (va_cpy (F (91 + ((a3 - (1 : Int32))).toNatClampNeg)) (F (91 + (a3).toNatClampNeg)) 0 0 6)), G)) 1 (fun _ => rfl) ?_
      obtain ⟨h4_, h⟩ := h
      refine wp_ial (m := (((a3 - (1 : Int32)) - (a3 - (1 : Int32)) / (6 : Int32) * (6 : Int32))).toNatClampNeg) rfl ha2 rfl h4_ ?_
      refine wp_N (j' := 22) (pc' := 121) (L' := [.ref 89, .int a1, .ref a2, .int a3, .int ((a3 - (1 : Int32)) - (a3 - (1 : Int32)) / (6 : Int32) * (6 : Int32))]) (S' := [.int ((ip_ur F (91 + (a3).toNatClampNeg) (va_cpy (F (91 + ((a3 - (1 : Int32))).toNatClampNeg)) (F (91 + (a3).toNatClampNeg)) 0 0 6)) a2 (((a3 - (1 : Int32)) - (a3 - (1 : Int32)) / (6 : Int32) * (6 : Int32))).toNatClampNeg), .ref (91 + (a3).toNatClampNeg), .ref 89]) (M' := (hs t, (ip_ur F (91 + (a3).toNatClampNeg) (va_cpy (F (91 + ((a3 - (1 : Int32))).toNatClampNeg)) (F (91 + (a3).toNatClampNeg)) 0 0 6)), G)) 0 (fun _ => rfl) ?_
      exact h
theorem rg22_121 {t : Nat} {F : ip_F} {G : ip_G} {Q : Option Value → ip_M → Prop} {a2 : Nat} {qs1 : Nat} {a1 a3 a4 as2 : Int32} (ha2 : (hs t)[a2]? = some (1, 0, [6])) (hqs1 : (hs t)[qs1]? = some (1, 0, [6])) (h : wp 23 0 [.ref 89, .ref qs1, .int as2, .float 0, .float 0, .float 0, .float 0] [] (hs t, F, G) (fun v M' => wp 22 124 [.ref 89, .int a1, .ref a2, .int a3, .int a4] (v.toList ++ []) M' Q)) : wp 22 121 [.ref 89, .int a1, .ref a2, .int a3, .int a4] [.int as2, .ref qs1, .ref 89] (hs t, F, G) Q := by
  refine wp_C (i := 23) (pc' := 124) (Li := [.ref 89, .ref qs1, .int as2, .float 0, .float 0, .float 0, .float 0]) (rest := []) (fun _ => rfl) h
theorem rg22_124 {t : Nat} {F : ip_F} {G : ip_G} {Q : Option Value → ip_M → Prop} {a2 : Nat} {a1 a3 a4 : Int32} (ha2 : (hs t)[a2]? = some (1, 0, [6])) (h : (vp_in a3 12) ∧ (wp 28 0 [.ref 89, .ref (91 + (a3).toNatClampNeg), .float 0, .float 0] [] (hs t, F, G) (fun v M' => wp 22 139 [.ref 89, .int a1, .ref a2, .int a3, .int a4] (v.toList ++ [.int a3, .ref 116]) M' Q))) : wp 22 124 [.ref 89, .int a1, .ref a2, .int a3, .int a4] [] (hs t, F, G) Q := by
  refine wp_N (j' := 22) (pc' := 135) (L' := [.ref 89, .int a1, .ref a2, .int a3, .int a4]) (S' := [.int a3, .ref 90, .ref 89, .int a3, .ref 116]) (M' := (hs t, F, G)) 6 (fun _ => rfl) ?_
  obtain ⟨h1_, h⟩ := h
  refine wp_aal (b := 91) (m := (a3).toNatClampNeg) rfl rfl hs_g91 (by decide) rfl h1_ ?_
  refine wp_C (i := 28) (pc' := 139) (Li := [.ref 89, .ref (91 + (a3).toNatClampNeg), .float 0, .float 0]) (rest := [.int a3, .ref 116]) (fun _ => rfl) h
theorem rg22_139 {t : Nat} {F : ip_F} {G : ip_G} {Q : Option Value → ip_M → Prop} {a2 : Nat} {a1 a3 a4 as1 as2 : Int32} (ha2 : (hs t)[a2]? = some (1, 0, [6])) (h : (vp_in as1 12) ∧ (wp 22 64 [.ref 89, .int a1, .ref a2, .int (a3 + (1 : Int32)), .int a4] [] (hs t, (ip_u F 116 (as1).toNatClampNeg as2), G) Q)) : wp 22 139 [.ref 89, .int a1, .ref a2, .int a3, .int a4] [.int as2, .int as1, .ref 116] (hs t, F, G) Q := by
  obtain ⟨h1_, h⟩ := h
  refine wp_ias (m := (as1).toNatClampNeg) rfl rfl rfl h1_ ?_
  refine wp_N (j' := 22) (pc' := 64) (L' := [.ref 89, .int a1, .ref a2, .int (a3 + (1 : Int32)), .int a4]) (S' := []) (M' := (hs t, (ip_u F 116 (as1).toNatClampNeg as2), G)) 1 (fun _ => rfl) ?_
  exact h
theorem rg23_0 {t : Nat} {F : ip_F} {G : ip_G} {Q : Option Value → ip_M → Prop} {a1 : Nat} {a2 : Int32} (ha1 : (hs t)[a1]? = some (1, 0, [6])) (h : (¬ a2 = (2 : Int32) → wp 23 10 [.ref 89, .ref a1, .int a2, .float 0, .float 0, .float 0, .float 0] [.int (0 : Int32)] (hs t, F, G) Q) ∧ (a2 = (2 : Int32) → wp 23 10 [.ref 89, .ref a1, .int a2, .float 0, .float 0, .float 0, .float 0] [.int (1 : Int32)] (hs t, F, G) Q)) : wp 23 0 [.ref 89, .ref a1, .int a2, .float 0, .float 0, .float 0, .float 0] [] (hs t, F, G) Q := by
  refine wp_N (j' := 23) (pc' := 2) (L' := [.ref 89, .ref a1, .int a2, .float 0, .float 0, .float 0, .float 0]) (S' := [.int (2 : Int32), .int a2]) (M' := (hs t, F, G)) 1 (fun _ => rfl) ?_
  refine wp_icmp (pc1 := 9) (c := .ne) rfl (fun hc => ?_) (fun hc => ?_)
  · replace h := h.1 hc
    refine wp_N (j' := 23) (pc' := 10) (L' := [.ref 89, .ref a1, .int a2, .float 0, .float 0, .float 0, .float 0]) (S' := [.int (0 : Int32)]) (M' := (hs t, F, G)) 0 (fun _ => rfl) ?_
    exact h
  · replace h := h.2 (Decidable.not_not.mp hc)
    refine wp_N (j' := 23) (pc' := 10) (L' := [.ref 89, .ref a1, .int a2, .float 0, .float 0, .float 0, .float 0]) (S' := [.int (1 : Int32)]) (M' := (hs t, F, G)) 1 (fun _ => rfl) ?_
    exact h
theorem rg23_10 {t : Nat} {F : ip_F} {G : ip_G} {Q : Option Value → ip_M → Prop} {a1 : Nat} {a2 as0 : Int32} {v3 v4 v5 v6 : Value} (ha1 : (hs t)[a1]? = some (1, 0, [6])) (h : (¬ a2 = (0 : Int32) → (¬ a2 = (3 : Int32) → wp 23 32 [.ref 89, .ref a1, .int a2, .int as0, v4, v5, v6] [.int (F 89 5)] (hs t, F, G) Q) ∧ (a2 = (3 : Int32) → wp 23 32 [.ref 89, .ref a1, .int a2, .int as0, v4, v5, v6] [.int (2 : Int32)] (hs t, F, G) Q)) ∧ (a2 = (0 : Int32) → wp 23 32 [.ref 89, .ref a1, .int a2, .int as0, v4, v5, v6] [.int (0 : Int32)] (hs t, F, G) Q)) : wp 23 10 [.ref 89, .ref a1, .int a2, v3, v4, v5, v6] [.int as0] (hs t, F, G) Q := by
  refine wp_N (j' := 23) (pc' := 12) (L' := [.ref 89, .ref a1, .int a2, .int as0, v4, v5, v6]) (S' := [.int a2]) (M' := (hs t, F, G)) 1 (fun _ => rfl) ?_
  refine wp_ifc (pc1 := 19) (c := .ne) rfl (fun hc => ?_) (fun hc => ?_)
  · replace h := h.1 hc
    refine wp_N (j' := 23) (pc' := 21) (L' := [.ref 89, .ref a1, .int a2, .int as0, v4, v5, v6]) (S' := [.int (3 : Int32), .int a2]) (M' := (hs t, F, G)) 1 (fun _ => rfl) ?_
    refine wp_icmp (pc1 := 28) (c := .ne) rfl (fun hc => ?_) (fun hc => ?_)
    · replace h := h.1 hc
      refine wp_N (j' := 23) (pc' := 32) (L' := [.ref 89, .ref a1, .int a2, .int as0, v4, v5, v6]) (S' := [.int (F 89 5)]) (M' := (hs t, F, G)) 1 (fun _ => rfl) ?_
      exact h
    · replace h := h.2 (Decidable.not_not.mp hc)
      refine wp_N (j' := 23) (pc' := 32) (L' := [.ref 89, .ref a1, .int a2, .int as0, v4, v5, v6]) (S' := [.int (2 : Int32)]) (M' := (hs t, F, G)) 1 (fun _ => rfl) ?_
      exact h
  · replace h := h.2 (Decidable.not_not.mp hc)
    refine wp_N (j' := 23) (pc' := 32) (L' := [.ref 89, .ref a1, .int a2, .int as0, v4, v5, v6]) (S' := [.int (0 : Int32)]) (M' := (hs t, F, G)) 1 (fun _ => rfl) ?_
    exact h
theorem rg23_32 {t : Nat} {F : ip_F} {G : ip_G} {Q : Option Value → ip_M → Prop} {a1 : Nat} {a2 a3 as0 : Int32} {v4 v5 v6 : Value} (ha1 : (hs t)[a1]? = some (1, 0, [6])) (h : wp 23 37 [.ref 89, .ref a1, .int a2, .int a3, .int as0, .int a3, v6] [] (hs t, F, G) Q) : wp 23 32 [.ref 89, .ref a1, .int a2, .int a3, v4, v5, v6] [.int as0] (hs t, F, G) Q := by
  refine wp_N (j' := 23) (pc' := 37) (L' := [.ref 89, .ref a1, .int a2, .int a3, .int as0, .int a3, v6]) (S' := []) (M' := (hs t, F, G)) 2 (fun _ => rfl) ?_
  exact h
theorem rg23_37 {t : Nat} {F : ip_F} {G : ip_G} {Q : Option Value → ip_M → Prop} {a1 : Nat} {a2 a3 a4 a5 : Int32} {v6 : Value} (ha1 : (hs t)[a1]? = some (1, 0, [6])) (h : (a4 ≤ (a5 + (1 : Int32)) → Q none (hs t, F, G)) ∧ ((a5 + (1 : Int32)) < a4 → ((6 : Int32) ≤ (a5 + (1 : Int32)) → Q none (hs t, F, G)) ∧ ((a5 + (1 : Int32)) < (6 : Int32) → (vp_in a5 6) ∧ ((vp_in (a5 + (1 : Int32)) 6) ∧ ((vp_in a5 6) ∧ ((vp_in (a5 + (1 : Int32)) 6) ∧ (wp 23 37 [.ref 89, .ref a1, .int a2, .int a3, .int a4, .int (a5 + (2 : Int32)), .int (F a1 (a5).toNatClampNeg)] [] (hs t, (ip_u (ip_u F a1 (a5).toNatClampNeg (F a1 ((a5 + (1 : Int32))).toNatClampNeg)) a1 ((a5 + (1 : Int32))).toNatClampNeg (F a1 (a5).toNatClampNeg)), G) Q))))))) : wp 23 37 [.ref 89, .ref a1, .int a2, .int a3, .int a4, .int a5, v6] [] (hs t, F, G) Q := by
  refine wp_N (j' := 23) (pc' := 43) (L' := [.ref 89, .ref a1, .int a2, .int a3, .int a4, .int a5, v6]) (S' := [.int a4, .int (a5 + (1 : Int32))]) (M' := (hs t, F, G)) 3 (fun _ => rfl) ?_
  refine wp_icmp (pc1 := 85) (c := .ge) rfl (fun hc => ?_) (fun hc => ?_)
  · replace h := h.1 hc
    exact wp_RV rfl rfl h
  · replace h := h.2 (Int32.not_le.mp hc)
    refine wp_N (j' := 23) (pc' := 51) (L' := [.ref 89, .ref a1, .int a2, .int a3, .int a4, .int a5, v6]) (S' := [.ref a1, .int (a5 + (1 : Int32))]) (M' := (hs t, F, G)) 3 (fun _ => rfl) ?_
    refine wp_len rfl ha1 (by decide) ?_
    refine wp_icmp (pc1 := 85) (c := .ge) rfl (fun hc => ?_) (fun hc => ?_)
    · replace h := h.1 hc
      exact wp_RV rfl rfl h
    · replace h := h.2 (Int32.not_le.mp hc)
      refine wp_N (j' := 23) (pc' := 58) (L' := [.ref 89, .ref a1, .int a2, .int a3, .int a4, .int a5, v6]) (S' := [.int a5, .ref a1]) (M' := (hs t, F, G)) 1 (fun _ => rfl) ?_
      obtain ⟨h1_, h⟩ := h
      refine wp_ial (m := (a5).toNatClampNeg) rfl ha1 rfl h1_ ?_
      refine wp_N (j' := 23) (pc' := 69) (L' := [.ref 89, .ref a1, .int a2, .int a3, .int a4, .int a5, .int (F a1 (a5).toNatClampNeg)]) (S' := [.int (a5 + (1 : Int32)), .ref a1, .int a5, .ref a1]) (M' := (hs t, F, G)) 6 (fun _ => rfl) ?_
      obtain ⟨h2_, h⟩ := h
      refine wp_ial (m := ((a5 + (1 : Int32))).toNatClampNeg) rfl ha1 rfl h2_ ?_
      obtain ⟨h3_, h⟩ := h
      refine wp_ias (m := (a5).toNatClampNeg) rfl ha1 rfl h3_ ?_
      refine wp_N (j' := 23) (pc' := 78) (L' := [.ref 89, .ref a1, .int a2, .int a3, .int a4, .int a5, .int (F a1 (a5).toNatClampNeg)]) (S' := [.int (F a1 (a5).toNatClampNeg), .int (a5 + (1 : Int32)), .ref a1]) (M' := (hs t, (ip_u F a1 (a5).toNatClampNeg (F a1 ((a5 + (1 : Int32))).toNatClampNeg)), G)) 4 (fun _ => rfl) ?_
      obtain ⟨h4_, h⟩ := h
      refine wp_ias (m := ((a5 + (1 : Int32))).toNatClampNeg) rfl ha1 rfl h4_ ?_
      refine wp_N (j' := 23) (pc' := 37) (L' := [.ref 89, .ref a1, .int a2, .int a3, .int a4, .int (a5 + (2 : Int32)), .int (F a1 (a5).toNatClampNeg)]) (S' := []) (M' := (hs t, (ip_u (ip_u F a1 (a5).toNatClampNeg (F a1 ((a5 + (1 : Int32))).toNatClampNeg)) a1 ((a5 + (1 : Int32))).toNatClampNeg (F a1 (a5).toNatClampNeg)), G)) 1 (fun _ => rfl) ?_
      exact h
theorem rg24_0 {t : Nat} {F : ip_F} {G : ip_G} {Q : Option Value → ip_M → Prop} {a1 a2 a3 : Int32} (h : wp 129 0 [.int a1, .int (0 : Int32), .int (5 : Int32)] [] (hs t, F, G) (fun v M' => wp 24 6 [.ref 89, .int a1, .int a2, .int a3] (v.toList ++ []) M' Q)) : wp 24 0 [.ref 89, .int a1, .int a2, .int a3] [] (hs t, F, G) Q := by
  refine wp_N (j' := 24) (pc' := 3) (L' := [.ref 89, .int a1, .int a2, .int a3]) (S' := [.int (5 : Int32), .int (0 : Int32), .int a1]) (M' := (hs t, F, G)) 2 (fun _ => rfl) ?_
  refine wp_C (i := 129) (pc' := 6) (Li := [.int a1, .int (0 : Int32), .int (5 : Int32)]) (rest := []) (fun _ => rfl) h
theorem rg24_6 {t : Nat} {F : ip_F} {G : ip_G} {Q : Option Value → ip_M → Prop} {a1 a2 a3 as0 : Int32} (h : (as0 = (0 : Int32) → Q none (hs t, F, G)) ∧ (¬ as0 = (0 : Int32) → wp 129 0 [.int a2, .int (0 : Int32), .int (5 : Int32)] [] (hs t, F, G) (fun v M' => wp 24 15 [.ref 89, .int a1, .int a2, .int a3] (v.toList ++ []) M' Q))) : wp 24 6 [.ref 89, .int a1, .int a2, .int a3] [.int as0] (hs t, F, G) Q := by
  refine wp_ifc (pc1 := 60) (c := .eq) rfl (fun hc => ?_) (fun hc => ?_)
  · replace h := h.1 hc
    exact wp_RV rfl rfl h
  · replace h := h.2 hc
    refine wp_N (j' := 24) (pc' := 12) (L' := [.ref 89, .int a1, .int a2, .int a3]) (S' := [.int (5 : Int32), .int (0 : Int32), .int a2]) (M' := (hs t, F, G)) 2 (fun _ => rfl) ?_
    refine wp_C (i := 129) (pc' := 15) (Li := [.int a2, .int (0 : Int32), .int (5 : Int32)]) (rest := []) (fun _ => rfl) h
theorem rg24_15 {t : Nat} {F : ip_F} {G : ip_G} {Q : Option Value → ip_M → Prop} {a1 a2 a3 as0 : Int32} (h : (as0 = (0 : Int32) → Q none (hs t, F, G)) ∧ (¬ as0 = (0 : Int32) → ((a3 &&& (1 : Int32)) = (0 : Int32) → wp 24 38 [.ref 89, .int a1, .int a2, .int a3] [.int (a1 + (1 : Int32)), .int a1, .ref 118] (hs t, F, G) Q) ∧ (¬ (a3 &&& (1 : Int32)) = (0 : Int32) → wp 24 38 [.ref 89, .int a1, .int a2, .int a3] [.int (a2 + (1 : Int32)), .int a1, .ref 118] (hs t, F, G) Q))) : wp 24 15 [.ref 89, .int a1, .int a2, .int a3] [.int as0] (hs t, F, G) Q := by
  refine wp_ifc (pc1 := 60) (c := .eq) rfl (fun hc => ?_) (fun hc => ?_)
  · replace h := h.1 hc
    exact wp_RV rfl rfl h
  · replace h := h.2 hc
    refine wp_N (j' := 24) (pc' := 26) (L' := [.ref 89, .int a1, .int a2, .int a3]) (S' := [.int (a3 &&& (1 : Int32)), .int a1, .ref 118]) (M' := (hs t, F, G)) 5 (fun _ => rfl) ?_
    refine wp_ifc (pc1 := 35) (c := .eq) rfl (fun hc => ?_) (fun hc => ?_)
    · replace h := h.1 hc
      refine wp_N (j' := 24) (pc' := 38) (L' := [.ref 89, .int a1, .int a2, .int a3]) (S' := [.int (a1 + (1 : Int32)), .int a1, .ref 118]) (M' := (hs t, F, G)) 2 (fun _ => rfl) ?_
      exact h
    · replace h := h.2 hc
      refine wp_N (j' := 24) (pc' := 38) (L' := [.ref 89, .int a1, .int a2, .int a3]) (S' := [.int (a2 + (1 : Int32)), .int a1, .ref 118]) (M' := (hs t, F, G)) 3 (fun _ => rfl) ?_
      exact h
theorem rg24_38 {t : Nat} {F : ip_F} {G : ip_G} {Q : Option Value → ip_M → Prop} {a1 a2 a3 as1 as2 : Int32} (h : (vp_in as1 6) ∧ (((a3 &&& (2 : Int32)) = (0 : Int32) → wp 24 59 [.ref 89, .int a1, .int a2, .int a3] [.int (a2 + (1 : Int32)), .int a2, .ref 118] (hs t, (ip_u F 118 (as1).toNatClampNeg as2), G) Q) ∧ (¬ (a3 &&& (2 : Int32)) = (0 : Int32) → wp 24 59 [.ref 89, .int a1, .int a2, .int a3] [.int (a1 + (1 : Int32)), .int a2, .ref 118] (hs t, (ip_u F 118 (as1).toNatClampNeg as2), G) Q))) : wp 24 38 [.ref 89, .int a1, .int a2, .int a3] [.int as2, .int as1, .ref 118] (hs t, F, G) Q := by
  obtain ⟨h1_, h⟩ := h
  refine wp_ias (m := (as1).toNatClampNeg) rfl rfl rfl h1_ ?_
  refine wp_N (j' := 24) (pc' := 47) (L' := [.ref 89, .int a1, .int a2, .int a3]) (S' := [.int (a3 &&& (2 : Int32)), .int a2, .ref 118]) (M' := (hs t, (ip_u F 118 (as1).toNatClampNeg as2), G)) 5 (fun _ => rfl) ?_
  refine wp_ifc (pc1 := 56) (c := .eq) rfl (fun hc => ?_) (fun hc => ?_)
  · replace h := h.1 hc
    refine wp_N (j' := 24) (pc' := 59) (L' := [.ref 89, .int a1, .int a2, .int a3]) (S' := [.int (a2 + (1 : Int32)), .int a2, .ref 118]) (M' := (hs t, (ip_u F 118 (as1).toNatClampNeg as2), G)) 2 (fun _ => rfl) ?_
    exact h
  · replace h := h.2 hc
    refine wp_N (j' := 24) (pc' := 59) (L' := [.ref 89, .int a1, .int a2, .int a3]) (S' := [.int (a1 + (1 : Int32)), .int a2, .ref 118]) (M' := (hs t, (ip_u F 118 (as1).toNatClampNeg as2), G)) 3 (fun _ => rfl) ?_
    exact h
theorem rg24_59 {t : Nat} {F : ip_F} {G : ip_G} {Q : Option Value → ip_M → Prop} {a1 a2 a3 as1 as2 : Int32} (h : (vp_in as1 6) ∧ (Q none (hs t, (ip_u F 118 (as1).toNatClampNeg as2), G))) : wp 24 59 [.ref 89, .int a1, .int a2, .int a3] [.int as2, .int as1, .ref 118] (hs t, F, G) Q := by
  obtain ⟨h1_, h⟩ := h
  refine wp_ias (m := (as1).toNatClampNeg) rfl rfl rfl h1_ ?_
  exact wp_RV rfl rfl h
theorem rg25_0 {t : Nat} {F : ip_F} {G : ip_G} {Q : Option Value → ip_M → Prop} {o : Nat} {a2 : Int32} (ho : ok7 t o) (h : wp 25 2 [.ref 89, .ref o, .int a2, .int (0 : Int32), .float 0] [] (hs t, F, G) Q) : wp 25 0 [.ref 89, .ref o, .int a2, .float 0, .float 0] [] (hs t, F, G) Q := by
  refine wp_N (j' := 25) (pc' := 2) (L' := [.ref 89, .ref o, .int a2, .int (0 : Int32), .float 0]) (S' := []) (M' := (hs t, F, G)) 1 (fun _ => rfl) ?_
  exact h
theorem rg25_2 {t : Nat} {F : ip_F} {G : ip_G} {Q : Option Value → ip_M → Prop} {o : Nat} {a2 a3 : Int32} {v4 : Value} (ho : ok7 t o) (h : ((12 : Int32) ≤ a3 → Q none (hs t, F, G)) ∧ (a3 < (12 : Int32) → (vp_in a3 12) ∧ ((vp_in a3 12) ∧ (wp 25 30 [.ref 89, .ref o, .int a2, .int a3, .int (0 : Int32)] [] (hs t, (ip_ur F (104 + (a3).toNatClampNeg) (va_cpy (F (91 + (a3).toNatClampNeg)) (F (104 + (a3).toNatClampNeg)) 0 0 6)), G) Q)))) : wp 25 2 [.ref 89, .ref o, .int a2, .int a3, v4] [] (hs t, F, G) Q := by
  refine wp_N (j' := 25) (pc' := 5) (L' := [.ref 89, .ref o, .int a2, .int a3, v4]) (S' := [.int (12 : Int32), .int a3]) (M' := (hs t, F, G)) 1 (fun _ => rfl) ?_
  refine wp_icmp (pc1 := 110) (c := .ge) rfl (fun hc => ?_) (fun hc => ?_)
  · replace h := h.1 hc
    exact wp_RV rfl rfl h
  · replace h := h.2 (Int32.not_le.mp hc)
    refine wp_N (j' := 25) (pc' := 13) (L' := [.ref 89, .ref o, .int a2, .int a3, v4]) (S' := [.int a3, .ref 90]) (M' := (hs t, F, G)) 2 (fun _ => rfl) ?_
    obtain ⟨h1_, h⟩ := h
    refine wp_aal (b := 91) (m := (a3).toNatClampNeg) rfl rfl hs_g91 (by decide) rfl h1_ ?_
    refine wp_N (j' := 25) (pc' := 20) (L' := [.ref 89, .ref o, .int a2, .int a3, v4]) (S' := [.int a3, .ref 103, .int (0 : Int32), .ref (91 + (a3).toNatClampNeg)]) (M' := (hs t, F, G)) 3 (fun _ => rfl) ?_
    obtain ⟨h2_, h⟩ := h
    refine wp_aal (b := 104) (m := (a3).toNatClampNeg) rfl rfl hs_g104 (by decide) rfl h2_ ?_
    refine wp_N (j' := 25) (pc' := 24) (L' := [.ref 89, .ref o, .int a2, .int a3, v4]) (S' := [.int (6 : Int32), .int (0 : Int32), .ref (104 + (a3).toNatClampNeg), .int (0 : Int32), .ref (91 + (a3).toNatClampNeg)]) (M' := (hs t, F, G)) 1 (fun _ => rfl) ?_
    refine wp_cpy (sp' := 0) (dp' := 0) (n' := 6) rfl (hs_r91 t _ (vp_lt h1_)) (hs_r104 t _ (vp_lt h2_)) (by decide) (by decide) rfl rfl rfl (by decide) (by decide) ?_
    refine wp_N (j' := 25) (pc' := 30) (L' := [.ref 89, .ref o, .int a2, .int a3, .int (0 : Int32)]) (S' := []) (M' := (hs t, (ip_ur F (104 + (a3).toNatClampNeg) (va_cpy (F (91 + (a3).toNatClampNeg)) (F (104 + (a3).toNatClampNeg)) 0 0 6)), G)) 1 (fun _ => rfl) ?_
    exact h
theorem rg25_30 {t : Nat} {F : ip_F} {G : ip_G} {Q : Option Value → ip_M → Prop} {o : Nat} {a2 a3 a4 : Int32} (ho : ok7 t o) (h : ((F 89 5) ≤ a4 → (vp_in a3 12) ∧ (wp 28 0 [.ref 89, .ref (104 + (a3).toNatClampNeg), .float 0, .float 0] [] (hs t, F, G) (fun v M' => wp 25 103 [.ref 89, .ref o, .int a2, .int a3, .int a4] (v.toList ++ [.int a3, .ref 117]) M' Q))) ∧ (a4 < (F 89 5) → (¬ ((a2 >>> (a4 &&& 31)) &&& (1 : Int32)) = (1 : Int32) → wp 25 82 [.ref 89, .ref o, .int a2, .int a3, .int a4] [] (hs t, F, G) Q) ∧ (((a2 >>> (a4 &&& 31)) &&& (1 : Int32)) = (1 : Int32) → wp 67 0 [.ref o, .int a4] [] (hs t, F, G) (fun v M' => wp 25 55 [.ref 89, .ref o, .int a2, .int a3, .int a4] (v.toList ++ []) M' Q)))) : wp 25 30 [.ref 89, .ref o, .int a2, .int a3, .int a4] [] (hs t, F, G) Q := by
  refine wp_N (j' := 25) (pc' := 36) (L' := [.ref 89, .ref o, .int a2, .int a3, .int a4]) (S' := [.int (F 89 5), .int a4]) (M' := (hs t, F, G)) 2 (fun _ => rfl) ?_
  refine wp_icmp (pc1 := 88) (c := .ge) rfl (fun hc => ?_) (fun hc => ?_)
  · replace h := h.1 hc
    refine wp_N (j' := 25) (pc' := 99) (L' := [.ref 89, .ref o, .int a2, .int a3, .int a4]) (S' := [.int a3, .ref 103, .ref 89, .int a3, .ref 117]) (M' := (hs t, F, G)) 6 (fun _ => rfl) ?_
    obtain ⟨h1_, h⟩ := h
    refine wp_aal (b := 104) (m := (a3).toNatClampNeg) rfl rfl hs_g104 (by decide) rfl h1_ ?_
    refine wp_C (i := 28) (pc' := 103) (Li := [.ref 89, .ref (104 + (a3).toNatClampNeg), .float 0, .float 0]) (rest := [.int a3, .ref 117]) (fun _ => rfl) h
  · replace h := h.2 (Int32.not_le.mp hc)
    refine wp_N (j' := 25) (pc' := 46) (L' := [.ref 89, .ref o, .int a2, .int a3, .int a4]) (S' := [.int (1 : Int32), .int ((a2 >>> (a4 &&& 31)) &&& (1 : Int32))]) (M' := (hs t, F, G)) 5 (fun _ => rfl) ?_
    refine wp_icmp (pc1 := 82) (c := .ne) rfl (fun hc => ?_) (fun hc => ?_)
    · replace h := h.1 hc
      exact h
    · replace h := h.2 (Decidable.not_not.mp hc)
      refine wp_N (j' := 25) (pc' := 52) (L' := [.ref 89, .ref o, .int a2, .int a3, .int a4]) (S' := [.int a4, .ref o]) (M' := (hs t, F, G)) 1 (fun _ => rfl) ?_
      refine wp_CV (as := [.int a4]) (S := []) rfl ho.1 rfl rfl rfl (Nat.le_of_ble_eq_true rfl) rfl ⟨rfl, rfl⟩ rfl h
theorem rg25_55 {t : Nat} {F : ip_F} {G : ip_G} {Q : Option Value → ip_M → Prop} {o : Nat} {a2 a3 a4 as0 : Int32} (ho : ok7 t o) (h : (¬ as0 = a3 → wp 25 82 [.ref 89, .ref o, .int a2, .int a3, .int a4] [] (hs t, F, G) Q) ∧ (as0 = a3 → (vp_in a3 12) ∧ ((vp_in a4 6) ∧ (wp 66 0 [.ref o, .int a4] [] (hs t, F, G) (fun v M' => wp 25 79 [.ref 89, .ref o, .int a2, .int a3, .int a4] (v.toList ++ [.int (F 118 (a4).toNatClampNeg), .ref (104 + (a3).toNatClampNeg), .ref 89]) M' Q))))) : wp 25 55 [.ref 89, .ref o, .int a2, .int a3, .int a4] [.int as0] (hs t, F, G) Q := by
  refine wp_N (j' := 25) (pc' := 56) (L' := [.ref 89, .ref o, .int a2, .int a3, .int a4]) (S' := [.int a3, .int as0]) (M' := (hs t, F, G)) 0 (fun _ => rfl) ?_
  refine wp_icmp (pc1 := 82) (c := .ne) rfl (fun hc => ?_) (fun hc => ?_)
  · replace h := h.1 hc
    exact h
  · replace h := h.2 (Decidable.not_not.mp hc)
    refine wp_N (j' := 25) (pc' := 65) (L' := [.ref 89, .ref o, .int a2, .int a3, .int a4]) (S' := [.int a3, .ref 103, .ref 89]) (M' := (hs t, F, G)) 3 (fun _ => rfl) ?_
    obtain ⟨h1_, h⟩ := h
    refine wp_aal (b := 104) (m := (a3).toNatClampNeg) rfl rfl hs_g104 (by decide) rfl h1_ ?_
    refine wp_N (j' := 25) (pc' := 72) (L' := [.ref 89, .ref o, .int a2, .int a3, .int a4]) (S' := [.int a4, .ref 118, .ref (104 + (a3).toNatClampNeg), .ref 89]) (M' := (hs t, F, G)) 2 (fun _ => rfl) ?_
    obtain ⟨h2_, h⟩ := h
    refine wp_ial (m := (a4).toNatClampNeg) rfl rfl rfl h2_ ?_
    refine wp_N (j' := 25) (pc' := 76) (L' := [.ref 89, .ref o, .int a2, .int a3, .int a4]) (S' := [.int a4, .ref o, .int (F 118 (a4).toNatClampNeg), .ref (104 + (a3).toNatClampNeg), .ref 89]) (M' := (hs t, F, G)) 1 (fun _ => rfl) ?_
    refine wp_CV (as := [.int a4]) (S := [.int (F 118 (a4).toNatClampNeg), .ref (104 + (a3).toNatClampNeg), .ref 89]) rfl ho.1 rfl rfl rfl (Nat.le_of_ble_eq_true rfl) rfl ⟨rfl, rfl⟩ rfl h
theorem rg25_79 {t : Nat} {F : ip_F} {G : ip_G} {Q : Option Value → ip_M → Prop} {o : Nat} {qs1 : Nat} {a2 a3 a4 as2 as3 : Int32} (ho : ok7 t o) (hqs1 : (hs t)[qs1]? = some (1, 0, [6])) (h : wp 26 0 [.ref 89, .ref qs1, .int as2, .int as3, .float 0, .float 0, .float 0] [] (hs t, F, G) (fun v M' => wp 25 82 [.ref 89, .ref o, .int a2, .int a3, .int a4] (v.toList ++ []) M' Q)) : wp 25 79 [.ref 89, .ref o, .int a2, .int a3, .int a4] [.int as3, .int as2, .ref qs1, .ref 89] (hs t, F, G) Q := by
  refine wp_C (i := 26) (pc' := 82) (Li := [.ref 89, .ref qs1, .int as2, .int as3, .float 0, .float 0, .float 0]) (rest := []) (fun _ => rfl) h
theorem rg25_82 {t : Nat} {F : ip_F} {G : ip_G} {Q : Option Value → ip_M → Prop} {o : Nat} {a2 a3 a4 : Int32} (ho : ok7 t o) (h : wp 25 30 [.ref 89, .ref o, .int a2, .int a3, .int (a4 + (1 : Int32))] [] (hs t, F, G) Q) : wp 25 82 [.ref 89, .ref o, .int a2, .int a3, .int a4] [] (hs t, F, G) Q := by
  refine wp_N (j' := 25) (pc' := 30) (L' := [.ref 89, .ref o, .int a2, .int a3, .int (a4 + (1 : Int32))]) (S' := []) (M' := (hs t, F, G)) 1 (fun _ => rfl) ?_
  exact h
theorem rg25_103 {t : Nat} {F : ip_F} {G : ip_G} {Q : Option Value → ip_M → Prop} {o : Nat} {a2 a3 a4 as1 as2 : Int32} (ho : ok7 t o) (h : (vp_in as1 12) ∧ (wp 25 2 [.ref 89, .ref o, .int a2, .int (a3 + (1 : Int32)), .int a4] [] (hs t, (ip_u F 117 (as1).toNatClampNeg as2), G) Q)) : wp 25 103 [.ref 89, .ref o, .int a2, .int a3, .int a4] [.int as2, .int as1, .ref 117] (hs t, F, G) Q := by
  obtain ⟨h1_, h⟩ := h
  refine wp_ias (m := (as1).toNatClampNeg) rfl rfl rfl h1_ ?_
  refine wp_N (j' := 25) (pc' := 2) (L' := [.ref 89, .ref o, .int a2, .int (a3 + (1 : Int32)), .int a4]) (S' := []) (M' := (hs t, (ip_u F 117 (as1).toNatClampNeg as2), G)) 1 (fun _ => rfl) ?_
  exact h
theorem rg26_0 {t : Nat} {F : ip_F} {G : ip_G} {Q : Option Value → ip_M → Prop} {a1 : Nat} {a2 a3 : Int32} (ha1 : (hs t)[a1]? = some (1, 0, [6])) (h : wp 27 0 [.ref 89, .ref a1, .int a2, .float 0] [] (hs t, F, G) (fun v M' => wp 26 6 [.ref 89, .ref a1, .int a2, .int a3, .float 0, .float 0, .float 0] (v.toList ++ []) M' Q)) : wp 26 0 [.ref 89, .ref a1, .int a2, .int a3, .float 0, .float 0, .float 0] [] (hs t, F, G) Q := by
  refine wp_N (j' := 26) (pc' := 3) (L' := [.ref 89, .ref a1, .int a2, .int a3, .float 0, .float 0, .float 0]) (S' := [.int a2, .ref a1, .ref 89]) (M' := (hs t, F, G)) 2 (fun _ => rfl) ?_
  refine wp_C (i := 27) (pc' := 6) (Li := [.ref 89, .ref a1, .int a2, .float 0]) (rest := []) (fun _ => rfl) h
theorem rg26_6 {t : Nat} {F : ip_F} {G : ip_G} {Q : Option Value → ip_M → Prop} {a1 : Nat} {a2 a3 as0 : Int32} {v4 v5 v6 : Value} (ha1 : (hs t)[a1]? = some (1, 0, [6])) (h : wp 82 0 [.int a3, .int ((as0 - (1 : Int32)) + (1 : Int32)), .int (F 89 5), .float 0, .float 0, .float 0] [] (hs t, F, G) (fun v M' => wp 26 22 [.ref 89, .ref a1, .int a2, .int a3, .int (as0 - (1 : Int32)), v5, v6] (v.toList ++ []) M' Q)) : wp 26 6 [.ref 89, .ref a1, .int a2, .int a3, v4, v5, v6] [.int as0] (hs t, F, G) Q := by
  refine wp_N (j' := 26) (pc' := 19) (L' := [.ref 89, .ref a1, .int a2, .int a3, .int (as0 - (1 : Int32)), v5, v6]) (S' := [.int (F 89 5), .int ((as0 - (1 : Int32)) + (1 : Int32)), .int a3]) (M' := (hs t, F, G)) 8 (fun _ => rfl) ?_
  refine wp_C (i := 82) (pc' := 22) (Li := [.int a3, .int ((as0 - (1 : Int32)) + (1 : Int32)), .int (F 89 5), .float 0, .float 0, .float 0]) (rest := []) (fun _ => rfl) h
theorem rg26_22 {t : Nat} {F : ip_F} {G : ip_G} {Q : Option Value → ip_M → Prop} {a1 : Nat} {a2 a3 a4 as0 : Int32} {v5 v6 : Value} (ha1 : (hs t)[a1]? = some (1, 0, [6])) (h : wp 129 0 [.int a4, .int (0 : Int32), .int ((6 : Int32) - (1 : Int32))] [] (hs t, F, G) (fun v M' => wp 26 36 [.ref 89, .ref a1, .int a2, .int a3, .int a4, .int (as0 - (1 : Int32)), v6] (v.toList ++ []) M' Q)) : wp 26 22 [.ref 89, .ref a1, .int a2, .int a3, .int a4, v5, v6] [.int as0] (hs t, F, G) Q := by
  refine wp_N (j' := 26) (pc' := 30) (L' := [.ref 89, .ref a1, .int a2, .int a3, .int a4, .int (as0 - (1 : Int32)), v6]) (S' := [.ref a1, .int (0 : Int32), .int a4]) (M' := (hs t, F, G)) 5 (fun _ => rfl) ?_
  refine wp_len rfl ha1 (by decide) ?_
  refine wp_N (j' := 26) (pc' := 33) (L' := [.ref 89, .ref a1, .int a2, .int a3, .int a4, .int (as0 - (1 : Int32)), v6]) (S' := [.int ((6 : Int32) - (1 : Int32)), .int (0 : Int32), .int a4]) (M' := (hs t, F, G)) 1 (fun _ => rfl) ?_
  refine wp_C (i := 129) (pc' := 36) (Li := [.int a4, .int (0 : Int32), .int ((6 : Int32) - (1 : Int32))]) (rest := []) (fun _ => rfl) h
theorem rg26_36 {t : Nat} {F : ip_F} {G : ip_G} {Q : Option Value → ip_M → Prop} {a1 : Nat} {a2 a3 a4 a5 as0 : Int32} {v6 : Value} (ha1 : (hs t)[a1]? = some (1, 0, [6])) (h : (as0 = (0 : Int32) → Q none (hs t, F, G)) ∧ (¬ as0 = (0 : Int32) → wp 129 0 [.int a5, .int (0 : Int32), .int ((6 : Int32) - (1 : Int32))] [] (hs t, F, G) (fun v M' => wp 26 49 [.ref 89, .ref a1, .int a2, .int a3, .int a4, .int a5, v6] (v.toList ++ []) M' Q))) : wp 26 36 [.ref 89, .ref a1, .int a2, .int a3, .int a4, .int a5, v6] [.int as0] (hs t, F, G) Q := by
  refine wp_ifc (pc1 := 52) (c := .eq) rfl (fun hc => ?_) (fun hc => ?_)
  · replace h := h.1 hc
    exact wp_RV rfl rfl h
  · replace h := h.2 hc
    refine wp_N (j' := 26) (pc' := 43) (L' := [.ref 89, .ref a1, .int a2, .int a3, .int a4, .int a5, v6]) (S' := [.ref a1, .int (0 : Int32), .int a5]) (M' := (hs t, F, G)) 2 (fun _ => rfl) ?_
    refine wp_len rfl ha1 (by decide) ?_
    refine wp_N (j' := 26) (pc' := 46) (L' := [.ref 89, .ref a1, .int a2, .int a3, .int a4, .int a5, v6]) (S' := [.int ((6 : Int32) - (1 : Int32)), .int (0 : Int32), .int a5]) (M' := (hs t, F, G)) 1 (fun _ => rfl) ?_
    refine wp_C (i := 129) (pc' := 49) (Li := [.int a5, .int (0 : Int32), .int ((6 : Int32) - (1 : Int32))]) (rest := []) (fun _ => rfl) h
theorem rg26_49 {t : Nat} {F : ip_F} {G : ip_G} {Q : Option Value → ip_M → Prop} {a1 : Nat} {a2 a3 a4 a5 as0 : Int32} {v6 : Value} (ha1 : (hs t)[a1]? = some (1, 0, [6])) (h : (¬ as0 = (0 : Int32) → wp 26 57 [.ref 89, .ref a1, .int a2, .int a3, .int a4, .int a5, .int a4] [] (hs t, F, G) Q) ∧ (as0 = (0 : Int32) → Q none (hs t, F, G))) : wp 26 49 [.ref 89, .ref a1, .int a2, .int a3, .int a4, .int a5, v6] [.int as0] (hs t, F, G) Q := by
  refine wp_ifc (pc1 := 53) (c := .ne) rfl (fun hc => ?_) (fun hc => ?_)
  · replace h := h.1 hc
    refine wp_N (j' := 26) (pc' := 57) (L' := [.ref 89, .ref a1, .int a2, .int a3, .int a4, .int a5, .int a4]) (S' := []) (M' := (hs t, F, G)) 1 (fun _ => rfl) ?_
    exact h
  · replace h := h.2 (Decidable.not_not.mp hc)
    exact wp_RV rfl rfl h
theorem rg26_57 {t : Nat} {F : ip_F} {G : ip_G} {Q : Option Value → ip_M → Prop} {a1 : Nat} {a2 a3 a4 a5 a6 : Int32} (ha1 : (hs t)[a1]? = some (1, 0, [6])) (h : (a5 ≤ a6 → wp 26 84 [.ref 89, .ref a1, .int a2, .int a3, .int a4, .int a5, .int a4] [] (hs t, F, G) Q) ∧ (a6 < a5 → (vp_in (a6 + (1 : Int32)) 6) ∧ ((vp_in a6 6) ∧ (wp 26 57 [.ref 89, .ref a1, .int a2, .int a3, .int a4, .int a5, .int (a6 + (1 : Int32))] [] (hs t, (ip_u F a1 (a6).toNatClampNeg (F a1 ((a6 + (1 : Int32))).toNatClampNeg)), G) Q)))) : wp 26 57 [.ref 89, .ref a1, .int a2, .int a3, .int a4, .int a5, .int a6] [] (hs t, F, G) Q := by
  refine wp_N (j' := 26) (pc' := 61) (L' := [.ref 89, .ref a1, .int a2, .int a3, .int a4, .int a5, .int a6]) (S' := [.int a5, .int a6]) (M' := (hs t, F, G)) 1 (fun _ => rfl) ?_
  refine wp_icmp (pc1 := 80) (c := .ge) rfl (fun hc => ?_) (fun hc => ?_)
  · replace h := h.1 hc
    refine wp_N (j' := 26) (pc' := 84) (L' := [.ref 89, .ref a1, .int a2, .int a3, .int a4, .int a5, .int a4]) (S' := []) (M' := (hs t, F, G)) 1 (fun _ => rfl) ?_
    exact h
  · replace h := h.2 (Int32.not_le.mp hc)
    refine wp_N (j' := 26) (pc' := 72) (L' := [.ref 89, .ref a1, .int a2, .int a3, .int a4, .int a5, .int a6]) (S' := [.int (a6 + (1 : Int32)), .ref a1, .int a6, .ref a1]) (M' := (hs t, F, G)) 5 (fun _ => rfl) ?_
    obtain ⟨h1_, h⟩ := h
    refine wp_ial (m := ((a6 + (1 : Int32))).toNatClampNeg) rfl ha1 rfl h1_ ?_
    obtain ⟨h2_, h⟩ := h
    refine wp_ias (m := (a6).toNatClampNeg) rfl ha1 rfl h2_ ?_
    refine wp_N (j' := 26) (pc' := 57) (L' := [.ref 89, .ref a1, .int a2, .int a3, .int a4, .int a5, .int (a6 + (1 : Int32))]) (S' := []) (M' := (hs t, (ip_u F a1 (a6).toNatClampNeg (F a1 ((a6 + (1 : Int32))).toNatClampNeg)), G)) 1 (fun _ => rfl) ?_
    exact h
theorem rg26_84 {t : Nat} {F : ip_F} {G : ip_G} {Q : Option Value → ip_M → Prop} {a1 : Nat} {a2 a3 a4 a5 a6 : Int32} (ha1 : (hs t)[a1]? = some (1, 0, [6])) (h : (a6 ≤ a5 → (vp_in a5 6) ∧ (Q none (hs t, (ip_u F a1 (a5).toNatClampNeg a2), G))) ∧ (a5 < a6 → (vp_in (a6 - (1 : Int32)) 6) ∧ ((vp_in a6 6) ∧ (wp 26 84 [.ref 89, .ref a1, .int a2, .int a3, .int a4, .int a5, .int (a6 + (Int32.ofInt (-1)))] [] (hs t, (ip_u F a1 (a6).toNatClampNeg (F a1 ((a6 - (1 : Int32))).toNatClampNeg)), G) Q)))) : wp 26 84 [.ref 89, .ref a1, .int a2, .int a3, .int a4, .int a5, .int a6] [] (hs t, F, G) Q := by
  refine wp_N (j' := 26) (pc' := 88) (L' := [.ref 89, .ref a1, .int a2, .int a3, .int a4, .int a5, .int a6]) (S' := [.int a5, .int a6]) (M' := (hs t, F, G)) 1 (fun _ => rfl) ?_
  refine wp_icmp (pc1 := 107) (c := .le) rfl (fun hc => ?_) (fun hc => ?_)
  · replace h := h.1 hc
    refine wp_N (j' := 26) (pc' := 111) (L' := [.ref 89, .ref a1, .int a2, .int a3, .int a4, .int a5, .int a6]) (S' := [.int a2, .int a5, .ref a1]) (M' := (hs t, F, G)) 2 (fun _ => rfl) ?_
    obtain ⟨h1_, h⟩ := h
    refine wp_ias (m := (a5).toNatClampNeg) rfl ha1 rfl h1_ ?_
    exact wp_RV rfl rfl h
  · replace h := h.2 (Int32.not_le.mp hc)
    refine wp_N (j' := 26) (pc' := 99) (L' := [.ref 89, .ref a1, .int a2, .int a3, .int a4, .int a5, .int a6]) (S' := [.int (a6 - (1 : Int32)), .ref a1, .int a6, .ref a1]) (M' := (hs t, F, G)) 5 (fun _ => rfl) ?_
    obtain ⟨h2_, h⟩ := h
    refine wp_ial (m := ((a6 - (1 : Int32))).toNatClampNeg) rfl ha1 rfl h2_ ?_
    obtain ⟨h3_, h⟩ := h
    refine wp_ias (m := (a6).toNatClampNeg) rfl ha1 rfl h3_ ?_
    refine wp_inc (k := 6) (n := -1) (L' := [.ref 89, .ref a1, .int a2, .int a3, .int a4, .int a5, .int (a6 + (Int32.ofInt (-1)))]) rfl rfl rfl ?_
    refine wp_N (j' := 26) (pc' := 84) (L' := [.ref 89, .ref a1, .int a2, .int a3, .int a4, .int a5, .int (a6 + (Int32.ofInt (-1)))]) (S' := []) (M' := (hs t, (ip_u F a1 (a6).toNatClampNeg (F a1 ((a6 - (1 : Int32))).toNatClampNeg)), G)) 0 (fun _ => rfl) ?_
    exact h
theorem rg27_0 {t : Nat} {F : ip_F} {G : ip_G} {Q : Option Value → ip_M → Prop} {a1 : Nat} {a2 : Int32} (ha1 : (hs t)[a1]? = some (1, 0, [6])) (h : wp 27 2 [.ref 89, .ref a1, .int a2, .int (0 : Int32)] [] (hs t, F, G) Q) : wp 27 0 [.ref 89, .ref a1, .int a2, .float 0] [] (hs t, F, G) Q := by
  refine wp_N (j' := 27) (pc' := 2) (L' := [.ref 89, .ref a1, .int a2, .int (0 : Int32)]) (S' := []) (M' := (hs t, F, G)) 1 (fun _ => rfl) ?_
  exact h
theorem rg27_2 {t : Nat} {F : ip_F} {G : ip_G} {Q : Option Value → ip_M → Prop} {a1 : Nat} {a2 a3 : Int32} (ha1 : (hs t)[a1]? = some (1, 0, [6])) (h : ((F 89 5) ≤ a3 → Q (some (.int (-1 : Int32))) (hs t, F, G)) ∧ (a3 < (F 89 5) → ((6 : Int32) ≤ a3 → Q (some (.int (-1 : Int32))) (hs t, F, G)) ∧ (a3 < (6 : Int32) → (vp_in a3 6) ∧ ((¬ (F a1 (a3).toNatClampNeg) = a2 → wp 27 2 [.ref 89, .ref a1, .int a2, .int (a3 + (1 : Int32))] [] (hs t, F, G) Q) ∧ ((F a1 (a3).toNatClampNeg) = a2 → Q (some (.int (a3 + (1 : Int32)))) (hs t, F, G)))))) : wp 27 2 [.ref 89, .ref a1, .int a2, .int a3] [] (hs t, F, G) Q := by
  refine wp_N (j' := 27) (pc' := 7) (L' := [.ref 89, .ref a1, .int a2, .int a3]) (S' := [.int (F 89 5), .int a3]) (M' := (hs t, F, G)) 2 (fun _ => rfl) ?_
  refine wp_icmp (pc1 := 33) (c := .ge) rfl (fun hc => ?_) (fun hc => ?_)
  · replace h := h.1 hc
    refine wp_N (j' := 27) (pc' := 34) (L' := [.ref 89, .ref a1, .int a2, .int a3]) (S' := [.int (-1 : Int32)]) (M' := (hs t, F, G)) 0 (fun _ => rfl) ?_
    exact wp_RI rfl rfl h
  · replace h := h.2 (Int32.not_le.mp hc)
    refine wp_N (j' := 27) (pc' := 12) (L' := [.ref 89, .ref a1, .int a2, .int a3]) (S' := [.ref a1, .int a3]) (M' := (hs t, F, G)) 1 (fun _ => rfl) ?_
    refine wp_len rfl ha1 (by decide) ?_
    refine wp_icmp (pc1 := 33) (c := .ge) rfl (fun hc => ?_) (fun hc => ?_)
    · replace h := h.1 hc
      refine wp_N (j' := 27) (pc' := 34) (L' := [.ref 89, .ref a1, .int a2, .int a3]) (S' := [.int (-1 : Int32)]) (M' := (hs t, F, G)) 0 (fun _ => rfl) ?_
      exact wp_RI rfl rfl h
    · replace h := h.2 (Int32.not_le.mp hc)
      refine wp_N (j' := 27) (pc' := 18) (L' := [.ref 89, .ref a1, .int a2, .int a3]) (S' := [.int a3, .ref a1]) (M' := (hs t, F, G)) 1 (fun _ => rfl) ?_
      obtain ⟨h1_, h⟩ := h
      refine wp_ial (m := (a3).toNatClampNeg) rfl ha1 rfl h1_ ?_
      refine wp_N (j' := 27) (pc' := 20) (L' := [.ref 89, .ref a1, .int a2, .int a3]) (S' := [.int a2, .int (F a1 (a3).toNatClampNeg)]) (M' := (hs t, F, G)) 0 (fun _ => rfl) ?_
      refine wp_icmp (pc1 := 27) (c := .ne) rfl (fun hc => ?_) (fun hc => ?_)
      · replace h := h.1 hc
        refine wp_N (j' := 27) (pc' := 2) (L' := [.ref 89, .ref a1, .int a2, .int (a3 + (1 : Int32))]) (S' := []) (M' := (hs t, F, G)) 1 (fun _ => rfl) ?_
        exact h
      · replace h := h.2 (Decidable.not_not.mp hc)
        refine wp_N (j' := 27) (pc' := 26) (L' := [.ref 89, .ref a1, .int a2, .int a3]) (S' := [.int (a3 + (1 : Int32))]) (M' := (hs t, F, G)) 2 (fun _ => rfl) ?_
        exact wp_RI rfl rfl h
theorem rg28_0 {t : Nat} {F : ip_F} {G : ip_G} {Q : Option Value → ip_M → Prop} {a1 : Nat} (ha1 : (hs t)[a1]? = some (1, 0, [6])) (h : wp 28 4 [.ref 89, .ref a1, .int (0 : Int32), .int (0 : Int32)] [] (hs t, F, G) Q) : wp 28 0 [.ref 89, .ref a1, .float 0, .float 0] [] (hs t, F, G) Q := by
  refine wp_N (j' := 28) (pc' := 4) (L' := [.ref 89, .ref a1, .int (0 : Int32), .int (0 : Int32)]) (S' := []) (M' := (hs t, F, G)) 3 (fun _ => rfl) ?_
  exact h
theorem rg28_4 {t : Nat} {F : ip_F} {G : ip_G} {Q : Option Value → ip_M → Prop} {a1 : Nat} {a2 a3 : Int32} (ha1 : (hs t)[a1]? = some (1, 0, [6])) (h : ((F 89 5) ≤ a3 → Q (some (.int a2)) (hs t, F, G)) ∧ (a3 < (F 89 5) → ((6 : Int32) ≤ a3 → Q (some (.int a2)) (hs t, F, G)) ∧ (a3 < (6 : Int32) → (vp_in a3 6) ∧ (wp 28 4 [.ref 89, .ref a1, .int (((10 : Int32) * a2) + (F a1 (a3).toNatClampNeg)), .int (a3 + (1 : Int32))] [] (hs t, F, G) Q)))) : wp 28 4 [.ref 89, .ref a1, .int a2, .int a3] [] (hs t, F, G) Q := by
  refine wp_N (j' := 28) (pc' := 9) (L' := [.ref 89, .ref a1, .int a2, .int a3]) (S' := [.int (F 89 5), .int a3]) (M' := (hs t, F, G)) 2 (fun _ => rfl) ?_
  refine wp_icmp (pc1 := 33) (c := .ge) rfl (fun hc => ?_) (fun hc => ?_)
  · replace h := h.1 hc
    refine wp_N (j' := 28) (pc' := 34) (L' := [.ref 89, .ref a1, .int a2, .int a3]) (S' := [.int a2]) (M' := (hs t, F, G)) 0 (fun _ => rfl) ?_
    exact wp_RI rfl rfl h
  · replace h := h.2 (Int32.not_le.mp hc)
    refine wp_N (j' := 28) (pc' := 14) (L' := [.ref 89, .ref a1, .int a2, .int a3]) (S' := [.ref a1, .int a3]) (M' := (hs t, F, G)) 1 (fun _ => rfl) ?_
    refine wp_len rfl ha1 (by decide) ?_
    refine wp_icmp (pc1 := 33) (c := .ge) rfl (fun hc => ?_) (fun hc => ?_)
    · replace h := h.1 hc
      refine wp_N (j' := 28) (pc' := 34) (L' := [.ref 89, .ref a1, .int a2, .int a3]) (S' := [.int a2]) (M' := (hs t, F, G)) 0 (fun _ => rfl) ?_
      exact wp_RI rfl rfl h
    · replace h := h.2 (Int32.not_le.mp hc)
      refine wp_N (j' := 28) (pc' := 24) (L' := [.ref 89, .ref a1, .int a2, .int a3]) (S' := [.int a3, .ref a1, .int ((10 : Int32) * a2)]) (M' := (hs t, F, G)) 4 (fun _ => rfl) ?_
      obtain ⟨h1_, h⟩ := h
      refine wp_ial (m := (a3).toNatClampNeg) rfl ha1 rfl h1_ ?_
      refine wp_N (j' := 28) (pc' := 4) (L' := [.ref 89, .ref a1, .int (((10 : Int32) * a2) + (F a1 (a3).toNatClampNeg)), .int (a3 + (1 : Int32))]) (S' := []) (M' := (hs t, F, G)) 3 (fun _ => rfl) ?_
      exact h
theorem rg29_0 {t : Nat} {F : ip_F} {G : ip_G} {Q : Option Value → ip_M → Prop} {a1 : Int32} (h : wp 29 2 [.ref 89, .int a1, .int (0 : Int32)] [] (hs t, F, G) Q) : wp 29 0 [.ref 89, .int a1, .float 0] [] (hs t, F, G) Q := by
  refine wp_N (j' := 29) (pc' := 2) (L' := [.ref 89, .int a1, .int (0 : Int32)]) (S' := []) (M' := (hs t, F, G)) 1 (fun _ => rfl) ?_
  exact h
theorem rg29_2 {t : Nat} {F : ip_F} {G : ip_G} {Q : Option Value → ip_M → Prop} {a1 a2 : Int32} (h : (a1 ≤ a2 → Q (some (.int (-1 : Int32))) (hs t, F, G)) ∧ (a2 < a1 → ((12 : Int32) ≤ a1 → Q (some (.int (-1 : Int32))) (hs t, F, G)) ∧ (a1 < (12 : Int32) → (vp_in a2 12) ∧ ((vp_in a1 12) ∧ ((¬ (F 117 (a2).toNatClampNeg) = (F 117 (a1).toNatClampNeg) → wp 29 2 [.ref 89, .int a1, .int (a2 + (1 : Int32))] [] (hs t, F, G) Q) ∧ ((F 117 (a2).toNatClampNeg) = (F 117 (a1).toNatClampNeg) → Q (some (.int a2)) (hs t, F, G))))))) : wp 29 2 [.ref 89, .int a1, .int a2] [] (hs t, F, G) Q := by
  refine wp_N (j' := 29) (pc' := 4) (L' := [.ref 89, .int a1, .int a2]) (S' := [.int a1, .int a2]) (M' := (hs t, F, G)) 1 (fun _ => rfl) ?_
  refine wp_icmp (pc1 := 36) (c := .ge) rfl (fun hc => ?_) (fun hc => ?_)
  · replace h := h.1 hc
    refine wp_N (j' := 29) (pc' := 37) (L' := [.ref 89, .int a1, .int a2]) (S' := [.int (-1 : Int32)]) (M' := (hs t, F, G)) 0 (fun _ => rfl) ?_
    exact wp_RI rfl rfl h
  · replace h := h.2 (Int32.not_le.mp hc)
    refine wp_N (j' := 29) (pc' := 10) (L' := [.ref 89, .int a1, .int a2]) (S' := [.int (12 : Int32), .int a1]) (M' := (hs t, F, G)) 1 (fun _ => rfl) ?_
    refine wp_icmp (pc1 := 36) (c := .ge) rfl (fun hc => ?_) (fun hc => ?_)
    · replace h := h.1 hc
      refine wp_N (j' := 29) (pc' := 37) (L' := [.ref 89, .int a1, .int a2]) (S' := [.int (-1 : Int32)]) (M' := (hs t, F, G)) 0 (fun _ => rfl) ?_
      exact wp_RI rfl rfl h
    · replace h := h.2 (Int32.not_le.mp hc)
      refine wp_N (j' := 29) (pc' := 18) (L' := [.ref 89, .int a1, .int a2]) (S' := [.int a2, .ref 117]) (M' := (hs t, F, G)) 2 (fun _ => rfl) ?_
      obtain ⟨h1_, h⟩ := h
      refine wp_ial (m := (a2).toNatClampNeg) rfl rfl rfl h1_ ?_
      refine wp_N (j' := 29) (pc' := 24) (L' := [.ref 89, .int a1, .int a2]) (S' := [.int a1, .ref 117, .int (F 117 (a2).toNatClampNeg)]) (M' := (hs t, F, G)) 2 (fun _ => rfl) ?_
      obtain ⟨h2_, h⟩ := h
      refine wp_ial (m := (a1).toNatClampNeg) rfl rfl rfl h2_ ?_
      refine wp_icmp (pc1 := 30) (c := .ne) rfl (fun hc => ?_) (fun hc => ?_)
      · replace h := h.1 hc
        refine wp_N (j' := 29) (pc' := 2) (L' := [.ref 89, .int a1, .int (a2 + (1 : Int32))]) (S' := []) (M' := (hs t, F, G)) 1 (fun _ => rfl) ?_
        exact h
      · replace h := h.2 (Decidable.not_not.mp hc)
        refine wp_N (j' := 29) (pc' := 29) (L' := [.ref 89, .int a1, .int a2]) (S' := [.int a2]) (M' := (hs t, F, G)) 0 (fun _ => rfl) ?_
        exact wp_RI rfl rfl h
theorem rg30_0 {t : Nat} {F : ip_F} {G : ip_G} {Q : Option Value → ip_M → Prop} (h : wp 30 2 [.ref 89, .int (1 : Int32)] [] (hs t, F, G) Q) : wp 30 0 [.ref 89, .float 0] [] (hs t, F, G) Q := by
  refine wp_N (j' := 30) (pc' := 2) (L' := [.ref 89, .int (1 : Int32)]) (S' := []) (M' := (hs t, F, G)) 1 (fun _ => rfl) ?_
  exact h
theorem rg30_2 {t : Nat} {F : ip_F} {G : ip_G} {Q : Option Value → ip_M → Prop} {a1 : Int32} (h : ((12 : Int32) ≤ a1 → Q (some (.int (-1 : Int32))) (hs t, F, G)) ∧ (a1 < (12 : Int32) → wp 29 0 [.ref 89, .int a1, .float 0] [] (hs t, F, G) (fun v M' => wp 30 13 [.ref 89, .int a1] (v.toList ++ []) M' Q))) : wp 30 2 [.ref 89, .int a1] [] (hs t, F, G) Q := by
  refine wp_N (j' := 30) (pc' := 5) (L' := [.ref 89, .int a1]) (S' := [.int (12 : Int32), .int a1]) (M' := (hs t, F, G)) 1 (fun _ => rfl) ?_
  refine wp_icmp (pc1 := 25) (c := .ge) rfl (fun hc => ?_) (fun hc => ?_)
  · replace h := h.1 hc
    refine wp_N (j' := 30) (pc' := 26) (L' := [.ref 89, .int a1]) (S' := [.int (-1 : Int32)]) (M' := (hs t, F, G)) 0 (fun _ => rfl) ?_
    exact wp_RI rfl rfl h
  · replace h := h.2 (Int32.not_le.mp hc)
    refine wp_N (j' := 30) (pc' := 10) (L' := [.ref 89, .int a1]) (S' := [.int a1, .ref 89]) (M' := (hs t, F, G)) 1 (fun _ => rfl) ?_
    refine wp_C (i := 29) (pc' := 13) (Li := [.ref 89, .int a1, .float 0]) (rest := []) (fun _ => rfl) h
theorem rg30_13 {t : Nat} {F : ip_F} {G : ip_G} {Q : Option Value → ip_M → Prop} {a1 as0 : Int32} (h : (as0 = (-1 : Int32) → wp 30 2 [.ref 89, .int (a1 + (1 : Int32))] [] (hs t, F, G) Q) ∧ (¬ as0 = (-1 : Int32) → Q (some (.int a1)) (hs t, F, G))) : wp 30 13 [.ref 89, .int a1] [.int as0] (hs t, F, G) Q := by
  refine wp_N (j' := 30) (pc' := 14) (L' := [.ref 89, .int a1]) (S' := [.int (-1 : Int32), .int as0]) (M' := (hs t, F, G)) 0 (fun _ => rfl) ?_
  refine wp_icmp (pc1 := 19) (c := .eq) rfl (fun hc => ?_) (fun hc => ?_)
  · replace h := h.1 hc
    refine wp_N (j' := 30) (pc' := 2) (L' := [.ref 89, .int (a1 + (1 : Int32))]) (S' := []) (M' := (hs t, F, G)) 1 (fun _ => rfl) ?_
    exact h
  · replace h := h.2 hc
    refine wp_N (j' := 30) (pc' := 18) (L' := [.ref 89, .int a1]) (S' := [.int a1]) (M' := (hs t, F, G)) 0 (fun _ => rfl) ?_
    exact wp_RI rfl rfl h
theorem rg31_0 {t : Nat} {F : ip_F} {G : ip_G} {Q : Option Value → ip_M → Prop} (h : wp 30 0 [.ref 89, .float 0] [] (hs t, F, G) (fun v M' => wp 31 4 [.ref 89] (v.toList ++ []) M' Q)) : wp 31 0 [.ref 89] [] (hs t, F, G) Q := by
  refine wp_N (j' := 31) (pc' := 1) (L' := [.ref 89]) (S' := [.ref 89]) (M' := (hs t, F, G)) 0 (fun _ => rfl) ?_
  refine wp_C (i := 30) (pc' := 4) (Li := [.ref 89, .float 0]) (rest := []) (fun _ => rfl) h
theorem rg31_4 {t : Nat} {F : ip_F} {G : ip_G} {Q : Option Value → ip_M → Prop} {as0 : Int32} (h : (¬ as0 = (-1 : Int32) → Q (some (.int (0 : Int32))) (hs t, F, G)) ∧ (as0 = (-1 : Int32) → Q (some (.int (1 : Int32))) (hs t, F, G))) : wp 31 4 [.ref 89] [.int as0] (hs t, F, G) Q := by
  refine wp_N (j' := 31) (pc' := 5) (L' := [.ref 89]) (S' := [.int (-1 : Int32), .int as0]) (M' := (hs t, F, G)) 0 (fun _ => rfl) ?_
  refine wp_icmp (pc1 := 12) (c := .ne) rfl (fun hc => ?_) (fun hc => ?_)
  · replace h := h.1 hc
    refine wp_N (j' := 31) (pc' := 13) (L' := [.ref 89]) (S' := [.int (0 : Int32)]) (M' := (hs t, F, G)) 0 (fun _ => rfl) ?_
    exact wp_RZ rfl rfl (by decide) h
  · replace h := h.2 (Decidable.not_not.mp hc)
    refine wp_N (j' := 31) (pc' := 13) (L' := [.ref 89]) (S' := [.int (1 : Int32)]) (M' := (hs t, F, G)) 1 (fun _ => rfl) ?_
    exact wp_RZ rfl rfl (by decide) h
theorem rg32_0 {t : Nat} {F : ip_F} {G : ip_G} {Q : Option Value → ip_M → Prop} (h : wp 32 4 [.ref 89, .int (0 : Int32), .int (0 : Int32)] [] (hs t, F, G) Q) : wp 32 0 [.ref 89, .float 0, .float 0] [] (hs t, F, G) Q := by
  refine wp_N (j' := 32) (pc' := 4) (L' := [.ref 89, .int (0 : Int32), .int (0 : Int32)]) (S' := []) (M' := (hs t, F, G)) 3 (fun _ => rfl) ?_
  exact h
theorem rg32_4 {t : Nat} {F : ip_F} {G : ip_G} {Q : Option Value → ip_M → Prop} {a1 a2 : Int32} (h : ((12 : Int32) ≤ a2 → Q (some (.int a1)) (hs t, F, G)) ∧ (a2 < (12 : Int32) → (vp_in a2 12) ∧ ((vp_in a2 12) ∧ (((F 117 (a2).toNatClampNeg) = (F 116 (a2).toNatClampNeg) → wp 32 31 [.ref 89, .int a1, .int a2] [.int (0 : Int32), .int a1] (hs t, F, G) Q) ∧ (¬ (F 117 (a2).toNatClampNeg) = (F 116 (a2).toNatClampNeg) → wp 32 31 [.ref 89, .int a1, .int a2] [.int (1 : Int32), .int a1] (hs t, F, G) Q))))) : wp 32 4 [.ref 89, .int a1, .int a2] [] (hs t, F, G) Q := by
  refine wp_N (j' := 32) (pc' := 7) (L' := [.ref 89, .int a1, .int a2]) (S' := [.int (12 : Int32), .int a2]) (M' := (hs t, F, G)) 1 (fun _ => rfl) ?_
  refine wp_icmp (pc1 := 39) (c := .ge) rfl (fun hc => ?_) (fun hc => ?_)
  · replace h := h.1 hc
    refine wp_N (j' := 32) (pc' := 40) (L' := [.ref 89, .int a1, .int a2]) (S' := [.int a1]) (M' := (hs t, F, G)) 0 (fun _ => rfl) ?_
    exact wp_RI rfl rfl h
  · replace h := h.2 (Int32.not_le.mp hc)
    refine wp_N (j' := 32) (pc' := 16) (L' := [.ref 89, .int a1, .int a2]) (S' := [.int a2, .ref 117, .int a1]) (M' := (hs t, F, G)) 3 (fun _ => rfl) ?_
    obtain ⟨h1_, h⟩ := h
    refine wp_ial (m := (a2).toNatClampNeg) rfl rfl rfl h1_ ?_
    refine wp_N (j' := 32) (pc' := 22) (L' := [.ref 89, .int a1, .int a2]) (S' := [.int a2, .ref 116, .int (F 117 (a2).toNatClampNeg), .int a1]) (M' := (hs t, F, G)) 2 (fun _ => rfl) ?_
    obtain ⟨h2_, h⟩ := h
    refine wp_ial (m := (a2).toNatClampNeg) rfl rfl rfl h2_ ?_
    refine wp_icmp (pc1 := 30) (c := .eq) rfl (fun hc => ?_) (fun hc => ?_)
    · replace h := h.1 hc
      refine wp_N (j' := 32) (pc' := 31) (L' := [.ref 89, .int a1, .int a2]) (S' := [.int (0 : Int32), .int a1]) (M' := (hs t, F, G)) 0 (fun _ => rfl) ?_
      exact h
    · replace h := h.2 hc
      refine wp_N (j' := 32) (pc' := 31) (L' := [.ref 89, .int a1, .int a2]) (S' := [.int (1 : Int32), .int a1]) (M' := (hs t, F, G)) 1 (fun _ => rfl) ?_
      exact h
theorem rg32_31 {t : Nat} {F : ip_F} {G : ip_G} {Q : Option Value → ip_M → Prop} {a1 a2 as0 as1 : Int32} (h : wp 32 4 [.ref 89, .int (as0 + as1), .int (a2 + (1 : Int32))] [] (hs t, F, G) Q) : wp 32 31 [.ref 89, .int a1, .int a2] [.int as1, .int as0] (hs t, F, G) Q := by
  refine wp_N (j' := 32) (pc' := 4) (L' := [.ref 89, .int (as0 + as1), .int (a2 + (1 : Int32))]) (S' := []) (M' := (hs t, F, G)) 3 (fun _ => rfl) ?_
  exact h
theorem rg33_0 {t : Nat} {F : ip_F} {G : ip_G} {Q : Option Value → ip_M → Prop} {a1 : Int32} (h : wp 33 4 [.ref 89, .int a1, .int (0 : Int32), .int (0 : Int32)] [] (hs t, F, G) Q) : wp 33 0 [.ref 89, .int a1, .float 0, .float 0] [] (hs t, F, G) Q := by
  refine wp_N (j' := 33) (pc' := 4) (L' := [.ref 89, .int a1, .int (0 : Int32), .int (0 : Int32)]) (S' := []) (M' := (hs t, F, G)) 3 (fun _ => rfl) ?_
  exact h
theorem rg33_4 {t : Nat} {F : ip_F} {G : ip_G} {Q : Option Value → ip_M → Prop} {a1 a2 a3 : Int32} (h : ((12 : Int32) ≤ a3 → Q (some (.int a2)) (hs t, F, G)) ∧ (a3 < (12 : Int32) → (vp_in a3 12) ∧ (wp 27 0 [.ref 89, .ref (104 + (a3).toNatClampNeg), .int a1, .float 0] [] (hs t, F, G) (fun v M' => wp 33 22 [.ref 89, .int a1, .int a2, .int a3] (v.toList ++ [.int a2]) M' Q)))) : wp 33 4 [.ref 89, .int a1, .int a2, .int a3] [] (hs t, F, G) Q := by
  refine wp_N (j' := 33) (pc' := 7) (L' := [.ref 89, .int a1, .int a2, .int a3]) (S' := [.int (12 : Int32), .int a3]) (M' := (hs t, F, G)) 1 (fun _ => rfl) ?_
  refine wp_icmp (pc1 := 49) (c := .ge) rfl (fun hc => ?_) (fun hc => ?_)
  · replace h := h.1 hc
    refine wp_N (j' := 33) (pc' := 50) (L' := [.ref 89, .int a1, .int a2, .int a3]) (S' := [.int a2]) (M' := (hs t, F, G)) 0 (fun _ => rfl) ?_
    exact wp_RI rfl rfl h
  · replace h := h.2 (Int32.not_le.mp hc)
    refine wp_N (j' := 33) (pc' := 17) (L' := [.ref 89, .int a1, .int a2, .int a3]) (S' := [.int a3, .ref 103, .ref 89, .int a2]) (M' := (hs t, F, G)) 4 (fun _ => rfl) ?_
    obtain ⟨h1_, h⟩ := h
    refine wp_aal (b := 104) (m := (a3).toNatClampNeg) rfl rfl hs_g104 (by decide) rfl h1_ ?_
    refine wp_N (j' := 33) (pc' := 19) (L' := [.ref 89, .int a1, .int a2, .int a3]) (S' := [.int a1, .ref (104 + (a3).toNatClampNeg), .ref 89, .int a2]) (M' := (hs t, F, G)) 0 (fun _ => rfl) ?_
    refine wp_C (i := 27) (pc' := 22) (Li := [.ref 89, .ref (104 + (a3).toNatClampNeg), .int a1, .float 0]) (rest := [.int a2]) (fun _ => rfl) h
theorem rg33_22 {t : Nat} {F : ip_F} {G : ip_G} {Q : Option Value → ip_M → Prop} {a1 a2 a3 as0 as1 : Int32} (h : (vp_in a3 12) ∧ (wp 27 0 [.ref 89, .ref (91 + (a3).toNatClampNeg), .int a1, .float 0] [] (hs t, F, G) (fun v M' => wp 33 33 [.ref 89, .int a1, .int a2, .int a3] (v.toList ++ [.int as1, .int as0]) M' Q))) : wp 33 22 [.ref 89, .int a1, .int a2, .int a3] [.int as1, .int as0] (hs t, F, G) Q := by
  refine wp_N (j' := 33) (pc' := 28) (L' := [.ref 89, .int a1, .int a2, .int a3]) (S' := [.int a3, .ref 90, .ref 89, .int as1, .int as0]) (M' := (hs t, F, G)) 3 (fun _ => rfl) ?_
  obtain ⟨h1_, h⟩ := h
  refine wp_aal (b := 91) (m := (a3).toNatClampNeg) rfl rfl hs_g91 (by decide) rfl h1_ ?_
  refine wp_N (j' := 33) (pc' := 30) (L' := [.ref 89, .int a1, .int a2, .int a3]) (S' := [.int a1, .ref (91 + (a3).toNatClampNeg), .ref 89, .int as1, .int as0]) (M' := (hs t, F, G)) 0 (fun _ => rfl) ?_
  refine wp_C (i := 27) (pc' := 33) (Li := [.ref 89, .ref (91 + (a3).toNatClampNeg), .int a1, .float 0]) (rest := [.int as1, .int as0]) (fun _ => rfl) h
theorem rg33_33 {t : Nat} {F : ip_F} {G : ip_G} {Q : Option Value → ip_M → Prop} {a1 a2 a3 as0 as1 as2 : Int32} (h : (as1 = as2 → wp 33 41 [.ref 89, .int a1, .int a2, .int a3] [.int (0 : Int32), .int as0] (hs t, F, G) Q) ∧ (¬ as1 = as2 → wp 33 41 [.ref 89, .int a1, .int a2, .int a3] [.int (1 : Int32), .int as0] (hs t, F, G) Q)) : wp 33 33 [.ref 89, .int a1, .int a2, .int a3] [.int as2, .int as1, .int as0] (hs t, F, G) Q := by
  refine wp_icmp (pc1 := 40) (c := .eq) rfl (fun hc => ?_) (fun hc => ?_)
  · replace h := h.1 hc
    refine wp_N (j' := 33) (pc' := 41) (L' := [.ref 89, .int a1, .int a2, .int a3]) (S' := [.int (0 : Int32), .int as0]) (M' := (hs t, F, G)) 0 (fun _ => rfl) ?_
    exact h
  · replace h := h.2 hc
    refine wp_N (j' := 33) (pc' := 41) (L' := [.ref 89, .int a1, .int a2, .int a3]) (S' := [.int (1 : Int32), .int as0]) (M' := (hs t, F, G)) 1 (fun _ => rfl) ?_
    exact h
theorem rg33_41 {t : Nat} {F : ip_F} {G : ip_G} {Q : Option Value → ip_M → Prop} {a1 a2 a3 as0 as1 : Int32} (h : wp 33 4 [.ref 89, .int a1, .int (as0 + as1), .int (a3 + (1 : Int32))] [] (hs t, F, G) Q) : wp 33 41 [.ref 89, .int a1, .int a2, .int a3] [.int as1, .int as0] (hs t, F, G) Q := by
  refine wp_N (j' := 33) (pc' := 4) (L' := [.ref 89, .int a1, .int (as0 + as1), .int (a3 + (1 : Int32))]) (S' := []) (M' := (hs t, F, G)) 3 (fun _ => rfl) ?_
  exact h
