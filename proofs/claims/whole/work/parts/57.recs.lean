/-! ===== the class's records ===== -/
section SP
variable {t : Nat} {G : ip_G} {Q : Option Value → ip_M → Prop} {k : Nat}
theorem sp46 {F : ip_F} {u : Nat} {a b c d : Int32} (hk : ok4 t k) (hu : u < 6) (hs0 : F k 1 = Int32.ofNat u) (h : ∀ F', F' k 1 = Int32.ofNat (u + 1) → (∀ x, F' (k + 1) x = if x = 4 * u + 3 then d else if x = 4 * u + 2 then c else if x = 4 * u + 1 then b else if x = 4 * u then a else F (k + 1) x) → (∀ x, x ≠ k → x ≠ k + 1 → F' x = F x) → Q (some (.int (Int32.ofNat (u + 1)))) (hs t, F', G)) : wp 46 0 [.ref k, .int a, .int b, .int c, .int d, .float 0] [] (hs t, F, G) Q := by
  refine rg46_0 hk ⟨fun q => ?_, fun _ => ?_⟩
  · rw [hs0] at q
    (simp (disch := omega) only [nn_lit, nn_m1, nn_add, nn_mul, nn_rem, nn_sub, nn_addm1, nn_lt, nn_le, nn_eq, nn_clamp, nn_in, nn_nem1, nn_m1ne, nn_ltm1, nn_m1lt, nn_m1le, nn_lem1, bz_0, bz_n0, not_false_eq_true, not_true_eq_false, true_and, and_true, false_and, and_false, false_implies, true_implies, forall_const, Nat.reduceMul, Nat.reduceAdd, Nat.reduceSub] at q <;> try simp only [nn_bk] at q)
    omega
  · rw [hs0]
    refine ⟨?_, ?_, ?_, ?_, rg46_66 hk ?_⟩
    · (simp (disch := omega) only [nn_lit, nn_m1, nn_add, nn_mul, nn_rem, nn_sub, nn_addm1, nn_lt, nn_le, nn_eq, nn_clamp, nn_in, nn_nem1, nn_m1ne, nn_ltm1, nn_m1lt, nn_m1le, nn_lem1, bz_0, bz_n0, not_false_eq_true, not_true_eq_false, true_and, and_true, false_and, and_false, false_implies, true_implies, forall_const, Nat.reduceMul, Nat.reduceAdd, Nat.reduceSub] <;> try simp only [nn_bk])
      omega
    · (simp (disch := omega) only [nn_lit, nn_m1, nn_add, nn_mul, nn_rem, nn_sub, nn_addm1, nn_lt, nn_le, nn_eq, nn_clamp, nn_in, nn_nem1, nn_m1ne, nn_ltm1, nn_m1lt, nn_m1le, nn_lem1, bz_0, bz_n0, not_false_eq_true, not_true_eq_false, true_and, and_true, false_and, and_false, false_implies, true_implies, forall_const, Nat.reduceMul, Nat.reduceAdd, Nat.reduceSub] <;> try simp only [nn_bk])
      omega
    · (simp (disch := omega) only [nn_lit, nn_m1, nn_add, nn_mul, nn_rem, nn_sub, nn_addm1, nn_lt, nn_le, nn_eq, nn_clamp, nn_in, nn_nem1, nn_m1ne, nn_ltm1, nn_m1lt, nn_m1le, nn_lem1, bz_0, bz_n0, not_false_eq_true, not_true_eq_false, true_and, and_true, false_and, and_false, false_implies, true_implies, forall_const, Nat.reduceMul, Nat.reduceAdd, Nat.reduceSub] <;> try simp only [nn_bk])
      omega
    · (simp (disch := omega) only [nn_lit, nn_m1, nn_add, nn_mul, nn_rem, nn_sub, nn_addm1, nn_lt, nn_le, nn_eq, nn_clamp, nn_in, nn_nem1, nn_m1ne, nn_ltm1, nn_m1lt, nn_m1le, nn_lem1, bz_0, bz_n0, not_false_eq_true, not_true_eq_false, true_and, and_true, false_and, and_false, false_implies, true_implies, forall_const, Nat.reduceMul, Nat.reduceAdd, Nat.reduceSub] <;> try simp only [nn_bk])
      omega
    · (simp (disch := omega) only [nn_lit, nn_m1, nn_add, nn_mul, nn_rem, nn_sub, nn_addm1, nn_lt, nn_le, nn_eq, nn_clamp, nn_in, nn_nem1, nn_m1ne, nn_ltm1, nn_m1lt, nn_m1le, nn_lem1, bz_0, bz_n0, not_false_eq_true, not_true_eq_false, true_and, and_true, false_and, and_false, false_implies, true_implies, forall_const, Nat.reduceMul, Nat.reduceAdd, Nat.reduceSub] <;> try simp only [nn_bk])
      have e1 : ∀ (F1 : ip_F) (i : Nat) (x : Int32), ip_u F1 (k + 1) i x k = F1 k := fun F1 i x => u_n (by omega)
      rw [e1, e1, e1, e1, hs0, show Int32.ofNat u + Int32.ofNat 1 = Int32.ofNat (u + 1) from nn_add u 1]
      rw [show ∀ F1 : ip_F, ip_u F1 k 1 (Int32.ofNat (u + 1)) k 1 = Int32.ofNat (u + 1) from fun F1 => by rw [u_s, if_pos rfl]]
      refine h _ (by rw [u_s, if_pos rfl]) (fun x => ?_) (fun x hx hx2 => by rw [u_n hx, u_n hx2, u_n hx2, u_n hx2, u_n hx2])
      rw [u_n (by omega), u_s, u_s, u_s, u_s]
theorem sp47 {F : ip_F} {u i j : Nat} (hk : ok4 t k) (hu : u ≤ 6) (hs0 : F k 1 = Int32.ofNat u) (hi : i < u) (hj : j < 4) (h : Q (some (.int (F (k + 1) (4 * i + j)))) (hs t, F, G)) : wp 47 0 [.ref k, .int (Int32.ofNat i), .int (Int32.ofNat j), .float 0] [] (hs t, F, G) Q := by
  refine rg47_0 hk (sp129 ?_)
  rw [hs0, show Int32.ofNat u - 1 = Int32.ofNat (u - 1) from nn_sub (b := 1) (by omega), bz_t ⟨(nn_le (a := 0) (by omega) (by omega)).mpr (by omega), (nn_le (by omega) (by omega)).mpr (by omega)⟩]
  refine rg47_11 hk ⟨fun q => absurd q (by decide), fun _ => sp129 ?_⟩
  rw [bz_t ⟨(nn_le (a := 0) (by omega) (by omega)).mpr (by omega), (nn_le (b := 3) (by omega) (by omega)).mpr (by omega)⟩]
  refine rg47_20 hk ⟨fun q => absurd q (by decide), fun _ => rg47_28 hk ⟨fun q => absurd q (by decide), fun _ => ⟨?_, ?_⟩⟩⟩
  · (simp (disch := omega) only [nn_lit, nn_m1, nn_add, nn_mul, nn_rem, nn_sub, nn_addm1, nn_lt, nn_le, nn_eq, nn_clamp, nn_in, nn_nem1, nn_m1ne, nn_ltm1, nn_m1lt, nn_m1le, nn_lem1, bz_0, bz_n0, not_false_eq_true, not_true_eq_false, true_and, and_true, false_and, and_false, false_implies, true_implies, forall_const, Nat.reduceMul, Nat.reduceAdd, Nat.reduceSub] <;> try simp only [nn_bk])
    omega
  · (simp (disch := omega) only [nn_lit, nn_m1, nn_add, nn_mul, nn_rem, nn_sub, nn_addm1, nn_lt, nn_le, nn_eq, nn_clamp, nn_in, nn_nem1, nn_m1ne, nn_ltm1, nn_m1lt, nn_m1le, nn_lem1, bz_0, bz_n0, not_false_eq_true, not_true_eq_false, true_and, and_true, false_and, and_false, false_implies, true_implies, forall_const, Nat.reduceMul, Nat.reduceAdd, Nat.reduceSub] <;> try simp only [nn_bk])
    exact h
/-! refusals: reason 0 bad, 1 no, 2 full -/
theorem sp133b {F : ip_F} (h : Q (some (.int (-2))) (hs t, ip_u F 192 0 (F 192 0 + 1), G)) : wp 133 0 [.ref 0, .int (-2), .float 0] [] (hs t, F, G) Q := by
  have e : ((-2 : Int32) - (-2)).toNatClampNeg = 0 := by decide
  refine rg133_0 (sp129 (rg133_11 ⟨fun q => absurd q (by decide), fun _ => ⟨?_, ?_, ?_⟩⟩))
  · exact vp_d (by decide)
  · exact vp_d (by decide)
  · rw [e]
    exact h
theorem sp133n {F : ip_F} (h : Q (some (.int (-3))) (hs t, ip_u F 192 1 (F 192 1 + 1), G)) : wp 133 0 [.ref 0, .int (-3), .float 0] [] (hs t, F, G) Q := by
  have e : ((-2 : Int32) - (-3)).toNatClampNeg = 1 := by decide
  refine rg133_0 (sp129 (rg133_11 ⟨fun q => absurd q (by decide), fun _ => ⟨?_, ?_, ?_⟩⟩))
  · exact vp_d (by decide)
  · exact vp_d (by decide)
  · rw [e]
    exact h
theorem sp133f {F : ip_F} (h : Q (some (.int (-4))) (hs t, ip_u F 192 2 (F 192 2 + 1), G)) : wp 133 0 [.ref 0, .int (-4), .float 0] [] (hs t, F, G) Q := by
  have e : ((-2 : Int32) - (-4)).toNatClampNeg = 2 := by decide
  refine rg133_0 (sp129 (rg133_11 ⟨fun q => absurd q (by decide), fun _ => ⟨?_, ?_, ?_⟩⟩))
  · exact vp_d (by decide)
  · exact vp_d (by decide)
  · rw [e]
    exact h
end SP
