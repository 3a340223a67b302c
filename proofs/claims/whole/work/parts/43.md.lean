/-! ===== the reference's ropes, laid as the class lays them ===== -/
def mr9 (F : ip_F) : Nat → Int32 := fun i => if i < 6 then F 196 i else if i < 12 then F 197 (i - 6) else if i < 18 then F 198 (i - 12) else if i < 24 then F 199 (i - 18) else F 193 2
theorem mr_0 {F : ip_F} {r : Nat} (hr : r < 6) : mr9 F r = F 196 r := if_pos hr
theorem mr_6 {F : ip_F} {r : Nat} (hr : r < 6) : mr9 F (6 + r) = F 197 r := by
  rw [mr9, if_neg (by omega), if_pos (by omega), show 6 + r - 6 = r by omega]
theorem mr_12 {F : ip_F} {r : Nat} (hr : r < 6) : mr9 F (12 + r) = F 198 r := by
  rw [mr9, if_neg (by omega), if_neg (by omega), if_pos (by omega), show 12 + r - 12 = r by omega]
theorem mr_18 {F : ip_F} {r : Nat} (hr : r < 6) : mr9 F (18 + r) = F 199 r := by
  rw [mr9, if_neg (by omega), if_neg (by omega), if_neg (by omega), if_pos (by omega), show 18 + r - 18 = r by omega]
theorem mr_24 {F : ip_F} : mr9 F 24 = F 193 2 := rfl
/-- a kind as the place of a number below 6 -/
abbrev kd9 (x : Int32) : Prop := ∃ n, n ≤ 5 ∧ x = Int32.ofNat n
section SP
variable {t : Nat} {F : ip_F} {G : ip_G} {Q : Option Value → ip_M → Prop} {n : Nat}
theorem sp174_4 (hn : n ≤ 6) (hb : F 193 1 = Int32.ofNat n) (h : Q (some (.int (Int32.ofNat (bf9 (hsl (mr9 F)) n)))) (hs t, F, G)) : ∀ d r, r + d = n → wp 174 4 [.ref 193, .int (Int32.ofNat (bf9 (hsl (mr9 F)) r)), .int (Int32.ofNat r)] [] (hs t, F, G) Q := by
  intro d
  induction d with
  | zero =>
    intro r hr
    obtain rfl : r = n := by omega
    refine rg174_4 ⟨fun _ => h, fun q => ?_⟩
    rw [hb] at q
    (simp (disch := omega) only [nn_lit, nn_m1, nn_add, nn_mul, nn_rem, nn_sub, nn_addm1, nn_lt, nn_le, nn_eq, nn_clamp, nn_in, nn_nem1, nn_m1ne, nn_ltm1, nn_m1lt, nn_m1le, nn_lem1, bz_0, bz_n0, not_false_eq_true, not_true_eq_false, true_and, and_true, false_and, and_false, false_implies, true_implies, forall_const, Nat.reduceMul, Nat.reduceAdd, Nat.reduceSub] at q <;> try simp only [nn_bk] at q)
    omega
  | succ d ih =>
    intro r hr
    refine rg174_4 ⟨fun q => ?_, fun _ => ⟨?_, fun e => rg174_30 ?_, fun e => rg174_30 ?_⟩⟩
    · rw [hb] at q
      (simp (disch := omega) only [nn_lit, nn_m1, nn_add, nn_mul, nn_rem, nn_sub, nn_addm1, nn_lt, nn_le, nn_eq, nn_clamp, nn_in, nn_nem1, nn_m1ne, nn_ltm1, nn_m1lt, nn_m1le, nn_lem1, bz_0, bz_n0, not_false_eq_true, not_true_eq_false, true_and, and_true, false_and, and_false, false_implies, true_implies, forall_const, Nat.reduceMul, Nat.reduceAdd, Nat.reduceSub] at q <;> try simp only [nn_bk] at q)
      omega
    · (simp (disch := omega) only [nn_lit, nn_m1, nn_add, nn_mul, nn_rem, nn_sub, nn_addm1, nn_lt, nn_le, nn_eq, nn_clamp, nn_in, nn_nem1, nn_m1ne, nn_ltm1, nn_m1lt, nn_m1le, nn_lem1, bz_0, bz_n0, not_false_eq_true, not_true_eq_false, true_and, and_true, false_and, and_false, false_implies, true_implies, forall_const, Nat.reduceMul, Nat.reduceAdd, Nat.reduceSub] <;> try simp only [nn_bk])
      omega
    · (simp (disch := omega) only [nn_lit, nn_m1, nn_add, nn_mul, nn_rem, nn_sub, nn_addm1, nn_lt, nn_le, nn_eq, nn_clamp, nn_in, nn_nem1, nn_m1ne, nn_ltm1, nn_m1lt, nn_m1le, nn_lem1, bz_0, bz_n0, not_false_eq_true, not_true_eq_false, true_and, and_true, false_and, and_false, false_implies, true_implies, forall_const, Nat.reduceMul, Nat.reduceAdd, Nat.reduceSub] at e <;> try simp only [nn_bk] at e)
      rw [bf_step (P := hsl (mr9 F)) (by omega) (by rw [if_neg (by simp [hsl, mr_0 (F := F) (show r < 6 by omega), e])])]
      (simp (disch := omega) only [nn_lit, nn_m1, nn_add, nn_mul, nn_rem, nn_sub, nn_addm1, nn_lt, nn_le, nn_eq, nn_clamp, nn_in, nn_nem1, nn_m1ne, nn_ltm1, nn_m1lt, nn_m1le, nn_lem1, bz_0, bz_n0, not_false_eq_true, not_true_eq_false, true_and, and_true, false_and, and_false, false_implies, true_implies, forall_const, Nat.reduceMul, Nat.reduceAdd, Nat.reduceSub] <;> try simp only [nn_bk])
      exact ih _ (by omega)
    · (simp (disch := omega) only [nn_lit, nn_m1, nn_add, nn_mul, nn_rem, nn_sub, nn_addm1, nn_lt, nn_le, nn_eq, nn_clamp, nn_in, nn_nem1, nn_m1ne, nn_ltm1, nn_m1lt, nn_m1le, nn_lem1, bz_0, bz_n0, not_false_eq_true, not_true_eq_false, true_and, and_true, false_and, and_false, false_implies, true_implies, forall_const, Nat.reduceMul, Nat.reduceAdd, Nat.reduceSub] at e <;> try simp only [nn_bk] at e)
      rw [bf_step (P := hsl (mr9 F)) (by omega) (by rw [if_pos (by simp [hsl, mr_0 (F := F) (show r < 6 by omega), e])])]
      (simp (disch := omega) only [nn_lit, nn_m1, nn_add, nn_mul, nn_rem, nn_sub, nn_addm1, nn_lt, nn_le, nn_eq, nn_clamp, nn_in, nn_nem1, nn_m1ne, nn_ltm1, nn_m1lt, nn_m1le, nn_lem1, bz_0, bz_n0, not_false_eq_true, not_true_eq_false, true_and, and_true, false_and, and_false, false_implies, true_implies, forall_const, Nat.reduceMul, Nat.reduceAdd, Nat.reduceSub] <;> try simp only [nn_bk])
      exact ih _ (by omega)
theorem sp174 (hn : n ≤ 6) (hb : F 193 1 = Int32.ofNat n) (h : Q (some (.int (Int32.ofNat (bf9 (hsl (mr9 F)) n)))) (hs t, F, G)) : wp 174 0 [.ref 193, .float 0, .float 0] [] (hs t, F, G) Q := rg174_0 (sp174_4 hn hb h n 0 (by omega))
theorem sp175_4 (hn : n ≤ 6) (hb : F 193 1 = Int32.ofNat n) (hk : ∀ r, r < n → kd9 (F 198 r)) (h : Q (some (.int (Int32.ofNat (bf9 (mks (mr9 F)) n)))) (hs t, F, G)) : ∀ d r, r + d = n → wp 175 4 [.ref 193, .int (Int32.ofNat (bf9 (mks (mr9 F)) r)), .int (Int32.ofNat r)] [] (hs t, F, G) Q := by
  intro d
  induction d with
  | zero =>
    intro r hr
    obtain rfl : r = n := by omega
    refine rg175_4 ⟨fun _ => h, fun q => ?_⟩
    rw [hb] at q
    (simp (disch := omega) only [nn_lit, nn_m1, nn_add, nn_mul, nn_rem, nn_sub, nn_addm1, nn_lt, nn_le, nn_eq, nn_clamp, nn_in, nn_nem1, nn_m1ne, nn_ltm1, nn_m1lt, nn_m1le, nn_lem1, bz_0, bz_n0, not_false_eq_true, not_true_eq_false, true_and, and_true, false_and, and_false, false_implies, true_implies, forall_const, Nat.reduceMul, Nat.reduceAdd, Nat.reduceSub] at q <;> try simp only [nn_bk] at q)
    omega
  | succ d ih =>
    intro r hr
    have e0 : mks (mr9 F) r = (!decide (F 196 r = -1) && mk9 (F 198 r) (F 199 r) (F 193 2)) := by
      unfold mks
      rw [mr_0 (by omega), mr_12 (by omega), mr_18 (by omega), mr_24]
    refine rg175_4 ⟨fun q => ?_, fun _ => ⟨?_, fun e => rg175_52 ?_, fun e => ⟨?_, ?_, ?_⟩⟩⟩
    · rw [hb] at q
      (simp (disch := omega) only [nn_lit, nn_m1, nn_add, nn_mul, nn_rem, nn_sub, nn_addm1, nn_lt, nn_le, nn_eq, nn_clamp, nn_in, nn_nem1, nn_m1ne, nn_ltm1, nn_m1lt, nn_m1le, nn_lem1, bz_0, bz_n0, not_false_eq_true, not_true_eq_false, true_and, and_true, false_and, and_false, false_implies, true_implies, forall_const, Nat.reduceMul, Nat.reduceAdd, Nat.reduceSub] at q <;> try simp only [nn_bk] at q)
      omega
    · (simp (disch := omega) only [nn_lit, nn_m1, nn_add, nn_mul, nn_rem, nn_sub, nn_addm1, nn_lt, nn_le, nn_eq, nn_clamp, nn_in, nn_nem1, nn_m1ne, nn_ltm1, nn_m1lt, nn_m1le, nn_lem1, bz_0, bz_n0, not_false_eq_true, not_true_eq_false, true_and, and_true, false_and, and_false, false_implies, true_implies, forall_const, Nat.reduceMul, Nat.reduceAdd, Nat.reduceSub] <;> try simp only [nn_bk])
      omega
    · (simp (disch := omega) only [nn_lit, nn_m1, nn_add, nn_mul, nn_rem, nn_sub, nn_addm1, nn_lt, nn_le, nn_eq, nn_clamp, nn_in, nn_nem1, nn_m1ne, nn_ltm1, nn_m1lt, nn_m1le, nn_lem1, bz_0, bz_n0, not_false_eq_true, not_true_eq_false, true_and, and_true, false_and, and_false, false_implies, true_implies, forall_const, Nat.reduceMul, Nat.reduceAdd, Nat.reduceSub] at e <;> try simp only [nn_bk] at e)
      rw [bf_step (P := mks (mr9 F)) (by omega) (by rw [if_neg (by simp [e0, e])])]
      (simp (disch := omega) only [nn_lit, nn_m1, nn_add, nn_mul, nn_rem, nn_sub, nn_addm1, nn_lt, nn_le, nn_eq, nn_clamp, nn_in, nn_nem1, nn_m1ne, nn_ltm1, nn_m1lt, nn_m1le, nn_lem1, bz_0, bz_n0, not_false_eq_true, not_true_eq_false, true_and, and_true, false_and, and_false, false_implies, true_implies, forall_const, Nat.reduceMul, Nat.reduceAdd, Nat.reduceSub] <;> try simp only [nn_bk])
      exact ih _ (by omega)
    · (simp (disch := omega) only [nn_lit, nn_m1, nn_add, nn_mul, nn_rem, nn_sub, nn_addm1, nn_lt, nn_le, nn_eq, nn_clamp, nn_in, nn_nem1, nn_m1ne, nn_ltm1, nn_m1lt, nn_m1le, nn_lem1, bz_0, bz_n0, not_false_eq_true, not_true_eq_false, true_and, and_true, false_and, and_false, false_implies, true_implies, forall_const, Nat.reduceMul, Nat.reduceAdd, Nat.reduceSub] <;> try simp only [nn_bk])
      omega
    · (simp (disch := omega) only [nn_lit, nn_m1, nn_add, nn_mul, nn_rem, nn_sub, nn_addm1, nn_lt, nn_le, nn_eq, nn_clamp, nn_in, nn_nem1, nn_m1ne, nn_ltm1, nn_m1lt, nn_m1le, nn_lem1, bz_0, bz_n0, not_false_eq_true, not_true_eq_false, true_and, and_true, false_and, and_false, false_implies, true_implies, forall_const, Nat.reduceMul, Nat.reduceAdd, Nat.reduceSub] <;> try simp only [nn_bk])
      omega
    · (simp (disch := omega) only [nn_lit, nn_m1, nn_add, nn_mul, nn_rem, nn_sub, nn_addm1, nn_lt, nn_le, nn_eq, nn_clamp, nn_in, nn_nem1, nn_m1ne, nn_ltm1, nn_m1lt, nn_m1le, nn_lem1, bz_0, bz_n0, not_false_eq_true, not_true_eq_false, true_and, and_true, false_and, and_false, false_implies, true_implies, forall_const, Nat.reduceMul, Nat.reduceAdd, Nat.reduceSub] at e <;> try simp only [nn_bk] at e)
      (simp (disch := omega) only [nn_lit, nn_m1, nn_add, nn_mul, nn_rem, nn_sub, nn_addm1, nn_lt, nn_le, nn_eq, nn_clamp, nn_in, nn_nem1, nn_m1ne, nn_ltm1, nn_m1lt, nn_m1le, nn_lem1, bz_0, bz_n0, not_false_eq_true, not_true_eq_false, true_and, and_true, false_and, and_false, false_implies, true_implies, forall_const, Nat.reduceMul, Nat.reduceAdd, Nat.reduceSub] <;> try simp only [nn_bk])
      refine sp173 (hk r (by omega)) (rg175_42 ⟨fun e1 => rg175_52 ?_, fun e1 => rg175_52 ?_⟩)
      · rw [bz_0] at e1
        rw [bf_step (P := mks (mr9 F)) (by omega) (by rw [if_neg (by simp [e0, e, e1])])]
        (simp (disch := omega) only [nn_lit, nn_m1, nn_add, nn_mul, nn_rem, nn_sub, nn_addm1, nn_lt, nn_le, nn_eq, nn_clamp, nn_in, nn_nem1, nn_m1ne, nn_ltm1, nn_m1lt, nn_m1le, nn_lem1, bz_0, bz_n0, not_false_eq_true, not_true_eq_false, true_and, and_true, false_and, and_false, false_implies, true_implies, forall_const, Nat.reduceMul, Nat.reduceAdd, Nat.reduceSub] <;> try simp only [nn_bk])
        exact ih _ (by omega)
      · rw [bz_n0] at e1
        rw [bf_step (P := mks (mr9 F)) (by omega) (by rw [if_pos (by simp [e0, e, e1])])]
        (simp (disch := omega) only [nn_lit, nn_m1, nn_add, nn_mul, nn_rem, nn_sub, nn_addm1, nn_lt, nn_le, nn_eq, nn_clamp, nn_in, nn_nem1, nn_m1ne, nn_ltm1, nn_m1lt, nn_m1le, nn_lem1, bz_0, bz_n0, not_false_eq_true, not_true_eq_false, true_and, and_true, false_and, and_false, false_implies, true_implies, forall_const, Nat.reduceMul, Nat.reduceAdd, Nat.reduceSub] <;> try simp only [nn_bk])
        exact ih _ (by omega)
theorem sp175 (hn : n ≤ 6) (hb : F 193 1 = Int32.ofNat n) (hk : ∀ r, r < n → kd9 (F 198 r)) (h : Q (some (.int (Int32.ofNat (bf9 (mks (mr9 F)) n)))) (hs t, F, G)) : wp 175 0 [.ref 193, .float 0, .float 0] [] (hs t, F, G) Q := rg175_0 (sp175_4 hn hb hk h n 0 (by omega))
theorem sp130 {v : Int32} (h : Q (some (.int (bz (0 ≤ v ∧ v ≤ F 1 6 - 1)))) (hs t, F, G)) : wp 130 0 [.ref 0, .int v] [] (hs t, F, G) Q := rg130_0 (sp129 (rg130_14 ⟨bz_and, h⟩))
theorem sp150 {v : Int32} (h : Q (some (.int (bz (0 ≤ v ∧ v ≤ F 193 1 - 1)))) (hs t, F, G)) : wp 150 0 [.ref 193, .int v] [] (hs t, F, G) Q := rg150_0 (sp143 (rg150_11 ⟨bz_and, h⟩))
theorem sp131 {v : Int32} (h : Q (some (.int (bz (0 ≤ v ∧ v ≤ 5)))) (hs t, F, G)) : wp 131 0 [.int v] [] (hs t, F, G) Q := rg131_0 (sp129 (rg131_6 ⟨bz_and, h⟩))
end SP
