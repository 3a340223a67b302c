/-! ===== the reference takes ropes that it laid ===== -/
section SP
variable {t : Nat} {G : ip_G} {Q : Option Value → ip_M → Prop}
theorem sp188_9 {F0 : ip_F} {a n1 p : Nat} (ha : (hs t)[a]? = some (1, 0, [n1])) (hp : p + 25 ≤ n1) (hn1 : n1 ≤ 1000) (ha2 : a < 193 ∨ 199 < a) : ∀ d r F, r + d = 6 → (∀ i, i < r → F 196 i = F0 a (p + 1 + i) ∧ F 197 i = F0 a (p + 7 + i) ∧ F 198 i = F0 a (p + 13 + i) ∧ F 199 i = F0 a (p + 19 + i)) → (∀ b, (b < 196 ∨ 199 < b) → F b = F0 b) → (∀ F', (∀ i, i < 6 → F' 196 i = F0 a (p + 1 + i) ∧ F' 197 i = F0 a (p + 7 + i) ∧ F' 198 i = F0 a (p + 13 + i) ∧ F' 199 i = F0 a (p + 19 + i)) → (∀ b, (b < 196 ∨ 199 < b) → F' b = F0 b) → Q none (hs t, F', G)) → wp 188 9 [.ref 193, .ref a, .int (Int32.ofNat p), .int (Int32.ofNat r)] [] (hs t, F, G) Q := by
  intro d
  induction d with
  | zero =>
    intro r F hr hF hfr h
    obtain rfl : r = 6 := by omega
    exact rg188_9 ha ⟨fun _ => h F hF hfr, fun q => absurd q (by decide)⟩
  | succ d ih =>
    intro r F hr hF hfr h
    refine rg188_9 ha ⟨fun q => ?_, fun _ => ⟨?_, ?_, ?_, ?_, ?_, ?_, ?_, ?_, ?_⟩⟩
    · (simp (disch := omega) only [nn_lit, nn_m1, nn_add, nn_mul, nn_rem, nn_sub, nn_addm1, nn_lt, nn_le, nn_eq, nn_clamp, nn_in, nn_nem1, nn_m1ne, nn_ltm1, nn_m1lt, nn_m1le, nn_lem1, bz_0, bz_n0, not_false_eq_true, not_true_eq_false, true_and, and_true, false_and, and_false, false_implies, true_implies, forall_const, Nat.reduceMul, Nat.reduceAdd, Nat.reduceSub] at q <;> try simp only [nn_bk] at q)
      omega
    · (simp (disch := omega) only [nn_lit, nn_m1, nn_add, nn_mul, nn_rem, nn_sub, nn_addm1, nn_lt, nn_le, nn_eq, nn_clamp, nn_in, nn_nem1, nn_m1ne, nn_ltm1, nn_m1lt, nn_m1le, nn_lem1, bz_0, bz_n0, not_false_eq_true, not_true_eq_false, true_and, and_true, false_and, and_false, false_implies, true_implies, forall_const, Nat.reduceMul, Nat.reduceAdd, Nat.reduceSub] <;> try simp only [nn_bk])
      omega
    · (simp (disch := omega) only [nn_lit, nn_m1, nn_add, nn_mul, nn_rem, nn_sub, nn_addm1, nn_lt, nn_le, nn_eq, nn_clamp, nn_in, nn_nem1, nn_m1ne, nn_ltm1, nn_m1lt, nn_m1le, nn_lem1, bz_0, bz_n0, not_false_eq_true, not_true_eq_false, true_and, and_true, false_and, and_false, false_implies, true_implies, forall_const, Nat.reduceMul, Nat.reduceAdd, Nat.reduceSub] <;> try simp only [nn_bk])
      omega
    · (simp (disch := omega) only [nn_lit, nn_m1, nn_add, nn_mul, nn_rem, nn_sub, nn_addm1, nn_lt, nn_le, nn_eq, nn_clamp, nn_in, nn_nem1, nn_m1ne, nn_ltm1, nn_m1lt, nn_m1le, nn_lem1, bz_0, bz_n0, not_false_eq_true, not_true_eq_false, true_and, and_true, false_and, and_false, false_implies, true_implies, forall_const, Nat.reduceMul, Nat.reduceAdd, Nat.reduceSub] <;> try simp only [nn_bk])
      omega
    · (simp (disch := omega) only [nn_lit, nn_m1, nn_add, nn_mul, nn_rem, nn_sub, nn_addm1, nn_lt, nn_le, nn_eq, nn_clamp, nn_in, nn_nem1, nn_m1ne, nn_ltm1, nn_m1lt, nn_m1le, nn_lem1, bz_0, bz_n0, not_false_eq_true, not_true_eq_false, true_and, and_true, false_and, and_false, false_implies, true_implies, forall_const, Nat.reduceMul, Nat.reduceAdd, Nat.reduceSub] <;> try simp only [nn_bk])
      omega
    · (simp (disch := omega) only [nn_lit, nn_m1, nn_add, nn_mul, nn_rem, nn_sub, nn_addm1, nn_lt, nn_le, nn_eq, nn_clamp, nn_in, nn_nem1, nn_m1ne, nn_ltm1, nn_m1lt, nn_m1le, nn_lem1, bz_0, bz_n0, not_false_eq_true, not_true_eq_false, true_and, and_true, false_and, and_false, false_implies, true_implies, forall_const, Nat.reduceMul, Nat.reduceAdd, Nat.reduceSub] <;> try simp only [nn_bk])
      omega
    · (simp (disch := omega) only [nn_lit, nn_m1, nn_add, nn_mul, nn_rem, nn_sub, nn_addm1, nn_lt, nn_le, nn_eq, nn_clamp, nn_in, nn_nem1, nn_m1ne, nn_ltm1, nn_m1lt, nn_m1le, nn_lem1, bz_0, bz_n0, not_false_eq_true, not_true_eq_false, true_and, and_true, false_and, and_false, false_implies, true_implies, forall_const, Nat.reduceMul, Nat.reduceAdd, Nat.reduceSub] <;> try simp only [nn_bk])
      omega
    · (simp (disch := omega) only [nn_lit, nn_m1, nn_add, nn_mul, nn_rem, nn_sub, nn_addm1, nn_lt, nn_le, nn_eq, nn_clamp, nn_in, nn_nem1, nn_m1ne, nn_ltm1, nn_m1lt, nn_m1le, nn_lem1, bz_0, bz_n0, not_false_eq_true, not_true_eq_false, true_and, and_true, false_and, and_false, false_implies, true_implies, forall_const, Nat.reduceMul, Nat.reduceAdd, Nat.reduceSub] <;> try simp only [nn_bk])
      omega
    · (simp (disch := omega) only [nn_lit, nn_m1, nn_add, nn_mul, nn_rem, nn_sub, nn_addm1, nn_lt, nn_le, nn_eq, nn_clamp, nn_in, nn_nem1, nn_m1ne, nn_ltm1, nn_m1lt, nn_m1le, nn_lem1, bz_0, bz_n0, not_false_eq_true, not_true_eq_false, true_and, and_true, false_and, and_false, false_implies, true_implies, forall_const, Nat.reduceMul, Nat.reduceAdd, Nat.reduceSub] <;> try simp only [nn_bk])
      omega
    · (simp (disch := omega) only [nn_lit, nn_m1, nn_add, nn_mul, nn_rem, nn_sub, nn_addm1, nn_lt, nn_le, nn_eq, nn_clamp, nn_in, nn_nem1, nn_m1ne, nn_ltm1, nn_m1lt, nn_m1le, nn_lem1, bz_0, bz_n0, not_false_eq_true, not_true_eq_false, true_and, and_true, false_and, and_false, false_implies, true_implies, forall_const, Nat.reduceMul, Nat.reduceAdd, Nat.reduceSub] <;> try simp only [nn_bk])
      simp only [u_n (show a ≠ 196 by omega), u_n (show a ≠ 197 by omega), u_n (show a ≠ 198 by omega), u_n (show a ≠ 199 by omega), hfr a (by omega)]
      refine ih (r + 1) _ (by omega) (fun i hi => ?_) (fun b hb => by rw [u_n (by omega), u_n (by omega), u_n (by omega), u_n (by omega), hfr b hb]) h
      rw [u_n (show 196 ≠ 199 by decide), u_n (show 196 ≠ 198 by decide), u_n (show 196 ≠ 197 by decide), u_s, u_n (show 197 ≠ 199 by decide), u_n (show 197 ≠ 198 by decide), u_s, u_n (show 198 ≠ 199 by decide), u_s, u_s]
      by_cases e : i = r
      · subst e
        rw [if_pos rfl, if_pos rfl, if_pos rfl, if_pos rfl]
        exact ⟨rfl, rfl, rfl, rfl⟩
      · rw [if_neg e, if_neg e, if_neg e, if_neg e, u_n (show 197 ≠ 196 by decide), u_n (show 198 ≠ 197 by decide), u_n (show 198 ≠ 196 by decide), u_n (show 199 ≠ 198 by decide), u_n (show 199 ≠ 197 by decide), u_n (show 199 ≠ 196 by decide)]
        exact hF i (by omega)
theorem sp188 {F : ip_F} {a n1 p : Nat} (ha : (hs t)[a]? = some (1, 0, [n1])) (hp : p + 25 ≤ n1) (hn1 : n1 ≤ 1000) (ha2 : a < 193 ∨ 199 < a) (h : ∀ F', (∀ i, i < 25 → mr9 F' i = ly9 (F a) p i) → (∀ i, i < 6 → F' 198 i = F a (p + 13 + i)) → F' 193 = ups (F 193) 2 (F a p) → (∀ b, b ≠ 193 → (b < 196 ∨ 199 < b) → F' b = F b) → Q none (hs t, F', G)) : wp 188 0 [.ref 193, .ref a, .int (Int32.ofNat p), .float 0] [] (hs t, F, G) Q := by
  refine rg188_0 ha ⟨?_, ?_⟩
  · (simp (disch := omega) only [nn_lit, nn_m1, nn_add, nn_mul, nn_rem, nn_sub, nn_addm1, nn_lt, nn_le, nn_eq, nn_clamp, nn_in, nn_nem1, nn_m1ne, nn_ltm1, nn_m1lt, nn_m1le, nn_lem1, bz_0, bz_n0, not_false_eq_true, not_true_eq_false, true_and, and_true, false_and, and_false, false_implies, true_implies, forall_const, Nat.reduceMul, Nat.reduceAdd, Nat.reduceSub] <;> try simp only [nn_bk])
    omega
  · (simp (disch := omega) only [nn_lit, nn_m1, nn_add, nn_mul, nn_rem, nn_sub, nn_addm1, nn_lt, nn_le, nn_eq, nn_clamp, nn_in, nn_nem1, nn_m1ne, nn_ltm1, nn_m1lt, nn_m1le, nn_lem1, bz_0, bz_n0, not_false_eq_true, not_true_eq_false, true_and, and_true, false_and, and_false, false_implies, true_implies, forall_const, Nat.reduceMul, Nat.reduceAdd, Nat.reduceSub] <;> try simp only [nn_bk])
    refine sp188_9 (F0 := ip_u F 193 2 (F a p)) ha hp hn1 ha2 6 0 _ rfl (fun i hi => absurd hi (by omega)) (fun _ _ => rfl) (fun F' h1 h2 => h F' (fun i hi => ?_) (fun i hi => by rw [(h1 i hi).2.2.1, u_n (by omega)]) (by rw [h2 193 (by omega), u_ups]) (fun b hb hb2 => by rw [h2 b hb2, u_n hb]))
    have ea : ip_u F 193 2 (F a p) a = F a := u_n (by omega)
    rw [ea] at h1
    unfold ly9
    by_cases e : i = 24
    · subst e
      rw [if_pos rfl, mr_24, h2 193 (by omega), u_s, if_pos rfl]
    · rw [if_neg e]
      by_cases e6 : i < 6
      · rw [mr_0 e6, (h1 i e6).1]
      · by_cases e12 : i < 12
        · obtain ⟨r, rfl⟩ : ∃ r, i = 6 + r := ⟨i - 6, by omega⟩
          rw [mr_6 (by omega), (h1 r (by omega)).2.1]
          congr 1
          omega
        · by_cases e18 : i < 18
          · obtain ⟨r, rfl⟩ : ∃ r, i = 12 + r := ⟨i - 12, by omega⟩
            rw [mr_12 (by omega), (h1 r (by omega)).2.2.1]
            congr 1
            omega
          · obtain ⟨r, rfl⟩ : ∃ r, i = 18 + r := ⟨i - 18, by omega⟩
            rw [mr_18 (by omega), (h1 r (by omega)).2.2.2]
            congr 1
            omega
end SP
