/-! ===== a tower as if new, and copied: the class's side ===== -/
section SP
variable {t : Nat} {G : ip_G} {Q : Option Value → ip_M → Prop} {k : Nat}
theorem sp243_5 {a n0 : Nat} {v : Int32} {old : Nat → Int32} (ha : (hs t)[a]? = some (1, 0, [n0])) (hn : n0 ≤ 1000) : ∀ d i F, i + d = n0 → (∀ x, F a x = if x < i then v else old x) → (∀ F', (∀ x, F' a x = if x < n0 then v else old x) → (∀ b, b ≠ a → F' b = F b) → Q none (hs t, F', G)) → wp 243 5 [.ref a, .int v, .int (Int32.ofNat i), .int (Int32.ofNat n0)] [] (hs t, F, G) Q := by
  intro d
  induction d with
  | zero =>
    intro i F hi hF h
    obtain rfl : i = n0 := by omega
    refine rg243_5 ha ⟨fun _ => h F hF (fun _ _ => rfl), fun q => ?_⟩
    (simp (disch := omega) only [nn_lit, nn_m1, nn_add, nn_mul, nn_rem, nn_sub, nn_addm1, nn_lt, nn_le, nn_eq, nn_clamp, nn_in, nn_nem1, nn_m1ne, nn_ltm1, nn_m1lt, nn_m1le, nn_lem1, bz_0, bz_n0, not_false_eq_true, not_true_eq_false, true_and, and_true, false_and, and_false, false_implies, true_implies, forall_const, Nat.reduceMul, Nat.reduceAdd, Nat.reduceSub] at q <;> try simp only [nn_bk] at q)
    omega
  | succ d ih =>
    intro i F hi hF h
    refine rg243_5 ha ⟨fun q => ?_, fun _ => ⟨?_, ?_⟩⟩
    · (simp (disch := omega) only [nn_lit, nn_m1, nn_add, nn_mul, nn_rem, nn_sub, nn_addm1, nn_lt, nn_le, nn_eq, nn_clamp, nn_in, nn_nem1, nn_m1ne, nn_ltm1, nn_m1lt, nn_m1le, nn_lem1, bz_0, bz_n0, not_false_eq_true, not_true_eq_false, true_and, and_true, false_and, and_false, false_implies, true_implies, forall_const, Nat.reduceMul, Nat.reduceAdd, Nat.reduceSub] at q <;> try simp only [nn_bk] at q)
      omega
    · (simp (disch := omega) only [nn_lit, nn_m1, nn_add, nn_mul, nn_rem, nn_sub, nn_addm1, nn_lt, nn_le, nn_eq, nn_clamp, nn_in, nn_nem1, nn_m1ne, nn_ltm1, nn_m1lt, nn_m1le, nn_lem1, bz_0, bz_n0, not_false_eq_true, not_true_eq_false, true_and, and_true, false_and, and_false, false_implies, true_implies, forall_const, Nat.reduceMul, Nat.reduceAdd, Nat.reduceSub] <;> try simp only [nn_bk])
      omega
    · (simp (disch := omega) only [nn_lit, nn_m1, nn_add, nn_mul, nn_rem, nn_sub, nn_addm1, nn_lt, nn_le, nn_eq, nn_clamp, nn_in, nn_nem1, nn_m1ne, nn_ltm1, nn_m1lt, nn_m1le, nn_lem1, bz_0, bz_n0, not_false_eq_true, not_true_eq_false, true_and, and_true, false_and, and_false, false_implies, true_implies, forall_const, Nat.reduceMul, Nat.reduceAdd, Nat.reduceSub] <;> try simp only [nn_bk])
      refine ih (i + 1) _ (by omega) (fun x => ?_) (fun F' h1 h2 => h F' h1 (fun b hb => by rw [h2 b hb, u_n hb]))
      rw [u_s, hF]
      by_cases e : x = i
      · rw [if_pos e, if_pos (by omega)]
      · rw [if_neg e]
        by_cases e2 : x < i
        · rw [if_pos e2, if_pos (by omega)]
        · rw [if_neg e2, if_neg (by omega)]
theorem sp243 {F : ip_F} {a n0 : Nat} {v : Int32} (ha : (hs t)[a]? = some (1, 0, [n0])) (hn : n0 ≤ 1000) (h : ∀ F', (∀ x, F' a x = if x < n0 then v else F a x) → (∀ b, b ≠ a → F' b = F b) → Q none (hs t, F', G)) : wp 243 0 [.ref a, .int v, .float 0, .float 0] [] (hs t, F, G) Q :=
  rg243_0 ha (sp243_5 (old := F a) ha hn n0 0 F (by omega) (fun x => by rw [if_neg (by omega)]) h)
theorem sp62_2 (hk : ok7 t k) : ∀ d r F, r + d = 25 → (∀ i, i < r → F (k + 1) i = if i < 12 then -1 else 0) → (∀ F', (∀ i, i < 25 → F' (k + 1) i = if i < 12 then -1 else 0) → (∀ b, b ≠ k + 1 → F' b = F b) → Q none (hs t, F', G)) → wp 62 2 [.ref k, .int (Int32.ofNat r)] [] (hs t, F, G) Q := by
  intro d
  induction d with
  | zero =>
    intro r F hr hF h
    obtain rfl : r = 25 := by omega
    exact rg62_2 hk ⟨fun _ => h F hF (fun _ _ => rfl), fun q => absurd q (by decide)⟩
  | succ d ih =>
    intro r F hr hF h
    have key : ∀ v : Int32, (if r < 12 then -1 else 0) = v → wp 62 24 [.ref k, .int (Int32.ofNat r)] [.int v, .int (Int32.ofNat r), .ref (k + 1)] (hs t, F, G) Q := by
      intro v hv
      refine rg62_24 hk ⟨?_, ?_⟩
      · (simp (disch := omega) only [nn_lit, nn_m1, nn_add, nn_mul, nn_rem, nn_sub, nn_addm1, nn_lt, nn_le, nn_eq, nn_clamp, nn_in, nn_nem1, nn_m1ne, nn_ltm1, nn_m1lt, nn_m1le, nn_lem1, bz_0, bz_n0, not_false_eq_true, not_true_eq_false, true_and, and_true, false_and, and_false, false_implies, true_implies, forall_const, Nat.reduceMul, Nat.reduceAdd, Nat.reduceSub] <;> try simp only [nn_bk])
        omega
      · rw [show Int32.ofNat r + 1 = Int32.ofNat (r + 1) from nn_add r 1, nn_clamp (show r < 2147483648 by omega)]
        refine ih (r + 1) _ (by omega) (fun i hi => ?_) (fun F' h3 h4 => h F' h3 (fun b hb => by rw [h4 b hb, u_n hb]))
        rw [u_s]
        by_cases e : i = r
        · rw [if_pos e, e]
          exact hv.symm
        · rw [if_neg e]
          exact hF i (by omega)
    refine rg62_2 hk ⟨fun q => ?_, fun _ => ⟨fun q => ?_, fun q => ?_⟩⟩
    · (simp (disch := omega) only [nn_lit, nn_m1, nn_add, nn_mul, nn_rem, nn_sub, nn_addm1, nn_lt, nn_le, nn_eq, nn_clamp, nn_in, nn_nem1, nn_m1ne, nn_ltm1, nn_m1lt, nn_m1le, nn_lem1, bz_0, bz_n0, not_false_eq_true, not_true_eq_false, true_and, and_true, false_and, and_false, false_implies, true_implies, forall_const, Nat.reduceMul, Nat.reduceAdd, Nat.reduceSub] at q <;> try simp only [nn_bk] at q)
      omega
    · (simp (disch := omega) only [nn_lit, nn_m1, nn_add, nn_mul, nn_rem, nn_sub, nn_addm1, nn_lt, nn_le, nn_eq, nn_clamp, nn_in, nn_nem1, nn_m1ne, nn_ltm1, nn_m1lt, nn_m1le, nn_lem1, bz_0, bz_n0, not_false_eq_true, not_true_eq_false, true_and, and_true, false_and, and_false, false_implies, true_implies, forall_const, Nat.reduceMul, Nat.reduceAdd, Nat.reduceSub] at q <;> try simp only [nn_bk] at q)
      exact key 0 (if_neg (by omega))
    · (simp (disch := omega) only [nn_lit, nn_m1, nn_add, nn_mul, nn_rem, nn_sub, nn_addm1, nn_lt, nn_le, nn_eq, nn_clamp, nn_in, nn_nem1, nn_m1ne, nn_ltm1, nn_m1lt, nn_m1le, nn_lem1, bz_0, bz_n0, not_false_eq_true, not_true_eq_false, true_and, and_true, false_and, and_false, false_implies, true_implies, forall_const, Nat.reduceMul, Nat.reduceAdd, Nat.reduceSub] at q <;> try simp only [nn_bk] at q)
      exact key (-1) (if_pos (by omega))
theorem sp62 {F : ip_F} (hk : ok7 t k) (h : ∀ F', (∀ i, i < 25 → F' (k + 1) i = if i < 12 then -1 else 0) → (∀ b, b ≠ k + 1 → F' b = F b) → Q none (hs t, F', G)) : wp 62 0 [.ref k, .float 0] [] (hs t, F, G) Q :=
  rg62_0 hk (sp62_2 hk 25 0 F rfl (fun i hi => absurd hi (Nat.not_lt_zero i)) h)
theorem sp63 {F : ip_F} {o : Nat} (hk : ok7 t k) (ho : ok7 t o) (h : ∀ F', (∀ i, i < 25 → F' (k + 1) i = F (o + 1) i) → (∀ b, b ≠ k + 1 → F' b = F b) → Q none (hs t, F', G)) : wp 63 0 [.ref k, .ref o] [] (hs t, F, G) Q := by
  refine rg63_0 hk ho (h _ (fun i hi => ?_) (fun b hb => ur_n hb))
  rw [ur_s, cp_n i hi]
end SP
