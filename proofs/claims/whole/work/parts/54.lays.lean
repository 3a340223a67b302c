/-! ===== the reference lays its ropes ===== -/
def lyW (F : ip_F) (old : Nat → Int32) (p r : Nat) : Nat → Int32 := fun x => if x = p then F 193 2 else if p + 1 ≤ x ∧ x < p + 1 + r then F 196 (x - (p + 1)) else if p + 7 ≤ x ∧ x < p + 7 + r then F 197 (x - (p + 7)) else if p + 13 ≤ x ∧ x < p + 13 + r then F 198 (x - (p + 13)) else if p + 19 ≤ x ∧ x < p + 19 + r then F 199 (x - (p + 19)) else old x
theorem lyW_step {F : ip_F} {old f : Nat → Int32} {p r : Nat} (hr : r < 6) (hf : ∀ x, f x = lyW F old p r x) : ∀ x, ups (ups (ups (ups f (p + 1 + r) (F 196 r)) (p + 7 + r) (F 197 r)) (p + 13 + r) (F 198 r)) (p + 19 + r) (F 199 r) x = lyW F old p (r + 1) x := by
  intro x
  unfold ups
  rw [hf]
  unfold lyW
  by_cases e1 : x = p + 1 + r
  · subst e1
    rw [if_neg (by omega), if_neg (by omega), if_neg (by omega), if_pos rfl, if_neg (by omega), if_pos (by omega), show p + 1 + r - (p + 1) = r by omega]
  · by_cases e2 : x = p + 7 + r
    · subst e2
      rw [if_neg (by omega), if_neg (by omega), if_pos rfl, if_neg (by omega), if_neg (by omega), if_pos (by omega), show p + 7 + r - (p + 7) = r by omega]
    · by_cases e3 : x = p + 13 + r
      · subst e3
        rw [if_neg (by omega), if_pos rfl, if_neg (by omega), if_neg (by omega), if_neg (by omega), if_pos (by omega), show p + 13 + r - (p + 13) = r by omega]
      · by_cases e4 : x = p + 19 + r
        · subst e4
          rw [if_pos rfl, if_neg (by omega), if_neg (by omega), if_neg (by omega), if_neg (by omega), if_pos (by omega), show p + 19 + r - (p + 19) = r by omega]
        · rw [if_neg e4, if_neg e3, if_neg e2, if_neg e1]
          have i1 : (p + 1 ≤ x ∧ x < p + 1 + (r + 1)) ↔ (p + 1 ≤ x ∧ x < p + 1 + r) := by omega
          have i2 : (p + 7 ≤ x ∧ x < p + 7 + (r + 1)) ↔ (p + 7 ≤ x ∧ x < p + 7 + r) := by omega
          have i3 : (p + 13 ≤ x ∧ x < p + 13 + (r + 1)) ↔ (p + 13 ≤ x ∧ x < p + 13 + r) := by omega
          have i4 : (p + 19 ≤ x ∧ x < p + 19 + (r + 1)) ↔ (p + 19 ≤ x ∧ x < p + 19 + r) := by omega
          simp only [i1, i2, i3, i4]
/-- what is laid is the ropes, as the class lays them -/
theorem lyW_ly {F : ip_F} {old f : Nat → Int32} {p : Nat} (hf : ∀ x, f x = lyW F old p 6 x) {i : Nat} (hi : i < 25) : ly9 f p i = mr9 F i := by
  unfold ly9 mr9
  by_cases e : i = 24
  · subst e
    rw [if_pos rfl, hf, lyW, if_pos rfl]
    rfl
  · rw [if_neg e, hf, lyW, if_neg (by omega)]
    by_cases e6 : i < 6
    · rw [if_pos (by omega), if_pos e6, show p + 1 + i - (p + 1) = i by omega]
    · rw [if_neg (by omega), if_neg e6]
      by_cases e12 : i < 12
      · rw [if_pos (by omega), if_pos e12, show p + 1 + i - (p + 7) = i - 6 by omega]
      · rw [if_neg (by omega), if_neg e12]
        by_cases e18 : i < 18
        · rw [if_pos (by omega), if_pos e18, show p + 1 + i - (p + 13) = i - 12 by omega]
        · rw [if_neg (by omega), if_neg e18, if_pos (by omega), if_pos (by omega), show p + 1 + i - (p + 19) = i - 18 by omega]
theorem lyW_out {F : ip_F} {old f : Nat → Int32} {p : Nat} (hf : ∀ x, f x = lyW F old p 6 x) {x : Nat} (hx : x < p ∨ p + 25 ≤ x) : f x = old x := by
  rw [hf, lyW, if_neg (by omega), if_neg (by omega), if_neg (by omega), if_neg (by omega), if_neg (by omega)]
section SP
variable {t : Nat} {G : ip_G} {Q : Option Value → ip_M → Prop}
theorem sp187_9 {F0 : ip_F} {old : Nat → Int32} {a n1 p : Nat} (ha : (hs t)[a]? = some (1, 0, [n1])) (hp : p + 25 ≤ n1) (hn1 : n1 ≤ 1000) (ha2 : a < 193 ∨ 199 < a) : ∀ d r F, r + d = 6 → (∀ x, F a x = lyW F0 old p r x) → (∀ b, b ≠ a → F b = F0 b) → (∀ F', (∀ x, F' a x = lyW F0 old p 6 x) → (∀ b, b ≠ a → F' b = F0 b) → Q none (hs t, F', G)) → wp 187 9 [.ref 193, .ref a, .int (Int32.ofNat p), .int (Int32.ofNat r)] [] (hs t, F, G) Q := by
  intro d
  induction d with
  | zero =>
    intro r F hr hF hfr h
    obtain rfl : r = 6 := by omega
    exact rg187_9 ha ⟨fun _ => h F hF hfr, fun q => absurd q (by decide)⟩
  | succ d ih =>
    intro r F hr hF hfr h
    refine rg187_9 ha ⟨fun q => ?_, fun _ => ⟨?_, ?_, ?_, ?_, ?_, ?_, ?_, ?_, ?_⟩⟩
    · (simp (disch := omega) only [nn_lit, nn_m1, nn_add, nn_mul, nn_rem, nn_sub, nn_addm1, nn_lt, nn_le, nn_eq, nn_clamp, nn_in, nn_nem1, nn_m1ne, nn_ltm1, nn_m1lt, nn_m1le, nn_lem1, bz_0, bz_n0, not_false_eq_true, not_true_eq_false, true_and, and_true, false_and, and_false, false_implies, true_implies, forall_const, Nat.reduceMul, Nat.reduceAdd, Nat.reduceSub] at q <;> try simp only [nn_bk] at q)
      omega
    · (simp (disch := omega) only [nn_lit, nn_m1, nn_add, nn_mul, nn_rem, nn_sub, nn_addm1, nn_lt, nn_le, nn_eq, nn_clamp, nn_in, nn_nem1, nn_m1ne, nn_ltm1, nn_m1lt, nn_m1le, nn_lem1, bz_0, bz_n0, not_false_eq_true, not_true_eq_false, true_and, and_true, false_and, and_false, false_implies, true_implies, forall_const, Nat.reduceMul, Nat.reduceAdd, Nat.reduceSub] <;> try simp only [nn_bk])
      omega
    · (simp (disch := omega) only [nn_lit, nn_m1, nn_add, nn_mul, nn_rem, nn_sub, nn_addm1, nn_lt, nn_le, nn_eq, nn_clamp, nn_in, nn_nem1, nn_m1ne, nn_ltm1, nn_m1lt, nn_m1le, nn_lem1, bz_0, bz_n0, not_false_eq_true, not_true_eq_false, true_and, and_true, false_and, and_false, false_implies, true_implies, forall_const, Nat.reduceMul, Nat.reduceAdd, Nat.reduceSub] <;> try simp only [nn_bk])
      omega
    · (simp (disch := omega) only [nn_lit, nn_m1, nn_add, nn_mul, nn_rem, nn_sub, nn_addm1, nn_lt, nn_le, nn_eq, nn_clamp, nn_in, nn_nem1, nn_m1ne, nn_ltm1, nn_m1lt, nn_m1le, nn_lem1, bz_0, bz_n0, not_false_eq_true, not_true_eq_false, true_and, and_true, false_and, and_false, false_implies, true_implies, forall_const, Nat.reduceMul, Nat.reduceAdd, Nat.reduceSub] <;> try simp only [nn_bk])
      omega
    · (simp (disch := omega) only [nn_lit, nn_m1, nn_add, nn_mul, nn_rem, nn_sub, nn_addm1, nn_lt, nn_le, nn_eq, nn_clamp, nn_in, nn_nem1, nn_m1ne, nn_ltm1, nn_m1lt, nn_m1le, nn_lem1, bz_0, bz_n0, not_false_eq_true, not_true_eq_false, true_and, and_true, false_and, and_false, false_implies, true_implies, forall_const, Nat.reduceMul, Nat.reduceAdd, Nat.reduceSub] <;> try simp only [nn_bk])
      omega
    · (simp (disch := omega) only [nn_lit, nn_m1, nn_add, nn_mul, nn_rem, nn_sub, nn_addm1, nn_lt, nn_le, nn_eq, nn_clamp, nn_in, nn_nem1, nn_m1ne, nn_ltm1, nn_m1lt, nn_m1le, nn_lem1, bz_0, bz_n0, not_false_eq_true, not_true_eq_false, true_and, and_true, false_and, and_false, false_implies, true_implies, forall_const, Nat.reduceMul, Nat.reduceAdd, Nat.reduceSub] <;> try simp only [nn_bk])
      omega
    · (simp (disch := omega) only [nn_lit, nn_m1, nn_add, nn_mul, nn_rem, nn_sub, nn_addm1, nn_lt, nn_le, nn_eq, nn_clamp, nn_in, nn_nem1, nn_m1ne, nn_ltm1, nn_m1lt, nn_m1le, nn_lem1, bz_0, bz_n0, not_false_eq_true, not_true_eq_false, true_and, and_true, false_and, and_false, false_implies, true_implies, forall_const, Nat.reduceMul, Nat.reduceAdd, Nat.reduceSub] <;> try simp only [nn_bk])
      omega
    · (simp (disch := omega) only [nn_lit, nn_m1, nn_add, nn_mul, nn_rem, nn_sub, nn_addm1, nn_lt, nn_le, nn_eq, nn_clamp, nn_in, nn_nem1, nn_m1ne, nn_ltm1, nn_m1lt, nn_m1le, nn_lem1, bz_0, bz_n0, not_false_eq_true, not_true_eq_false, true_and, and_true, false_and, and_false, false_implies, true_implies, forall_const, Nat.reduceMul, Nat.reduceAdd, Nat.reduceSub] <;> try simp only [nn_bk])
      omega
    · (simp (disch := omega) only [nn_lit, nn_m1, nn_add, nn_mul, nn_rem, nn_sub, nn_addm1, nn_lt, nn_le, nn_eq, nn_clamp, nn_in, nn_nem1, nn_m1ne, nn_ltm1, nn_m1lt, nn_m1le, nn_lem1, bz_0, bz_n0, not_false_eq_true, not_true_eq_false, true_and, and_true, false_and, and_false, false_implies, true_implies, forall_const, Nat.reduceMul, Nat.reduceAdd, Nat.reduceSub] <;> try simp only [nn_bk])
      omega
    · (simp (disch := omega) only [nn_lit, nn_m1, nn_add, nn_mul, nn_rem, nn_sub, nn_addm1, nn_lt, nn_le, nn_eq, nn_clamp, nn_in, nn_nem1, nn_m1ne, nn_ltm1, nn_m1lt, nn_m1le, nn_lem1, bz_0, bz_n0, not_false_eq_true, not_true_eq_false, true_and, and_true, false_and, and_false, false_implies, true_implies, forall_const, Nat.reduceMul, Nat.reduceAdd, Nat.reduceSub] <;> try simp only [nn_bk])
      simp only [u_n (show 196 ≠ a by omega), u_n (show 197 ≠ a by omega), u_n (show 198 ≠ a by omega), u_n (show 199 ≠ a by omega)]
      refine ih (r + 1) _ (by omega) (fun x => ?_) (fun b hb => by rw [u_n hb, u_n hb, u_n hb, u_n hb, hfr b hb]) h
      rw [u_ups, u_ups, u_ups, u_ups, hfr 196 (by omega), hfr 197 (by omega), hfr 198 (by omega), hfr 199 (by omega)]
      exact lyW_step (by omega) hF x
theorem sp187 {F : ip_F} {a n1 p : Nat} (ha : (hs t)[a]? = some (1, 0, [n1])) (hp : p + 25 ≤ n1) (hn1 : n1 ≤ 1000) (ha2 : a < 193 ∨ 199 < a) (h : ∀ F', (∀ i, i < 25 → ly9 (F' a) p i = mr9 F i) → (∀ x, x < p ∨ p + 25 ≤ x → F' a x = F a x) → (∀ b, b ≠ a → F' b = F b) → Q none (hs t, F', G)) : wp 187 0 [.ref 193, .ref a, .int (Int32.ofNat p), .float 0] [] (hs t, F, G) Q := by
  refine rg187_0 ha ⟨?_, ?_⟩
  · (simp (disch := omega) only [nn_lit, nn_m1, nn_add, nn_mul, nn_rem, nn_sub, nn_addm1, nn_lt, nn_le, nn_eq, nn_clamp, nn_in, nn_nem1, nn_m1ne, nn_ltm1, nn_m1lt, nn_m1le, nn_lem1, bz_0, bz_n0, not_false_eq_true, not_true_eq_false, true_and, and_true, false_and, and_false, false_implies, true_implies, forall_const, Nat.reduceMul, Nat.reduceAdd, Nat.reduceSub] <;> try simp only [nn_bk])
    omega
  · (simp (disch := omega) only [nn_lit, nn_m1, nn_add, nn_mul, nn_rem, nn_sub, nn_addm1, nn_lt, nn_le, nn_eq, nn_clamp, nn_in, nn_nem1, nn_m1ne, nn_ltm1, nn_m1lt, nn_m1le, nn_lem1, bz_0, bz_n0, not_false_eq_true, not_true_eq_false, true_and, and_true, false_and, and_false, false_implies, true_implies, forall_const, Nat.reduceMul, Nat.reduceAdd, Nat.reduceSub] <;> try simp only [nn_bk])
    refine sp187_9 (F0 := F) (old := F a) ha hp hn1 ha2 6 0 _ rfl (fun x => ?_) (fun b hb => u_n hb) (fun F' h1 h2 => h F' (fun i hi => lyW_ly h1 hi) (fun x hx => lyW_out h1 hx) h2)
    rw [u_s, lyW]
    by_cases e : x = p
    · rw [if_pos e, if_pos e]
    · rw [if_neg e, if_neg e, if_neg (by omega), if_neg (by omega), if_neg (by omega), if_neg (by omega)]
end SP
