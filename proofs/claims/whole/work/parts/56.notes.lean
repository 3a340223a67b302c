/-! ===== the reference keeps its ropes for an undo ===== -/
section SP
variable {t : Nat} {G : ip_G} {Q : Option Value → ip_M → Prop}
theorem sp189_11 {F0 : ip_F} : ∀ d k F, k + d = 175 → (∀ x, F 207 x = if x < k then F0 207 (x + 25) else F0 207 x) → (∀ b, b ≠ 207 → F b = F0 b) → (∀ F' v, (∀ x, F' 207 x = if x < 175 then F0 207 (x + 25) else F0 207 x) → F' 193 = ups (F0 193) 22 (F0 193 22 - 1) → (∀ b, b ≠ 207 → b ≠ 193 → F' b = F0 b) → wp 189 49 [.ref 193, v] [] (hs t, F', G) Q) → wp 189 11 [.ref 193, .int (Int32.ofNat k)] [] (hs t, F, G) Q := by
  intro d
  induction d with
  | zero =>
    intro k F hk hF hfr h
    obtain rfl : k = 175 := by omega
    refine rg189_11 ⟨fun _ => h _ _ (fun x => ?_) ?_ (fun b hb hb2 => by rw [u_n hb2, hfr b hb]), fun q => absurd q (by decide)⟩
    · rw [u_n (by decide), hF x]
    · rw [u_ups, hfr 193 (by decide)]
  | succ d ih =>
    intro k F hk hF hfr h
    refine rg189_11 ⟨fun q => ?_, fun _ => ⟨?_, ?_, ?_⟩⟩
    · (simp (disch := omega) only [nn_lit, nn_m1, nn_add, nn_mul, nn_rem, nn_sub, nn_addm1, nn_lt, nn_le, nn_eq, nn_clamp, nn_in, nn_nem1, nn_m1ne, nn_ltm1, nn_m1lt, nn_m1le, nn_lem1, bz_0, bz_n0, not_false_eq_true, not_true_eq_false, true_and, and_true, false_and, and_false, false_implies, true_implies, forall_const, Nat.reduceMul, Nat.reduceAdd, Nat.reduceSub] at q <;> try simp only [nn_bk] at q)
      omega
    · (simp (disch := omega) only [nn_lit, nn_m1, nn_add, nn_mul, nn_rem, nn_sub, nn_addm1, nn_lt, nn_le, nn_eq, nn_clamp, nn_in, nn_nem1, nn_m1ne, nn_ltm1, nn_m1lt, nn_m1le, nn_lem1, bz_0, bz_n0, not_false_eq_true, not_true_eq_false, true_and, and_true, false_and, and_false, false_implies, true_implies, forall_const, Nat.reduceMul, Nat.reduceAdd, Nat.reduceSub] <;> try simp only [nn_bk])
      omega
    · (simp (disch := omega) only [nn_lit, nn_m1, nn_add, nn_mul, nn_rem, nn_sub, nn_addm1, nn_lt, nn_le, nn_eq, nn_clamp, nn_in, nn_nem1, nn_m1ne, nn_ltm1, nn_m1lt, nn_m1le, nn_lem1, bz_0, bz_n0, not_false_eq_true, not_true_eq_false, true_and, and_true, false_and, and_false, false_implies, true_implies, forall_const, Nat.reduceMul, Nat.reduceAdd, Nat.reduceSub] <;> try simp only [nn_bk])
      omega
    · (simp (disch := omega) only [nn_lit, nn_m1, nn_add, nn_mul, nn_rem, nn_sub, nn_addm1, nn_lt, nn_le, nn_eq, nn_clamp, nn_in, nn_nem1, nn_m1ne, nn_ltm1, nn_m1lt, nn_m1le, nn_lem1, bz_0, bz_n0, not_false_eq_true, not_true_eq_false, true_and, and_true, false_and, and_false, false_implies, true_implies, forall_const, Nat.reduceMul, Nat.reduceAdd, Nat.reduceSub] <;> try simp only [nn_bk])
      refine ih (k + 1) _ (by omega) (fun x => ?_) (fun b hb => by rw [u_n hb, hfr b hb]) h
      rw [u_s]
      by_cases e : x = k
      · subst e
        rw [if_pos rfl, hF, if_neg (by omega), if_pos (by omega)]
      · rw [if_neg e, hF]
        by_cases e2 : x < k
        · rw [if_pos e2, if_pos (by omega)]
        · rw [if_neg e2, if_neg (by omega)]
theorem ly_congr {f g : Nat → Int32} {p q : Nat} (h : ∀ i, i < 25 → f (p + i) = g (q + i)) {i : Nat} (hi : i < 25) : ly9 f p i = ly9 g q i := by
  unfold ly9
  by_cases e : i = 24
  · rw [if_pos e, if_pos e]
    exact h 0 (by omega)
  · rw [if_neg e, if_neg e, show p + 1 + i = p + (i + 1) by omega, show q + 1 + i = q + (i + 1) by omega]
    exact h (i + 1) (by omega)
theorem mr_eq22 {F F' : ip_F} (h : ∀ b, b ≠ 207 → b ≠ 193 → F' b = F b) (h1 : F' 193 2 = F 193 2) : mr9 F' = mr9 F := by
  funext i
  unfold mr9
  rw [h 196 (by decide) (by decide), h 197 (by decide) (by decide), h 198 (by decide) (by decide), h 199 (by decide) (by decide), h1]
theorem sp189 {F : ip_F} {u : Nat} (hu : u ≤ 8) (hu2 : F 193 22 = Int32.ofNat u) (h : ∀ F' u', u' ≤ 8 → 1 ≤ u' → (u < 8 → u' = u + 1) → (u = 8 → u' = 8) → F' 193 22 = Int32.ofNat u' → (∀ j, j < u' → ∀ i, i < 25 → ly9 (F' 207) (25 * j) i = if j + 1 = u' then mr9 F i else if u < 8 then ly9 (F 207) (25 * j) i else ly9 (F 207) (25 * (j + 1)) i) → (∀ x, x ≠ 22 → F' 193 x = F 193 x) → (∀ b, b ≠ 193 → b ≠ 207 → F' b = F b) → Q none (hs t, F', G)) : wp 189 0 [.ref 193, .float 0] [] (hs t, F, G) Q := by
  have fin : ∀ (F1 : ip_F) v w, v < 8 → F1 193 22 = Int32.ofNat v → (∀ F', F' 193 = ups (F1 193) 22 (Int32.ofNat (v + 1)) → (∀ i, i < 25 → ly9 (F' 207) (25 * v) i = mr9 F1 i) → (∀ x, x < 25 * v ∨ 25 * v + 25 ≤ x → F' 207 x = F1 207 x) → (∀ b, b ≠ 193 → b ≠ 207 → F' b = F1 b) → Q none (hs t, F', G)) → wp 189 49 [.ref 193, w] [] (hs t, F1, G) Q := by
    intro F1 v w hv hv2 hh
    refine rg189_49 ?_
    rw [hv2, show (25 : Int32) * Int32.ofNat v = Int32.ofNat (25 * v) from nn_mul 25 v]
    refine sp187 (a := 207) (n1 := 200) rfl (by omega) (by omega) (by omega) (fun F2 h1 h2 h3 => rg189_64 (hh _ ?_ (fun i hi => ?_) (fun x hx => ?_) (fun b hb hb2 => by rw [u_n hb, h3 b hb2])))
    · rw [u_ups, h3 193 (by decide), hv2]
      congr 1
      exact nn_add v 1
    · rw [u_n (by decide)]
      exact h1 i hi
    · rw [u_n (by decide)]
      exact h2 x hx
  refine rg189_0 ⟨fun q => ?_, fun q => ?_⟩
  · rw [hu2] at q
    (simp (disch := omega) only [nn_lit, nn_m1, nn_add, nn_mul, nn_rem, nn_sub, nn_addm1, nn_lt, nn_le, nn_eq, nn_clamp, nn_in, nn_nem1, nn_m1ne, nn_ltm1, nn_m1lt, nn_m1le, nn_lem1, bz_0, bz_n0, not_false_eq_true, not_true_eq_false, true_and, and_true, false_and, and_false, false_implies, true_implies, forall_const, Nat.reduceMul, Nat.reduceAdd, Nat.reduceSub] at q <;> try simp only [nn_bk] at q)
    refine fin F u _ (by omega) hu2 (fun F' g1 g2 g3 g4 => h F' (u + 1) (by omega) (by omega) (fun _ => rfl) (fun e => absurd e q) (by rw [g1, ups, if_pos rfl]) (fun j hj i hi => ?_) (fun x hx => by rw [g1, ups, if_neg hx]) g4)
    by_cases e : j = u
    · subst e
      rw [if_pos rfl]
      exact g2 i hi
    · rw [if_neg (by omega), if_pos (by omega)]
      exact ly_congr (fun z hz => g3 _ (by omega)) hi
  · rw [hu2] at q
    (simp (disch := omega) only [nn_lit, nn_m1, nn_add, nn_mul, nn_rem, nn_sub, nn_addm1, nn_lt, nn_le, nn_eq, nn_clamp, nn_in, nn_nem1, nn_m1ne, nn_ltm1, nn_m1lt, nn_m1le, nn_lem1, bz_0, bz_n0, not_false_eq_true, not_true_eq_false, true_and, and_true, false_and, and_false, false_implies, true_implies, forall_const, Nat.reduceMul, Nat.reduceAdd, Nat.reduceSub] at q <;> try simp only [nn_bk] at q)
    subst q
    refine sp189_11 (F0 := F) 175 0 F rfl (fun x => by rw [if_neg (by omega)]) (fun _ _ => rfl) (fun F1 w h1 h2 h3 => ?_)
    have e22 : F1 193 22 = Int32.ofNat 7 := by
      rw [h2, ups, if_pos rfl, hu2]
      rfl
    have emr : mr9 F1 = mr9 F := mr_eq22 h3 (by rw [h2, ups, if_neg (by decide)])
    refine fin F1 7 _ (by omega) e22 (fun F' g1 g2 g3 g4 => h F' 8 (by omega) (by omega) (fun e => by omega) (fun _ => rfl) (by rw [g1, ups, if_pos rfl]) (fun j hj i hi => ?_) (fun x hx => by rw [g1, ups, if_neg hx, h2, ups, if_neg hx]) (fun b hb hb2 => by rw [g4 b hb hb2, h3 b hb2 hb]))
    by_cases e : j = 7
    · subst e
      rw [if_pos rfl, ← emr]
      exact g2 i hi
    · rw [if_neg (by omega), if_neg (by omega)]
      refine ly_congr (fun z hz => ?_) hi
      rw [g3 _ (by omega), h1, if_pos (by omega)]
      congr 1
      omega
end SP
