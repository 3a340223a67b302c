/-! ===== the class's history and records ===== -/
theorem cp_n {m : Nat} {f g : Nat → Int32} : ∀ x, x < m → va_cpy f g 0 0 m x = f x := by
  intro x hx
  unfold va_cpy
  rw [if_pos (by omega), show 0 + (x - 0) = x by omega]
section SP
variable {t : Nat} {G : ip_G} {Q : Option Value → ip_M → Prop} {k : Nat}
theorem sp18_2 {old : Nat → Nat → Int32} (hk : ok1 t k) : ∀ d i F, i + d = 8 → 1 ≤ i → (∀ j, j < 8 → ∀ x, x < 25 → F (k + 2 + j) x = if j + 1 < i then old (j + 1) x else old j x) → (∀ F', F' k = ups (F k) 1 7 → (∀ j, j < 7 → ∀ x, x < 25 → F' (k + 2 + j) x = old (j + 1) x) → (∀ a, a ≠ k → (a < k + 2 ∨ k + 9 < a) → F' a = F a) → Q none (hs t, F', G)) → wp 18 2 [.ref k, .int (Int32.ofNat i)] [] (hs t, F, G) Q := by
  intro d
  induction d with
  | zero =>
    intro i F hi h1 hF h
    obtain rfl : i = 8 := by omega
    refine rg18_2 hk ⟨fun _ => h _ u_ups (fun j hj x hx => ?_) (fun a ha _ => u_n ha), fun q => absurd q (by decide)⟩
    rw [u_n (by omega), hF j (by omega) x hx, if_pos (by omega)]
  | succ d ih =>
    intro i F hi h1 hF h
    refine rg18_2 hk ⟨fun q => ?_, fun _ => ⟨?_, ?_, ?_⟩⟩
    · (simp (disch := omega) only [nn_lit, nn_m1, nn_add, nn_mul, nn_rem, nn_sub, nn_addm1, nn_lt, nn_le, nn_eq, nn_clamp, nn_in, nn_nem1, nn_m1ne, nn_ltm1, nn_m1lt, nn_m1le, nn_lem1, bz_0, bz_n0, not_false_eq_true, not_true_eq_false, true_and, and_true, false_and, and_false, false_implies, true_implies, forall_const, Nat.reduceMul, Nat.reduceAdd, Nat.reduceSub] at q <;> try simp only [nn_bk] at q)
      omega
    · (simp (disch := omega) only [nn_lit, nn_m1, nn_add, nn_mul, nn_rem, nn_sub, nn_addm1, nn_lt, nn_le, nn_eq, nn_clamp, nn_in, nn_nem1, nn_m1ne, nn_ltm1, nn_m1lt, nn_m1le, nn_lem1, bz_0, bz_n0, not_false_eq_true, not_true_eq_false, true_and, and_true, false_and, and_false, false_implies, true_implies, forall_const, Nat.reduceMul, Nat.reduceAdd, Nat.reduceSub] <;> try simp only [nn_bk])
      omega
    · (simp (disch := omega) only [nn_lit, nn_m1, nn_add, nn_mul, nn_rem, nn_sub, nn_addm1, nn_lt, nn_le, nn_eq, nn_clamp, nn_in, nn_nem1, nn_m1ne, nn_ltm1, nn_m1lt, nn_m1le, nn_lem1, bz_0, bz_n0, not_false_eq_true, not_true_eq_false, true_and, and_true, false_and, and_false, false_implies, true_implies, forall_const, Nat.reduceMul, Nat.reduceAdd, Nat.reduceSub] <;> try simp only [nn_bk])
      omega
    · (simp (disch := omega) only [nn_lit, nn_m1, nn_add, nn_mul, nn_rem, nn_sub, nn_addm1, nn_lt, nn_le, nn_eq, nn_clamp, nn_in, nn_nem1, nn_m1ne, nn_ltm1, nn_m1lt, nn_m1le, nn_lem1, bz_0, bz_n0, not_false_eq_true, not_true_eq_false, true_and, and_true, false_and, and_false, false_implies, true_implies, forall_const, Nat.reduceMul, Nat.reduceAdd, Nat.reduceSub] <;> try simp only [nn_bk])
      refine ih (i + 1) _ (by omega) (by omega) (fun j hj x hx => ?_) (fun F' h2 h3 h4 => h F' ?_ h3 (fun a ha ha2 => by rw [h4 a ha ha2, ur_n (by omega)]))
      · by_cases e : j = i - 1
        · subst e
          rw [ur_s, cp_n x hx, hF i (by omega) x hx, if_neg (by omega), if_pos (by omega), show i - 1 + 1 = i by omega]
        · rw [ur_n (by omega), hF j hj x hx]
          by_cases e2 : j + 1 < i
          · rw [if_pos e2, if_pos (by omega)]
          · rw [if_neg e2, if_neg (by omega)]
      · rw [h2, ur_n (by omega)]
/-- keep: the rows behind it -/
theorem sp17 {F : ip_F} {o u : Nat} (hk : ok1 t k) (ho : ok7 t o) (ho2 : o + 1 ≠ k ∧ (o + 1 < k + 2 ∨ k + 9 < o + 1)) (hu : u ≤ 8) (hs0 : F k 1 = Int32.ofNat u) (h : ∀ F' u', u' ≤ 8 → 1 ≤ u' → (u < 8 → u' = u + 1) → (u = 8 → u' = 8) → F' k 1 = Int32.ofNat u' → (∀ j, j < u' → ∀ x, x < 25 → F' (k + 2 + j) x = if j + 1 = u' then F (o + 1) x else if u < 8 then F (k + 2 + j) x else F (k + 2 + (j + 1)) x) → (∀ a, a ≠ k → (a < k + 2 ∨ k + 9 < a) → F' a = F a) → Q none (hs t, F', G)) : wp 17 0 [.ref k, .ref o] [] (hs t, F, G) Q := by
  have fin : ∀ F1 v, v < 8 → F1 k 1 = Int32.ofNat v → (∀ F', F' k 1 = Int32.ofNat (v + 1) → (∀ x, x < 25 → F' (k + 2 + v) x = F1 (o + 1) x) → (∀ j, j ≠ v → F' (k + 2 + j) = F1 (k + 2 + j)) → (∀ a, a ≠ k → (a < k + 2 ∨ k + 9 < a) → F' a = F1 a) → Q none (hs t, F', G)) → wp 17 13 [.ref k, .ref o] [] (hs t, F1, G) Q := by
    intro F1 v hv hv2 hh
    refine rg17_13 hk ho ⟨?_, ?_⟩
    · rw [hv2]
      (simp (disch := omega) only [nn_lit, nn_m1, nn_add, nn_mul, nn_rem, nn_sub, nn_addm1, nn_lt, nn_le, nn_eq, nn_clamp, nn_in, nn_nem1, nn_m1ne, nn_ltm1, nn_m1lt, nn_m1le, nn_lem1, bz_0, bz_n0, not_false_eq_true, not_true_eq_false, true_and, and_true, false_and, and_false, false_implies, true_implies, forall_const, Nat.reduceMul, Nat.reduceAdd, Nat.reduceSub] <;> try simp only [nn_bk])
      omega
    · rw [hv2, nn_clamp (by omega)]
      refine hh _ ?_ (fun x hx => ?_) (fun j hj => ?_) (fun a ha ha2 => ?_)
      · rw [u_ups, ups, if_pos rfl, ur_n (by omega), hv2]
        exact nn_add v 1
      · rw [u_n (by omega), ur_s, cp_n x hx]
      · rw [u_n (by omega), ur_n (by omega)]
      · rw [u_n ha, ur_n (by omega)]
  refine rg17_0 hk ho ⟨fun q => ?_, fun q => rg18_0 hk (sp18_2 (old := fun j => F (k + 2 + j)) hk 7 1 F rfl (by omega) (fun j hj x hx => by rw [if_neg (by omega)]) (fun F1 h1 h2 h3 => ?_))⟩
  · rw [hs0] at q
    (simp (disch := omega) only [nn_lit, nn_m1, nn_add, nn_mul, nn_rem, nn_sub, nn_addm1, nn_lt, nn_le, nn_eq, nn_clamp, nn_in, nn_nem1, nn_m1ne, nn_ltm1, nn_m1lt, nn_m1le, nn_lem1, bz_0, bz_n0, not_false_eq_true, not_true_eq_false, true_and, and_true, false_and, and_false, false_implies, true_implies, forall_const, Nat.reduceMul, Nat.reduceAdd, Nat.reduceSub] at q <;> try simp only [nn_bk] at q)
    refine fin F u q hs0 (fun F' g1 g2 g3 g4 => h F' (u + 1) (by omega) (by omega) (fun _ => rfl) (fun e => by omega) g1 (fun j hj x hx => ?_) g4)
    by_cases e : j = u
    · subst e
      rw [if_pos rfl]
      exact g2 x hx
    · rw [if_neg (by omega), if_pos q, g3 j e]
  · rw [hs0] at q
    (simp (disch := omega) only [nn_lit, nn_m1, nn_add, nn_mul, nn_rem, nn_sub, nn_addm1, nn_lt, nn_le, nn_eq, nn_clamp, nn_in, nn_nem1, nn_m1ne, nn_ltm1, nn_m1lt, nn_m1le, nn_lem1, bz_0, bz_n0, not_false_eq_true, not_true_eq_false, true_and, and_true, false_and, and_false, false_implies, true_implies, forall_const, Nat.reduceMul, Nat.reduceAdd, Nat.reduceSub] at q <;> try simp only [nn_bk] at q)
    obtain rfl : u = 8 := by omega
    refine fin F1 7 (by omega) (by rw [h1, ups, if_pos rfl]; rfl) (fun F' g1 g2 g3 g4 => h F' 8 (by omega) (by omega) (fun e => by omega) (fun _ => rfl) g1 (fun j hj x hx => ?_) (fun a ha ha2 => by rw [g4 a ha ha2, h3 a ha ha2]))
    by_cases e : j = 7
    · subst e
      rw [if_pos rfl, g2 x hx, h3 (o + 1) ho2.1 ho2.2]
    · rw [if_neg (by omega), if_neg (by omega), g3 j e, h2 j (by omega) x hx]
theorem sp19 {F : ip_F} {o u : Nat} (hk : ok1 t k) (ho : ok7 t o) (ho2 : o + 1 ≠ k ∧ (o + 1 < k + 2 ∨ k + 9 < o + 1)) (hu : u < 8) (hs0 : F k 1 = Int32.ofNat (u + 1)) (h : ∀ F', F' k 1 = Int32.ofNat u → (∀ x, x < 25 → F' (o + 1) x = F (k + 2 + u) x) → (∀ a, a ≠ k → a ≠ o + 1 → F' a = F a) → Q none (hs t, F', G)) : wp 19 0 [.ref k, .ref o] [] (hs t, F, G) Q := by
  have e1 : Int32.ofNat (u + 1) - 1 = Int32.ofNat u := nn_sub (b := 1) (by omega)
  refine rg19_0 hk ho ⟨fun q => ?_, fun _ => ?_⟩
  · rw [hs0] at q
    (simp (disch := omega) only [nn_lit, nn_m1, nn_add, nn_mul, nn_rem, nn_sub, nn_addm1, nn_lt, nn_le, nn_eq, nn_clamp, nn_in, nn_nem1, nn_m1ne, nn_ltm1, nn_m1lt, nn_m1le, nn_lem1, bz_0, bz_n0, not_false_eq_true, not_true_eq_false, true_and, and_true, false_and, and_false, false_implies, true_implies, forall_const, Nat.reduceMul, Nat.reduceAdd, Nat.reduceSub] at q <;> try simp only [nn_bk] at q)
    omega
  · rw [hs0, e1]
    have e2 : ip_u F k 1 (Int32.ofNat u) k 1 = Int32.ofNat u := by rw [u_s, if_pos rfl]
    rw [e2, nn_clamp (by omega)]
    refine ⟨?_, h _ ?_ (fun x hx => ?_) (fun a ha ha2 => ?_)⟩
    · (simp (disch := omega) only [nn_lit, nn_m1, nn_add, nn_mul, nn_rem, nn_sub, nn_addm1, nn_lt, nn_le, nn_eq, nn_clamp, nn_in, nn_nem1, nn_m1ne, nn_ltm1, nn_m1lt, nn_m1le, nn_lem1, bz_0, bz_n0, not_false_eq_true, not_true_eq_false, true_and, and_true, false_and, and_false, false_implies, true_implies, forall_const, Nat.reduceMul, Nat.reduceAdd, Nat.reduceSub] <;> try simp only [nn_bk])
      omega
    · rw [ur_n (by omega), e2]
    · rw [ur_s, cp_n x hx, u_n (by omega)]
    · rw [ur_n ha2, u_n ha]
theorem sp20_10 {o : Nat} (hk : ok1 t k) (ho : ok1 t o) (hd : k + 9 < o ∨ o + 9 < k) : ∀ d i F, i + d = 8 → (∀ F', (∀ j, j < i → F' (k + 2 + j) = F (k + 2 + j)) → (∀ j, i ≤ j → j < 8 → ∀ x, x < 25 → F' (k + 2 + j) x = F (o + 2 + j) x) → (∀ a, (a < k + 2 ∨ k + 9 < a) → F' a = F a) → Q none (hs t, F', G)) → wp 20 10 [.ref k, .ref o, .int (Int32.ofNat i)] [] (hs t, F, G) Q := by
  intro d
  induction d with
  | zero =>
    intro i F hi h
    obtain rfl : i = 8 := by omega
    exact rg20_10 hk ho ⟨fun _ => h F (fun _ _ => rfl) (fun j h1 h2 => absurd h2 (by omega)) (fun _ _ => rfl), fun q => absurd q (by decide)⟩
  | succ d ih =>
    intro i F hi h
    refine rg20_10 hk ho ⟨fun q => ?_, fun _ => ⟨?_, ?_, ?_⟩⟩
    · (simp (disch := omega) only [nn_lit, nn_m1, nn_add, nn_mul, nn_rem, nn_sub, nn_addm1, nn_lt, nn_le, nn_eq, nn_clamp, nn_in, nn_nem1, nn_m1ne, nn_ltm1, nn_m1lt, nn_m1le, nn_lem1, bz_0, bz_n0, not_false_eq_true, not_true_eq_false, true_and, and_true, false_and, and_false, false_implies, true_implies, forall_const, Nat.reduceMul, Nat.reduceAdd, Nat.reduceSub] at q <;> try simp only [nn_bk] at q)
      omega
    · (simp (disch := omega) only [nn_lit, nn_m1, nn_add, nn_mul, nn_rem, nn_sub, nn_addm1, nn_lt, nn_le, nn_eq, nn_clamp, nn_in, nn_nem1, nn_m1ne, nn_ltm1, nn_m1lt, nn_m1le, nn_lem1, bz_0, bz_n0, not_false_eq_true, not_true_eq_false, true_and, and_true, false_and, and_false, false_implies, true_implies, forall_const, Nat.reduceMul, Nat.reduceAdd, Nat.reduceSub] <;> try simp only [nn_bk])
      omega
    · (simp (disch := omega) only [nn_lit, nn_m1, nn_add, nn_mul, nn_rem, nn_sub, nn_addm1, nn_lt, nn_le, nn_eq, nn_clamp, nn_in, nn_nem1, nn_m1ne, nn_ltm1, nn_m1lt, nn_m1le, nn_lem1, bz_0, bz_n0, not_false_eq_true, not_true_eq_false, true_and, and_true, false_and, and_false, false_implies, true_implies, forall_const, Nat.reduceMul, Nat.reduceAdd, Nat.reduceSub] <;> try simp only [nn_bk])
      omega
    · (simp (disch := omega) only [nn_lit, nn_m1, nn_add, nn_mul, nn_rem, nn_sub, nn_addm1, nn_lt, nn_le, nn_eq, nn_clamp, nn_in, nn_nem1, nn_m1ne, nn_ltm1, nn_m1lt, nn_m1le, nn_lem1, bz_0, bz_n0, not_false_eq_true, not_true_eq_false, true_and, and_true, false_and, and_false, false_implies, true_implies, forall_const, Nat.reduceMul, Nat.reduceAdd, Nat.reduceSub] <;> try simp only [nn_bk])
      refine ih (i + 1) _ (by omega) (fun F' h1 h2 h3 => h F' (fun j hj => by rw [h1 j (by omega), ur_n (by omega)]) (fun j hj hj2 x hx => ?_) (fun a ha => by rw [h3 a ha, ur_n (by omega)]))
      by_cases e : j = i
      · subst e
        rw [h1 j (by omega), ur_s, cp_n x hx]
      · rw [h2 j (by omega) hj2 x hx, ur_n (by omega)]
theorem sp20 {F : ip_F} {o : Nat} (hk : ok1 t k) (ho : ok1 t o) (hd : k + 9 < o ∨ o + 9 < k) (h : ∀ F', F' k 1 = F o 1 → (∀ j, j < 8 → ∀ x, x < 25 → F' (k + 2 + j) x = F (o + 2 + j) x) → (∀ a, a ≠ k → (a < k + 2 ∨ k + 9 < a) → F' a = F a) → Q none (hs t, F', G)) : wp 20 0 [.ref k, .ref o, .float 0] [] (hs t, F, G) Q := by
  refine rg20_0 hk ho (sp20_10 hk ho hd 8 0 _ rfl (fun F' _ h2 h3 => h F' ?_ (fun j hj x hx => ?_) (fun a ha ha2 => by rw [h3 a ha2, u_n ha])))
  · rw [h3 k (by omega), u_s, if_pos rfl]
  · rw [h2 j (by omega) hj x hx, u_n (by omega)]
theorem sp50 {F : ip_F} {o : Nat} (hk : ok4 t k) (ho : ok4 t o) (hd : k + 1 < o ∨ o + 1 < k) (h : ∀ F', F' k 1 = F o 1 → (∀ x, x < 24 → F' (k + 1) x = F (o + 1) x) → (∀ a, a ≠ k → a ≠ k + 1 → F' a = F a) → Q none (hs t, F', G)) : wp 50 0 [.ref k, .ref o] [] (hs t, F, G) Q := by
  refine rg50_0 hk ho (h _ ?_ (fun x hx => ?_) (fun a ha ha2 => ?_))
  · rw [ur_n (by omega), u_s, if_pos rfl]
  · rw [ur_s, cp_n x hx, u_n (by omega)]
  · rw [ur_n ha2, u_n ha]
end SP
