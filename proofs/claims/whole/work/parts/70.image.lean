/-! ===== all that an image keeps, laid and taken by the reference ===== -/
theorem lv_fr {F F' : ip_F} (e : ∀ b, b = 193 ∨ (195 ≤ b ∧ b ≤ 202) ∨ b = 207 → F' b = F b) : lv9 F' = lv9 F := by
  funext x
  unfold lv9
  rw [e 193 (by omega), e 195 (by omega), e 196 (by omega), e 197 (by omega), e 198 (by omega), e 199 (by omega), e 200 (by omega), e 201 (by omega), e 202 (by omega), e 207 (by omega)]
theorem lv_of {F : ip_F} {v : Nat → Int32} (h0 : F 193 2 = v 0) (h1 : ∀ i, i < 6 → F 196 i = v (1 + i)) (h2 : ∀ i, i < 6 → F 197 i = v (7 + i)) (h3 : ∀ i, i < 6 → F 198 i = v (13 + i)) (h4 : ∀ i, i < 6 → F 199 i = v (19 + i)) (h5 : F 193 1 = v 25) (h6 : F 193 3 = v 26) (h7 : F 193 4 = v 27) (h8 : F 193 5 = v 28) (h9 : F 193 22 = v 29) (ha : ∀ i, i < 6 → F 195 i = v (30 + i)) (hb : ∀ i, i < 8 → F 200 i = v (36 + i)) (hc : ∀ i, i < 18 → F 201 i = v (44 + i)) (hd : ∀ i, i < 24 → F 202 i = v (62 + i)) (he : ∀ i, i < 200 → F 207 i = v (86 + i)) : ∀ x, x < 286 → lv9 F x = v x := by
  intro x hx
  unfold lv9
  by_cases e0 : x = 0
  · rw [if_pos e0, e0]
    exact h0
  rw [if_neg e0]
  by_cases e1 : x < 7
  · rw [if_pos e1, h1 _ (by omega), show 1 + (x - 1) = x by omega]
  rw [if_neg e1]
  by_cases e2 : x < 13
  · rw [if_pos e2, h2 _ (by omega), show 7 + (x - 7) = x by omega]
  rw [if_neg e2]
  by_cases e3 : x < 19
  · rw [if_pos e3, h3 _ (by omega), show 13 + (x - 13) = x by omega]
  rw [if_neg e3]
  by_cases e4 : x < 25
  · rw [if_pos e4, h4 _ (by omega), show 19 + (x - 19) = x by omega]
  rw [if_neg e4]
  by_cases e5 : x = 25
  · rw [if_pos e5, e5]
    exact h5
  rw [if_neg e5]
  by_cases e6 : x = 26
  · rw [if_pos e6, e6]
    exact h6
  rw [if_neg e6]
  by_cases e7 : x = 27
  · rw [if_pos e7, e7]
    exact h7
  rw [if_neg e7]
  by_cases e8 : x = 28
  · rw [if_pos e8, e8]
    exact h8
  rw [if_neg e8]
  by_cases e9 : x = 29
  · rw [if_pos e9, e9]
    exact h9
  rw [if_neg e9]
  by_cases e10 : x < 36
  · rw [if_pos e10, ha _ (by omega), show 30 + (x - 30) = x by omega]
  rw [if_neg e10]
  by_cases e11 : x < 44
  · rw [if_pos e11, hb _ (by omega), show 36 + (x - 36) = x by omega]
  rw [if_neg e11]
  by_cases e12 : x < 62
  · rw [if_pos e12, hc _ (by omega), show 44 + (x - 44) = x by omega]
  rw [if_neg e12]
  by_cases e13 : x < 86
  · rw [if_pos e13, hd _ (by omega), show 62 + (x - 62) = x by omega]
  rw [if_neg e13]
  rw [he _ (by omega), show 86 + (x - 86) = x by omega]
abbrev LI9 (F0 : ip_F) (a p m : Nat) (F : ip_F) : Prop := (∀ x, x < m → F a (p + x) = lv9 F0 x) ∧ (∀ x, x < p ∨ p + 286 ≤ x → F a x = F0 a x) ∧ (∀ b, b ≠ a → F b = F0 b)
section SP
variable {t : Nat} {F : ip_F} {G : ip_G} {Q : Option Value → ip_M → Prop}
theorem li_step {F0 : ip_F} {a p m : Nat} {v : Int32} (h : LI9 F0 a p m F) (hm : m < 286) (hv : v = lv9 F0 m) : LI9 F0 a p (m + 1) (ip_u F a (p + m) v) := by
  refine ⟨fun x hx => ?_, fun x hx => ?_, fun b hb => by rw [u_n hb]; exact h.2.2 b hb⟩
  · rw [u_s]
    by_cases e : x = m
    · rw [if_pos (by omega), hv, e]
    · rw [if_neg (by omega)]
      exact h.1 x (by omega)
  · rw [u_s, if_neg (by omega)]
    exact h.2.1 x hx
theorem sp227_58 {F0 : ip_F} {a n1 p : Nat} (ha : (hs t)[a]? = some (1, 0, [n1])) (hp : p + 286 ≤ n1) (hn1 : n1 ≤ 1000) (ha2 : a < 193 ∨ a = 204 ∨ 207 < a) : ∀ d k F, k + d = 6 → LI9 F0 a p (30 + k) F → (∀ F', LI9 F0 a p 36 F' → wp 227 86 [.ref 193, .ref a, .int (Int32.ofNat p), .int 0] [] (hs t, F', G) Q) → wp 227 58 [.ref 193, .ref a, .int (Int32.ofNat p), .int (Int32.ofNat k)] [] (hs t, F, G) Q := by
  intro d
  induction d with
  | zero =>
    intro k F hk hL h
    obtain rfl : k = 6 := by omega
    exact rg227_58 ha ⟨fun _ => h F hL, fun q => absurd q (by decide)⟩
  | succ d ih =>
    intro k F hk hL h
    refine rg227_58 ha ⟨fun q => ?_, fun _ => ⟨(nn_in (by omega)).mpr (by omega), ?_, ?_⟩⟩
    · (simp (disch := omega) only [nn_lit, nn_m1, nn_add, nn_mul, nn_rem, nn_sub, nn_addm1, nn_lt, nn_le, nn_eq, nn_clamp, nn_in, nn_nem1, nn_m1ne, nn_ltm1, nn_m1lt, nn_m1le, nn_lem1, bz_0, bz_n0, not_false_eq_true, not_true_eq_false, true_and, and_true, false_and, and_false, false_implies, true_implies, forall_const, Nat.reduceMul, Nat.reduceAdd, Nat.reduceSub] at q <;> try simp only [nn_bk] at q)
      omega
    · rw [show Int32.ofNat p + 30 + Int32.ofNat k = Int32.ofNat (p + 30 + k) by rw [show Int32.ofNat p + 30 = Int32.ofNat (p + 30) from nn_add p 30, nn_add]]
      exact (nn_in (by omega)).mpr (by omega)
    · rw [show Int32.ofNat p + 30 + Int32.ofNat k = Int32.ofNat (p + (30 + k)) by rw [show Int32.ofNat p + 30 = Int32.ofNat (p + 30) from nn_add p 30, nn_add, Nat.add_assoc], nn_clamp (by omega), nn_clamp (by omega), show Int32.ofNat k + 1 = Int32.ofNat (k + 1) from nn_add k 1]
      exact ih (k + 1) _ (by omega) (li_step (m := 30 + k) hL (by omega) (by rw [lv_195 (by omega), hL.2.2 195 (by omega)])) h
theorem sp227_86 {F0 : ip_F} {a n1 p : Nat} (ha : (hs t)[a]? = some (1, 0, [n1])) (hp : p + 286 ≤ n1) (hn1 : n1 ≤ 1000) (ha2 : a < 193 ∨ a = 204 ∨ 207 < a) : ∀ d k F, k + d = 8 → LI9 F0 a p (36 + k) F → (∀ F', LI9 F0 a p 44 F' → wp 227 114 [.ref 193, .ref a, .int (Int32.ofNat p), .int 0] [] (hs t, F', G) Q) → wp 227 86 [.ref 193, .ref a, .int (Int32.ofNat p), .int (Int32.ofNat k)] [] (hs t, F, G) Q := by
  intro d
  induction d with
  | zero =>
    intro k F hk hL h
    obtain rfl : k = 8 := by omega
    exact rg227_86 ha ⟨fun _ => h F hL, fun q => absurd q (by decide)⟩
  | succ d ih =>
    intro k F hk hL h
    refine rg227_86 ha ⟨fun q => ?_, fun _ => ⟨(nn_in (by omega)).mpr (by omega), ?_, ?_⟩⟩
    · (simp (disch := omega) only [nn_lit, nn_m1, nn_add, nn_mul, nn_rem, nn_sub, nn_addm1, nn_lt, nn_le, nn_eq, nn_clamp, nn_in, nn_nem1, nn_m1ne, nn_ltm1, nn_m1lt, nn_m1le, nn_lem1, bz_0, bz_n0, not_false_eq_true, not_true_eq_false, true_and, and_true, false_and, and_false, false_implies, true_implies, forall_const, Nat.reduceMul, Nat.reduceAdd, Nat.reduceSub] at q <;> try simp only [nn_bk] at q)
      omega
    · rw [show Int32.ofNat p + 36 + Int32.ofNat k = Int32.ofNat (p + 36 + k) by rw [show Int32.ofNat p + 36 = Int32.ofNat (p + 36) from nn_add p 36, nn_add]]
      exact (nn_in (by omega)).mpr (by omega)
    · rw [show Int32.ofNat p + 36 + Int32.ofNat k = Int32.ofNat (p + (36 + k)) by rw [show Int32.ofNat p + 36 = Int32.ofNat (p + 36) from nn_add p 36, nn_add, Nat.add_assoc], nn_clamp (by omega), nn_clamp (by omega), show Int32.ofNat k + 1 = Int32.ofNat (k + 1) from nn_add k 1]
      exact ih (k + 1) _ (by omega) (li_step (m := 36 + k) hL (by omega) (by rw [lv_200 (by omega), hL.2.2 200 (by omega)])) h
theorem sp227_114 {F0 : ip_F} {a n1 p : Nat} (ha : (hs t)[a]? = some (1, 0, [n1])) (hp : p + 286 ≤ n1) (hn1 : n1 ≤ 1000) (ha2 : a < 193 ∨ a = 204 ∨ 207 < a) : ∀ d k F, k + d = 18 → LI9 F0 a p (44 + k) F → (∀ F', LI9 F0 a p 62 F' → wp 227 142 [.ref 193, .ref a, .int (Int32.ofNat p), .int 0] [] (hs t, F', G) Q) → wp 227 114 [.ref 193, .ref a, .int (Int32.ofNat p), .int (Int32.ofNat k)] [] (hs t, F, G) Q := by
  intro d
  induction d with
  | zero =>
    intro k F hk hL h
    obtain rfl : k = 18 := by omega
    exact rg227_114 ha ⟨fun _ => h F hL, fun q => absurd q (by decide)⟩
  | succ d ih =>
    intro k F hk hL h
    refine rg227_114 ha ⟨fun q => ?_, fun _ => ⟨(nn_in (by omega)).mpr (by omega), ?_, ?_⟩⟩
    · (simp (disch := omega) only [nn_lit, nn_m1, nn_add, nn_mul, nn_rem, nn_sub, nn_addm1, nn_lt, nn_le, nn_eq, nn_clamp, nn_in, nn_nem1, nn_m1ne, nn_ltm1, nn_m1lt, nn_m1le, nn_lem1, bz_0, bz_n0, not_false_eq_true, not_true_eq_false, true_and, and_true, false_and, and_false, false_implies, true_implies, forall_const, Nat.reduceMul, Nat.reduceAdd, Nat.reduceSub] at q <;> try simp only [nn_bk] at q)
      omega
    · rw [show Int32.ofNat p + 44 + Int32.ofNat k = Int32.ofNat (p + 44 + k) by rw [show Int32.ofNat p + 44 = Int32.ofNat (p + 44) from nn_add p 44, nn_add]]
      exact (nn_in (by omega)).mpr (by omega)
    · rw [show Int32.ofNat p + 44 + Int32.ofNat k = Int32.ofNat (p + (44 + k)) by rw [show Int32.ofNat p + 44 = Int32.ofNat (p + 44) from nn_add p 44, nn_add, Nat.add_assoc], nn_clamp (by omega), nn_clamp (by omega), show Int32.ofNat k + 1 = Int32.ofNat (k + 1) from nn_add k 1]
      exact ih (k + 1) _ (by omega) (li_step (m := 44 + k) hL (by omega) (by rw [lv_201 (by omega), hL.2.2 201 (by omega)])) h
theorem sp227_142 {F0 : ip_F} {a n1 p : Nat} (ha : (hs t)[a]? = some (1, 0, [n1])) (hp : p + 286 ≤ n1) (hn1 : n1 ≤ 1000) (ha2 : a < 193 ∨ a = 204 ∨ 207 < a) : ∀ d k F, k + d = 24 → LI9 F0 a p (62 + k) F → (∀ F', LI9 F0 a p 86 F' → wp 227 170 [.ref 193, .ref a, .int (Int32.ofNat p), .int 0] [] (hs t, F', G) Q) → wp 227 142 [.ref 193, .ref a, .int (Int32.ofNat p), .int (Int32.ofNat k)] [] (hs t, F, G) Q := by
  intro d
  induction d with
  | zero =>
    intro k F hk hL h
    obtain rfl : k = 24 := by omega
    exact rg227_142 ha ⟨fun _ => h F hL, fun q => absurd q (by decide)⟩
  | succ d ih =>
    intro k F hk hL h
    refine rg227_142 ha ⟨fun q => ?_, fun _ => ⟨(nn_in (by omega)).mpr (by omega), ?_, ?_⟩⟩
    · (simp (disch := omega) only [nn_lit, nn_m1, nn_add, nn_mul, nn_rem, nn_sub, nn_addm1, nn_lt, nn_le, nn_eq, nn_clamp, nn_in, nn_nem1, nn_m1ne, nn_ltm1, nn_m1lt, nn_m1le, nn_lem1, bz_0, bz_n0, not_false_eq_true, not_true_eq_false, true_and, and_true, false_and, and_false, false_implies, true_implies, forall_const, Nat.reduceMul, Nat.reduceAdd, Nat.reduceSub] at q <;> try simp only [nn_bk] at q)
      omega
    · rw [show Int32.ofNat p + 62 + Int32.ofNat k = Int32.ofNat (p + 62 + k) by rw [show Int32.ofNat p + 62 = Int32.ofNat (p + 62) from nn_add p 62, nn_add]]
      exact (nn_in (by omega)).mpr (by omega)
    · rw [show Int32.ofNat p + 62 + Int32.ofNat k = Int32.ofNat (p + (62 + k)) by rw [show Int32.ofNat p + 62 = Int32.ofNat (p + 62) from nn_add p 62, nn_add, Nat.add_assoc], nn_clamp (by omega), nn_clamp (by omega), show Int32.ofNat k + 1 = Int32.ofNat (k + 1) from nn_add k 1]
      exact ih (k + 1) _ (by omega) (li_step (m := 62 + k) hL (by omega) (by rw [lv_202 (by omega), hL.2.2 202 (by omega)])) h
theorem sp227_170 {F0 : ip_F} {a n1 p : Nat} (ha : (hs t)[a]? = some (1, 0, [n1])) (hp : p + 286 ≤ n1) (hn1 : n1 ≤ 1000) (ha2 : a < 193 ∨ a = 204 ∨ 207 < a) : ∀ d k F, k + d = 200 → LI9 F0 a p (86 + k) F → (∀ F', LI9 F0 a p 286 F' → Q none (hs t, F', G)) → wp 227 170 [.ref 193, .ref a, .int (Int32.ofNat p), .int (Int32.ofNat k)] [] (hs t, F, G) Q := by
  intro d
  induction d with
  | zero =>
    intro k F hk hL h
    obtain rfl : k = 200 := by omega
    exact rg227_170 ha ⟨fun _ => h F hL, fun q => absurd q (by decide)⟩
  | succ d ih =>
    intro k F hk hL h
    refine rg227_170 ha ⟨fun q => ?_, fun _ => ⟨(nn_in (by omega)).mpr (by omega), ?_, ?_⟩⟩
    · (simp (disch := omega) only [nn_lit, nn_m1, nn_add, nn_mul, nn_rem, nn_sub, nn_addm1, nn_lt, nn_le, nn_eq, nn_clamp, nn_in, nn_nem1, nn_m1ne, nn_ltm1, nn_m1lt, nn_m1le, nn_lem1, bz_0, bz_n0, not_false_eq_true, not_true_eq_false, true_and, and_true, false_and, and_false, false_implies, true_implies, forall_const, Nat.reduceMul, Nat.reduceAdd, Nat.reduceSub] at q <;> try simp only [nn_bk] at q)
      omega
    · rw [show Int32.ofNat p + 86 + Int32.ofNat k = Int32.ofNat (p + 86 + k) by rw [show Int32.ofNat p + 86 = Int32.ofNat (p + 86) from nn_add p 86, nn_add]]
      exact (nn_in (by omega)).mpr (by omega)
    · rw [show Int32.ofNat p + 86 + Int32.ofNat k = Int32.ofNat (p + (86 + k)) by rw [show Int32.ofNat p + 86 = Int32.ofNat (p + 86) from nn_add p 86, nn_add, Nat.add_assoc], nn_clamp (by omega), nn_clamp (by omega), show Int32.ofNat k + 1 = Int32.ofNat (k + 1) from nn_add k 1]
      exact ih (k + 1) _ (by omega) (li_step (m := 86 + k) hL (by omega) (by rw [lv_207, hL.2.2 207 (by omega)])) h
theorem sp227 {a n1 p : Nat} (ha : (hs t)[a]? = some (1, 0, [n1])) (hp : p + 286 ≤ n1) (hn1 : n1 ≤ 1000) (ha2 : a < 193 ∨ a = 204 ∨ 207 < a) (h : ∀ F', LI9 F a p 286 F' → Q none (hs t, F', G)) : wp 227 0 [.ref 193, .ref a, .int (Int32.ofNat p), .float 0] [] (hs t, F, G) Q := by
  refine rg227_0 ha (sp187 ha (by omega) hn1 (by omega) (fun F1 h1 h2 h3 => ?_))
  have e0 : LI9 F a p 25 F1 := by
    refine ⟨fun x hx => ?_, fun x hx => h2 x (by omega), h3⟩
    by_cases e : x = 0
    · subst e
      have := h1 24 (by omega)
      rw [← lv_mr (by omega)] at this
      exact this
    · have := h1 (x - 1) (by omega)
      rw [← lv_mr (by omega), ly9, ly9, if_neg (by omega), if_neg (by omega), show p + 1 + (x - 1) = p + x by omega, show 0 + 1 + (x - 1) = x by omega] at this
      exact this
  have ua : ∀ (F : ip_F) m x, ip_u F a m x 193 = F 193 := fun _ _ _ => u_n (by omega)
  have e1 : F1 193 = F 193 := h3 193 (by omega)
  refine rg227_6 ha ?_
  simp only [ua, e1]
  rw [show Int32.ofNat p + 25 = Int32.ofNat (p + 25) from nn_add p 25, show Int32.ofNat p + 26 = Int32.ofNat (p + 26) from nn_add p 26, show Int32.ofNat p + 27 = Int32.ofNat (p + 27) from nn_add p 27, show Int32.ofNat p + 28 = Int32.ofNat (p + 28) from nn_add p 28, show Int32.ofNat p + 29 = Int32.ofNat (p + 29) from nn_add p 29, nn_clamp (by omega), nn_clamp (by omega), nn_clamp (by omega), nn_clamp (by omega), nn_clamp (by omega)]
  refine ⟨(nn_in (by omega)).mpr (by omega), (nn_in (by omega)).mpr (by omega), (nn_in (by omega)).mpr (by omega), (nn_in (by omega)).mpr (by omega), (nn_in (by omega)).mpr (by omega), ?_⟩
  have e2 := li_step (li_step (li_step (li_step (li_step e0 (by omega) (v := F 193 1) rfl) (by omega) (v := F 193 3) rfl) (by omega) (v := F 193 4) rfl) (by omega) (v := F 193 5) rfl) (by omega) (v := F 193 22) rfl
  exact sp227_58 ha hp hn1 ha2 6 0 _ rfl e2 (fun F2 g2 => sp227_86 ha hp hn1 ha2 8 0 _ rfl g2 (fun F3 g3 => sp227_114 ha hp hn1 ha2 18 0 _ rfl g3 (fun F4 g4 => sp227_142 ha hp hn1 ha2 24 0 _ rfl g4 (fun F5 g5 => sp227_170 ha hp hn1 ha2 200 0 _ rfl g5 h))))
theorem sp228_58 {F0 : ip_F} {a n1 p : Nat} (ha : (hs t)[a]? = some (1, 0, [n1])) (hp : p + 286 ≤ n1) (hn1 : n1 ≤ 1000) (ha2 : a < 193 ∨ a = 204 ∨ 207 < a) : ∀ d k F, k + d = 6 → (∀ i, i < k → F 195 i = F0 a (p + (30 + i))) → (∀ b, b ≠ 195 → F b = F0 b) → (∀ F', (∀ i, i < 6 → F' 195 i = F0 a (p + (30 + i))) → (∀ b, b ≠ 195 → F' b = F0 b) → wp 228 86 [.ref 193, .ref a, .int (Int32.ofNat p), .int 0] [] (hs t, F', G) Q) → wp 228 58 [.ref 193, .ref a, .int (Int32.ofNat p), .int (Int32.ofNat k)] [] (hs t, F, G) Q := by
  intro d
  induction d with
  | zero =>
    intro k F hk hL hf h
    obtain rfl : k = 6 := by omega
    exact rg228_58 ha ⟨fun _ => h F hL hf, fun q => absurd q (by decide)⟩
  | succ d ih =>
    intro k F hk hL hf h
    refine rg228_58 ha ⟨fun q => ?_, fun _ => ⟨?_, (nn_in (by omega)).mpr (by omega), ?_⟩⟩
    · (simp (disch := omega) only [nn_lit, nn_m1, nn_add, nn_mul, nn_rem, nn_sub, nn_addm1, nn_lt, nn_le, nn_eq, nn_clamp, nn_in, nn_nem1, nn_m1ne, nn_ltm1, nn_m1lt, nn_m1le, nn_lem1, bz_0, bz_n0, not_false_eq_true, not_true_eq_false, true_and, and_true, false_and, and_false, false_implies, true_implies, forall_const, Nat.reduceMul, Nat.reduceAdd, Nat.reduceSub] at q <;> try simp only [nn_bk] at q)
      omega
    · rw [show Int32.ofNat p + 30 + Int32.ofNat k = Int32.ofNat (p + 30 + k) by rw [show Int32.ofNat p + 30 = Int32.ofNat (p + 30) from nn_add p 30, nn_add]]
      exact (nn_in (by omega)).mpr (by omega)
    · rw [show Int32.ofNat p + 30 + Int32.ofNat k = Int32.ofNat (p + (30 + k)) by rw [show Int32.ofNat p + 30 = Int32.ofNat (p + 30) from nn_add p 30, nn_add, Nat.add_assoc], nn_clamp (by omega), nn_clamp (by omega), show Int32.ofNat k + 1 = Int32.ofNat (k + 1) from nn_add k 1]
      refine ih (k + 1) _ (by omega) (fun i hi => ?_) (fun b hb => by rw [u_n hb]; exact hf b hb) h
      rw [u_s]
      by_cases e : i = k
      · rw [if_pos e, e, hf a (by omega)]
      · rw [if_neg e]
        exact hL i (by omega)
theorem sp228_86 {F0 : ip_F} {a n1 p : Nat} (ha : (hs t)[a]? = some (1, 0, [n1])) (hp : p + 286 ≤ n1) (hn1 : n1 ≤ 1000) (ha2 : a < 193 ∨ a = 204 ∨ 207 < a) : ∀ d k F, k + d = 8 → (∀ i, i < k → F 200 i = F0 a (p + (36 + i))) → (∀ b, b ≠ 200 → F b = F0 b) → (∀ F', (∀ i, i < 8 → F' 200 i = F0 a (p + (36 + i))) → (∀ b, b ≠ 200 → F' b = F0 b) → wp 228 114 [.ref 193, .ref a, .int (Int32.ofNat p), .int 0] [] (hs t, F', G) Q) → wp 228 86 [.ref 193, .ref a, .int (Int32.ofNat p), .int (Int32.ofNat k)] [] (hs t, F, G) Q := by
  intro d
  induction d with
  | zero =>
    intro k F hk hL hf h
    obtain rfl : k = 8 := by omega
    exact rg228_86 ha ⟨fun _ => h F hL hf, fun q => absurd q (by decide)⟩
  | succ d ih =>
    intro k F hk hL hf h
    refine rg228_86 ha ⟨fun q => ?_, fun _ => ⟨?_, (nn_in (by omega)).mpr (by omega), ?_⟩⟩
    · (simp (disch := omega) only [nn_lit, nn_m1, nn_add, nn_mul, nn_rem, nn_sub, nn_addm1, nn_lt, nn_le, nn_eq, nn_clamp, nn_in, nn_nem1, nn_m1ne, nn_ltm1, nn_m1lt, nn_m1le, nn_lem1, bz_0, bz_n0, not_false_eq_true, not_true_eq_false, true_and, and_true, false_and, and_false, false_implies, true_implies, forall_const, Nat.reduceMul, Nat.reduceAdd, Nat.reduceSub] at q <;> try simp only [nn_bk] at q)
      omega
    · rw [show Int32.ofNat p + 36 + Int32.ofNat k = Int32.ofNat (p + 36 + k) by rw [show Int32.ofNat p + 36 = Int32.ofNat (p + 36) from nn_add p 36, nn_add]]
      exact (nn_in (by omega)).mpr (by omega)
    · rw [show Int32.ofNat p + 36 + Int32.ofNat k = Int32.ofNat (p + (36 + k)) by rw [show Int32.ofNat p + 36 = Int32.ofNat (p + 36) from nn_add p 36, nn_add, Nat.add_assoc], nn_clamp (by omega), nn_clamp (by omega), show Int32.ofNat k + 1 = Int32.ofNat (k + 1) from nn_add k 1]
      refine ih (k + 1) _ (by omega) (fun i hi => ?_) (fun b hb => by rw [u_n hb]; exact hf b hb) h
      rw [u_s]
      by_cases e : i = k
      · rw [if_pos e, e, hf a (by omega)]
      · rw [if_neg e]
        exact hL i (by omega)
theorem sp228_114 {F0 : ip_F} {a n1 p : Nat} (ha : (hs t)[a]? = some (1, 0, [n1])) (hp : p + 286 ≤ n1) (hn1 : n1 ≤ 1000) (ha2 : a < 193 ∨ a = 204 ∨ 207 < a) : ∀ d k F, k + d = 18 → (∀ i, i < k → F 201 i = F0 a (p + (44 + i))) → (∀ b, b ≠ 201 → F b = F0 b) → (∀ F', (∀ i, i < 18 → F' 201 i = F0 a (p + (44 + i))) → (∀ b, b ≠ 201 → F' b = F0 b) → wp 228 142 [.ref 193, .ref a, .int (Int32.ofNat p), .int 0] [] (hs t, F', G) Q) → wp 228 114 [.ref 193, .ref a, .int (Int32.ofNat p), .int (Int32.ofNat k)] [] (hs t, F, G) Q := by
  intro d
  induction d with
  | zero =>
    intro k F hk hL hf h
    obtain rfl : k = 18 := by omega
    exact rg228_114 ha ⟨fun _ => h F hL hf, fun q => absurd q (by decide)⟩
  | succ d ih =>
    intro k F hk hL hf h
    refine rg228_114 ha ⟨fun q => ?_, fun _ => ⟨?_, (nn_in (by omega)).mpr (by omega), ?_⟩⟩
    · (simp (disch := omega) only [nn_lit, nn_m1, nn_add, nn_mul, nn_rem, nn_sub, nn_addm1, nn_lt, nn_le, nn_eq, nn_clamp, nn_in, nn_nem1, nn_m1ne, nn_ltm1, nn_m1lt, nn_m1le, nn_lem1, bz_0, bz_n0, not_false_eq_true, not_true_eq_false, true_and, and_true, false_and, and_false, false_implies, true_implies, forall_const, Nat.reduceMul, Nat.reduceAdd, Nat.reduceSub] at q <;> try simp only [nn_bk] at q)
      omega
    · rw [show Int32.ofNat p + 44 + Int32.ofNat k = Int32.ofNat (p + 44 + k) by rw [show Int32.ofNat p + 44 = Int32.ofNat (p + 44) from nn_add p 44, nn_add]]
      exact (nn_in (by omega)).mpr (by omega)
    · rw [show Int32.ofNat p + 44 + Int32.ofNat k = Int32.ofNat (p + (44 + k)) by rw [show Int32.ofNat p + 44 = Int32.ofNat (p + 44) from nn_add p 44, nn_add, Nat.add_assoc], nn_clamp (by omega), nn_clamp (by omega), show Int32.ofNat k + 1 = Int32.ofNat (k + 1) from nn_add k 1]
      refine ih (k + 1) _ (by omega) (fun i hi => ?_) (fun b hb => by rw [u_n hb]; exact hf b hb) h
      rw [u_s]
      by_cases e : i = k
      · rw [if_pos e, e, hf a (by omega)]
      · rw [if_neg e]
        exact hL i (by omega)
theorem sp228_142 {F0 : ip_F} {a n1 p : Nat} (ha : (hs t)[a]? = some (1, 0, [n1])) (hp : p + 286 ≤ n1) (hn1 : n1 ≤ 1000) (ha2 : a < 193 ∨ a = 204 ∨ 207 < a) : ∀ d k F, k + d = 24 → (∀ i, i < k → F 202 i = F0 a (p + (62 + i))) → (∀ b, b ≠ 202 → F b = F0 b) → (∀ F', (∀ i, i < 24 → F' 202 i = F0 a (p + (62 + i))) → (∀ b, b ≠ 202 → F' b = F0 b) → wp 228 170 [.ref 193, .ref a, .int (Int32.ofNat p), .int 0] [] (hs t, F', G) Q) → wp 228 142 [.ref 193, .ref a, .int (Int32.ofNat p), .int (Int32.ofNat k)] [] (hs t, F, G) Q := by
  intro d
  induction d with
  | zero =>
    intro k F hk hL hf h
    obtain rfl : k = 24 := by omega
    exact rg228_142 ha ⟨fun _ => h F hL hf, fun q => absurd q (by decide)⟩
  | succ d ih =>
    intro k F hk hL hf h
    refine rg228_142 ha ⟨fun q => ?_, fun _ => ⟨?_, (nn_in (by omega)).mpr (by omega), ?_⟩⟩
    · (simp (disch := omega) only [nn_lit, nn_m1, nn_add, nn_mul, nn_rem, nn_sub, nn_addm1, nn_lt, nn_le, nn_eq, nn_clamp, nn_in, nn_nem1, nn_m1ne, nn_ltm1, nn_m1lt, nn_m1le, nn_lem1, bz_0, bz_n0, not_false_eq_true, not_true_eq_false, true_and, and_true, false_and, and_false, false_implies, true_implies, forall_const, Nat.reduceMul, Nat.reduceAdd, Nat.reduceSub] at q <;> try simp only [nn_bk] at q)
      omega
    · rw [show Int32.ofNat p + 62 + Int32.ofNat k = Int32.ofNat (p + 62 + k) by rw [show Int32.ofNat p + 62 = Int32.ofNat (p + 62) from nn_add p 62, nn_add]]
      exact (nn_in (by omega)).mpr (by omega)
    · rw [show Int32.ofNat p + 62 + Int32.ofNat k = Int32.ofNat (p + (62 + k)) by rw [show Int32.ofNat p + 62 = Int32.ofNat (p + 62) from nn_add p 62, nn_add, Nat.add_assoc], nn_clamp (by omega), nn_clamp (by omega), show Int32.ofNat k + 1 = Int32.ofNat (k + 1) from nn_add k 1]
      refine ih (k + 1) _ (by omega) (fun i hi => ?_) (fun b hb => by rw [u_n hb]; exact hf b hb) h
      rw [u_s]
      by_cases e : i = k
      · rw [if_pos e, e, hf a (by omega)]
      · rw [if_neg e]
        exact hL i (by omega)
theorem sp228_170 {F0 : ip_F} {a n1 p : Nat} (ha : (hs t)[a]? = some (1, 0, [n1])) (hp : p + 286 ≤ n1) (hn1 : n1 ≤ 1000) (ha2 : a < 193 ∨ a = 204 ∨ 207 < a) : ∀ d k F, k + d = 200 → (∀ i, i < k → F 207 i = F0 a (p + (86 + i))) → (∀ b, b ≠ 207 → F b = F0 b) → (∀ F', (∀ i, i < 200 → F' 207 i = F0 a (p + (86 + i))) → (∀ b, b ≠ 207 → F' b = F0 b) → Q none (hs t, F', G)) → wp 228 170 [.ref 193, .ref a, .int (Int32.ofNat p), .int (Int32.ofNat k)] [] (hs t, F, G) Q := by
  intro d
  induction d with
  | zero =>
    intro k F hk hL hf h
    obtain rfl : k = 200 := by omega
    exact rg228_170 ha ⟨fun _ => h F hL hf, fun q => absurd q (by decide)⟩
  | succ d ih =>
    intro k F hk hL hf h
    refine rg228_170 ha ⟨fun q => ?_, fun _ => ⟨?_, (nn_in (by omega)).mpr (by omega), ?_⟩⟩
    · (simp (disch := omega) only [nn_lit, nn_m1, nn_add, nn_mul, nn_rem, nn_sub, nn_addm1, nn_lt, nn_le, nn_eq, nn_clamp, nn_in, nn_nem1, nn_m1ne, nn_ltm1, nn_m1lt, nn_m1le, nn_lem1, bz_0, bz_n0, not_false_eq_true, not_true_eq_false, true_and, and_true, false_and, and_false, false_implies, true_implies, forall_const, Nat.reduceMul, Nat.reduceAdd, Nat.reduceSub] at q <;> try simp only [nn_bk] at q)
      omega
    · rw [show Int32.ofNat p + 86 + Int32.ofNat k = Int32.ofNat (p + 86 + k) by rw [show Int32.ofNat p + 86 = Int32.ofNat (p + 86) from nn_add p 86, nn_add]]
      exact (nn_in (by omega)).mpr (by omega)
    · rw [show Int32.ofNat p + 86 + Int32.ofNat k = Int32.ofNat (p + (86 + k)) by rw [show Int32.ofNat p + 86 = Int32.ofNat (p + 86) from nn_add p 86, nn_add, Nat.add_assoc], nn_clamp (by omega), nn_clamp (by omega), show Int32.ofNat k + 1 = Int32.ofNat (k + 1) from nn_add k 1]
      refine ih (k + 1) _ (by omega) (fun i hi => ?_) (fun b hb => by rw [u_n hb]; exact hf b hb) h
      rw [u_s]
      by_cases e : i = k
      · rw [if_pos e, e, hf a (by omega)]
      · rw [if_neg e]
        exact hL i (by omega)
theorem sp228 {a n1 p : Nat} (ha : (hs t)[a]? = some (1, 0, [n1])) (hp : p + 286 ≤ n1) (hn1 : n1 ≤ 1000) (ha2 : a < 193 ∨ a = 204 ∨ 207 < a) (h : ∀ F', (∀ x, x < 286 → lv9 F' x = F a (p + x)) → (∀ x, (x = 0 ∨ 5 < x) → x ≠ 22 → F' 193 x = F 193 x) → (∀ b, b ≠ 193 → (b < 195 ∨ 202 < b) → b ≠ 207 → F' b = F b) → Q none (hs t, F', G)) : wp 228 0 [.ref 193, .ref a, .int (Int32.ofNat p), .float 0] [] (hs t, F, G) Q := by
  refine rg228_0 ha (sp188 ha (by omega) hn1 (by omega) (fun F1 h1 _ h2 h3 => ?_))
  have ua : ∀ (F : ip_F) m x, ip_u F 193 m x a = F a := fun _ _ _ => u_n (by omega)
  have e1 : F1 a = F a := h3 a (by omega) (by omega)
  refine rg228_6 ha ?_
  simp only [ua, e1]
  rw [show Int32.ofNat p + 25 = Int32.ofNat (p + 25) from nn_add p 25, show Int32.ofNat p + 26 = Int32.ofNat (p + 26) from nn_add p 26, show Int32.ofNat p + 27 = Int32.ofNat (p + 27) from nn_add p 27, show Int32.ofNat p + 28 = Int32.ofNat (p + 28) from nn_add p 28, show Int32.ofNat p + 29 = Int32.ofNat (p + 29) from nn_add p 29, nn_clamp (by omega), nn_clamp (by omega), nn_clamp (by omega), nn_clamp (by omega), nn_clamp (by omega)]
  refine ⟨(nn_in (by omega)).mpr (by omega), (nn_in (by omega)).mpr (by omega), (nn_in (by omega)).mpr (by omega), (nn_in (by omega)).mpr (by omega), (nn_in (by omega)).mpr (by omega), ?_⟩
  generalize hF2 : ip_u (ip_u (ip_u (ip_u (ip_u F1 193 1 (F a (p + 25))) 193 3 (F a (p + 26))) 193 4 (F a (p + 27))) 193 5 (F a (p + 28))) 193 22 (F a (p + 29)) = F2
  have f2 : ∀ b, b ≠ 193 → F2 b = F1 b := fun b hb => by rw [← hF2, u_n hb, u_n hb, u_n hb, u_n hb, u_n hb]
  have v2 : ∀ x, F2 193 x = if x = 22 then F a (p + 29) else if x = 5 then F a (p + 28) else if x = 4 then F a (p + 27) else if x = 3 then F a (p + 26) else if x = 1 then F a (p + 25) else F1 193 x := fun x => by rw [← hF2, u_s, u_s, u_s, u_s, u_s]
  refine sp228_58 (F0 := F2) ha hp hn1 ha2 6 0 _ rfl (fun i hi => absurd hi (by omega)) (fun _ _ => rfl) (fun F3 a3 b3 => sp228_86 (F0 := F3) ha hp hn1 ha2 8 0 _ rfl (fun i hi => absurd hi (by omega)) (fun _ _ => rfl) (fun F4 a4 b4 => sp228_114 (F0 := F4) ha hp hn1 ha2 18 0 _ rfl (fun i hi => absurd hi (by omega)) (fun _ _ => rfl) (fun F5 a5 b5 => sp228_142 (F0 := F5) ha hp hn1 ha2 24 0 _ rfl (fun i hi => absurd hi (by omega)) (fun _ _ => rfl) (fun F6 a6 b6 => sp228_170 (F0 := F6) ha hp hn1 ha2 200 0 _ rfl (fun i hi => absurd hi (by omega)) (fun _ _ => rfl) (fun F7 a7 b7 => ?_)))))
  have c2 : F2 a = F a := by rw [f2 a (by omega), e1]
  have c3 : F3 a = F a := by rw [b3 a (by omega), c2]
  have c4 : F4 a = F a := by rw [b4 a (by omega), c3]
  have c5 : F5 a = F a := by rw [b5 a (by omega), c4]
  have c6 : F6 a = F a := by rw [b6 a (by omega), c5]
  have fr : ∀ b, b ≠ 195 → b ≠ 200 → b ≠ 201 → b ≠ 202 → b ≠ 207 → F7 b = F2 b := fun b q1 q2 q3 q4 q5 => by rw [b7 b q5, b6 b q4, b5 b q3, b4 b q2, b3 b q1]
  have e93 : F7 193 = F2 193 := fr 193 (by decide) (by decide) (by decide) (by decide) (by decide)
  have em : ∀ i, i < 25 → mr9 F7 i = ly9 (F a) p i := fun i hi => by
    rw [← h1 i hi, mr_fr (F := F1) (F' := F7) (by rw [e93, v2]; rfl) (by rw [fr 196 (by decide) (by decide) (by decide) (by decide) (by decide), f2 196 (by decide)]) (by rw [fr 197 (by decide) (by decide) (by decide) (by decide) (by decide), f2 197 (by decide)]) (by rw [fr 198 (by decide) (by decide) (by decide) (by decide) (by decide), f2 198 (by decide)]) (by rw [fr 199 (by decide) (by decide) (by decide) (by decide) (by decide), f2 199 (by decide)])]
  refine h F7 (lv_of (v := fun x => F a (p + x)) ?_ (fun i hi => ?_) (fun i hi => ?_) (fun i hi => ?_) (fun i hi => ?_) ?_ ?_ ?_ ?_ ?_ (fun i hi => ?_) (fun i hi => ?_) (fun i hi => ?_) (fun i hi => ?_) (fun i hi => ?_)) (fun x hx hx2 => ?_) (fun b hb hb2 hb3 => ?_)
  · have := em 24 (by omega)
    rw [mr_24] at this
    exact this
  · rw [← mr_0 (F := F7) hi, em i (by omega), ly9, if_neg (by omega)]
    show F a _ = F a _
    congr 1
    omega
  · rw [← mr_6 (F := F7) hi, em _ (by omega), ly9, if_neg (by omega)]
    show F a _ = F a _
    congr 1
    omega
  · rw [← mr_12 (F := F7) hi, em _ (by omega), ly9, if_neg (by omega)]
    show F a _ = F a _
    congr 1
    omega
  · rw [← mr_18 (F := F7) hi, em _ (by omega), ly9, if_neg (by omega)]
    show F a _ = F a _
    congr 1
    omega
  · rw [e93, v2]
    rfl
  · rw [e93, v2]
    rfl
  · rw [e93, v2]
    rfl
  · rw [e93, v2]
    rfl
  · rw [e93, v2]
    rfl
  · rw [b7 _ (by decide), b6 _ (by decide), b5 _ (by decide), b4 _ (by decide), a3 i hi, c2]
  · rw [b7 _ (by decide), b6 _ (by decide), b5 _ (by decide), a4 i hi, c3]
  · rw [b7 _ (by decide), b6 _ (by decide), a5 i hi, c4]
  · rw [b7 _ (by decide), a6 i hi, c5]
  · rw [a7 i hi, c6]
  · rw [e93, v2, if_neg hx2, if_neg (by omega), if_neg (by omega), if_neg (by omega), if_neg (by omega), h2, ups, if_neg (by omega)]
  · rw [fr b (by omega) (by omega) (by omega) (by omega) hb3, f2 b hb, h3 b hb (by omega)]
theorem ok10_i {i : Nat} (hi : i < 2) : ok10 t (21 + 20 * i) := by
  match i, hi with
  | 0, _ => exact ok10_21 t
  | 1, _ => exact ok10_41 t
theorem sp134 {i : Nat} (hi : i < 2) (h : Q (some (.ref (21 + 20 * i))) (hs t, F, G)) : wp 134 0 [.ref 0, .int (Int32.ofNat i)] [] (hs t, F, G) Q := by
  match i, hi with
  | 0, _ => exact rg134_0 (ok10_21 t) ⟨fun q => absurd rfl q, fun _ => rg134_15 (ok10_21 t) h⟩
  | 1, _ => exact rg134_0 (ok10_41 t) ⟨fun _ => rg134_15 (ok10_41 t) h, fun q => absurd q (by decide)⟩
theorem pr_image {a : Int32} (hI : INV t F G) : wp 124 0 [.ref 0, .int a] [] (hs t, F, G) (fun v M => wp 229 0 [.ref 193, .int a] [] M (ENi v)) := by
  obtain ⟨n, hN⟩ := hI.2.1
  by_cases ha : (0 : Int32) ≤ a ∧ a ≤ 1
  · obtain ⟨i, hi, rfl⟩ := nn_bet (b := 1) (by omega) ha.1 ha.2
    have hv : vp_in (Int32.ofNat i) 2 := (nn_in (by omega)).mpr (by omega)
    have ok := ok10_i (t := t) (i := i) (by omega)
    refine ck124 ok (fun _ => ?_) (fun hn => absurd ha hn)
    refine rg124_6 ok ⟨fun _ => ⟨hv, sp134 (by omega) (rg124_28 ok (sp90 ok (ok10_1 t) (Or.inr (by omega)) (fun F1 d6 d1 d3 d4 d5 d14 d15 d16 d17 d18 d19 df => rg124_35 ok ?_)))⟩, fun q => absurd q (by decide)⟩
    rw [nn_clamp (by omega), show vp_nar .boolean 1 = 1 by decide] at d6 d1 d3 d4 d5 d14 d15 d16 d17 d18 d19 df
    refine ck229 (fun _ => ?_) (fun hn => absurd ha hn)
    refine rg229_6 ⟨fun _ => ⟨hv, ?_⟩, fun q => absurd q (by decide)⟩
    rw [nn_clamp (by omega), show (300 : Int32) * Int32.ofNat i = Int32.ofNat (300 * i) from nn_mul 300 i]
    refine sp227 (a := 211) (n1 := 600) rfl (by omega) (by omega) (by omega) (fun F2 hL => rg229_34 (en_i ?_ rfl))
    have u61 : ∀ b, b ≠ 61 → ip_u F 61 i 1 b = F b := fun b hb => u_n hb
    have f1 : ∀ b, b < 21 + 20 * i ∨ 21 + 20 * i + 19 < b → b ≠ 61 → F1 b = F b := fun b hb hb2 => by rw [df b hb, u61 b hb2]
    have f2 : ∀ b, b < 21 + 20 * i ∨ 21 + 20 * i + 19 < b → b ≠ 61 → b ≠ 211 → b ≠ 212 → F2 b = F b := fun b hb hb2 hb3 hb4 => by rw [hL.2.2 b hb3, u_n hb4, f1 b hb hb2]
    have elv : lv9 (ip_u F1 212 i 1) = lv9 F := lv_fr (fun b hb => by rw [u_n (by omega), f1 b (by omega) (by omega)])
    have hk : ∀ b, 21 + 20 * i ≤ b → b ≤ 21 + 20 * i + 19 → F2 b = F1 b := fun b hb hb2 => by rw [hL.2.2 b (by omega), u_n (by omega)]
    obtain ⟨ht, -, hM, hR, hT, hG⟩ := hI
    refine ⟨ht, ⟨n, nr_fr hN (fun b hb => f2 b (by omega) (by omega) (by omega) (by omega))⟩, fun j hj => ?_, rf_fr hR (f2 192 (by omega) (by omega) (by omega) (by omega)) (f2 194 (by omega) (by omega) (by omega) (by omega)), tx_fr hT (by rw [f2 62 (by omega) (by omega) (by omega) (by omega)]) (f2 63 (by omega) (by omega) (by omega) (by omega)) (by rw [f2 193 (by omega) (by omega) (by omega) (by omega)]) (f2 203 (by omega) (by omega) (by omega) (by omega)), hG⟩
    rw [hL.2.2 61 (by omega), u_n (show 61 ≠ 212 by omega), df 61 (by omega), hL.2.2 212 (by omega), u_s, u_s, f1 212 (by omega) (by omega)]
    by_cases e : j = i
    · subst e
      rw [if_pos rfl, if_pos rfl]
      refine ⟨rfl, Or.inr ⟨rfl, n, tr_copy (o := 1) (v := lv9 F) (nr_tr hN) ?_ (fun x hx => ?_) (fun x hx => ?_) ?_ (fun q hq x hx => ?_) ?_ (fun x hx => ?_) ?_ (fun x hx => ?_) ?_ (fun x hx => ?_) (fun x hx => ?_)⟩⟩
      · rw [hk _ (by omega) (by omega), d6, u61 1 (by omega)]
      · rw [hk _ (by omega) (by omega), d1 x hx, u61 _ (by omega)]
      · rw [hk _ (by omega) (by omega), d3 x hx, u61 _ (by omega)]
      · rw [hk _ (by omega) (by omega), d4, u61 _ (by omega)]
      · rw [hk _ (by omega) (by omega), d5 q hq x hx, u61 _ (by omega)]
      · rw [hk _ (by omega) (by omega), d14, u61 _ (by omega)]
      · rw [hk _ (by omega) (by omega), d15 x hx, u61 _ (by omega)]
      · rw [hk _ (by omega) (by omega), d16, u61 _ (by omega)]
      · rw [hk _ (by omega) (by omega), d17 x hx, u61 _ (by omega)]
      · rw [hk _ (by omega) (by omega), d18, u61 _ (by omega)]
      · rw [hk _ (by omega) (by omega), d19 x hx, u61 _ (by omega)]
      · have := hL.1 x hx
        rw [elv] at this
        exact this
    · rw [if_neg e, if_neg e]
      obtain ⟨g1, g2⟩ := hM j hj
      refine ⟨g1, g2.imp id (fun ⟨q, n', hT⟩ => ⟨q, n', tr_fr hT (fun b hb hb2 => f2 b (by omega) (by omega) (by omega) (by omega)) (fun x hx => ?_)⟩)⟩
      show F2 211 _ = F 211 _
      rw [hL.2.1 _ (by omega), u_n (by omega), f1 211 (by omega) (by omega)]
  · refine ck124 (ok10_21 t) (fun q => absurd q ha) (fun _ => ?_)
    exact ck229 (fun q => absurd q ha) (fun _ => en_bad hI)
theorem pr_from {a : Int32} (hI : INV t F G) : wp 125 0 [.ref 0, .int a] [] (hs t, F, G) (fun v M => wp 230 0 [.ref 193, .int a] [] M (ENi v)) := by
  by_cases ha : (0 : Int32) ≤ a ∧ a ≤ 1
  · obtain ⟨i, hi, rfl⟩ := nn_bet (b := 1) (by omega) ha.1 ha.2
    have hv : vp_in (Int32.ofNat i) 2 := (nn_in (by omega)).mpr (by omega)
    have ok := ok10_i (t := t) (i := i) (by omega)
    obtain ⟨k1, k2⟩ := hI.2.2.1 i (by omega)
    refine ck125 ok (fun _ => ?_) (fun hn => absurd ha hn)
    refine rg125_6 ok ⟨fun _ => ⟨hv, fun q => ?_, fun q => sp133n (rg125_31 ok ?_)⟩, fun q => absurd q (by decide)⟩
    · rw [nn_clamp (by omega)] at q
      obtain ⟨q1, n, hT⟩ : F 212 i = 1 ∧ ∃ n, TR9 (21 + 20 * i) n F (fun x => F 211 (300 * i + x)) := k2.resolve_left (fun z => q (by rw [k1, z]))
      refine sp134 (by omega) (rg125_41 ok (sp90 (ok10_1 t) ok (Or.inl (by omega)) (fun F1 d6 d1 d3 d4 d5 d14 d15 d16 d17 d18 d19 df => rg125_44 ok ?_)))
      refine ck230 (fun _ => ?_) (fun hn => absurd ha hn)
      refine rg230_6 ⟨fun _ => ⟨hv, fun _ => ?_, fun q2 => ?_⟩, fun q => absurd q (by decide)⟩
      · rw [show (300 : Int32) * Int32.ofNat i = Int32.ofNat (300 * i) from nn_mul 300 i]
        refine sp228 (a := 211) (n1 := 600) rfl (by omega) (by omega) (by omega) (fun F2 g1 g2 g3 => rg230_41 (en_i ?_ rfl))
        have hk : ∀ b, 1 ≤ b → b ≤ 20 → F2 b = F1 b := fun b hb hb2 => g3 b (by omega) (by omega) (by omega)
        have e : ∀ b, 20 < b → b ≠ 193 → (b < 195 ∨ 202 < b) → b ≠ 207 → F2 b = F b := fun b hb hb2 hb3 hb4 => by rw [g3 b hb2 hb3 hb4, df b (by omega)]
        refine inv_nw (n := n) hI (fun b hb => e b (by omega) (by omega) (by omega) (by omega)) (by rw [g2 15 (by omega) (by omega), df 193 (by omega)]) (tr_nr (tr_copy (o := 21 + 20 * i) hT ?_ (fun x hx => ?_) (fun x hx => ?_) ?_ (fun q hq x hx => ?_) ?_ (fun x hx => ?_) ?_ (fun x hx => ?_) ?_ (fun x hx => ?_) (fun x hx => ?_)))
        · rw [hk _ (by omega) (by omega), d6]
        · rw [hk _ (by omega) (by omega), d1 x hx]
        · rw [hk _ (by omega) (by omega), d3 x hx]
        · rw [hk _ (by omega) (by omega), d4]
        · rw [hk _ (by omega) (by omega), d5 q hq x hx]
        · rw [hk _ (by omega) (by omega), d14]
        · rw [hk _ (by omega) (by omega), d15 x hx]
        · rw [hk _ (by omega) (by omega), d16]
        · rw [hk _ (by omega) (by omega), d17 x hx]
        · rw [hk _ (by omega) (by omega), d18]
        · rw [hk _ (by omega) (by omega), d19 x hx]
        · rw [g1 x hx, df 211 (by omega)]
      · rw [nn_clamp (by omega), df 212 (by omega), q1] at q2
        exact absurd q2 (by decide)
    · rw [nn_clamp (by omega)] at q
      refine ck230 (fun _ => ?_) (fun hn => absurd ha hn)
      refine rg230_6 ⟨fun _ => ⟨hv, fun q2 => ?_, fun _ => rg141_0 (rg230_27 (en_no hI))⟩, fun q => absurd q (by decide)⟩
      rw [nn_clamp (by omega), u_n (by decide)] at q2
      exact absurd (by rw [← k1, q]) q2
  · refine ck125 (ok10_21 t) (fun q => absurd q ha) (fun _ => ?_)
    exact ck230 (fun q => absurd q ha) (fun _ => en_bad hI)
end SP
