/-! ===== repeats among twelve numbers ===== -/
def erL (g : Nat → Int32) (row : Nat) : Nat → Nat → Option Nat
  | 0, _ => none
  | d + 1, k => if g k = g row then some k else erL g row d (k + 1)
/-- the first row before row that is told alike -/
def er9 (g : Nat → Int32) (row : Nat) : Option Nat := erL g row row 0
def en9 : Option Nat → Int32
  | none => -1
  | some k => Int32.ofNat k
def frL (g : Nat → Int32) : Nat → Nat → Option Nat
  | 0, _ => none
  | d + 1, k => if (er9 g k).isNone = true then frL g d (k + 1) else some k
/-- the first row that repeats one -/
def fr9 (g : Nat → Int32) : Option Nat := frL g 11 1
def tb9 (g : Nat → Int32) : Nat → Bool
  | 0 => true
  | k + 1 => tb9 g k && (decide (k = 0) || (er9 g k).isNone)
theorem erL_agree {g g' : Nat → Int32} {row : Nat} (h : ∀ x, x < 12 → g x = g' x) (hr : row < 12) : ∀ d k, k + d ≤ 12 → erL g row d k = erL g' row d k
  | 0, _, _ => rfl
  | d + 1, k, hk => by rw [erL, erL, h k (by omega), h row hr, erL_agree h hr d (k + 1) (by omega)]
theorem er_agree {g g' : Nat → Int32} {row : Nat} (h : ∀ x, x < 12 → g x = g' x) (hr : row < 12) : er9 g row = er9 g' row := erL_agree h hr row 0 (by omega)
theorem frL_agree {g g' : Nat → Int32} (h : ∀ x, x < 12 → g x = g' x) : ∀ d k, k + d ≤ 12 → frL g d k = frL g' d k
  | 0, _, _ => rfl
  | d + 1, k, hk => by rw [frL, frL, er_agree h (by omega), frL_agree h d (k + 1) (by omega)]
theorem fr_agree {g g' : Nat → Int32} (h : ∀ x, x < 12 → g x = g' x) : fr9 g = fr9 g' := frL_agree h 11 1 (by omega)
theorem erL_lt {g : Nat → Int32} {row : Nat} : ∀ d k r, erL g row d k = some r → r < k + d
  | 0, _, _, h => by cases h
  | d + 1, k, r, h => by
    rw [erL] at h
    split at h
    · cases h
      omega
    · have := erL_lt d (k + 1) r h
      omega
theorem er_lt {g : Nat → Int32} {row r : Nat} (h : er9 g row = some r) : r < row := by
  have := erL_lt row 0 r h
  omega
theorem frL_lt {g : Nat → Int32} : ∀ d k r, frL g d k = some r → k ≤ r ∧ r < k + d
  | 0, _, _, h => by cases h
  | d + 1, k, r, h => by
    rw [frL] at h
    split at h
    · have := frL_lt d (k + 1) r h
      omega
    · cases h
      omega
theorem fr_lt {g : Nat → Int32} {r : Nat} (h : fr9 g = some r) : 1 ≤ r ∧ r < 12 := frL_lt 11 1 r h
theorem tb_fr {g : Nat → Int32} : ∀ d k, 1 ≤ k → tb9 g (k + d) = (tb9 g k && (frL g d k).isNone)
  | 0, k, _ => by simp [frL]
  | d + 1, k, hk => by
    rw [show k + (d + 1) = (k + 1) + d by omega, tb_fr d (k + 1) (by omega), tb9, frL]
    have : decide (k = 0) = false := by
      simp
      omega
    rw [this, Bool.false_or]
    cases h : (er9 g k).isNone
    · simp
    · simp
theorem tb_12 {g : Nat → Int32} : tb9 g 12 = (fr9 g).isNone := by
  rw [show 12 = 1 + 11 from rfl, tb_fr 11 1 (by omega)]
  simp [tb9, fr9]
theorem en_m1 {o : Option Nat} (h : ∀ r, o = some r → r < 12) : en9 o = -1 ↔ o.isNone = true := by
  cases o with
  | none => exact ⟨fun _ => rfl, fun _ => rfl⟩
  | some r =>
    have := h r rfl
    exact ⟨fun q => absurd q (nn_nem1 (by omega)), fun q => by cases q⟩
theorem er_m1 {g : Nat → Int32} {row : Nat} (hr : row < 12) : en9 (er9 g row) = -1 ↔ (er9 g row).isNone = true := en_m1 (fun r h => by have := er_lt h; omega)
theorem fr_m1 {g : Nat → Int32} : en9 (fr9 g) = -1 ↔ (fr9 g).isNone = true := en_m1 (fun r h => (fr_lt h).2)
section SP
variable {t : Nat} {F : ip_F} {G : ip_G} {Q : Option Value → ip_M → Prop}
theorem sp29_2 {row : Nat} (hr : row < 12) : ∀ d k, k + d = row → Q (some (.int (en9 (erL (F 117) row d k)))) (hs t, F, G) → wp 29 2 [.ref 89, .int (Int32.ofNat row), .int (Int32.ofNat k)] [] (hs t, F, G) Q := by
  intro d
  induction d with
  | zero =>
    intro k hk h
    obtain rfl : k = row := by omega
    refine rg29_2 ⟨fun _ => h, fun q => ?_⟩
    (simp (disch := omega) only [nn_lit, nn_m1, nn_add, nn_mul, nn_rem, nn_sub, nn_addm1, nn_lt, nn_le, nn_eq, nn_clamp, nn_in, nn_nem1, nn_m1ne, nn_ltm1, nn_m1lt, nn_m1le, nn_lem1, bz_0, bz_n0, not_false_eq_true, not_true_eq_false, true_and, and_true, false_and, and_false, false_implies, true_implies, forall_const, Nat.reduceMul, Nat.reduceAdd, Nat.reduceSub] at q <;> try simp only [nn_bk] at q)
    omega
  | succ d ih =>
    intro k hk h
    rw [erL] at h
    refine rg29_2 ⟨fun q => ?_, fun _ => ⟨fun q => ?_, fun _ => ⟨?_, ?_, fun e => ?_, fun e => ?_⟩⟩⟩
    · (simp (disch := omega) only [nn_lit, nn_m1, nn_add, nn_mul, nn_rem, nn_sub, nn_addm1, nn_lt, nn_le, nn_eq, nn_clamp, nn_in, nn_nem1, nn_m1ne, nn_ltm1, nn_m1lt, nn_m1le, nn_lem1, bz_0, bz_n0, not_false_eq_true, not_true_eq_false, true_and, and_true, false_and, and_false, false_implies, true_implies, forall_const, Nat.reduceMul, Nat.reduceAdd, Nat.reduceSub] at q <;> try simp only [nn_bk] at q)
      omega
    · (simp (disch := omega) only [nn_lit, nn_m1, nn_add, nn_mul, nn_rem, nn_sub, nn_addm1, nn_lt, nn_le, nn_eq, nn_clamp, nn_in, nn_nem1, nn_m1ne, nn_ltm1, nn_m1lt, nn_m1le, nn_lem1, bz_0, bz_n0, not_false_eq_true, not_true_eq_false, true_and, and_true, false_and, and_false, false_implies, true_implies, forall_const, Nat.reduceMul, Nat.reduceAdd, Nat.reduceSub] at q <;> try simp only [nn_bk] at q)
      omega
    · (simp (disch := omega) only [nn_lit, nn_m1, nn_add, nn_mul, nn_rem, nn_sub, nn_addm1, nn_lt, nn_le, nn_eq, nn_clamp, nn_in, nn_nem1, nn_m1ne, nn_ltm1, nn_m1lt, nn_m1le, nn_lem1, bz_0, bz_n0, not_false_eq_true, not_true_eq_false, true_and, and_true, false_and, and_false, false_implies, true_implies, forall_const, Nat.reduceMul, Nat.reduceAdd, Nat.reduceSub] <;> try simp only [nn_bk])
      omega
    · (simp (disch := omega) only [nn_lit, nn_m1, nn_add, nn_mul, nn_rem, nn_sub, nn_addm1, nn_lt, nn_le, nn_eq, nn_clamp, nn_in, nn_nem1, nn_m1ne, nn_ltm1, nn_m1lt, nn_m1le, nn_lem1, bz_0, bz_n0, not_false_eq_true, not_true_eq_false, true_and, and_true, false_and, and_false, false_implies, true_implies, forall_const, Nat.reduceMul, Nat.reduceAdd, Nat.reduceSub] <;> try simp only [nn_bk])
      omega
    · (simp (disch := omega) only [nn_lit, nn_m1, nn_add, nn_mul, nn_rem, nn_sub, nn_addm1, nn_lt, nn_le, nn_eq, nn_clamp, nn_in, nn_nem1, nn_m1ne, nn_ltm1, nn_m1lt, nn_m1le, nn_lem1, bz_0, bz_n0, not_false_eq_true, not_true_eq_false, true_and, and_true, false_and, and_false, false_implies, true_implies, forall_const, Nat.reduceMul, Nat.reduceAdd, Nat.reduceSub] at e <;> try simp only [nn_bk] at e)
      (simp (disch := omega) only [nn_lit, nn_m1, nn_add, nn_mul, nn_rem, nn_sub, nn_addm1, nn_lt, nn_le, nn_eq, nn_clamp, nn_in, nn_nem1, nn_m1ne, nn_ltm1, nn_m1lt, nn_m1le, nn_lem1, bz_0, bz_n0, not_false_eq_true, not_true_eq_false, true_and, and_true, false_and, and_false, false_implies, true_implies, forall_const, Nat.reduceMul, Nat.reduceAdd, Nat.reduceSub] <;> try simp only [nn_bk])
      rw [if_neg e] at h
      exact ih (k + 1) (by omega) h
    · (simp (disch := omega) only [nn_lit, nn_m1, nn_add, nn_mul, nn_rem, nn_sub, nn_addm1, nn_lt, nn_le, nn_eq, nn_clamp, nn_in, nn_nem1, nn_m1ne, nn_ltm1, nn_m1lt, nn_m1le, nn_lem1, bz_0, bz_n0, not_false_eq_true, not_true_eq_false, true_and, and_true, false_and, and_false, false_implies, true_implies, forall_const, Nat.reduceMul, Nat.reduceAdd, Nat.reduceSub] at e <;> try simp only [nn_bk] at e)
      rw [if_pos e] at h
      exact h
theorem sp29 {row : Nat} (hr : row < 12) (h : Q (some (.int (en9 (er9 (F 117) row)))) (hs t, F, G)) : wp 29 0 [.ref 89, .int (Int32.ofNat row), .float 0] [] (hs t, F, G) Q := rg29_0 (sp29_2 hr row 0 (by omega) h)
theorem sp30_2 : ∀ d k, k + d = 12 → Q (some (.int (en9 (frL (F 117) d k)))) (hs t, F, G) → wp 30 2 [.ref 89, .int (Int32.ofNat k)] [] (hs t, F, G) Q := by
  intro d
  induction d with
  | zero =>
    intro k hk h
    obtain rfl : k = 12 := by omega
    exact rg30_2 ⟨fun _ => h, fun q => absurd q (by decide)⟩
  | succ d ih =>
    intro k hk h
    rw [frL] at h
    refine rg30_2 ⟨fun q => ?_, fun _ => sp29 (by omega) (rg30_13 ⟨fun e => ?_, fun e => ?_⟩)⟩
    · (simp (disch := omega) only [nn_lit, nn_m1, nn_add, nn_mul, nn_rem, nn_sub, nn_addm1, nn_lt, nn_le, nn_eq, nn_clamp, nn_in, nn_nem1, nn_m1ne, nn_ltm1, nn_m1lt, nn_m1le, nn_lem1, bz_0, bz_n0, not_false_eq_true, not_true_eq_false, true_and, and_true, false_and, and_false, false_implies, true_implies, forall_const, Nat.reduceMul, Nat.reduceAdd, Nat.reduceSub] at q <;> try simp only [nn_bk] at q)
      omega
    · rw [er_m1 (by omega)] at e
      rw [if_pos e] at h
      (simp (disch := omega) only [nn_lit, nn_m1, nn_add, nn_mul, nn_rem, nn_sub, nn_addm1, nn_lt, nn_le, nn_eq, nn_clamp, nn_in, nn_nem1, nn_m1ne, nn_ltm1, nn_m1lt, nn_m1le, nn_lem1, bz_0, bz_n0, not_false_eq_true, not_true_eq_false, true_and, and_true, false_and, and_false, false_implies, true_implies, forall_const, Nat.reduceMul, Nat.reduceAdd, Nat.reduceSub] <;> try simp only [nn_bk])
      exact ih (k + 1) (by omega) h
    · rw [er_m1 (by omega)] at e
      rw [if_neg e] at h
      exact h
theorem sp30 (h : Q (some (.int (en9 (fr9 (F 117))))) (hs t, F, G)) : wp 30 0 [.ref 89, .float 0] [] (hs t, F, G) Q := rg30_0 (sp30_2 11 1 rfl h)
theorem sp31 (h : Q (some (.int (bz ((fr9 (F 117)).isNone = true)))) (hs t, F, G)) : wp 31 0 [.ref 89] [] (hs t, F, G) Q := by
  refine rg31_0 (sp30 (rg31_4 ⟨fun e => ?_, fun e => ?_⟩))
  · rw [fr_m1] at e
    rwa [bz_f e] at h
  · rw [fr_m1] at e
    rwa [bz_t e] at h
/-! the reference -/
theorem sp184_2 {row : Nat} (hr : row < 12) : ∀ d k, k + d = row → Q (some (.int (en9 (erL (F 206) row d k)))) (hs t, F, G) → wp 184 2 [.ref 193, .int (Int32.ofNat row), .int (Int32.ofNat k)] [] (hs t, F, G) Q := by
  intro d
  induction d with
  | zero =>
    intro k hk h
    obtain rfl : k = row := by omega
    refine rg184_2 ⟨?_, ?_, fun _ => ⟨fun _ => h, fun q => ?_⟩, fun e => absurd rfl e⟩
    · (simp (disch := omega) only [nn_lit, nn_m1, nn_add, nn_mul, nn_rem, nn_sub, nn_addm1, nn_lt, nn_le, nn_eq, nn_clamp, nn_in, nn_nem1, nn_m1ne, nn_ltm1, nn_m1lt, nn_m1le, nn_lem1, bz_0, bz_n0, not_false_eq_true, not_true_eq_false, true_and, and_true, false_and, and_false, false_implies, true_implies, forall_const, Nat.reduceMul, Nat.reduceAdd, Nat.reduceSub] <;> try simp only [nn_bk])
      omega
    · (simp (disch := omega) only [nn_lit, nn_m1, nn_add, nn_mul, nn_rem, nn_sub, nn_addm1, nn_lt, nn_le, nn_eq, nn_clamp, nn_in, nn_nem1, nn_m1ne, nn_ltm1, nn_m1lt, nn_m1le, nn_lem1, bz_0, bz_n0, not_false_eq_true, not_true_eq_false, true_and, and_true, false_and, and_false, false_implies, true_implies, forall_const, Nat.reduceMul, Nat.reduceAdd, Nat.reduceSub] <;> try simp only [nn_bk])
      omega
    · (simp (disch := omega) only [nn_lit, nn_m1, nn_add, nn_mul, nn_rem, nn_sub, nn_addm1, nn_lt, nn_le, nn_eq, nn_clamp, nn_in, nn_nem1, nn_m1ne, nn_ltm1, nn_m1lt, nn_m1le, nn_lem1, bz_0, bz_n0, not_false_eq_true, not_true_eq_false, true_and, and_true, false_and, and_false, false_implies, true_implies, forall_const, Nat.reduceMul, Nat.reduceAdd, Nat.reduceSub] at q <;> try simp only [nn_bk] at q)
      omega
  | succ d ih =>
    intro k hk h
    rw [erL] at h
    refine rg184_2 ⟨?_, ?_, fun e => ⟨fun q => ?_, fun _ => ?_⟩, fun e => ?_⟩
    · (simp (disch := omega) only [nn_lit, nn_m1, nn_add, nn_mul, nn_rem, nn_sub, nn_addm1, nn_lt, nn_le, nn_eq, nn_clamp, nn_in, nn_nem1, nn_m1ne, nn_ltm1, nn_m1lt, nn_m1le, nn_lem1, bz_0, bz_n0, not_false_eq_true, not_true_eq_false, true_and, and_true, false_and, and_false, false_implies, true_implies, forall_const, Nat.reduceMul, Nat.reduceAdd, Nat.reduceSub] <;> try simp only [nn_bk])
      omega
    · (simp (disch := omega) only [nn_lit, nn_m1, nn_add, nn_mul, nn_rem, nn_sub, nn_addm1, nn_lt, nn_le, nn_eq, nn_clamp, nn_in, nn_nem1, nn_m1ne, nn_ltm1, nn_m1lt, nn_m1le, nn_lem1, bz_0, bz_n0, not_false_eq_true, not_true_eq_false, true_and, and_true, false_and, and_false, false_implies, true_implies, forall_const, Nat.reduceMul, Nat.reduceAdd, Nat.reduceSub] <;> try simp only [nn_bk])
      omega
    · (simp (disch := omega) only [nn_lit, nn_m1, nn_add, nn_mul, nn_rem, nn_sub, nn_addm1, nn_lt, nn_le, nn_eq, nn_clamp, nn_in, nn_nem1, nn_m1ne, nn_ltm1, nn_m1lt, nn_m1le, nn_lem1, bz_0, bz_n0, not_false_eq_true, not_true_eq_false, true_and, and_true, false_and, and_false, false_implies, true_implies, forall_const, Nat.reduceMul, Nat.reduceAdd, Nat.reduceSub] at q <;> try simp only [nn_bk] at q)
      omega
    · (simp (disch := omega) only [nn_lit, nn_m1, nn_add, nn_mul, nn_rem, nn_sub, nn_addm1, nn_lt, nn_le, nn_eq, nn_clamp, nn_in, nn_nem1, nn_m1ne, nn_ltm1, nn_m1lt, nn_m1le, nn_lem1, bz_0, bz_n0, not_false_eq_true, not_true_eq_false, true_and, and_true, false_and, and_false, false_implies, true_implies, forall_const, Nat.reduceMul, Nat.reduceAdd, Nat.reduceSub] at e <;> try simp only [nn_bk] at e)
      rw [if_pos e] at h
      exact h
    · (simp (disch := omega) only [nn_lit, nn_m1, nn_add, nn_mul, nn_rem, nn_sub, nn_addm1, nn_lt, nn_le, nn_eq, nn_clamp, nn_in, nn_nem1, nn_m1ne, nn_ltm1, nn_m1lt, nn_m1le, nn_lem1, bz_0, bz_n0, not_false_eq_true, not_true_eq_false, true_and, and_true, false_and, and_false, false_implies, true_implies, forall_const, Nat.reduceMul, Nat.reduceAdd, Nat.reduceSub] at e <;> try simp only [nn_bk] at e)
      (simp (disch := omega) only [nn_lit, nn_m1, nn_add, nn_mul, nn_rem, nn_sub, nn_addm1, nn_lt, nn_le, nn_eq, nn_clamp, nn_in, nn_nem1, nn_m1ne, nn_ltm1, nn_m1lt, nn_m1le, nn_lem1, bz_0, bz_n0, not_false_eq_true, not_true_eq_false, true_and, and_true, false_and, and_false, false_implies, true_implies, forall_const, Nat.reduceMul, Nat.reduceAdd, Nat.reduceSub] <;> try simp only [nn_bk])
      rw [if_neg e] at h
      exact ih (k + 1) (by omega) h
theorem sp184 {row : Nat} (hr : row < 12) (h : Q (some (.int (en9 (er9 (F 206) row)))) (hs t, F, G)) : wp 184 0 [.ref 193, .int (Int32.ofNat row), .float 0] [] (hs t, F, G) Q := rg184_0 (sp184_2 hr row 0 (by omega) h)
theorem sp185_9 {a1 : Int32} (h : Q (some (.int (bz (tb9 (F 206) 12 = true)))) (hs t, F, G)) : ∀ d k, k + d = 12 → 1 ≤ k → wp 185 9 [.ref 193, .int a1, .int (bz (tb9 (F 206) k = true)), .int (Int32.ofNat k)] [] (hs t, F, G) Q := by
  intro d
  induction d with
  | zero =>
    intro k hk _
    obtain rfl : k = 12 := by omega
    exact rg185_9 ⟨fun _ => ⟨bz_and, h⟩, fun q => absurd q (by decide)⟩
  | succ d ih =>
    intro k hk hk1
    have h1 := ih (k + 1) (by omega) (by omega)
    have e0 : tb9 (F 206) (k + 1) = (tb9 (F 206) k && (er9 (F 206) k).isNone) := by
      rw [tb9]
      have : decide (k = 0) = false := by
        simp
        omega
      rw [this, Bool.false_or]
    have next : ∀ z, z = bz (tb9 (F 206) (k + 1) = true) → wp 185 33 [.ref 193, .int a1, .int (bz (tb9 (F 206) k = true)), .int (Int32.ofNat k)] [.int z] (hs t, F, G) Q := by
      intro z hz
      subst hz
      refine rg185_33 ?_
      rw [show Int32.ofNat k + 1 = Int32.ofNat (k + 1) from nn_add k 1]
      exact h1
    refine rg185_9 ⟨fun q => ?_, fun _ => ⟨fun e => next _ ?_, fun e => sp184 (by omega) (rg185_24 ⟨fun e1 => next _ ?_, fun e1 => next _ ?_⟩)⟩⟩
    · (simp (disch := omega) only [nn_lit, nn_m1, nn_add, nn_mul, nn_rem, nn_sub, nn_addm1, nn_lt, nn_le, nn_eq, nn_clamp, nn_in, nn_nem1, nn_m1ne, nn_ltm1, nn_m1lt, nn_m1le, nn_lem1, bz_0, bz_n0, not_false_eq_true, not_true_eq_false, true_and, and_true, false_and, and_false, false_implies, true_implies, forall_const, Nat.reduceMul, Nat.reduceAdd, Nat.reduceSub] at q <;> try simp only [nn_bk] at q)
      omega
    · rw [bz_0] at e
      rw [bz_f (by rw [e0]; simp [e])]
    · rw [bz_n0] at e
      rw [er_m1 (by omega)] at e1
      rw [bz_f (by rw [e0]; simpa using fun _ => by simpa using e1)]
    · rw [bz_n0] at e
      rw [er_m1 (by omega)] at e1
      rw [bz_t (by rw [e0, e, e1]; rfl)]
end SP
/-- the twelve numbers rung -/
def gn9 (n : Nat) (ch c : Nat → Int32) (m : Nat) (mk : Nat → Int32) : Nat → Int32 := fun k => nm9 (ru9 n ch c m mk k) n
section SP
variable {t : Nat} {F : ip_F} {G : ip_G} {Q : Option Value → ip_M → Prop} {n : Nat}
theorem sp185 {m : Nat} {ch c : Nat → Int32} (h4 : 4 ≤ n) (hn : n ≤ 6) (hm64 : m < 64) (hk : KW9 n c) (hb : F 193 1 = Int32.ofNat n) (hch : F 195 = ch) (hc : mr9 F = c) (h : ∀ F', (∀ x, nmm x → F' x = F x) → Q (some (.int (bz ((fr9 (gn9 n ch c m mk0)).isNone = true)))) (hs t, F', G)) : wp 185 0 [.ref 193, .int (Int32.ofNat m), .float 0, .float 0] [] (hs t, F, G) Q := by
  refine rg185_0 (sp183 h4 hn hm64 hk hb hch hc (fun F1 h1 h2 => rg185_5 ?_))
  have := h F1 h2
  rw [← fr_agree (g := F1 206) (g' := gn9 n ch c m mk0) (fun x hx => h1 x hx), ← tb_12] at this
  exact sp185_9 this 11 1 rfl (by omega)
end SP
