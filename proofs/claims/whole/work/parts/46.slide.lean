/-! ===== one bell moved from place s to place q of a row: both sides ===== -/
def up9 (s q : Nat) (f : Nat → Int32) : Nat → Int32 := fun x => if s ≤ x ∧ x < q then f (x + 1) else f x
def dn9 (s q : Nat) (b : Int32) (f : Nat → Int32) : Nat → Int32 := fun x => if x = q then b else if q < x ∧ x ≤ s then f (x - 1) else f x
def sl9 (s q : Nat) (b : Int32) (f : Nat → Int32) : Nat → Int32 := dn9 s q b (up9 s q f)
theorem up_0 {s q : Nat} {f : Nat → Int32} (h : q ≤ s) : up9 s q f = f := by
  funext x
  unfold up9
  rw [if_neg (by omega)]
theorem up_1 {F : ip_F} {a s q : Nat} (h : s < q) : up9 (s + 1) q (ip_u F a s (F a (s + 1)) a) = up9 s q (F a) := by
  funext x
  unfold up9
  rw [u_s, u_s]
  by_cases h1 : x = s
  · subst h1
    rw [if_neg (by omega), if_pos rfl, if_pos (by omega)]
  · by_cases h2 : s + 1 ≤ x ∧ x < q
    · rw [if_pos h2, if_neg (by omega), if_pos (by omega)]
    · rw [if_neg h2, if_neg h1, if_neg (by omega)]
theorem dn_0 {F : ip_F} {a s q : Nat} {b : Int32} (h : s ≤ q) : ip_u F a q b a = dn9 s q b (F a) := by
  funext x
  unfold dn9
  rw [u_s]
  by_cases h1 : x = q
  · rw [if_pos h1, if_pos h1]
  · rw [if_neg h1, if_neg h1, if_neg (by omega)]
theorem dn_1 {F : ip_F} {a s q : Nat} {b : Int32} (h : q < s) : dn9 (s - 1) q b (ip_u F a s (F a (s - 1)) a) = dn9 s q b (F a) := by
  funext x
  unfold dn9
  rw [u_s, u_s]
  by_cases h0 : x = q
  · rw [if_pos h0, if_pos h0]
  · rw [if_neg h0, if_neg h0]
    by_cases h1 : x = s
    · subst h1
      rw [if_neg (by omega), if_pos rfl, if_pos (by omega)]
    · by_cases h2 : q < x ∧ x ≤ s - 1
      · rw [if_pos h2, if_neg (by omega), if_pos (by omega)]
      · rw [if_neg h2, if_neg h1, if_neg (by omega)]
theorem sl_agree {n s q : Nat} {b : Int32} {f g : Nat → Int32} (hs : s < n) (hq : q < n) (h : ∀ x, x < n → f x = g x) : ∀ x, x < n → sl9 s q b f x = sl9 s q b g x := by
  have h1 : ∀ x, x < n → up9 s q f x = up9 s q g x := by
    intro x hx
    unfold up9
    split
    · exact h _ (by omega)
    · exact h _ hx
  intro x hx
  unfold sl9 dn9
  split
  · rfl
  · split
    · exact h1 _ (by omega)
    · exact h1 _ hx
/-- the first place from x on where f has b -/
def fp9 (f : Nat → Int32) (b : Int32) : Nat → Nat → Nat
  | 0, x => x
  | d + 1, x => if f x = b then x else fp9 f b d (x + 1)
theorem fp_agree {n : Nat} {b : Int32} {f g : Nat → Int32} (h : ∀ x, x < n → f x = g x) : ∀ d x, x + d = n → fp9 f b d x = fp9 g b d x
  | 0, _, _ => rfl
  | d + 1, x, hx => by
    rw [fp9, fp9, h x (by omega), fp_agree h d (x + 1) (by omega)]
theorem fp_in {n : Nat} {b : Int32} {f : Nat → Int32} : ∀ d x, x + d = n → (∃ y, x ≤ y ∧ y < n ∧ f y = b) → fp9 f b d x < n ∧ f (fp9 f b d x) = b
  | 0, x, hx, h => by
    obtain ⟨y, h1, h2, _⟩ := h
    omega
  | d + 1, x, hx, h => by
    rw [fp9]
    by_cases e : f x = b
    · rw [if_pos e]
      exact ⟨by omega, e⟩
    · rw [if_neg e]
      obtain ⟨y, h1, h2, h3⟩ := h
      refine fp_in d (x + 1) (by omega) ⟨y, ?_, h2, h3⟩
      rcases Nat.lt_or_ge x y with q | q
      · omega
      · obtain rfl : x = y := by omega
        exact absurd h3 e
/-- where kind k sends place p (from 0) among n -/
def qt9 (k p n : Nat) : Nat := (pt9 (Int32.ofNat k) (Int32.ofNat (p + 1)) (Int32.ofNat n)).toNatClampNeg - 1
theorem qt_all : ∀ (k p : Fin 6) (n : Fin 7), 4 ≤ n.val → p.val < n.val → qt9 k p n < n.val ∧ pt9 (Int32.ofNat k) (Int32.ofNat (p.val + 1)) (Int32.ofNat n) = Int32.ofNat (qt9 k p n + 1) := by decide +kernel
theorem qt_lt {k p n : Nat} (hk : k ≤ 5) (hp : p < n) (h4 : 4 ≤ n) (hn : n ≤ 6) : qt9 k p n < n := (qt_all ⟨k, by omega⟩ ⟨p, by omega⟩ ⟨n, by omega⟩ h4 hp).1
theorem qt_eq {k p n : Nat} (hk : k ≤ 5) (hp : p < n) (h4 : 4 ≤ n) (hn : n ≤ 6) : pt9 (Int32.ofNat k) (Int32.ofNat (p + 1)) (Int32.ofNat n) = Int32.ofNat (qt9 k p n + 1) := (qt_all ⟨k, by omega⟩ ⟨p, by omega⟩ ⟨n, by omega⟩ h4 hp).2
/-- a slip of kind k made by bell b in the row f -/
def sp9 (n : Nat) (b : Int32) (k : Nat) (f : Nat → Int32) : Nat → Int32 := sl9 (fp9 f b n 0) (qt9 k (fp9 f b n 0) n) b f
section SP
variable {t : Nat} {G : ip_G} {Q : Option Value → ip_M → Prop} {n : Nat}
theorem sp27_2 {F : ip_F} {a : Nat} {b : Int32} (ha : (hs t)[a]? = some (1, 0, [6])) (hn : n ≤ 6) (hb : F 89 5 = Int32.ofNat n) : ∀ d x, x + d = n → (∃ y, x ≤ y ∧ y < n ∧ F a y = b) → Q (some (.int (Int32.ofNat (fp9 (F a) b d x + 1)))) (hs t, F, G) → wp 27 2 [.ref 89, .ref a, .int b, .int (Int32.ofNat x)] [] (hs t, F, G) Q := by
  intro d
  induction d with
  | zero =>
    intro x hx he h
    obtain ⟨y, h1, h2, _⟩ := he
    omega
  | succ d ih =>
    intro x hx he h
    rw [fp9] at h
    refine rg27_2 ha ⟨fun q => ?_, fun _ => ⟨fun q => ?_, fun _ => ⟨?_, fun e => ?_, fun e => ?_⟩⟩⟩
    · rw [hb] at q
      (simp (disch := omega) only [nn_lit, nn_m1, nn_add, nn_mul, nn_rem, nn_sub, nn_addm1, nn_lt, nn_le, nn_eq, nn_clamp, nn_in, nn_nem1, nn_m1ne, nn_ltm1, nn_m1lt, nn_m1le, nn_lem1, bz_0, bz_n0, not_false_eq_true, not_true_eq_false, true_and, and_true, false_and, and_false, false_implies, true_implies, forall_const, Nat.reduceMul, Nat.reduceAdd, Nat.reduceSub] at q <;> try simp only [nn_bk] at q)
      omega
    · (simp (disch := omega) only [nn_lit, nn_m1, nn_add, nn_mul, nn_rem, nn_sub, nn_addm1, nn_lt, nn_le, nn_eq, nn_clamp, nn_in, nn_nem1, nn_m1ne, nn_ltm1, nn_m1lt, nn_m1le, nn_lem1, bz_0, bz_n0, not_false_eq_true, not_true_eq_false, true_and, and_true, false_and, and_false, false_implies, true_implies, forall_const, Nat.reduceMul, Nat.reduceAdd, Nat.reduceSub] at q <;> try simp only [nn_bk] at q)
      omega
    · (simp (disch := omega) only [nn_lit, nn_m1, nn_add, nn_mul, nn_rem, nn_sub, nn_addm1, nn_lt, nn_le, nn_eq, nn_clamp, nn_in, nn_nem1, nn_m1ne, nn_ltm1, nn_m1lt, nn_m1le, nn_lem1, bz_0, bz_n0, not_false_eq_true, not_true_eq_false, true_and, and_true, false_and, and_false, false_implies, true_implies, forall_const, Nat.reduceMul, Nat.reduceAdd, Nat.reduceSub] <;> try simp only [nn_bk])
      omega
    · (simp (disch := omega) only [nn_lit, nn_m1, nn_add, nn_mul, nn_rem, nn_sub, nn_addm1, nn_lt, nn_le, nn_eq, nn_clamp, nn_in, nn_nem1, nn_m1ne, nn_ltm1, nn_m1lt, nn_m1le, nn_lem1, bz_0, bz_n0, not_false_eq_true, not_true_eq_false, true_and, and_true, false_and, and_false, false_implies, true_implies, forall_const, Nat.reduceMul, Nat.reduceAdd, Nat.reduceSub] at e <;> try simp only [nn_bk] at e)
      (simp (disch := omega) only [nn_lit, nn_m1, nn_add, nn_mul, nn_rem, nn_sub, nn_addm1, nn_lt, nn_le, nn_eq, nn_clamp, nn_in, nn_nem1, nn_m1ne, nn_ltm1, nn_m1lt, nn_m1le, nn_lem1, bz_0, bz_n0, not_false_eq_true, not_true_eq_false, true_and, and_true, false_and, and_false, false_implies, true_implies, forall_const, Nat.reduceMul, Nat.reduceAdd, Nat.reduceSub] <;> try simp only [nn_bk])
      rw [if_neg e] at h
      obtain ⟨y, h1, h2, h3⟩ := he
      refine ih (x + 1) (by omega) ⟨y, ?_, h2, h3⟩ h
      rcases Nat.lt_or_ge x y with q | q
      · omega
      · obtain rfl : x = y := by omega
        exact absurd h3 e
    · (simp (disch := omega) only [nn_lit, nn_m1, nn_add, nn_mul, nn_rem, nn_sub, nn_addm1, nn_lt, nn_le, nn_eq, nn_clamp, nn_in, nn_nem1, nn_m1ne, nn_ltm1, nn_m1lt, nn_m1le, nn_lem1, bz_0, bz_n0, not_false_eq_true, not_true_eq_false, true_and, and_true, false_and, and_false, false_implies, true_implies, forall_const, Nat.reduceMul, Nat.reduceAdd, Nat.reduceSub] at e <;> try simp only [nn_bk] at e)
      (simp (disch := omega) only [nn_lit, nn_m1, nn_add, nn_mul, nn_rem, nn_sub, nn_addm1, nn_lt, nn_le, nn_eq, nn_clamp, nn_in, nn_nem1, nn_m1ne, nn_ltm1, nn_m1lt, nn_m1le, nn_lem1, bz_0, bz_n0, not_false_eq_true, not_true_eq_false, true_and, and_true, false_and, and_false, false_implies, true_implies, forall_const, Nat.reduceMul, Nat.reduceAdd, Nat.reduceSub] <;> try simp only [nn_bk])
      rw [if_pos e] at h
      exact h
theorem sp27 {F : ip_F} {a : Nat} {b : Int32} (ha : (hs t)[a]? = some (1, 0, [6])) (hn : n ≤ 6) (hb : F 89 5 = Int32.ofNat n) (he : ∃ y, y < n ∧ F a y = b) (h : Q (some (.int (Int32.ofNat (fp9 (F a) b n 0 + 1)))) (hs t, F, G)) : wp 27 0 [.ref 89, .ref a, .int b, .float 0] [] (hs t, F, G) Q := by
  obtain ⟨y, h1, h2⟩ := he
  exact rg27_0 ha (sp27_2 ha hn hb n 0 (by omega) ⟨y, by omega, h1, h2⟩ h)
theorem sp26_84 {a q : Nat} {b a3 a4 : Int32} (ha : (hs t)[a]? = some (1, 0, [6])) (hq : q < 6) : ∀ d s F, s ≤ q + d → s < 6 → (∀ F', F' a = dn9 s q b (F a) → (∀ x, x ≠ a → F' x = F x) → Q none (hs t, F', G)) → wp 26 84 [.ref 89, .ref a, .int b, .int a3, .int a4, .int (Int32.ofNat q), .int (Int32.ofNat s)] [] (hs t, F, G) Q := by
  intro d
  induction d with
  | zero =>
    intro s F hs hs6 h
    refine rg26_84 ha ⟨fun _ => ⟨?_, ?_⟩, fun p => ?_⟩
    · (simp (disch := omega) only [nn_lit, nn_m1, nn_add, nn_mul, nn_rem, nn_sub, nn_addm1, nn_lt, nn_le, nn_eq, nn_clamp, nn_in, nn_nem1, nn_m1ne, nn_ltm1, nn_m1lt, nn_m1le, nn_lem1, bz_0, bz_n0, not_false_eq_true, not_true_eq_false, true_and, and_true, false_and, and_false, false_implies, true_implies, forall_const, Nat.reduceMul, Nat.reduceAdd, Nat.reduceSub] <;> try simp only [nn_bk])
      omega
    · (simp (disch := omega) only [nn_lit, nn_m1, nn_add, nn_mul, nn_rem, nn_sub, nn_addm1, nn_lt, nn_le, nn_eq, nn_clamp, nn_in, nn_nem1, nn_m1ne, nn_ltm1, nn_m1lt, nn_m1le, nn_lem1, bz_0, bz_n0, not_false_eq_true, not_true_eq_false, true_and, and_true, false_and, and_false, false_implies, true_implies, forall_const, Nat.reduceMul, Nat.reduceAdd, Nat.reduceSub] <;> try simp only [nn_bk])
      exact h _ (dn_0 (by omega)) (fun x hx => u_n hx)
    · (simp (disch := omega) only [nn_lit, nn_m1, nn_add, nn_mul, nn_rem, nn_sub, nn_addm1, nn_lt, nn_le, nn_eq, nn_clamp, nn_in, nn_nem1, nn_m1ne, nn_ltm1, nn_m1lt, nn_m1le, nn_lem1, bz_0, bz_n0, not_false_eq_true, not_true_eq_false, true_and, and_true, false_and, and_false, false_implies, true_implies, forall_const, Nat.reduceMul, Nat.reduceAdd, Nat.reduceSub] at p <;> try simp only [nn_bk] at p)
      omega
  | succ d ih =>
    intro s F hs hs6 h
    refine rg26_84 ha ⟨fun p => ⟨?_, ?_⟩, fun p => ⟨?_, ?_, ?_⟩⟩
    · (simp (disch := omega) only [nn_lit, nn_m1, nn_add, nn_mul, nn_rem, nn_sub, nn_addm1, nn_lt, nn_le, nn_eq, nn_clamp, nn_in, nn_nem1, nn_m1ne, nn_ltm1, nn_m1lt, nn_m1le, nn_lem1, bz_0, bz_n0, not_false_eq_true, not_true_eq_false, true_and, and_true, false_and, and_false, false_implies, true_implies, forall_const, Nat.reduceMul, Nat.reduceAdd, Nat.reduceSub] <;> try simp only [nn_bk])
      omega
    · (simp (disch := omega) only [nn_lit, nn_m1, nn_add, nn_mul, nn_rem, nn_sub, nn_addm1, nn_lt, nn_le, nn_eq, nn_clamp, nn_in, nn_nem1, nn_m1ne, nn_ltm1, nn_m1lt, nn_m1le, nn_lem1, bz_0, bz_n0, not_false_eq_true, not_true_eq_false, true_and, and_true, false_and, and_false, false_implies, true_implies, forall_const, Nat.reduceMul, Nat.reduceAdd, Nat.reduceSub] at p <;> try simp only [nn_bk] at p)
      (simp (disch := omega) only [nn_lit, nn_m1, nn_add, nn_mul, nn_rem, nn_sub, nn_addm1, nn_lt, nn_le, nn_eq, nn_clamp, nn_in, nn_nem1, nn_m1ne, nn_ltm1, nn_m1lt, nn_m1le, nn_lem1, bz_0, bz_n0, not_false_eq_true, not_true_eq_false, true_and, and_true, false_and, and_false, false_implies, true_implies, forall_const, Nat.reduceMul, Nat.reduceAdd, Nat.reduceSub] <;> try simp only [nn_bk])
      exact h _ (dn_0 (by omega)) (fun x hx => u_n hx)
    · (simp (disch := omega) only [nn_lit, nn_m1, nn_add, nn_mul, nn_rem, nn_sub, nn_addm1, nn_lt, nn_le, nn_eq, nn_clamp, nn_in, nn_nem1, nn_m1ne, nn_ltm1, nn_m1lt, nn_m1le, nn_lem1, bz_0, bz_n0, not_false_eq_true, not_true_eq_false, true_and, and_true, false_and, and_false, false_implies, true_implies, forall_const, Nat.reduceMul, Nat.reduceAdd, Nat.reduceSub] at p <;> try simp only [nn_bk] at p)
      (simp (disch := omega) only [nn_lit, nn_m1, nn_add, nn_mul, nn_rem, nn_sub, nn_addm1, nn_lt, nn_le, nn_eq, nn_clamp, nn_in, nn_nem1, nn_m1ne, nn_ltm1, nn_m1lt, nn_m1le, nn_lem1, bz_0, bz_n0, not_false_eq_true, not_true_eq_false, true_and, and_true, false_and, and_false, false_implies, true_implies, forall_const, Nat.reduceMul, Nat.reduceAdd, Nat.reduceSub] <;> try simp only [nn_bk])
      omega
    · (simp (disch := omega) only [nn_lit, nn_m1, nn_add, nn_mul, nn_rem, nn_sub, nn_addm1, nn_lt, nn_le, nn_eq, nn_clamp, nn_in, nn_nem1, nn_m1ne, nn_ltm1, nn_m1lt, nn_m1le, nn_lem1, bz_0, bz_n0, not_false_eq_true, not_true_eq_false, true_and, and_true, false_and, and_false, false_implies, true_implies, forall_const, Nat.reduceMul, Nat.reduceAdd, Nat.reduceSub] <;> try simp only [nn_bk])
      omega
    · (simp (disch := omega) only [nn_lit, nn_m1, nn_add, nn_mul, nn_rem, nn_sub, nn_addm1, nn_lt, nn_le, nn_eq, nn_clamp, nn_in, nn_nem1, nn_m1ne, nn_ltm1, nn_m1lt, nn_m1le, nn_lem1, bz_0, bz_n0, not_false_eq_true, not_true_eq_false, true_and, and_true, false_and, and_false, false_implies, true_implies, forall_const, Nat.reduceMul, Nat.reduceAdd, Nat.reduceSub] at p <;> try simp only [nn_bk] at p)
      (simp (disch := omega) only [nn_lit, nn_m1, nn_add, nn_mul, nn_rem, nn_sub, nn_addm1, nn_lt, nn_le, nn_eq, nn_clamp, nn_in, nn_nem1, nn_m1ne, nn_ltm1, nn_m1lt, nn_m1le, nn_lem1, bz_0, bz_n0, not_false_eq_true, not_true_eq_false, true_and, and_true, false_and, and_false, false_implies, true_implies, forall_const, Nat.reduceMul, Nat.reduceAdd, Nat.reduceSub] <;> try simp only [nn_bk])
      exact ih (s - 1) _ (by omega) (by omega) (fun F' h1 h2 => h F' (by rw [h1, dn_1 p]) (fun x hx => by rw [h2 x hx, u_n hx]))
theorem sp26_57 {a q s0 : Nat} {b a3 : Int32} (ha : (hs t)[a]? = some (1, 0, [6])) (hq : q < 6) (hs0 : s0 < 6) : ∀ d s F, q ≤ s + d → s < 6 → (∀ F', F' a = dn9 s0 q b (up9 s q (F a)) → (∀ x, x ≠ a → F' x = F x) → Q none (hs t, F', G)) → wp 26 57 [.ref 89, .ref a, .int b, .int a3, .int (Int32.ofNat s0), .int (Int32.ofNat q), .int (Int32.ofNat s)] [] (hs t, F, G) Q := by
  intro d
  induction d with
  | zero =>
    intro s F hs hs6 h
    refine rg26_57 ha ⟨fun _ => ?_, fun p => ?_⟩
    · refine sp26_84 ha hq 6 s0 F (by omega) hs0 (fun F' h1 h2 => h F' ?_ h2)
      rw [h1, up_0 (by omega)]
    · (simp (disch := omega) only [nn_lit, nn_m1, nn_add, nn_mul, nn_rem, nn_sub, nn_addm1, nn_lt, nn_le, nn_eq, nn_clamp, nn_in, nn_nem1, nn_m1ne, nn_ltm1, nn_m1lt, nn_m1le, nn_lem1, bz_0, bz_n0, not_false_eq_true, not_true_eq_false, true_and, and_true, false_and, and_false, false_implies, true_implies, forall_const, Nat.reduceMul, Nat.reduceAdd, Nat.reduceSub] at p <;> try simp only [nn_bk] at p)
      omega
  | succ d ih =>
    intro s F hs hs6 h
    refine rg26_57 ha ⟨fun p => ?_, fun p => ⟨?_, ?_, ?_⟩⟩
    · (simp (disch := omega) only [nn_lit, nn_m1, nn_add, nn_mul, nn_rem, nn_sub, nn_addm1, nn_lt, nn_le, nn_eq, nn_clamp, nn_in, nn_nem1, nn_m1ne, nn_ltm1, nn_m1lt, nn_m1le, nn_lem1, bz_0, bz_n0, not_false_eq_true, not_true_eq_false, true_and, and_true, false_and, and_false, false_implies, true_implies, forall_const, Nat.reduceMul, Nat.reduceAdd, Nat.reduceSub] at p <;> try simp only [nn_bk] at p)
      refine sp26_84 ha hq 6 s0 F (by omega) hs0 (fun F' h1 h2 => h F' ?_ h2)
      rw [h1, up_0 (by omega)]
    · (simp (disch := omega) only [nn_lit, nn_m1, nn_add, nn_mul, nn_rem, nn_sub, nn_addm1, nn_lt, nn_le, nn_eq, nn_clamp, nn_in, nn_nem1, nn_m1ne, nn_ltm1, nn_m1lt, nn_m1le, nn_lem1, bz_0, bz_n0, not_false_eq_true, not_true_eq_false, true_and, and_true, false_and, and_false, false_implies, true_implies, forall_const, Nat.reduceMul, Nat.reduceAdd, Nat.reduceSub] at p <;> try simp only [nn_bk] at p)
      (simp (disch := omega) only [nn_lit, nn_m1, nn_add, nn_mul, nn_rem, nn_sub, nn_addm1, nn_lt, nn_le, nn_eq, nn_clamp, nn_in, nn_nem1, nn_m1ne, nn_ltm1, nn_m1lt, nn_m1le, nn_lem1, bz_0, bz_n0, not_false_eq_true, not_true_eq_false, true_and, and_true, false_and, and_false, false_implies, true_implies, forall_const, Nat.reduceMul, Nat.reduceAdd, Nat.reduceSub] <;> try simp only [nn_bk])
      omega
    · (simp (disch := omega) only [nn_lit, nn_m1, nn_add, nn_mul, nn_rem, nn_sub, nn_addm1, nn_lt, nn_le, nn_eq, nn_clamp, nn_in, nn_nem1, nn_m1ne, nn_ltm1, nn_m1lt, nn_m1le, nn_lem1, bz_0, bz_n0, not_false_eq_true, not_true_eq_false, true_and, and_true, false_and, and_false, false_implies, true_implies, forall_const, Nat.reduceMul, Nat.reduceAdd, Nat.reduceSub] <;> try simp only [nn_bk])
      omega
    · (simp (disch := omega) only [nn_lit, nn_m1, nn_add, nn_mul, nn_rem, nn_sub, nn_addm1, nn_lt, nn_le, nn_eq, nn_clamp, nn_in, nn_nem1, nn_m1ne, nn_ltm1, nn_m1lt, nn_m1le, nn_lem1, bz_0, bz_n0, not_false_eq_true, not_true_eq_false, true_and, and_true, false_and, and_false, false_implies, true_implies, forall_const, Nat.reduceMul, Nat.reduceAdd, Nat.reduceSub] at p <;> try simp only [nn_bk] at p)
      (simp (disch := omega) only [nn_lit, nn_m1, nn_add, nn_mul, nn_rem, nn_sub, nn_addm1, nn_lt, nn_le, nn_eq, nn_clamp, nn_in, nn_nem1, nn_m1ne, nn_ltm1, nn_m1lt, nn_m1le, nn_lem1, bz_0, bz_n0, not_false_eq_true, not_true_eq_false, true_and, and_true, false_and, and_false, false_implies, true_implies, forall_const, Nat.reduceMul, Nat.reduceAdd, Nat.reduceSub] <;> try simp only [nn_bk])
      exact ih (s + 1) _ (by omega) (by omega) (fun F' h1 h2 => h F' (by rw [h1, up_1 p]) (fun x hx => by rw [h2 x hx, u_n hx]))
theorem sp26 {F : ip_F} {a k : Nat} {b : Int32} (ha : (hs t)[a]? = some (1, 0, [6])) (h4 : 4 ≤ n) (hn : n ≤ 6) (hk : k ≤ 5) (hb : F 89 5 = Int32.ofNat n) (he : ∃ y, y < n ∧ F a y = b) (h : ∀ F', F' a = sp9 n b k (F a) → (∀ x, x ≠ a → F' x = F x) → Q none (hs t, F', G)) : wp 26 0 [.ref 89, .ref a, .int b, .int (Int32.ofNat k), .float 0, .float 0, .float 0] [] (hs t, F, G) Q := by
  have hp : fp9 (F a) b n 0 < n := by
    obtain ⟨y, h1, h2⟩ := he
    exact (fp_in n 0 (by omega) ⟨y, by omega, h1, h2⟩).1
  have hq := qt_lt hk hp h4 hn
  refine rg26_0 ha (sp27 ha hn hb he (rg26_6 ha ?_))
  rw [show Int32.ofNat (fp9 (F a) b n 0 + 1) - 1 = Int32.ofNat (fp9 (F a) b n 0) from nn_sub (b := 1) (by omega), show Int32.ofNat (fp9 (F a) b n 0) + 1 = Int32.ofNat (fp9 (F a) b n 0 + 1) from nn_add _ 1, hb]
  refine sp82 ?_
  rw [qt_eq hk hp h4 hn]
  refine rg26_22 ha ?_
  rw [show Int32.ofNat (qt9 k (fp9 (F a) b n 0) n + 1) - 1 = Int32.ofNat (qt9 k (fp9 (F a) b n 0) n) from nn_sub (b := 1) (by omega)]
  refine sp129 (rg26_36 ha ⟨fun q => ?_, fun _ => sp129 (rg26_49 ha ⟨fun _ => ?_, fun q => ?_⟩)⟩)
  · rw [bz_0] at q
    exfalso
    refine q ⟨(nn_le (a := 0) (by omega) (by omega)).mpr (by omega), ?_⟩
    exact (nn_le (b := 5) (by omega) (by omega)).mpr (by omega)
  · exact sp26_57 ha (by omega) (by omega) 6 _ F (by omega) (by omega) h
  · rw [bz_0] at q
    exfalso
    refine q ⟨(nn_le (a := 0) (by omega) (by omega)).mpr (by omega), ?_⟩
    exact (nn_le (b := 5) (by omega) (by omega)).mpr (by omega)
/-! the reference -/
theorem sp178_59 {q : Nat} {b k : Int32} (hq : q < 6) : ∀ d s F, s ≤ q + d → s < 6 → (∀ F', F' 205 = dn9 s q b (F 205) → (∀ x, x ≠ 205 → F' x = F x) → Q none (hs t, F', G)) → wp 178 59 [.ref 193, .int b, .int k, .int (Int32.ofNat s), .int (Int32.ofNat q)] [] (hs t, F, G) Q := by
  intro d
  induction d with
  | zero =>
    intro s F hs hs6 h
    refine rg178_59 ⟨fun _ => ⟨?_, ?_⟩, fun p => ?_⟩
    · (simp (disch := omega) only [nn_lit, nn_m1, nn_add, nn_mul, nn_rem, nn_sub, nn_addm1, nn_lt, nn_le, nn_eq, nn_clamp, nn_in, nn_nem1, nn_m1ne, nn_ltm1, nn_m1lt, nn_m1le, nn_lem1, bz_0, bz_n0, not_false_eq_true, not_true_eq_false, true_and, and_true, false_and, and_false, false_implies, true_implies, forall_const, Nat.reduceMul, Nat.reduceAdd, Nat.reduceSub] <;> try simp only [nn_bk])
      omega
    · (simp (disch := omega) only [nn_lit, nn_m1, nn_add, nn_mul, nn_rem, nn_sub, nn_addm1, nn_lt, nn_le, nn_eq, nn_clamp, nn_in, nn_nem1, nn_m1ne, nn_ltm1, nn_m1lt, nn_m1le, nn_lem1, bz_0, bz_n0, not_false_eq_true, not_true_eq_false, true_and, and_true, false_and, and_false, false_implies, true_implies, forall_const, Nat.reduceMul, Nat.reduceAdd, Nat.reduceSub] <;> try simp only [nn_bk])
      exact h _ (dn_0 (by omega)) (fun x hx => u_n hx)
    · (simp (disch := omega) only [nn_lit, nn_m1, nn_add, nn_mul, nn_rem, nn_sub, nn_addm1, nn_lt, nn_le, nn_eq, nn_clamp, nn_in, nn_nem1, nn_m1ne, nn_ltm1, nn_m1lt, nn_m1le, nn_lem1, bz_0, bz_n0, not_false_eq_true, not_true_eq_false, true_and, and_true, false_and, and_false, false_implies, true_implies, forall_const, Nat.reduceMul, Nat.reduceAdd, Nat.reduceSub] at p <;> try simp only [nn_bk] at p)
      omega
  | succ d ih =>
    intro s F hs hs6 h
    refine rg178_59 ⟨fun p => ⟨?_, ?_⟩, fun p => ⟨?_, ?_, ?_⟩⟩
    · (simp (disch := omega) only [nn_lit, nn_m1, nn_add, nn_mul, nn_rem, nn_sub, nn_addm1, nn_lt, nn_le, nn_eq, nn_clamp, nn_in, nn_nem1, nn_m1ne, nn_ltm1, nn_m1lt, nn_m1le, nn_lem1, bz_0, bz_n0, not_false_eq_true, not_true_eq_false, true_and, and_true, false_and, and_false, false_implies, true_implies, forall_const, Nat.reduceMul, Nat.reduceAdd, Nat.reduceSub] <;> try simp only [nn_bk])
      omega
    · (simp (disch := omega) only [nn_lit, nn_m1, nn_add, nn_mul, nn_rem, nn_sub, nn_addm1, nn_lt, nn_le, nn_eq, nn_clamp, nn_in, nn_nem1, nn_m1ne, nn_ltm1, nn_m1lt, nn_m1le, nn_lem1, bz_0, bz_n0, not_false_eq_true, not_true_eq_false, true_and, and_true, false_and, and_false, false_implies, true_implies, forall_const, Nat.reduceMul, Nat.reduceAdd, Nat.reduceSub] at p <;> try simp only [nn_bk] at p)
      (simp (disch := omega) only [nn_lit, nn_m1, nn_add, nn_mul, nn_rem, nn_sub, nn_addm1, nn_lt, nn_le, nn_eq, nn_clamp, nn_in, nn_nem1, nn_m1ne, nn_ltm1, nn_m1lt, nn_m1le, nn_lem1, bz_0, bz_n0, not_false_eq_true, not_true_eq_false, true_and, and_true, false_and, and_false, false_implies, true_implies, forall_const, Nat.reduceMul, Nat.reduceAdd, Nat.reduceSub] <;> try simp only [nn_bk])
      exact h _ (dn_0 (by omega)) (fun x hx => u_n hx)
    · (simp (disch := omega) only [nn_lit, nn_m1, nn_add, nn_mul, nn_rem, nn_sub, nn_addm1, nn_lt, nn_le, nn_eq, nn_clamp, nn_in, nn_nem1, nn_m1ne, nn_ltm1, nn_m1lt, nn_m1le, nn_lem1, bz_0, bz_n0, not_false_eq_true, not_true_eq_false, true_and, and_true, false_and, and_false, false_implies, true_implies, forall_const, Nat.reduceMul, Nat.reduceAdd, Nat.reduceSub] at p <;> try simp only [nn_bk] at p)
      (simp (disch := omega) only [nn_lit, nn_m1, nn_add, nn_mul, nn_rem, nn_sub, nn_addm1, nn_lt, nn_le, nn_eq, nn_clamp, nn_in, nn_nem1, nn_m1ne, nn_ltm1, nn_m1lt, nn_m1le, nn_lem1, bz_0, bz_n0, not_false_eq_true, not_true_eq_false, true_and, and_true, false_and, and_false, false_implies, true_implies, forall_const, Nat.reduceMul, Nat.reduceAdd, Nat.reduceSub] <;> try simp only [nn_bk])
      omega
    · (simp (disch := omega) only [nn_lit, nn_m1, nn_add, nn_mul, nn_rem, nn_sub, nn_addm1, nn_lt, nn_le, nn_eq, nn_clamp, nn_in, nn_nem1, nn_m1ne, nn_ltm1, nn_m1lt, nn_m1le, nn_lem1, bz_0, bz_n0, not_false_eq_true, not_true_eq_false, true_and, and_true, false_and, and_false, false_implies, true_implies, forall_const, Nat.reduceMul, Nat.reduceAdd, Nat.reduceSub] <;> try simp only [nn_bk])
      omega
    · (simp (disch := omega) only [nn_lit, nn_m1, nn_add, nn_mul, nn_rem, nn_sub, nn_addm1, nn_lt, nn_le, nn_eq, nn_clamp, nn_in, nn_nem1, nn_m1ne, nn_ltm1, nn_m1lt, nn_m1le, nn_lem1, bz_0, bz_n0, not_false_eq_true, not_true_eq_false, true_and, and_true, false_and, and_false, false_implies, true_implies, forall_const, Nat.reduceMul, Nat.reduceAdd, Nat.reduceSub] at p <;> try simp only [nn_bk] at p)
      (simp (disch := omega) only [nn_lit, nn_m1, nn_add, nn_mul, nn_rem, nn_sub, nn_addm1, nn_lt, nn_le, nn_eq, nn_clamp, nn_in, nn_nem1, nn_m1ne, nn_ltm1, nn_m1lt, nn_m1le, nn_lem1, bz_0, bz_n0, not_false_eq_true, not_true_eq_false, true_and, and_true, false_and, and_false, false_implies, true_implies, forall_const, Nat.reduceMul, Nat.reduceAdd, Nat.reduceSub] <;> try simp only [nn_bk])
      exact ih (s - 1) _ (by omega) (by omega) (fun F' h1 h2 => h F' (by rw [h1, dn_1 p]) (fun x hx => by rw [h2 x hx, u_n hx]))
theorem dn_e {s q : Nat} {b : Int32} {f : Nat → Int32} (h : s ≤ q) : dn9 s q b f = dn9 q q b f := by
  funext x
  unfold dn9
  by_cases h1 : x = q
  · rw [if_pos h1, if_pos h1]
  · rw [if_neg h1, if_neg h1, if_neg (by omega), if_neg (by omega)]
theorem sp178_33 {q : Nat} {b k : Int32} (hq : q < 6) : ∀ d s F, q ≤ s + d → s < 6 → (∀ F', F' 205 = sl9 s q b (F 205) → (∀ x, x ≠ 205 → F' x = F x) → Q none (hs t, F', G)) → wp 178 33 [.ref 193, .int b, .int k, .int (Int32.ofNat s), .int (Int32.ofNat q)] [] (hs t, F, G) Q := by
  intro d
  induction d with
  | zero =>
    intro s F hs hs6 h
    refine rg178_33 ⟨fun _ => ?_, fun p => ?_⟩
    · refine sp178_59 hq 6 s F (by omega) hs6 (fun F' h1 h2 => h F' ?_ h2)
      rw [h1, sl9, up_0 (by omega)]
    · (simp (disch := omega) only [nn_lit, nn_m1, nn_add, nn_mul, nn_rem, nn_sub, nn_addm1, nn_lt, nn_le, nn_eq, nn_clamp, nn_in, nn_nem1, nn_m1ne, nn_ltm1, nn_m1lt, nn_m1le, nn_lem1, bz_0, bz_n0, not_false_eq_true, not_true_eq_false, true_and, and_true, false_and, and_false, false_implies, true_implies, forall_const, Nat.reduceMul, Nat.reduceAdd, Nat.reduceSub] at p <;> try simp only [nn_bk] at p)
      omega
  | succ d ih =>
    intro s F hs hs6 h
    refine rg178_33 ⟨fun p => ?_, fun p => ⟨?_, ?_, ?_⟩⟩
    · (simp (disch := omega) only [nn_lit, nn_m1, nn_add, nn_mul, nn_rem, nn_sub, nn_addm1, nn_lt, nn_le, nn_eq, nn_clamp, nn_in, nn_nem1, nn_m1ne, nn_ltm1, nn_m1lt, nn_m1le, nn_lem1, bz_0, bz_n0, not_false_eq_true, not_true_eq_false, true_and, and_true, false_and, and_false, false_implies, true_implies, forall_const, Nat.reduceMul, Nat.reduceAdd, Nat.reduceSub] at p <;> try simp only [nn_bk] at p)
      refine sp178_59 hq 6 s F (by omega) hs6 (fun F' h1 h2 => h F' ?_ h2)
      rw [h1, sl9, up_0 (by omega)]
    · (simp (disch := omega) only [nn_lit, nn_m1, nn_add, nn_mul, nn_rem, nn_sub, nn_addm1, nn_lt, nn_le, nn_eq, nn_clamp, nn_in, nn_nem1, nn_m1ne, nn_ltm1, nn_m1lt, nn_m1le, nn_lem1, bz_0, bz_n0, not_false_eq_true, not_true_eq_false, true_and, and_true, false_and, and_false, false_implies, true_implies, forall_const, Nat.reduceMul, Nat.reduceAdd, Nat.reduceSub] at p <;> try simp only [nn_bk] at p)
      (simp (disch := omega) only [nn_lit, nn_m1, nn_add, nn_mul, nn_rem, nn_sub, nn_addm1, nn_lt, nn_le, nn_eq, nn_clamp, nn_in, nn_nem1, nn_m1ne, nn_ltm1, nn_m1lt, nn_m1le, nn_lem1, bz_0, bz_n0, not_false_eq_true, not_true_eq_false, true_and, and_true, false_and, and_false, false_implies, true_implies, forall_const, Nat.reduceMul, Nat.reduceAdd, Nat.reduceSub] <;> try simp only [nn_bk])
      omega
    · (simp (disch := omega) only [nn_lit, nn_m1, nn_add, nn_mul, nn_rem, nn_sub, nn_addm1, nn_lt, nn_le, nn_eq, nn_clamp, nn_in, nn_nem1, nn_m1ne, nn_ltm1, nn_m1lt, nn_m1le, nn_lem1, bz_0, bz_n0, not_false_eq_true, not_true_eq_false, true_and, and_true, false_and, and_false, false_implies, true_implies, forall_const, Nat.reduceMul, Nat.reduceAdd, Nat.reduceSub] <;> try simp only [nn_bk])
      omega
    · (simp (disch := omega) only [nn_lit, nn_m1, nn_add, nn_mul, nn_rem, nn_sub, nn_addm1, nn_lt, nn_le, nn_eq, nn_clamp, nn_in, nn_nem1, nn_m1ne, nn_ltm1, nn_m1lt, nn_m1le, nn_lem1, bz_0, bz_n0, not_false_eq_true, not_true_eq_false, true_and, and_true, false_and, and_false, false_implies, true_implies, forall_const, Nat.reduceMul, Nat.reduceAdd, Nat.reduceSub] at p <;> try simp only [nn_bk] at p)
      (simp (disch := omega) only [nn_lit, nn_m1, nn_add, nn_mul, nn_rem, nn_sub, nn_addm1, nn_lt, nn_le, nn_eq, nn_clamp, nn_in, nn_nem1, nn_m1ne, nn_ltm1, nn_m1lt, nn_m1le, nn_lem1, bz_0, bz_n0, not_false_eq_true, not_true_eq_false, true_and, and_true, false_and, and_false, false_implies, true_implies, forall_const, Nat.reduceMul, Nat.reduceAdd, Nat.reduceSub] <;> try simp only [nn_bk])
      refine ih (s + 1) _ (by omega) (by omega) (fun F' h1 h2 => h F' ?_ (fun x hx => by rw [h2 x hx, u_n hx]))
      rw [h1, sl9, sl9, up_1 p, dn_e (s := s + 1) (by omega), dn_e (s := s) (by omega)]
theorem sp178_2 {k : Nat} {b : Int32} (h4 : 4 ≤ n) (hn : n ≤ 6) (hk : k ≤ 5) {F : ip_F} (hb : F 193 1 = Int32.ofNat n) : ∀ d x v, x + d = n → (∃ y, x ≤ y ∧ y < n ∧ F 205 y = b) → (∀ F', F' 205 = sl9 (fp9 (F 205) b d x) (qt9 k (fp9 (F 205) b d x) n) b (F 205) → (∀ x, x ≠ 205 → F' x = F x) → Q none (hs t, F', G)) → wp 178 2 [.ref 193, .int b, .int (Int32.ofNat k), .int (Int32.ofNat x), v] [] (hs t, F, G) Q := by
  intro d
  induction d with
  | zero =>
    intro x v hx he h
    obtain ⟨y, h1, h2, _⟩ := he
    omega
  | succ d ih =>
    intro x v hx he h
    rw [fp9] at h
    refine rg178_2 ⟨?_, fun e => ?_, fun e => ?_⟩
    · (simp (disch := omega) only [nn_lit, nn_m1, nn_add, nn_mul, nn_rem, nn_sub, nn_addm1, nn_lt, nn_le, nn_eq, nn_clamp, nn_in, nn_nem1, nn_m1ne, nn_ltm1, nn_m1lt, nn_m1le, nn_lem1, bz_0, bz_n0, not_false_eq_true, not_true_eq_false, true_and, and_true, false_and, and_false, false_implies, true_implies, forall_const, Nat.reduceMul, Nat.reduceAdd, Nat.reduceSub] <;> try simp only [nn_bk])
      omega
    · (simp (disch := omega) only [nn_lit, nn_m1, nn_add, nn_mul, nn_rem, nn_sub, nn_addm1, nn_lt, nn_le, nn_eq, nn_clamp, nn_in, nn_nem1, nn_m1ne, nn_ltm1, nn_m1lt, nn_m1le, nn_lem1, bz_0, bz_n0, not_false_eq_true, not_true_eq_false, true_and, and_true, false_and, and_false, false_implies, true_implies, forall_const, Nat.reduceMul, Nat.reduceAdd, Nat.reduceSub] at e <;> try simp only [nn_bk] at e)
      rw [if_pos e] at h
      rw [show Int32.ofNat x + 1 = Int32.ofNat (x + 1) from nn_add _ 1, hb]
      refine sp172 ⟨k, hk, rfl⟩ (rg178_29 ?_)
      have hq := qt_lt hk (show x < n by omega) h4 hn
      rw [qt_eq hk (by omega) h4 hn, show Int32.ofNat (qt9 k x n + 1) - 1 = Int32.ofNat (qt9 k x n) from nn_sub (b := 1) (by omega)]
      exact sp178_33 (by omega) 6 x F (by omega) (by omega) h
    · (simp (disch := omega) only [nn_lit, nn_m1, nn_add, nn_mul, nn_rem, nn_sub, nn_addm1, nn_lt, nn_le, nn_eq, nn_clamp, nn_in, nn_nem1, nn_m1ne, nn_ltm1, nn_m1lt, nn_m1le, nn_lem1, bz_0, bz_n0, not_false_eq_true, not_true_eq_false, true_and, and_true, false_and, and_false, false_implies, true_implies, forall_const, Nat.reduceMul, Nat.reduceAdd, Nat.reduceSub] at e <;> try simp only [nn_bk] at e)
      (simp (disch := omega) only [nn_lit, nn_m1, nn_add, nn_mul, nn_rem, nn_sub, nn_addm1, nn_lt, nn_le, nn_eq, nn_clamp, nn_in, nn_nem1, nn_m1ne, nn_ltm1, nn_m1lt, nn_m1le, nn_lem1, bz_0, bz_n0, not_false_eq_true, not_true_eq_false, true_and, and_true, false_and, and_false, false_implies, true_implies, forall_const, Nat.reduceMul, Nat.reduceAdd, Nat.reduceSub] <;> try simp only [nn_bk])
      rw [if_neg e] at h
      obtain ⟨y, h1, h2, h3⟩ := he
      refine ih (x + 1) _ (by omega) ⟨y, ?_, h2, h3⟩ h
      rcases Nat.lt_or_ge x y with q | q
      · omega
      · obtain rfl : x = y := by omega
        exact absurd h3 e
theorem sp178 {F : ip_F} {k : Nat} {b : Int32} (h4 : 4 ≤ n) (hn : n ≤ 6) (hk : k ≤ 5) (hb : F 193 1 = Int32.ofNat n) (he : ∃ y, y < n ∧ F 205 y = b) (h : ∀ F', F' 205 = sp9 n b k (F 205) → (∀ x, x ≠ 205 → F' x = F x) → Q none (hs t, F', G)) : wp 178 0 [.ref 193, .int b, .int (Int32.ofNat k), .float 0, .float 0] [] (hs t, F, G) Q := by
  obtain ⟨y, h1, h2⟩ := he
  exact rg178_0 (sp178_2 h4 hn hk hb n 0 _ (by omega) ⟨y, by omega, h1, h2⟩ h)
end SP
