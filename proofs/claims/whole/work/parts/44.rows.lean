/-! ===== rows: changes, numbers ===== -/
theorem u_s {F : ip_F} {k m : Nat} {x : Int32} (b : Nat) : ip_u F k m x k b = if b = m then x else F k b := by
  unfold ip_u
  by_cases h : b = m
  · rw [if_pos ⟨rfl, h⟩, if_pos h]
  · rw [if_neg (fun q => h q.2), if_neg h]
theorem u_n {F : ip_F} {k m : Nat} {x : Int32} {a : Nat} (h : a ≠ k) : ip_u F k m x a = F a := by
  funext b
  unfold ip_u
  rw [if_neg (fun q => h q.1)]
theorem ur_s {F : ip_F} {k : Nat} {g : Nat → Int32} : ip_ur F k g k = g := if_pos rfl
theorem ur_n {F : ip_F} {k : Nat} {g : Nat → Int32} {a : Nat} (h : a ≠ k) : ip_ur F k g a = F a := if_neg h
def swp (i : Nat) (f : Nat → Int32) : Nat → Int32 := fun x => if x = i then f (i + 1) else if x = i + 1 then f i else f x
def swL : Nat → Nat → Nat → (Nat → Int32) → (Nat → Int32)
  | 0, _, _, f => f
  | d + 1, i, e, f => if i + 1 < e then swL d (i + 2) e (swp i f) else f
theorem swp_u {F : ip_F} {k i : Nat} : ip_u (ip_u F k i (F k (i + 1))) k (i + 1) (F k i) k = swp i (F k) := by
  funext b
  rw [u_s, u_s, swp]
  by_cases h1 : b = i
  · subst h1
    rw [if_neg (by omega), if_pos rfl, if_pos rfl]
  · by_cases h2 : b = i + 1
    · rw [if_pos h2, if_neg h1, if_pos h2]
    · rw [if_neg h2, if_neg h1, if_neg h1, if_neg h2]
theorem swL_stop {d i e : Nat} {f : Nat → Int32} (h : e ≤ i + 1) : swL d i e f = f := by
  cases d with
  | zero => rfl
  | succ d => rw [swL, if_neg (by omega)]
theorem swp_agree {i n : Nat} {f g : Nat → Int32} (hi : i + 1 < n) (h : ∀ x, x < n → f x = g x) : ∀ x, x < n → swp i f x = swp i g x := by
  intro x hx
  unfold swp
  rw [h x hx, h i (by omega), h (i + 1) hi]
theorem swL_agree {n e : Nat} (he : e ≤ n) : ∀ d i (f g : Nat → Int32), (∀ x, x < n → f x = g x) → ∀ x, x < n → swL d i e f x = swL d i e g x
  | 0, _, _, _, h => h
  | d + 1, i, f, g, h => by
    intro x hx
    rw [swL, swL]
    split
    · exact swL_agree he d (i + 2) _ _ (swp_agree (by omega) h) x hx
    · exact h x hx
def sw0 (c : Int32) : Nat := if c = 2 then 1 else 0
def swE (n : Nat) (c : Int32) : Nat := if c = 0 then 0 else if c = 3 then 2 else n
def sw9 (n : Nat) (c : Int32) (f : Nat → Int32) : Nat → Int32 := swL 3 (sw0 c) (swE n c) f
theorem swE_le {n : Nat} {c : Int32} (hn : 2 ≤ n) : swE n c ≤ n := by
  unfold swE
  split
  · omega
  · split <;> omega
theorem sw9_agree {n : Nat} {c : Int32} {f g : Nat → Int32} (hn : 2 ≤ n) (h : ∀ x, x < n → f x = g x) : ∀ x, x < n → sw9 n c f x = sw9 n c g x := swL_agree (swE_le hn) _ _ _ _ h
/-- the row that the method's changes c mean, k rows on -/
def mu9 (n : Nat) (c : Nat → Int32) : Nat → Nat → Int32
  | 0 => fun i => Int32.ofNat (i + 1)
  | k + 1 => sw9 n (c (k % 6)) (mu9 n c k)
/-- the first m places of a row as a number -/
def nm9 (f : Nat → Int32) : Nat → Int32
  | 0 => 0
  | i + 1 => 10 * nm9 f i + f i
theorem nm_agree {f g : Nat → Int32} : ∀ n, (∀ x, x < n → f x = g x) → nm9 f n = nm9 g n
  | 0, _ => rfl
  | n + 1, h => by rw [nm9, nm9, nm_agree n (fun x hx => h x (by omega)), h n (by omega)]
section SP
variable {t : Nat} {F : ip_F} {G : ip_G} {Q : Option Value → ip_M → Prop} {n : Nat}
theorem sp28_4 {a : Nat} (ha : (hs t)[a]? = some (1, 0, [6])) (hn : n ≤ 6) (hb : F 89 5 = Int32.ofNat n) (h : Q (some (.int (nm9 (F a) n))) (hs t, F, G)) : ∀ d r, r + d = n → wp 28 4 [.ref 89, .ref a, .int (nm9 (F a) r), .int (Int32.ofNat r)] [] (hs t, F, G) Q := by
  intro d
  induction d with
  | zero =>
    intro r hr
    obtain rfl : r = n := by omega
    refine rg28_4 ha ⟨fun _ => h, fun q => ?_⟩
    rw [hb] at q
    (simp (disch := omega) only [nn_lit, nn_m1, nn_add, nn_mul, nn_rem, nn_sub, nn_addm1, nn_lt, nn_le, nn_eq, nn_clamp, nn_in, nn_nem1, nn_m1ne, nn_ltm1, nn_m1lt, nn_m1le, nn_lem1, bz_0, bz_n0, not_false_eq_true, not_true_eq_false, true_and, and_true, false_and, and_false, false_implies, true_implies, forall_const, Nat.reduceMul, Nat.reduceAdd, Nat.reduceSub] at q <;> try simp only [nn_bk] at q)
    omega
  | succ d ih =>
    intro r hr
    refine rg28_4 ha ⟨fun q => ?_, fun _ => ⟨fun q => ?_, fun _ => ⟨?_, ?_⟩⟩⟩
    · rw [hb] at q
      (simp (disch := omega) only [nn_lit, nn_m1, nn_add, nn_mul, nn_rem, nn_sub, nn_addm1, nn_lt, nn_le, nn_eq, nn_clamp, nn_in, nn_nem1, nn_m1ne, nn_ltm1, nn_m1lt, nn_m1le, nn_lem1, bz_0, bz_n0, not_false_eq_true, not_true_eq_false, true_and, and_true, false_and, and_false, false_implies, true_implies, forall_const, Nat.reduceMul, Nat.reduceAdd, Nat.reduceSub] at q <;> try simp only [nn_bk] at q)
      omega
    · (simp (disch := omega) only [nn_lit, nn_m1, nn_add, nn_mul, nn_rem, nn_sub, nn_addm1, nn_lt, nn_le, nn_eq, nn_clamp, nn_in, nn_nem1, nn_m1ne, nn_ltm1, nn_m1lt, nn_m1le, nn_lem1, bz_0, bz_n0, not_false_eq_true, not_true_eq_false, true_and, and_true, false_and, and_false, false_implies, true_implies, forall_const, Nat.reduceMul, Nat.reduceAdd, Nat.reduceSub] at q <;> try simp only [nn_bk] at q)
      omega
    · (simp (disch := omega) only [nn_lit, nn_m1, nn_add, nn_mul, nn_rem, nn_sub, nn_addm1, nn_lt, nn_le, nn_eq, nn_clamp, nn_in, nn_nem1, nn_m1ne, nn_ltm1, nn_m1lt, nn_m1le, nn_lem1, bz_0, bz_n0, not_false_eq_true, not_true_eq_false, true_and, and_true, false_and, and_false, false_implies, true_implies, forall_const, Nat.reduceMul, Nat.reduceAdd, Nat.reduceSub] <;> try simp only [nn_bk])
      omega
    · have := ih (r + 1) (by omega)
      rw [nm9] at this
      rw [nn_clamp (by omega)]
      rw [show Int32.ofNat r + 1 = Int32.ofNat (r + 1) from nn_add r 1]
      exact this
theorem sp28 {a : Nat} (ha : (hs t)[a]? = some (1, 0, [6])) (hn : n ≤ 6) (hb : F 89 5 = Int32.ofNat n) (h : Q (some (.int (nm9 (F a) n))) (hs t, F, G)) : wp 28 0 [.ref 89, .ref a, .float 0, .float 0] [] (hs t, F, G) Q := rg28_0 ha (sp28_4 ha hn hb h n 0 (by omega))
theorem sp180_4 (hn : n ≤ 6) (hb : F 193 1 = Int32.ofNat n) (h : Q (some (.int (nm9 (F 205) n))) (hs t, F, G)) : ∀ d r, r + d = n → wp 180 4 [.ref 193, .int (nm9 (F 205) r), .int (Int32.ofNat r)] [] (hs t, F, G) Q := by
  intro d
  induction d with
  | zero =>
    intro r hr
    obtain rfl : r = n := by omega
    refine rg180_4 ⟨fun _ => h, fun q => ?_⟩
    rw [hb] at q
    (simp (disch := omega) only [nn_lit, nn_m1, nn_add, nn_mul, nn_rem, nn_sub, nn_addm1, nn_lt, nn_le, nn_eq, nn_clamp, nn_in, nn_nem1, nn_m1ne, nn_ltm1, nn_m1lt, nn_m1le, nn_lem1, bz_0, bz_n0, not_false_eq_true, not_true_eq_false, true_and, and_true, false_and, and_false, false_implies, true_implies, forall_const, Nat.reduceMul, Nat.reduceAdd, Nat.reduceSub] at q <;> try simp only [nn_bk] at q)
    omega
  | succ d ih =>
    intro r hr
    refine rg180_4 ⟨fun q => ?_, fun _ => ⟨?_, ?_⟩⟩
    · rw [hb] at q
      (simp (disch := omega) only [nn_lit, nn_m1, nn_add, nn_mul, nn_rem, nn_sub, nn_addm1, nn_lt, nn_le, nn_eq, nn_clamp, nn_in, nn_nem1, nn_m1ne, nn_ltm1, nn_m1lt, nn_m1le, nn_lem1, bz_0, bz_n0, not_false_eq_true, not_true_eq_false, true_and, and_true, false_and, and_false, false_implies, true_implies, forall_const, Nat.reduceMul, Nat.reduceAdd, Nat.reduceSub] at q <;> try simp only [nn_bk] at q)
      omega
    · (simp (disch := omega) only [nn_lit, nn_m1, nn_add, nn_mul, nn_rem, nn_sub, nn_addm1, nn_lt, nn_le, nn_eq, nn_clamp, nn_in, nn_nem1, nn_m1ne, nn_ltm1, nn_m1lt, nn_m1le, nn_lem1, bz_0, bz_n0, not_false_eq_true, not_true_eq_false, true_and, and_true, false_and, and_false, false_implies, true_implies, forall_const, Nat.reduceMul, Nat.reduceAdd, Nat.reduceSub] <;> try simp only [nn_bk])
      omega
    · have := ih (r + 1) (by omega)
      rw [nm9] at this
      rw [nn_clamp (by omega)]
      rw [show Int32.ofNat r + 1 = Int32.ofNat (r + 1) from nn_add r 1]
      exact this
theorem sp180 (hn : n ≤ 6) (hb : F 193 1 = Int32.ofNat n) (h : Q (some (.int (nm9 (F 205) n))) (hs t, F, G)) : wp 180 0 [.ref 193, .float 0, .float 0] [] (hs t, F, G) Q := rg180_0 (sp180_4 hn hb h n 0 (by omega))
theorem sp23_37 {a e : Nat} {a2 a3 : Int32} (ha : (hs t)[a]? = some (1, 0, [6])) (he : e ≤ 6) : ∀ d i F v, i + 2 * d ≤ 20 → e ≤ i + 2 * d + 1 → (∀ F', F' a = swL d i e (F a) → (∀ x, x ≠ a → F' x = F x) → Q none (hs t, F', G)) → wp 23 37 [.ref 89, .ref a, .int a2, .int a3, .int (Int32.ofNat e), .int (Int32.ofNat i), v] [] (hs t, F, G) Q := by
  intro d
  induction d with
  | zero =>
    intro i F v hi0 hi h
    refine rg23_37 ha ⟨fun _ => h F rfl (fun _ _ => rfl), fun q => ?_⟩
    (simp (disch := omega) only [nn_lit, nn_m1, nn_add, nn_mul, nn_rem, nn_sub, nn_addm1, nn_lt, nn_le, nn_eq, nn_clamp, nn_in, nn_nem1, nn_m1ne, nn_ltm1, nn_m1lt, nn_m1le, nn_lem1, bz_0, bz_n0, not_false_eq_true, not_true_eq_false, true_and, and_true, false_and, and_false, false_implies, true_implies, forall_const, Nat.reduceMul, Nat.reduceAdd, Nat.reduceSub] at q <;> try simp only [nn_bk] at q)
    omega
  | succ d ih =>
    intro i F v hi0 hi h
    refine rg23_37 ha ⟨fun q => ?_, fun q => ⟨fun q1 => ?_, fun _ => ⟨?_, ?_, ?_, ?_, ?_⟩⟩⟩
    · (simp (disch := omega) only [nn_lit, nn_m1, nn_add, nn_mul, nn_rem, nn_sub, nn_addm1, nn_lt, nn_le, nn_eq, nn_clamp, nn_in, nn_nem1, nn_m1ne, nn_ltm1, nn_m1lt, nn_m1le, nn_lem1, bz_0, bz_n0, not_false_eq_true, not_true_eq_false, true_and, and_true, false_and, and_false, false_implies, true_implies, forall_const, Nat.reduceMul, Nat.reduceAdd, Nat.reduceSub] at q <;> try simp only [nn_bk] at q)
      exact h F (swL_stop q).symm (fun _ _ => rfl)
    · (simp (disch := omega) only [nn_lit, nn_m1, nn_add, nn_mul, nn_rem, nn_sub, nn_addm1, nn_lt, nn_le, nn_eq, nn_clamp, nn_in, nn_nem1, nn_m1ne, nn_ltm1, nn_m1lt, nn_m1le, nn_lem1, bz_0, bz_n0, not_false_eq_true, not_true_eq_false, true_and, and_true, false_and, and_false, false_implies, true_implies, forall_const, Nat.reduceMul, Nat.reduceAdd, Nat.reduceSub] at q <;> try simp only [nn_bk] at q)
      (simp (disch := omega) only [nn_lit, nn_m1, nn_add, nn_mul, nn_rem, nn_sub, nn_addm1, nn_lt, nn_le, nn_eq, nn_clamp, nn_in, nn_nem1, nn_m1ne, nn_ltm1, nn_m1lt, nn_m1le, nn_lem1, bz_0, bz_n0, not_false_eq_true, not_true_eq_false, true_and, and_true, false_and, and_false, false_implies, true_implies, forall_const, Nat.reduceMul, Nat.reduceAdd, Nat.reduceSub] at q1 <;> try simp only [nn_bk] at q1)
      omega
    · (simp (disch := omega) only [nn_lit, nn_m1, nn_add, nn_mul, nn_rem, nn_sub, nn_addm1, nn_lt, nn_le, nn_eq, nn_clamp, nn_in, nn_nem1, nn_m1ne, nn_ltm1, nn_m1lt, nn_m1le, nn_lem1, bz_0, bz_n0, not_false_eq_true, not_true_eq_false, true_and, and_true, false_and, and_false, false_implies, true_implies, forall_const, Nat.reduceMul, Nat.reduceAdd, Nat.reduceSub] at q <;> try simp only [nn_bk] at q)
      (simp (disch := omega) only [nn_lit, nn_m1, nn_add, nn_mul, nn_rem, nn_sub, nn_addm1, nn_lt, nn_le, nn_eq, nn_clamp, nn_in, nn_nem1, nn_m1ne, nn_ltm1, nn_m1lt, nn_m1le, nn_lem1, bz_0, bz_n0, not_false_eq_true, not_true_eq_false, true_and, and_true, false_and, and_false, false_implies, true_implies, forall_const, Nat.reduceMul, Nat.reduceAdd, Nat.reduceSub] <;> try simp only [nn_bk])
      omega
    · (simp (disch := omega) only [nn_lit, nn_m1, nn_add, nn_mul, nn_rem, nn_sub, nn_addm1, nn_lt, nn_le, nn_eq, nn_clamp, nn_in, nn_nem1, nn_m1ne, nn_ltm1, nn_m1lt, nn_m1le, nn_lem1, bz_0, bz_n0, not_false_eq_true, not_true_eq_false, true_and, and_true, false_and, and_false, false_implies, true_implies, forall_const, Nat.reduceMul, Nat.reduceAdd, Nat.reduceSub] at q <;> try simp only [nn_bk] at q)
      (simp (disch := omega) only [nn_lit, nn_m1, nn_add, nn_mul, nn_rem, nn_sub, nn_addm1, nn_lt, nn_le, nn_eq, nn_clamp, nn_in, nn_nem1, nn_m1ne, nn_ltm1, nn_m1lt, nn_m1le, nn_lem1, bz_0, bz_n0, not_false_eq_true, not_true_eq_false, true_and, and_true, false_and, and_false, false_implies, true_implies, forall_const, Nat.reduceMul, Nat.reduceAdd, Nat.reduceSub] <;> try simp only [nn_bk])
      omega
    · (simp (disch := omega) only [nn_lit, nn_m1, nn_add, nn_mul, nn_rem, nn_sub, nn_addm1, nn_lt, nn_le, nn_eq, nn_clamp, nn_in, nn_nem1, nn_m1ne, nn_ltm1, nn_m1lt, nn_m1le, nn_lem1, bz_0, bz_n0, not_false_eq_true, not_true_eq_false, true_and, and_true, false_and, and_false, false_implies, true_implies, forall_const, Nat.reduceMul, Nat.reduceAdd, Nat.reduceSub] at q <;> try simp only [nn_bk] at q)
      (simp (disch := omega) only [nn_lit, nn_m1, nn_add, nn_mul, nn_rem, nn_sub, nn_addm1, nn_lt, nn_le, nn_eq, nn_clamp, nn_in, nn_nem1, nn_m1ne, nn_ltm1, nn_m1lt, nn_m1le, nn_lem1, bz_0, bz_n0, not_false_eq_true, not_true_eq_false, true_and, and_true, false_and, and_false, false_implies, true_implies, forall_const, Nat.reduceMul, Nat.reduceAdd, Nat.reduceSub] <;> try simp only [nn_bk])
      omega
    · (simp (disch := omega) only [nn_lit, nn_m1, nn_add, nn_mul, nn_rem, nn_sub, nn_addm1, nn_lt, nn_le, nn_eq, nn_clamp, nn_in, nn_nem1, nn_m1ne, nn_ltm1, nn_m1lt, nn_m1le, nn_lem1, bz_0, bz_n0, not_false_eq_true, not_true_eq_false, true_and, and_true, false_and, and_false, false_implies, true_implies, forall_const, Nat.reduceMul, Nat.reduceAdd, Nat.reduceSub] at q <;> try simp only [nn_bk] at q)
      (simp (disch := omega) only [nn_lit, nn_m1, nn_add, nn_mul, nn_rem, nn_sub, nn_addm1, nn_lt, nn_le, nn_eq, nn_clamp, nn_in, nn_nem1, nn_m1ne, nn_ltm1, nn_m1lt, nn_m1le, nn_lem1, bz_0, bz_n0, not_false_eq_true, not_true_eq_false, true_and, and_true, false_and, and_false, false_implies, true_implies, forall_const, Nat.reduceMul, Nat.reduceAdd, Nat.reduceSub] <;> try simp only [nn_bk])
      omega
    · (simp (disch := omega) only [nn_lit, nn_m1, nn_add, nn_mul, nn_rem, nn_sub, nn_addm1, nn_lt, nn_le, nn_eq, nn_clamp, nn_in, nn_nem1, nn_m1ne, nn_ltm1, nn_m1lt, nn_m1le, nn_lem1, bz_0, bz_n0, not_false_eq_true, not_true_eq_false, true_and, and_true, false_and, and_false, false_implies, true_implies, forall_const, Nat.reduceMul, Nat.reduceAdd, Nat.reduceSub] at q <;> try simp only [nn_bk] at q)
      (simp (disch := omega) only [nn_lit, nn_m1, nn_add, nn_mul, nn_rem, nn_sub, nn_addm1, nn_lt, nn_le, nn_eq, nn_clamp, nn_in, nn_nem1, nn_m1ne, nn_ltm1, nn_m1lt, nn_m1le, nn_lem1, bz_0, bz_n0, not_false_eq_true, not_true_eq_false, true_and, and_true, false_and, and_false, false_implies, true_implies, forall_const, Nat.reduceMul, Nat.reduceAdd, Nat.reduceSub] <;> try simp only [nn_bk])
      refine ih (i + 2) _ _ (by omega) (by omega) (fun F' h1 h2 => h F' ?_ (fun x hx => ?_))
      · rw [h1, swp_u, swL, if_pos q]
      · rw [h2 x hx, u_n hx, u_n hx]
theorem sp23 {a : Nat} {c : Int32} (ha : (hs t)[a]? = some (1, 0, [6])) (hn : n ≤ 6) (hb : F 89 5 = Int32.ofNat n) (h : ∀ F', F' a = sw9 n c (F a) → (∀ x, x ≠ a → F' x = F x) → Q none (hs t, F', G)) : wp 23 0 [.ref 89, .ref a, .int c, .float 0, .float 0, .float 0, .float 0] [] (hs t, F, G) Q := by
  have key : wp 23 10 [.ref 89, .ref a, .int c, .float 0, .float 0, .float 0, .float 0] [.int (Int32.ofNat (sw0 c))] (hs t, F, G) Q := by
    have h0 : sw0 c ≤ 1 := by
      unfold sw0
      split <;> omega
    have k2 : swE n c ≤ 6 → wp 23 32 [.ref 89, .ref a, .int c, .int (Int32.ofNat (sw0 c)), .float 0, .float 0, .float 0] [.int (Int32.ofNat (swE n c))] (hs t, F, G) Q := fun hE => rg23_32 ha (sp23_37 ha hE 3 _ F _ (by omega) (by omega) h)
    refine rg23_10 ha ⟨fun e0 => ⟨fun e1 => ?_, fun e1 => ?_⟩, fun e0 => ?_⟩
    · have : swE n c = n := by rw [swE, if_neg e0, if_neg e1]
      rw [this] at k2
      rw [hb]
      exact k2 hn
    · have : swE n c = 2 := by rw [swE, if_neg e0, if_pos e1]
      rw [this] at k2
      exact k2 (by omega)
    · have : swE n c = 0 := by rw [swE, if_pos e0]
      rw [this] at k2
      exact k2 (by omega)
  refine rg23_0 ha ⟨fun e => ?_, fun e => ?_⟩
  · rw [sw0, if_neg e] at key
    exact key
  · rw [sw0, if_pos e] at key
    exact key
/-! the reference's row -/
theorem sp176 {i : Nat} (hn : n ≤ 6) (hi : i < 30) (hb : F 193 1 = Int32.ofNat n) (h : ∀ F', F' 205 = (if i + 1 < n then swp i (F 205) else F 205) → (∀ x, x ≠ 205 → F' x = F x) → Q none (hs t, F', G)) : wp 176 0 [.ref 193, .int (Int32.ofNat i), .float 0] [] (hs t, F, G) Q := by
  refine rg176_0 ⟨fun q => ?_, fun q => ⟨?_, ?_, ?_, ?_, ?_⟩⟩
  · rw [hb] at q
    (simp (disch := omega) only [nn_lit, nn_m1, nn_add, nn_mul, nn_rem, nn_sub, nn_addm1, nn_lt, nn_le, nn_eq, nn_clamp, nn_in, nn_nem1, nn_m1ne, nn_ltm1, nn_m1lt, nn_m1le, nn_lem1, bz_0, bz_n0, not_false_eq_true, not_true_eq_false, true_and, and_true, false_and, and_false, false_implies, true_implies, forall_const, Nat.reduceMul, Nat.reduceAdd, Nat.reduceSub] at q <;> try simp only [nn_bk] at q)
    exact h F (by rw [if_neg (by omega)]) (fun _ _ => rfl)
  · rw [hb] at q
    (simp (disch := omega) only [nn_lit, nn_m1, nn_add, nn_mul, nn_rem, nn_sub, nn_addm1, nn_lt, nn_le, nn_eq, nn_clamp, nn_in, nn_nem1, nn_m1ne, nn_ltm1, nn_m1lt, nn_m1le, nn_lem1, bz_0, bz_n0, not_false_eq_true, not_true_eq_false, true_and, and_true, false_and, and_false, false_implies, true_implies, forall_const, Nat.reduceMul, Nat.reduceAdd, Nat.reduceSub] at q <;> try simp only [nn_bk] at q)
    (simp (disch := omega) only [nn_lit, nn_m1, nn_add, nn_mul, nn_rem, nn_sub, nn_addm1, nn_lt, nn_le, nn_eq, nn_clamp, nn_in, nn_nem1, nn_m1ne, nn_ltm1, nn_m1lt, nn_m1le, nn_lem1, bz_0, bz_n0, not_false_eq_true, not_true_eq_false, true_and, and_true, false_and, and_false, false_implies, true_implies, forall_const, Nat.reduceMul, Nat.reduceAdd, Nat.reduceSub] <;> try simp only [nn_bk])
    omega
  · rw [hb] at q
    (simp (disch := omega) only [nn_lit, nn_m1, nn_add, nn_mul, nn_rem, nn_sub, nn_addm1, nn_lt, nn_le, nn_eq, nn_clamp, nn_in, nn_nem1, nn_m1ne, nn_ltm1, nn_m1lt, nn_m1le, nn_lem1, bz_0, bz_n0, not_false_eq_true, not_true_eq_false, true_and, and_true, false_and, and_false, false_implies, true_implies, forall_const, Nat.reduceMul, Nat.reduceAdd, Nat.reduceSub] at q <;> try simp only [nn_bk] at q)
    (simp (disch := omega) only [nn_lit, nn_m1, nn_add, nn_mul, nn_rem, nn_sub, nn_addm1, nn_lt, nn_le, nn_eq, nn_clamp, nn_in, nn_nem1, nn_m1ne, nn_ltm1, nn_m1lt, nn_m1le, nn_lem1, bz_0, bz_n0, not_false_eq_true, not_true_eq_false, true_and, and_true, false_and, and_false, false_implies, true_implies, forall_const, Nat.reduceMul, Nat.reduceAdd, Nat.reduceSub] <;> try simp only [nn_bk])
    omega
  · rw [hb] at q
    (simp (disch := omega) only [nn_lit, nn_m1, nn_add, nn_mul, nn_rem, nn_sub, nn_addm1, nn_lt, nn_le, nn_eq, nn_clamp, nn_in, nn_nem1, nn_m1ne, nn_ltm1, nn_m1lt, nn_m1le, nn_lem1, bz_0, bz_n0, not_false_eq_true, not_true_eq_false, true_and, and_true, false_and, and_false, false_implies, true_implies, forall_const, Nat.reduceMul, Nat.reduceAdd, Nat.reduceSub] at q <;> try simp only [nn_bk] at q)
    (simp (disch := omega) only [nn_lit, nn_m1, nn_add, nn_mul, nn_rem, nn_sub, nn_addm1, nn_lt, nn_le, nn_eq, nn_clamp, nn_in, nn_nem1, nn_m1ne, nn_ltm1, nn_m1lt, nn_m1le, nn_lem1, bz_0, bz_n0, not_false_eq_true, not_true_eq_false, true_and, and_true, false_and, and_false, false_implies, true_implies, forall_const, Nat.reduceMul, Nat.reduceAdd, Nat.reduceSub] <;> try simp only [nn_bk])
    omega
  · rw [hb] at q
    (simp (disch := omega) only [nn_lit, nn_m1, nn_add, nn_mul, nn_rem, nn_sub, nn_addm1, nn_lt, nn_le, nn_eq, nn_clamp, nn_in, nn_nem1, nn_m1ne, nn_ltm1, nn_m1lt, nn_m1le, nn_lem1, bz_0, bz_n0, not_false_eq_true, not_true_eq_false, true_and, and_true, false_and, and_false, false_implies, true_implies, forall_const, Nat.reduceMul, Nat.reduceAdd, Nat.reduceSub] at q <;> try simp only [nn_bk] at q)
    (simp (disch := omega) only [nn_lit, nn_m1, nn_add, nn_mul, nn_rem, nn_sub, nn_addm1, nn_lt, nn_le, nn_eq, nn_clamp, nn_in, nn_nem1, nn_m1ne, nn_ltm1, nn_m1lt, nn_m1le, nn_lem1, bz_0, bz_n0, not_false_eq_true, not_true_eq_false, true_and, and_true, false_and, and_false, false_implies, true_implies, forall_const, Nat.reduceMul, Nat.reduceAdd, Nat.reduceSub] <;> try simp only [nn_bk])
    omega
  · rw [hb] at q
    (simp (disch := omega) only [nn_lit, nn_m1, nn_add, nn_mul, nn_rem, nn_sub, nn_addm1, nn_lt, nn_le, nn_eq, nn_clamp, nn_in, nn_nem1, nn_m1ne, nn_ltm1, nn_m1lt, nn_m1le, nn_lem1, bz_0, bz_n0, not_false_eq_true, not_true_eq_false, true_and, and_true, false_and, and_false, false_implies, true_implies, forall_const, Nat.reduceMul, Nat.reduceAdd, Nat.reduceSub] at q <;> try simp only [nn_bk] at q)
    (simp (disch := omega) only [nn_lit, nn_m1, nn_add, nn_mul, nn_rem, nn_sub, nn_addm1, nn_lt, nn_le, nn_eq, nn_clamp, nn_in, nn_nem1, nn_m1ne, nn_ltm1, nn_m1lt, nn_m1le, nn_lem1, bz_0, bz_n0, not_false_eq_true, not_true_eq_false, true_and, and_true, false_and, and_false, false_implies, true_implies, forall_const, Nat.reduceMul, Nat.reduceAdd, Nat.reduceSub] <;> try simp only [nn_bk])
    refine h _ (by rw [swp_u, if_pos q]) (fun x hx => ?_)
    rw [u_n hx, u_n hx]
def swM (n : Nat) (c : Int32) : Nat := if c = 0 then 0 else if c = 3 then 1 else n
theorem sp177_54 {row k : Int32} {c : Int32} (hn4 : 4 ≤ n) (hn : n ≤ 6) : ∀ d i F, i + 2 * d ≤ 20 → swE n c ≤ i + 2 * d + 1 → (c = 3 → i % 2 = 0) → F 193 1 = Int32.ofNat n → (∀ F' p, F' 205 = swL d i (swE n c) (F 205) → (∀ x, x ≠ 205 → F' x = F x) → wp 177 27 [.ref 193, .int row, .int (k + 1), .int c, .int p] [] (hs t, F', G) Q) → wp 177 54 [.ref 193, .int row, .int k, .int c, .int (Int32.ofNat i)] [] (hs t, F, G) Q := by
  have step : ∀ i F, F 193 1 = Int32.ofNat n → i ≤ 22 → ((swM n c ≤ i → wp 177 27 [.ref 193, .int row, .int (k + 1), .int c, .int (Int32.ofNat i)] [] (hs t, F, G) Q) ∧ (i < swM n c → wp 176 0 [.ref 193, .int (Int32.ofNat i), .float 0] [] (hs t, F, G) (fun v M' => wp 177 86 [.ref 193, .int row, .int k, .int c, .int (Int32.ofNat i)] (v.toList ++ []) M' Q))) → wp 177 54 [.ref 193, .int row, .int k, .int c, .int (Int32.ofNat i)] [] (hs t, F, G) Q := by
    intro i F hb hi h
    have key : wp 177 77 [.ref 193, .int row, .int k, .int c, .int (Int32.ofNat i)] [.int (Int32.ofNat (swM n c)), .int (Int32.ofNat i)] (hs t, F, G) Q := by
      have hM : swM n c ≤ 6 := by
        unfold swM
        split
        · omega
        · split <;> omega
      refine rg177_77 ⟨fun q => ?_, fun q => ?_⟩
      · (simp (disch := omega) only [nn_lit, nn_m1, nn_add, nn_mul, nn_rem, nn_sub, nn_addm1, nn_lt, nn_le, nn_eq, nn_clamp, nn_in, nn_nem1, nn_m1ne, nn_ltm1, nn_m1lt, nn_m1le, nn_lem1, bz_0, bz_n0, not_false_eq_true, not_true_eq_false, true_and, and_true, false_and, and_false, false_implies, true_implies, forall_const, Nat.reduceMul, Nat.reduceAdd, Nat.reduceSub] at q <;> try simp only [nn_bk] at q)
        exact h.1 q
      · (simp (disch := omega) only [nn_lit, nn_m1, nn_add, nn_mul, nn_rem, nn_sub, nn_addm1, nn_lt, nn_le, nn_eq, nn_clamp, nn_in, nn_nem1, nn_m1ne, nn_ltm1, nn_m1lt, nn_m1le, nn_lem1, bz_0, bz_n0, not_false_eq_true, not_true_eq_false, true_and, and_true, false_and, and_false, false_implies, true_implies, forall_const, Nat.reduceMul, Nat.reduceAdd, Nat.reduceSub] at q <;> try simp only [nn_bk] at q)
        exact h.2 q
    refine rg177_54 ⟨fun e0 => ⟨fun e1 => ?_, fun e1 => ?_⟩, fun e0 => ?_⟩
    · rw [swM, if_neg e0, if_neg e1] at key
      rw [hb]
      exact key
    · rw [swM, if_neg e0, if_pos e1] at key
      exact key
    · rw [swM, if_pos e0] at key
      exact key
  have out : ∀ i F, F 193 1 = Int32.ofNat n → i ≤ 20 → swE n c ≤ i + 1 → (c = 3 → i % 2 = 0) → (∀ F' p, F' 205 = F 205 → (∀ x, x ≠ 205 → F' x = F x) → wp 177 27 [.ref 193, .int row, .int (k + 1), .int c, .int p] [] (hs t, F', G) Q) → wp 177 54 [.ref 193, .int row, .int k, .int c, .int (Int32.ofNat i)] [] (hs t, F, G) Q := by
    intro i F hb hi he h3 h
    refine step i F hb (by omega) ⟨fun _ => h F _ rfl (fun _ _ => rfl), fun q => ?_⟩
    have hlast : ¬ i + 1 < n ∧ swM n c ≤ i + 2 := by
      unfold swM at q ⊢
      unfold swE at he
      by_cases e0 : c = 0
      · rw [if_pos e0] at q
        omega
      · rw [if_neg e0] at q he ⊢
        by_cases e1 : c = 3
        · rw [if_pos e1] at q he ⊢
          have := h3 e1
          omega
        · rw [if_neg e1] at q he ⊢
          omega
    refine sp176 hn (by omega) hb (fun F' h1 h2 => rg177_86 ?_)
    rw [show Int32.ofNat i + 2 = Int32.ofNat (i + 2) from nn_add i 2]
    rw [if_neg hlast.1] at h1
    exact step (i + 2) F' (by rw [h2 193 (by decide), hb]) (by omega) ⟨fun _ => h F' _ h1 h2, fun q2 => absurd hlast.2 (by omega)⟩
  intro d
  induction d with
  | zero =>
    intro i F hi0 hi h3 hb h
    exact out i F hb (by omega) (by omega) h3 h
  | succ d ih =>
    intro i F hi0 hi h3 hb h
    by_cases hc : i + 1 < swE n c
    · have hM : i < swM n c ∧ i + 1 < n := by
        unfold swM
        unfold swE at hc
        by_cases e0 : c = 0
        · rw [if_pos e0] at hc
          omega
        · rw [if_neg e0] at hc ⊢
          by_cases e1 : c = 3
          · rw [if_pos e1] at hc ⊢
            omega
          · rw [if_neg e1] at hc ⊢
            omega
      refine step i F hb (by omega) ⟨fun q => absurd hM.1 (by omega), fun _ => ?_⟩
      refine sp176 hn (by omega) hb (fun F' h1 h2 => rg177_86 ?_)
      rw [show Int32.ofNat i + 2 = Int32.ofNat (i + 2) from nn_add i 2]
      rw [if_pos hM.2] at h1
      refine ih (i + 2) F' (by omega) (by omega) (fun e => by have := h3 e; omega) (by rw [h2 193 (by decide), hb]) (fun F'' p h4 h5 => h F'' p ?_ (fun x hx => by rw [h5 x hx, h2 x hx]))
      rw [h4, h1, swL, if_pos hc]
    · exact out i F hb (by omega) (by omega) h3 (fun F' p h1 h2 => h F' p (by rw [h1, swL_stop (by omega)]) h2)
end SP
