/-! ===== the digest ===== -/
def hf9 (f : Nat → Int32) (h : Int64) : Nat → Int64
  | 0 => h
  | k + 1 => 31 * hf9 f h k + (f k).toInt64
theorem hf_congr {f g : Nat → Int32} {h : Int64} : ∀ m, (∀ k, k < m → f k = g k) → hf9 f h m = hf9 g h m
  | 0, _ => rfl
  | m + 1, e => by rw [hf9, hf9, hf_congr m (fun k hk => e k (by omega)), e m (by omega)]
theorem dm_div {w j i : Nat} (hi : i < w) : (w * j + i) / w = j := by
  rw [Nat.mul_add_div (by omega), Nat.div_eq_of_lt hi, Nat.add_zero]
theorem dm_mod {w j i : Nat} (hi : i < w) : (w * j + i) % w = i := by
  rw [Nat.mul_add_mod, Nat.mod_eq_of_lt hi]
section SP
variable {t : Nat} {F F' : ip_F} {Q : Option Value → ip_M → Prop} {n : Nat}
theorem sp48_18 {k u w j : Nat} {b : Int64} {G : ip_G} {v2 : Value} {f : Nat → Int32} (hk : ok4 t k) (hu : u ≤ 6) (hu2 : F k 1 = Int32.ofNat u) (hw : w ≤ 4) (hj : j < u) (hf : ∀ i, i < w → f (w * j + i) = F (k + 1) (4 * j + i)) (h : ∀ v5, wp 48 6 [.ref k, .long b, v2, .int (Int32.ofNat w), .long (hf9 f b (w * (j + 1))), v5, .int (Int32.ofNat (j + 1)), .int (Int32.ofNat w)] [] (hs t, F, G) Q) : ∀ d i v5, i + d = w → wp 48 18 [.ref k, .long b, v2, .int (Int32.ofNat w), .long (hf9 f b (w * j + i)), v5, .int (Int32.ofNat j), .int (Int32.ofNat i)] [] (hs t, F, G) Q := by
  intro d
  induction d with
  | zero =>
    intro i v5 hi
    obtain rfl : i = w := by omega
    refine rg48_18 hk ⟨fun _ => ?_, fun q => ?_⟩
    · rw [show Int32.ofNat j + 1 = Int32.ofNat (j + 1) from nn_add j 1]
      exact h _
    · (simp (disch := omega) only [nn_lit, nn_m1, nn_add, nn_mul, nn_rem, nn_sub, nn_addm1, nn_lt, nn_le, nn_eq, nn_clamp, nn_in, nn_nem1, nn_m1ne, nn_ltm1, nn_m1lt, nn_m1le, nn_lem1, bz_0, bz_n0, not_false_eq_true, not_true_eq_false, true_and, and_true, false_and, and_false, false_implies, true_implies, forall_const, Nat.reduceMul, Nat.reduceAdd, Nat.reduceSub] at q <;> try simp only [nn_bk] at q)
      omega
  | succ d ih =>
    intro i v5 hi
    refine rg48_18 hk ⟨fun q => ?_, fun _ => sp47 hk hu hu2 hj (by omega) (rg48_38 hk ?_)⟩
    · (simp (disch := omega) only [nn_lit, nn_m1, nn_add, nn_mul, nn_rem, nn_sub, nn_addm1, nn_lt, nn_le, nn_eq, nn_clamp, nn_in, nn_nem1, nn_m1ne, nn_ltm1, nn_m1lt, nn_m1le, nn_lem1, bz_0, bz_n0, not_false_eq_true, not_true_eq_false, true_and, and_true, false_and, and_false, false_implies, true_implies, forall_const, Nat.reduceMul, Nat.reduceAdd, Nat.reduceSub] at q <;> try simp only [nn_bk] at q)
      omega
    · rw [show Int32.ofNat i + 1 = Int32.ofNat (i + 1) from nn_add i 1, ← hf i (by omega)]
      exact ih (i + 1) _ (by omega)
theorem sp48_6 {k u w : Nat} {b : Int64} {G : ip_G} {v2 : Value} {f : Nat → Int32} (hk : ok4 t k) (hu : u ≤ 6) (hu2 : F k 1 = Int32.ofNat u) (hw : w ≤ 4) (hf : ∀ j, j < u → ∀ i, i < w → f (w * j + i) = F (k + 1) (4 * j + i)) (h : Q (some (.long (hf9 f b (w * u)))) (hs t, F, G)) : ∀ d j v5 v7, j + d = u → wp 48 6 [.ref k, .long b, v2, .int (Int32.ofNat w), .long (hf9 f b (w * j)), v5, .int (Int32.ofNat j), v7] [] (hs t, F, G) Q := by
  intro d
  induction d with
  | zero =>
    intro j v5 v7 hj
    obtain rfl : j = u := by omega
    refine rg48_6 hk ⟨fun _ => h, fun q => ?_⟩
    rw [hu2] at q
    (simp (disch := omega) only [nn_lit, nn_m1, nn_add, nn_mul, nn_rem, nn_sub, nn_addm1, nn_lt, nn_le, nn_eq, nn_clamp, nn_in, nn_nem1, nn_m1ne, nn_ltm1, nn_m1lt, nn_m1le, nn_lem1, bz_0, bz_n0, not_false_eq_true, not_true_eq_false, true_and, and_true, false_and, and_false, false_implies, true_implies, forall_const, Nat.reduceMul, Nat.reduceAdd, Nat.reduceSub] at q <;> try simp only [nn_bk] at q)
    omega
  | succ d ih =>
    intro j v5 v7 hj
    refine rg48_6 hk ⟨fun q => ?_, fun _ => sp48_18 hk hu hu2 hw (by omega) (hf j (by omega)) (fun v5 => ih (j + 1) v5 _ (by omega)) w 0 _ (by omega)⟩
    rw [hu2] at q
    (simp (disch := omega) only [nn_lit, nn_m1, nn_add, nn_mul, nn_rem, nn_sub, nn_addm1, nn_lt, nn_le, nn_eq, nn_clamp, nn_in, nn_nem1, nn_m1ne, nn_ltm1, nn_m1lt, nn_m1le, nn_lem1, bz_0, bz_n0, not_false_eq_true, not_true_eq_false, true_and, and_true, false_and, and_false, false_implies, true_implies, forall_const, Nat.reduceMul, Nat.reduceAdd, Nat.reduceSub] at q <;> try simp only [nn_bk] at q)
    omega
theorem sp48 {k u w : Nat} {b : Int64} {G : ip_G} {f : Nat → Int32} (hk : ok4 t k) (hu : u ≤ 6) (hu2 : F k 1 = Int32.ofNat u) (hw : w ≤ 4) (hf : ∀ j, j < u → ∀ i, i < w → f (w * j + i) = F (k + 1) (4 * j + i)) (h : Q (some (.long (hf9 f b (w * u)))) (hs t, F, G)) : wp 48 0 [.ref k, .long b, .float 0, .int (Int32.ofNat w), .float 0, .float 0, .float 0, .float 0] [] (hs t, F, G) Q :=
  rg48_0 hk (sp48_6 hk hu hu2 hw hf h u 0 _ _ (by omega))
/-! the class -/
theorem cv_q (e : ∀ x, npl x → F' x = F x) {w : Nat} (hw : w ≤ 9) : cv9 n F' w = cv9 n F w := by
  have e1 := e 1 (by decide)
  have e4 := e 4 (by decide)
  match w, hw with
  | 0, _ => show F' 1 6 = F 1 6; rw [e1]
  | 1, _ => show Int32.ofNat (nb9 _) = Int32.ofNat (nb9 _); rw [e4]
  | 2, _ => show Int32.ofNat (nb9 _) = Int32.ofNat (nb9 _); rw [e4]
  | 3, _ => show F' 4 24 = F 4 24; rw [e4]
  | 4, _ => show Int32.ofNat (as9 _ _ _) = Int32.ofNat (as9 _ _ _); rw [e4, e 2 (by decide)]
  | 5, _ => show F' 15 1 = F 15 1; rw [e 15 (by decide)]
  | 6, _ => show F' 17 1 = F 17 1; rw [e 17 (by decide)]
  | 7, _ => show F' 19 1 = F 19 1; rw [e 19 (by decide)]
  | 8, _ => show F' 5 1 = F 5 1; rw [e 5 (by decide)]
  | 9, _ => show F' 62 1 = F 62 1; rw [e 62 (by decide)]
theorem sp128_6 {F0 : ip_F} {G : ip_G} {b : Int64} (h4 : 4 ≤ n) (h6 : n ≤ 6) (b1 : F0 1 6 = Int32.ofNat n) (hP : WR9 n (F0 4)) : ∀ d k F v2 v4, k + d = 10 → (∀ x, npl x → F x = F0 x) → (∀ F' v2, (∀ x, npl x → F' x = F0 x) → wp 128 33 [.ref 0, .long (hf9 (cv9 n F0) b 10), v2, .int 0, v4] [] (hs t, F', G) Q) → wp 128 6 [.ref 0, .long (hf9 (cv9 n F0) b k), v2, .int (Int32.ofNat k), v4] [] (hs t, F, G) Q := by
  intro d
  induction d with
  | zero =>
    intro k F v2 v4 hk hf h
    obtain rfl : k = 10 := by omega
    exact rg128_6 ⟨fun _ => h F _ hf, fun q => absurd q (by decide)⟩
  | succ d ih =>
    intro k F v2 v4 hk hf h
    refine rg128_6 ⟨fun q => ?_, fun _ => sp137 h4 h6 (by rw [hf 1 (by decide), b1]) (by rw [hf 4 (by decide)]; exact hP) (by omega) (fun F1 hf1 => rg128_22 ?_)⟩
    · (simp (disch := omega) only [nn_lit, nn_m1, nn_add, nn_mul, nn_rem, nn_sub, nn_addm1, nn_lt, nn_le, nn_eq, nn_clamp, nn_in, nn_nem1, nn_m1ne, nn_ltm1, nn_m1lt, nn_m1le, nn_lem1, bz_0, bz_n0, not_false_eq_true, not_true_eq_false, true_and, and_true, false_and, and_false, false_implies, true_implies, forall_const, Nat.reduceMul, Nat.reduceAdd, Nat.reduceSub] at q <;> try simp only [nn_bk] at q)
      omega
    · rw [show Int32.ofNat k + 1 = Int32.ofNat (k + 1) from nn_add k 1, cv_q hf (by omega)]
      exact ih (k + 1) F1 _ _ (by omega) (fun x hx => by rw [hf1 x hx, hf x hx]) h
theorem sp128_33 {G : ip_G} {b : Int64} : ∀ d k v2 v4, k + d = 6 → (∀ v2, wp 128 64 [.ref 0, .long (hf9 (F 2) b 6), v2, .int 0, v4] [] (hs t, F, G) Q) → wp 128 33 [.ref 0, .long (hf9 (F 2) b k), v2, .int (Int32.ofNat k), v4] [] (hs t, F, G) Q := by
  intro d
  induction d with
  | zero =>
    intro k v2 v4 hk h
    obtain rfl : k = 6 := by omega
    exact rg128_33 ⟨fun _ => h _, fun q => absurd q (by decide)⟩
  | succ d ih =>
    intro k v2 v4 hk h
    refine rg128_33 ⟨fun q => ?_, fun _ => ⟨(nn_in (by omega)).mpr (by omega), ?_⟩⟩
    · (simp (disch := omega) only [nn_lit, nn_m1, nn_add, nn_mul, nn_rem, nn_sub, nn_addm1, nn_lt, nn_le, nn_eq, nn_clamp, nn_in, nn_nem1, nn_m1ne, nn_ltm1, nn_m1lt, nn_m1le, nn_lem1, bz_0, bz_n0, not_false_eq_true, not_true_eq_false, true_and, and_true, false_and, and_false, false_implies, true_implies, forall_const, Nat.reduceMul, Nat.reduceAdd, Nat.reduceSub] at q <;> try simp only [nn_bk] at q)
      omega
    · rw [show Int32.ofNat k + 1 = Int32.ofNat (k + 1) from nn_add k 1, nn_clamp (by omega)]
      exact ih (k + 1) _ _ (by omega) h
def rl9 (c : Nat → Int32) (m : Nat) : Int32 := rf9 c (m / 4) (m % 4)
theorem sp128_78 {G : ip_G} {b : Int64} {r : Nat} (hr : r < 6) : ∀ d i v2, i + d = 4 → (∀ v2 v4, wp 128 64 [.ref 0, .long (hf9 (rl9 (F 4)) b (4 * (r + 1))), v2, .int (Int32.ofNat (r + 1)), v4] [] (hs t, F, G) Q) → wp 128 78 [.ref 0, .long (hf9 (rl9 (F 4)) b (4 * r + i)), v2, .int (Int32.ofNat r), .int (Int32.ofNat i)] [] (hs t, F, G) Q := by
  intro d
  induction d with
  | zero =>
    intro i v2 hi h
    obtain rfl : i = 4 := by omega
    refine rg128_78 ⟨fun _ => ?_, fun q => absurd q (by decide)⟩
    rw [show Int32.ofNat r + 1 = Int32.ofNat (r + 1) from nn_add r 1]
    exact h _ _
  | succ d ih =>
    intro i v2 hi h
    refine rg128_78 ⟨fun q => ?_, fun _ => sp136 hr (by omega) (rg128_96 ?_)⟩
    · (simp (disch := omega) only [nn_lit, nn_m1, nn_add, nn_mul, nn_rem, nn_sub, nn_addm1, nn_lt, nn_le, nn_eq, nn_clamp, nn_in, nn_nem1, nn_m1ne, nn_ltm1, nn_m1lt, nn_m1le, nn_lem1, bz_0, bz_n0, not_false_eq_true, not_true_eq_false, true_and, and_true, false_and, and_false, false_implies, true_implies, forall_const, Nat.reduceMul, Nat.reduceAdd, Nat.reduceSub] at q <;> try simp only [nn_bk] at q)
      omega
    · rw [show Int32.ofNat i + 1 = Int32.ofNat (i + 1) from nn_add i 1]
      have e : rl9 (F 4) (4 * r + i) = rf9 (F 4) r i := by rw [rl9, dm_div (by omega), dm_mod (by omega)]
      rw [← e]
      exact ih (i + 1) _ (by omega) h
theorem sp128_64 {G : ip_G} {b : Int64} (h6 : n ≤ 6) (b1 : F 1 6 = Int32.ofNat n) : ∀ d r v2 v4, r + d = n → (∀ v2 a3 v4, wp 48 0 [.ref 15, .long (hf9 (rl9 (F 4)) b (4 * n)), .float 0, .int 2, .float 0, .float 0, .float 0, .float 0] [] (hs t, F, G) (fun v M' => wp 128 123 [.ref 0, .long (hf9 (rl9 (F 4)) b (4 * n)), v2, .int a3, v4] (v.toList ++ []) M' Q)) → wp 128 64 [.ref 0, .long (hf9 (rl9 (F 4)) b (4 * r)), v2, .int (Int32.ofNat r), v4] [] (hs t, F, G) Q := by
  intro d
  induction d with
  | zero =>
    intro r v2 v4 hr h
    obtain rfl : r = n := by omega
    refine rg128_64 ⟨fun _ => h _ _ _, fun q => ?_⟩
    rw [b1] at q
    (simp (disch := omega) only [nn_lit, nn_m1, nn_add, nn_mul, nn_rem, nn_sub, nn_addm1, nn_lt, nn_le, nn_eq, nn_clamp, nn_in, nn_nem1, nn_m1ne, nn_ltm1, nn_m1lt, nn_m1le, nn_lem1, bz_0, bz_n0, not_false_eq_true, not_true_eq_false, true_and, and_true, false_and, and_false, false_implies, true_implies, forall_const, Nat.reduceMul, Nat.reduceAdd, Nat.reduceSub] at q <;> try simp only [nn_bk] at q)
    omega
  | succ d ih =>
    intro r v2 v4 hr h
    refine rg128_64 ⟨fun q => ?_, fun _ => sp128_78 (by omega) 4 0 _ rfl (fun v2 v4 => ih (r + 1) v2 v4 (by omega) h)⟩
    rw [b1] at q
    (simp (disch := omega) only [nn_lit, nn_m1, nn_add, nn_mul, nn_rem, nn_sub, nn_addm1, nn_lt, nn_le, nn_eq, nn_clamp, nn_in, nn_nem1, nn_m1ne, nn_ltm1, nn_m1lt, nn_m1le, nn_lem1, bz_0, bz_n0, not_false_eq_true, not_true_eq_false, true_and, and_true, false_and, and_false, false_implies, true_implies, forall_const, Nat.reduceMul, Nat.reduceAdd, Nat.reduceSub] at q <;> try simp only [nn_bk] at q)
    omega
/-! the reference -/
abbrev GH9 (G0 G : ip_G) (h : Int64) : Prop := G 193 30 = h ∧ ∀ a b, (a ≠ 193 ∨ b ≠ 30) → G a b = G0 a b
theorem gh_mix {G0 G : ip_G} {h v : Int64} (e : GH9 G0 G h) : GH9 G0 (ip_ul G 193 30 (31 * G 193 30 + v)) (31 * h + v) := by
  refine ⟨?_, fun a b hab => ?_⟩
  · unfold ip_ul
    rw [if_pos ⟨rfl, rfl⟩, e.1]
  · unfold ip_ul
    rw [if_neg (by omega)]
    exact e.2 a b hab
theorem sp235_9 {F0 : ip_F} {G0 : ip_G} {b : Int64} (h4 : 4 ≤ n) (h6 : n ≤ 6) (b2 : F0 193 1 = Int32.ofNat n) (hP : NP9 n F0) : ∀ d k F G v2, k + d = 10 → (∀ x, x ≠ 205 → F x = F0 x) → GH9 G0 G (hf9 (dv9 n F0) b k) → (∀ F' G' v2, (∀ x, x ≠ 205 → F' x = F0 x) → GH9 G0 G' (hf9 (dv9 n F0) b 10) → wp 235 33 [.ref 193, .int 0, v2] [] (hs t, F', G') Q) → wp 235 9 [.ref 193, .int (Int32.ofNat k), v2] [] (hs t, F, G) Q := by
  intro d
  induction d with
  | zero =>
    intro k F G v2 hk hf hG h
    obtain rfl : k = 10 := by omega
    exact rg235_9 ⟨fun _ => h F G _ hf hG, fun q => absurd q (by decide)⟩
  | succ d ih =>
    intro k F G v2 hk hf hG h
    have m : mr9 F = mr9 F0 := mr_eq (fun x hx _ => hf x hx)
    refine rg235_9 ⟨fun q => ?_, fun _ => sp232 h4 h6 (by rw [hf 193 (by decide), b2]) (by rw [m]; exact kw_m h6 hP) (fun r hr => by rw [hf 198 (by decide)]; exact kd_of h6 hP r hr) (by omega) (fun F1 hf1 => rg235_21 (rg234_0 (rg235_25 ?_)))⟩
    · (simp (disch := omega) only [nn_lit, nn_m1, nn_add, nn_mul, nn_rem, nn_sub, nn_addm1, nn_lt, nn_le, nn_eq, nn_clamp, nn_in, nn_nem1, nn_m1ne, nn_ltm1, nn_m1lt, nn_m1le, nn_lem1, bz_0, bz_n0, not_false_eq_true, not_true_eq_false, true_and, and_true, false_and, and_false, false_implies, true_implies, forall_const, Nat.reduceMul, Nat.reduceAdd, Nat.reduceSub] at q <;> try simp only [nn_bk] at q)
      omega
    · rw [show Int32.ofNat k + 1 = Int32.ofNat (k + 1) from nn_add k 1]
      have e0 : dv9 n F k = dv9 n F0 k := dv_q (fun x _ hx => hf x hx.1) (by omega)
      rw [e0]
      exact ih (k + 1) F1 _ _ (by omega) (fun x hx => by rw [hf1 x hx, hf x hx]) (gh_mix hG) h
theorem sp235_33 {G0 : ip_G} {b : Int64} : ∀ d k G v2, k + d = 6 → GH9 G0 G (hf9 (F 195) b k) → (∀ G' v2, GH9 G0 G' (hf9 (F 195) b 6) → wp 235 58 [.ref 193, .int 0, v2] [] (hs t, F, G') Q) → wp 235 33 [.ref 193, .int (Int32.ofNat k), v2] [] (hs t, F, G) Q := by
  intro d
  induction d with
  | zero =>
    intro k G v2 hk hG h
    obtain rfl : k = 6 := by omega
    exact rg235_33 ⟨fun _ => h G _ hG, fun q => absurd q (by decide)⟩
  | succ d ih =>
    intro k G v2 hk hG h
    refine rg235_33 ⟨fun q => ?_, fun _ => ⟨(nn_in (by omega)).mpr (by omega), rg234_0 (rg235_50 ?_)⟩⟩
    · (simp (disch := omega) only [nn_lit, nn_m1, nn_add, nn_mul, nn_rem, nn_sub, nn_addm1, nn_lt, nn_le, nn_eq, nn_clamp, nn_in, nn_nem1, nn_m1ne, nn_ltm1, nn_m1lt, nn_m1le, nn_lem1, bz_0, bz_n0, not_false_eq_true, not_true_eq_false, true_and, and_true, false_and, and_false, false_implies, true_implies, forall_const, Nat.reduceMul, Nat.reduceAdd, Nat.reduceSub] at q <;> try simp only [nn_bk] at q)
      omega
    · rw [show Int32.ofNat k + 1 = Int32.ofNat (k + 1) from nn_add k 1, nn_clamp (by omega)]
      exact ih (k + 1) _ _ (by omega) (gh_mix hG) h
theorem sp235_68 {G0 : ip_G} {b : Int64} {r : Nat} (h6 : n ≤ 6) (b2 : F 193 1 = Int32.ofNat n) (hk : ∀ r, r < n → kd9 (F 198 r)) (hr : r < n) : ∀ d i G, i + d = 4 → GH9 G0 G (hf9 (rl9 (mr9 F)) b (4 * r + i)) → (∀ G' v2, GH9 G0 G' (hf9 (rl9 (mr9 F)) b (4 * (r + 1))) → wp 235 58 [.ref 193, .int (Int32.ofNat (r + 1)), v2] [] (hs t, F, G') Q) → wp 235 68 [.ref 193, .int (Int32.ofNat r), .int (Int32.ofNat i)] [] (hs t, F, G) Q := by
  intro d
  induction d with
  | zero =>
    intro i G hi hG h
    obtain rfl : i = 4 := by omega
    refine rg235_68 ⟨fun _ => ?_, fun q => absurd q (by decide)⟩
    rw [show Int32.ofNat r + 1 = Int32.ofNat (r + 1) from nn_add r 1]
    exact h G _ hG
  | succ d ih =>
    intro i G hi hG h
    refine rg235_68 ⟨fun q => ?_, fun _ => sp196 h6 b2 hk hr (by omega) (rg235_80 (rg234_0 (rg235_84 ?_)))⟩
    · (simp (disch := omega) only [nn_lit, nn_m1, nn_add, nn_mul, nn_rem, nn_sub, nn_addm1, nn_lt, nn_le, nn_eq, nn_clamp, nn_in, nn_nem1, nn_m1ne, nn_ltm1, nn_m1lt, nn_m1le, nn_lem1, bz_0, bz_n0, not_false_eq_true, not_true_eq_false, true_and, and_true, false_and, and_false, false_implies, true_implies, forall_const, Nat.reduceMul, Nat.reduceAdd, Nat.reduceSub] at q <;> try simp only [nn_bk] at q)
      omega
    · rw [show Int32.ofNat i + 1 = Int32.ofNat (i + 1) from nn_add i 1]
      have e : rl9 (mr9 F) (4 * r + i) = rf9 (mr9 F) r i := by rw [rl9, dm_div (by omega), dm_mod (by omega)]
      rw [← e]
      exact ih (i + 1) _ (by omega) (gh_mix hG) h
theorem sp235_58 {G0 : ip_G} {b : Int64} (h6 : n ≤ 6) (b2 : F 193 1 = Int32.ofNat n) (hk : ∀ r, r < n → kd9 (F 198 r)) : ∀ d r G v2, r + d = n → GH9 G0 G (hf9 (rl9 (mr9 F)) b (4 * r)) → (∀ G' v2, GH9 G0 G' (hf9 (rl9 (mr9 F)) b (4 * n)) → wp 235 98 [.ref 193, .int 0, v2] [] (hs t, F, G') Q) → wp 235 58 [.ref 193, .int (Int32.ofNat r), v2] [] (hs t, F, G) Q := by
  intro d
  induction d with
  | zero =>
    intro r G v2 hr hG h
    obtain rfl : r = n := by omega
    refine rg235_58 ⟨fun _ => h G _ hG, fun q => ?_⟩
    rw [b2] at q
    (simp (disch := omega) only [nn_lit, nn_m1, nn_add, nn_mul, nn_rem, nn_sub, nn_addm1, nn_lt, nn_le, nn_eq, nn_clamp, nn_in, nn_nem1, nn_m1ne, nn_ltm1, nn_m1lt, nn_m1le, nn_lem1, bz_0, bz_n0, not_false_eq_true, not_true_eq_false, true_and, and_true, false_and, and_false, false_implies, true_implies, forall_const, Nat.reduceMul, Nat.reduceAdd, Nat.reduceSub] at q <;> try simp only [nn_bk] at q)
    omega
  | succ d ih =>
    intro r G v2 hr hG h
    refine rg235_58 ⟨fun q => ?_, fun _ => sp235_68 h6 b2 hk (by omega) 4 0 G rfl hG (fun G' v2 hG' => ih (r + 1) G' v2 (by omega) hG' h)⟩
    rw [b2] at q
    (simp (disch := omega) only [nn_lit, nn_m1, nn_add, nn_mul, nn_rem, nn_sub, nn_addm1, nn_lt, nn_le, nn_eq, nn_clamp, nn_in, nn_nem1, nn_m1ne, nn_ltm1, nn_m1lt, nn_m1le, nn_lem1, bz_0, bz_n0, not_false_eq_true, not_true_eq_false, true_and, and_true, false_and, and_false, false_implies, true_implies, forall_const, Nat.reduceMul, Nat.reduceAdd, Nat.reduceSub] at q <;> try simp only [nn_bk] at q)
    omega
theorem sp235_98 {G0 : ip_G} {b : Int64} {u : Nat} (hu : u ≤ 4) (hu2 : F 193 3 = Int32.ofNat u) : ∀ d k G v2, k + d = 2 * u → GH9 G0 G (hf9 (F 200) b k) → (∀ G' v2, GH9 G0 G' (hf9 (F 200) b (2 * u)) → wp 235 127 [.ref 193, .int 0, v2] [] (hs t, F, G') Q) → wp 235 98 [.ref 193, .int (Int32.ofNat k), v2] [] (hs t, F, G) Q := by
  intro d
  have e0 : (2 : Int32) * F 193 3 = Int32.ofNat (2 * u) := by rw [hu2]; exact nn_mul 2 u
  induction d with
  | zero =>
    intro k G v2 hk hG h
    obtain rfl : k = 2 * u := by omega
    refine rg235_98 ⟨fun _ => h G _ hG, fun q => ?_⟩
    rw [e0] at q
    (simp (disch := omega) only [nn_lit, nn_m1, nn_add, nn_mul, nn_rem, nn_sub, nn_addm1, nn_lt, nn_le, nn_eq, nn_clamp, nn_in, nn_nem1, nn_m1ne, nn_ltm1, nn_m1lt, nn_m1le, nn_lem1, bz_0, bz_n0, not_false_eq_true, not_true_eq_false, true_and, and_true, false_and, and_false, false_implies, true_implies, forall_const, Nat.reduceMul, Nat.reduceAdd, Nat.reduceSub] at q <;> try simp only [nn_bk] at q)
    omega
  | succ d ih =>
    intro k G v2 hk hG h
    refine rg235_98 ⟨fun q => ?_, fun _ => ⟨(nn_in (by omega)).mpr (by omega), rg234_0 (rg235_119 ?_)⟩⟩
    · rw [e0] at q
      (simp (disch := omega) only [nn_lit, nn_m1, nn_add, nn_mul, nn_rem, nn_sub, nn_addm1, nn_lt, nn_le, nn_eq, nn_clamp, nn_in, nn_nem1, nn_m1ne, nn_ltm1, nn_m1lt, nn_m1le, nn_lem1, bz_0, bz_n0, not_false_eq_true, not_true_eq_false, true_and, and_true, false_and, and_false, false_implies, true_implies, forall_const, Nat.reduceMul, Nat.reduceAdd, Nat.reduceSub] at q <;> try simp only [nn_bk] at q)
      omega
    · rw [show Int32.ofNat k + 1 = Int32.ofNat (k + 1) from nn_add k 1, nn_clamp (by omega)]
      exact ih (k + 1) _ _ (by omega) (gh_mix hG) h
theorem sp235_127 {G0 : ip_G} {b : Int64} {u : Nat} (hu : u ≤ 6) (hu2 : F 193 4 = Int32.ofNat u) : ∀ d k G v2, k + d = 3 * u → GH9 G0 G (hf9 (F 201) b k) → (∀ G' v2, GH9 G0 G' (hf9 (F 201) b (3 * u)) → wp 235 156 [.ref 193, .int 0, v2] [] (hs t, F, G') Q) → wp 235 127 [.ref 193, .int (Int32.ofNat k), v2] [] (hs t, F, G) Q := by
  intro d
  have e0 : (3 : Int32) * F 193 4 = Int32.ofNat (3 * u) := by rw [hu2]; exact nn_mul 3 u
  induction d with
  | zero =>
    intro k G v2 hk hG h
    obtain rfl : k = 3 * u := by omega
    refine rg235_127 ⟨fun _ => h G _ hG, fun q => ?_⟩
    rw [e0] at q
    (simp (disch := omega) only [nn_lit, nn_m1, nn_add, nn_mul, nn_rem, nn_sub, nn_addm1, nn_lt, nn_le, nn_eq, nn_clamp, nn_in, nn_nem1, nn_m1ne, nn_ltm1, nn_m1lt, nn_m1le, nn_lem1, bz_0, bz_n0, not_false_eq_true, not_true_eq_false, true_and, and_true, false_and, and_false, false_implies, true_implies, forall_const, Nat.reduceMul, Nat.reduceAdd, Nat.reduceSub] at q <;> try simp only [nn_bk] at q)
    omega
  | succ d ih =>
    intro k G v2 hk hG h
    refine rg235_127 ⟨fun q => ?_, fun _ => ⟨(nn_in (by omega)).mpr (by omega), rg234_0 (rg235_148 ?_)⟩⟩
    · rw [e0] at q
      (simp (disch := omega) only [nn_lit, nn_m1, nn_add, nn_mul, nn_rem, nn_sub, nn_addm1, nn_lt, nn_le, nn_eq, nn_clamp, nn_in, nn_nem1, nn_m1ne, nn_ltm1, nn_m1lt, nn_m1le, nn_lem1, bz_0, bz_n0, not_false_eq_true, not_true_eq_false, true_and, and_true, false_and, and_false, false_implies, true_implies, forall_const, Nat.reduceMul, Nat.reduceAdd, Nat.reduceSub] at q <;> try simp only [nn_bk] at q)
      omega
    · rw [show Int32.ofNat k + 1 = Int32.ofNat (k + 1) from nn_add k 1, nn_clamp (by omega)]
      exact ih (k + 1) _ _ (by omega) (gh_mix hG) h
theorem sp235_156 {G0 : ip_G} {b : Int64} {u : Nat} (hu : u ≤ 6) (hu2 : F 193 5 = Int32.ofNat u) : ∀ d k G v2, k + d = 4 * u → GH9 G0 G (hf9 (F 202) b k) → (∀ G' v2, GH9 G0 G' (hf9 (F 202) b (4 * u)) → wp 234 0 [.ref 193, .long (G' 193 26), .float 0] [] (hs t, F, G') (fun v M' => wp 235 191 [.ref 193, .int (Int32.ofNat (4 * u)), v2] (v.toList ++ []) M' Q)) → wp 235 156 [.ref 193, .int (Int32.ofNat k), v2] [] (hs t, F, G) Q := by
  intro d
  have e0 : (4 : Int32) * F 193 5 = Int32.ofNat (4 * u) := by rw [hu2]; exact nn_mul 4 u
  induction d with
  | zero =>
    intro k G v2 hk hG h
    obtain rfl : k = 4 * u := by omega
    refine rg235_156 ⟨fun _ => h G _ hG, fun q => ?_⟩
    rw [e0] at q
    (simp (disch := omega) only [nn_lit, nn_m1, nn_add, nn_mul, nn_rem, nn_sub, nn_addm1, nn_lt, nn_le, nn_eq, nn_clamp, nn_in, nn_nem1, nn_m1ne, nn_ltm1, nn_m1lt, nn_m1le, nn_lem1, bz_0, bz_n0, not_false_eq_true, not_true_eq_false, true_and, and_true, false_and, and_false, false_implies, true_implies, forall_const, Nat.reduceMul, Nat.reduceAdd, Nat.reduceSub] at q <;> try simp only [nn_bk] at q)
    omega
  | succ d ih =>
    intro k G v2 hk hG h
    refine rg235_156 ⟨fun q => ?_, fun _ => ⟨(nn_in (by omega)).mpr (by omega), rg234_0 (rg235_177 ?_)⟩⟩
    · rw [e0] at q
      (simp (disch := omega) only [nn_lit, nn_m1, nn_add, nn_mul, nn_rem, nn_sub, nn_addm1, nn_lt, nn_le, nn_eq, nn_clamp, nn_in, nn_nem1, nn_m1ne, nn_ltm1, nn_m1lt, nn_m1le, nn_lem1, bz_0, bz_n0, not_false_eq_true, not_true_eq_false, true_and, and_true, false_and, and_false, false_implies, true_implies, forall_const, Nat.reduceMul, Nat.reduceAdd, Nat.reduceSub] at q <;> try simp only [nn_bk] at q)
      omega
    · rw [show Int32.ofNat k + 1 = Int32.ofNat (k + 1) from nn_add k 1, nn_clamp (by omega)]
      exact ih (k + 1) _ _ (by omega) (gh_mix hG) h
theorem pr_digest {G : ip_G} (hI : INV t F G) : wp 128 0 [.ref 0, .float 0, .float 0, .float 0, .float 0] [] (hs t, F, G) (fun v M => wp 235 0 [.ref 193, .float 0, .float 0] [] M (ENl v)) := by
  obtain ⟨n, hN⟩ := hI.2.1
  obtain ⟨⟨h4, h6, b1, b2, b3⟩, hP, hU, ⟨a, a1, a2, a3, a4⟩, ⟨m, m1, m2, m3, m4⟩, w, w1, w2, w3, w4⟩ := id hN
  refine rg128_0 (sp128_6 (F0 := F) h4 h6 b1 hP.2 10 0 F _ _ rfl (fun _ _ => rfl) (fun F1 v2 hf => ?_))
  have e : ∀ x, nqc x → F1 x = F x := fun x hx => hf x (npl_q hx)
  refine sp128_33 (b := hf9 (cv9 n F) 1549 10) 6 0 _ _ rfl (fun v2 => ?_)
  refine sp128_64 (n := n) (b := hf9 (F1 2) (hf9 (cv9 n F) 1549 10) 6) h6 (by rw [e 1 (by decide), b1]) n 0 _ _ (by omega) (fun v2 r0 v4 => ?_)
  refine sp48 (k := 15) (u := a) (w := 2) (f := fun k => F 16 (4 * (k / 2) + k % 2)) ⟨rfl, rfl⟩ (by omega) (by rw [e 15 (by decide), a2]) (by omega) (fun j hj i hi => ?_) (rg128_123 ?_)
  · show F 16 _ = F1 16 _
    rw [dm_div hi, dm_mod hi, e 16 (by decide)]
  refine sp48 (k := 17) (u := m) (w := 3) (f := fun k => F 18 (4 * (k / 3) + k % 3)) ⟨rfl, rfl⟩ (by omega) (by rw [e 17 (by decide), m2]) (by omega) (fun j hj i hi => ?_) (rg128_136 ?_)
  · show F 18 _ = F1 18 _
    rw [dm_div hi, dm_mod hi, e 18 (by decide)]
  refine sp48 (k := 19) (u := w) (w := 4) (f := fun k => F 20 (4 * (k / 4) + k % 4)) ⟨rfl, rfl⟩ (by omega) (by rw [e 19 (by decide), w2]) (by omega) (fun j hj i hi => ?_) (rg128_149 ?_)
  · show F 20 _ = F1 20 _
    rw [dm_div hi, dm_mod hi, e 20 (by decide)]
  have em : mr9 F1 = mr9 F := mr_q (fun x hx _ => e x hx)
  have c1 : hf9 (cv9 n F) 1549 10 = hf9 (dv9 n F1) 1549 10 := hf_congr 10 (fun k hk => by rw [dv_q (F := F) (F' := F1) (fun x hx _ => e x hx) (by omega)]; exact cv_dv hN hI.2.2.2.2.1 (by omega))
  have c2 : ∀ h, hf9 (F1 2) h 6 = hf9 (F1 195) h 6 := fun h => hf_congr 6 (fun k hk => by rw [e 2 (by decide), e 195 (by decide)]; exact b3 k hk)
  have c3 : ∀ h, hf9 (rl9 (F1 4)) h (4 * n) = hf9 (rl9 (mr9 F1)) h (4 * n) := fun h => hf_congr _ (fun k hk => by rw [e 4 (by decide), em]; exact rf_eq h6 (by omega) hP.1)
  have c4 : ∀ h, hf9 (fun k => F 16 (4 * (k / 2) + k % 2)) h (2 * a) = hf9 (F1 200) h (2 * a) := fun h => hf_congr _ (fun k hk => by
    rw [e 200 (by decide), (a4 (k / 2) (by omega)).2 (k % 2) (by omega)]
    congr 1
    omega)
  have c5 : ∀ h, hf9 (fun k => F 18 (4 * (k / 3) + k % 3)) h (3 * m) = hf9 (F1 201) h (3 * m) := fun h => hf_congr _ (fun k hk => by
    rw [e 201 (by decide), m4 (k / 3) (by omega) (k % 3) (by omega)]
    congr 1
    omega)
  have c6 : ∀ h, hf9 (fun k => F 20 (4 * (k / 4) + k % 4)) h (4 * w) = hf9 (F1 202) h (4 * w) := fun h => hf_congr _ (fun k hk => by
    rw [e 202 (by decide), (w4 (k / 4) (by omega)).2 (k % 4) (by omega)]
    congr 1
    omega)
  rw [c1, c2, c3, c4, c5, c6]
  refine rg235_0 (sp235_9 (F0 := F1) (G0 := G) (b := 1549) h4 h6 (by rw [e 193 (by decide), b2]) ⟨by rw [em, e 4 (by decide)]; exact hP.1, by rw [e 4 (by decide)]; exact hP.2⟩ 10 0 F1 _ _ rfl (fun _ _ => rfl) ⟨by unfold ip_ul; rw [if_pos ⟨rfl, rfl⟩]; rfl, fun a b hab => by unfold ip_ul; rw [if_neg (by omega)]⟩ (fun F2 G2 v2 hf2 hG2 => ?_))
  have em2 : mr9 F2 = mr9 F1 := mr_eq (fun x hx _ => hf2 x hx)
  have e93 : F2 193 = F 193 := by rw [hf2 193 (by decide), e 193 (by decide)]
  refine sp235_33 (G0 := G) (b := hf9 (dv9 n F1) 1549 10) 6 0 G2 _ rfl hG2 (fun G3 v2 hG3 => ?_)
  refine sp235_58 (n := n) (G0 := G) (b := hf9 (F2 195) (hf9 (dv9 n F1) 1549 10) 6) h6 (by rw [e93, b2]) (fun r hr => by rw [hf2 198 (by decide), e 198 (by decide)]; exact kd_of h6 hP r hr) n 0 G3 _ (by omega) hG3 (fun G4 v2 hG4 => ?_)
  refine sp235_98 (G0 := G) (u := a) (b := hf9 (rl9 (mr9 F2)) (hf9 (F2 195) (hf9 (dv9 n F1) 1549 10) 6) (4 * n)) a1 (by rw [e93, a3]) (2 * a) 0 G4 _ (by omega) hG4 (fun G5 v2 hG5 => ?_)
  refine sp235_127 (G0 := G) (u := m) (b := hf9 (F2 200) (hf9 (rl9 (mr9 F2)) (hf9 (F2 195) (hf9 (dv9 n F1) 1549 10) 6) (4 * n)) (2 * a)) m1 (by rw [e93, m3]) (3 * m) 0 G5 _ (by omega) hG5 (fun G6 v2 hG6 => ?_)
  refine sp235_156 (G0 := G) (u := w) (b := hf9 (F2 201) (hf9 (F2 200) (hf9 (rl9 (mr9 F2)) (hf9 (F2 195) (hf9 (dv9 n F1) 1549 10) 6) (4 * n)) (2 * a)) (3 * m)) w1 (by rw [e93, w3]) (4 * w) 0 G6 _ (by omega) hG6 (fun G7 v2 hG7 => ?_)
  have hG8 := gh_mix (v := G7 193 26) hG7
  have hG9 := gh_mix (v := ip_ul G7 193 30 (31 * G7 193 30 + G7 193 26) 193 27) hG8
  refine rg234_0 (rg235_191 (rg234_0 (rg235_199 ?_)))
  have f26 : G7 193 26 = G 193 26 := hG7.2 193 26 (by omega)
  have f27 : ip_ul G7 193 30 (31 * G7 193 30 + G7 193 26) 193 27 = G 193 27 := hG8.2 193 27 (by omega)
  obtain ⟨ht, hNN, hM, hR, hT, hG⟩ := inv_fr hI (F' := F2) (fun x h1 h2 => by rw [hf2 x h2.1, e x h1])
  refine en_l ⟨ht, hNN, hM, hR, hT, ?_, ?_⟩ ?_
  · rw [hG9.2 0 9 (by omega), hG9.2 193 26 (by omega)]
    exact hI.2.2.2.2.2.1
  · rw [hG9.2 0 10 (by omega), hG9.2 193 27 (by omega)]
    exact hI.2.2.2.2.2.2
  · rw [hG9.1, f27, f26, em2, hf2 195 (by decide), hf2 200 (by decide), hf2 201 (by decide), hf2 202 (by decide), ← hI.2.2.2.2.2.1, ← hI.2.2.2.2.2.2]
end SP
