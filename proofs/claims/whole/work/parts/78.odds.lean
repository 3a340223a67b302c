/-! ===== odds ===== -/
def ls9 (h : Nat → Nat) : List Nat → Nat
  | [] => 0
  | a :: l => h a + ls9 h l
theorem ls_append (h : Nat → Nat) : ∀ a b, ls9 h (a ++ b) = ls9 h a + ls9 h b
  | [], b => by rw [List.nil_append, ls9, Nat.zero_add]
  | x :: a, b => by rw [List.cons_append, ls9, ls9, ls_append h a b, Nat.add_assoc]
theorem ls_rev (h : Nat → Nat) : ∀ l, ls9 h l.reverse = ls9 h l
  | [] => rfl
  | x :: l => by rw [List.reverse_cons, ls_append, ls_rev h l, ls9, ls9, ls9, Nat.add_zero, Nat.add_comm]
theorem ls_map (h : Nat → Nat) (g : Nat → Nat) : ∀ l : List Nat, ls9 h (l.map g) = ls9 (fun k => h (g k)) l
  | [] => rfl
  | x :: l => by rw [List.map_cons, ls9, ls9, ls_map h g l]
theorem ls_congr {h g : Nat → Nat} : ∀ l : List Nat, (∀ x, x ∈ l → h x = g x) → ls9 h l = ls9 g l
  | [], _ => rfl
  | x :: l, e => by rw [ls9, ls9, e x List.mem_cons_self, ls_congr l (fun y hy => e y (List.mem_cons_of_mem _ hy))]
def sb9 (m : Nat) : List Nat := (List.range 64).filter (fun k => decide (k &&& m = k))
theorem sb_rev : ∀ m : Fin 64, (sb9 m.val).map (fun k => m.val ^^^ (m.val &&& k)) = (sb9 m.val).reverse := by decide +kernel
/-- the sum of f over the sets below k that lie in m -/
def su9 (m : Nat) (f : Nat → Nat) : Nat → Nat
  | 0 => 0
  | k + 1 => su9 m f k + if k &&& m = k then f k else 0
theorem su_ls {m : Nat} {f : Nat → Nat} : ∀ k, su9 m f k = ls9 f ((List.range k).filter (fun k => decide (k &&& m = k)))
  | 0 => rfl
  | k + 1 => by
    rw [su9, su_ls k, List.range_succ, List.filter_append, ls_append]
    congr 1
    by_cases e : k &&& m = k
    · rw [if_pos e, List.filter_cons_of_pos (by simpa using e), List.filter_nil, ls9, ls9, Nat.add_zero]
    · rw [if_neg e, List.filter_cons_of_neg (by simpa using e), List.filter_nil, ls9]
theorem su_ext {m : Nat} {f : Nat → Nat} : ∀ d, su9 m f (m + 1 + d) = su9 m f (m + 1)
  | 0 => rfl
  | d + 1 => by
    rw [show m + 1 + (d + 1) = (m + 1 + d) + 1 from rfl, su9, if_neg, Nat.add_zero, su_ext d]
    intro q
    have := sub_le q
    omega
theorem su_64 {m : Nat} {f : Nat → Nat} (hm : m < 64) : su9 m f 64 = su9 m f (m + 1) := by
  obtain ⟨d, hd⟩ : ∃ d, 64 = m + 1 + d := ⟨63 - m, by omega⟩
  rw [hd, su_ext]
theorem su_congr {m : Nat} {f g : Nat → Nat} (h : ∀ k, k &&& m = k → f k = g k) : ∀ k, su9 m f k = su9 m g k
  | 0 => rfl
  | k + 1 => by
    rw [su9, su9, su_congr h k]
    split
    · rename_i e
      rw [h k e]
    · rfl
theorem su_flip {m : Nat} {f : Nat → Nat} (hm : m < 64) : su9 m (fun k => f (m ^^^ (m &&& k))) 64 = su9 m f 64 := by
  rw [su_ls, su_ls]
  have := sb_rev ⟨m, hm⟩
  rw [← ls_map f (fun k => m ^^^ (m &&& k))]
  show ls9 f ((sb9 m).map (fun k => m ^^^ (m &&& k))) = ls9 f (sb9 m)
  rw [this, ls_rev]
theorem su_le {m B : Nat} {f : Nat → Nat} (h : ∀ k, f k ≤ B) : ∀ k, su9 m f k ≤ k * B
  | 0 => by rw [Nat.zero_mul]; exact Nat.le_refl 0
  | k + 1 => by
    have h1 := su_le (m := m) h k
    have h2 := h k
    rw [su9, Nat.add_mul, Nat.one_mul]
    split <;> omega
/-- the weight of just x made, of those in m -/
def ow9 (n : Nat) (ch c : Nat → Int32) (m p : Nat) (x : Nat) : Nat := if tw9 n ch c x = true then p ^ nb9 (m ^^^ (m &&& x)) * (10 - p) ^ nb9 x else 0
theorem ow_le {n m p : Nat} {ch c : Nat → Int32} (hp : p ≤ 10) (x : Nat) : ow9 n ch c m p x ≤ 1000000000000 := by
  unfold ow9
  split
  · have h1 := nb_le (m ^^^ (m &&& x))
    have h2 := nb_le x
    have a1 : p ^ nb9 (m ^^^ (m &&& x)) ≤ 10 ^ 6 := Nat.le_trans (Nat.pow_le_pow_left hp _) (Nat.pow_le_pow_right (by decide) h1)
    have a2 : (10 - p) ^ nb9 x ≤ 10 ^ 6 := Nat.le_trans (Nat.pow_le_pow_left (by omega) _) (Nat.pow_le_pow_right (by decide) h2)
    exact Nat.le_trans (Nat.mul_le_mul a1 a2) (by decide)
  · omega
/-! powers, the greatest common divisor -/
theorem xx_sub : ∀ (m k : Fin 64), k.val &&& m.val = k.val → m.val ^^^ (m.val &&& (m.val ^^^ (m.val &&& k.val))) = k.val := by decide +kernel
section SP
variable {t : Nat} {F : ip_F} {Q : Option Value → ip_M → Prop} {n : Nat}
theorem sp138 {G : ip_G} {b e : Nat} (he : e ≤ 6) (h : Q (some (.long (Int64.ofNat (b ^ e)))) (hs t, F, G)) : wp 138 0 [.long (Int64.ofNat b), .float 0, .int (Int32.ofNat e), .float 0, .float 0, .float 0] [] (hs t, F, G) Q := by
  have loop : ∀ d k v1 v4, k + d = e → wp 138 5 [.long (Int64.ofNat b), v1, .int (Int32.ofNat e), .long (Int64.ofNat (b ^ k)), v4, .int (Int32.ofNat k)] [] (hs t, F, G) Q := by
    intro d
    induction d with
    | zero =>
      intro k v1 v4 hk
      obtain rfl : k = e := by omega
      refine rg138_5 ⟨fun _ => h, fun q => ?_⟩
      (simp (disch := omega) only [nn_lit, nn_m1, nn_add, nn_mul, nn_rem, nn_sub, nn_addm1, nn_lt, nn_le, nn_eq, nn_clamp, nn_in, nn_nem1, nn_m1ne, nn_ltm1, nn_m1lt, nn_m1le, nn_lem1, bz_0, bz_n0, not_false_eq_true, not_true_eq_false, true_and, and_true, false_and, and_false, false_implies, true_implies, forall_const, Nat.reduceMul, Nat.reduceAdd, Nat.reduceSub] at q <;> try simp only [nn_bk] at q)
      omega
    | succ d ih =>
      intro k v1 v4 hk
      refine rg138_5 ⟨fun q => ?_, fun _ => ?_⟩
      · (simp (disch := omega) only [nn_lit, nn_m1, nn_add, nn_mul, nn_rem, nn_sub, nn_addm1, nn_lt, nn_le, nn_eq, nn_clamp, nn_in, nn_nem1, nn_m1ne, nn_ltm1, nn_m1lt, nn_m1le, nn_lem1, bz_0, bz_n0, not_false_eq_true, not_true_eq_false, true_and, and_true, false_and, and_false, false_implies, true_implies, forall_const, Nat.reduceMul, Nat.reduceAdd, Nat.reduceSub] at q <;> try simp only [nn_bk] at q)
        omega
      · rw [← Int64.ofNat_mul, ← Nat.pow_succ, show Int32.ofNat k + 1 = Int32.ofNat (k + 1) from nn_add k 1]
        exact ih (k + 1) _ _ (by omega)
  exact rg138_0 (loop e 0 _ _ (by omega))
theorem ln_0 {a : Nat} (ha : a < 2 ^ 63) : Int64.ofNat a = 0 ↔ a = 0 := by
  rw [← Int64.toInt_inj, Int64.toInt_ofNat_of_lt ha]
  have : (0 : Int64).toInt = 0 := rfl
  omega
theorem gcd_s (a b : Nat) : Nat.gcd b (a % b) = Nat.gcd a b := by rw [Nat.gcd_comm a b, Nat.gcd_rec b a, Nat.gcd_comm]
theorem mod_half {b r s : Nat} (hb : b < 2 ^ (s + 1)) (hr0 : 0 < r) (hr : r < b) : b % r < 2 ^ s := by
  have h2 : 2 ^ (s + 1) = 2 * 2 ^ s := by rw [Nat.pow_succ, Nat.mul_comm]
  have h1 := Nat.mod_lt b hr0
  by_cases q : 2 * r ≤ b
  · omega
  · rw [Nat.mod_eq_sub_mod (by omega), Nat.mod_eq_of_lt (by omega)]
    omega
theorem sp139_9 {G : ip_G} {x y : Int64} {g : Nat} (h : Q (some (.long (Int64.ofNat g))) (hs t, F, G)) : ∀ s a b i v1 v3 v5 v7 v9 v10, a < 2 ^ 62 → b < 2 ^ 62 → b < 2 ^ s → i + 2 * s < 999 → Nat.gcd a b = g → wp 139 9 [.long x, v1, .long y, v3, .long (Int64.ofNat a), v5, .long (Int64.ofNat b), v7, .int (Int32.ofNat i), v9, v10] [] (hs t, F, G) Q := by
  have done : ∀ a i v1 v3 v5 v7 v9 v10, i < 1000 → Nat.gcd a 0 = g → wp 139 9 [.long x, v1, .long y, v3, .long (Int64.ofNat a), v5, .long (Int64.ofNat 0), v7, .int (Int32.ofNat i), v9, v10] [] (hs t, F, G) Q := by
    intro a i v1 v3 v5 v7 v9 v10 hi hg
    rw [Nat.gcd_zero_right] at hg
    subst hg
    refine rg139_9 ⟨fun q => ?_, fun _ => ⟨fun _ => rg139_45 h, fun q => absurd ((lg_cmp_eq _ _).mpr rfl) q⟩⟩
    exact absurd ((nn_le (a := 1000) (by omega) (by omega)).mp q) (by omega)
  have step : ∀ a b i v1 v3 v5 v7 v9 v10, a < 2 ^ 62 → b < 2 ^ 62 → i < 1000 → ¬ b = 0 → (∀ v3 v5 v7 v9 v10, wp 139 9 [.long x, v1, .long y, v3, .long (Int64.ofNat b), v5, .long (Int64.ofNat (a % b)), v7, .int (Int32.ofNat (i + 1)), v9, v10] [] (hs t, F, G) Q) → wp 139 9 [.long x, v1, .long y, v3, .long (Int64.ofNat a), v5, .long (Int64.ofNat b), v7, .int (Int32.ofNat i), v9, v10] [] (hs t, F, G) Q := by
    intro a b i v1 v3 v5 v7 v9 v10 ha hb hi h0 hk
    have hn : ¬ Int64.ofNat b = 0 := fun q => h0 ((ln_0 (by omega)).mp q)
    refine rg139_9 ⟨fun q => ?_, fun _ => ⟨fun q => absurd ((lg_cmp_eq _ _).mp q) hn, fun _ => ⟨hn, ?_⟩⟩⟩
    · exact absurd ((nn_le (a := 1000) (by omega) (by omega)).mp q) (by omega)
    · rw [l_mod (by omega) (by omega), show Int32.ofNat i + 1 = Int32.ofNat (i + 1) from nn_add i 1]
      exact hk _ _ _ _ _
  intro s
  induction s with
  | zero =>
    intro a b i v1 v3 v5 v7 v9 v10 ha hb hs hi hg
    obtain rfl : b = 0 := by
      have : (2 : Nat) ^ 0 = 1 := rfl
      omega
    exact done a i _ _ _ _ _ _ (by omega) hg
  | succ s ih =>
    intro a b i v1 v3 v5 v7 v9 v10 ha hb hs hi hg
    by_cases h0 : b = 0
    · subst h0
      exact done a i _ _ _ _ _ _ (by omega) hg
    · refine step a b i _ _ _ _ _ _ ha hb (by omega) h0 (fun v3 v5 v7 v9 v10 => ?_)
      have hr := Nat.mod_lt a (Nat.pos_of_ne_zero h0)
      by_cases h1 : a % b = 0
      · rw [h1]
        refine done b _ _ _ _ _ _ _ (by omega) ?_
        rw [← h1, gcd_s, hg]
      · refine step b (a % b) (i + 1) _ _ _ _ _ _ hb (by omega) (by omega) h1 (fun v3 v5 v7 v9 v10 => ?_)
        refine ih (a % b) (b % (a % b)) (i + 1 + 1) _ _ _ _ _ _ (by omega) ?_ (mod_half hs (Nat.pos_of_ne_zero h1) hr) (by omega) ?_
        · have := Nat.mod_lt b (Nat.pos_of_ne_zero h1)
          omega
        · rw [gcd_s, gcd_s, hg]
theorem sp139 {G : ip_G} {a b : Nat} (ha : a < 2 ^ 62) (hb : b < 2 ^ 62) (h : Q (some (.long (Int64.ofNat (Nat.gcd a b)))) (hs t, F, G)) : wp 139 0 [.long (Int64.ofNat a), .float 0, .long (Int64.ofNat b), .float 0, .float 0, .float 0, .float 0, .float 0, .float 0, .float 0, .float 0] [] (hs t, F, G) Q :=
  rg139_0 (sp139_9 h 62 a b 0 _ _ _ _ _ _ ha hb hb (by omega) rfl)
theorem sp223_6 {G : ip_G} {x y g : Nat} (hx : x < 2 ^ 62) (hy : y < 2 ^ 62) (hg : 0 < g) (h : Q none (hs t, F, ip_ul (ip_ul G 193 26 (Int64.ofNat (x / g))) 193 27 (Int64.ofNat (y / g)))) : ∀ N a b v2 v4 v6 v8 v9 v10, b ≤ N → a < 2 ^ 62 → b < 2 ^ 62 → Nat.gcd a b = g → wp 223 6 [.ref 193, .long (Int64.ofNat x), v2, .long (Int64.ofNat y), v4, .long (Int64.ofNat a), v6, .long (Int64.ofNat b), v8, v9, v10] [] (hs t, F, G) Q := by
  have done : ∀ a v2 v4 v6 v8 v9 v10, a < 2 ^ 62 → Nat.gcd a 0 = g → wp 223 6 [.ref 193, .long (Int64.ofNat x), v2, .long (Int64.ofNat y), v4, .long (Int64.ofNat a), v6, .long (Int64.ofNat 0), v8, v9, v10] [] (hs t, F, G) Q := by
    intro a v2 v4 v6 v8 v9 v10 ha hg1
    rw [Nat.gcd_zero_right] at hg1
    subst hg1
    have hn : ¬ Int64.ofNat a = 0 := fun q => by
      have := (ln_0 (by omega)).mp q
      omega
    refine rg223_6 ⟨fun _ => ⟨hn, hn, ?_⟩, fun q => absurd ((lg_cmp_eq _ _).mpr rfl) q⟩
    rw [← Int64.ofNat_div (by omega) (by omega), ← Int64.ofNat_div (by omega) (by omega)]
    exact h
  intro N
  induction N with
  | zero =>
    intro a b v2 v4 v6 v8 v9 v10 hN ha hb hg1
    obtain rfl : b = 0 := Nat.le_zero.mp hN
    exact done a _ _ _ _ _ _ ha hg1
  | succ N ih =>
    intro a b v2 v4 v6 v8 v9 v10 hN ha hb hg1
    by_cases h0 : b = 0
    · subst h0
      exact done a _ _ _ _ _ _ ha hg1
    · have hn : ¬ Int64.ofNat b = 0 := fun q => h0 ((ln_0 (by omega)).mp q)
      have hr := Nat.mod_lt a (Nat.pos_of_ne_zero h0)
      refine rg223_6 ⟨fun q => absurd ((lg_cmp_eq _ _).mp q) hn, fun _ => ⟨hn, ?_⟩⟩
      rw [l_mod (by omega) (by omega)]
      exact ih b (a % b) _ _ _ _ _ _ (by omega) hb (by omega) (by rw [gcd_s, hg1])
theorem sp223 {G : ip_G} {x y : Nat} (hx : x < 2 ^ 62) (hy : y < 2 ^ 62) (hg : 0 < y) (h : Q none (hs t, F, ip_ul (ip_ul G 193 26 (Int64.ofNat (x / Nat.gcd y x))) 193 27 (Int64.ofNat (y / Nat.gcd y x)))) : wp 223 0 [.ref 193, .long (Int64.ofNat x), .float 0, .long (Int64.ofNat y), .float 0, .float 0, .float 0, .float 0, .float 0, .float 0, .float 0] [] (hs t, F, G) Q :=
  rg223_0 (sp223_6 hx hy (Nat.gcd_pos_of_pos_left _ hg) h y x y _ _ _ _ _ _ (Nat.le_refl _) hx hy (Nat.gcd_comm x y))
/-! the class's sum -/
theorem sp58_29 {G : ip_G} {ch c : Nat → Int32} {m p : Nat} (h4 : 4 ≤ n) (h6 : n ≤ 6) (hm : m < 64) (hp : p ≤ 10) (hW : WR9 n c) : ∀ d k F v5 v7 v8, k + d = 64 → F 4 = c → Mm9 n ch mk0 F → (∀ F', (∀ x, npl x → F' x = F x) → Q (some (.long (Int64.ofNat (su9 m (fun k => ow9 n ch c m p (m ^^^ (m &&& k))) 64)))) (hs t, F', G)) → wp 58 29 [.ref 88, .ref 1, .int (Int32.ofNat p), .int (Int32.ofNat m), .long (Int64.ofNat (su9 m (fun k => ow9 n ch c m p (m ^^^ (m &&& k))) k)), v5, .int (Int32.ofNat k), v7, v8] [] (hs t, F, G) Q := by
  have e64 : ∀ x : Nat, x ≤ 10 → (Int32.ofNat x).toInt64 = Int64.ofNat x := fun x hx => Int32.toInt64_ofNat' (by rw [Int32.toInt_maxValue]; omega)
  intro d
  induction d with
  | zero =>
    intro k F v5 v7 v8 hk hc hM h
    obtain rfl : k = 64 := by omega
    exact rg58_29 ⟨fun _ => h F (fun _ _ => rfl), fun q => absurd q (by decide)⟩
  | succ d ih =>
    intro k F v5 v7 v8 hk hc hM h
    have step : ∀ F1 v5 v7 v8, (∀ x, nmr x → F1 x = F x) → ∀ z, z = Int64.ofNat (su9 m (fun k => ow9 n ch c m p (m ^^^ (m &&& k))) (k + 1)) → wp 58 113 [.ref 88, .ref 1, .int (Int32.ofNat p), .int (Int32.ofNat m), .long z, v5, .int (Int32.ofNat k), v7, v8] [] (hs t, F1, G) Q := by
      intro F1 v5 v7 v8 fr z hz
      refine rg58_113 ?_
      rw [show Int32.ofNat k + 1 = Int32.ofNat (k + 1) from nn_add k 1, hz]
      exact ih (k + 1) F1 _ _ _ (by omega) (by rw [fr 4 (by decide), hc]) ⟨by rw [fr 89 (by decide), hM.1], fun q hq x hx => by rw [fr _ (by unfold nmr; omega)]; exact hM.2.1 q hq x hx, fun x hx => by rw [fr 118 (by decide)]; exact hM.2.2 x hx⟩ (fun F' k1 => h F' (fun x hx => by rw [k1 x hx, fr x hx.2]))
    refine rg58_29 ⟨fun q => ?_, fun _ => ⟨fun q => step F _ _ _ (fun _ _ => rfl) _ ?_, fun q => ?_⟩⟩
    · (simp (disch := omega) only [nn_lit, nn_m1, nn_add, nn_mul, nn_rem, nn_sub, nn_addm1, nn_lt, nn_le, nn_eq, nn_clamp, nn_in, nn_nem1, nn_m1ne, nn_ltm1, nn_m1lt, nn_m1le, nn_lem1, bz_0, bz_n0, not_false_eq_true, not_true_eq_false, true_and, and_true, false_and, and_false, false_implies, true_implies, forall_const, Nat.reduceMul, Nat.reduceAdd, Nat.reduceSub] at q <;> try simp only [nn_bk] at q)
      omega
    · rw [bt_sub ⟨k, by omega⟩ ⟨m, hm⟩] at q
      rw [su9, if_neg q, Nat.add_zero]
    · rw [bt_sub ⟨k, by omega⟩ ⟨m, hm⟩] at q
      rw [bt_dif ⟨m, hm⟩ ⟨k, by omega⟩]
      have hx := xd_lt (k := k) hm
      refine sp25 (ok7_3 t) (by decide) h4 h6 hx (wr_kw h6 (by rw [show F (3 + 1) = c from hc]; exact hW)) mk_0 hM rfl (fun F1 hR hf => rg58_62 (sp236 (by omega) (rg58_69 ?_)))
      rw [e64 p hp]
      refine sp138 (nb_le k) (rg58_72 ?_)
      rw [bt_dif ⟨m, hm⟩ ⟨k, by omega⟩, show (10 : Int32) - Int32.ofNat p = Int32.ofNat (10 - p) from nn_sub (a := 10) hp, e64 _ (by omega)]
      refine sp236 hx (rg58_86 (sp138 (nb_le _) (rg58_89 (sp31 ?_))))
      have hT : (fr9 (F1 117)).isNone = tw9 n ch c (m ^^^ (m &&& k)) := by
        rw [fr_agree (g := F1 117) (g' := gn9 n ch (F 4) (m ^^^ (m &&& k)) mk0) (fun x hx => hR.2 x hx), hc]
        rfl
      rw [hT]
      have exx : m ^^^ (m &&& (m ^^^ (m &&& k))) = k := xx_sub ⟨m, hm⟩ ⟨k, by omega⟩ q
      refine rg58_101 ⟨fun e => rg58_110 (step F1 _ _ _ hf _ ?_), fun e => rg58_110 (step F1 _ _ _ hf _ ?_)⟩
      · rw [su9, if_pos q, ow9, if_neg (bz_0.mp e), Int64.ofNat_add]
        rfl
      · rw [su9, if_pos q, ow9, if_pos (bz_n0.mp e), exx, Int64.ofNat_add, Int64.ofNat_mul]
/-! the reference's -/
theorem cn_n {n k : Nat} (hn : n ≤ 6) (hk : k < 64) (h : ∀ r, n ≤ r → r < 6 → k.testBit r = false) : cn9 (fun r => k.testBit r) n = nb9 k := by
  rw [← cn_bits ⟨k, hk⟩]
  obtain ⟨d, hd⟩ : ∃ d, 6 = n + d := ⟨6 - n, by omega⟩
  show _ = cn9 (fun r => k.testBit r) 6
  rw [hd]
  exact (cn_ext d (fun r h1 h2 => h r h1 (by omega))).symm
def wt9 (m k p : Nat) : Nat → Nat
  | 0 => 1
  | r + 1 => wt9 m k p r * if m.testBit r = true then (if k.testBit r = true then 10 - p else p) else 1
theorem wt_eq {m k p : Nat} (h : ∀ r, k.testBit r = true → m.testBit r = true) : ∀ r, wt9 m k p r = p ^ cn9 (fun r => m.testBit r && !k.testBit r) r * (10 - p) ^ cn9 (fun r => k.testBit r) r
  | 0 => rfl
  | r + 1 => by
    rw [wt9, wt_eq h r, cn9, cn9]
    cases hk : k.testBit r with
    | true =>
      have hm := h r hk
      rw [hm]
      simp only [if_true, Bool.not_true, Bool.and_false, Bool.false_eq_true, if_false, Nat.add_zero]
      rw [Nat.pow_succ, Nat.mul_assoc]
    | false =>
      cases hm : m.testBit r with
      | true =>
        simp only [if_true, Bool.not_false, Bool.and_true, Bool.false_eq_true, if_false, Nat.add_zero]
        rw [Nat.pow_succ, Nat.mul_right_comm]
      | false =>
        simp only [Bool.false_and, Bool.false_eq_true, if_false, Nat.add_zero, Nat.mul_one]
theorem sp224_97 {F : ip_F} {G : ip_G} {m k p : Nat} {b3 b5 : Int64} {v4 v6 : Value} (hn : n ≤ 6) (hb : F 193 1 = Int32.ofNat n) (hm : m < 64) (hk : k < 64) (hp : p ≤ 10) (h : ∀ v9 a10, wp 224 155 [.ref 193, .int (Int32.ofNat p), .int (Int32.ofNat m), .long (b3 + Int64.ofNat (wt9 m k p n)), .float 0, .long b5, v6, .int (Int32.ofNat k), .long (Int64.ofNat (wt9 m k p n)), v9, .int a10] [] (hs t, F, G) Q) : ∀ d r v9, r + d = n → wp 224 97 [.ref 193, .int (Int32.ofNat p), .int (Int32.ofNat m), .long b3, v4, .long b5, v6, .int (Int32.ofNat k), .long (Int64.ofNat (wt9 m k p r)), v9, .int (Int32.ofNat r)] [] (hs t, F, G) Q := by
  have e64 : ∀ x : Nat, x ≤ 10 → (Int32.ofNat x).toInt64 = Int64.ofNat x := fun x hx => Int32.toInt64_ofNat' (by rw [Int32.toInt_maxValue]; omega)
  intro d
  induction d with
  | zero =>
    intro r v9 hr
    obtain rfl : r = n := by omega
    refine rg224_97 ⟨fun _ => h _ _, fun q => ?_⟩
    rw [hb] at q
    (simp (disch := omega) only [nn_lit, nn_m1, nn_add, nn_mul, nn_rem, nn_sub, nn_addm1, nn_lt, nn_le, nn_eq, nn_clamp, nn_in, nn_nem1, nn_m1ne, nn_ltm1, nn_m1lt, nn_m1le, nn_lem1, bz_0, bz_n0, not_false_eq_true, not_true_eq_false, true_and, and_true, false_and, and_false, false_implies, true_implies, forall_const, Nat.reduceMul, Nat.reduceAdd, Nat.reduceSub] at q <;> try simp only [nn_bk] at q)
    omega
  | succ d ih =>
    intro r v9 hr
    have hbm := bt_has ⟨m, hm⟩ ⟨r, by omega⟩
    have hbk := bt_has ⟨k, hk⟩ ⟨r, by omega⟩
    have fin : ∀ z : Nat, z = (if m.testBit r = true then (if k.testBit r = true then 10 - p else p) else 1) → wp 224 141 [.ref 193, .int (Int32.ofNat p), .int (Int32.ofNat m), .long b3, v4, .long b5, v6, .int (Int32.ofNat k), .long (Int64.ofNat (wt9 m k p r)), v9, .int (Int32.ofNat r)] [.long (Int64.ofNat z), .long (Int64.ofNat (wt9 m k p r))] (hs t, F, G) Q := by
      intro z hz
      refine rg224_141 ?_
      have := ih (r + 1) (.float 0) (by omega)
      rw [wt9, ← hz, Int64.ofNat_mul] at this
      rw [show Int32.ofNat r + 1 = Int32.ofNat (r + 1) from nn_add r 1]
      exact this
    refine rg224_97 ⟨fun q => ?_, fun _ => sp144 (rg224_114 ⟨fun e => sp144 (rg224_128 ⟨fun e1 => ?_, fun e1 => ?_⟩), fun e => fin 1 ?_⟩)⟩
    · rw [hb] at q
      (simp (disch := omega) only [nn_lit, nn_m1, nn_add, nn_mul, nn_rem, nn_sub, nn_addm1, nn_lt, nn_le, nn_eq, nn_clamp, nn_in, nn_nem1, nn_m1ne, nn_ltm1, nn_m1lt, nn_m1le, nn_lem1, bz_0, bz_n0, not_false_eq_true, not_true_eq_false, true_and, and_true, false_and, and_false, false_implies, true_implies, forall_const, Nat.reduceMul, Nat.reduceAdd, Nat.reduceSub] at q <;> try simp only [nn_bk] at q)
      omega
    · rw [e64 p hp]
      refine fin p ?_
      rw [if_pos (hbm.mp (bz_n0.mp e)), if_neg (fun q => bz_0.mp e1 (hbk.mpr q))]
    · rw [show (10 : Int32) - Int32.ofNat p = Int32.ofNat (10 - p) from nn_sub (a := 10) hp, e64 _ (by omega)]
      refine fin _ ?_
      rw [if_pos (hbm.mp (bz_n0.mp e)), if_pos (hbk.mp (bz_n0.mp e1))]
    · rw [if_neg (fun q => bz_0.mp e (hbm.mpr q))]
theorem sp224_67 {G : ip_G} {ch c : Nat → Int32} {m p : Nat} {b5 : Int64} (h4 : 4 ≤ n) (h6 : n ≤ 6) (hm : m < 64) (hmn : ∀ r, n ≤ r → m.testBit r = false) (hp : p ≤ 10) (hk : KW9 n c) : ∀ d k F v4 v6 v8 v9 v10, k + d = m + 1 → F 193 1 = Int32.ofNat n → F 195 = ch → mr9 F = c → (∀ F' v4 v6 a7 v8 v9 v10, (∀ x, nmm x → F' x = F x) → wp 223 0 [.ref 193, .long (Int64.ofNat (su9 m (ow9 n ch c m p) (m + 1))), .float 0, .long b5, .float 0, .float 0, .float 0, .float 0, .float 0, .float 0, .float 0] [] (hs t, F', G) (fun v M' => wp 224 168 [.ref 193, .int (Int32.ofNat p), .int (Int32.ofNat m), .long (Int64.ofNat (su9 m (ow9 n ch c m p) (m + 1))), v4, .long b5, v6, .int a7, v8, v9, v10] (v.toList ++ []) M' Q)) → wp 224 67 [.ref 193, .int (Int32.ofNat p), .int (Int32.ofNat m), .long (Int64.ofNat (su9 m (ow9 n ch c m p) k)), v4, .long b5, v6, .int (Int32.ofNat k), v8, v9, v10] [] (hs t, F, G) Q := by
  intro d
  induction d with
  | zero =>
    intro k F v4 v6 v8 v9 v10 hk' hb hch hc h
    obtain rfl : k = m + 1 := by omega
    refine rg224_67 ⟨fun _ => h F _ _ _ _ _ _ (fun _ _ => rfl), fun q => ?_⟩
    (simp (disch := omega) only [nn_lit, nn_m1, nn_add, nn_mul, nn_rem, nn_sub, nn_addm1, nn_lt, nn_le, nn_eq, nn_clamp, nn_in, nn_nem1, nn_m1ne, nn_ltm1, nn_m1lt, nn_m1le, nn_lem1, bz_0, bz_n0, not_false_eq_true, not_true_eq_false, true_and, and_true, false_and, and_false, false_implies, true_implies, forall_const, Nat.reduceMul, Nat.reduceAdd, Nat.reduceSub] at q <;> try simp only [nn_bk] at q)
    omega
  | succ d ih =>
    intro k F v4 v6 v8 v9 v10 hk' hb hch hc h
    have step : ∀ F1 v4 v6 v8 v9 v10, (∀ x, nmm x → F1 x = F x) → ∀ z, z = Int64.ofNat (su9 m (ow9 n ch c m p) (k + 1)) → wp 224 155 [.ref 193, .int (Int32.ofNat p), .int (Int32.ofNat m), .long z, v4, .long b5, v6, .int (Int32.ofNat k), v8, v9, v10] [] (hs t, F1, G) Q := by
      intro F1 v4 v6 v8 v9 v10 fr z hz
      refine rg224_155 ?_
      rw [show Int32.ofNat k + 1 = Int32.ofNat (k + 1) from nn_add k 1, hz]
      exact ih (k + 1) F1 _ _ _ _ _ (by omega) (by rw [fr 193 (by decide), hb]) (by rw [fr 195 (by decide), hch]) (by rw [mr_eq (fun x h1 h2 => fr x ⟨h1, h2⟩), hc]) (fun F' v4 v6 a7 v8 v9 v10 k1 => h F' v4 v6 a7 v8 v9 v10 (fun x hx => by rw [k1 x hx, fr x hx]))
    refine rg224_67 ⟨fun q => ?_, fun _ => ⟨fun q => step F _ _ _ _ _ (fun _ _ => rfl) _ ?_, fun q => ?_⟩⟩
    · (simp (disch := omega) only [nn_lit, nn_m1, nn_add, nn_mul, nn_rem, nn_sub, nn_addm1, nn_lt, nn_le, nn_eq, nn_clamp, nn_in, nn_nem1, nn_m1ne, nn_ltm1, nn_m1lt, nn_m1le, nn_lem1, bz_0, bz_n0, not_false_eq_true, not_true_eq_false, true_and, and_true, false_and, and_false, false_implies, true_implies, forall_const, Nat.reduceMul, Nat.reduceAdd, Nat.reduceSub] at q <;> try simp only [nn_bk] at q)
      omega
    · rw [bt_sub ⟨k, by omega⟩ ⟨m, hm⟩] at q
      rw [su9, if_neg q, Nat.add_zero]
    · rw [bt_sub ⟨k, by omega⟩ ⟨m, hm⟩] at q
      refine sp185 (ch := ch) (c := c) h4 h6 (by omega) hk hb hch hc (fun F1 hf => rg224_88 ⟨fun e => step F1 _ _ _ _ _ hf _ ?_, fun e => ?_⟩)
      · have e : ¬ tw9 n ch c k = true := bz_0.mp e
        rw [su9, if_pos q, ow9, if_neg e, Nat.add_zero]
      · have e : tw9 n ch c k = true := bz_n0.mp e
        have hsub : ∀ r, k.testBit r = true → m.testBit r = true := fun r hr => by
          have q' : k &&& m = k := q
          rw [← q', Nat.testBit_and, Bool.and_eq_true] at hr
          exact hr.2
        have e1 : wt9 m k p n = p ^ nb9 (m ^^^ (m &&& k)) * (10 - p) ^ nb9 k := by
          rw [wt_eq hsub n]
          congr 2
          · rw [← cn_n h6 (xd_lt hm) (fun r h1 h2 => by rw [Nat.testBit_xor, Nat.testBit_and, hmn r h1]; rfl)]
            refine cn_congr n (fun r _ => ?_)
            rw [Nat.testBit_xor, Nat.testBit_and]
            cases m.testBit r <;> cases k.testBit r <;> rfl
          · refine cn_n h6 (by omega) (fun r h1 h2 => ?_)
            cases hkr : k.testBit r with
            | false => rfl
            | true => exact absurd (hsub r hkr) (by rw [hmn r h1]; exact Bool.false_ne_true)
        refine sp224_97 (n := n) h6 (by rw [hf 193 (by decide), hb]) hm (by omega) hp (fun v9 a10 => step F1 _ _ _ _ _ hf _ ?_) n 0 _ (by omega)
        rw [su9, if_pos q, ow9, if_pos e, e1, Int64.ofNat_add]
theorem sp224_28 {F : ip_F} {G : ip_G} {m p : Nat} {b3 : Int64} {v8 v9 v10 : Value} (hn : n ≤ 6) (hb : F 193 1 = Int32.ofNat n) (hm : m < 64) (h : ∀ v4 v6, wp 224 67 [.ref 193, .int (Int32.ofNat p), .int (Int32.ofNat m), .long b3, v4, .long (Int64.ofNat (10 ^ cn9 (fun r => m.testBit r) n)), v6, .int 0, v8, v9, v10] [] (hs t, F, G) Q) : ∀ d r v4 v6, r + d = n → wp 224 28 [.ref 193, .int (Int32.ofNat p), .int (Int32.ofNat m), .long b3, v4, .long (Int64.ofNat (10 ^ cn9 (fun r => m.testBit r) r)), v6, .int (Int32.ofNat r), v8, v9, v10] [] (hs t, F, G) Q := by
  intro d
  induction d with
  | zero =>
    intro r v4 v6 hr
    obtain rfl : r = n := by omega
    refine rg224_28 ⟨fun _ => h _ _, fun q => ?_⟩
    rw [hb] at q
    (simp (disch := omega) only [nn_lit, nn_m1, nn_add, nn_mul, nn_rem, nn_sub, nn_addm1, nn_lt, nn_le, nn_eq, nn_clamp, nn_in, nn_nem1, nn_m1ne, nn_ltm1, nn_m1lt, nn_m1le, nn_lem1, bz_0, bz_n0, not_false_eq_true, not_true_eq_false, true_and, and_true, false_and, and_false, false_implies, true_implies, forall_const, Nat.reduceMul, Nat.reduceAdd, Nat.reduceSub] at q <;> try simp only [nn_bk] at q)
    omega
  | succ d ih =>
    intro r v4 v6 hr
    have hbm := bt_has ⟨m, hm⟩ ⟨r, by omega⟩
    refine rg224_28 ⟨fun q => ?_, fun _ => sp144 (rg224_45 ⟨fun e => rg224_55 ?_, fun e => rg224_55 ?_⟩)⟩
    · rw [hb] at q
      (simp (disch := omega) only [nn_lit, nn_m1, nn_add, nn_mul, nn_rem, nn_sub, nn_addm1, nn_lt, nn_le, nn_eq, nn_clamp, nn_in, nn_nem1, nn_m1ne, nn_ltm1, nn_m1lt, nn_m1le, nn_lem1, bz_0, bz_n0, not_false_eq_true, not_true_eq_false, true_and, and_true, false_and, and_false, false_implies, true_implies, forall_const, Nat.reduceMul, Nat.reduceAdd, Nat.reduceSub] at q <;> try simp only [nn_bk] at q)
      omega
    · have := ih (r + 1) (ip_unl v4) (.float 0) (by omega)
      rw [cn9, if_neg (fun q => bz_0.mp e (hbm.mpr q)), Nat.add_zero] at this
      rw [show Int32.ofNat r + 1 = Int32.ofNat (r + 1) from nn_add r 1, show Int64.ofNat (10 ^ cn9 (fun r => m.testBit r) r) * 1 = Int64.ofNat (10 ^ cn9 (fun r => m.testBit r) r) from Int64.mul_one _]
      exact this
    · have := ih (r + 1) (ip_unl v4) (.float 0) (by omega)
      rw [cn9, if_pos (hbm.mp (bz_n0.mp e)), Nat.pow_succ, Int64.ofNat_mul] at this
      rw [show Int32.ofNat r + 1 = Int32.ofNat (r + 1) from nn_add r 1]
      exact this
theorem pr_odds {F : ip_F} {G : ip_G} {a : Int32} (hI : INV t F G) : wp 121 0 [.ref 0, .int a, .float 0, .float 0, .float 0, .float 0, .float 0, .float 0] [] (hs t, F, G) (fun v M => wp 224 0 [.ref 193, .int a, .float 0, .float 0, .float 0, .float 0, .float 0, .float 0, .float 0, .float 0, .float 0] [] M (ENi v)) := by
  obtain ⟨n, ⟨h4, h6, b1, b2, b3⟩, hP, -⟩ := hI.2.1
  refine ck121 (fun ha => ?_) (fun hn => ?_)
  · obtain ⟨p, hp, rfl⟩ := nn_bet (b := 10) (by omega) ha.1 ha.2
    have hm : bf9 (mks (F 4)) 6 < 64 := bf_lt _ 6 (by omega)
    refine rg121_7 ⟨fun _ => sp79 (ok7_3 t) (rg121_30 (sp236 hm (rg121_33 (sp138 (b := 10) (nb_le _) (rg121_36 (rg58_0 (sp79 (ok7_3 t) (rg58_7 ?_)))))))), fun q => absurd q (by decide)⟩
    rw [b1]
    refine sp22 (a := 2) rfl (by decide) h4 h6 rfl (fun F1 hM hf => rg58_26 (sp58_29 (m := bf9 (mks (F 4)) 6) (c := F 4) h4 h6 hm hp hP.2 64 0 F1 _ _ _ rfl (hf 4 (by decide)) ⟨hM.1, hM.2.1, hM.2.2.2⟩ (fun F2 k1 => rg121_49 ?_)))
    have e : ∀ x, nqc x → F2 x = F x := fun x hx => by rw [k1 x (npl_q hx), hf x (npl_q hx).1]
    have m1 : mr9 F2 = mr9 F := mr_q (fun x hx _ => e x hx)
    have hP2 : NP9 n F2 := np_fr hP (e 4 (by decide)) m1
    generalize hM1 : bf9 (mks (F 4)) 6 = m at *
    have hM2 : bf9 (mks (mr9 F2)) n = m := by rw [m1, ← md_eq h6 hP.2 hP.1, show F (3 + 1) = F 4 from rfl] at *; exact hM1
    rw [su_flip (f := ow9 n (F 2) (F 4) m p) hm]
    have hsum : su9 m (ow9 n (F 2) (F 4) m p) 64 < 2 ^ 62 := by
      have := su_le (m := m) (ow_le (n := n) (m := m) (ch := F 2) (c := F 4) hp) 64
      omega
    have hwh : 10 ^ nb9 m < 2 ^ 62 := by
      have h1 := nb_le m
      have : 10 ^ nb9 m ≤ 10 ^ 6 := Nat.pow_le_pow_right (by decide) h1
      omega
    have hw0 : 0 < 10 ^ nb9 m := Nat.pow_pos (by decide)
    have hg0 : 0 < Nat.gcd (10 ^ nb9 m) (su9 m (ow9 n (F 2) (F 4) m p) 64) := Nat.gcd_pos_of_pos_left _ hw0
    have hgl : Nat.gcd (10 ^ nb9 m) (su9 m (ow9 n (F 2) (F 4) m p) 64) < 2 ^ 62 := Nat.lt_of_le_of_lt (Nat.gcd_le_left _ hw0) hwh
    refine sp139 hwh hsum (rg121_57 ?_)
    generalize hg : Nat.gcd (10 ^ nb9 m) (su9 m (ow9 n (F 2) (F 4) m p) 64) = g at *
    have hgn : ¬ Int64.ofNat g = 0 := fun q => by
      have := (ln_0 (by omega)).mp q
      omega
    have hgp : ¬ lg_cmp (Int64.ofNat g) 0 ≤ 0 := fun q => by
      rw [lg_cmp_le, Int64.le_iff_toInt_le, Int64.toInt_ofNat_of_lt (by omega)] at q
      have : (0 : Int64).toInt = 0 := rfl
      omega
    refine ⟨fun q => absurd q hgp, fun _ => ⟨hgn, rg121_77 ⟨fun q => absurd q hgp, fun _ => ⟨hgn, rg121_96 ?_⟩⟩⟩⟩
    rw [← Int64.ofNat_div (by omega) (by omega), ← Int64.ofNat_div (by omega) (by omega)]
    refine ck224 (fun _ => ?_) (fun hn => absurd ha hn)
    refine rg224_7 ⟨fun _ => sp175 h6 (by rw [e 193 (by decide), b2]) (kd_of h6 hP2) (rg224_19 ?_), fun q => absurd q (by decide)⟩
    rw [hM2]
    have hmn : ∀ r, n ≤ r → m.testBit r = false := fun r hr => by rw [← hM2, bf_testBit _ n h6, decide_eq_false (by omega), Bool.false_and]
    refine sp224_28 (n := n) h6 (by rw [e 193 (by decide), b2]) hm (fun v4 v6 => ?_) n 0 _ _ (by omega)
    rw [cn_n h6 hm (fun r h1 _ => hmn r h1)]
    refine sp224_67 (ch := F2 195) (c := mr9 F2) h4 h6 hm hmn hp (kw_m h6 hP2) (m + 1) 0 F2 _ _ _ _ _ (by omega) (by rw [e 193 (by decide), b2]) rfl rfl (fun F3 v4 v6 a7 v8 v9 v10 k3 => ?_)
    have eow : ow9 n (F2 195) (mr9 F2) m p = ow9 n (F 2) (F 4) m p := by
      funext x
      unfold ow9
      rw [m1, e 195 (by decide), tw_congr h6 hP.1 b3]
    rw [eow, ← su_64 hm]
    refine sp223 hsum hwh hw0 (rg224_168 ?_)
    rw [hg]
    obtain ⟨ht, hNN, hMM, hR, hT, hG⟩ := inv_fr hI (F' := F3) (fun x h1 h2 => by rw [k3 x ⟨h2.1, h2.2.1⟩, e x h1])
    refine en_i ⟨ht, hNN, hMM, hR, hT, ?_, ?_⟩ rfl
    · rfl
    · rfl
  · exact ck224 (fun ha => absurd ha hn) (fun _ => en_bad hI)
end SP
