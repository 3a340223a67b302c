/-! ===== sets of ropes as bits ===== -/
def nb9 (n : Nat) : Nat := n % 2 + n / 2 % 2 + n / 4 % 2 + n / 8 % 2 + n / 16 % 2 + n / 32 % 2
def bf9 (P : Nat → Bool) : Nat → Nat
  | 0 => 0
  | r + 1 => bf9 P r ||| (if P r then 1 <<< r else 0)
theorem bt_or : ∀ a b : Fin 64, Int32.ofNat a ||| Int32.ofNat b = Int32.ofNat (a.val ||| b.val) := by decide +kernel
theorem bt_and : ∀ a b : Fin 64, Int32.ofNat a &&& Int32.ofNat b = Int32.ofNat (a.val &&& b.val) := by decide +kernel
theorem bt_has : ∀ (a : Fin 64) (r : Fin 6), ((Int32.ofNat a >>> (Int32.ofNat r &&& 31)) &&& 1 = 1) ↔ a.val.testBit r = true := by decide +kernel
theorem bt_shl : ∀ (r : Fin 6), (1 : Int32) <<< (Int32.ofNat r &&& 31) = Int32.ofNat (1 <<< r.val) := by decide +kernel
theorem bt_sub : ∀ a b : Fin 64, (Int32.ofNat a &&& (Int32.ofNat b ^^^ -1) = 0) ↔ a.val &&& b.val = a.val := by decide +kernel
theorem bt_dif : ∀ a b : Fin 64, Int32.ofNat a &&& (Int32.ofNat b ^^^ -1) = Int32.ofNat (a.val ^^^ (a.val &&& b.val)) := by decide +kernel
theorem bt_lt (a b : Nat) (ha : a < 64) (hb : b < 64) : a ||| b < 64 := Nat.or_lt_two_pow (n := 6) ha hb
theorem bf_lt (P : Nat → Bool) : ∀ r, r ≤ 6 → bf9 P r < 64
  | 0, _ => Nat.zero_lt_succ 63
  | r + 1, h => by
    refine bt_lt _ _ (bf_lt P r (by omega)) ?_
    split
    · have : ∀ r : Fin 6, 1 <<< r.val < 64 := by decide
      exact this ⟨r, by omega⟩
    · decide
theorem bf_step {P : Nat → Bool} {r : Nat} (h : r < 6) {z : Int32} (hz : z = if P r then (1 : Int32) <<< (Int32.ofNat r &&& 31) else 0) : Int32.ofNat (bf9 P r) ||| z = Int32.ofNat (bf9 P (r + 1)) := by
  have h1 : ∀ r : Fin 6, 1 <<< r.val < 64 := by decide
  have e : z = Int32.ofNat (if P r then 1 <<< r else 0) := by
    rw [hz]
    split
    · exact bt_shl ⟨r, h⟩
    · rfl
  rw [e]
  have h2 : (if P r then 1 <<< r else 0) < 64 := by
    split
    · exact h1 ⟨r, h⟩
    · decide
  exact bt_or ⟨_, bf_lt P r (by omega)⟩ ⟨_, h2⟩
theorem bf_congr {P P' : Nat → Bool} : ∀ n, (∀ r, r < n → P r = P' r) → bf9 P n = bf9 P' n
  | 0, _ => rfl
  | n + 1, h => by
    unfold bf9
    rw [bf_congr n (fun r hr => h r (by omega)), h n (by omega)]
theorem bf_ext {P : Nat → Bool} {n : Nat} : ∀ d, (∀ r, n ≤ r → r < n + d → P r = false) → bf9 P (n + d) = bf9 P n
  | 0, _ => rfl
  | d + 1, h => by
    rw [show n + (d + 1) = (n + d) + 1 from rfl, bf9]
    rw [h (n + d) (by omega) (by omega), bf_ext d (fun r h1 h2 => h r h1 (by omega))]
    simp
theorem bf_testBit (P : Nat → Bool) : ∀ n, n ≤ 6 → ∀ r, (bf9 P n).testBit r = (decide (r < n) && P r)
  | 0, _, r => by simp [bf9]
  | n + 1, hn, r => by
    unfold bf9
    rw [Nat.testBit_or, bf_testBit P n (by omega) r]
    by_cases hP : P n = true
    · rw [if_pos hP, Nat.one_shiftLeft, Nat.testBit_two_pow]
      by_cases hr : r = n
      · subst hr
        simp [hP]
      · have : ¬ n = r := fun q => hr q.symm
        by_cases h1 : r < n
        · simp [h1, this, show r < n + 1 by omega]
        · simp [h1, this, show ¬ r < n + 1 by omega]
    · rw [if_neg hP]
      by_cases hr : r = n
      · subst hr
        simp [hP]
      · by_cases h1 : r < n
        · simp [h1, show r < n + 1 by omega]
        · simp [h1, show ¬ r < n + 1 by omega]
section SP
variable {t : Nat} {F : ip_F} {G : ip_G} {Q : Option Value → ip_M → Prop}
theorem sp147 {n : Nat} (hn : n < 64) (h : Q (some (.int (Int32.ofNat (nb9 n)))) (hs t, F, G)) : wp 147 0 [.int (Int32.ofNat n), .float 0, .float 0] [] (hs t, F, G) Q := by
  refine rg147_0 ?_
  iterate 6 refine rg147_4 ⟨fun q => absurd q (by decide), fun _ => ?_⟩
  refine rg147_4 ⟨fun _ => ?_, fun q => absurd q (by decide)⟩
  have key : ∀ n : Fin 64, ((((((0 : Int32) + ((Int32.ofNat n >>> ((0 : Int32) &&& 31)) &&& 1)) + ((Int32.ofNat n >>> (((0 : Int32) + 1) &&& 31)) &&& 1)) + ((Int32.ofNat n >>> (((0 : Int32) + 1 + 1) &&& 31)) &&& 1)) + ((Int32.ofNat n >>> (((0 : Int32) + 1 + 1 + 1) &&& 31)) &&& 1)) + ((Int32.ofNat n >>> (((0 : Int32) + 1 + 1 + 1 + 1) &&& 31)) &&& 1)) + ((Int32.ofNat n >>> (((0 : Int32) + 1 + 1 + 1 + 1 + 1) &&& 31)) &&& 1) = Int32.ofNat (nb9 n) := by decide +kernel
  rw [key ⟨n, hn⟩]
  exact h
theorem sp236 {n : Nat} (hn : n < 64) (h : Q (some (.int (Int32.ofNat (nb9 n)))) (hs t, F, G)) : wp 236 0 [.int (Int32.ofNat n)] [] (hs t, F, G) Q := by
  refine rg236_0 ?_
  have key : ∀ n : Fin 64, (((((((((Int32.ofNat n) - (((Int32.ofNat n).toUInt32 >>> ((1 : Int32).toUInt32 &&& Int32.toUInt32 31)).toInt32 &&& (1431655765 : Int32))) &&& (858993459 : Int32)) + ((((Int32.ofNat n) - (((Int32.ofNat n).toUInt32 >>> ((1 : Int32).toUInt32 &&& Int32.toUInt32 31)).toInt32 &&& (1431655765 : Int32))).toUInt32 >>> ((2 : Int32).toUInt32 &&& Int32.toUInt32 31)).toInt32 &&& (858993459 : Int32))) + (((((Int32.ofNat n) - (((Int32.ofNat n).toUInt32 >>> ((1 : Int32).toUInt32 &&& Int32.toUInt32 31)).toInt32 &&& (1431655765 : Int32))) &&& (858993459 : Int32)) + ((((Int32.ofNat n) - (((Int32.ofNat n).toUInt32 >>> ((1 : Int32).toUInt32 &&& Int32.toUInt32 31)).toInt32 &&& (1431655765 : Int32))).toUInt32 >>> ((2 : Int32).toUInt32 &&& Int32.toUInt32 31)).toInt32 &&& (858993459 : Int32))).toUInt32 >>> ((4 : Int32).toUInt32 &&& Int32.toUInt32 31)).toInt32) &&& (252645135 : Int32)) + (((((((Int32.ofNat n) - (((Int32.ofNat n).toUInt32 >>> ((1 : Int32).toUInt32 &&& Int32.toUInt32 31)).toInt32 &&& (1431655765 : Int32))) &&& (858993459 : Int32)) + ((((Int32.ofNat n) - (((Int32.ofNat n).toUInt32 >>> ((1 : Int32).toUInt32 &&& Int32.toUInt32 31)).toInt32 &&& (1431655765 : Int32))).toUInt32 >>> ((2 : Int32).toUInt32 &&& Int32.toUInt32 31)).toInt32 &&& (858993459 : Int32))) + (((((Int32.ofNat n) - (((Int32.ofNat n).toUInt32 >>> ((1 : Int32).toUInt32 &&& Int32.toUInt32 31)).toInt32 &&& (1431655765 : Int32))) &&& (858993459 : Int32)) + ((((Int32.ofNat n) - (((Int32.ofNat n).toUInt32 >>> ((1 : Int32).toUInt32 &&& Int32.toUInt32 31)).toInt32 &&& (1431655765 : Int32))).toUInt32 >>> ((2 : Int32).toUInt32 &&& Int32.toUInt32 31)).toInt32 &&& (858993459 : Int32))).toUInt32 >>> ((4 : Int32).toUInt32 &&& Int32.toUInt32 31)).toInt32) &&& (252645135 : Int32)).toUInt32 >>> ((8 : Int32).toUInt32 &&& Int32.toUInt32 31)).toInt32) + ((((((((Int32.ofNat n) - (((Int32.ofNat n).toUInt32 >>> ((1 : Int32).toUInt32 &&& Int32.toUInt32 31)).toInt32 &&& (1431655765 : Int32))) &&& (858993459 : Int32)) + ((((Int32.ofNat n) - (((Int32.ofNat n).toUInt32 >>> ((1 : Int32).toUInt32 &&& Int32.toUInt32 31)).toInt32 &&& (1431655765 : Int32))).toUInt32 >>> ((2 : Int32).toUInt32 &&& Int32.toUInt32 31)).toInt32 &&& (858993459 : Int32))) + (((((Int32.ofNat n) - (((Int32.ofNat n).toUInt32 >>> ((1 : Int32).toUInt32 &&& Int32.toUInt32 31)).toInt32 &&& (1431655765 : Int32))) &&& (858993459 : Int32)) + ((((Int32.ofNat n) - (((Int32.ofNat n).toUInt32 >>> ((1 : Int32).toUInt32 &&& Int32.toUInt32 31)).toInt32 &&& (1431655765 : Int32))).toUInt32 >>> ((2 : Int32).toUInt32 &&& Int32.toUInt32 31)).toInt32 &&& (858993459 : Int32))).toUInt32 >>> ((4 : Int32).toUInt32 &&& Int32.toUInt32 31)).toInt32) &&& (252645135 : Int32)) + (((((((Int32.ofNat n) - (((Int32.ofNat n).toUInt32 >>> ((1 : Int32).toUInt32 &&& Int32.toUInt32 31)).toInt32 &&& (1431655765 : Int32))) &&& (858993459 : Int32)) + ((((Int32.ofNat n) - (((Int32.ofNat n).toUInt32 >>> ((1 : Int32).toUInt32 &&& Int32.toUInt32 31)).toInt32 &&& (1431655765 : Int32))).toUInt32 >>> ((2 : Int32).toUInt32 &&& Int32.toUInt32 31)).toInt32 &&& (858993459 : Int32))) + (((((Int32.ofNat n) - (((Int32.ofNat n).toUInt32 >>> ((1 : Int32).toUInt32 &&& Int32.toUInt32 31)).toInt32 &&& (1431655765 : Int32))) &&& (858993459 : Int32)) + ((((Int32.ofNat n) - (((Int32.ofNat n).toUInt32 >>> ((1 : Int32).toUInt32 &&& Int32.toUInt32 31)).toInt32 &&& (1431655765 : Int32))).toUInt32 >>> ((2 : Int32).toUInt32 &&& Int32.toUInt32 31)).toInt32 &&& (858993459 : Int32))).toUInt32 >>> ((4 : Int32).toUInt32 &&& Int32.toUInt32 31)).toInt32) &&& (252645135 : Int32)).toUInt32 >>> ((8 : Int32).toUInt32 &&& Int32.toUInt32 31)).toInt32).toUInt32 >>> ((16 : Int32).toUInt32 &&& Int32.toUInt32 31)).toInt32) &&& (63 : Int32)) = Int32.ofNat (nb9 n) := by decide +kernel
  rw [key ⟨n, hn⟩]
  exact h
variable {k : Nat}
theorem sp64 (hk : ok7 t k) {g r : Nat} (hg : g ≤ 18) (hr : r < 6) (h : Q (some (.int (F (k + 1) (g + r)))) (hs t, F, G)) : wp 64 0 [.ref k, .int (Int32.ofNat g), .int (Int32.ofNat r)] [] (hs t, F, G) Q := by
  refine rg64_0 hk ⟨fun q => ?_, fun _ => ⟨fun q => ?_, fun _ => ⟨?_, ?_⟩⟩⟩
  · (simp (disch := omega) only [nn_lit, nn_m1, nn_add, nn_mul, nn_rem, nn_sub, nn_addm1, nn_lt, nn_le, nn_eq, nn_clamp, nn_in, nn_nem1, nn_m1ne, nn_ltm1, nn_m1lt, nn_m1le, nn_lem1, bz_0, bz_n0, not_false_eq_true, not_true_eq_false, true_and, and_true, false_and, and_false, false_implies, true_implies, forall_const, Nat.reduceMul, Nat.reduceAdd, Nat.reduceSub] at q <;> try simp only [nn_bk] at q)
    omega
  · (simp (disch := omega) only [nn_lit, nn_m1, nn_add, nn_mul, nn_rem, nn_sub, nn_addm1, nn_lt, nn_le, nn_eq, nn_clamp, nn_in, nn_nem1, nn_m1ne, nn_ltm1, nn_m1lt, nn_m1le, nn_lem1, bz_0, bz_n0, not_false_eq_true, not_true_eq_false, true_and, and_true, false_and, and_false, false_implies, true_implies, forall_const, Nat.reduceMul, Nat.reduceAdd, Nat.reduceSub] at q <;> try simp only [nn_bk] at q)
    omega
  · (simp (disch := omega) only [nn_lit, nn_m1, nn_add, nn_mul, nn_rem, nn_sub, nn_addm1, nn_lt, nn_le, nn_eq, nn_clamp, nn_in, nn_nem1, nn_m1ne, nn_ltm1, nn_m1lt, nn_m1le, nn_lem1, bz_0, bz_n0, not_false_eq_true, not_true_eq_false, true_and, and_true, false_and, and_false, false_implies, true_implies, forall_const, Nat.reduceMul, Nat.reduceAdd, Nat.reduceSub] <;> try simp only [nn_bk])
    omega
  · (simp (disch := omega) only [nn_lit, nn_m1, nn_add, nn_mul, nn_rem, nn_sub, nn_addm1, nn_lt, nn_le, nn_eq, nn_clamp, nn_in, nn_nem1, nn_m1ne, nn_ltm1, nn_m1lt, nn_m1le, nn_lem1, bz_0, bz_n0, not_false_eq_true, not_true_eq_false, true_and, and_true, false_and, and_false, false_implies, true_implies, forall_const, Nat.reduceMul, Nat.reduceAdd, Nat.reduceSub] <;> try simp only [nn_bk])
    exact h
theorem sp66 (hk : ok7 t k) {r : Nat} (hr : r < 6) (h : Q (some (.int (F (k + 1) r))) (hs t, F, G)) : wp 66 0 [.ref k, .int (Int32.ofNat r)] [] (hs t, F, G) Q :=
  rg66_0 hk (sp64 hk (g := 0) (by omega) hr (rg66_6 hk (by rw [Nat.zero_add]; exact h)))
theorem sp67 (hk : ok7 t k) {r : Nat} (hr : r < 6) (h : Q (some (.int (F (k + 1) (6 + r)))) (hs t, F, G)) : wp 67 0 [.ref k, .int (Int32.ofNat r)] [] (hs t, F, G) Q :=
  rg67_0 hk (sp64 hk (g := 6) (by omega) hr (rg67_7 hk h))
theorem sp68 (hk : ok7 t k) {r : Nat} (hr : r < 6) (h : Q (some (.int (F (k + 1) (12 + r)))) (hs t, F, G)) : wp 68 0 [.ref k, .int (Int32.ofNat r)] [] (hs t, F, G) Q :=
  rg68_0 hk (sp64 hk (g := 12) (by omega) hr (rg68_7 hk h))
theorem sp69 (hk : ok7 t k) {r : Nat} (hr : r < 6) (h : Q (some (.int (F (k + 1) (18 + r)))) (hs t, F, G)) : wp 69 0 [.ref k, .int (Int32.ofNat r)] [] (hs t, F, G) Q :=
  rg69_0 hk (sp64 hk (g := 18) (by omega) hr (rg69_7 hk h))
end SP
/-! the ropes' cells, laid as the class lays them: what they tell of rope r -/
def hsl (c : Nat → Int32) (r : Nat) : Bool := !decide (c r = -1)
def mks (c : Nat → Int32) (r : Nat) : Bool := !decide (c r = -1) && mk9 (c (12 + r)) (c (18 + r)) (c 24)
section SP
variable {t : Nat} {F : ip_F} {G : ip_G} {Q : Option Value → ip_M → Prop} {k : Nat}
theorem sp71 (hk : ok7 t k) {r : Nat} (hr : r < 6) (h : Q (some (.int (bz (hsl (F (k + 1)) r = true)))) (hs t, F, G)) : wp 71 0 [.ref k, .int (Int32.ofNat r)] [] (hs t, F, G) Q := by
  refine rg71_0 hk (sp64 hk (g := 0) (by omega) hr (rg71_6 hk ⟨fun e => ?_, fun e => ?_⟩))
  · rw [Nat.zero_add] at e
    rwa [bz_f (by simp [hsl, e])] at h
  · rw [Nat.zero_add] at e
    rwa [bz_t (by simp [hsl, e])] at h
theorem sp77 (hk : ok7 t k) {r : Nat} (hr : r < 6) (h : Q (some (.int (bz (mks (F (k + 1)) r = true)))) (hs t, F, G)) : wp 77 0 [.ref k, .int (Int32.ofNat r)] [] (hs t, F, G) Q := by
  refine rg77_0 hk (sp71 hk hr (rg77_5 hk ⟨fun e => ?_, fun e => ?_⟩))
  · rw [bz_0] at e
    rwa [bz_f (fun q => e (by simp only [mks, Bool.and_eq_true] at q; exact q.1))] at h
  · rw [bz_n0] at e
    refine sp68 hk hr (rg77_13 hk (sp69 hk hr (rg77_18 hk (rg70_0 hk (rg77_22 hk (sp51 (rg77_25 hk ⟨fun e1 => ?_, fun e1 => ?_⟩)))))))
    · rw [bz_0] at e1
      rwa [bz_f (fun q => e1 (by simp only [mks, Bool.and_eq_true] at q; exact q.2))] at h
    · rw [bz_n0] at e1
      rwa [bz_t (by simp only [mks, Bool.and_eq_true]; exact ⟨e, e1⟩)] at h
theorem sp78_4 (hk : ok7 t k) (h : Q (some (.int (Int32.ofNat (bf9 (hsl (F (k + 1))) 6)))) (hs t, F, G)) : ∀ d r, r + d = 6 → wp 78 4 [.ref k, .int (Int32.ofNat (bf9 (hsl (F (k + 1))) r)), .int (Int32.ofNat r)] [] (hs t, F, G) Q := by
  intro d
  induction d with
  | zero =>
    intro r hr
    obtain rfl : r = 6 := by omega
    exact rg78_4 hk ⟨fun _ => h, fun q => absurd q (by decide)⟩
  | succ d ih =>
    intro r hr
    refine rg78_4 hk ⟨fun q => ?_, fun _ => ?_⟩
    · (simp (disch := omega) only [nn_lit, nn_m1, nn_add, nn_mul, nn_rem, nn_sub, nn_addm1, nn_lt, nn_le, nn_eq, nn_clamp, nn_in, nn_nem1, nn_m1ne, nn_ltm1, nn_m1lt, nn_m1le, nn_lem1, bz_0, bz_n0, not_false_eq_true, not_true_eq_false, true_and, and_true, false_and, and_false, false_implies, true_implies, forall_const, Nat.reduceMul, Nat.reduceAdd, Nat.reduceSub] at q <;> try simp only [nn_bk] at q)
      omega
    · refine sp71 hk (by omega) (rg78_16 hk ⟨fun e => rg78_26 hk ?_, fun e => rg78_26 hk ?_⟩)
      · rw [bz_0] at e
        rw [bf_step (P := hsl (F (k + 1))) (by omega) (by rw [if_neg e])]
        (simp (disch := omega) only [nn_lit, nn_m1, nn_add, nn_mul, nn_rem, nn_sub, nn_addm1, nn_lt, nn_le, nn_eq, nn_clamp, nn_in, nn_nem1, nn_m1ne, nn_ltm1, nn_m1lt, nn_m1le, nn_lem1, bz_0, bz_n0, not_false_eq_true, not_true_eq_false, true_and, and_true, false_and, and_false, false_implies, true_implies, forall_const, Nat.reduceMul, Nat.reduceAdd, Nat.reduceSub] <;> try simp only [nn_bk])
        exact ih _ (by omega)
      · rw [bz_n0] at e
        rw [bf_step (P := hsl (F (k + 1))) (by omega) (by rw [if_pos e])]
        (simp (disch := omega) only [nn_lit, nn_m1, nn_add, nn_mul, nn_rem, nn_sub, nn_addm1, nn_lt, nn_le, nn_eq, nn_clamp, nn_in, nn_nem1, nn_m1ne, nn_ltm1, nn_m1lt, nn_m1le, nn_lem1, bz_0, bz_n0, not_false_eq_true, not_true_eq_false, true_and, and_true, false_and, and_false, false_implies, true_implies, forall_const, Nat.reduceMul, Nat.reduceAdd, Nat.reduceSub] <;> try simp only [nn_bk])
        exact ih _ (by omega)
theorem sp78 (hk : ok7 t k) (h : Q (some (.int (Int32.ofNat (bf9 (hsl (F (k + 1))) 6)))) (hs t, F, G)) : wp 78 0 [.ref k, .float 0, .float 0] [] (hs t, F, G) Q := rg78_0 hk (sp78_4 hk h 6 0 rfl)
theorem sp79_4 (hk : ok7 t k) (h : Q (some (.int (Int32.ofNat (bf9 (mks (F (k + 1))) 6)))) (hs t, F, G)) : ∀ d r, r + d = 6 → wp 79 4 [.ref k, .int (Int32.ofNat (bf9 (mks (F (k + 1))) r)), .int (Int32.ofNat r)] [] (hs t, F, G) Q := by
  intro d
  induction d with
  | zero =>
    intro r hr
    obtain rfl : r = 6 := by omega
    exact rg79_4 hk ⟨fun _ => h, fun q => absurd q (by decide)⟩
  | succ d ih =>
    intro r hr
    refine rg79_4 hk ⟨fun q => ?_, fun _ => ?_⟩
    · (simp (disch := omega) only [nn_lit, nn_m1, nn_add, nn_mul, nn_rem, nn_sub, nn_addm1, nn_lt, nn_le, nn_eq, nn_clamp, nn_in, nn_nem1, nn_m1ne, nn_ltm1, nn_m1lt, nn_m1le, nn_lem1, bz_0, bz_n0, not_false_eq_true, not_true_eq_false, true_and, and_true, false_and, and_false, false_implies, true_implies, forall_const, Nat.reduceMul, Nat.reduceAdd, Nat.reduceSub] at q <;> try simp only [nn_bk] at q)
      omega
    · refine sp77 hk (by omega) (rg79_16 hk ⟨fun e => rg79_26 hk ?_, fun e => rg79_26 hk ?_⟩)
      · rw [bz_0] at e
        rw [bf_step (P := mks (F (k + 1))) (by omega) (by rw [if_neg e])]
        (simp (disch := omega) only [nn_lit, nn_m1, nn_add, nn_mul, nn_rem, nn_sub, nn_addm1, nn_lt, nn_le, nn_eq, nn_clamp, nn_in, nn_nem1, nn_m1ne, nn_ltm1, nn_m1lt, nn_m1le, nn_lem1, bz_0, bz_n0, not_false_eq_true, not_true_eq_false, true_and, and_true, false_and, and_false, false_implies, true_implies, forall_const, Nat.reduceMul, Nat.reduceAdd, Nat.reduceSub] <;> try simp only [nn_bk])
        exact ih _ (by omega)
      · rw [bz_n0] at e
        rw [bf_step (P := mks (F (k + 1))) (by omega) (by rw [if_pos e])]
        (simp (disch := omega) only [nn_lit, nn_m1, nn_add, nn_mul, nn_rem, nn_sub, nn_addm1, nn_lt, nn_le, nn_eq, nn_clamp, nn_in, nn_nem1, nn_m1ne, nn_ltm1, nn_m1lt, nn_m1le, nn_lem1, bz_0, bz_n0, not_false_eq_true, not_true_eq_false, true_and, and_true, false_and, and_false, false_implies, true_implies, forall_const, Nat.reduceMul, Nat.reduceAdd, Nat.reduceSub] <;> try simp only [nn_bk])
        exact ih _ (by omega)
theorem sp79 (hk : ok7 t k) (h : Q (some (.int (Int32.ofNat (bf9 (mks (F (k + 1))) 6)))) (hs t, F, G)) : wp 79 0 [.ref k, .float 0, .float 0] [] (hs t, F, G) Q := rg79_0 hk (sp79_4 hk h 6 0 rfl)
end SP
