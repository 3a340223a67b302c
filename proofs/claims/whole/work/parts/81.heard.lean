/-! ===== a row heard ===== -/
def nb7 (n : Nat) : Nat := nb9 n + n / 64 % 2
def di9 (x : Int32) : Int32 := x - x / 10 * 10
theorem di_np {x : Int32} (h : ¬ 0 < x) : ¬ 1 ≤ di9 x := by
  intro q
  unfold di9 at q
  rw [Int32.lt_iff_toInt_lt] at h
  rw [Int32.le_iff_toInt_le] at q
  have h0 : (0 : Int32).toInt = 0 := rfl
  have h1 : (1 : Int32).toInt = 1 := rfl
  have h10 : (10 : Int32).toInt = 10 := rfl
  have hx := Int32.le_toInt x
  obtain ⟨Y, hY⟩ : ∃ Y, x.toInt = -Y := ⟨-x.toInt, by omega⟩
  have e1 : (x / 10).toInt = -(Y / 10) := by
    rw [Int32.toInt_div_of_ne_right _ _ (by decide), h10, hY, Int.neg_tdiv, Int.tdiv_eq_ediv_of_nonneg (by omega)]
  have e2 : (x / 10 * 10).toInt = -(Y / 10) * 10 := by
    rw [Int32.toInt_mul, e1, h10, Int.bmod_eq_of_le_mul_two (by omega) (by omega)]
  have e3 : (x - x / 10 * 10).toInt = -Y - -(Y / 10) * 10 := by
    rw [Int32.toInt_sub, e2, hY, Int.bmod_eq_of_le_mul_two (by omega) (by omega)]
  omega
theorem bo_all : ∀ (s : Fin 128) (b : Fin 7), Int32.ofNat s ||| ((1 : Int32) <<< (Int32.ofNat b &&& 31)) = Int32.ofNat (s.val ||| 1 <<< b.val) ∧ s.val ||| 1 <<< b.val < 128 ∧ nb7 (s.val ||| 1 <<< b.val) = nb7 s.val + (if s.val.testBit b.val = true then 0 else 1) ∧ (((Int32.ofNat s >>> (Int32.ofNat b &&& 31)) &&& 1 = 1) ↔ s.val.testBit b.val = true) := by decide +kernel
theorem nb7_le : ∀ s : Fin 128, nb7 s.val ≤ 7 := by decide +kernel
def cB9 (n : Nat) : Nat → Int32 → Nat → Bool
  | 0, x, s => decide (x = 0) && decide (nb7 s = n)
  | d + 1, x, s => if 1 ≤ di9 x ∧ di9 x ≤ Int32.ofNat n then cB9 n d (x / 10) (s ||| 1 <<< (di9 x).toNatClampNeg) else false
def mB9 (n : Nat) : Nat → Int32 → Nat → Bool
  | 0, x, _ => decide (x = 0)
  | d + 1, x, s => if 1 ≤ di9 x ∧ di9 x ≤ Int32.ofNat n then (if s.testBit (di9 x).toNatClampNeg = true then false else mB9 n d (x / 10) (s ||| 1 <<< (di9 x).toNatClampNeg)) else false
theorem bb_eq {n : Nat} (hn : n ≤ 6) : ∀ d x s, s < 128 → (nb7 s + d < n → cB9 n d x s = false) ∧ (nb7 s + d = n → cB9 n d x s = mB9 n d x s)
  | 0, x, s, hs => by
    refine ⟨fun h => ?_, fun h => ?_⟩
    · rw [cB9, decide_eq_false (show ¬ nb7 s = n by omega), Bool.and_false]
    · rw [cB9, mB9, decide_eq_true (show nb7 s = n by omega), Bool.and_true]
  | d + 1, x, s, hs => by
    rw [cB9, mB9]
    by_cases hr : 1 ≤ di9 x ∧ di9 x ≤ Int32.ofNat n
    · rw [if_pos hr, if_pos hr]
      obtain ⟨b, hb1, hb2, hb⟩ := nn_bt (a := 1) (b := n) (by omega) hr.1 (by omega) hr.2
      rw [hb, nn_clamp (by omega)]
      obtain ⟨-, o2, o3, -⟩ := bo_all ⟨s, hs⟩ ⟨b, by omega⟩
      have ih := bb_eq hn d (x / 10) (s ||| 1 <<< b) o2
      dsimp only at o3
      by_cases ht : s.testBit b = true
      · rw [if_pos ht] at o3
        rw [if_pos ht]
        exact ⟨fun h => ih.1 (by omega), fun h => ih.1 (by omega)⟩
      · rw [if_neg ht] at o3
        rw [if_neg ht]
        exact ⟨fun h => ih.1 (by omega), fun h => ih.2 (by omega)⟩
    · rw [if_neg hr, if_neg hr]
      exact ⟨fun _ => rfl, fun _ => rfl⟩
section SP
variable {t : Nat} {F : ip_F} {G : ip_G} {Q : Option Value → ip_M → Prop} {n : Nat}
theorem sp236b {n : Nat} (hn : n < 128) (h : Q (some (.int (Int32.ofNat (nb7 n)))) (hs t, F, G)) : wp 236 0 [.int (Int32.ofNat n)] [] (hs t, F, G) Q := by
  refine rg236_0 ?_
  have key : ∀ n : Fin 128, (((((((((Int32.ofNat n) - (((Int32.ofNat n).toUInt32 >>> ((1 : Int32).toUInt32 &&& Int32.toUInt32 31)).toInt32 &&& (1431655765 : Int32))) &&& (858993459 : Int32)) + ((((Int32.ofNat n) - (((Int32.ofNat n).toUInt32 >>> ((1 : Int32).toUInt32 &&& Int32.toUInt32 31)).toInt32 &&& (1431655765 : Int32))).toUInt32 >>> ((2 : Int32).toUInt32 &&& Int32.toUInt32 31)).toInt32 &&& (858993459 : Int32))) + (((((Int32.ofNat n) - (((Int32.ofNat n).toUInt32 >>> ((1 : Int32).toUInt32 &&& Int32.toUInt32 31)).toInt32 &&& (1431655765 : Int32))) &&& (858993459 : Int32)) + ((((Int32.ofNat n) - (((Int32.ofNat n).toUInt32 >>> ((1 : Int32).toUInt32 &&& Int32.toUInt32 31)).toInt32 &&& (1431655765 : Int32))).toUInt32 >>> ((2 : Int32).toUInt32 &&& Int32.toUInt32 31)).toInt32 &&& (858993459 : Int32))).toUInt32 >>> ((4 : Int32).toUInt32 &&& Int32.toUInt32 31)).toInt32) &&& (252645135 : Int32)) + (((((((Int32.ofNat n) - (((Int32.ofNat n).toUInt32 >>> ((1 : Int32).toUInt32 &&& Int32.toUInt32 31)).toInt32 &&& (1431655765 : Int32))) &&& (858993459 : Int32)) + ((((Int32.ofNat n) - (((Int32.ofNat n).toUInt32 >>> ((1 : Int32).toUInt32 &&& Int32.toUInt32 31)).toInt32 &&& (1431655765 : Int32))).toUInt32 >>> ((2 : Int32).toUInt32 &&& Int32.toUInt32 31)).toInt32 &&& (858993459 : Int32))) + (((((Int32.ofNat n) - (((Int32.ofNat n).toUInt32 >>> ((1 : Int32).toUInt32 &&& Int32.toUInt32 31)).toInt32 &&& (1431655765 : Int32))) &&& (858993459 : Int32)) + ((((Int32.ofNat n) - (((Int32.ofNat n).toUInt32 >>> ((1 : Int32).toUInt32 &&& Int32.toUInt32 31)).toInt32 &&& (1431655765 : Int32))).toUInt32 >>> ((2 : Int32).toUInt32 &&& Int32.toUInt32 31)).toInt32 &&& (858993459 : Int32))).toUInt32 >>> ((4 : Int32).toUInt32 &&& Int32.toUInt32 31)).toInt32) &&& (252645135 : Int32)).toUInt32 >>> ((8 : Int32).toUInt32 &&& Int32.toUInt32 31)).toInt32) + ((((((((Int32.ofNat n) - (((Int32.ofNat n).toUInt32 >>> ((1 : Int32).toUInt32 &&& Int32.toUInt32 31)).toInt32 &&& (1431655765 : Int32))) &&& (858993459 : Int32)) + ((((Int32.ofNat n) - (((Int32.ofNat n).toUInt32 >>> ((1 : Int32).toUInt32 &&& Int32.toUInt32 31)).toInt32 &&& (1431655765 : Int32))).toUInt32 >>> ((2 : Int32).toUInt32 &&& Int32.toUInt32 31)).toInt32 &&& (858993459 : Int32))) + (((((Int32.ofNat n) - (((Int32.ofNat n).toUInt32 >>> ((1 : Int32).toUInt32 &&& Int32.toUInt32 31)).toInt32 &&& (1431655765 : Int32))) &&& (858993459 : Int32)) + ((((Int32.ofNat n) - (((Int32.ofNat n).toUInt32 >>> ((1 : Int32).toUInt32 &&& Int32.toUInt32 31)).toInt32 &&& (1431655765 : Int32))).toUInt32 >>> ((2 : Int32).toUInt32 &&& Int32.toUInt32 31)).toInt32 &&& (858993459 : Int32))).toUInt32 >>> ((4 : Int32).toUInt32 &&& Int32.toUInt32 31)).toInt32) &&& (252645135 : Int32)) + (((((((Int32.ofNat n) - (((Int32.ofNat n).toUInt32 >>> ((1 : Int32).toUInt32 &&& Int32.toUInt32 31)).toInt32 &&& (1431655765 : Int32))) &&& (858993459 : Int32)) + ((((Int32.ofNat n) - (((Int32.ofNat n).toUInt32 >>> ((1 : Int32).toUInt32 &&& Int32.toUInt32 31)).toInt32 &&& (1431655765 : Int32))).toUInt32 >>> ((2 : Int32).toUInt32 &&& Int32.toUInt32 31)).toInt32 &&& (858993459 : Int32))) + (((((Int32.ofNat n) - (((Int32.ofNat n).toUInt32 >>> ((1 : Int32).toUInt32 &&& Int32.toUInt32 31)).toInt32 &&& (1431655765 : Int32))) &&& (858993459 : Int32)) + ((((Int32.ofNat n) - (((Int32.ofNat n).toUInt32 >>> ((1 : Int32).toUInt32 &&& Int32.toUInt32 31)).toInt32 &&& (1431655765 : Int32))).toUInt32 >>> ((2 : Int32).toUInt32 &&& Int32.toUInt32 31)).toInt32 &&& (858993459 : Int32))).toUInt32 >>> ((4 : Int32).toUInt32 &&& Int32.toUInt32 31)).toInt32) &&& (252645135 : Int32)).toUInt32 >>> ((8 : Int32).toUInt32 &&& Int32.toUInt32 31)).toInt32).toUInt32 >>> ((16 : Int32).toUInt32 &&& Int32.toUInt32 31)).toInt32) &&& (63 : Int32)) = Int32.ofNat (nb7 n) := by decide +kernel
  rw [key ⟨n, hn⟩]
  exact h
theorem sp132 {x : Int32} (h4 : 4 ≤ n) (h6 : n ≤ 6) (hb : F 1 6 = Int32.ofNat n) (h : Q (some (.int (bz (mB9 n n x 0 = true)))) (hs t, F, G)) : wp 132 0 [.ref 0, .int x, .float 0, .float 0, .float 0, .float 0] [] (hs t, F, G) Q := by
  have hz : cB9 n n x 0 = mB9 n n x 0 := (bb_eq h6 n x 0 (by decide)).2 (by show 0 + n = n; omega)
  have loop : ∀ d i y s v5, i + d = n → s < 128 → cB9 n d y s = mB9 n n x 0 → wp 132 7 [.ref 0, .int x, .int y, .int (Int32.ofNat s), .int (Int32.ofNat i), v5] [] (hs t, F, G) Q := by
    intro d
    induction d with
    | zero =>
      intro i y s v5 hi hs hB
      obtain rfl : i = n := by omega
      have h7 := nb7_le ⟨s, hs⟩
      have hB : (decide (y = 0) && decide (nb7 s = i)) = mB9 i i x 0 := hB
      refine rg132_7 ⟨fun _ => ⟨fun e => ?_, fun e => sp236b hs (rg132_69 ⟨fun e1 => ?_, fun e1 => ?_⟩)⟩, fun q => ?_⟩
      · rw [decide_eq_false e, Bool.false_and] at hB
        rwa [bz_c hB.symm] at h
      · rw [hb] at e1
        rw [decide_eq_false (show ¬ nb7 s = i from fun q => e1 (by rw [q])), Bool.and_false] at hB
        rwa [bz_c hB.symm] at h
      · rw [hb] at e1
        dsimp only at h7
        rw [decide_eq_true e, decide_eq_true ((nn_eq (by omega) (by omega)).mp e1)] at hB
        rwa [bz_b hB.symm] at h
      · rw [hb] at q
        (simp (disch := omega) only [nn_lit, nn_m1, nn_add, nn_mul, nn_rem, nn_sub, nn_addm1, nn_lt, nn_le, nn_eq, nn_clamp, nn_in, nn_nem1, nn_m1ne, nn_ltm1, nn_m1lt, nn_m1le, nn_lem1, bz_0, bz_n0, not_false_eq_true, not_true_eq_false, true_and, and_true, false_and, and_false, false_implies, true_implies, forall_const, Nat.reduceMul, Nat.reduceAdd, Nat.reduceSub] at q <;> try simp only [nn_bk] at q)
        omega
    | succ d ih =>
      intro i y s v5 hi hs hB
      rw [cB9] at hB
      refine rg132_7 ⟨fun q => ?_, fun _ => sp129 ?_⟩
      · rw [hb] at q
        (simp (disch := omega) only [nn_lit, nn_m1, nn_add, nn_mul, nn_rem, nn_sub, nn_addm1, nn_lt, nn_le, nn_eq, nn_clamp, nn_in, nn_nem1, nn_m1ne, nn_ltm1, nn_m1lt, nn_m1le, nn_lem1, bz_0, bz_n0, not_false_eq_true, not_true_eq_false, true_and, and_true, false_and, and_false, false_implies, true_implies, forall_const, Nat.reduceMul, Nat.reduceAdd, Nat.reduceSub] at q <;> try simp only [nn_bk] at q)
        omega
      · rw [hb]
        by_cases hr : 1 ≤ di9 y ∧ di9 y ≤ Int32.ofNat n
        · rw [if_pos hr] at hB
          rw [bz_t (show (1 ≤ y - y / 10 * 10 ∧ y - y / 10 * 10 ≤ Int32.ofNat n) from hr)]
          obtain ⟨b, hb1, hb2, hbe⟩ := nn_bt (a := 1) (b := n) (by omega) hr.1 (by omega) hr.2
          rw [hbe, nn_clamp (by omega)] at hB
          obtain ⟨o1, o2, -, -⟩ := bo_all ⟨s, hs⟩ ⟨b, by omega⟩
          refine rg132_38 ⟨fun _ => ?_, fun q => absurd q (by decide)⟩
          rw [show y - y / 10 * 10 = Int32.ofNat b from hbe, o1, show Int32.ofNat i + 1 = Int32.ofNat (i + 1) from nn_add i 1]
          exact ih (i + 1) _ _ _ (by omega) o2 hB
        · rw [if_neg hr] at hB
          rw [bz_f (show ¬ (1 ≤ y - y / 10 * 10 ∧ y - y / 10 * 10 ≤ Int32.ofNat n) from hr)]
          refine rg132_38 ⟨fun q => absurd rfl q, fun _ => ?_⟩
          rwa [bz_c hB.symm] at h
  exact rg132_0 (loop n 0 x 0 _ (by omega) (by decide) hz)
theorem sp205 {x : Int32} (h4 : 4 ≤ n) (h6 : n ≤ 6) (hb : F 193 1 = Int32.ofNat n) (h : Q (some (.int (bz (mB9 n n x 0 = true)))) (hs t, F, G)) : wp 205 0 [.ref 193, .int x, .float 0, .float 0, .float 0, .float 0] [] (hs t, F, G) Q := by
  have loop : ∀ d i y s v5, i + d = n → s < 128 → (i = 0 → y = x) → (0 < i → 0 < x) → mB9 n d y s = mB9 n n x 0 → wp 205 7 [.ref 193, .int x, .int (Int32.ofNat s), .int y, .int (Int32.ofNat i), v5] [] (hs t, F, G) Q := by
    intro d
    induction d with
    | zero =>
      intro i y s v5 hi hs h0 hx hB
      obtain rfl : i = n := by omega
      have hB : decide (y = 0) = mB9 i i x 0 := hB
      refine rg205_7 ⟨fun _ => ⟨fun e => ?_, fun _ => ⟨fun e => ?_, fun e => ?_⟩⟩, fun q => ?_⟩
      · exact absurd (hx (by omega)) (Int32.not_lt.mpr e)
      · rw [decide_eq_false e] at hB
        rwa [bz_c hB.symm] at h
      · rw [decide_eq_true e] at hB
        rwa [bz_b hB.symm] at h
      · rw [hb] at q
        (simp (disch := omega) only [nn_lit, nn_m1, nn_add, nn_mul, nn_rem, nn_sub, nn_addm1, nn_lt, nn_le, nn_eq, nn_clamp, nn_in, nn_nem1, nn_m1ne, nn_ltm1, nn_m1lt, nn_m1le, nn_lem1, bz_0, bz_n0, not_false_eq_true, not_true_eq_false, true_and, and_true, false_and, and_false, false_implies, true_implies, forall_const, Nat.reduceMul, Nat.reduceAdd, Nat.reduceSub] at q <;> try simp only [nn_bk] at q)
        omega
    | succ d ih =>
      intro i y s v5 hi hs h0 hx hB
      rw [mB9] at hB
      refine rg205_7 ⟨fun q => ?_, fun _ => sp143 ?_⟩
      · rw [hb] at q
        (simp (disch := omega) only [nn_lit, nn_m1, nn_add, nn_mul, nn_rem, nn_sub, nn_addm1, nn_lt, nn_le, nn_eq, nn_clamp, nn_in, nn_nem1, nn_m1ne, nn_ltm1, nn_m1lt, nn_m1le, nn_lem1, bz_0, bz_n0, not_false_eq_true, not_true_eq_false, true_and, and_true, false_and, and_false, false_implies, true_implies, forall_const, Nat.reduceMul, Nat.reduceAdd, Nat.reduceSub] at q <;> try simp only [nn_bk] at q)
        omega
      · rw [hb]
        by_cases hr : 1 ≤ di9 y ∧ di9 y ≤ Int32.ofNat n
        · rw [if_pos hr] at hB
          rw [bz_t (show (1 ≤ y - y / 10 * 10 ∧ y - y / 10 * 10 ≤ Int32.ofNat n) from hr)]
          obtain ⟨b, hb1, hb2, hbe⟩ := nn_bt (a := 1) (b := n) (by omega) hr.1 (by omega) hr.2
          rw [hbe, nn_clamp (by omega)] at hB
          obtain ⟨o1, o2, -, o4⟩ := bo_all ⟨s, hs⟩ ⟨b, by omega⟩
          rw [show y - y / 10 * 10 = Int32.ofNat b from hbe]
          refine rg205_37 ⟨fun q => absurd q (by decide), fun _ => sp144 (rg205_46 ⟨fun e => ?_, fun e => ?_⟩)⟩
          · have ht : ¬ s.testBit b = true := fun q => (bz_0.mp e) (o4.mpr q)
            rw [if_neg ht] at hB
            rw [o1, show Int32.ofNat i + 1 = Int32.ofNat (i + 1) from nn_add i 1]
            refine ih (i + 1) _ _ _ (by omega) o2 (fun q => absurd q (by omega)) (fun _ => ?_) hB
            by_cases hi0 : i = 0
            · have := h0 hi0
              subst this
              exact Classical.byContradiction (fun q => di_np q hr.1)
            · exact hx (by omega)
          · have ht : s.testBit b = true := o4.mp (bz_n0.mp e)
            rw [if_pos ht] at hB
            rwa [bz_c hB.symm] at h
        · rw [if_neg hr] at hB
          rw [bz_f (show ¬ (1 ≤ y - y / 10 * 10 ∧ y - y / 10 * 10 ≤ Int32.ofNat n) from hr)]
          refine rg205_37 ⟨fun _ => ?_, fun q => absurd rfl q⟩
          rwa [bz_c hB.symm] at h
  exact rg205_0 (loop n 0 x 0 _ (by omega) (by decide) (fun _ => rfl) (fun q => absurd q (by omega)) rfl)
theorem ck110 {a b : Int32} (h4 : 4 ≤ n) (h6 : n ≤ 6) (hb : F 1 6 = Int32.ofNat n) (h1 : ((1 : Int32) ≤ a ∧ a ≤ 11) → mB9 n n b 0 = true → wp 110 15 [.ref 0, .int a, .int b] [.int 1] (hs t, F, G) Q) (h2 : ¬ (((1 : Int32) ≤ a ∧ a ≤ 11) ∧ mB9 n n b 0 = true) → Q (some (.int (-2))) (hs t, ip_u F 192 0 (F 192 0 + 1), G)) : wp 110 0 [.ref 0, .int a, .int b] [] (hs t, F, G) Q := by
  refine rg110_0 (sp129 ?_)
  by_cases c1 : (1 : Int32) ≤ a ∧ a ≤ 11
  · rw [bz_t c1]
    refine rg110_7 ⟨fun q => absurd q (by decide), fun _ => sp132 h4 h6 hb ?_⟩
    by_cases c2 : mB9 n n b 0 = true
    · rw [bz_t c2]
      exact h1 c1 c2
    · rw [bz_f c2]
      exact rg110_15 ⟨fun q => absurd rfl q, fun _ => rg110_18 (sp133b (rg110_24 (h2 (fun q => c2 q.2))))⟩
  · rw [bz_f c1]
    exact rg110_7 ⟨fun _ => rg110_18 (sp133b (rg110_24 (h2 (fun q => c1 q.1)))), fun q => absurd rfl q⟩
theorem ck206 {a b : Int32} (h4 : 4 ≤ n) (h6 : n ≤ 6) (hb : F 193 1 = Int32.ofNat n) (h1 : ((1 : Int32) ≤ a ∧ a ≤ 11) → mB9 n n b 0 = true → wp 206 15 [.ref 193, .int a, .int b] [.int 1] (hs t, F, G) Q) (h2 : ¬ (((1 : Int32) ≤ a ∧ a ≤ 11) ∧ mB9 n n b 0 = true) → Q (some (.int (-2))) (hs t, ip_u F 194 0 (F 194 0 + 1), G)) : wp 206 0 [.ref 193, .int a, .int b] [] (hs t, F, G) Q := by
  refine rg206_0 (sp143 ?_)
  by_cases c1 : (1 : Int32) ≤ a ∧ a ≤ 11
  · rw [bz_t c1]
    refine rg206_7 ⟨fun q => absurd q (by decide), fun _ => sp205 h4 h6 hb ?_⟩
    by_cases c2 : mB9 n n b 0 = true
    · rw [bz_t c2]
      exact h1 c1 c2
    · rw [bz_f c2]
      exact rg206_15 ⟨fun q => absurd rfl q, fun _ => rg206_18 (rg140_0 (rg206_22 (h2 (fun q => c2 q.2))))⟩
  · rw [bz_f c1]
    exact rg206_7 ⟨fun _ => rg206_18 (rg140_0 (rg206_22 (h2 (fun q => c1 q.1)))), fun q => absurd rfl q⟩
theorem pr_heard {a b : Int32} (hI : INV t F G) : wp 110 0 [.ref 0, .int a, .int b] [] (hs t, F, G) (fun v M => wp 206 0 [.ref 193, .int a, .int b] [] M (ENi v)) := by
  obtain ⟨n, ⟨h4, h6, b1, b2, b3⟩, hP, hU, ⟨u, u1, u2, u3, u4⟩, hN, hM⟩ := hI.2.1
  refine ck110 h4 h6 b1 (fun ha hb => ?_) (fun hn => ?_)
  · by_cases hu : u < 4
    · refine rg110_15 ⟨fun _ => ⟨fun _ => sp46 (k := 15) ⟨rfl, rfl⟩ (by omega) u2 (fun F1 d1 d2 d3 => rg110_60 ?_), fun q => ?_⟩, fun q => absurd q (by decide)⟩
      · refine ck206 h4 h6 (by rw [d3 193 (by decide) (by decide), b2]) (fun _ _ => ?_) (fun hn => absurd ⟨ha, hb⟩ hn)
        have e4 : F1 193 3 = Int32.ofNat u := by rw [d3 193 (by decide) (by decide), u3]
        have u93 : ∀ (F : ip_F) m x, ip_u F 200 m x 193 = F 193 := fun _ _ _ => u_n (by decide)
        refine rg206_15 ⟨fun _ => ⟨fun _ => ?_, fun q => ?_⟩, fun q => absurd q (by decide)⟩
        · simp only [u93, e4]
          rw [show (2 : Int32) * Int32.ofNat u = Int32.ofNat (2 * u) from nn_mul 2 u, show Int32.ofNat (2 * u) + 1 = Int32.ofNat (2 * u + 1) from nn_add _ 1, show Int32.ofNat u + 1 = Int32.ofNat (u + 1) from nn_add _ 1, nn_clamp (by omega), nn_clamp (by omega)]
          refine ⟨(nn_in (by omega)).mpr (by omega), (nn_in (by omega)).mpr (by omega), ?_⟩
          refine en_i (inv_hh hI (fun x hx => by rw [u_n hx.2.2.2, u_n hx.2.2.1, u_n hx.2.2.1, d3 x hx.1 hx.2.1]) (fun x hx => by rw [u_s, if_neg hx, u93, u93, d3 193 (by decide) (by decide)]) ⟨u + 1, by omega, ?_, ?_, fun j hj => ⟨?_, fun i hi => ?_⟩⟩) ?_
          · rw [u_n (by decide), u_n (by decide), u_n (by decide), d1]
          · rw [u_s, if_pos rfl]
          · rw [u_n (show 16 ≠ 193 by decide), u_n (show 16 ≠ 200 by decide), u_n (show 16 ≠ 200 by decide), d2]
            by_cases q : j = u
            · obtain ⟨r, r1, r2, r3⟩ := nn_bt (a := 1) (b := 11) (by omega) ha.1 (by omega) ha.2
              exact ⟨r, r1, by omega, by rw [if_neg (by omega), if_neg (by omega), if_neg (by omega), if_pos (by omega), r3]⟩
            · rw [if_neg (by omega), if_neg (by omega), if_neg (by omega), if_neg (by omega)]
              exact (u4 j (by omega)).1
          · rw [u_n (show 16 ≠ 193 by decide), u_n (show 16 ≠ 200 by decide), u_n (show 16 ≠ 200 by decide), d2, u_n (show 200 ≠ 193 by decide), u_s, u_s, d3 200 (by decide) (by decide)]
            by_cases q : j = u
            · subst q
              match i, hi with
              | 0, _ => rw [if_neg (by omega), if_neg (by omega), if_neg (by omega), if_pos (by omega), if_neg (by omega), if_pos (by omega)]
              | 1, _ => rw [if_neg (by omega), if_neg (by omega), if_pos (by omega), if_pos (by omega)]
            · rw [if_neg (by omega), if_neg (by omega), if_neg (by omega), if_neg (by omega), if_neg (by omega), if_neg (by omega)]
              exact (u4 j (by omega)).2 i hi
          · rw [u_s, if_pos rfl]
        · rw [e4] at q
          exact absurd ((nn_eq (b := 4) (by omega) (by omega)).mp q) (by omega)
      · rw [u2] at q
        exact absurd ((nn_le (a := 4) (by omega) (by omega)).mp q) (by omega)
    · obtain rfl : u = 4 := by omega
      refine rg110_15 ⟨fun _ => ⟨fun q => ?_, fun _ => sp133f (rg110_45 ?_)⟩, fun q => absurd q (by decide)⟩
      · rw [u2] at q
        exact absurd q (by decide)
      · refine ck206 h4 h6 (by rw [u_n (by decide), b2]) (fun _ _ => ?_) (fun hn => absurd ⟨ha, hb⟩ hn)
        refine rg206_15 ⟨fun _ => ⟨fun q => ?_, fun _ => rg142_0 (rg206_35 (en_full hI))⟩, fun q => absurd q (by decide)⟩
        rw [u_n (by decide), u3] at q
        exact absurd rfl q
  · exact ck206 h4 h6 (by rw [u_n (by decide), b2]) (fun ha hb => absurd ⟨ha, hb⟩ hn) (fun _ => en_bad hI)
end SP
