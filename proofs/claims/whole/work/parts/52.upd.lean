/-! ===== what changes the ropes: the class's side ===== -/
def ups (f : Nat → Int32) (i : Nat) (v : Int32) : Nat → Int32 := fun b => if b = i then v else f b
theorem u_ups {F : ip_F} {k i : Nat} {v : Int32} : ip_u F k i v k = ups (F k) i v := by
  funext b
  rw [u_s]
  rfl
def my9 (y : Int32) : Int32 := if 99 < y + 1 then 99 else y + 1
def py9 (c : Nat → Int32) : Nat → Int32 := fun i => if i = 24 then c 24 + 1 else if 18 ≤ i ∧ i < 24 then my9 (c i) else c i
def pys9 : Nat → (Nat → Int32) → (Nat → Int32)
  | 0, c => c
  | d + 1, c => if c 24 < 999 then pys9 d (py9 c) else c
section SP
variable {t : Nat} {G : ip_G} {Q : Option Value → ip_M → Prop} {k : Nat}
theorem sp65 {F : ip_F} (hk : ok7 t k) {g r : Nat} {x : Int32} (hg : g ≤ 18) (hr : r < 6) (h : ∀ F', F' (k + 1) = ups (F (k + 1)) (g + r) x → (∀ a, a ≠ k + 1 → F' a = F a) → Q none (hs t, F', G)) : wp 65 0 [.ref k, .int (Int32.ofNat g), .int (Int32.ofNat r), .int x] [] (hs t, F, G) Q := by
  refine rg65_0 hk ⟨fun q => ?_, fun _ => ⟨fun q => ?_, fun _ => ⟨?_, ?_⟩⟩⟩
  · (simp (disch := omega) only [nn_lit, nn_m1, nn_add, nn_mul, nn_rem, nn_sub, nn_addm1, nn_lt, nn_le, nn_eq, nn_clamp, nn_in, nn_nem1, nn_m1ne, nn_ltm1, nn_m1lt, nn_m1le, nn_lem1, bz_0, bz_n0, not_false_eq_true, not_true_eq_false, true_and, and_true, false_and, and_false, false_implies, true_implies, forall_const, Nat.reduceMul, Nat.reduceAdd, Nat.reduceSub] at q <;> try simp only [nn_bk] at q)
    omega
  · (simp (disch := omega) only [nn_lit, nn_m1, nn_add, nn_mul, nn_rem, nn_sub, nn_addm1, nn_lt, nn_le, nn_eq, nn_clamp, nn_in, nn_nem1, nn_m1ne, nn_ltm1, nn_m1lt, nn_m1le, nn_lem1, bz_0, bz_n0, not_false_eq_true, not_true_eq_false, true_and, and_true, false_and, and_false, false_implies, true_implies, forall_const, Nat.reduceMul, Nat.reduceAdd, Nat.reduceSub] at q <;> try simp only [nn_bk] at q)
    omega
  · (simp (disch := omega) only [nn_lit, nn_m1, nn_add, nn_mul, nn_rem, nn_sub, nn_addm1, nn_lt, nn_le, nn_eq, nn_clamp, nn_in, nn_nem1, nn_m1ne, nn_ltm1, nn_m1lt, nn_m1le, nn_lem1, bz_0, bz_n0, not_false_eq_true, not_true_eq_false, true_and, and_true, false_and, and_false, false_implies, true_implies, forall_const, Nat.reduceMul, Nat.reduceAdd, Nat.reduceSub] <;> try simp only [nn_bk])
    omega
  · (simp (disch := omega) only [nn_lit, nn_m1, nn_add, nn_mul, nn_rem, nn_sub, nn_addm1, nn_lt, nn_le, nn_eq, nn_clamp, nn_in, nn_nem1, nn_m1ne, nn_ltm1, nn_m1lt, nn_m1le, nn_lem1, bz_0, bz_n0, not_false_eq_true, not_true_eq_false, true_and, and_true, false_and, and_false, false_implies, true_implies, forall_const, Nat.reduceMul, Nat.reduceAdd, Nat.reduceSub] <;> try simp only [nn_bk])
    exact h _ u_ups (fun a ha => u_n ha)
theorem sp72 {F : ip_F} (hk : ok7 t k) {r : Nat} {x y : Int32} (hr : r < 6) (h : ∀ F', F' (k + 1) = ups (ups (F (k + 1)) r x) (6 + r) y → (∀ a, a ≠ k + 1 → F' a = F a) → Q none (hs t, F', G)) : wp 72 0 [.ref k, .int (Int32.ofNat r), .int x, .int y] [] (hs t, F, G) Q := by
  refine rg72_0 hk (sp65 hk (g := 0) (by omega) hr (fun F1 h1 h2 => rg72_7 hk (sp65 hk (g := 6) (by omega) hr (fun F2 h3 h4 => rg72_15 hk (h F2 ?_ (fun a ha => by rw [h4 a ha, h2 a ha]))))))
  rw [h3, h1, Nat.zero_add]
theorem sp73 {F : ip_F} (hk : ok7 t k) {r : Nat} (hr : r < 6) (h : ∀ F', F' (k + 1) = ups (ups (F (k + 1)) r (-1)) (6 + r) (-1) → (∀ a, a ≠ k + 1 → F' a = F a) → Q none (hs t, F', G)) : wp 73 0 [.ref k, .int (Int32.ofNat r)] [] (hs t, F, G) Q :=
  rg73_0 hk (sp72 hk hr (fun F1 h1 h2 => rg73_7 hk (h F1 h1 h2)))
theorem sp74 {F : ip_F} (hk : ok7 t k) {r : Nat} {x y : Int32} (hr : r < 6) (h : ∀ F', F' (k + 1) = ups (ups (F (k + 1)) (12 + r) x) (18 + r) y → (∀ a, a ≠ k + 1 → F' a = F a) → Q none (hs t, F', G)) : wp 74 0 [.ref k, .int (Int32.ofNat r), .int x, .int y] [] (hs t, F, G) Q := by
  refine rg74_0 hk (sp65 hk (g := 12) (by omega) hr (fun F1 h1 h2 => rg74_8 hk (sp65 hk (g := 18) (by omega) hr (fun F2 h3 h4 => rg74_16 hk (h F2 ?_ (fun a ha => by rw [h4 a ha, h2 a ha]))))))
  rw [h3, h1]
theorem sp75_14 {c : Nat → Int32} (hk : ok7 t k) : ∀ d r F, r + d = 24 → 18 ≤ r → (∀ i, F (k + 1) i = if i = 24 then c 24 + 1 else if 18 ≤ i ∧ i < r then my9 (c i) else c i) → (∀ F', F' (k + 1) = py9 c → (∀ a, a ≠ k + 1 → F' a = F a) → Q none (hs t, F', G)) → wp 75 14 [.ref k, .int (Int32.ofNat r)] [] (hs t, F, G) Q := by
  intro d
  induction d with
  | zero =>
    intro r F hr _ hF h
    obtain rfl : r = 24 := by omega
    exact rg75_14 hk ⟨fun _ => h F (funext hF) (fun _ _ => rfl), fun q => absurd q (by decide)⟩
  | succ d ih =>
    intro r F hr h18 hF h
    refine rg75_14 hk ⟨fun q => ?_, fun _ => ⟨?_, ?_, ?_⟩⟩
    · (simp (disch := omega) only [nn_lit, nn_m1, nn_add, nn_mul, nn_rem, nn_sub, nn_addm1, nn_lt, nn_le, nn_eq, nn_clamp, nn_in, nn_nem1, nn_m1ne, nn_ltm1, nn_m1lt, nn_m1le, nn_lem1, bz_0, bz_n0, not_false_eq_true, not_true_eq_false, true_and, and_true, false_and, and_false, false_implies, true_implies, forall_const, Nat.reduceMul, Nat.reduceAdd, Nat.reduceSub] at q <;> try simp only [nn_bk] at q)
      omega
    · (simp (disch := omega) only [nn_lit, nn_m1, nn_add, nn_mul, nn_rem, nn_sub, nn_addm1, nn_lt, nn_le, nn_eq, nn_clamp, nn_in, nn_nem1, nn_m1ne, nn_ltm1, nn_m1lt, nn_m1le, nn_lem1, bz_0, bz_n0, not_false_eq_true, not_true_eq_false, true_and, and_true, false_and, and_false, false_implies, true_implies, forall_const, Nat.reduceMul, Nat.reduceAdd, Nat.reduceSub] <;> try simp only [nn_bk])
      omega
    · (simp (disch := omega) only [nn_lit, nn_m1, nn_add, nn_mul, nn_rem, nn_sub, nn_addm1, nn_lt, nn_le, nn_eq, nn_clamp, nn_in, nn_nem1, nn_m1ne, nn_ltm1, nn_m1lt, nn_m1le, nn_lem1, bz_0, bz_n0, not_false_eq_true, not_true_eq_false, true_and, and_true, false_and, and_false, false_implies, true_implies, forall_const, Nat.reduceMul, Nat.reduceAdd, Nat.reduceSub] <;> try simp only [nn_bk])
      omega
    · rw [show Int32.ofNat r + 1 = Int32.ofNat (r + 1) from nn_add r 1, nn_clamp (show r < 2147483648 by omega)]
      refine ih (r + 1) _ (by omega) (by omega) (fun i => ?_) (fun F' h3 h4 => h F' h3 (fun a ha => by rw [h4 a ha, u_n ha]))
      rw [u_s]
      by_cases e : i = r
      · subst e
        have e1 : F (k + 1) i = c i := by rw [hF, if_neg (by omega), if_neg (by omega)]
        rw [if_pos rfl, e1]
        show my9 (c i) = _
        rw [if_neg (by omega), if_pos (by omega)]
      · rw [if_neg e, hF]
        by_cases e24 : i = 24
        · rw [if_pos e24, if_pos e24]
        · rw [if_neg e24, if_neg e24]
          by_cases e3 : 18 ≤ i ∧ i < r
          · rw [if_pos e3, if_pos (by omega)]
          · rw [if_neg e3, if_neg (by omega)]
theorem sp75 {F : ip_F} (hk : ok7 t k) (h : ∀ F', F' (k + 1) = py9 (F (k + 1)) → (∀ a, a ≠ k + 1 → F' a = F a) → Q none (hs t, F', G)) : wp 75 0 [.ref k, .float 0] [] (hs t, F, G) Q := by
  refine rg75_0 hk (sp75_14 (c := F (k + 1)) hk 6 18 _ rfl (by omega) (fun i => ?_) (fun F' h1 h2 => h F' h1 (fun a ha => by rw [h2 a ha, u_n ha])))
  rw [u_s]
  by_cases e : i = 24
  · rw [if_pos e, if_pos e]
  · rw [if_neg e, if_neg e, if_neg (by omega)]
theorem sp76_2 {n : Nat} (hk : ok7 t k) (hn : n ≤ 1000) : ∀ d i F, i + d = n → (∀ F', F' (k + 1) = pys9 d (F (k + 1)) → (∀ a, a ≠ k + 1 → F' a = F a) → Q none (hs t, F', G)) → wp 76 2 [.ref k, .int (Int32.ofNat n), .int (Int32.ofNat i)] [] (hs t, F, G) Q := by
  intro d
  induction d with
  | zero =>
    intro i F hi h
    obtain rfl : i = n := by omega
    refine rg76_2 hk ⟨fun _ => h F rfl (fun _ _ => rfl), fun q => ?_⟩
    (simp (disch := omega) only [nn_lit, nn_m1, nn_add, nn_mul, nn_rem, nn_sub, nn_addm1, nn_lt, nn_le, nn_eq, nn_clamp, nn_in, nn_nem1, nn_m1ne, nn_ltm1, nn_m1lt, nn_m1le, nn_lem1, bz_0, bz_n0, not_false_eq_true, not_true_eq_false, true_and, and_true, false_and, and_false, false_implies, true_implies, forall_const, Nat.reduceMul, Nat.reduceAdd, Nat.reduceSub] at q <;> try simp only [nn_bk] at q)
    omega
  | succ d ih =>
    intro i F hi h
    refine rg76_2 hk ⟨fun q => ?_, fun _ => rg70_0 hk (rg76_11 hk ⟨fun q => ?_, fun q => sp75 hk (fun F1 h1 h2 => rg76_21 hk ?_)⟩)⟩
    · (simp (disch := omega) only [nn_lit, nn_m1, nn_add, nn_mul, nn_rem, nn_sub, nn_addm1, nn_lt, nn_le, nn_eq, nn_clamp, nn_in, nn_nem1, nn_m1ne, nn_ltm1, nn_m1lt, nn_m1le, nn_lem1, bz_0, bz_n0, not_false_eq_true, not_true_eq_false, true_and, and_true, false_and, and_false, false_implies, true_implies, forall_const, Nat.reduceMul, Nat.reduceAdd, Nat.reduceSub] at q <;> try simp only [nn_bk] at q)
      omega
    · exact h F (by rw [pys9, if_neg (Int32.not_lt.mpr q)]) (fun _ _ => rfl)
    · rw [show Int32.ofNat i + 1 = Int32.ofNat (i + 1) from nn_add i 1]
      refine ih (i + 1) F1 (by omega) (fun F' h3 h4 => h F' ?_ (fun a ha => by rw [h4 a ha, h2 a ha]))
      rw [h3, h1, pys9, if_pos q]
theorem sp76 {n : Nat} {F : ip_F} (hk : ok7 t k) (hn : n ≤ 1000) (h : ∀ F', F' (k + 1) = pys9 n (F (k + 1)) → (∀ a, a ≠ k + 1 → F' a = F a) → Q none (hs t, F', G)) : wp 76 0 [.ref k, .int (Int32.ofNat n), .float 0] [] (hs t, F, G) Q := rg76_0 hk (sp76_2 hk hn n 0 F (by omega) h)
end SP
/-! the reference's side -/
section SP
variable {t : Nat} {G : ip_G} {Q : Option Value → ip_M → Prop} {n : Nat}
theorem sp190_12 {y : Nat → Int32} (hn : n ≤ 6) : ∀ d r F, r + d = n → F 193 1 = Int32.ofNat n → (∀ i, F 199 i = if i < r then my9 (y i) else y i) → (∀ F', (∀ i, F' 199 i = if i < n then my9 (y i) else y i) → (∀ a, a ≠ 199 → F' a = F a) → Q none (hs t, F', G)) → wp 190 12 [.ref 193, .int (Int32.ofNat r)] [] (hs t, F, G) Q := by
  intro d
  induction d with
  | zero =>
    intro r F hr hb hy h
    obtain rfl : r = n := by omega
    refine rg190_12 ⟨fun _ => h F hy (fun _ _ => rfl), fun q => ?_⟩
    rw [hb] at q
    (simp (disch := omega) only [nn_lit, nn_m1, nn_add, nn_mul, nn_rem, nn_sub, nn_addm1, nn_lt, nn_le, nn_eq, nn_clamp, nn_in, nn_nem1, nn_m1ne, nn_ltm1, nn_m1lt, nn_m1le, nn_lem1, bz_0, bz_n0, not_false_eq_true, not_true_eq_false, true_and, and_true, false_and, and_false, false_implies, true_implies, forall_const, Nat.reduceMul, Nat.reduceAdd, Nat.reduceSub] at q <;> try simp only [nn_bk] at q)
    omega
  | succ d ih =>
    intro r F hr hb hy h
    refine rg190_12 ⟨fun q => ?_, fun _ => ⟨?_, sp145 (rg190_38 ⟨?_, ?_⟩)⟩⟩
    · rw [hb] at q
      (simp (disch := omega) only [nn_lit, nn_m1, nn_add, nn_mul, nn_rem, nn_sub, nn_addm1, nn_lt, nn_le, nn_eq, nn_clamp, nn_in, nn_nem1, nn_m1ne, nn_ltm1, nn_m1lt, nn_m1le, nn_lem1, bz_0, bz_n0, not_false_eq_true, not_true_eq_false, true_and, and_true, false_and, and_false, false_implies, true_implies, forall_const, Nat.reduceMul, Nat.reduceAdd, Nat.reduceSub] at q <;> try simp only [nn_bk] at q)
      omega
    · (simp (disch := omega) only [nn_lit, nn_m1, nn_add, nn_mul, nn_rem, nn_sub, nn_addm1, nn_lt, nn_le, nn_eq, nn_clamp, nn_in, nn_nem1, nn_m1ne, nn_ltm1, nn_m1lt, nn_m1le, nn_lem1, bz_0, bz_n0, not_false_eq_true, not_true_eq_false, true_and, and_true, false_and, and_false, false_implies, true_implies, forall_const, Nat.reduceMul, Nat.reduceAdd, Nat.reduceSub] <;> try simp only [nn_bk])
      omega
    · (simp (disch := omega) only [nn_lit, nn_m1, nn_add, nn_mul, nn_rem, nn_sub, nn_addm1, nn_lt, nn_le, nn_eq, nn_clamp, nn_in, nn_nem1, nn_m1ne, nn_ltm1, nn_m1lt, nn_m1le, nn_lem1, bz_0, bz_n0, not_false_eq_true, not_true_eq_false, true_and, and_true, false_and, and_false, false_implies, true_implies, forall_const, Nat.reduceMul, Nat.reduceAdd, Nat.reduceSub] <;> try simp only [nn_bk])
      omega
    · rw [show Int32.ofNat r + 1 = Int32.ofNat (r + 1) from nn_add r 1, nn_clamp (by omega)]
      refine ih (r + 1) _ (by omega) (by rw [u_n (by decide), hb]) (fun i => ?_) (fun F' h3 h4 => h F' h3 (fun a ha => by rw [h4 a ha, u_n ha]))
      rw [u_s]
      by_cases e : i = r
      · subst e
        rw [if_pos rfl]
        show my9 (F 199 i) = _
        rw [if_pos (by omega), hy, if_neg (by omega)]
      · rw [if_neg e, hy]
        by_cases e2 : i < r
        · rw [if_pos e2, if_pos (by omega)]
        · rw [if_neg e2, if_neg (by omega)]
theorem sp190 {F : ip_F} (hn : n ≤ 6) (hb : F 193 1 = Int32.ofNat n) (h : ∀ F', (∀ i, F' 199 i = if i < n then my9 (F 199 i) else F 199 i) → F' 193 = ups (F 193) 2 (F 193 2 + 1) → (∀ a, a ≠ 199 → a ≠ 193 → F' a = F a) → Q none (hs t, F', G)) : wp 190 0 [.ref 193, .float 0] [] (hs t, F, G) Q := by
  refine rg190_0 (sp190_12 (y := F 199) hn n 0 _ (by omega) ?_ (fun i => ?_) (fun F' h1 h2 => h F' h1 ?_ (fun a ha ha2 => by rw [h2 a ha, u_n ha2])))
  · rw [u_ups, ups, if_neg (by decide), hb]
  · rw [u_n (by decide), if_neg (by omega)]
  · rw [h2 193 (by decide), u_ups]
/-- a year on: the same ropes on both sides stay the same -/
theorem sr_py {c : Nat → Int32} {F F' : ip_F} (hn : n ≤ 6) (h : SR9 n c (mr9 F)) (h1 : ∀ i, F' 199 i = if i < n then my9 (F 199 i) else F 199 i) (h2 : F' 193 = ups (F 193) 2 (F 193 2 + 1)) (h3 : ∀ a, a ≠ 199 → a ≠ 193 → F' a = F a) : SR9 n (py9 c) (mr9 F') := by
  intro i hi
  unfold py9
  by_cases e24 : i = 24
  · subst e24
    rw [if_pos rfl, h 24 (by omega), mr_24, mr_24, h2, ups, if_pos rfl]
  · rw [if_neg e24]
    by_cases e3 : 18 ≤ i ∧ i < 24
    · rw [if_pos e3, h i hi]
      obtain ⟨r, rfl⟩ : ∃ r, i = 18 + r := ⟨i - 18, by omega⟩
      rw [mr_18 (by omega), mr_18 (by omega), h1, if_pos (by omega)]
    · rw [if_neg e3, h i hi]
      unfold mr9
      rw [h3 196 (by decide) (by decide), h3 197 (by decide) (by decide), h3 198 (by decide) (by decide)]
      by_cases e6 : i < 6
      · rw [if_pos e6, if_pos e6]
      · rw [if_neg e6, if_neg e6]
        by_cases e12 : i < 12
        · rw [if_pos e12, if_pos e12]
        · rw [if_neg e12, if_neg e12, if_pos (by omega), if_pos (by omega)]
end SP
