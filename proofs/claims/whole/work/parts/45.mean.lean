/-! ===== the rows that a method means: both sides ===== -/
section SP
variable {t : Nat} {G : ip_G} {Q : Option Value → ip_M → Prop} {n : Nat}
theorem sp177_27 {row : Nat} {c : Nat → Int32} (hn4 : 4 ≤ n) (hn : n ≤ 6) (hrow : row ≤ 12) : ∀ d k F v3 v4, k + d = row → F 193 1 = Int32.ofNat n → F 195 = c → (∀ x, x < n → F 205 x = mu9 n c k x) → (∀ F', (∀ x, x < n → F' 205 x = mu9 n c row x) → (∀ x, x ≠ 205 → F' x = F x) → Q none (hs t, F', G)) → wp 177 27 [.ref 193, .int (Int32.ofNat row), .int (Int32.ofNat k), v3, v4] [] (hs t, F, G) Q := by
  intro d
  induction d with
  | zero =>
    intro k F v3 v4 hk hb hc hr h
    obtain rfl : k = row := by omega
    refine rg177_27 ⟨fun _ => h F hr (fun _ _ => rfl), fun q => ?_⟩
    (simp (disch := omega) only [nn_lit, nn_m1, nn_add, nn_mul, nn_rem, nn_sub, nn_addm1, nn_lt, nn_le, nn_eq, nn_clamp, nn_in, nn_nem1, nn_m1ne, nn_ltm1, nn_m1lt, nn_m1le, nn_lem1, bz_0, bz_n0, not_false_eq_true, not_true_eq_false, true_and, and_true, false_and, and_false, false_implies, true_implies, forall_const, Nat.reduceMul, Nat.reduceAdd, Nat.reduceSub] at q <;> try simp only [nn_bk] at q)
    omega
  | succ d ih =>
    intro k F v3 v4 hk hb hc hr h
    have hm : k % 6 < 6 := Nat.mod_lt _ (by decide)
    have key : wp 177 54 [.ref 193, .int (Int32.ofNat row), .int (Int32.ofNat k), .int (c (k % 6)), .int (Int32.ofNat (sw0 (c (k % 6))))] [] (hs t, F, G) Q := by
      have h0 : sw0 (c (k % 6)) ≤ 1 := by
        unfold sw0
        split <;> omega
      have hE : swE n (c (k % 6)) ≤ n := swE_le (by omega)
      refine sp177_54 hn4 hn 3 _ F (by omega) (by omega) (fun e => ?_) hb (fun F' p h1 h2 => ?_)
      · rw [e]
        decide
      · rw [show Int32.ofNat k + 1 = Int32.ofNat (k + 1) from nn_add k 1]
        refine ih (k + 1) F' _ _ (by omega) (by rw [h2 193 (by decide), hb]) (by rw [h2 195 (by decide), hc]) (fun x hx => ?_) (fun F'' h3 h4 => h F'' h3 (fun x hx => by rw [h4 x hx, h2 x hx]))
        rw [h1]
        exact sw9_agree (by omega) hr x hx
    refine rg177_27 ⟨fun q => ?_, fun _ => ⟨?_, fun e => rg177_52 ?_, fun e => rg177_52 ?_⟩⟩
    · (simp (disch := omega) only [nn_lit, nn_m1, nn_add, nn_mul, nn_rem, nn_sub, nn_addm1, nn_lt, nn_le, nn_eq, nn_clamp, nn_in, nn_nem1, nn_m1ne, nn_ltm1, nn_m1lt, nn_m1le, nn_lem1, bz_0, bz_n0, not_false_eq_true, not_true_eq_false, true_and, and_true, false_and, and_false, false_implies, true_implies, forall_const, Nat.reduceMul, Nat.reduceAdd, Nat.reduceSub] at q <;> try simp only [nn_bk] at q)
      omega
    · (simp (disch := omega) only [nn_lit, nn_m1, nn_add, nn_mul, nn_rem, nn_sub, nn_addm1, nn_lt, nn_le, nn_eq, nn_clamp, nn_in, nn_nem1, nn_m1ne, nn_ltm1, nn_m1lt, nn_m1le, nn_lem1, bz_0, bz_n0, not_false_eq_true, not_true_eq_false, true_and, and_true, false_and, and_false, false_implies, true_implies, forall_const, Nat.reduceMul, Nat.reduceAdd, Nat.reduceSub] <;> try simp only [nn_bk])
      exact hm
    · rw [hc] at e ⊢
      (simp (disch := omega) only [nn_lit, nn_m1, nn_add, nn_mul, nn_rem, nn_sub, nn_addm1, nn_lt, nn_le, nn_eq, nn_clamp, nn_in, nn_nem1, nn_m1ne, nn_ltm1, nn_m1lt, nn_m1le, nn_lem1, bz_0, bz_n0, not_false_eq_true, not_true_eq_false, true_and, and_true, false_and, and_false, false_implies, true_implies, forall_const, Nat.reduceMul, Nat.reduceAdd, Nat.reduceSub] at e <;> try simp only [nn_bk] at e)
      (simp (disch := omega) only [nn_lit, nn_m1, nn_add, nn_mul, nn_rem, nn_sub, nn_addm1, nn_lt, nn_le, nn_eq, nn_clamp, nn_in, nn_nem1, nn_m1ne, nn_ltm1, nn_m1lt, nn_m1le, nn_lem1, bz_0, bz_n0, not_false_eq_true, not_true_eq_false, true_and, and_true, false_and, and_false, false_implies, true_implies, forall_const, Nat.reduceMul, Nat.reduceAdd, Nat.reduceSub] <;> try simp only [nn_bk])
      rw [show sw0 (c (k % 6)) = 0 from if_neg e] at key
      exact key
    · rw [hc] at e ⊢
      (simp (disch := omega) only [nn_lit, nn_m1, nn_add, nn_mul, nn_rem, nn_sub, nn_addm1, nn_lt, nn_le, nn_eq, nn_clamp, nn_in, nn_nem1, nn_m1ne, nn_ltm1, nn_m1lt, nn_m1le, nn_lem1, bz_0, bz_n0, not_false_eq_true, not_true_eq_false, true_and, and_true, false_and, and_false, false_implies, true_implies, forall_const, Nat.reduceMul, Nat.reduceAdd, Nat.reduceSub] at e <;> try simp only [nn_bk] at e)
      (simp (disch := omega) only [nn_lit, nn_m1, nn_add, nn_mul, nn_rem, nn_sub, nn_addm1, nn_lt, nn_le, nn_eq, nn_clamp, nn_in, nn_nem1, nn_m1ne, nn_ltm1, nn_m1lt, nn_m1le, nn_lem1, bz_0, bz_n0, not_false_eq_true, not_true_eq_false, true_and, and_true, false_and, and_false, false_implies, true_implies, forall_const, Nat.reduceMul, Nat.reduceAdd, Nat.reduceSub] <;> try simp only [nn_bk])
      rw [show sw0 (c (k % 6)) = 1 from if_pos e] at key
      exact key
theorem sp177_2 {row : Nat} {c : Nat → Int32} (hn4 : 4 ≤ n) (hn : n ≤ 6) (hrow : row ≤ 12) : ∀ d k F v3 v4, k + d = n → F 193 1 = Int32.ofNat n → F 195 = c → (∀ x, x < k → F 205 x = Int32.ofNat (x + 1)) → (∀ F', (∀ x, x < n → F' 205 x = mu9 n c row x) → (∀ x, x ≠ 205 → F' x = F x) → Q none (hs t, F', G)) → wp 177 2 [.ref 193, .int (Int32.ofNat row), .int (Int32.ofNat k), v3, v4] [] (hs t, F, G) Q := by
  intro d
  induction d with
  | zero =>
    intro k F v3 v4 hk hb hc hr h
    obtain rfl : k = n := by omega
    refine rg177_2 ⟨fun _ => sp177_27 hn4 hn hrow row 0 F _ _ (by omega) hb hc hr h, fun q => ?_⟩
    rw [hb] at q
    (simp (disch := omega) only [nn_lit, nn_m1, nn_add, nn_mul, nn_rem, nn_sub, nn_addm1, nn_lt, nn_le, nn_eq, nn_clamp, nn_in, nn_nem1, nn_m1ne, nn_ltm1, nn_m1lt, nn_m1le, nn_lem1, bz_0, bz_n0, not_false_eq_true, not_true_eq_false, true_and, and_true, false_and, and_false, false_implies, true_implies, forall_const, Nat.reduceMul, Nat.reduceAdd, Nat.reduceSub] at q <;> try simp only [nn_bk] at q)
    omega
  | succ d ih =>
    intro k F v3 v4 hk hb hc hr h
    refine rg177_2 ⟨fun q => ?_, fun _ => ⟨?_, ?_⟩⟩
    · rw [hb] at q
      (simp (disch := omega) only [nn_lit, nn_m1, nn_add, nn_mul, nn_rem, nn_sub, nn_addm1, nn_lt, nn_le, nn_eq, nn_clamp, nn_in, nn_nem1, nn_m1ne, nn_ltm1, nn_m1lt, nn_m1le, nn_lem1, bz_0, bz_n0, not_false_eq_true, not_true_eq_false, true_and, and_true, false_and, and_false, false_implies, true_implies, forall_const, Nat.reduceMul, Nat.reduceAdd, Nat.reduceSub] at q <;> try simp only [nn_bk] at q)
      omega
    · (simp (disch := omega) only [nn_lit, nn_m1, nn_add, nn_mul, nn_rem, nn_sub, nn_addm1, nn_lt, nn_le, nn_eq, nn_clamp, nn_in, nn_nem1, nn_m1ne, nn_ltm1, nn_m1lt, nn_m1le, nn_lem1, bz_0, bz_n0, not_false_eq_true, not_true_eq_false, true_and, and_true, false_and, and_false, false_implies, true_implies, forall_const, Nat.reduceMul, Nat.reduceAdd, Nat.reduceSub] <;> try simp only [nn_bk])
      omega
    · (simp (disch := omega) only [nn_lit, nn_m1, nn_add, nn_mul, nn_rem, nn_sub, nn_addm1, nn_lt, nn_le, nn_eq, nn_clamp, nn_in, nn_nem1, nn_m1ne, nn_ltm1, nn_m1lt, nn_m1le, nn_lem1, bz_0, bz_n0, not_false_eq_true, not_true_eq_false, true_and, and_true, false_and, and_false, false_implies, true_implies, forall_const, Nat.reduceMul, Nat.reduceAdd, Nat.reduceSub] <;> try simp only [nn_bk])
      refine ih (k + 1) _ _ _ (by omega) (by rw [u_n (by decide), hb]) (by rw [u_n (by decide), hc]) (fun x hx => ?_) (fun F' h1 h2 => h F' h1 (fun x hx => by rw [h2 x hx, u_n hx]))
      rw [u_s]
      by_cases e : x = k
      · rw [if_pos e, e]
      · rw [if_neg e]
        exact hr x (by omega)
theorem sp177 {F : ip_F} {row : Nat} {c : Nat → Int32} (hn4 : 4 ≤ n) (hn : n ≤ 6) (hrow : row ≤ 12) (hb : F 193 1 = Int32.ofNat n) (hc : F 195 = c) (h : ∀ F', (∀ x, x < n → F' 205 x = mu9 n c row x) → (∀ x, x ≠ 205 → F' x = F x) → Q none (hs t, F', G)) : wp 177 0 [.ref 193, .int (Int32.ofNat row), .float 0, .float 0, .float 0] [] (hs t, F, G) Q :=
  rg177_0 (sp177_2 hn4 hn hrow n 0 F _ _ (by omega) hb hc (fun x hx => absurd hx (by omega)) h)
theorem sp181 {F : ip_F} {row : Nat} {c : Nat → Int32} (hn4 : 4 ≤ n) (hn : n ≤ 6) (hrow : row ≤ 12) (hb : F 193 1 = Int32.ofNat n) (hc : F 195 = c) (h : ∀ F', (∀ x, x ≠ 205 → F' x = F x) → Q (some (.int (nm9 (mu9 n c row) n))) (hs t, F', G)) : wp 181 0 [.ref 193, .int (Int32.ofNat row)] [] (hs t, F, G) Q := by
  refine rg181_0 (sp177 hn4 hn hrow hb hc (fun F' h1 h2 => rg181_5 (sp180 hn (by rw [h2 193 (by decide), hb]) (rg181_9 ?_))))
  rw [nm_agree n h1]
  exact h F' h2
/-! the class's peal: rows 91 .. 102, numbers 116, makers 118, bells (89, 5) -/
theorem cp_6 {f g : Nat → Int32} : ∀ x, x < 6 → va_cpy f g 0 0 6 x = f x := by
  intro x hx
  unfold va_cpy
  rw [if_pos (by omega), show 0 + (x - 0) = x by omega]
/-- not a cell that the peal means in -/
abbrev nmn (x : Nat) : Prop := x ≠ 89 ∧ x ≠ 116 ∧ x ≠ 118 ∧ (x < 91 ∨ 102 < x)
/-- what the peal holds behind mean -/
abbrev Mn9 (n : Nat) (c : Nat → Int32) (F : ip_F) : Prop := F 89 5 = Int32.ofNat n ∧ (∀ k, k < 12 → ∀ x, x < n → F (91 + k) x = mu9 n c k x) ∧ (∀ k, k < 12 → F 116 k = nm9 (mu9 n c k) n) ∧ (∀ x, x < n → F 118 x = Int32.ofNat (x + 1))
theorem sp22_64 {a : Nat} {a1 : Int32} {c : Nat → Int32} (ha : (hs t)[a]? = some (1, 0, [6])) (ha2 : nmn a) (hn4 : 4 ≤ n) (hn : n ≤ 6) : ∀ d k F v, k + d = 12 → 1 ≤ k → F 89 5 = Int32.ofNat n → F a = c → (∀ x, x < n → F 118 x = Int32.ofNat (x + 1)) → (∀ q, q < k → ∀ x, x < n → F (91 + q) x = mu9 n c q x) → (∀ q, q < k → F 116 q = nm9 (mu9 n c q) n) → (∀ F', Mn9 n c F' → (∀ x, nmn x → F' x = F x) → Q none (hs t, F', G)) → wp 22 64 [.ref 89, .int a1, .ref a, .int (Int32.ofNat k), v] [] (hs t, F, G) Q := by
  intro d
  induction d with
  | zero =>
    intro k F v hk h1 hb hc hm hr hu h
    obtain rfl : k = 12 := by omega
    exact rg22_64 ha ⟨fun _ => h F ⟨hb, hr, hu, hm⟩ (fun _ _ => rfl), fun q => absurd q (by decide)⟩
  | succ d ih =>
    intro k F v hk h1 hb hc hm hr hu h
    have hm6 : (k - 1) % 6 < 6 := Nat.mod_lt _ (by decide)
    refine rg22_64 ha ⟨fun q => ?_, fun _ => ⟨?_, ?_, ?_, fun q => ?_, fun _ => ⟨?_, ?_⟩⟩⟩
    · (simp (disch := omega) only [nn_lit, nn_m1, nn_add, nn_mul, nn_rem, nn_sub, nn_addm1, nn_lt, nn_le, nn_eq, nn_clamp, nn_in, nn_nem1, nn_m1ne, nn_ltm1, nn_m1lt, nn_m1le, nn_lem1, bz_0, bz_n0, not_false_eq_true, not_true_eq_false, true_and, and_true, false_and, and_false, false_implies, true_implies, forall_const, Nat.reduceMul, Nat.reduceAdd, Nat.reduceSub] at q <;> try simp only [nn_bk] at q)
      omega
    · (simp (disch := omega) only [nn_lit, nn_m1, nn_add, nn_mul, nn_rem, nn_sub, nn_addm1, nn_lt, nn_le, nn_eq, nn_clamp, nn_in, nn_nem1, nn_m1ne, nn_ltm1, nn_m1lt, nn_m1le, nn_lem1, bz_0, bz_n0, not_false_eq_true, not_true_eq_false, true_and, and_true, false_and, and_false, false_implies, true_implies, forall_const, Nat.reduceMul, Nat.reduceAdd, Nat.reduceSub] <;> try simp only [nn_bk])
      omega
    · (simp (disch := omega) only [nn_lit, nn_m1, nn_add, nn_mul, nn_rem, nn_sub, nn_addm1, nn_lt, nn_le, nn_eq, nn_clamp, nn_in, nn_nem1, nn_m1ne, nn_ltm1, nn_m1lt, nn_m1le, nn_lem1, bz_0, bz_n0, not_false_eq_true, not_true_eq_false, true_and, and_true, false_and, and_false, false_implies, true_implies, forall_const, Nat.reduceMul, Nat.reduceAdd, Nat.reduceSub] <;> try simp only [nn_bk])
      omega
    · (simp (disch := omega) only [nn_lit, nn_m1, nn_add, nn_mul, nn_rem, nn_sub, nn_addm1, nn_lt, nn_le, nn_eq, nn_clamp, nn_in, nn_nem1, nn_m1ne, nn_ltm1, nn_m1lt, nn_m1le, nn_lem1, bz_0, bz_n0, not_false_eq_true, not_true_eq_false, true_and, and_true, false_and, and_false, false_implies, true_implies, forall_const, Nat.reduceMul, Nat.reduceAdd, Nat.reduceSub] <;> try simp only [nn_bk])
      omega
    · (simp (disch := omega) only [nn_lit, nn_m1, nn_add, nn_mul, nn_rem, nn_sub, nn_addm1, nn_lt, nn_le, nn_eq, nn_clamp, nn_in, nn_nem1, nn_m1ne, nn_ltm1, nn_m1lt, nn_m1le, nn_lem1, bz_0, bz_n0, not_false_eq_true, not_true_eq_false, true_and, and_true, false_and, and_false, false_implies, true_implies, forall_const, Nat.reduceMul, Nat.reduceAdd, Nat.reduceSub] at q <;> try simp only [nn_bk] at q)
      omega
    · (simp (disch := omega) only [nn_lit, nn_m1, nn_add, nn_mul, nn_rem, nn_sub, nn_addm1, nn_lt, nn_le, nn_eq, nn_clamp, nn_in, nn_nem1, nn_m1ne, nn_ltm1, nn_m1lt, nn_m1le, nn_lem1, bz_0, bz_n0, not_false_eq_true, not_true_eq_false, true_and, and_true, false_and, and_false, false_implies, true_implies, forall_const, Nat.reduceMul, Nat.reduceAdd, Nat.reduceSub] <;> try simp only [nn_bk])
      exact hm6
    · (simp (disch := omega) only [nn_lit, nn_m1, nn_add, nn_mul, nn_rem, nn_sub, nn_addm1, nn_lt, nn_le, nn_eq, nn_clamp, nn_in, nn_nem1, nn_m1ne, nn_ltm1, nn_m1lt, nn_m1le, nn_lem1, bz_0, bz_n0, not_false_eq_true, not_true_eq_false, true_and, and_true, false_and, and_false, false_implies, true_implies, forall_const, Nat.reduceMul, Nat.reduceAdd, Nat.reduceSub] <;> try simp only [nn_bk])
      rw [ur_n (show a ≠ 91 + k by have := ha2.2.2.2; omega), hc]
      refine rg22_121 ha (hs_r91 t k (by omega)) (sp23 (hs_r91 t k (by omega)) hn (by rw [ur_n (by omega), hb]) (fun F1 g1 g2 => ?_))
      rw [ur_s] at g1
      have hrow : ∀ x, x < n → F1 (91 + k) x = mu9 n c k x := by
        intro x hx
        obtain ⟨k', rfl⟩ : ∃ k', k = k' + 1 := ⟨k - 1, by omega⟩
        rw [g1]
        show sw9 n (c (k' % 6)) _ x = sw9 n (c (k' % 6)) (mu9 n c k') x
        refine sw9_agree (by omega) (fun y hy => ?_) x hx
        rw [cp_6 y (by omega)]
        exact hr k' (by omega) y hy
      have hfr : ∀ x, x ≠ 91 + k → F1 x = F x := fun x hx => by rw [g2 x hx, ur_n hx]
      refine rg22_124 ha ⟨?_, ?_⟩
      · (simp (disch := omega) only [nn_lit, nn_m1, nn_add, nn_mul, nn_rem, nn_sub, nn_addm1, nn_lt, nn_le, nn_eq, nn_clamp, nn_in, nn_nem1, nn_m1ne, nn_ltm1, nn_m1lt, nn_m1le, nn_lem1, bz_0, bz_n0, not_false_eq_true, not_true_eq_false, true_and, and_true, false_and, and_false, false_implies, true_implies, forall_const, Nat.reduceMul, Nat.reduceAdd, Nat.reduceSub] <;> try simp only [nn_bk])
        omega
      · (simp (disch := omega) only [nn_lit, nn_m1, nn_add, nn_mul, nn_rem, nn_sub, nn_addm1, nn_lt, nn_le, nn_eq, nn_clamp, nn_in, nn_nem1, nn_m1ne, nn_ltm1, nn_m1lt, nn_m1le, nn_lem1, bz_0, bz_n0, not_false_eq_true, not_true_eq_false, true_and, and_true, false_and, and_false, false_implies, true_implies, forall_const, Nat.reduceMul, Nat.reduceAdd, Nat.reduceSub] <;> try simp only [nn_bk])
        refine sp28 (hs_r91 t k (by omega)) hn (by rw [hfr 89 (by omega), hb]) (rg22_139 ha ⟨?_, ?_⟩)
        · (simp (disch := omega) only [nn_lit, nn_m1, nn_add, nn_mul, nn_rem, nn_sub, nn_addm1, nn_lt, nn_le, nn_eq, nn_clamp, nn_in, nn_nem1, nn_m1ne, nn_ltm1, nn_m1lt, nn_m1le, nn_lem1, bz_0, bz_n0, not_false_eq_true, not_true_eq_false, true_and, and_true, false_and, and_false, false_implies, true_implies, forall_const, Nat.reduceMul, Nat.reduceAdd, Nat.reduceSub] <;> try simp only [nn_bk])
          omega
        · (simp (disch := omega) only [nn_lit, nn_m1, nn_add, nn_mul, nn_rem, nn_sub, nn_addm1, nn_lt, nn_le, nn_eq, nn_clamp, nn_in, nn_nem1, nn_m1ne, nn_ltm1, nn_m1lt, nn_m1le, nn_lem1, bz_0, bz_n0, not_false_eq_true, not_true_eq_false, true_and, and_true, false_and, and_false, false_implies, true_implies, forall_const, Nat.reduceMul, Nat.reduceAdd, Nat.reduceSub] <;> try simp only [nn_bk])
          rw [nm_agree n hrow]
          refine ih (k + 1) _ _ (by omega) (by omega) (by rw [u_n (by decide), hfr 89 (by omega), hb]) (by rw [u_n ha2.2.1, hfr a (by have := ha2.2.2.2; omega), hc]) (fun x hx => by rw [u_n (by decide), hfr 118 (by omega)]; exact hm x hx) (fun q hq x hx => ?_) (fun q hq => ?_) (fun F' hM hF => h F' hM (fun x hx => by rw [hF x hx, u_n hx.2.1, hfr x (by have := hx.2.2.2; omega)]))
          · rw [u_n (by omega)]
            by_cases e : q = k
            · subst e
              exact hrow x hx
            · rw [hfr _ (by omega)]
              exact hr q (by omega) x hx
          · rw [u_s]
            by_cases e : q = k
            · rw [if_pos e, e]
            · rw [if_neg e, hfr 116 (by omega)]
              exact hu q (by omega)
theorem sp22_12 {a : Nat} {a1 : Int32} {c : Nat → Int32} (ha : (hs t)[a]? = some (1, 0, [6])) (ha2 : nmn a) (hn4 : 4 ≤ n) (hn : n ≤ 6) : ∀ d k F v, k + d = n → F 89 5 = Int32.ofNat n → F a = c → (∀ x, x < k → F 118 x = Int32.ofNat (x + 1)) → (∀ x, x < k → F 91 x = Int32.ofNat (x + 1)) → (∀ F', Mn9 n c F' → (∀ x, nmn x → F' x = F x) → Q none (hs t, F', G)) → wp 22 12 [.ref 89, .int a1, .ref a, .int (Int32.ofNat k), v] [] (hs t, F, G) Q := by
  intro d
  induction d with
  | zero =>
    intro k F v hk hb hc hm hr h
    obtain rfl : k = n := by omega
    refine rg22_12 ha ⟨fun _ => ?_, fun q => ?_⟩
    · refine sp28 (a := 91) (hs_r91 t 0 (by omega)) hn hb (rg22_61 ha ⟨vp_d rfl, ?_⟩)
      refine sp22_64 ha ha2 hn4 hn 11 1 _ _ rfl (by omega) (by rw [u_n (by decide), hb]) (by rw [u_n ha2.2.1, hc]) (fun x hx => by rw [u_n (by decide)]; exact hm x hx) (fun q hq x hx => ?_) (fun q hq => ?_) (fun F' hM hF => h F' hM (fun x hx => by rw [hF x hx, u_n hx.2.1]))
      · obtain rfl : q = 0 := by omega
        rw [u_n (by decide)]
        exact hr x hx
      · obtain rfl : q = 0 := by omega
        rw [u_s]
        exact (if_pos rfl).trans (nm_agree _ hr)
    · rw [hb] at q
      (simp (disch := omega) only [nn_lit, nn_m1, nn_add, nn_mul, nn_rem, nn_sub, nn_addm1, nn_lt, nn_le, nn_eq, nn_clamp, nn_in, nn_nem1, nn_m1ne, nn_ltm1, nn_m1lt, nn_m1le, nn_lem1, bz_0, bz_n0, not_false_eq_true, not_true_eq_false, true_and, and_true, false_and, and_false, false_implies, true_implies, forall_const, Nat.reduceMul, Nat.reduceAdd, Nat.reduceSub] at q <;> try simp only [nn_bk] at q)
      omega
  | succ d ih =>
    intro k F v hk hb hc hm hr h
    refine rg22_12 ha ⟨fun q => ?_, fun _ => ⟨?_, ?_, ?_⟩⟩
    · rw [hb] at q
      (simp (disch := omega) only [nn_lit, nn_m1, nn_add, nn_mul, nn_rem, nn_sub, nn_addm1, nn_lt, nn_le, nn_eq, nn_clamp, nn_in, nn_nem1, nn_m1ne, nn_ltm1, nn_m1lt, nn_m1le, nn_lem1, bz_0, bz_n0, not_false_eq_true, not_true_eq_false, true_and, and_true, false_and, and_false, false_implies, true_implies, forall_const, Nat.reduceMul, Nat.reduceAdd, Nat.reduceSub] at q <;> try simp only [nn_bk] at q)
      omega
    · (simp (disch := omega) only [nn_lit, nn_m1, nn_add, nn_mul, nn_rem, nn_sub, nn_addm1, nn_lt, nn_le, nn_eq, nn_clamp, nn_in, nn_nem1, nn_m1ne, nn_ltm1, nn_m1lt, nn_m1le, nn_lem1, bz_0, bz_n0, not_false_eq_true, not_true_eq_false, true_and, and_true, false_and, and_false, false_implies, true_implies, forall_const, Nat.reduceMul, Nat.reduceAdd, Nat.reduceSub] <;> try simp only [nn_bk])
      omega
    · (simp (disch := omega) only [nn_lit, nn_m1, nn_add, nn_mul, nn_rem, nn_sub, nn_addm1, nn_lt, nn_le, nn_eq, nn_clamp, nn_in, nn_nem1, nn_m1ne, nn_ltm1, nn_m1lt, nn_m1le, nn_lem1, bz_0, bz_n0, not_false_eq_true, not_true_eq_false, true_and, and_true, false_and, and_false, false_implies, true_implies, forall_const, Nat.reduceMul, Nat.reduceAdd, Nat.reduceSub] <;> try simp only [nn_bk])
      omega
    · (simp (disch := omega) only [nn_lit, nn_m1, nn_add, nn_mul, nn_rem, nn_sub, nn_addm1, nn_lt, nn_le, nn_eq, nn_clamp, nn_in, nn_nem1, nn_m1ne, nn_ltm1, nn_m1lt, nn_m1le, nn_lem1, bz_0, bz_n0, not_false_eq_true, not_true_eq_false, true_and, and_true, false_and, and_false, false_implies, true_implies, forall_const, Nat.reduceMul, Nat.reduceAdd, Nat.reduceSub] <;> try simp only [nn_bk])
      refine ih (k + 1) _ _ (by omega) (by rw [u_n (by decide), u_n (by decide), hb]) (by rw [u_n ha2.2.2.1, u_n (by have := ha2.2.2.2; omega), hc]) (fun x hx => ?_) (fun x hx => ?_) (fun F' hM hF => h F' hM (fun x hx => by rw [hF x hx, u_n hx.2.2.1, u_n (by have := hx.2.2.2; omega)]))
      · rw [u_s]
        by_cases e : x = k
        · rw [if_pos e, e]
        · rw [if_neg e, u_n (by decide)]
          exact hm x (by omega)
      · rw [u_n (by decide), u_s]
        by_cases e : x = k
        · rw [if_pos e, e]
        · rw [if_neg e]
          exact hr x (by omega)
theorem sp22 {F : ip_F} {a : Nat} {c : Nat → Int32} (ha : (hs t)[a]? = some (1, 0, [6])) (ha2 : nmn a) (hn4 : 4 ≤ n) (hn : n ≤ 6) (hc : F a = c) (h : ∀ F', Mn9 n c F' → (∀ x, nmn x → F' x = F x) → Q none (hs t, F', G)) : wp 22 0 [.ref 89, .int (Int32.ofNat n), .ref a, .float 0, .float 0] [] (hs t, F, G) Q := by
  refine rg22_0 ha ?_
  have e : (if (6 : Int32) < Int32.ofNat n then (6 : Int32) else Int32.ofNat n) = Int32.ofNat n := by
    rw [if_neg]
    intro q
    (simp (disch := omega) only [nn_lit, nn_m1, nn_add, nn_mul, nn_rem, nn_sub, nn_addm1, nn_lt, nn_le, nn_eq, nn_clamp, nn_in, nn_nem1, nn_m1ne, nn_ltm1, nn_m1lt, nn_m1le, nn_lem1, bz_0, bz_n0, not_false_eq_true, not_true_eq_false, true_and, and_true, false_and, and_false, false_implies, true_implies, forall_const, Nat.reduceMul, Nat.reduceAdd, Nat.reduceSub] at q <;> try simp only [nn_bk] at q)
    omega
  rw [e]
  exact sp22_12 ha ha2 hn4 hn n 0 _ _ (by omega) (by rw [u_s, if_pos rfl]) (by rw [u_n ha2.1, hc]) (fun x hx => absurd hx (by omega)) (fun x hx => absurd hx (by omega)) (fun F' hM hF => h F' hM (fun x hx => by rw [hF x hx, u_n hx.1]))
end SP
