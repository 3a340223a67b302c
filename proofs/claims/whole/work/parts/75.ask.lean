/-! ===== the question that tells most: ask ===== -/
/-- from k on, the first place with the least of f, b with m so far -/
def mn9 (f val : Nat → Nat) : Nat → Nat → Int32 → Nat → Int32
  | 0, _, b, _ => b
  | d + 1, k, b, m => if f k < m then mn9 f val d (k + 1) (Int32.ofNat (val k)) (f k) else mn9 f val d (k + 1) b m
theorem mn_congr {f g val : Nat → Nat} {N : Nat} (h : ∀ k, k < N → f k = g k) : ∀ d k b m, k + d ≤ N → mn9 f val d k b m = mn9 g val d k b m
  | 0, _, _, _, _ => rfl
  | d + 1, k, b, m, hk => by rw [mn9, mn9, h k (by omega), mn_congr h d (k + 1) _ _ (by omega), mn_congr h d (k + 1) _ _ (by omega)]
/-- what the class holds beside it: none yet, and its first bound -/
def CF9 (B : Nat) (b : Int32) (m few : Nat) : Prop := (b = -1 ∧ m = 1048576 ∧ few = B) ∨ (¬ b = -1 ∧ few = m)
theorem cf_step {B : Nat} {b : Int32} {m few v k : Nat} (h : CF9 B b m few) (hk : k < 1048576) (hv : v < 2147483648) (hl : k < m) : CF9 B (Int32.ofNat v) k k := Or.inr ⟨nn_nem1 hv, rfl⟩
def pk9 (S y t : Nat) (k : Nat) : Bool := S.testBit k && mk9 (Int32.ofNat k) (Int32.ofNat y) (Int32.ofNat t)
def gp9 (S y t : Nat) : Nat := max (cn9 (pk9 S y t) 6) (nb9 S - cn9 (pk9 S y t) 6)
theorem cn_mono {P P' : Nat → Bool} : ∀ n, (∀ r, r < n → P r = true → P' r = true) → cn9 P n ≤ cn9 P' n
  | 0, _ => Nat.le_refl 0
  | n + 1, h => by
    have h1 := cn_mono n (fun r hr => h r (by omega))
    have h2 := h n (by omega)
    rw [cn9, cn9]
    by_cases e : P n = true
    · rw [if_pos e, if_pos (h2 e)]
      omega
    · rw [if_neg e]
      omega
theorem cn_bits : ∀ S : Fin 64, cn9 (fun k => S.val.testBit k) 6 = nb9 S.val := by decide +kernel
theorem pkl9 {S y t : Nat} (hS : S < 64) : cn9 (pk9 S y t) 6 ≤ nb9 S := by
  rw [← cn_bits ⟨S, hS⟩]
  refine cn_mono 6 (fun r _ h => ?_)
  unfold pk9 at h
  rw [Bool.and_eq_true] at h
  exact h.1
theorem nb_le (S : Nat) : nb9 S ≤ 6 := by
  unfold nb9
  omega
theorem gp_le {S y t : Nat} (hS : S < 64) : gp9 S y t ≤ 6 := by
  have h1 := pkl9 (y := y) (t := t) hS
  have h2 := nb_le S
  unfold gp9
  omega
section SP
variable {t : Nat} {F : ip_F} {G : ip_G} {Q : Option Value → ip_M → Prop} {n : Nat}
theorem sp14 {S y T : Nat} (hS : S < 64) (h : Q (some (.int (Int32.ofNat (gp9 S y T)))) (hs t, F, G)) : wp 14 0 [.int (Int32.ofNat S), .int (Int32.ofNat y), .int (Int32.ofNat T), .float 0, .float 0, .float 0] [] (hs t, F, G) Q := by
  have hc := pkl9 (y := y) (t := T) hS
  have hnb := nb_le S
  have loop : ∀ d k v5, k + d = 6 → wp 14 5 [.int (Int32.ofNat S), .int (Int32.ofNat y), .int (Int32.ofNat T), .int (Int32.ofNat (cn9 (pk9 S y T) k)), .int (Int32.ofNat k), v5] [] (hs t, F, G) Q := by
    intro d
    induction d with
    | zero =>
      intro k v5 hk
      obtain rfl : k = 6 := by omega
      refine rg14_5 ⟨fun _ => sp236 hS (rg14_63 ?_), fun q => absurd q (by decide)⟩
      rw [nn_sub hc]
      have e : (if Int32.ofNat (cn9 (pk9 S y T) 6) < Int32.ofNat (nb9 S - cn9 (pk9 S y T) 6) then Int32.ofNat (nb9 S - cn9 (pk9 S y T) 6) else Int32.ofNat (cn9 (pk9 S y T) 6)) = Int32.ofNat (gp9 S y T) := by
        unfold gp9
        split
        · rename_i q
          rw [nn_lt (by omega) (by omega)] at q
          congr 1
          omega
        · rename_i q
          rw [nn_lt (by omega) (by omega)] at q
          congr 1
          omega
      rw [e]
      exact h
    | succ d ih =>
      intro k v5 hk
      have hbit := bt_has ⟨S, hS⟩ ⟨k, by omega⟩
      have h1 := ih (k + 1)
      rw [cn9] at h1
      have fin : ∀ (z : Nat) v5, z = (if pk9 S y T k = true then 1 else 0) → wp 14 50 [.int (Int32.ofNat S), .int (Int32.ofNat y), .int (Int32.ofNat T), .int (Int32.ofNat (cn9 (pk9 S y T) k)), .int (Int32.ofNat k), .int v5] [.int (Int32.ofNat z), .int (Int32.ofNat (cn9 (pk9 S y T) k))] (hs t, F, G) Q := by
        intro z v5 hz
        refine rg14_50 ?_
        rw [nn_add, show Int32.ofNat k + 1 = Int32.ofNat (k + 1) from nn_add k 1, hz]
        exact h1 _ (by omega)
      refine rg14_5 ⟨fun q => ?_, fun _ => ⟨fun e => rg14_27 ⟨fun _ => fin 0 _ ?_, fun q => absurd rfl q⟩, fun e => rg14_27 ⟨fun q => absurd q (by decide), fun _ => sp51 (rg14_42 ⟨fun e1 => fin 0 _ ?_, fun e1 => fin 1 _ ?_⟩)⟩⟩⟩
      · (simp (disch := omega) only [nn_lit, nn_m1, nn_add, nn_mul, nn_rem, nn_sub, nn_addm1, nn_lt, nn_le, nn_eq, nn_clamp, nn_in, nn_nem1, nn_m1ne, nn_ltm1, nn_m1lt, nn_m1le, nn_lem1, bz_0, bz_n0, not_false_eq_true, not_true_eq_false, true_and, and_true, false_and, and_false, false_implies, true_implies, forall_const, Nat.reduceMul, Nat.reduceAdd, Nat.reduceSub] at q <;> try simp only [nn_bk] at q)
        omega
      · rw [if_neg (by unfold pk9; rw [Bool.and_eq_true]; exact fun q => e (hbit.mpr q.1))]
      · rw [if_neg (by unfold pk9; rw [Bool.and_eq_true]; exact fun q => (bz_0.mp e1) q.2)]
      · rw [if_pos (by unfold pk9; rw [Bool.and_eq_true]; exact ⟨hbit.mp e, bz_n0.mp e1⟩)]
  exact rg14_0 (loop 6 0 _ rfl)
def gk9 (S k : Nat) : Nat := gp9 S (k % 10) (k / 10)
def vk9 (k : Nat) : Nat := 100 * (k / 10) + k % 10
theorem sp13 {S : Nat} (hS : S < 64) (h : Q (some (.int (if S = 0 then -1 else mn9 (gk9 S) vk9 100 0 (-1) 1048576))) (hs t, F, G)) : wp 13 0 [.int (Int32.ofNat S), .float 0, .float 0, .float 0, .float 0, .float 0] [] (hs t, F, G) Q := by
  by_cases hS0 : S = 0
  · subst hS0
    exact rg13_0 (rg13_7 ⟨fun q => absurd q (by decide), fun _ => ⟨fun _ => h, fun q => absurd rfl q⟩⟩)
  rw [if_neg hS0] at h
  have hS1 : ¬ Int32.ofNat S = 0 := fun q => hS0 ((nn_eq (b := 0) (by omega) (by omega)).mp q)
  have inner : ∀ T, T < 10 → (∀ b m few v4 v5, CF9 6 b m few → few < 2147483648 → Q (some (.int (mn9 (gk9 S) vk9 (90 - 10 * T) (10 * (T + 1)) b m))) (hs t, F, G) → wp 13 7 [.int (Int32.ofNat S), .int b, .int (Int32.ofNat few), .int (Int32.ofNat (T + 1)), v4, v5] [] (hs t, F, G) Q) → ∀ d y b m few v5, y + d = 10 → CF9 6 b m few → few < 2147483648 → Q (some (.int (mn9 (gk9 S) vk9 (d + (90 - 10 * T)) (10 * T + y) b m))) (hs t, F, G) → wp 13 20 [.int (Int32.ofNat S), .int b, .int (Int32.ofNat few), .int (Int32.ofNat T), .int (Int32.ofNat y), v5] [] (hs t, F, G) Q := by
    intro T hT hout d
    induction d with
    | zero =>
      intro y b m few v5 hy hC hf hQ
      obtain rfl : y = 10 := by omega
      refine rg13_20 ⟨fun _ => ?_, fun q => absurd q (by decide)⟩
      rw [show Int32.ofNat T + 1 = Int32.ofNat (T + 1) from nn_add T 1]
      refine hout b m few _ _ hC hf ?_
      rw [Nat.zero_add] at hQ
      exact hQ
    | succ d ih =>
      intro y b m few v5 hy hC hf hQ
      have hg : gk9 S (10 * T + y) = gp9 S y T := by unfold gk9; rw [dm_div (by omega), dm_mod (by omega)]
      have hv : vk9 (10 * T + y) = 100 * T + y := by unfold vk9; rw [dm_div (by omega), dm_mod (by omega)]
      have hle := gp_le (y := y) (t := T) hS
      rw [show d + 1 + (90 - 10 * T) = (d + (90 - 10 * T)) + 1 by omega, mn9, hg, hv] at hQ
      have take : gp9 S y T < m → wp 13 47 [.int (Int32.ofNat S), .int b, .int (Int32.ofNat few), .int (Int32.ofNat T), .int (Int32.ofNat y), .int (Int32.ofNat (gp9 S y T))] [] (hs t, F, G) Q := by
        intro hl
        rw [if_pos hl] at hQ
        refine rg13_47 (rg13_58 ?_)
        rw [show (100 : Int32) * Int32.ofNat T = Int32.ofNat (100 * T) from nn_mul 100 T, nn_add, show Int32.ofNat y + 1 = Int32.ofNat (y + 1) from nn_add y 1]
        exact ih (y + 1) _ _ _ _ (by omega) (cf_step hC (by omega) (by omega) hl) (by omega) hQ
      refine rg13_20 ⟨fun q => ?_, fun _ => sp14 hS (rg13_34 ⟨fun e => take ?_, fun e => ⟨fun e1 => rg13_58 ?_, fun e1 => take ?_⟩⟩)⟩
      · exact absurd ((nn_lt (a := 9) (by omega) (by omega)).mp q) (by omega)
      · rcases hC with h1 | h1
        · omega
        · exact absurd e h1.1
      · rcases hC with h1 | h1
        · exact absurd h1.1 e
        · (simp (disch := omega) only [nn_lit, nn_m1, nn_add, nn_mul, nn_rem, nn_sub, nn_addm1, nn_lt, nn_le, nn_eq, nn_clamp, nn_in, nn_nem1, nn_m1ne, nn_ltm1, nn_m1lt, nn_m1le, nn_lem1, bz_0, bz_n0, not_false_eq_true, not_true_eq_false, true_and, and_true, false_and, and_false, false_implies, true_implies, forall_const, Nat.reduceMul, Nat.reduceAdd, Nat.reduceSub] at e1 <;> try simp only [nn_bk] at e1)
          rw [if_neg (by omega)] at hQ
          rw [show Int32.ofNat y + 1 = Int32.ofNat (y + 1) from nn_add y 1]
          exact ih (y + 1) _ _ _ _ (by omega) (Or.inr h1) hf hQ
      · rcases hC with h1 | h1
        · exact absurd h1.1 e
        · (simp (disch := omega) only [nn_lit, nn_m1, nn_add, nn_mul, nn_rem, nn_sub, nn_addm1, nn_lt, nn_le, nn_eq, nn_clamp, nn_in, nn_nem1, nn_m1ne, nn_ltm1, nn_m1lt, nn_m1le, nn_lem1, bz_0, bz_n0, not_false_eq_true, not_true_eq_false, true_and, and_true, false_and, and_false, false_implies, true_implies, forall_const, Nat.reduceMul, Nat.reduceAdd, Nat.reduceSub] at e1 <;> try simp only [nn_bk] at e1)
          omega
  have outer : ∀ d T b m few v4 v5, T + d = 10 → CF9 6 b m few → few < 2147483648 → Q (some (.int (mn9 (gk9 S) vk9 (10 * d) (10 * T) b m))) (hs t, F, G) → wp 13 7 [.int (Int32.ofNat S), .int b, .int (Int32.ofNat few), .int (Int32.ofNat T), v4, v5] [] (hs t, F, G) Q := by
    intro d
    induction d with
    | zero =>
      intro T b m few v4 v5 hT hC hf hQ
      obtain rfl : T = 10 := by omega
      exact rg13_7 ⟨fun _ => hQ, fun q => absurd q (by decide)⟩
    | succ d ih =>
      intro T b m few v4 v5 hT hC hf hQ
      refine rg13_7 ⟨fun q => ?_, fun _ => ⟨fun q => absurd q hS1, fun _ => ?_⟩⟩
      · exact absurd ((nn_lt (a := 9) (by omega) (by omega)).mp q) (by omega)
      · refine inner T (by omega) (fun b m few v4 v5 hC hf hQ => ih (T + 1) b m few v4 v5 (by omega) hC hf ?_) 10 0 b m few _ rfl hC hf ?_
        · rw [show 10 * d = 90 - 10 * T by omega]
          exact hQ
        · rw [show 10 + (90 - 10 * T) = 10 * (d + 1) by omega]
          exact hQ
  exact rg13_0 (outer 10 0 (-1) 1048576 6 _ _ rfl (Or.inl ⟨rfl, rfl, rfl⟩) (by omega) h)
theorem sp219_55 {S y T m : Nat} {a1 b : Int32} (hS : S < 64) (h : ∀ a7 a8, wp 219 110 [.ref 193, .int a1, .int (Int32.ofNat S), .int b, .int (Int32.ofNat m), .int (Int32.ofNat T), .int (Int32.ofNat y), .int a7, .int a8] [.int (Int32.ofNat (gp9 S y T))] (hs t, F, G) Q) : ∀ d k, k + d = 6 → wp 219 55 [.ref 193, .int a1, .int (Int32.ofNat S), .int b, .int (Int32.ofNat m), .int (Int32.ofNat T), .int (Int32.ofNat y), .int (Int32.ofNat (cn9 (pk9 S y T) k)), .int (Int32.ofNat k)] [] (hs t, F, G) Q := by
  have hc := pkl9 (y := y) (t := T) hS
  have hnb := nb_le S
  intro d
  induction d with
  | zero =>
    intro k hk
    obtain rfl : k = 6 := by omega
    refine rg219_55 ⟨fun _ => sp147 hS (rg219_104 (sp146 ?_)), fun q => absurd q (by decide)⟩
    rw [nn_sub hc]
    have e : (if Int32.ofNat (nb9 S - cn9 (pk9 S y T) 6) < Int32.ofNat (cn9 (pk9 S y T) 6) then Int32.ofNat (cn9 (pk9 S y T) 6) else Int32.ofNat (nb9 S - cn9 (pk9 S y T) 6)) = Int32.ofNat (gp9 S y T) := by
      unfold gp9
      split
      · rename_i q
        rw [nn_lt (by omega) (by omega)] at q
        congr 1
        omega
      · rename_i q
        rw [nn_lt (by omega) (by omega)] at q
        congr 1
        omega
    rw [e]
    exact h _ _
  | succ d ih =>
    intro k hk
    have hbit := bt_has ⟨S, hS⟩ ⟨k, by omega⟩
    have h1 := ih (k + 1) (by omega)
    rw [cn9] at h1
    have fin : ∀ (z : Nat), z = (if pk9 S y T k = true then 1 else 0) → wp 219 89 [.ref 193, .int a1, .int (Int32.ofNat S), .int b, .int (Int32.ofNat m), .int (Int32.ofNat T), .int (Int32.ofNat y), .int (Int32.ofNat (cn9 (pk9 S y T) k)), .int (Int32.ofNat k)] [.int (Int32.ofNat z), .int (Int32.ofNat (cn9 (pk9 S y T) k))] (hs t, F, G) Q := by
      intro z hz
      refine rg219_89 ?_
      rw [nn_add, show Int32.ofNat k + 1 = Int32.ofNat (k + 1) from nn_add k 1, hz]
      exact h1
    refine rg219_55 ⟨fun q => ?_, fun _ => sp144 (rg219_69 ⟨fun e => fin 0 ?_, fun e => sp173 ⟨k, by omega, rfl⟩ (rg219_81 ⟨fun e1 => fin 0 ?_, fun e1 => fin 1 ?_⟩)⟩)⟩
    · exact absurd ((nn_lt (a := 5) (by omega) (by omega)).mp q) (by omega)
    · rw [if_neg (by unfold pk9; rw [Bool.and_eq_true]; exact fun q => (bz_0.mp e) (hbit.mpr q.1))]
    · rw [if_neg (by unfold pk9; rw [Bool.and_eq_true]; exact fun q => (bz_0.mp e1) q.2)]
    · rw [if_pos (by unfold pk9; rw [Bool.and_eq_true]; exact ⟨hbit.mp (bz_n0.mp e), bz_n0.mp e1⟩)]
theorem sp219_18 {S : Nat} {a1 : Int32} {v2 v3 v4 v5 v6 v7 v8 : Value} (hS : S < 64) (h : Q (some (.int (if S = 0 then -1 else mn9 (gk9 S) vk9 100 0 (-1) 1048576))) (hs t, F, G)) : wp 219 18 [.ref 193, .int a1, v2, v3, v4, v5, v6, v7, v8] [.int (Int32.ofNat S)] (hs t, F, G) Q := by
  by_cases hS0 : S = 0
  · subst hS0
    exact rg219_18 (rg219_28 ⟨fun q => absurd q (by decide), fun _ => ⟨fun _ => h, fun q => absurd rfl q⟩⟩)
  rw [if_neg hS0] at h
  have hS1 : ¬ Int32.ofNat S = 0 := fun q => hS0 ((nn_eq (b := 0) (by omega) (by omega)).mp q)
  have inner : ∀ T, T < 10 → (∀ b m v6 v7 v8, m < 2147483648 → Q (some (.int (mn9 (gk9 S) vk9 (90 - 10 * T) (10 * (T + 1)) b m))) (hs t, F, G) → wp 219 28 [.ref 193, .int a1, .int (Int32.ofNat S), .int b, .int (Int32.ofNat m), .int (Int32.ofNat (T + 1)), v6, v7, v8] [] (hs t, F, G) Q) → ∀ d y b m v7 v8, y + d = 10 → m < 2147483648 → Q (some (.int (mn9 (gk9 S) vk9 (d + (90 - 10 * T)) (10 * T + y) b m))) (hs t, F, G) → wp 219 42 [.ref 193, .int a1, .int (Int32.ofNat S), .int b, .int (Int32.ofNat m), .int (Int32.ofNat T), .int (Int32.ofNat y), v7, v8] [] (hs t, F, G) Q := by
    intro T hT hout d
    induction d with
    | zero =>
      intro y b m v7 v8 hy hm hQ
      obtain rfl : y = 10 := by omega
      refine rg219_42 ⟨fun _ => ?_, fun q => absurd q (by decide)⟩
      rw [show Int32.ofNat T + 1 = Int32.ofNat (T + 1) from nn_add T 1]
      refine hout b m _ _ _ hm ?_
      rw [Nat.zero_add] at hQ
      exact hQ
    | succ d ih =>
      intro y b m v7 v8 hy hm hQ
      have hg : gk9 S (10 * T + y) = gp9 S y T := by unfold gk9; rw [dm_div (by omega), dm_mod (by omega)]
      have hv : vk9 (10 * T + y) = 100 * T + y := by unfold vk9; rw [dm_div (by omega), dm_mod (by omega)]
      have hle := gp_le (y := y) (t := T) hS
      rw [show d + 1 + (90 - 10 * T) = (d + (90 - 10 * T)) + 1 by omega, mn9, hg, hv] at hQ
      refine rg219_42 ⟨fun q => ?_, fun _ => sp219_55 hS (fun a7 a8 => rg219_110 ⟨fun e => rg219_131 (sp145 ?_), fun e => rg219_131 (sp145 ?_)⟩) 6 0 rfl⟩
      · exact absurd ((nn_le (a := 10) (by omega) (by omega)).mp q) (by omega)
      · (simp (disch := omega) only [nn_lit, nn_m1, nn_add, nn_mul, nn_rem, nn_sub, nn_addm1, nn_lt, nn_le, nn_eq, nn_clamp, nn_in, nn_nem1, nn_m1ne, nn_ltm1, nn_m1lt, nn_m1le, nn_lem1, bz_0, bz_n0, not_false_eq_true, not_true_eq_false, true_and, and_true, false_and, and_false, false_implies, true_implies, forall_const, Nat.reduceMul, Nat.reduceAdd, Nat.reduceSub] at e <;> try simp only [nn_bk] at e)
        rw [if_neg (by omega)] at hQ
        have eg : (if Int32.ofNat m < Int32.ofNat (gp9 S y T) then Int32.ofNat m else Int32.ofNat (gp9 S y T)) = Int32.ofNat m := by
          split
          · rfl
          · rename_i q
            rw [nn_lt (by omega) (by omega)] at q
            congr 1
            omega
        rw [eg]
        refine rg219_139 ?_
        rw [show Int32.ofNat y + 1 = Int32.ofNat (y + 1) from nn_add y 1]
        exact ih (y + 1) _ _ _ _ (by omega) hm hQ
      · (simp (disch := omega) only [nn_lit, nn_m1, nn_add, nn_mul, nn_rem, nn_sub, nn_addm1, nn_lt, nn_le, nn_eq, nn_clamp, nn_in, nn_nem1, nn_m1ne, nn_ltm1, nn_m1lt, nn_m1le, nn_lem1, bz_0, bz_n0, not_false_eq_true, not_true_eq_false, true_and, and_true, false_and, and_false, false_implies, true_implies, forall_const, Nat.reduceMul, Nat.reduceAdd, Nat.reduceSub] at e <;> try simp only [nn_bk] at e)
        rw [if_pos e] at hQ
        rw [if_neg (by rw [nn_lt (by omega) (by omega)]; omega)]
        refine rg219_139 ?_
        rw [show (100 : Int32) * Int32.ofNat T = Int32.ofNat (100 * T) from nn_mul 100 T, nn_add, show Int32.ofNat y + 1 = Int32.ofNat (y + 1) from nn_add y 1]
        exact ih (y + 1) _ _ _ _ (by omega) (by omega) hQ
  have outer : ∀ d T b m v6 v7 v8, T + d = 10 → m < 2147483648 → Q (some (.int (mn9 (gk9 S) vk9 (10 * d) (10 * T) b m))) (hs t, F, G) → wp 219 28 [.ref 193, .int a1, .int (Int32.ofNat S), .int b, .int (Int32.ofNat m), .int (Int32.ofNat T), v6, v7, v8] [] (hs t, F, G) Q := by
    intro d
    induction d with
    | zero =>
      intro T b m v6 v7 v8 hT hm hQ
      obtain rfl : T = 10 := by omega
      exact rg219_28 ⟨fun _ => hQ, fun q => absurd q (by decide)⟩
    | succ d ih =>
      intro T b m v6 v7 v8 hT hm hQ
      refine rg219_28 ⟨fun q => ?_, fun _ => ⟨fun q => absurd q hS1, fun _ => ?_⟩⟩
      · exact absurd ((nn_le (a := 10) (by omega) (by omega)).mp q) (by omega)
      · refine inner T (by omega) (fun b m v6 v7 v8 hm hQ => ih (T + 1) b m v6 v7 v8 (by omega) hm ?_) 10 0 b m _ _ rfl hm ?_
        · rw [show 10 * d = 90 - 10 * T by omega]
          exact hQ
        · rw [show 10 + (90 - 10 * T) = 10 * (d + 1) by omega]
          exact hQ
  exact rg219_18 (outer 10 0 (-1) 1048576 _ _ _ rfl (by omega) h)
theorem pr_ask {a : Int32} (hI : INV t F G) : wp 119 0 [.ref 0, .int a] [] (hs t, F, G) (fun v M => wp 219 0 [.ref 193, .int a, .float 0, .float 0, .float 0, .float 0, .float 0, .float 0, .float 0] [] M (ENi v)) := by
  obtain ⟨n, ⟨h4, h6, b1, b2, b3⟩, hP, hU, hH, hN, w, w1, w2, w3, w4⟩ := hI.2.1
  refine ck119 (by omega) b1 (fun ha => ?_) (fun hn => ?_)
  · refine rg119_5 ⟨fun q => absurd q (by decide), fun _ => sp12 w1 w2 (rg119_19 (sp13 (bf_lt _ 6 (by omega)) (rg119_22 (rg119_31 ?_))))⟩
    refine ck219 (by omega) b2 (fun _ => ?_) (fun hn => absurd ha hn)
    refine rg219_5 ⟨fun _ => sp215 w1 w3 (fun j hj => by rw [← (w4 j hj).2 3 (by omega)]; exact (w4 j hj).1) (sp219_18 (bf_lt _ 6 (by omega)) (en_i hI ?_)), fun q => absurd q (by decide)⟩
    rw [bf_congr 6 (fun k _ => mf_congr (g := fun j i => F 20 (4 * j + i)) (g' := fun j i => F 202 (4 * j + i)) w (fun j hj i hi => (w4 j hj).2 i hi))]
  · exact ck219 (by omega) (by rw [u_n (by decide), b2]) (fun ha => absurd ha hn) (fun _ => en_bad hI)
end SP
