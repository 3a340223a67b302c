/-! ===== the place that tells most: look ===== -/
def tt9 : List (List Nat) := [[2, 1, 3, 1, 6, 3], [3, 1, 4, 2, 6, 4], [4, 2, 5, 3, 5, 5], [5, 3, 6, 6, 4, 6], [6, 4, 6, 6, 3, 6], [6, 4, 6, 6, 3, 6]]
def tq9 (k p : Nat) : Nat := (tt9.getD (p - 1) []).getD k 0
theorem tq_all : ∀ k p : Fin 6, pt9 (Int32.ofNat k) (Int32.ofNat (p.val + 1)) 6 = Int32.ofNat (tq9 k (p.val + 1)) ∧ 1 ≤ tq9 k (p.val + 1) ∧ tq9 k (p.val + 1) ≤ 6 := by decide +kernel
theorem tq_eq {k p : Nat} (hk : k < 6) (hp : 1 ≤ p) (hp6 : p ≤ 6) : pt9 (Int32.ofNat k) (Int32.ofNat p) 6 = Int32.ofNat (tq9 k p) ∧ 1 ≤ tq9 k p ∧ tq9 k p ≤ 6 := by
  have := tq_all ⟨k, hk⟩ ⟨p - 1, by omega⟩
  rw [show (p - 1) + 1 = p by omega] at this
  exact this
/-- tallies, and the most, over the kinds below k -/
def ty9 (S p : Nat) : Nat → (Nat → Nat) × Nat
  | 0 => (fun _ => 0, 0)
  | k + 1 => if S.testBit k = true then (fun x => if x = tq9 k p then (ty9 S p k).1 x + 1 else (ty9 S p k).1 x, max (ty9 S p k).2 ((ty9 S p k).1 (tq9 k p) + 1)) else ty9 S p k
theorem ty_le {S p : Nat} : ∀ k, (∀ x, (ty9 S p k).1 x ≤ k) ∧ (ty9 S p k).2 ≤ k
  | 0 => ⟨fun _ => Nat.le_refl 0, Nat.le_refl 0⟩
  | k + 1 => by
    obtain ⟨h1, h2⟩ := ty_le (S := S) (p := p) k
    rw [ty9]
    split
    · refine ⟨fun x => ?_, ?_⟩
      · have := h1 x
        dsimp only
        split <;> omega
      · have := h1 (tq9 k p)
        dsimp only
        omega
    · exact ⟨fun x => by have := h1 x; omega, by omega⟩
def ab9 (S p a b : Nat) : Bool := S.testBit a && S.testBit b && decide (tq9 a p = tq9 b p)
def mx9 (f : Nat → Nat) : Nat → Nat → Nat → Nat
  | 0, _, m => m
  | d + 1, k, m => mx9 f d (k + 1) (max m (f k))
def lk9 (S p : Nat) : Nat := mx9 (fun a => cn9 (ab9 S p a) 6) 6 0 0
set_option maxRecDepth 20000 in
theorem lk_ty : ∀ (S : Fin 64) (p : Fin 6), (ty9 S.val (p.val + 1) 6).2 = lk9 S.val (p.val + 1) := by decide +kernel
section SP
variable {t : Nat} {G : ip_G} {Q : Option Value → ip_M → Prop} {n : Nat}
theorem sp11_13 {S p : Nat} (hS : S < 64) (hp : 1 ≤ p) (hp6 : p ≤ 6) : ∀ d k F v5, k + d = 6 → (∀ x, x < 7 → F 191 x = Int32.ofNat ((ty9 S p k).1 x)) → (∀ F', (∀ b, b ≠ 191 → F' b = F b) → Q (some (.int (Int32.ofNat (ty9 S p 6).2))) (hs t, F', G)) → wp 11 13 [.ref 124, .int (Int32.ofNat S), .int (Int32.ofNat p), .int (Int32.ofNat (ty9 S p k).2), .int (Int32.ofNat k), v5] [] (hs t, F, G) Q := by
  intro d
  induction d with
  | zero =>
    intro k F v5 hk hT h
    obtain rfl : k = 6 := by omega
    exact rg11_13 ⟨fun _ => h F (fun _ _ => rfl), fun q => absurd q (by decide)⟩
  | succ d ih =>
    intro k F v5 hk hT h
    have hbit := bt_has ⟨S, hS⟩ ⟨k, by omega⟩
    obtain ⟨e0, e1, e2⟩ := tq_eq (k := k) (p := p) (by omega) hp hp6
    obtain ⟨l1, l2⟩ := ty_le (S := S) (p := p) k
    have l3 := l1 (tq9 k p)
    refine rg11_13 ⟨fun q => ?_, fun _ => sp82 (rg11_28 ⟨fun e => rg11_74 ?_, fun e => sp129 ?_⟩)⟩
    · (simp (disch := omega) only [nn_lit, nn_m1, nn_add, nn_mul, nn_rem, nn_sub, nn_addm1, nn_lt, nn_le, nn_eq, nn_clamp, nn_in, nn_nem1, nn_m1ne, nn_ltm1, nn_m1lt, nn_m1le, nn_lem1, bz_0, bz_n0, not_false_eq_true, not_true_eq_false, true_and, and_true, false_and, and_false, false_implies, true_implies, forall_const, Nat.reduceMul, Nat.reduceAdd, Nat.reduceSub] at q <;> try simp only [nn_bk] at q)
      omega
    · have hb : ¬ S.testBit k = true := fun q => e (hbit.mpr q)
      rw [show Int32.ofNat k + 1 = Int32.ofNat (k + 1) from nn_add k 1]
      have := ih (k + 1) F (.int (pt9 (Int32.ofNat k) (Int32.ofNat p) 6)) (by omega)
      rw [ty9, if_neg hb] at this
      exact this hT h
    · have hb : S.testBit k = true := hbit.mp e
      rw [e0, bz_t ⟨(nn_le (a := 1) (by omega) (by omega)).mpr e1, (nn_le (b := 6) (by omega) (by omega)).mpr e2⟩]
      have hv : vp_in (Int32.ofNat (tq9 k p)) 7 := (nn_in (by omega)).mpr (by omega)
      refine rg11_48 ⟨fun q => absurd q (by decide), fun _ => ⟨hv, hv, hv, rg11_74 ?_⟩⟩
      rw [nn_clamp (by omega), hT _ (by omega), u_s, if_pos rfl, show Int32.ofNat ((ty9 S p k).1 (tq9 k p)) + 1 = Int32.ofNat ((ty9 S p k).1 (tq9 k p) + 1) from nn_add _ 1, show Int32.ofNat k + 1 = Int32.ofNat (k + 1) from nn_add k 1]
      have em : (if Int32.ofNat (ty9 S p k).2 < Int32.ofNat ((ty9 S p k).1 (tq9 k p) + 1) then Int32.ofNat ((ty9 S p k).1 (tq9 k p) + 1) else Int32.ofNat (ty9 S p k).2) = Int32.ofNat (max (ty9 S p k).2 ((ty9 S p k).1 (tq9 k p) + 1)) := by
        split
        · rename_i q
          rw [nn_lt (by omega) (by omega)] at q
          congr 1
          omega
        · rename_i q
          rw [nn_lt (by omega) (by omega)] at q
          congr 1
          omega
      rw [em]
      have := ih (k + 1) (ip_u F 191 (tq9 k p) (Int32.ofNat ((ty9 S p k).1 (tq9 k p) + 1))) (.int (Int32.ofNat (tq9 k p))) (by omega)
      rw [ty9, if_pos hb] at this
      refine this (fun x hx => ?_) (fun F' k1 => h F' (fun b hb => by rw [k1 b hb, u_n hb]))
      rw [u_s]
      dsimp only
      by_cases q : x = tq9 k p
      · rw [if_pos q, if_pos q, q]
      · rw [if_neg q, if_neg q]
        exact hT x hx
theorem sp11 {F : ip_F} {S p : Nat} (hS : S < 64) (hp : 1 ≤ p) (hp6 : p ≤ 6) (h : ∀ F', (∀ b, b ≠ 191 → F' b = F b) → Q (some (.int (Int32.ofNat (lk9 S p)))) (hs t, F', G)) : wp 11 0 [.ref 124, .int (Int32.ofNat S), .int (Int32.ofNat p), .float 0, .float 0, .float 0] [] (hs t, F, G) Q := by
  refine rg11_0 (sp243 (n0 := 7) rfl (by omega) (fun F1 g1 g2 => rg11_10 (sp11_13 hS hp hp6 6 0 F1 _ rfl (fun x hx => ?_) (fun F' k1 => ?_))))
  · rw [g1, if_pos hx]
    rfl
  · have e := lk_ty ⟨S, hS⟩ ⟨p - 1, by omega⟩
    rw [show (p - 1) + 1 = p by omega] at e
    rw [show (ty9 S p 6).2 = lk9 S p from e]
    exact h F' (fun b hb => by rw [k1 b hb, g2 b hb])
theorem mx_le {f : Nat → Nat} {B : Nat} (h : ∀ k, f k ≤ B) : ∀ d k m, m ≤ B → mx9 f d k m ≤ B
  | 0, _, _, hm => hm
  | d + 1, k, m, hm => by
    have := h k
    exact mx_le h d (k + 1) _ (by omega)
theorem lk_le (S p : Nat) : lk9 S p ≤ 6 := mx_le (fun a => cn_le 6) 6 0 0 (by omega)
theorem sp10_8 {S : Nat} (hS : S < 64) (hS1 : ¬ Int32.ofNat S = 0) : ∀ d p b m few F v5, p + d = 7 → 1 ≤ p → CF9 6 b m few → few < 2147483648 → (∀ F', (∀ b, b ≠ 191 → F' b = F b) → Q (some (.int (mn9 (lk9 S) id d p b m))) (hs t, F', G)) → wp 10 8 [.ref 124, .int (Int32.ofNat S), .int b, .int (Int32.ofNat few), .int (Int32.ofNat p), v5] [] (hs t, F, G) Q := by
  intro d
  induction d with
  | zero =>
    intro p b m few F v5 hp hp1 hC hf h
    obtain rfl : p = 7 := by omega
    exact rg10_8 ⟨fun _ => h F (fun _ _ => rfl), fun q => absurd q (by decide)⟩
  | succ d ih =>
    intro p b m few F v5 hp hp1 hC hf h
    rw [mn9] at h
    have hle := lk_le S p
    refine rg10_8 ⟨fun q => ?_, fun _ => ⟨fun q => absurd q hS1, fun _ => sp11 hS hp1 (by omega) (fun F1 g1 => ?_)⟩⟩
    · exact absurd ((nn_lt (a := 6) (by omega) (by omega)).mp q) (by omega)
    · have take : lk9 S p < m → wp 10 39 [.ref 124, .int (Int32.ofNat S), .int b, .int (Int32.ofNat few), .int (Int32.ofNat p), .int (Int32.ofNat (lk9 S p))] [] (hs t, F1, G) Q := by
        intro hl
        rw [if_pos hl] at h
        refine rg10_39 (rg10_45 ?_)
        rw [show Int32.ofNat p + 1 = Int32.ofNat (p + 1) from nn_add p 1]
        exact ih (p + 1) _ _ _ F1 _ (by omega) (by omega) (cf_step hC (by omega) (by omega) hl) (by omega) (fun F' k1 => h F' (fun b hb => by rw [k1 b hb, g1 b hb]))
      refine rg10_26 ⟨fun e => take ?_, fun e => ⟨fun e1 => rg10_45 ?_, fun e1 => take ?_⟩⟩
      · rcases hC with h1 | h1
        · omega
        · exact absurd e h1.1
      · rcases hC with h1 | h1
        · exact absurd h1.1 e
        · (simp (disch := omega) only [nn_lit, nn_m1, nn_add, nn_mul, nn_rem, nn_sub, nn_addm1, nn_lt, nn_le, nn_eq, nn_clamp, nn_in, nn_nem1, nn_m1ne, nn_ltm1, nn_m1lt, nn_m1le, nn_lem1, bz_0, bz_n0, not_false_eq_true, not_true_eq_false, true_and, and_true, false_and, and_false, false_implies, true_implies, forall_const, Nat.reduceMul, Nat.reduceAdd, Nat.reduceSub] at e1 <;> try simp only [nn_bk] at e1)
          rw [if_neg (by omega)] at h
          rw [show Int32.ofNat p + 1 = Int32.ofNat (p + 1) from nn_add p 1]
          exact ih (p + 1) _ _ _ F1 _ (by omega) (by omega) (Or.inr h1) hf (fun F' k1 => h F' (fun b hb => by rw [k1 b hb, g1 b hb]))
      · rcases hC with h1 | h1
        · exact absurd h1.1 e
        · (simp (disch := omega) only [nn_lit, nn_m1, nn_add, nn_mul, nn_rem, nn_sub, nn_addm1, nn_lt, nn_le, nn_eq, nn_clamp, nn_in, nn_nem1, nn_m1ne, nn_ltm1, nn_m1lt, nn_m1le, nn_lem1, bz_0, bz_n0, not_false_eq_true, not_true_eq_false, true_and, and_true, false_and, and_false, false_implies, true_implies, forall_const, Nat.reduceMul, Nat.reduceAdd, Nat.reduceSub] at e1 <;> try simp only [nn_bk] at e1)
          omega
theorem sp10 {F : ip_F} {S : Nat} (hS : S < 64) (h : ∀ F', (∀ b, b ≠ 191 → F' b = F b) → Q (some (.int (if S = 0 then -1 else mn9 (lk9 S) id 6 1 (-1) 1048576))) (hs t, F', G)) : wp 10 0 [.ref 124, .int (Int32.ofNat S), .float 0, .float 0, .float 0, .float 0] [] (hs t, F, G) Q := by
  by_cases hS0 : S = 0
  · subst hS0
    exact rg10_0 (rg10_8 ⟨fun q => absurd q (by decide), fun _ => ⟨fun _ => h F (fun _ _ => rfl), fun q => absurd rfl q⟩⟩)
  rw [if_neg hS0] at h
  exact rg10_0 (sp10_8 hS (fun q => hS0 ((nn_eq (b := 0) (by omega) (by omega)).mp q)) 6 1 (-1) 1048576 6 F _ rfl (by omega) (Or.inl ⟨rfl, rfl, rfl⟩) (by omega) h)
/-! the reference -/
theorem sp218_57 {F : ip_F} {S p a m mo : Nat} {r b : Int32} (hS : S < 64) (ha : a < 6) (hp : 1 ≤ p) (hp6 : p ≤ 6) (h : ∀ a8 a9, wp 218 57 [.ref 193, .int r, .int (Int32.ofNat S), .int b, .int (Int32.ofNat m), .int (Int32.ofNat p), .int (Int32.ofNat mo), .int (Int32.ofNat a), .int a8, .int a9] [] (hs t, F, G) Q → True) (hk : wp 218 57 [.ref 193, .int r, .int (Int32.ofNat S), .int b, .int (Int32.ofNat m), .int (Int32.ofNat p), .int (Int32.ofNat mo), .int (Int32.ofNat a), .int (Int32.ofNat (cn9 (ab9 S p a) 6)), .int 6] [] (hs t, F, G) Q) : ∀ d k, k + d = 6 → wp 218 57 [.ref 193, .int r, .int (Int32.ofNat S), .int b, .int (Int32.ofNat m), .int (Int32.ofNat p), .int (Int32.ofNat mo), .int (Int32.ofNat a), .int (Int32.ofNat (cn9 (ab9 S p a) k)), .int (Int32.ofNat k)] [] (hs t, F, G) Q := by
  have hbita := bt_has ⟨S, hS⟩ ⟨a, ha⟩
  obtain ⟨a0, a1, a2⟩ := tq_eq (k := a) (p := p) ha hp hp6
  intro d
  induction d with
  | zero =>
    intro k hk2
    obtain rfl : k = 6 := by omega
    exact hk
  | succ d ih =>
    intro k hk2
    have hbit := bt_has ⟨S, hS⟩ ⟨k, by omega⟩
    obtain ⟨e0, e1, e2⟩ := tq_eq (k := k) (p := p) (by omega) hp hp6
    have h1 := ih (k + 1) (by omega)
    rw [cn9] at h1
    have fin : ∀ (z : Nat), z = (if ab9 S p a k = true then 1 else 0) → wp 218 109 [.ref 193, .int r, .int (Int32.ofNat S), .int b, .int (Int32.ofNat m), .int (Int32.ofNat p), .int (Int32.ofNat mo), .int (Int32.ofNat a), .int (Int32.ofNat (cn9 (ab9 S p a) k)), .int (Int32.ofNat k)] [.int (Int32.ofNat z), .int (Int32.ofNat (cn9 (ab9 S p a) k))] (hs t, F, G) Q := by
      intro z hz
      refine rg218_109 ?_
      rw [nn_add, show Int32.ofNat k + 1 = Int32.ofNat (k + 1) from nn_add k 1, hz]
      exact h1
    refine rg218_57 ⟨fun q => ?_, fun _ => sp144 (rg218_71 ⟨fun e => fin 0 ?_, fun e => sp144 (rg218_80 ⟨fun e3 => fin 0 ?_, fun e3 => sp172 ⟨a, by omega, rfl⟩ (rg218_92 (sp172 ⟨k, by omega, rfl⟩ (rg218_101 ⟨fun e4 => fin 0 ?_, fun e4 => fin 1 ?_⟩)))⟩)⟩)⟩
    · exact absurd ((nn_lt (a := 5) (by omega) (by omega)).mp q) (by omega)
    · rw [if_neg (by unfold ab9; simp only [Bool.and_eq_true]; exact fun q => (bz_0.mp e) (hbita.mpr q.1.1))]
    · rw [if_neg (by unfold ab9; simp only [Bool.and_eq_true]; exact fun q => (bz_0.mp e3) (hbit.mpr q.1.2))]
    · rw [a0, e0] at e4
      rw [if_neg (by unfold ab9; simp only [Bool.and_eq_true, decide_eq_true_eq]; exact fun q => e4 (by rw [q.2]))]
    · rw [a0, e0] at e4
      rw [if_pos (by unfold ab9; simp only [Bool.and_eq_true, decide_eq_true_eq]; exact ⟨⟨hbita.mp (bz_n0.mp e), hbit.mp (bz_n0.mp e3)⟩, (nn_eq (by omega) (by omega)).mp e4⟩)]
theorem sp218_45 {F : ip_F} {S p m : Nat} {r b : Int32} (hS : S < 64) (hp : 1 ≤ p) (hp6 : p ≤ 6) (hm : m < 2147483648) (h : ∀ (z : Int32) (a7 : Int32) v8 v9, z = (if lk9 S p < m then Int32.ofNat p else b) → wp 218 146 [.ref 193, .int r, .int (Int32.ofNat S), .int b, .int (Int32.ofNat m), .int (Int32.ofNat p), .int (Int32.ofNat (lk9 S p)), .int a7, v8, v9] [.int z] (hs t, F, G) Q) : ∀ d a mo v8 v9, a + d = 6 → mo ≤ 6 → mx9 (fun a => cn9 (ab9 S p a) 6) d a mo = lk9 S p → wp 218 45 [.ref 193, .int r, .int (Int32.ofNat S), .int b, .int (Int32.ofNat m), .int (Int32.ofNat p), .int (Int32.ofNat mo), .int (Int32.ofNat a), v8, v9] [] (hs t, F, G) Q := by
  intro d
  induction d with
  | zero =>
    intro a mo v8 v9 ha hmo hx
    obtain rfl : a = 6 := by omega
    have hx : mo = lk9 S p := hx
    subst hx
    refine rg218_45 ⟨fun _ => ⟨fun e => h _ _ _ _ ?_, fun e => h _ _ _ _ ?_⟩, fun q => absurd q (by decide)⟩
    · (simp (disch := omega) only [nn_lit, nn_m1, nn_add, nn_mul, nn_rem, nn_sub, nn_addm1, nn_lt, nn_le, nn_eq, nn_clamp, nn_in, nn_nem1, nn_m1ne, nn_ltm1, nn_m1lt, nn_m1le, nn_lem1, bz_0, bz_n0, not_false_eq_true, not_true_eq_false, true_and, and_true, false_and, and_false, false_implies, true_implies, forall_const, Nat.reduceMul, Nat.reduceAdd, Nat.reduceSub] at e <;> try simp only [nn_bk] at e)
      rw [if_neg (by omega)]
    · (simp (disch := omega) only [nn_lit, nn_m1, nn_add, nn_mul, nn_rem, nn_sub, nn_addm1, nn_lt, nn_le, nn_eq, nn_clamp, nn_in, nn_nem1, nn_m1ne, nn_ltm1, nn_m1lt, nn_m1le, nn_lem1, bz_0, bz_n0, not_false_eq_true, not_true_eq_false, true_and, and_true, false_and, and_false, false_implies, true_implies, forall_const, Nat.reduceMul, Nat.reduceAdd, Nat.reduceSub] at e <;> try simp only [nn_bk] at e)
      rw [if_pos e]
  | succ d ih =>
    intro a mo v8 v9 ha hmo hx
    have hx : mx9 (fun a => cn9 (ab9 S p a) 6) d (a + 1) (max mo (cn9 (ab9 S p a) 6)) = lk9 S p := hx
    have hc := cn_le (P := ab9 S p a) 6
    refine rg218_45 ⟨fun q => ?_, fun _ => sp218_57 hS (by omega) hp hp6 (fun _ _ _ => trivial) (rg218_57 ⟨fun _ => sp146 (rg218_125 ?_), fun q => absurd q (by decide)⟩) 6 0 rfl⟩
    · exact absurd ((nn_lt (a := 5) (by omega) (by omega)).mp q) (by omega)
    · have em : (if Int32.ofNat (cn9 (ab9 S p a) 6) < Int32.ofNat mo then Int32.ofNat mo else Int32.ofNat (cn9 (ab9 S p a) 6)) = Int32.ofNat (max mo (cn9 (ab9 S p a) 6)) := by
        split
        · rename_i q
          rw [nn_lt (by omega) (by omega)] at q
          congr 1
          omega
        · rename_i q
          rw [nn_lt (by omega) (by omega)] at q
          congr 1
          omega
      rw [em, show Int32.ofNat a + 1 = Int32.ofNat (a + 1) from nn_add a 1]
      exact ih (a + 1) _ _ _ (by omega) (by omega) hx
theorem sp218_28 {F : ip_F} {S : Nat} {r : Int32} (hS : S < 64) (hS1 : ¬ Int32.ofNat S = 0) : ∀ d p b m v6 v7 v8 v9, p + d = 7 → 1 ≤ p → m < 2147483648 → Q (some (.int (mn9 (lk9 S) id d p b m))) (hs t, F, G) → wp 218 28 [.ref 193, .int r, .int (Int32.ofNat S), .int b, .int (Int32.ofNat m), .int (Int32.ofNat p), v6, v7, v8, v9] [] (hs t, F, G) Q := by
  intro d
  induction d with
  | zero =>
    intro p b m v6 v7 v8 v9 hp hp1 hm h
    obtain rfl : p = 7 := by omega
    exact rg218_28 ⟨fun _ => h, fun q => absurd q (by decide)⟩
  | succ d ih =>
    intro p b m v6 v7 v8 v9 hp hp1 hm h
    rw [mn9] at h
    have hle := lk_le S p
    refine rg218_28 ⟨fun q => ?_, fun _ => ⟨fun q => absurd q hS1, fun _ => sp218_45 hS hp1 (by omega) hm (fun z a7 v8 v9 hz => rg218_146 (sp145 (rg218_154 ?_))) 6 0 0 _ _ rfl (by omega) rfl⟩⟩
    · exact absurd ((nn_lt (a := 6) (by omega) (by omega)).mp q) (by omega)
    · rw [show Int32.ofNat p + 1 = Int32.ofNat (p + 1) from nn_add p 1, hz]
      by_cases e : lk9 S p < m
      · rw [if_pos e] at h
        rw [if_pos e, if_neg (by rw [nn_lt (by omega) (by omega)]; omega)]
        exact ih (p + 1) _ _ _ _ _ _ (by omega) (by omega) (by omega) h
      · rw [if_neg e] at h
        rw [if_neg e]
        have eg : (if Int32.ofNat m < Int32.ofNat (lk9 S p) then Int32.ofNat m else Int32.ofNat (lk9 S p)) = Int32.ofNat m := by
          split
          · rfl
          · rename_i q
            rw [nn_lt (by omega) (by omega)] at q
            congr 1
            omega
        rw [eg]
        exact ih (p + 1) _ _ _ _ _ _ (by omega) (by omega) hm h
theorem sp218_18 {F : ip_F} {S : Nat} {r : Int32} {v2 v3 v4 v5 v6 v7 v8 v9 : Value} (hS : S < 64) (h : Q (some (.int (if S = 0 then -1 else mn9 (lk9 S) id 6 1 (-1) 1048576))) (hs t, F, G)) : wp 218 18 [.ref 193, .int r, v2, v3, v4, v5, v6, v7, v8, v9] [.int (Int32.ofNat S)] (hs t, F, G) Q := by
  by_cases hS0 : S = 0
  · subst hS0
    exact rg218_18 (rg218_28 ⟨fun q => absurd q (by decide), fun _ => ⟨fun _ => h, fun q => absurd rfl q⟩⟩)
  rw [if_neg hS0] at h
  exact rg218_18 (sp218_28 hS (fun q => hS0 ((nn_eq (b := 0) (by omega) (by omega)).mp q)) 6 1 (-1) 1048576 _ _ _ _ rfl (by omega) (by omega) h)
theorem pr_look {F : ip_F} {a : Int32} (hI : INV t F G) : wp 117 0 [.ref 0, .int a] [] (hs t, F, G) (fun v M => wp 218 0 [.ref 193, .int a, .float 0, .float 0, .float 0, .float 0, .float 0, .float 0, .float 0, .float 0] [] M (ENi v)) := by
  obtain ⟨n, ⟨h4, h6, b1, b2, b3⟩, hP, hU, hH, ⟨m, m1, m2, m3, m4⟩, hM⟩ := hI.2.1
  refine ck117 (by omega) b1 (fun ha => ?_) (fun hn => ?_)
  · refine rg117_5 ⟨fun q => absurd q (by decide), fun _ => sk9 m1 m2 (rg117_23 (sp10 (bf_lt _ 6 (by omega)) (fun F1 g1 => rg117_26 (rg117_35 ?_))))⟩
    refine ck218 (by omega) (by rw [g1 193 (by decide), b2]) (fun _ => ?_) (fun hn => absurd ha hn)
    refine rg218_5 ⟨fun _ => sp214 m1 (by rw [g1 193 (by decide), m3]) (sp218_18 (bf_lt _ 6 (by omega)) (en_i (inv_fr hI (fun x h1 h2 => g1 x (by unfold nqc at h1; omega))) ?_)), fun q => absurd q (by decide)⟩
    rw [bf_congr 6 (fun k _ => nf_congr (g := fun j i => F 18 (4 * j + i)) (g' := fun j i => F1 201 (3 * j + i)) m (fun j hj i hi => by rw [g1 201 (by decide)]; exact m4 j hj i hi))]
  · exact ck218 (by omega) (by rw [u_n (by decide), b2]) (fun ha => absurd ha hn) (fun _ => en_bad hI)
end SP
