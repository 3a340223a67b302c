/-! ===== the row that tells most ===== -/
def al9 (v : Nat → Int32) (N : Nat) : Nat := mx9 (fun i => cn9 (fun j => decide (v i = v j)) N) N 0 0
theorem mx_ge {f : Nat → Nat} : ∀ d k m, m ≤ mx9 f d k m
  | 0, _, m => Nat.le_refl m
  | d + 1, k, m => by
    have := mx_ge (f := f) d (k + 1) (max m (f k))
    rw [mx9]
    omega
theorem cn_pos {P : Nat → Bool} : ∀ n r, r < n → P r = true → 1 ≤ cn9 P n
  | 0, r, h, _ => absurd h (Nat.not_lt_zero r)
  | n + 1, r, h, hP => by
    rw [cn9]
    by_cases e : r = n
    · rw [if_pos (by rw [← e]; exact hP)]
      omega
    · have := cn_pos n r (by omega) hP
      omega
theorem al_pos {v : Nat → Int32} {N : Nat} (hN : 0 < N) : 1 ≤ al9 v N := by
  obtain ⟨M, rfl⟩ : ∃ M, N = M + 1 := ⟨N - 1, by omega⟩
  unfold al9
  rw [mx9]
  have h1 := cn_pos (P := fun j => decide (v 0 = v j)) (M + 1) 0 (by omega) (decide_eq_true rfl)
  have h2 := mx_ge (f := fun i => cn9 (fun j => decide (v i = v j)) (M + 1)) M (0 + 1) (max 0 (cn9 (fun j => decide (v 0 = v j)) (M + 1)))
  omega
theorem al_le {v : Nat → Int32} {N : Nat} : al9 v N ≤ N := mx_le (fun i => cn_le N) N 0 0 (by omega)
theorem mx_congr {f g : Nat → Nat} {N : Nat} (h : ∀ k, k < N → f k = g k) : ∀ d k m, k + d ≤ N → mx9 f d k m = mx9 g d k m
  | 0, _, _, _ => rfl
  | d + 1, k, m, hk => by rw [mx9, mx9, h k (by omega), mx_congr h d (k + 1) _ (by omega)]
theorem al_congr {v w : Nat → Int32} {N : Nat} (h : ∀ i, i < N → v i = w i) : al9 v N = al9 w N :=
  mx_congr (N := N) (fun i hi => cn_congr N (fun j hj => by rw [h i hi, h j hj])) N 0 0 (by omega)
theorem max_i {a b : Nat} (ha : a < 1000) (hb : b < 1000) : (if Int32.ofNat a < Int32.ofNat b then Int32.ofNat b else Int32.ofNat a) = Int32.ofNat (max a b) := by
  split
  · rename_i q
    rw [nn_lt (by omega) (by omega)] at q
    congr 1
    omega
  · rename_i q
    rw [nn_lt (by omega) (by omega)] at q
    congr 1
    omega
theorem max_j {a b : Nat} (ha : a < 1000) (hb : b < 1000) : (if Int32.ofNat b < Int32.ofNat a then Int32.ofNat a else Int32.ofNat b) = Int32.ofNat (max a b) := by
  split
  · rename_i q
    rw [nn_lt (by omega) (by omega)] at q
    congr 1
    omega
  · rename_i q
    rw [nn_lt (by omega) (by omega)] at q
    congr 1
    omega
section SP
variable {t : Nat} {G : ip_G} {Q : Option Value → ip_M → Prop} {n : Nat}
theorem sp8 {F : ip_F} {N w : Nat} (hw : w < 12) (hN : N ≤ 64) (hN2 : F 124 3 = Int32.ofNat N) (h : Q (some (.int (Int32.ofNat (al9 (fun i => F (127 + i) w) N)))) (hs t, F, G)) : wp 8 0 [.ref 124, .int (Int32.ofNat w), .float 0, .float 0, .float 0, .float 0] [] (hs t, F, G) Q := by
  have hvw : vp_in (Int32.ofNat w) 12 := (nn_in (by omega)).mpr (by omega)
  have inner : ∀ i m, i < N → (∀ a4 a5 : Int32, wp 8 4 [.ref 124, .int (Int32.ofNat w), .int (Int32.ofNat (max m (cn9 (fun j => decide (F (127 + i) w = F (127 + j) w)) N))), .int (Int32.ofNat (i + 1)), .int a4, .int a5] [] (hs t, F, G) Q) → m ≤ 64 → ∀ d j, j + d = N → wp 8 18 [.ref 124, .int (Int32.ofNat w), .int (Int32.ofNat m), .int (Int32.ofNat i), .int (Int32.ofNat (cn9 (fun j => decide (F (127 + i) w = F (127 + j) w)) j)), .int (Int32.ofNat j)] [] (hs t, F, G) Q := by
    intro i m hi hk hm d
    induction d with
    | zero =>
      intro j hj
      obtain rfl : j = N := by omega
      have hc := cn_le (P := fun q => decide (F (127 + i) w = F (127 + q) w)) j
      refine rg8_18 ⟨fun _ => ?_, fun q => ?_⟩
      · rw [max_i (by omega) (by omega), show Int32.ofNat i + 1 = Int32.ofNat (i + 1) from nn_add i 1]
        exact hk _ _
      · rw [hN2] at q
        (simp (disch := omega) only [nn_lit, nn_m1, nn_add, nn_mul, nn_rem, nn_sub, nn_addm1, nn_lt, nn_le, nn_eq, nn_clamp, nn_in, nn_nem1, nn_m1ne, nn_ltm1, nn_m1lt, nn_m1le, nn_lem1, bz_0, bz_n0, not_false_eq_true, not_true_eq_false, true_and, and_true, false_and, and_false, false_implies, true_implies, forall_const, Nat.reduceMul, Nat.reduceAdd, Nat.reduceSub] at q <;> try simp only [nn_bk] at q)
        omega
    | succ d ih =>
      intro j hj
      have h1 := ih (j + 1) (by omega)
      rw [cn9] at h1
      have fin : ∀ z : Nat, z = (if decide (F (127 + i) w = F (127 + j) w) = true then 1 else 0) → wp 8 54 [.ref 124, .int (Int32.ofNat w), .int (Int32.ofNat m), .int (Int32.ofNat i), .int (Int32.ofNat (cn9 (fun j => decide (F (127 + i) w = F (127 + j) w)) j)), .int (Int32.ofNat j)] [.int (Int32.ofNat z), .int (Int32.ofNat (cn9 (fun j => decide (F (127 + i) w = F (127 + j) w)) j))] (hs t, F, G) Q := by
        intro z hz
        refine rg8_54 ?_
        rw [nn_add, show Int32.ofNat j + 1 = Int32.ofNat (j + 1) from nn_add j 1, hz]
        exact h1
      refine rg8_18 ⟨fun q => ?_, fun _ => ⟨(nn_in (by omega)).mpr (by omega), hvw, (nn_in (by omega)).mpr (by omega), hvw, fun e => fin 0 ?_, fun e => fin 1 ?_⟩⟩
      · rw [hN2] at q
        (simp (disch := omega) only [nn_lit, nn_m1, nn_add, nn_mul, nn_rem, nn_sub, nn_addm1, nn_lt, nn_le, nn_eq, nn_clamp, nn_in, nn_nem1, nn_m1ne, nn_ltm1, nn_m1lt, nn_m1le, nn_lem1, bz_0, bz_n0, not_false_eq_true, not_true_eq_false, true_and, and_true, false_and, and_false, false_implies, true_implies, forall_const, Nat.reduceMul, Nat.reduceAdd, Nat.reduceSub] at q <;> try simp only [nn_bk] at q)
        omega
      · rw [nn_clamp (by omega), nn_clamp (by omega), nn_clamp (by omega)] at e
        rw [decide_eq_false e]
        rfl
      · rw [nn_clamp (by omega), nn_clamp (by omega), nn_clamp (by omega)] at e
        rw [decide_eq_true e]
        rfl
  have outer : ∀ d i m v4 v5, i + d = N → m ≤ 64 → mx9 (fun i => cn9 (fun j => decide (F (127 + i) w = F (127 + j) w)) N) d i m = al9 (fun i => F (127 + i) w) N → wp 8 4 [.ref 124, .int (Int32.ofNat w), .int (Int32.ofNat m), .int (Int32.ofNat i), v4, v5] [] (hs t, F, G) Q := by
    intro d
    induction d with
    | zero =>
      intro i m v4 v5 hi hm hx
      obtain rfl : i = N := by omega
      have hx : m = _ := hx
      subst hx
      refine rg8_4 ⟨fun _ => h, fun q => ?_⟩
      rw [hN2] at q
      (simp (disch := omega) only [nn_lit, nn_m1, nn_add, nn_mul, nn_rem, nn_sub, nn_addm1, nn_lt, nn_le, nn_eq, nn_clamp, nn_in, nn_nem1, nn_m1ne, nn_ltm1, nn_m1lt, nn_m1le, nn_lem1, bz_0, bz_n0, not_false_eq_true, not_true_eq_false, true_and, and_true, false_and, and_false, false_implies, true_implies, forall_const, Nat.reduceMul, Nat.reduceAdd, Nat.reduceSub] at q <;> try simp only [nn_bk] at q)
      omega
    | succ d ih =>
      intro i m v4 v5 hi hm hx
      have hc := cn_le (P := fun j => decide (F (127 + i) w = F (127 + j) w)) N
      refine rg8_4 ⟨fun q => ?_, fun _ => inner i m (by omega) (fun a4 a5 => ih (i + 1) _ _ _ (by omega) (by omega) hx) hm N 0 (by omega)⟩
      rw [hN2] at q
      (simp (disch := omega) only [nn_lit, nn_m1, nn_add, nn_mul, nn_rem, nn_sub, nn_addm1, nn_lt, nn_le, nn_eq, nn_clamp, nn_in, nn_nem1, nn_m1ne, nn_ltm1, nn_m1lt, nn_m1le, nn_lem1, bz_0, bz_n0, not_false_eq_true, not_true_eq_false, true_and, and_true, false_and, and_false, false_implies, true_implies, forall_const, Nat.reduceMul, Nat.reduceAdd, Nat.reduceSub] at q <;> try simp only [nn_bk] at q)
      omega
  exact rg8_0 (outer N 0 0 _ _ (by omega) (by omega) rfl)
theorem sp7 {F : ip_F} {N : Nat} (hN : N ≤ 64) (hN2 : F 124 3 = Int32.ofNat N) (h : Q (some (.int (if N = 0 then -1 else mn9 (fun w => al9 (fun i => F (127 + i) w) N) id 11 1 (-1) 1048576))) (hs t, F, G)) : wp 7 0 [.ref 124, .float 0, .float 0, .float 0, .float 0] [] (hs t, F, G) Q := by
  by_cases h0 : N = 0
  · subst h0
    rw [if_pos rfl] at h
    refine rg7_0 (rg7_9 ⟨fun q => absurd q (by decide), fun _ => ⟨fun _ => h, fun q => ?_⟩⟩)
    rw [hN2] at q
    exact absurd q (by decide)
  rw [if_neg h0] at h
  have loop : ∀ d w b m few v4, w + d = 12 → CF9 N b m few → few < 2147483648 → 1 ≤ w → Q (some (.int (mn9 (fun w => al9 (fun i => F (127 + i) w) N) id d w b m))) (hs t, F, G) → wp 7 9 [.ref 124, .int b, .int (Int32.ofNat few), .int (Int32.ofNat w), v4] [] (hs t, F, G) Q := by
    intro d
    induction d with
    | zero =>
      intro w b m few v4 hw hC hf hw1 hQ
      obtain rfl : w = 12 := by omega
      exact rg7_9 ⟨fun _ => hQ, fun q => absurd q (by decide)⟩
    | succ d ih =>
      intro w b m few v4 hw hC hf hw1 hQ
      rw [mn9] at hQ
      have hle := al_le (v := fun i => F (127 + i) w) (N := N)
      have take : al9 (fun i => F (127 + i) w) N < m → wp 7 40 [.ref 124, .int b, .int (Int32.ofNat few), .int (Int32.ofNat w), .int (Int32.ofNat (al9 (fun i => F (127 + i) w) N))] [] (hs t, F, G) Q := by
        intro hl
        rw [if_pos hl] at hQ
        refine rg7_40 (rg7_45 ?_)
        rw [show Int32.ofNat w + 1 = Int32.ofNat (w + 1) from nn_add w 1]
        exact ih (w + 1) _ _ _ _ (by omega) (cf_step hC (by omega) (by omega) hl) (by omega) (by omega) hQ
      refine rg7_9 ⟨fun q => ?_, fun _ => ⟨fun q => ?_, fun _ => sp8 (by omega) hN hN2 (rg7_27 ⟨fun e => take ?_, fun e => ⟨fun e1 => rg7_45 ?_, fun e1 => take ?_⟩⟩)⟩⟩
      · exact absurd ((nn_le (a := 12) (by omega) (by omega)).mp q) (by omega)
      · rw [hN2] at q
        exact absurd ((nn_le (b := 0) (by omega) (by omega)).mp q) (by omega)
      · rcases hC with h1 | h1
        · omega
        · exact absurd e h1.1
      · rcases hC with h1 | h1
        · exact absurd h1.1 e
        · (simp (disch := omega) only [nn_lit, nn_m1, nn_add, nn_mul, nn_rem, nn_sub, nn_addm1, nn_lt, nn_le, nn_eq, nn_clamp, nn_in, nn_nem1, nn_m1ne, nn_ltm1, nn_m1lt, nn_m1le, nn_lem1, bz_0, bz_n0, not_false_eq_true, not_true_eq_false, true_and, and_true, false_and, and_false, false_implies, true_implies, forall_const, Nat.reduceMul, Nat.reduceAdd, Nat.reduceSub] at e1 <;> try simp only [nn_bk] at e1)
          rw [if_neg (by omega)] at hQ
          rw [show Int32.ofNat w + 1 = Int32.ofNat (w + 1) from nn_add w 1]
          exact ih (w + 1) _ _ _ _ (by omega) (Or.inr h1) hf (by omega) hQ
      · rcases hC with h1 | h1
        · exact absurd h1.1 e
        · (simp (disch := omega) only [nn_lit, nn_m1, nn_add, nn_mul, nn_rem, nn_sub, nn_addm1, nn_lt, nn_le, nn_eq, nn_clamp, nn_in, nn_nem1, nn_m1ne, nn_ltm1, nn_m1lt, nn_m1le, nn_lem1, bz_0, bz_n0, not_false_eq_true, not_true_eq_false, true_and, and_true, false_and, and_false, false_implies, true_implies, forall_const, Nat.reduceMul, Nat.reduceAdd, Nat.reduceSub] at e1 <;> try simp only [nn_bk] at e1)
          omega
  refine rg7_0 ?_
  rw [hN2]
  exact loop 11 1 (-1) 1048576 N _ rfl (Or.inl ⟨rfl, rfl, rfl⟩) (by omega) (by omega) h
/-! the reference -/
abbrev nmw (x : Nat) : Prop := x ≠ 205 ∧ x ≠ 210
theorem sp209_10 {ch c : Nat → Int32} {S u w : Nat} {F0 : ip_F} (h4 : 4 ≤ n) (h6 : n ≤ 6) (hS : S < 64) (hw : w < 12) (hk : KW9 n c) (hb : F0 193 1 = Int32.ofNat n) (hch : F0 195 = ch) (hc : mr9 F0 = c) (hH : HM9 u F0) : ∀ d k F v5 v6 v7, k + d = S + 1 → (∀ x, nmw x → F x = F0 x) → (∀ i, i < (sq9 S (ah9 n ch c u (kr9 F0) (kv9 F0)) k).1 → F 210 i = gn9 n ch c ((sq9 S (ah9 n ch c u (kr9 F0) (kv9 F0)) k).2 i) mk0 w) → (∀ F' v6 v7, (∀ x, nmw x → F' x = F0 x) → (∀ i, i < (sq9 S (ah9 n ch c u (kr9 F0) (kv9 F0)) (S + 1)).1 → F' 210 i = gn9 n ch c ((sq9 S (ah9 n ch c u (kr9 F0) (kv9 F0)) (S + 1)).2 i) mk0 w) → wp 209 62 [.ref 193, .int (Int32.ofNat w), .int (Int32.ofNat S), .int (Int32.ofNat (sq9 S (ah9 n ch c u (kr9 F0) (kv9 F0)) (S + 1)).1), .int 0, .int 0, v6, v7] [] (hs t, F', G) Q) → wp 209 10 [.ref 193, .int (Int32.ofNat w), .int (Int32.ofNat S), .int (Int32.ofNat (sq9 S (ah9 n ch c u (kr9 F0) (kv9 F0)) k).1), .int (Int32.ofNat k), v5, v6, v7] [] (hs t, F, G) Q := by
  intro d
  induction d with
  | zero =>
    intro k F v5 v6 v7 hk' hf hv h
    obtain rfl : k = S + 1 := by omega
    refine rg209_10 ⟨fun _ => h F _ _ hf hv, fun q => ?_⟩
    (simp (disch := omega) only [nn_lit, nn_m1, nn_add, nn_mul, nn_rem, nn_sub, nn_addm1, nn_lt, nn_le, nn_eq, nn_clamp, nn_in, nn_nem1, nn_m1ne, nn_ltm1, nn_m1lt, nn_m1le, nn_lem1, bz_0, bz_n0, not_false_eq_true, not_true_eq_false, true_and, and_true, false_and, and_false, false_implies, true_implies, forall_const, Nat.reduceMul, Nat.reduceAdd, Nat.reduceSub] at q <;> try simp only [nn_bk] at q)
    omega
  | succ d ih =>
    intro k F v5 v6 v7 hk' hf hv h
    have hl := sq_le (S := S) (A := ah9 n ch c u (kr9 F0) (kv9 F0)) k
    have stay : ∀ F1 v5 v6 v7, (∀ x, nmw x → F1 x = F0 x) → F1 210 = F 210 → (decide (k &&& S = k) && ah9 n ch c u (kr9 F0) (kv9 F0) k) = false → wp 209 50 [.ref 193, .int (Int32.ofNat w), .int (Int32.ofNat S), .int (Int32.ofNat (sq9 S (ah9 n ch c u (kr9 F0) (kv9 F0)) k).1), .int (Int32.ofNat k), v5, v6, v7] [] (hs t, F1, G) Q := by
      intro F1 v5 v6 v7 f1 f2 e
      refine rg209_50 ?_
      have := ih (k + 1) F1 v5 v6 v7 (by omega) f1
      rw [sq9, if_neg (by rw [e]; exact Bool.false_ne_true)] at this
      rw [show Int32.ofNat k + 1 = Int32.ofNat (k + 1) from nn_add k 1]
      exact this (fun i hi => by rw [f2]; exact hv i hi) h
    refine rg209_10 ⟨fun q => ?_, fun _ => ⟨fun q => stay F _ _ _ hf rfl ?_, fun q => ?_⟩⟩
    · (simp (disch := omega) only [nn_lit, nn_m1, nn_add, nn_mul, nn_rem, nn_sub, nn_addm1, nn_lt, nn_le, nn_eq, nn_clamp, nn_in, nn_nem1, nn_m1ne, nn_ltm1, nn_m1lt, nn_m1le, nn_lem1, bz_0, bz_n0, not_false_eq_true, not_true_eq_false, true_and, and_true, false_and, and_false, false_implies, true_implies, forall_const, Nat.reduceMul, Nat.reduceAdd, Nat.reduceSub] at q <;> try simp only [nn_bk] at q)
      omega
    · rw [bt_sub ⟨k, by omega⟩ ⟨S, hS⟩] at q
      rw [decide_eq_false q, Bool.false_and]
    · rw [bt_sub ⟨k, by omega⟩ ⟨S, hS⟩] at q
      have m0 : mr9 F = c := by rw [← hc]; exact mr_fr (by rw [hf 193 (by decide)]) (hf 196 (by decide)) (hf 197 (by decide)) (hf 198 (by decide)) (hf 199 (by decide))
      have c0 : F 195 = ch := by rw [hf 195 (by decide), hch]
      refine sp207 (ch := F 195) (c := mr9 F) (u := u) h4 h6 (by omega) (by rw [m0]; exact hk) (by rw [hf 193 (by decide), hb]) rfl rfl ⟨hH.1, by rw [hf 193 (by decide), hH.2.1], by rw [hf 200 (by decide)]; exact hH.2.2⟩ (fun F1 hf1 => ?_)
      have f1 : ∀ x, nmw x → F1 x = F0 x := fun x hx => by rw [hf1 x hx.1, hf x hx]
      have eA : ah9 n (F 195) (mr9 F) u (kr9 F) (kv9 F) k = ah9 n ch c u (kr9 F0) (kv9 F0) k := by
        rw [m0, c0]
        unfold ah9
        exact ag_congr u (fun j _ => ⟨by show (F 200 _).toNatClampNeg = _; rw [hf 200 (by decide)], by show F 200 _ = _; rw [hf 200 (by decide)], rfl⟩)
      rw [eA]
      refine rg209_31 ⟨fun e => stay F1 _ _ _ f1 (hf1 210 (by decide)) (by rw [Bool.eq_false_iff.mpr (bz_0.mp e), Bool.and_false]), fun e => ?_⟩
      have m1 : mr9 F1 = c := by rw [mr_eq (fun x h1 _ => hf1 x h1), m0]
      refine sp182 (ch := ch) (c := c) h4 h6 hw (show k < 64 by omega) hk (by rw [f1 193 (by decide), hb]) (by rw [f1 195 (by decide), hch]) m1 (fun F2 hf2 => rg209_46 ⟨(nn_in (by omega)).mpr (by omega), rg209_50 ?_⟩)
      have hT : (decide (k &&& S = k) && ah9 n ch c u (kr9 F0) (kv9 F0) k) = true := by rw [decide_eq_true (show k &&& S = k from q), bz_n0.mp e]; rfl
      rw [show Int32.ofNat k + 1 = Int32.ofNat (k + 1) from nn_add k 1, show Int32.ofNat (sq9 S (ah9 n ch c u (kr9 F0) (kv9 F0)) k).1 + 1 = Int32.ofNat ((sq9 S (ah9 n ch c u (kr9 F0) (kv9 F0)) k).1 + 1) from nn_add _ 1, nn_clamp (by omega)]
      have := ih (k + 1) (ip_u F2 210 (sq9 S (ah9 n ch c u (kr9 F0) (kv9 F0)) k).1 (nm9 (ru9 n ch c k mk0 w) n)) v5 v6 v7 (by omega) (fun x hx => by rw [u_n hx.2, hf2 x hx.1, f1 x hx])
      rw [sq9, if_pos hT] at this
      refine this (fun i hi => ?_) h
      dsimp only at hi ⊢
      rw [u_s]
      by_cases q2 : i = (sq9 S (ah9 n ch c u (kr9 F0) (kv9 F0)) k).1
      · rw [if_pos q2, if_pos q2]
        rfl
      · rw [if_neg q2, if_neg q2, hf2 210 (by decide), hf1 210 (by decide)]
        exact hv i (by omega)
theorem sp209_62 {F : ip_F} {N : Nat} {a1 a2 : Int32} {v6 v7 : Value} (hN : N ≤ 64) (h : Q (some (.int (Int32.ofNat (al9 (F 210) N)))) (hs t, F, G)) : wp 209 62 [.ref 193, .int a1, .int a2, .int (Int32.ofNat N), .int 0, .int 0, v6, v7] [] (hs t, F, G) Q := by
  have inner : ∀ i m, i < N → (∀ a6 a7 : Int32, wp 209 62 [.ref 193, .int a1, .int a2, .int (Int32.ofNat N), .int (Int32.ofNat (max m (cn9 (fun j => decide (F 210 i = F 210 j)) N))), .int (Int32.ofNat (i + 1)), .int a6, .int a7] [] (hs t, F, G) Q) → m ≤ 64 → ∀ d j, j + d = N → wp 209 74 [.ref 193, .int a1, .int a2, .int (Int32.ofNat N), .int (Int32.ofNat m), .int (Int32.ofNat i), .int (Int32.ofNat (cn9 (fun j => decide (F 210 i = F 210 j)) j)), .int (Int32.ofNat j)] [] (hs t, F, G) Q := by
    intro i m hi hk hm d
    induction d with
    | zero =>
      intro j hj
      obtain rfl : j = N := by omega
      have hc := cn_le (P := fun q => decide (F 210 i = F 210 q)) j
      refine rg209_74 ⟨fun _ => sp146 ?_, fun q => ?_⟩
      · rw [max_j (by omega) (by omega)]
        refine rg209_120 ?_
        rw [show Int32.ofNat i + 1 = Int32.ofNat (i + 1) from nn_add i 1]
        exact hk _ _
      · (simp (disch := omega) only [nn_lit, nn_m1, nn_add, nn_mul, nn_rem, nn_sub, nn_addm1, nn_lt, nn_le, nn_eq, nn_clamp, nn_in, nn_nem1, nn_m1ne, nn_ltm1, nn_m1lt, nn_m1le, nn_lem1, bz_0, bz_n0, not_false_eq_true, not_true_eq_false, true_and, and_true, false_and, and_false, false_implies, true_implies, forall_const, Nat.reduceMul, Nat.reduceAdd, Nat.reduceSub] at q <;> try simp only [nn_bk] at q)
        omega
    | succ d ih =>
      intro j hj
      have h1 := ih (j + 1) (by omega)
      rw [cn9] at h1
      have fin : ∀ z : Nat, z = (if decide (F 210 i = F 210 j) = true then 1 else 0) → wp 209 104 [.ref 193, .int a1, .int a2, .int (Int32.ofNat N), .int (Int32.ofNat m), .int (Int32.ofNat i), .int (Int32.ofNat (cn9 (fun j => decide (F 210 i = F 210 j)) j)), .int (Int32.ofNat j)] [.int (Int32.ofNat z), .int (Int32.ofNat (cn9 (fun j => decide (F 210 i = F 210 j)) j))] (hs t, F, G) Q := by
        intro z hz
        refine rg209_104 ?_
        rw [nn_add, show Int32.ofNat j + 1 = Int32.ofNat (j + 1) from nn_add j 1, hz]
        exact h1
      refine rg209_74 ⟨fun q => ?_, fun _ => ⟨(nn_in (by omega)).mpr (by omega), (nn_in (by omega)).mpr (by omega), fun e => fin 0 ?_, fun e => fin 1 ?_⟩⟩
      · (simp (disch := omega) only [nn_lit, nn_m1, nn_add, nn_mul, nn_rem, nn_sub, nn_addm1, nn_lt, nn_le, nn_eq, nn_clamp, nn_in, nn_nem1, nn_m1ne, nn_ltm1, nn_m1lt, nn_m1le, nn_lem1, bz_0, bz_n0, not_false_eq_true, not_true_eq_false, true_and, and_true, false_and, and_false, false_implies, true_implies, forall_const, Nat.reduceMul, Nat.reduceAdd, Nat.reduceSub] at q <;> try simp only [nn_bk] at q)
        omega
      · rw [nn_clamp (by omega), nn_clamp (by omega)] at e
        rw [decide_eq_false e]
        rfl
      · rw [nn_clamp (by omega), nn_clamp (by omega)] at e
        rw [decide_eq_true e]
        rfl
  have outer : ∀ d i m v6 v7, i + d = N → m ≤ 64 → mx9 (fun i => cn9 (fun j => decide (F 210 i = F 210 j)) N) d i m = al9 (F 210) N → wp 209 62 [.ref 193, .int a1, .int a2, .int (Int32.ofNat N), .int (Int32.ofNat m), .int (Int32.ofNat i), v6, v7] [] (hs t, F, G) Q := by
    intro d
    induction d with
    | zero =>
      intro i m v6 v7 hi hm hx
      obtain rfl : i = N := by omega
      have hx : m = _ := hx
      subst hx
      refine rg209_62 ⟨fun _ => h, fun q => ?_⟩
      (simp (disch := omega) only [nn_lit, nn_m1, nn_add, nn_mul, nn_rem, nn_sub, nn_addm1, nn_lt, nn_le, nn_eq, nn_clamp, nn_in, nn_nem1, nn_m1ne, nn_ltm1, nn_m1lt, nn_m1le, nn_lem1, bz_0, bz_n0, not_false_eq_true, not_true_eq_false, true_and, and_true, false_and, and_false, false_implies, true_implies, forall_const, Nat.reduceMul, Nat.reduceAdd, Nat.reduceSub] at q <;> try simp only [nn_bk] at q)
      omega
    | succ d ih =>
      intro i m v6 v7 hi hm hx
      have hc := cn_le (P := fun j => decide (F 210 i = F 210 j)) N
      refine rg209_62 ⟨fun q => ?_, fun _ => inner i m (by omega) (fun a6 a7 => ih (i + 1) _ _ _ (by omega) (by omega) hx) hm N 0 (by omega)⟩
      (simp (disch := omega) only [nn_lit, nn_m1, nn_add, nn_mul, nn_rem, nn_sub, nn_addm1, nn_lt, nn_le, nn_eq, nn_clamp, nn_in, nn_nem1, nn_m1ne, nn_ltm1, nn_m1lt, nn_m1le, nn_lem1, bz_0, bz_n0, not_false_eq_true, not_true_eq_false, true_and, and_true, false_and, and_false, false_implies, true_implies, forall_const, Nat.reduceMul, Nat.reduceAdd, Nat.reduceSub] at q <;> try simp only [nn_bk] at q)
      omega
  exact outer N 0 0 _ _ (by omega) (by omega) rfl
theorem sp210_7 {ch c : Nat → Int32} {S u N : Nat} {el : Nat → Nat} {F0 : ip_F} (h4 : 4 ≤ n) (h6 : n ≤ 6) (hS : bf9 (hsl (mr9 F0)) n = S) (hk : KW9 n c) (hb : F0 193 1 = Int32.ofNat n) (hch : F0 195 = ch) (hc : mr9 F0 = c) (hH : HM9 u F0) (hN : (sq9 S (ah9 n ch c u (kr9 F0) (kv9 F0)) (S + 1)).1 = N) (hel : (sq9 S (ah9 n ch c u (kr9 F0) (kv9 F0)) (S + 1)).2 = el) : ∀ d w b m F v4, w + d = 12 → 1 ≤ w → m < 2147483648 → (∀ x, nmw x → F x = F0 x) → (∀ F', (∀ x, nmw x → F' x = F0 x) → Q (some (.int (if N = 0 then b else mn9 (fun w => al9 (fun i => gn9 n ch c (el i) mk0 w) N) id d w b m))) (hs t, F', G)) → wp 210 7 [.ref 193, .int b, .int (Int32.ofNat m), .int (Int32.ofNat w), v4] [] (hs t, F, G) Q := by
  have hS64 : S < 64 := by rw [← hS]; exact bf_lt _ n h6
  have hN64 : N ≤ 64 := by
    have := sq_le (S := S) (A := ah9 n ch c u (kr9 F0) (kv9 F0)) (S + 1)
    omega
  intro d
  induction d with
  | zero =>
    intro w b m F v4 hw hw1 hm hf h
    obtain rfl : w = 12 := by omega
    refine rg210_7 ⟨fun _ => ?_, fun q => absurd q (by decide)⟩
    have := h F hf
    rw [mn9] at this
    rw [show (if N = 0 then b else b) = b by split <;> rfl] at this
    exact this
  | succ d ih =>
    intro w b m F v4 hw hw1 hm hf h
    rw [mn9] at h
    have m0 : mr9 F = mr9 F0 := mr_fr (by rw [hf 193 (by decide)]) (hf 196 (by decide)) (hf 197 (by decide)) (hf 198 (by decide)) (hf 199 (by decide))
    refine rg210_7 ⟨fun q => ?_, fun _ => rg209_0 (sp174 h6 (by rw [hf 193 (by decide), hb]) (rg209_4 ?_))⟩
    · exact absurd ((nn_le (a := 12) (by omega) (by omega)).mp q) (by omega)
    · rw [m0, hS]
      have eA : ∀ k, ah9 n ch c u (kr9 F) (kv9 F) k = ah9 n ch c u (kr9 F0) (kv9 F0) k := fun k => by
        unfold ah9
        exact ag_congr u (fun j _ => ⟨by show (F 200 _).toNatClampNeg = _; rw [hf 200 (by decide)], by show F 200 _ = _; rw [hf 200 (by decide)], rfl⟩)
      have eA' : ah9 n ch c u (kr9 F) (kv9 F) = ah9 n ch c u (kr9 F0) (kv9 F0) := funext eA
      have key := sp209_10 (G := G) (t := t) (Q := fun v M' => wp 210 18 [.ref 193, .int b, .int (Int32.ofNat m), .int (Int32.ofNat w), v4] (v.toList ++ []) M' Q) (ch := ch) (c := c) (u := u) (w := w) (F0 := F) h4 h6 hS64 (by omega) hk (by rw [hf 193 (by decide), hb]) (by rw [hf 195 (by decide), hch]) (by rw [m0, hc]) ⟨hH.1, by rw [hf 193 (by decide), hH.2.1], by rw [hf 200 (by decide)]; exact hH.2.2⟩ (S + 1) 0 F (.float 0) (.float 0) (.float 0) (by omega) (fun _ _ => rfl) (fun i hi => absurd hi (Nat.not_lt_zero i))
      refine key (fun F1 v6 v7 f1 hv => ?_)
      rw [eA', hN, hel] at hv
      rw [eA', hN]
      refine sp209_62 hN64 ?_
      rw [al_congr hv]
      have f10 : ∀ x, nmw x → F1 x = F0 x := fun x hx => by rw [f1 x hx, hf x hx]
      have hle := al_le (v := fun i => gn9 n ch c (el i) mk0 w) (N := N)
      by_cases h0 : N = 0
      · have ha0 : al9 (fun i => gn9 n ch c (el i) mk0 w) N = 0 := by omega
        rw [ha0]
        refine rg210_18 ⟨fun _ => rg210_36 ⟨fun _ => rg210_52 ?_, fun q => absurd q (by decide)⟩, fun q => absurd q (by decide)⟩
        rw [show Int32.ofNat w + 1 = Int32.ofNat (w + 1) from nn_add w 1]
        refine ih (w + 1) b m F1 _ (by omega) (by omega) hm f10 (fun F' k1 => ?_)
        have := h F' k1
        rw [if_pos h0] at this ⊢
        exact this
      · have hpos := al_pos (v := fun i => gn9 n ch c (el i) mk0 w) (N := N) (by omega)
        have hp : ¬ Int32.ofNat (al9 (fun i => gn9 n ch c (el i) mk0 w) N) ≤ 0 := fun q => by
          have := (nn_le (b := 0) (by omega) (by omega)).mp q
          omega
        rw [if_neg h0] at h
        refine rg210_18 ⟨fun q => absurd q hp, fun _ => ⟨fun e => rg210_36 ⟨fun q => absurd q hp, fun _ => sp145 (rg210_48 (rg210_52 ?_))⟩, fun e => rg210_36 ⟨fun q => absurd q hp, fun _ => sp145 (rg210_48 (rg210_52 ?_))⟩⟩⟩
        · (simp (disch := omega) only [nn_lit, nn_m1, nn_add, nn_mul, nn_rem, nn_sub, nn_addm1, nn_lt, nn_le, nn_eq, nn_clamp, nn_in, nn_nem1, nn_m1ne, nn_ltm1, nn_m1lt, nn_m1le, nn_lem1, bz_0, bz_n0, not_false_eq_true, not_true_eq_false, true_and, and_true, false_and, and_false, false_implies, true_implies, forall_const, Nat.reduceMul, Nat.reduceAdd, Nat.reduceSub] at e <;> try simp only [nn_bk] at e)
          rw [show Int32.ofNat w + 1 = Int32.ofNat (w + 1) from nn_add w 1]
          have eg : (if Int32.ofNat m < Int32.ofNat (al9 (fun i => gn9 n ch c (el i) mk0 w) N) then Int32.ofNat m else Int32.ofNat (al9 (fun i => gn9 n ch c (el i) mk0 w) N)) = Int32.ofNat m := by
            split
            · rfl
            · rename_i q
              rw [nn_lt (by omega) (by omega)] at q
              congr 1
              omega
          rw [eg]
          refine ih (w + 1) b m F1 _ (by omega) (by omega) hm f10 (fun F' k1 => ?_)
          have := h F' k1
          rw [if_neg (by omega)] at this
          rw [if_neg h0]
          exact this
        · (simp (disch := omega) only [nn_lit, nn_m1, nn_add, nn_mul, nn_rem, nn_sub, nn_addm1, nn_lt, nn_le, nn_eq, nn_clamp, nn_in, nn_nem1, nn_m1ne, nn_ltm1, nn_m1lt, nn_m1le, nn_lem1, bz_0, bz_n0, not_false_eq_true, not_true_eq_false, true_and, and_true, false_and, and_false, false_implies, true_implies, forall_const, Nat.reduceMul, Nat.reduceAdd, Nat.reduceSub] at e <;> try simp only [nn_bk] at e)
          rw [show Int32.ofNat w + 1 = Int32.ofNat (w + 1) from nn_add w 1, if_neg (by rw [nn_lt (by omega) (by omega)]; omega)]
          refine ih (w + 1) _ _ F1 _ (by omega) (by omega) (by omega) f10 (fun F' k1 => ?_)
          have := h F' k1
          rw [if_pos e] at this
          rw [if_neg h0]
          exact this
theorem pr_tell {F : ip_F} (hI : INV t F G) : wp 112 0 [.ref 0] [] (hs t, F, G) (fun v M => wp 210 0 [.ref 193, .float 0, .float 0, .float 0, .float 0] [] M (ENi v)) := by
  obtain ⟨n, ⟨h4, h6, b1, b2, b3⟩, hP, hU, ⟨u, u1, u2, u3, u4⟩, hN, hM⟩ := hI.2.1
  refine rg112_0 (sp2 h4 h6 b1 hP.2 ⟨u1, u2, fun j hj => (u4 j hj).1⟩ (fun F1 hE hf => rg112_18 ?_))
  have e : ∀ x, nqc x → F1 x = F x := fun x hx => hf x (npl_q hx) (by unfold nqc at hx; unfold nev; omega)
  have m1 : mr9 F1 = mr9 F := mr_q (fun x hx _ => e x hx)
  have hP1 : NP9 n F1 := np_fr hP (e 4 (by decide)) m1
  have hS : bf9 (hsl (F 4)) 6 < 64 := bf_lt _ 6 (by omega)
  have hS2 : bf9 (hsl (mr9 F1)) n = bf9 (hsl (F 4)) 6 := by rw [m1, sl_eq h6 hP.2 hP.1]
  have eA : ah9 n (F1 195) (mr9 F1) u (kr9 F1) (kv9 F1) = ah9 n (F 2) (F 4) u (hr9 F) (hv9 F) := by
    rw [ah_eq h6 hP b3 (fun j hj => (u4 j hj).2), m1, e 195 (by decide)]
    funext k
    unfold ah9
    exact ag_congr u (fun j _ => ⟨by show (F1 200 _).toNatClampNeg = _; rw [e 200 (by decide)], by show F1 200 _ = _; rw [e 200 (by decide)], rfl⟩)
  generalize hsq : sq9 (bf9 (hsl (F 4)) 6) (ah9 n (F 2) (F 4) u (hr9 F) (hv9 F)) 64 = sq at hE
  have hl : sq.1 ≤ 64 := by rw [← hsq]; exact sq_le 64
  have hsq2 : sq9 (bf9 (hsl (F 4)) 6) (ah9 n (F1 195) (mr9 F1) u (kr9 F1) (kv9 F1)) (bf9 (hsl (F 4)) 6 + 1) = sq := by rw [eA, ← sq_64 hS, hsq]
  refine sp7 hl hE.1 (rg112_25 ?_)
  refine rg210_0 (sp210_7 (ch := F1 195) (c := mr9 F1) (S := bf9 (hsl (F 4)) 6) (u := u) (N := sq.1) (el := sq.2) (F0 := F1) h4 h6 hS2 (kw_m h6 hP1) (by rw [e 193 (by decide), b2]) rfl rfl ⟨u1, by rw [e 193 (by decide), u3], fun j hj => ?_⟩ (by rw [hsq2]) (by rw [hsq2]) 11 1 (-1) 1048576 F1 _ rfl (by omega) (by omega) (fun _ _ => rfl) (fun F2 k2 => en_i (inv_fr hI (fun x h1 h2 => by rw [k2 x ⟨h2.1, h2.2.2.2.2⟩, e x h1])) ?_))
  · obtain ⟨r, r1, r2, r3⟩ := (u4 j hj).1
    have := (u4 j hj).2 0 (by omega)
    exact ⟨r, r1, r2, by rw [e 200 (by decide)]; rw [Nat.add_zero, Nat.add_zero] at this; rw [← this, r3]⟩
  · congr 1
    refine mn_congr (N := 12) (fun w hw => al_congr (fun i hi => ?_)) 11 1 _ _ (by omega)
    refine ((hE.2 i hi).2 w hw).trans ?_
    show gn9 n (F 2) (F 4) (sq.2 i) mk0 w = _
    rw [m1, e 195 (by decide), gn_congr h6 b3 hP.1]
end SP
