/-! ===== rows astray; the peal as it stands ===== -/
def as9 (g g' : Nat → Int32) : Nat → Nat
  | 0 => 0
  | k + 1 => as9 g g' k + if g k = g' k then 0 else 1
theorem as_agree {g g' f f' : Nat → Int32} : ∀ k, (∀ x, x < k → g x = f x) → (∀ x, x < k → g' x = f' x) → as9 g g' k = as9 f f' k
  | 0, _, _ => rfl
  | k + 1, h, h' => by rw [as9, as9, as_agree k (fun x hx => h x (by omega)) (fun x hx => h' x (by omega)), h k (by omega), h' k (by omega)]
/-- the twelve numbers meant -/
def gm9 (n : Nat) (ch : Nat → Int32) : Nat → Int32 := fun k => nm9 (mu9 n ch k) n
section SP
variable {t : Nat} {G : ip_G} {Q : Option Value → ip_M → Prop} {n : Nat}
theorem sp32_4 {F : ip_F} (h : Q (some (.int (Int32.ofNat (as9 (F 117) (F 116) 12)))) (hs t, F, G)) : ∀ d k, k + d = 12 → wp 32 4 [.ref 89, .int (Int32.ofNat (as9 (F 117) (F 116) k)), .int (Int32.ofNat k)] [] (hs t, F, G) Q := by
  intro d
  induction d with
  | zero =>
    intro k hk
    obtain rfl : k = 12 := by omega
    exact rg32_4 ⟨fun _ => h, fun q => absurd q (by decide)⟩
  | succ d ih =>
    intro k hk
    have h1 := ih (k + 1) (by omega)
    rw [as9] at h1
    refine rg32_4 ⟨fun q => ?_, fun _ => ⟨?_, ?_, fun e => rg32_31 ?_, fun e => rg32_31 ?_⟩⟩
    · (simp (disch := omega) only [nn_lit, nn_m1, nn_add, nn_mul, nn_rem, nn_sub, nn_addm1, nn_lt, nn_le, nn_eq, nn_clamp, nn_in, nn_nem1, nn_m1ne, nn_ltm1, nn_m1lt, nn_m1le, nn_lem1, bz_0, bz_n0, not_false_eq_true, not_true_eq_false, true_and, and_true, false_and, and_false, false_implies, true_implies, forall_const, Nat.reduceMul, Nat.reduceAdd, Nat.reduceSub] at q <;> try simp only [nn_bk] at q)
      omega
    · (simp (disch := omega) only [nn_lit, nn_m1, nn_add, nn_mul, nn_rem, nn_sub, nn_addm1, nn_lt, nn_le, nn_eq, nn_clamp, nn_in, nn_nem1, nn_m1ne, nn_ltm1, nn_m1lt, nn_m1le, nn_lem1, bz_0, bz_n0, not_false_eq_true, not_true_eq_false, true_and, and_true, false_and, and_false, false_implies, true_implies, forall_const, Nat.reduceMul, Nat.reduceAdd, Nat.reduceSub] <;> try simp only [nn_bk])
      omega
    · (simp (disch := omega) only [nn_lit, nn_m1, nn_add, nn_mul, nn_rem, nn_sub, nn_addm1, nn_lt, nn_le, nn_eq, nn_clamp, nn_in, nn_nem1, nn_m1ne, nn_ltm1, nn_m1lt, nn_m1le, nn_lem1, bz_0, bz_n0, not_false_eq_true, not_true_eq_false, true_and, and_true, false_and, and_false, false_implies, true_implies, forall_const, Nat.reduceMul, Nat.reduceAdd, Nat.reduceSub] <;> try simp only [nn_bk])
      omega
    · (simp (disch := omega) only [nn_lit, nn_m1, nn_add, nn_mul, nn_rem, nn_sub, nn_addm1, nn_lt, nn_le, nn_eq, nn_clamp, nn_in, nn_nem1, nn_m1ne, nn_ltm1, nn_m1lt, nn_m1le, nn_lem1, bz_0, bz_n0, not_false_eq_true, not_true_eq_false, true_and, and_true, false_and, and_false, false_implies, true_implies, forall_const, Nat.reduceMul, Nat.reduceAdd, Nat.reduceSub] at e <;> try simp only [nn_bk] at e)
      rw [if_pos e] at h1
      (simp (disch := omega) only [nn_lit, nn_m1, nn_add, nn_mul, nn_rem, nn_sub, nn_addm1, nn_lt, nn_le, nn_eq, nn_clamp, nn_in, nn_nem1, nn_m1ne, nn_ltm1, nn_m1lt, nn_m1le, nn_lem1, bz_0, bz_n0, not_false_eq_true, not_true_eq_false, true_and, and_true, false_and, and_false, false_implies, true_implies, forall_const, Nat.reduceMul, Nat.reduceAdd, Nat.reduceSub] <;> try simp only [nn_bk])
      exact h1
    · (simp (disch := omega) only [nn_lit, nn_m1, nn_add, nn_mul, nn_rem, nn_sub, nn_addm1, nn_lt, nn_le, nn_eq, nn_clamp, nn_in, nn_nem1, nn_m1ne, nn_ltm1, nn_m1lt, nn_m1le, nn_lem1, bz_0, bz_n0, not_false_eq_true, not_true_eq_false, true_and, and_true, false_and, and_false, false_implies, true_implies, forall_const, Nat.reduceMul, Nat.reduceAdd, Nat.reduceSub] at e <;> try simp only [nn_bk] at e)
      rw [if_neg e] at h1
      (simp (disch := omega) only [nn_lit, nn_m1, nn_add, nn_mul, nn_rem, nn_sub, nn_addm1, nn_lt, nn_le, nn_eq, nn_clamp, nn_in, nn_nem1, nn_m1ne, nn_ltm1, nn_m1lt, nn_m1le, nn_lem1, bz_0, bz_n0, not_false_eq_true, not_true_eq_false, true_and, and_true, false_and, and_false, false_implies, true_implies, forall_const, Nat.reduceMul, Nat.reduceAdd, Nat.reduceSub] <;> try simp only [nn_bk])
      exact h1
theorem sp32 {F : ip_F} (h : Q (some (.int (Int32.ofNat (as9 (F 117) (F 116) 12)))) (hs t, F, G)) : wp 32 0 [.ref 89, .float 0, .float 0] [] (hs t, F, G) Q := rg32_0 (sp32_4 h 12 0 rfl)
theorem sp186_9 {m : Nat} {ch c : Nat → Int32} (h4 : 4 ≤ n) (hn : n ≤ 6) (hm64 : m < 64) (hk : KW9 n c) : ∀ d k F, k + d = 12 → F 193 1 = Int32.ofNat n → F 195 = ch → mr9 F = c → (∀ F', (∀ x, x ≠ 205 → F' x = F x) → Q (some (.int (Int32.ofNat (as9 (gn9 n ch c m mk0) (gm9 n ch) 12)))) (hs t, F', G)) → wp 186 9 [.ref 193, .int (Int32.ofNat m), .int (Int32.ofNat (as9 (gn9 n ch c m mk0) (gm9 n ch) k)), .int (Int32.ofNat k)] [] (hs t, F, G) Q := by
  intro d
  induction d with
  | zero =>
    intro k F hk12 hb hch hc h
    obtain rfl : k = 12 := by omega
    exact rg186_9 ⟨fun _ => h F (fun _ _ => rfl), fun q => absurd q (by decide)⟩
  | succ d ih =>
    intro k F hk12 hb hch hc h
    refine rg186_9 ⟨fun q => ?_, fun _ => sp182 h4 hn (by omega) hm64 hk hb hch hc (fun F1 h1 => rg186_22 (sp181 h4 hn (by omega) (by rw [h1 193 (by decide), hb]) (by rw [h1 195 (by decide), hch]) (fun F2 h2 => ?_)))⟩
    · (simp (disch := omega) only [nn_lit, nn_m1, nn_add, nn_mul, nn_rem, nn_sub, nn_addm1, nn_lt, nn_le, nn_eq, nn_clamp, nn_in, nn_nem1, nn_m1ne, nn_ltm1, nn_m1lt, nn_m1le, nn_lem1, bz_0, bz_n0, not_false_eq_true, not_true_eq_false, true_and, and_true, false_and, and_false, false_implies, true_implies, forall_const, Nat.reduceMul, Nat.reduceAdd, Nat.reduceSub] at q <;> try simp only [nn_bk] at q)
      omega
    · have h3 := ih (k + 1) F2 (by omega) (by rw [h2 193 (by decide), h1 193 (by decide), hb]) (by rw [h2 195 (by decide), h1 195 (by decide), hch]) (by rw [← hc]; exact mr_eq (fun x hx _ => by rw [h2 x hx, h1 x hx])) (fun F' h5 => h F' (fun x hx => by rw [h5 x hx, h2 x hx, h1 x hx]))
      rw [as9] at h3
      refine rg186_27 ⟨fun e => rg186_35 ?_, fun e => rg186_35 ?_⟩
      · rw [if_pos (show gn9 n ch c m mk0 k = gm9 n ch k from e)] at h3
        (simp (disch := omega) only [nn_lit, nn_m1, nn_add, nn_mul, nn_rem, nn_sub, nn_addm1, nn_lt, nn_le, nn_eq, nn_clamp, nn_in, nn_nem1, nn_m1ne, nn_ltm1, nn_m1lt, nn_m1le, nn_lem1, bz_0, bz_n0, not_false_eq_true, not_true_eq_false, true_and, and_true, false_and, and_false, false_implies, true_implies, forall_const, Nat.reduceMul, Nat.reduceAdd, Nat.reduceSub] <;> try simp only [nn_bk])
        exact h3
      · rw [if_neg (show ¬ gn9 n ch c m mk0 k = gm9 n ch k from e)] at h3
        (simp (disch := omega) only [nn_lit, nn_m1, nn_add, nn_mul, nn_rem, nn_sub, nn_addm1, nn_lt, nn_le, nn_eq, nn_clamp, nn_in, nn_nem1, nn_m1ne, nn_ltm1, nn_m1lt, nn_m1le, nn_lem1, bz_0, bz_n0, not_false_eq_true, not_true_eq_false, true_and, and_true, false_and, and_false, false_implies, true_implies, forall_const, Nat.reduceMul, Nat.reduceAdd, Nat.reduceSub] <;> try simp only [nn_bk])
        exact h3
theorem sp186 {F : ip_F} {ch c : Nat → Int32} (h4 : 4 ≤ n) (hn : n ≤ 6) (hk : KW9 n c) (hr : ∀ r, r < n → kd9 (F 198 r)) (hb : F 193 1 = Int32.ofNat n) (hch : F 195 = ch) (hc : mr9 F = c) (h : ∀ F', (∀ x, x ≠ 205 → F' x = F x) → Q (some (.int (Int32.ofNat (as9 (gn9 n ch c (bf9 (mks c) n) mk0) (gm9 n ch) 12)))) (hs t, F', G)) : wp 186 0 [.ref 193, .float 0, .float 0, .float 0] [] (hs t, F, G) Q := by
  refine rg186_0 (sp175 hn hb hr (rg186_4 ?_))
  rw [hc]
  exact sp186_9 h4 hn (bf_lt _ n hn) hk 12 0 F rfl hb hch hc h
/-- not a cell that a peal writes -/
abbrev npl (x : Nat) : Prop := nmn x ∧ nmr x
/-- what a whole peal leaves -/
abbrev Pl9 (n : Nat) (ch c : Nat → Int32) (m : Nat) (F : ip_F) : Prop := F 89 5 = Int32.ofNat n ∧ (∀ k, k < 12 → F 116 k = gm9 n ch k) ∧ (∀ k, k < 12 → F 117 k = gn9 n ch c m mk0 k)
theorem sp135 {F : ip_F} {ch c : Nat → Int32} (h4 : 4 ≤ n) (hn : n ≤ 6) (hk : KW9 n c) (hb : F 1 6 = Int32.ofNat n) (hch : F 2 = ch) (hc : F 4 = c) (h : ∀ F', Pl9 n ch c (bf9 (mks c) 6) F' → (∀ x, npl x → F' x = F x) → Q (some (.ref 89)) (hs t, F', G)) : wp 135 0 [.ref 0, .float 0] [] (hs t, F, G) Q := by
  refine rg135_0 ?_
  rw [hb]
  refine sp22 (a := 2) rfl (by decide) h4 hn hch (fun F1 hM hF => rg135_26 (sp79 (ok7_3 t) (rg135_44 ?_)))
  rw [show F1 (3 + 1) = c by rw [hF 4 (by decide), hc]]
  refine sp25 (ok7_3 t) (by decide) h4 hn (bf_lt _ 6 (by omega)) hk mk_0 ⟨hM.1, hM.2.1, hM.2.2.2⟩ (by rw [hF 4 (by decide), hc]) (fun F2 hR hF2 => rg135_47 ?_)
  refine h F2 ⟨by rw [hF2 89 (by decide), hM.1], fun k hk => by rw [hF2 116 (by decide)]; exact hM.2.2.1 k hk, fun k hk => hR.2 k hk⟩ (fun x hx => by rw [hF2 x hx.2, hF x hx.1])
end SP
