/-! ===== a whole peal: both sides ===== -/
abbrev Rg9 (n : Nat) (ch c : Nat → Int32) (m : Nat) (mk : Nat → Int32) (F : ip_F) : Prop := (∀ k, k < 12 → ∀ x, x < n → F (104 + k) x = ru9 n ch c m mk k x) ∧ (∀ k, k < 12 → F 117 k = nm9 (ru9 n ch c m mk k) n)
/-- what ring needs of what mean left -/
abbrev Mm9 (n : Nat) (ch : Nat → Int32) (mk : Nat → Int32) (F : ip_F) : Prop := F 89 5 = Int32.ofNat n ∧ (∀ k, k < 12 → ∀ x, x < n → F (91 + k) x = mu9 n ch k x) ∧ (∀ x, x < n → F 118 x = mk x)
section SP
variable {t : Nat} {G : ip_G} {Q : Option Value → ip_M → Prop} {n : Nat}
theorem sp25_2 {o m : Nat} {ch c mk : Nat → Int32} (ho : ok7 t o) (ho2 : nmr (o + 1)) (h4 : 4 ≤ n) (hn : n ≤ 6) (hm64 : m < 64) (hk : KW9 n c) (hm : MK9 n mk) : ∀ d k F v, k + d = 12 → Mm9 n ch mk F → F (o + 1) = c → (∀ q, q < k → ∀ x, x < n → F (104 + q) x = ru9 n ch c m mk q x) → (∀ q, q < k → F 117 q = nm9 (ru9 n ch c m mk q) n) → (∀ F', Rg9 n ch c m mk F' → (∀ x, nmr x → F' x = F x) → Q none (hs t, F', G)) → wp 25 2 [.ref 89, .ref o, .int (Int32.ofNat m), .int (Int32.ofNat k), v] [] (hs t, F, G) Q := by
  intro d
  induction d with
  | zero =>
    intro k F v hk12 hM hc hr hu h
    obtain rfl : k = 12 := by omega
    exact rg25_2 ho ⟨fun _ => h F ⟨hr, hu⟩ (fun _ _ => rfl), fun q => absurd q (by decide)⟩
  | succ d ih =>
    intro k F v hk12 hM hc hr hu h
    obtain ⟨hb, hrow, hmk⟩ := hM
    refine rg25_2 ho ⟨fun q => ?_, fun _ => ⟨?_, ?_, ?_⟩⟩
    · (simp (disch := omega) only [nn_lit, nn_m1, nn_add, nn_mul, nn_rem, nn_sub, nn_addm1, nn_lt, nn_le, nn_eq, nn_clamp, nn_in, nn_nem1, nn_m1ne, nn_ltm1, nn_m1lt, nn_m1le, nn_lem1, bz_0, bz_n0, not_false_eq_true, not_true_eq_false, true_and, and_true, false_and, and_false, false_implies, true_implies, forall_const, Nat.reduceMul, Nat.reduceAdd, Nat.reduceSub] at q <;> try simp only [nn_bk] at q)
      omega
    · (simp (disch := omega) only [nn_lit, nn_m1, nn_add, nn_mul, nn_rem, nn_sub, nn_addm1, nn_lt, nn_le, nn_eq, nn_clamp, nn_in, nn_nem1, nn_m1ne, nn_ltm1, nn_m1lt, nn_m1le, nn_lem1, bz_0, bz_n0, not_false_eq_true, not_true_eq_false, true_and, and_true, false_and, and_false, false_implies, true_implies, forall_const, Nat.reduceMul, Nat.reduceAdd, Nat.reduceSub] <;> try simp only [nn_bk])
      omega
    · (simp (disch := omega) only [nn_lit, nn_m1, nn_add, nn_mul, nn_rem, nn_sub, nn_addm1, nn_lt, nn_le, nn_eq, nn_clamp, nn_in, nn_nem1, nn_m1ne, nn_ltm1, nn_m1lt, nn_m1le, nn_lem1, bz_0, bz_n0, not_false_eq_true, not_true_eq_false, true_and, and_true, false_and, and_false, false_implies, true_implies, forall_const, Nat.reduceMul, Nat.reduceAdd, Nat.reduceSub] <;> try simp only [nn_bk])
      omega
    · rw [nn_clamp (by omega)]
      refine sp25_30 (f := mu9 n ch k) ho ho2 h4 hn (by omega) hm64 hk hm (pm_mu (by omega) k) n 0 _ (by omega) (by rw [ur_n (by omega), hb]) (by rw [ur_n (by have := ho2.2; omega), hc]) (fun x hx => by rw [ur_n (by omega)]; exact hmk x hx) (fun x hx => ?_) (fun F' v' h1 h2 => ?_)
      · rw [ur_s, cp_6 x (by omega)]
        exact hrow k (by omega) x hx
      · have hfr : ∀ x, x ≠ 104 + k → F' x = F x := fun x hx => by rw [h2 x hx, ur_n hx]
        refine ih (k + 1) _ v' (by omega) ⟨by rw [u_n (by decide), hfr 89 (by omega), hb], fun q hq x hx => by rw [u_n (by omega), hfr _ (by omega)]; exact hrow q hq x hx, fun x hx => by rw [u_n (by decide), hfr 118 (by omega)]; exact hmk x hx⟩ (by rw [u_n ho2.1, hfr _ (by have := ho2.2; omega), hc]) (fun q hq x hx => ?_) (fun q hq => ?_) (fun F'' h3 h5 => h F'' h3 (fun x hx => by rw [h5 x hx, u_n hx.1, hfr x (by have := hx.2; omega)]))
        · rw [u_n (by omega)]
          by_cases e : q = k
          · subst e
            exact h1 x hx
          · rw [hfr _ (by omega)]
            exact hr q (by omega) x hx
        · rw [u_s]
          by_cases e : q = k
          · rw [if_pos e, e]
            rfl
          · rw [if_neg e, hfr 117 (by omega)]
            exact hu q (by omega)
theorem sp25 {F : ip_F} {o m : Nat} {ch c mk : Nat → Int32} (ho : ok7 t o) (ho2 : nmr (o + 1)) (h4 : 4 ≤ n) (hn : n ≤ 6) (hm64 : m < 64) (hk : KW9 n c) (hm : MK9 n mk) (hM : Mm9 n ch mk F) (hc : F (o + 1) = c) (h : ∀ F', Rg9 n ch c m mk F' → (∀ x, nmr x → F' x = F x) → Q none (hs t, F', G)) : wp 25 0 [.ref 89, .ref o, .int (Int32.ofNat m), .float 0, .float 0] [] (hs t, F, G) Q :=
  rg25_0 ho (sp25_2 ho ho2 h4 hn hm64 hk hm 12 0 F _ rfl hM hc (fun q hq => absurd hq (by omega)) (fun q hq => absurd hq (by omega)) h)
/-! the reference's row -/
theorem mr_eq {F F' : ip_F} (h : ∀ x, x ≠ 205 → x ≠ 206 → F' x = F x) : mr9 F' = mr9 F := by
  funext i
  unfold mr9
  rw [h 196 (by decide) (by decide), h 197 (by decide) (by decide), h 198 (by decide) (by decide), h 199 (by decide) (by decide), h 193 (by decide) (by decide)]
theorem sp179_7 {m k : Nat} {c f : Nat → Int32} (h4 : 4 ≤ n) (hn : n ≤ 6) (hk12 : k < 12) (hm64 : m < 64) (hk : KW9 n c) (hf : PM9 n f) : ∀ d r F, r + d = n → F 193 1 = Int32.ofNat n → mr9 F = c → (∀ x, x < n → F 205 x = rgF n c m mk0 k f r x) → (∀ F', (∀ x, x < n → F' 205 x = rgF n c m mk0 k f n x) → (∀ x, x ≠ 205 → F' x = F x) → Q none (hs t, F', G)) → wp 179 7 [.ref 193, .int (Int32.ofNat k), .int (Int32.ofNat m), .int (Int32.ofNat r)] [] (hs t, F, G) Q := by
  intro d
  induction d with
  | zero =>
    intro r F hr hb hc hrow h
    obtain rfl : r = n := by omega
    refine rg179_7 ⟨fun _ => h F hrow (fun _ _ => rfl), fun q => ?_⟩
    rw [hb] at q
    (simp (disch := omega) only [nn_lit, nn_m1, nn_add, nn_mul, nn_rem, nn_sub, nn_addm1, nn_lt, nn_le, nn_eq, nn_clamp, nn_in, nn_nem1, nn_m1ne, nn_ltm1, nn_m1lt, nn_m1le, nn_lem1, bz_0, bz_n0, not_false_eq_true, not_true_eq_false, true_and, and_true, false_and, and_false, false_implies, true_implies, forall_const, Nat.reduceMul, Nat.reduceAdd, Nat.reduceSub] at q <;> try simp only [nn_bk] at q)
    omega
  | succ d ih =>
    intro r F hr hb hc hrow h
    have hbit := bt_has ⟨m, hm64⟩ ⟨r, by omega⟩
    have c6 : F 197 r = c (6 + r) := by rw [← hc, mr_6 (by omega)]
    have c0 : F 196 r = c r := by rw [← hc, mr_0 (by omega)]
    have next : ∀ F', (∀ x, x < n → F' 205 x = rgF n c m mk0 k f (r + 1) x) → (∀ x, x ≠ 205 → F' x = F x) → wp 179 46 [.ref 193, .int (Int32.ofNat k), .int (Int32.ofNat m), .int (Int32.ofNat r)] [] (hs t, F', G) Q := by
      intro F' h1 h2
      refine rg179_46 ?_
      rw [show Int32.ofNat r + 1 = Int32.ofNat (r + 1) from nn_add r 1]
      exact ih (r + 1) F' (by omega) (by rw [h2 193 (by decide), hb]) (by rw [mr_eq (fun x hx _ => h2 x hx), hc]) h1 (fun F'' h3 h5 => h F'' h3 (fun x hx => by rw [h5 x hx, h2 x hx]))
    refine rg179_7 ⟨fun q => ?_, fun _ => sp144 (rg179_20 ⟨fun e => next F ?_ (fun _ _ => rfl), fun e => ⟨?_, fun e2 => next F ?_ (fun _ _ => rfl), fun e2 => ⟨?_, ?_⟩⟩⟩)⟩
    · rw [hb] at q
      (simp (disch := omega) only [nn_lit, nn_m1, nn_add, nn_mul, nn_rem, nn_sub, nn_addm1, nn_lt, nn_le, nn_eq, nn_clamp, nn_in, nn_nem1, nn_m1ne, nn_ltm1, nn_m1lt, nn_m1le, nn_lem1, bz_0, bz_n0, not_false_eq_true, not_true_eq_false, true_and, and_true, false_and, and_false, false_implies, true_implies, forall_const, Nat.reduceMul, Nat.reduceAdd, Nat.reduceSub] at q <;> try simp only [nn_bk] at q)
      omega
    · intro x hx
      rw [bz_0] at e
      rw [rgF, if_neg (fun q => e (hbit.mpr q.1))]
      exact hrow x hx
    · (simp (disch := omega) only [nn_lit, nn_m1, nn_add, nn_mul, nn_rem, nn_sub, nn_addm1, nn_lt, nn_le, nn_eq, nn_clamp, nn_in, nn_nem1, nn_m1ne, nn_ltm1, nn_m1lt, nn_m1le, nn_lem1, bz_0, bz_n0, not_false_eq_true, not_true_eq_false, true_and, and_true, false_and, and_false, false_implies, true_implies, forall_const, Nat.reduceMul, Nat.reduceAdd, Nat.reduceSub] <;> try simp only [nn_bk])
      omega
    · intro x hx
      rw [nn_clamp (by omega), c6] at e2
      rw [rgF, if_neg (fun q => e2 q.2)]
      exact hrow x hx
    · (simp (disch := omega) only [nn_lit, nn_m1, nn_add, nn_mul, nn_rem, nn_sub, nn_addm1, nn_lt, nn_le, nn_eq, nn_clamp, nn_in, nn_nem1, nn_m1ne, nn_ltm1, nn_m1lt, nn_m1le, nn_lem1, bz_0, bz_n0, not_false_eq_true, not_true_eq_false, true_and, and_true, false_and, and_false, false_implies, true_implies, forall_const, Nat.reduceMul, Nat.reduceAdd, Nat.reduceSub] <;> try simp only [nn_bk])
      omega
    · rw [bz_n0] at e
      have e1 := hbit.mp e
      rw [nn_clamp (by omega), c6] at e2
      obtain ⟨hk5, hke⟩ := kw_le hk (by omega) hk12 e2
      rw [nn_clamp (by omega), c0, hke, show Int32.ofNat r + 1 = Int32.ofNat (r + 1) from nn_add r 1]
      have hpm := rgF_pm (m := m) (mk := mk0) h4 hn hk12 hk mk_0 hf r (by omega)
      refine sp178 h4 hn hk5 hb (pm_agree (fun x hx => (hrow x hx).symm) hpm r (by omega)) (fun F' h1 h2 => next F' (fun x hx => ?_) h2)
      rw [h1, rgF, if_pos ⟨e1, e2⟩]
      exact (sp9_agree h4 hn hk5 (hpm r (by omega)) (fun x hx => (hrow x hx).symm) x hx).symm
theorem sp179 {F : ip_F} {m k : Nat} {ch c : Nat → Int32} (h4 : 4 ≤ n) (hn : n ≤ 6) (hk12 : k < 12) (hm64 : m < 64) (hk : KW9 n c) (hb : F 193 1 = Int32.ofNat n) (hch : F 195 = ch) (hc : mr9 F = c) (h : ∀ F', (∀ x, x < n → F' 205 x = ru9 n ch c m mk0 k x) → (∀ x, x ≠ 205 → F' x = F x) → Q none (hs t, F', G)) : wp 179 0 [.ref 193, .int (Int32.ofNat k), .int (Int32.ofNat m), .float 0] [] (hs t, F, G) Q := by
  refine rg179_0 (sp177 h4 hn (by omega) hb hch (fun F1 h1 h2 => rg179_5 ?_))
  exact sp179_7 (f := mu9 n ch k) h4 hn hk12 hm64 hk (pm_mu (by omega) k) n 0 F1 (by omega) (by rw [h2 193 (by decide), hb]) (by rw [mr_eq (fun x hx _ => h2 x hx), hc]) h1 (fun F' h3 h5 => h F' h3 (fun x hx => by rw [h5 x hx, h2 x hx]))
theorem sp182 {F : ip_F} {m k : Nat} {ch c : Nat → Int32} (h4 : 4 ≤ n) (hn : n ≤ 6) (hk12 : k < 12) (hm64 : m < 64) (hk : KW9 n c) (hb : F 193 1 = Int32.ofNat n) (hch : F 195 = ch) (hc : mr9 F = c) (h : ∀ F', (∀ x, x ≠ 205 → F' x = F x) → Q (some (.int (nm9 (ru9 n ch c m mk0 k) n))) (hs t, F', G)) : wp 182 0 [.ref 193, .int (Int32.ofNat k), .int (Int32.ofNat m)] [] (hs t, F, G) Q := by
  refine rg182_0 (sp179 h4 hn hk12 hm64 hk hb hch hc (fun F1 h1 h2 => rg182_6 (sp180 hn (by rw [h2 193 (by decide), hb]) (rg182_10 ?_))))
  rw [nm_agree n h1]
  exact h F1 h2
abbrev nmm (x : Nat) : Prop := x ≠ 205 ∧ x ≠ 206
theorem sp183_2 {m : Nat} {ch c : Nat → Int32} (h4 : 4 ≤ n) (hn : n ≤ 6) (hm64 : m < 64) (hk : KW9 n c) : ∀ d k F, k + d = 12 → F 193 1 = Int32.ofNat n → F 195 = ch → mr9 F = c → (∀ q, q < k → F 206 q = nm9 (ru9 n ch c m mk0 q) n) → (∀ F', (∀ q, q < 12 → F' 206 q = nm9 (ru9 n ch c m mk0 q) n) → (∀ x, nmm x → F' x = F x) → Q none (hs t, F', G)) → wp 183 2 [.ref 193, .int (Int32.ofNat m), .int (Int32.ofNat k)] [] (hs t, F, G) Q := by
  intro d
  induction d with
  | zero =>
    intro k F hk12 hb hch hc hu h
    obtain rfl : k = 12 := by omega
    exact rg183_2 ⟨fun _ => h F hu (fun _ _ => rfl), fun q => absurd q (by decide)⟩
  | succ d ih =>
    intro k F hk12 hb hch hc hu h
    refine rg183_2 ⟨fun q => ?_, fun _ => sp182 h4 hn (by omega) hm64 hk hb hch hc (fun F1 h2 => rg183_19 ⟨?_, ?_⟩)⟩
    · (simp (disch := omega) only [nn_lit, nn_m1, nn_add, nn_mul, nn_rem, nn_sub, nn_addm1, nn_lt, nn_le, nn_eq, nn_clamp, nn_in, nn_nem1, nn_m1ne, nn_ltm1, nn_m1lt, nn_m1le, nn_lem1, bz_0, bz_n0, not_false_eq_true, not_true_eq_false, true_and, and_true, false_and, and_false, false_implies, true_implies, forall_const, Nat.reduceMul, Nat.reduceAdd, Nat.reduceSub] at q <;> try simp only [nn_bk] at q)
      omega
    · (simp (disch := omega) only [nn_lit, nn_m1, nn_add, nn_mul, nn_rem, nn_sub, nn_addm1, nn_lt, nn_le, nn_eq, nn_clamp, nn_in, nn_nem1, nn_m1ne, nn_ltm1, nn_m1lt, nn_m1le, nn_lem1, bz_0, bz_n0, not_false_eq_true, not_true_eq_false, true_and, and_true, false_and, and_false, false_implies, true_implies, forall_const, Nat.reduceMul, Nat.reduceAdd, Nat.reduceSub] <;> try simp only [nn_bk])
      omega
    · (simp (disch := omega) only [nn_lit, nn_m1, nn_add, nn_mul, nn_rem, nn_sub, nn_addm1, nn_lt, nn_le, nn_eq, nn_clamp, nn_in, nn_nem1, nn_m1ne, nn_ltm1, nn_m1lt, nn_m1le, nn_lem1, bz_0, bz_n0, not_false_eq_true, not_true_eq_false, true_and, and_true, false_and, and_false, false_implies, true_implies, forall_const, Nat.reduceMul, Nat.reduceAdd, Nat.reduceSub] <;> try simp only [nn_bk])
      refine ih (k + 1) _ (by omega) (by rw [u_n (by decide), h2 193 (by decide), hb]) (by rw [u_n (by decide), h2 195 (by decide), hch]) ?_ (fun q hq => ?_) (fun F' h3 h5 => h F' h3 (fun x hx => by rw [h5 x hx, u_n hx.2, h2 x hx.1]))
      · rw [← hc]
        exact mr_eq (fun x hx hx2 => by rw [u_n hx2, h2 x hx])
      · rw [u_s]
        by_cases e : q = k
        · rw [if_pos e, e]
        · rw [if_neg e, h2 206 (by decide)]
          exact hu q (by omega)
theorem sp183 {F : ip_F} {m : Nat} {ch c : Nat → Int32} (h4 : 4 ≤ n) (hn : n ≤ 6) (hm64 : m < 64) (hk : KW9 n c) (hb : F 193 1 = Int32.ofNat n) (hch : F 195 = ch) (hc : mr9 F = c) (h : ∀ F', (∀ q, q < 12 → F' 206 q = nm9 (ru9 n ch c m mk0 q) n) → (∀ x, nmm x → F' x = F x) → Q none (hs t, F', G)) : wp 183 0 [.ref 193, .int (Int32.ofNat m), .float 0] [] (hs t, F, G) Q :=
  rg183_0 (sp183_2 h4 hn hm64 hk 12 0 F rfl hb hch hc (fun q hq => absurd hq (by omega)) h)
end SP
