/-! ===== clashes, counts ===== -/
def cn9 (P : Nat → Bool) : Nat → Nat
  | 0 => 0
  | r + 1 => cn9 P r + if P r = true then 1 else 0
theorem cn_congr {P P' : Nat → Bool} : ∀ n, (∀ r, r < n → P r = P' r) → cn9 P n = cn9 P' n
  | 0, _ => rfl
  | n + 1, h => by rw [cn9, cn9, cn_congr n (fun r hr => h r (by omega)), h n (by omega)]
theorem cn_ext {P : Nat → Bool} {n : Nat} : ∀ d, (∀ r, n ≤ r → r < n + d → P r = false) → cn9 P (n + d) = cn9 P n
  | 0, _ => rfl
  | d + 1, h => by
    rw [show n + (d + 1) = (n + d) + 1 from rfl, cn9, h (n + d) (by omega) (by omega), cn_ext d (fun r h1 h2 => h r h1 (by omega))]
    rfl
theorem cn_le {P : Nat → Bool} : ∀ n, cn9 P n ≤ n
  | 0 => Nat.le_refl 0
  | n + 1 => by
    have := cn_le (P := P) n
    rw [cn9]
    split <;> omega
theorem cn_0 {P : Nat → Bool} : ∀ n, (∀ r, r < n → P r = false) → cn9 P n = 0
  | 0, _ => rfl
  | n + 1, h => by rw [cn9, cn_0 n (fun r hr => h r (by omega)), h n (by omega)]; rfl
/-- a slip of row w is made by rope r -/
def mw9 (c : Nat → Int32) (w r : Nat) : Bool := mks c r && decide (c (6 + r) = Int32.ofNat w)
/-- the first with the most, from row k on, best b with m so far -/
def fl9 (f : Nat → Nat) : Nat → Nat → Nat → Nat → Nat × Nat
  | 0, _, b, m => (b, m)
  | d + 1, k, b, m => if m < f k then fl9 f d (k + 1) k (f k) else fl9 f d (k + 1) b m
theorem fl_congr {f g : Nat → Nat} (h : ∀ k, k < 12 → f k = g k) : ∀ d k b m, k + d ≤ 12 → fl9 f d k b m = fl9 g d k b m
  | 0, _, _, _, _ => rfl
  | d + 1, k, b, m, hk => by rw [fl9, fl9, h k (by omega), fl_congr h d (k + 1) _ _ (by omega), fl_congr h d (k + 1) _ _ (by omega)]
theorem fl_f {f : Nat → Nat} : ∀ d k b m, m = f b → b < k → k + d ≤ 12 → (fl9 f d k b m).2 = f (fl9 f d k b m).1 ∧ (fl9 f d k b m).1 < 12
  | 0, _, b, m, h, hb, hk => ⟨h, show b < 12 by omega⟩
  | d + 1, k, b, m, h, hb, hk => by
    rw [fl9]
    split
    · exact fl_f d (k + 1) k (f k) rfl (by omega) (by omega)
    · exact fl_f d (k + 1) b m h (by omega) (by omega)
section SP
variable {t : Nat} {F F' : ip_F} {G : ip_G} {Q : Option Value → ip_M → Prop} {n k : Nat}
theorem sp80_4 (hk : ok7 t k) {w : Nat} (hw : w < 12) (h : Q (some (.int (Int32.ofNat (cn9 (mw9 (F (k + 1)) w) 6)))) (hs t, F, G)) : ∀ d r, r + d = 6 → wp 80 4 [.ref k, .int (Int32.ofNat w), .int (Int32.ofNat (cn9 (mw9 (F (k + 1)) w) r)), .int (Int32.ofNat r)] [] (hs t, F, G) Q := by
  intro d
  induction d with
  | zero =>
    intro r hr
    obtain rfl : r = 6 := by omega
    exact rg80_4 hk ⟨fun _ => h, fun q => absurd q (by decide)⟩
  | succ d ih =>
    intro r hr
    have h1 := ih (r + 1) (by omega)
    rw [cn9] at h1
    have e0 : mw9 (F (k + 1)) w r = (mks (F (k + 1)) r && decide (F (k + 1) (6 + r) = Int32.ofNat w)) := rfl
    have fin : ∀ z : Nat, z = (if mw9 (F (k + 1)) w r = true then 1 else 0) → wp 80 33 [.ref k, .int (Int32.ofNat w), .int (Int32.ofNat (cn9 (mw9 (F (k + 1)) w) r)), .int (Int32.ofNat r)] [.int (Int32.ofNat z), .int (Int32.ofNat (cn9 (mw9 (F (k + 1)) w) r))] (hs t, F, G) Q := by
      intro z hz
      refine rg80_33 hk ?_
      rw [nn_add, show Int32.ofNat r + 1 = Int32.ofNat (r + 1) from nn_add r 1, hz]
      exact h1
    refine rg80_4 hk ⟨fun q => ?_, fun _ => sp77 hk (by omega) (rg80_16 hk ⟨fun e => fin 0 ?_, fun e => sp67 hk (by omega) (rg80_24 hk ⟨fun e1 => fin 0 ?_, fun e1 => fin 1 ?_⟩)⟩)⟩
    · (simp (disch := omega) only [nn_lit, nn_m1, nn_add, nn_mul, nn_rem, nn_sub, nn_addm1, nn_lt, nn_le, nn_eq, nn_clamp, nn_in, nn_nem1, nn_m1ne, nn_ltm1, nn_m1lt, nn_m1le, nn_lem1, bz_0, bz_n0, not_false_eq_true, not_true_eq_false, true_and, and_true, false_and, and_false, false_implies, true_implies, forall_const, Nat.reduceMul, Nat.reduceAdd, Nat.reduceSub] at q <;> try simp only [nn_bk] at q)
      omega
    · rw [bz_0] at e
      rw [if_neg (by rw [e0, Bool.and_eq_true]; exact fun q => e q.1)]
    · rw [if_neg (by rw [e0, Bool.and_eq_true, decide_eq_true_eq]; exact fun q => e1 q.2)]
    · rw [bz_n0] at e
      rw [if_pos (by rw [e0, Bool.and_eq_true, decide_eq_true_eq]; exact ⟨e, e1⟩)]
theorem sp80 (hk : ok7 t k) {w : Nat} (hw : w < 12) (h : Q (some (.int (Int32.ofNat (cn9 (mw9 (F (k + 1)) w) 6)))) (hs t, F, G)) : wp 80 0 [.ref k, .int (Int32.ofNat w), .float 0, .float 0] [] (hs t, F, G) Q := rg80_0 hk (sp80_4 hk hw h 6 0 rfl)
theorem sp81_6 (hk : ok7 t k) : ∀ d w b m v, w + d = 12 → b < 12 → m ≤ 6 → Q (some (.int (Int32.ofNat (fl9 (fun w => cn9 (mw9 (F (k + 1)) w) 6) d w b m).1))) (hs t, F, G) → wp 81 6 [.ref k, .int (Int32.ofNat b), .int (Int32.ofNat m), .int (Int32.ofNat w), v] [] (hs t, F, G) Q := by
  intro d
  induction d with
  | zero =>
    intro w b m v hw hb hm h
    obtain rfl : w = 12 := by omega
    exact rg81_6 hk ⟨fun _ => h, fun q => absurd q (by decide)⟩
  | succ d ih =>
    intro w b m v hw hb hm h
    have hc := cn_le (P := mw9 (F (k + 1)) w) 6
    rw [fl9] at h
    refine rg81_6 hk ⟨fun q => ?_, fun _ => sp80 hk (by omega) (rg81_17 hk ⟨fun e => rg81_30 hk ?_, fun e => rg81_30 hk ?_⟩)⟩
    · (simp (disch := omega) only [nn_lit, nn_m1, nn_add, nn_mul, nn_rem, nn_sub, nn_addm1, nn_lt, nn_le, nn_eq, nn_clamp, nn_in, nn_nem1, nn_m1ne, nn_ltm1, nn_m1lt, nn_m1le, nn_lem1, bz_0, bz_n0, not_false_eq_true, not_true_eq_false, true_and, and_true, false_and, and_false, false_implies, true_implies, forall_const, Nat.reduceMul, Nat.reduceAdd, Nat.reduceSub] at q <;> try simp only [nn_bk] at q)
      omega
    · (simp (disch := omega) only [nn_lit, nn_m1, nn_add, nn_mul, nn_rem, nn_sub, nn_addm1, nn_lt, nn_le, nn_eq, nn_clamp, nn_in, nn_nem1, nn_m1ne, nn_ltm1, nn_m1lt, nn_m1le, nn_lem1, bz_0, bz_n0, not_false_eq_true, not_true_eq_false, true_and, and_true, false_and, and_false, false_implies, true_implies, forall_const, Nat.reduceMul, Nat.reduceAdd, Nat.reduceSub] at e <;> try simp only [nn_bk] at e)
      rw [if_neg (by omega)] at h
      rw [show Int32.ofNat w + 1 = Int32.ofNat (w + 1) from nn_add w 1]
      exact ih (w + 1) b m _ (by omega) hb hm h
    · (simp (disch := omega) only [nn_lit, nn_m1, nn_add, nn_mul, nn_rem, nn_sub, nn_addm1, nn_lt, nn_le, nn_eq, nn_clamp, nn_in, nn_nem1, nn_m1ne, nn_ltm1, nn_m1lt, nn_m1le, nn_lem1, bz_0, bz_n0, not_false_eq_true, not_true_eq_false, true_and, and_true, false_and, and_false, false_implies, true_implies, forall_const, Nat.reduceMul, Nat.reduceAdd, Nat.reduceSub] at e <;> try simp only [nn_bk] at e)
      rw [if_pos e] at h
      rw [show Int32.ofNat w + 1 = Int32.ofNat (w + 1) from nn_add w 1]
      exact ih (w + 1) w _ _ (by omega) (by omega) hc h
theorem sp81 (hk : ok7 t k) (h : Q (some (.int (Int32.ofNat (fl9 (fun w => cn9 (mw9 (F (k + 1)) w) 6) 11 1 0 0).1))) (hs t, F, G)) : wp 81 0 [.ref k, .float 0, .float 0, .float 0, .float 0] [] (hs t, F, G) Q := rg81_0 hk (sp81_6 hk 11 1 0 0 _ rfl (by omega) (by omega) h)
/-! the reference -/
theorem sp200_40 (hn : n ≤ 6) (hb : F 193 1 = Int32.ofNat n) {M w b m : Nat} {a1 : Int32} (hM : M = bf9 (mks (mr9 F)) n) (hw : w < 12) : ∀ d r, r + d = n → (wp 200 40 [.ref 193, .int a1, .int (Int32.ofNat M), .int (Int32.ofNat b), .int (Int32.ofNat m), .int (Int32.ofNat w), .int (Int32.ofNat (cn9 (mw9 (mr9 F) w) n)), .int (Int32.ofNat n)] [] (hs t, F, G) Q) → wp 200 40 [.ref 193, .int a1, .int (Int32.ofNat M), .int (Int32.ofNat b), .int (Int32.ofNat m), .int (Int32.ofNat w), .int (Int32.ofNat (cn9 (mw9 (mr9 F) w) r)), .int (Int32.ofNat r)] [] (hs t, F, G) Q := by
  intro d
  induction d with
  | zero =>
    intro r hr h
    obtain rfl : r = n := by omega
    exact h
  | succ d ih =>
    intro r hr h
    have h1 := ih (r + 1) (by omega) h
    rw [cn9] at h1
    have hM64 : M < 64 := by rw [hM]; exact bf_lt _ n hn
    have hbit := bt_has ⟨M, hM64⟩ ⟨r, by omega⟩
    have hbt : M.testBit r = mks (mr9 F) r := by rw [hM, bf_testBit _ n hn, decide_eq_true (show r < n by omega), Bool.true_and]
    have hv : vp_in (Int32.ofNat r) 6 := (nn_in (by omega)).mpr (by omega)
    have e0 : mw9 (mr9 F) w r = (mks (mr9 F) r && decide (mr9 F (6 + r) = Int32.ofNat w)) := rfl
    have fin : ∀ z : Nat, z = (if mw9 (mr9 F) w r = true then 1 else 0) → wp 200 77 [.ref 193, .int a1, .int (Int32.ofNat M), .int (Int32.ofNat b), .int (Int32.ofNat m), .int (Int32.ofNat w), .int (Int32.ofNat (cn9 (mw9 (mr9 F) w) r)), .int (Int32.ofNat r)] [.int (Int32.ofNat z), .int (Int32.ofNat (cn9 (mw9 (mr9 F) w) r))] (hs t, F, G) Q := by
      intro z hz
      refine rg200_77 ?_
      rw [nn_add, show Int32.ofNat r + 1 = Int32.ofNat (r + 1) from nn_add r 1, hz]
      exact h1
    refine rg200_40 ⟨fun q => ?_, fun _ => sp144 (rg200_57 ⟨fun e => fin 0 ?_, fun e => ⟨hv, fun e1 => fin 0 ?_, fun e1 => fin 1 ?_⟩⟩)⟩
    · rw [hb] at q
      (simp (disch := omega) only [nn_lit, nn_m1, nn_add, nn_mul, nn_rem, nn_sub, nn_addm1, nn_lt, nn_le, nn_eq, nn_clamp, nn_in, nn_nem1, nn_m1ne, nn_ltm1, nn_m1lt, nn_m1le, nn_lem1, bz_0, bz_n0, not_false_eq_true, not_true_eq_false, true_and, and_true, false_and, and_false, false_implies, true_implies, forall_const, Nat.reduceMul, Nat.reduceAdd, Nat.reduceSub] at q <;> try simp only [nn_bk] at q)
      omega
    · rw [bz_0] at e
      rw [if_neg (by rw [e0, Bool.and_eq_true, ← hbt]; exact fun q => e (hbit.mpr q.1))]
    · rw [nn_clamp (by omega), ← mr_6 (F := F) (by omega)] at e1
      rw [if_neg (by rw [e0, Bool.and_eq_true, decide_eq_true_eq]; exact fun q => e1 q.2)]
    · rw [bz_n0] at e
      rw [nn_clamp (by omega), ← mr_6 (F := F) (by omega)] at e1
      rw [if_pos (by rw [e0, Bool.and_eq_true, decide_eq_true_eq, ← hbt]; exact ⟨hbit.mp e, e1⟩)]
theorem sp200_27 (hn : n ≤ 6) (hb : F 193 1 = Int32.ofNat n) {M a : Nat} (ha : a ≤ 1) (hM : M = bf9 (mks (mr9 F)) n) : ∀ d w b m v6 v7, w + d = 12 → b < 12 → m ≤ 6 → Q (some (.int (Int32.ofNat (if a = 0 then (fl9 (fun w => cn9 (mw9 (mr9 F) w) n) d w b m).2 else (fl9 (fun w => cn9 (mw9 (mr9 F) w) n) d w b m).1)))) (hs t, F, G) → wp 200 27 [.ref 193, .int (Int32.ofNat a), .int (Int32.ofNat M), .int (Int32.ofNat b), .int (Int32.ofNat m), .int (Int32.ofNat w), v6, v7] [] (hs t, F, G) Q := by
  intro d
  induction d with
  | zero =>
    intro w b m v6 v7 hw hb' hm h
    obtain rfl : w = 12 := by omega
    refine rg200_27 ⟨fun _ => ?_, fun q => absurd q (by decide)⟩
    match a, ha with
    | 0, _ => exact ⟨fun q => absurd rfl q, fun _ => h⟩
    | 1, _ => exact ⟨fun _ => h, fun q => absurd q (by decide)⟩
  | succ d ih =>
    intro w b m v6 v7 hw hb' hm h
    have hc := cn_le (P := mw9 (mr9 F) w) n
    rw [fl9] at h
    refine rg200_27 ⟨fun q => ?_, fun _ => ?_⟩
    · (simp (disch := omega) only [nn_lit, nn_m1, nn_add, nn_mul, nn_rem, nn_sub, nn_addm1, nn_lt, nn_le, nn_eq, nn_clamp, nn_in, nn_nem1, nn_m1ne, nn_ltm1, nn_m1lt, nn_m1le, nn_lem1, bz_0, bz_n0, not_false_eq_true, not_true_eq_false, true_and, and_true, false_and, and_false, false_implies, true_implies, forall_const, Nat.reduceMul, Nat.reduceAdd, Nat.reduceSub] at q <;> try simp only [nn_bk] at q)
      omega
    · have key : ∀ b' m', b' < 12 → m' ≤ 6 → (if m < cn9 (mw9 (mr9 F) w) n then (w, cn9 (mw9 (mr9 F) w) n) else (b, m)) = (b', m') → wp 200 107 [.ref 193, .int (Int32.ofNat a), .int (Int32.ofNat M), .int (Int32.ofNat b'), .int (Int32.ofNat m), .int (Int32.ofNat w), .int (Int32.ofNat (cn9 (mw9 (mr9 F) w) n)), .int (Int32.ofNat n)] [.int (Int32.ofNat m')] (hs t, F, G) Q := by
        intro b' m' hb2 hm2 he
        refine rg200_107 ?_
        rw [show Int32.ofNat w + 1 = Int32.ofNat (w + 1) from nn_add w 1]
        refine ih (w + 1) b' m' _ _ (by omega) hb2 hm2 ?_
        by_cases q : m < cn9 (mw9 (mr9 F) w) n
        · rw [if_pos q] at he h
          cases he
          exact h
        · rw [if_neg q] at he h
          cases he
          exact h
      refine sp200_40 hn hb hM (by omega) n 0 (by omega) (rg200_40 ⟨fun _ => ⟨fun e => ?_, fun e => ?_⟩, fun q => ?_⟩)
      · (simp (disch := omega) only [nn_lit, nn_m1, nn_add, nn_mul, nn_rem, nn_sub, nn_addm1, nn_lt, nn_le, nn_eq, nn_clamp, nn_in, nn_nem1, nn_m1ne, nn_ltm1, nn_m1lt, nn_m1le, nn_lem1, bz_0, bz_n0, not_false_eq_true, not_true_eq_false, true_and, and_true, false_and, and_false, false_implies, true_implies, forall_const, Nat.reduceMul, Nat.reduceAdd, Nat.reduceSub] at e <;> try simp only [nn_bk] at e)
        refine rg200_99 (sp146 ?_)
        have eg : (if Int32.ofNat (cn9 (mw9 (mr9 F) w) n) < Int32.ofNat m then Int32.ofNat m else Int32.ofNat (cn9 (mw9 (mr9 F) w) n)) = Int32.ofNat m := by
          split
          · rfl
          · rename_i q
            rw [nn_lt (by omega) (by omega)] at q
            congr 1
            omega
        rw [eg]
        exact key b m hb' hm (by rw [if_neg (by omega)])
      · (simp (disch := omega) only [nn_lit, nn_m1, nn_add, nn_mul, nn_rem, nn_sub, nn_addm1, nn_lt, nn_le, nn_eq, nn_clamp, nn_in, nn_nem1, nn_m1ne, nn_ltm1, nn_m1lt, nn_m1le, nn_lem1, bz_0, bz_n0, not_false_eq_true, not_true_eq_false, true_and, and_true, false_and, and_false, false_implies, true_implies, forall_const, Nat.reduceMul, Nat.reduceAdd, Nat.reduceSub] at e <;> try simp only [nn_bk] at e)
        refine rg200_99 (sp146 ?_)
        rw [if_neg (by rw [nn_lt (by omega) (by omega)]; omega)]
        exact key w _ (by omega) (by omega) (by rw [if_pos e])
      · rw [hb] at q
        (simp (disch := omega) only [nn_lit, nn_m1, nn_add, nn_mul, nn_rem, nn_sub, nn_addm1, nn_lt, nn_le, nn_eq, nn_clamp, nn_in, nn_nem1, nn_m1ne, nn_ltm1, nn_m1lt, nn_m1le, nn_lem1, bz_0, bz_n0, not_false_eq_true, not_true_eq_false, true_and, and_true, false_and, and_false, false_implies, true_implies, forall_const, Nat.reduceMul, Nat.reduceAdd, Nat.reduceSub] at q <;> try simp only [nn_bk] at q)
        omega
theorem mw_eq {c c' : Nat → Int32} (hn : n ≤ 6) (hw : WR9 n c) (h : SR9 n c c') (w : Nat) : cn9 (mw9 c w) 6 = cn9 (mw9 c' w) n := by
  rw [← cn_congr (P := mw9 c w) n (fun r hr => by unfold mw9; rw [sr_mks hn h hr, h (6 + r) (by omega)])]
  obtain ⟨d, hd⟩ : ∃ d, 6 = n + d := ⟨6 - n, by omega⟩
  rw [hd]
  refine cn_ext d (fun r h1 h2 => ?_)
  unfold mw9 mks
  rw [wr_hi hw (by omega) h1]
  rfl
theorem mw_0 {c : Nat → Int32} (hw : WR9 n c) : cn9 (mw9 c 0) 6 = 0 := by
  refine cn_0 6 (fun r hr => ?_)
  unfold mw9 mks
  rcases hw.1 r hr with h | ⟨_, _, w, w1, w2, h⟩
  · rw [h.1]
    rfl
  · rw [h, show decide (Int32.ofNat w = Int32.ofNat 0) = false from decide_eq_false (fun q => by have := (nn_eq (b := 0) (by omega) (by omega)).mp q; omega), Bool.and_false]
theorem pr_clash {a : Int32} (hI : INV t F G) : wp 105 0 [.ref 0, .int a, .float 0] [] (hs t, F, G) (fun v M => wp 200 0 [.ref 193, .int a, .float 0, .float 0, .float 0, .float 0, .float 0, .float 0] [] M (ENi v)) := by
  obtain ⟨n, ⟨h4, h6, b1, b2, b3⟩, hP, -⟩ := hI.2.1
  refine ck105 (fun ha => ?_) (fun hn => ?_)
  · obtain ⟨w, hw, rfl⟩ := nn_bet (b := 1) (by omega) ha.1 ha.2
    have f0 := fl_f (f := fun w => cn9 (mw9 (F 4) w) 6) 11 1 0 0 (mw_0 hP.2).symm (by omega) (by omega)
    have model : ∀ z : Nat, z = (if w = 0 then (fl9 (fun w => cn9 (mw9 (F 4) w) 6) 11 1 0 0).2 else (fl9 (fun w => cn9 (mw9 (F 4) w) 6) 11 1 0 0).1) → wp 200 0 [.ref 193, .int (Int32.ofNat w), .float 0, .float 0, .float 0, .float 0, .float 0, .float 0] [] (hs t, F, G) (ENi (some (.int (Int32.ofNat z)))) := by
      intro z hz
      refine ck200 (fun _ => ?_) (fun hn => absurd ha hn)
      refine rg200_6 ⟨fun _ => sp175 h6 b2 (kd_of h6 hP) (rg200_18 (sp200_27 h6 b2 hw rfl 11 1 0 0 _ _ rfl (by omega) (by omega) (en_i hI ?_))), fun q => absurd q (by decide)⟩
      rw [hz, fl_congr (f := fun w => cn9 (mw9 (F 4) w) 6) (g := fun w => cn9 (mw9 (mr9 F) w) n) (fun k hk => mw_eq h6 hP.2 hP.1 k) 11 1 0 0 (by omega)]
    refine rg105_6 ⟨fun _ => sp81 (ok7_3 t) (rg105_26 ?_), fun q => absurd q (by decide)⟩
    match w, hw with
    | 0, _ =>
      refine ⟨fun _ => sp80 (ok7_3 t) f0.2 (rg105_47 (model _ ?_)), fun q => absurd q (by decide)⟩
      exact f0.1.symm
    | 1, _ => exact ⟨fun q => absurd rfl q, fun _ => rg105_47 (model _ rfl)⟩
  · exact ck200 (fun ha => absurd ha hn) (fun _ => en_bad hI)
/-! counts -/
def cv9 (n : Nat) (F : ip_F) : Nat → Int32
  | 0 => F 1 6
  | 1 => Int32.ofNat (nb9 (bf9 (hsl (F 4)) 6))
  | 2 => Int32.ofNat (nb9 (bf9 (mks (F 4)) 6))
  | 3 => F 4 24
  | 4 => Int32.ofNat (as9 (gn9 n (F 2) (F 4) (bf9 (mks (F 4)) 6) mk0) (gm9 n (F 2)) 12)
  | 5 => F 15 1
  | 6 => F 17 1
  | 7 => F 19 1
  | 8 => F 5 1
  | _ + 9 => F 62 1
def dv9 (n : Nat) (F : ip_F) : Nat → Int32
  | 0 => F 193 1
  | 1 => Int32.ofNat (nb9 (bf9 (hsl (mr9 F)) n))
  | 2 => Int32.ofNat (nb9 (bf9 (mks (mr9 F)) n))
  | 3 => F 193 2
  | 4 => Int32.ofNat (as9 (gn9 n (F 195) (mr9 F) (bf9 (mks (mr9 F)) n) mk0) (gm9 n (F 195)) 12)
  | 5 => F 193 3
  | 6 => F 193 4
  | 7 => F 193 5
  | 8 => F 193 22
  | _ + 9 => F 193 15
theorem cv_dv (hN : NR9 n F) (hT : XT9 F) {w : Nat} (hw : w ≤ 9) : cv9 n F w = dv9 n F w := by
  obtain ⟨⟨h4, h6, b1, b2, b3⟩, hP, ⟨u, u1, u2, u3, u4⟩, ⟨a, a1, a2, a3, a4⟩, ⟨m, m1, m2, m3, m4⟩, y, y1, y2, y3, y4⟩ := hN
  obtain ⟨T, t1, t2, t3, t4⟩ := hT
  match w, hw with
  | 0, _ => exact b1.trans b2.symm
  | 1, _ => show Int32.ofNat (nb9 _) = Int32.ofNat (nb9 _); rw [sl_eq h6 hP.2 hP.1]
  | 2, _ => show Int32.ofNat (nb9 _) = Int32.ofNat (nb9 _); rw [md_eq h6 hP.2 hP.1]
  | 3, _ => exact hP.1 24 (by omega)
  | 4, _ => show Int32.ofNat (as9 _ _ _) = Int32.ofNat (as9 _ _ _); rw [md_eq h6 hP.2 hP.1, gn_congr h6 b3 hP.1, gm_congr b3]
  | 5, _ => exact a2.trans a3.symm
  | 6, _ => exact m2.trans m3.symm
  | 7, _ => exact y2.trans y3.symm
  | 8, _ => exact u2.trans u3.symm
  | 9, _ => exact t2.trans t3.symm
theorem sp137 (h4 : 4 ≤ n) (h6 : n ≤ 6) (b1 : F 1 6 = Int32.ofNat n) (hP : WR9 n (F 4)) {w : Nat} (hw : w ≤ 9) (h : ∀ F', (∀ x, npl x → F' x = F x) → Q (some (.int (cv9 n F w))) (hs t, F', G)) : wp 137 0 [.ref 0, .int (Int32.ofNat w)] [] (hs t, F, G) Q := by
  have h0 := h F (fun _ _ => rfl)
  match w, hw with
  | 0, _ => exact rg137_0 ⟨fun _ => h0, fun q => absurd q (by decide), fun q => absurd q (by decide), fun q => absurd q (by decide), fun q => absurd q (by decide), fun q => absurd q (by decide), fun q => absurd q (by decide), fun q => absurd q (by decide), fun q => absurd q (by decide), fun q => absurd rfl q.1⟩
  | 1, _ => exact rg137_0 ⟨fun q => absurd q (by decide), fun _ => sp78 (ok7_3 t) (rg137_70 (sp236 (bf_lt _ 6 (by omega)) (rg137_73 h0))), fun q => absurd q (by decide), fun q => absurd q (by decide), fun q => absurd q (by decide), fun q => absurd q (by decide), fun q => absurd q (by decide), fun q => absurd q (by decide), fun q => absurd q (by decide), fun q => absurd rfl q.2.1⟩
  | 2, _ => exact rg137_0 ⟨fun q => absurd q (by decide), fun q => absurd q (by decide), fun _ => sp79 (ok7_3 t) (rg137_84 (sp236 (bf_lt _ 6 (by omega)) (rg137_87 h0))), fun q => absurd q (by decide), fun q => absurd q (by decide), fun q => absurd q (by decide), fun q => absurd q (by decide), fun q => absurd q (by decide), fun q => absurd q (by decide), fun q => absurd rfl q.2.2.1⟩
  | 3, _ => exact rg137_0 ⟨fun q => absurd q (by decide), fun q => absurd q (by decide), fun q => absurd q (by decide), fun _ => rg70_0 (ok7_3 t) (rg137_98 h0), fun q => absurd q (by decide), fun q => absurd q (by decide), fun q => absurd q (by decide), fun q => absurd q (by decide), fun q => absurd q (by decide), fun q => absurd rfl q.2.2.2.1⟩
  | 4, _ =>
    refine rg137_0 ⟨fun q => absurd q (by decide), fun q => absurd q (by decide), fun q => absurd q (by decide), fun q => absurd q (by decide), fun _ => sp135 h4 h6 (wr_kw h6 hP) b1 rfl rfl (fun F1 hPl hf => rg137_103 (sp32 (rg137_106 ?_))), fun q => absurd q (by decide), fun q => absurd q (by decide), fun q => absurd q (by decide), fun q => absurd q (by decide), fun q => absurd rfl q.2.2.2.2.1⟩
    have := h F1 hf
    rw [as_agree (f := gn9 n (F 2) (F 4) (bf9 (mks (F 4)) 6) mk0) (f' := gm9 n (F 2)) 12 (fun x hx => hPl.2.2 x hx) (fun x hx => hPl.2.1 x hx)]
    exact this
  | 5, _ => exact rg137_0 ⟨fun q => absurd q (by decide), fun q => absurd q (by decide), fun q => absurd q (by decide), fun q => absurd q (by decide), fun q => absurd q (by decide), fun _ => h0, fun q => absurd q (by decide), fun q => absurd q (by decide), fun q => absurd q (by decide), fun q => absurd rfl q.2.2.2.2.2.1⟩
  | 6, _ => exact rg137_0 ⟨fun q => absurd q (by decide), fun q => absurd q (by decide), fun q => absurd q (by decide), fun q => absurd q (by decide), fun q => absurd q (by decide), fun q => absurd q (by decide), fun _ => h0, fun q => absurd q (by decide), fun q => absurd q (by decide), fun q => absurd rfl q.2.2.2.2.2.2.1⟩
  | 7, _ => exact rg137_0 ⟨fun q => absurd q (by decide), fun q => absurd q (by decide), fun q => absurd q (by decide), fun q => absurd q (by decide), fun q => absurd q (by decide), fun q => absurd q (by decide), fun q => absurd q (by decide), fun _ => h0, fun q => absurd q (by decide), fun q => absurd rfl q.2.2.2.2.2.2.2.1⟩
  | 8, _ => exact rg137_0 ⟨fun q => absurd q (by decide), fun q => absurd q (by decide), fun q => absurd q (by decide), fun q => absurd q (by decide), fun q => absurd q (by decide), fun q => absurd q (by decide), fun q => absurd q (by decide), fun q => absurd q (by decide), fun _ => h0, fun q => absurd rfl q.2.2.2.2.2.2.2.2⟩
  | 9, _ => exact rg137_0 ⟨fun q => absurd q (by decide), fun q => absurd q (by decide), fun q => absurd q (by decide), fun q => absurd q (by decide), fun q => absurd q (by decide), fun q => absurd q (by decide), fun q => absurd q (by decide), fun q => absurd q (by decide), fun q => absurd q (by decide), fun _ => h0⟩
theorem sp232 (h4 : 4 ≤ n) (h6 : n ≤ 6) (b2 : F 193 1 = Int32.ofNat n) (hk : KW9 n (mr9 F)) (hr : ∀ r, r < n → kd9 (F 198 r)) {w : Nat} (hw : w ≤ 9) (h : ∀ F', (∀ x, x ≠ 205 → F' x = F x) → Q (some (.int (dv9 n F w))) (hs t, F', G)) : wp 232 0 [.ref 193, .int (Int32.ofNat w)] [] (hs t, F, G) Q := by
  have h0 := h F (fun _ _ => rfl)
  match w, hw with
  | 0, _ => exact rg232_0 ⟨fun _ => h0, fun q => absurd q (by decide), fun q => absurd q (by decide), fun q => absurd q (by decide), fun q => absurd q (by decide), fun q => absurd q (by decide), fun q => absurd q (by decide), fun q => absurd q (by decide), fun q => absurd q (by decide), fun q => absurd rfl q.1⟩
  | 1, _ => exact rg232_0 ⟨fun q => absurd q (by decide), fun _ => sp174 h6 b2 (rg232_61 (sp147 (bf_lt _ n h6) (rg232_64 h0))), fun q => absurd q (by decide), fun q => absurd q (by decide), fun q => absurd q (by decide), fun q => absurd q (by decide), fun q => absurd q (by decide), fun q => absurd q (by decide), fun q => absurd q (by decide), fun q => absurd rfl q.2.1⟩
  | 2, _ => exact rg232_0 ⟨fun q => absurd q (by decide), fun q => absurd q (by decide), fun _ => sp175 h6 b2 hr (rg232_69 (sp147 (bf_lt _ n h6) (rg232_72 h0))), fun q => absurd q (by decide), fun q => absurd q (by decide), fun q => absurd q (by decide), fun q => absurd q (by decide), fun q => absurd q (by decide), fun q => absurd q (by decide), fun q => absurd rfl q.2.2.1⟩
  | 3, _ => exact rg232_0 ⟨fun q => absurd q (by decide), fun q => absurd q (by decide), fun q => absurd q (by decide), fun _ => h0, fun q => absurd q (by decide), fun q => absurd q (by decide), fun q => absurd q (by decide), fun q => absurd q (by decide), fun q => absurd q (by decide), fun q => absurd rfl q.2.2.2.1⟩
  | 4, _ => exact rg232_0 ⟨fun q => absurd q (by decide), fun q => absurd q (by decide), fun q => absurd q (by decide), fun q => absurd q (by decide), fun _ => sp186 (ch := F 195) (c := mr9 F) h4 h6 hk hr b2 rfl rfl (fun F1 hf => rg232_82 (h F1 hf)), fun q => absurd q (by decide), fun q => absurd q (by decide), fun q => absurd q (by decide), fun q => absurd q (by decide), fun q => absurd rfl q.2.2.2.2.1⟩
  | 5, _ => exact rg232_0 ⟨fun q => absurd q (by decide), fun q => absurd q (by decide), fun q => absurd q (by decide), fun q => absurd q (by decide), fun q => absurd q (by decide), fun _ => h0, fun q => absurd q (by decide), fun q => absurd q (by decide), fun q => absurd q (by decide), fun q => absurd rfl q.2.2.2.2.2.1⟩
  | 6, _ => exact rg232_0 ⟨fun q => absurd q (by decide), fun q => absurd q (by decide), fun q => absurd q (by decide), fun q => absurd q (by decide), fun q => absurd q (by decide), fun q => absurd q (by decide), fun _ => h0, fun q => absurd q (by decide), fun q => absurd q (by decide), fun q => absurd rfl q.2.2.2.2.2.2.1⟩
  | 7, _ => exact rg232_0 ⟨fun q => absurd q (by decide), fun q => absurd q (by decide), fun q => absurd q (by decide), fun q => absurd q (by decide), fun q => absurd q (by decide), fun q => absurd q (by decide), fun q => absurd q (by decide), fun _ => h0, fun q => absurd q (by decide), fun q => absurd rfl q.2.2.2.2.2.2.2.1⟩
  | 8, _ => exact rg232_0 ⟨fun q => absurd q (by decide), fun q => absurd q (by decide), fun q => absurd q (by decide), fun q => absurd q (by decide), fun q => absurd q (by decide), fun q => absurd q (by decide), fun q => absurd q (by decide), fun q => absurd q (by decide), fun _ => h0, fun q => absurd rfl q.2.2.2.2.2.2.2.2⟩
  | 9, _ => exact rg232_0 ⟨fun q => absurd q (by decide), fun q => absurd q (by decide), fun q => absurd q (by decide), fun q => absurd q (by decide), fun q => absurd q (by decide), fun q => absurd q (by decide), fun q => absurd q (by decide), fun q => absurd q (by decide), fun q => absurd q (by decide), fun _ => h0⟩
/-- questions leave what they ask of -/
theorem mr_q (e : ∀ x, nqc x → nqm x → F' x = F x) : mr9 F' = mr9 F := mr_fr (by rw [e 193 (by decide) (by decide)]) (e 196 (by decide) (by decide)) (e 197 (by decide) (by decide)) (e 198 (by decide) (by decide)) (e 199 (by decide) (by decide))
theorem dv_q (e : ∀ x, nqc x → nqm x → F' x = F x) {w : Nat} (hw : w ≤ 9) : dv9 n F' w = dv9 n F w := by
  have m := mr_q e
  have e1 := e 193 (by decide) (by decide)
  match w, hw with
  | 0, _ => show F' 193 1 = F 193 1; rw [e1]
  | 1, _ => show Int32.ofNat (nb9 _) = Int32.ofNat (nb9 _); rw [m]
  | 2, _ => show Int32.ofNat (nb9 _) = Int32.ofNat (nb9 _); rw [m]
  | 3, _ => show F' 193 2 = F 193 2; rw [e1]
  | 4, _ => show Int32.ofNat (as9 _ _ _) = Int32.ofNat (as9 _ _ _); rw [m, e 195 (by decide) (by decide)]
  | 5, _ => show F' 193 3 = F 193 3; rw [e1]
  | 6, _ => show F' 193 4 = F 193 4; rw [e1]
  | 7, _ => show F' 193 5 = F 193 5; rw [e1]
  | 8, _ => show F' 193 22 = F 193 22; rw [e1]
  | 9, _ => show F' 193 15 = F 193 15; rw [e1]
theorem pr_count {a : Int32} (hI : INV t F G) : wp 127 0 [.ref 0, .int a] [] (hs t, F, G) (fun v M => wp 233 0 [.ref 193, .int a] [] M (ENi v)) := by
  obtain ⟨n, hN⟩ := hI.2.1
  obtain ⟨⟨h4, h6, b1, b2, b3⟩, hP, -⟩ := id hN
  refine ck127 (fun ha => ?_) (fun hn => ?_)
  · obtain ⟨w, hw, rfl⟩ := nn_bet (b := 9) (by omega) ha.1 ha.2
    refine rg127_7 ⟨fun q => absurd q (by decide), fun _ => sp137 h4 h6 b1 hP.2 hw (fun F1 hf => rg127_15 (rg127_24 ?_))⟩
    have e : ∀ x, nqc x → nqm x → F1 x = F x := fun x hx _ => hf x (npl_q hx)
    have m1 := mr_q e
    refine ck233 (fun _ => ?_) (fun hn => absurd ha hn)
    refine rg233_7 ⟨fun q => absurd q (by decide), fun _ => sp232 h4 h6 (by rw [e 193 (by decide) (by decide), b2]) (by rw [m1]; exact kw_m h6 hP) (fun r hr => by rw [e 198 (by decide) (by decide)]; exact kd_of h6 hP r hr) hw (fun F2 hf2 => rg233_15 (rg233_22 (en_i (inv_fr hI (fun x h1 h2 => by rw [hf2 x h2.1, e x h1 h2])) ?_)))⟩
    rw [dv_q e hw, cv_dv hN hI.2.2.2.2.1 hw]
  · exact ck233 (fun ha => absurd ha hn) (fun _ => en_bad hI)
end SP
