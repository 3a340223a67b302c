/-! ===== weddings by a seed ===== -/
theorem l_mod {a b : Nat} (ha : a < 2 ^ 63) (hb : b < 2 ^ 63) : Int64.ofNat a - Int64.ofNat a / Int64.ofNat b * Int64.ofNat b = Int64.ofNat (a % b) := by
  rw [← Int64.ofNat_div ha hb, ← Int64.ofNat_mul, ← Int64.ofNat_sub _ _ (Nat.div_mul_le_self a b)]
  congr 1
  have := Nat.div_add_mod a b
  rw [Nat.mul_comm] at this
  omega
def lc9 (X : Nat) : Nat := (X * 1103515245 + 12345) % 2147483648
theorem lc_lt (X : Nat) : lc9 X < 2147483648 := Nat.mod_lt _ (by decide)
theorem lc_x {X : Nat} (hX : X < 2147483648) : (Int64.ofNat X * 1103515245 + 12345) - (Int64.ofNat X * 1103515245 + 12345) / 2147483648 * 2147483648 = Int64.ofNat (lc9 X) := by
  have e : Int64.ofNat X * 1103515245 + 12345 = Int64.ofNat (X * 1103515245 + 12345) := by
    rw [Int64.ofNat_add, Int64.ofNat_mul]
    rfl
  rw [e]
  exact l_mod (b := 2147483648) (by omega) (by decide)
theorem lc_q {X b : Nat} (hX : X < 2147483648) (hb : b < 2147483648) : (Int64.ofNat X / Int64.ofNat b - Int64.ofNat X / Int64.ofNat b / 6 * 6).toInt32 = Int32.ofNat (X / b % 6) := by
  rw [← Int64.ofNat_div (by omega) (by omega)]
  have h : X / b ≤ X := Nat.div_le_self X b
  have := l_mod (a := X / b) (b := 6) (by omega) (by decide)
  rw [show (6 : Int64) = Int64.ofNat 6 from rfl, this]
  exact Int64.toInt32_ofNat'
def ws9 (n r k : Nat) (c : Nat → Int32) : Nat → Int32 := if r < n then ups (ups c (12 + r) (Int32.ofNat k)) (18 + r) 0 else c
def wd9 (n : Nat) (ch : Nat → Int32) : Nat → Nat → (Nat → Int32) → Nat
  | 0, _, _ => 0
  | d + 1, X, c => as9 (gn9 n ch (ws9 n (lc9 X / 65536 % 6) (lc9 X / 1048576 % 6) c) (bf9 (mks (ws9 n (lc9 X / 65536 % 6) (lc9 X / 1048576 % 6) c)) 6) mk0) (gm9 n ch) 12 + wd9 n ch d (lc9 X) (py9 (ws9 n (lc9 X / 65536 % 6) (lc9 X / 1048576 % 6) c))
theorem ws_wr {n r k : Nat} {c : Nat → Int32} (hn : n ≤ 6) (hk : k ≤ 5) (h : WR9 n c) : WR9 n (ws9 n r k c) := by
  unfold ws9
  split
  · exact wr_seat h (by omega) ⟨k, hk, rfl⟩
  · exact h
section SP
variable {t : Nat} {G : ip_G} {Q : Option Value → ip_M → Prop} {n : Nat}
theorem sp60_101 {ch c : Nat → Int32} {a2 a3 s i a8 : Int32} {b4 : Int64} {v5 : Value} {F : ip_F} (h4 : 4 ≤ n) (h6 : n ≤ 6) (hW : WR9 n c) (hc : F 120 = c) (hM : Mn9 n ch F) (h : ∀ F' v, F' 120 = py9 c → Mn9 n ch F' → (∀ x, npl x → x ≠ 120 → F' x = F x) → wp 60 36 [.ref 88, .ref 1, .int a2, .int a3, .long b4, v, .int (s + Int32.ofNat (as9 (gn9 n ch c (bf9 (mks c) 6) mk0) (gm9 n ch) 12)), .int (i + 1), .int a8] [] (hs t, F', G) Q) : wp 60 101 [.ref 88, .ref 1, .int a2, .int a3, .long b4, v5, .int s, .int i, .int a8] [] (hs t, F, G) Q := by
  refine rg60_101 (sp79 (ok7_119 t) (rg60_116 (sp25 (ok7_119 t) (by decide) h4 h6 (bf_lt _ 6 (by omega)) (wr_kw h6 (by rw [hc]; exact hW)) mk_0 ⟨hM.1, hM.2.1, hM.2.2.2⟩ rfl (fun F1 hR hf => rg60_119 (sp32 (rg60_128 (sp75 (ok7_119 t) (fun F2 g1 g2 => rg60_138 ?_))))))))
  have fr : ∀ x, nmr x → x ≠ 120 → F2 x = F x := fun x h1 h2 => by rw [g2 x h2, hf x h1]
  have := h F2 (ip_unl v5) (by rw [← hc, ← hf 120 (by decide)]; exact g1) ⟨by rw [fr 89 (by decide) (by decide), hM.1], fun k hk x hx => by rw [fr _ (by unfold nmr; omega) (by omega)]; exact hM.2.1 k hk x hx, fun k hk => by rw [fr 116 (by decide) (by decide)]; exact hM.2.2.1 k hk, fun x hx => by rw [fr 118 (by decide) (by decide)]; exact hM.2.2.2 x hx⟩ (fun x h1 h2 => fr x h1.2 h2)
  rw [as_agree (g := F1 117) (g' := F1 116) (f := gn9 n ch c (bf9 (mks c) 6) mk0) (f' := gm9 n ch) 12 (fun x hx => by rw [hR.2 x hx, show F (119 + 1) = c from hc]; rfl) (fun x hx => by rw [hf 116 (by decide)]; exact hM.2.2.1 x hx)]
  exact this
theorem sp60_36 {ch : Nat → Int32} {N : Nat} {a2 : Int32} (h4 : 4 ≤ n) (h6 : n ≤ 6) (hN : N ≤ 60) : ∀ d i X s F c v5 v8, i + d = N → X < 2147483648 → WR9 n c → F 1 6 = Int32.ofNat n → F 120 = c → Mn9 n ch F → (∀ F', (∀ x, npl x → x ≠ 120 → F' x = F x) → Q (some (.int (Int32.ofNat (s + wd9 n ch d X c)))) (hs t, F', G)) → wp 60 36 [.ref 88, .ref 1, .int a2, .int (Int32.ofNat N), .long (Int64.ofNat X), v5, .int (Int32.ofNat s), .int (Int32.ofNat i), v8] [] (hs t, F, G) Q := by
  intro d
  induction d with
  | zero =>
    intro i X s F c v5 v8 hi hX hW hb hc hM h
    obtain rfl : i = N := by omega
    refine rg60_36 ⟨fun _ => h F (fun _ _ _ => rfl), fun q => ?_⟩
    (simp (disch := omega) only [nn_lit, nn_m1, nn_add, nn_mul, nn_rem, nn_sub, nn_addm1, nn_lt, nn_le, nn_eq, nn_clamp, nn_in, nn_nem1, nn_m1ne, nn_ltm1, nn_m1lt, nn_m1le, nn_lem1, bz_0, bz_n0, not_false_eq_true, not_true_eq_false, true_and, and_true, false_and, and_false, false_implies, true_implies, forall_const, Nat.reduceMul, Nat.reduceAdd, Nat.reduceSub] at q <;> try simp only [nn_bk] at q)
    omega
  | succ d ih =>
    intro i X s F c v5 v8 hi hX hW hb hc hM h
    rw [wd9] at h
    have hr : lc9 X / 65536 % 6 < 6 := Nat.mod_lt _ (by decide)
    have hk : lc9 X / 1048576 % 6 < 6 := Nat.mod_lt _ (by decide)
    have ex := lc_x hX
    have er := lc_q (X := lc9 X) (b := 65536) (lc_lt X) (by decide)
    have ek := lc_q (X := lc9 X) (b := 1048576) (lc_lt X) (by decide)
    have er : (Int64.ofNat (lc9 X) / 65536 - Int64.ofNat (lc9 X) / 65536 / 6 * 6).toInt32 = Int32.ofNat (lc9 X / 65536 % 6) := er
    have ek : (Int64.ofNat (lc9 X) / 1048576 - Int64.ofNat (lc9 X) / 1048576 / 6 * 6).toInt32 = Int32.ofNat (lc9 X / 1048576 % 6) := ek
    have hW1 : WR9 n (ws9 n (lc9 X / 65536 % 6) (lc9 X / 1048576 % 6) c) := ws_wr h6 (by omega) hW
    have next : ∀ F1 v8, F1 120 = ws9 n (lc9 X / 65536 % 6) (lc9 X / 1048576 % 6) c → (∀ x, x ≠ 120 → F1 x = F x) → wp 60 101 [.ref 88, .ref 1, .int a2, .int (Int32.ofNat N), .long (Int64.ofNat (lc9 X)), .float 0, .int (Int32.ofNat s), .int (Int32.ofNat i), .int v8] [] (hs t, F1, G) Q := by
      intro F1 v8 e1 e2
      refine sp60_101 (ch := ch) h4 h6 hW1 e1 ⟨by rw [e2 89 (by decide), hM.1], fun k hk x hx => by rw [e2 _ (by omega)]; exact hM.2.1 k hk x hx, fun k hk => by rw [e2 116 (by decide)]; exact hM.2.2.1 k hk, fun x hx => by rw [e2 118 (by decide)]; exact hM.2.2.2 x hx⟩ (fun F2 v k1 k2 k3 => ?_)
      rw [nn_add, show Int32.ofNat i + 1 = Int32.ofNat (i + 1) from nn_add i 1]
      refine ih (i + 1) (lc9 X) _ F2 _ _ _ (by omega) (lc_lt X) (wr_py hW1) (by rw [k3 1 (by decide) (by decide), e2 1 (by decide), hb]) k1 k2 (fun F' l1 => ?_)
      rw [Nat.add_assoc]
      exact h F' (fun x h1 h2 => by rw [l1 x h1 h2, k3 x h1 h2, e2 x h2])
    refine rg60_36 ⟨fun q => ?_, fun _ => ⟨fun q => ?_, fun q => ?_⟩⟩
    · (simp (disch := omega) only [nn_lit, nn_m1, nn_add, nn_mul, nn_rem, nn_sub, nn_addm1, nn_lt, nn_le, nn_eq, nn_clamp, nn_in, nn_nem1, nn_m1ne, nn_ltm1, nn_m1lt, nn_m1le, nn_lem1, bz_0, bz_n0, not_false_eq_true, not_true_eq_false, true_and, and_true, false_and, and_false, false_implies, true_implies, forall_const, Nat.reduceMul, Nat.reduceAdd, Nat.reduceSub] at q <;> try simp only [nn_bk] at q)
      omega
    · rw [ex, er, hb] at q
      rw [ex, er]
      (simp (disch := omega) only [nn_lit, nn_m1, nn_add, nn_mul, nn_rem, nn_sub, nn_addm1, nn_lt, nn_le, nn_eq, nn_clamp, nn_in, nn_nem1, nn_m1ne, nn_ltm1, nn_m1lt, nn_m1le, nn_lem1, bz_0, bz_n0, not_false_eq_true, not_true_eq_false, true_and, and_true, false_and, and_false, false_implies, true_implies, forall_const, Nat.reduceMul, Nat.reduceAdd, Nat.reduceSub] at q <;> try simp only [nn_bk] at q)
      exact next F _ (by rw [hc, ws9, if_neg (by omega)]) (fun _ _ => rfl)
    · rw [ex, er, hb] at q
      rw [ex, er, ek]
      (simp (disch := omega) only [nn_lit, nn_m1, nn_add, nn_mul, nn_rem, nn_sub, nn_addm1, nn_lt, nn_le, nn_eq, nn_clamp, nn_in, nn_nem1, nn_m1ne, nn_ltm1, nn_m1lt, nn_m1le, nn_lem1, bz_0, bz_n0, not_false_eq_true, not_true_eq_false, true_and, and_true, false_and, and_false, false_implies, true_implies, forall_const, Nat.reduceMul, Nat.reduceAdd, Nat.reduceSub] at q <;> try simp only [nn_bk] at q)
      refine sp74 (ok7_119 t) (by omega) (fun F1 g1 g2 => next F1 _ ?_ g2)
      refine g1.trans ?_
      rw [show F (119 + 1) = c from hc, ws9, if_pos q]
theorem sp225_44 {ch : Nat → Int32} {N : Nat} {a1 : Int32} (h4 : 4 ≤ n) (h6 : n ≤ 6) (hN : N ≤ 60) : ∀ d i X s F c v4 v7, i + d = N → X < 2147483648 → WR9 n c → SR9 n c (mr9 F) → F 193 1 = Int32.ofNat n → (∀ i, i < 6 → ch i = F 195 i) → (∀ F' X' v4 i' v7, (∀ x, nmm x → x ≠ 193 → x ≠ 198 → x ≠ 199 → F' x = F x) → (∀ x, x ≠ 2 → F' 193 x = F 193 x) → wp 188 0 [.ref 193, .ref 208, .int 0, .float 0] [] (hs t, F', G) (fun v M' => wp 225 138 [.ref 193, .int a1, .int (Int32.ofNat N), .long X', v4, .int (Int32.ofNat (s + wd9 n ch d X c)), .int i', v7] (v.toList ++ []) M' Q)) → wp 225 44 [.ref 193, .int a1, .int (Int32.ofNat N), .long (Int64.ofNat X), v4, .int (Int32.ofNat s), .int (Int32.ofNat i), v7] [] (hs t, F, G) Q := by
  intro d
  induction d with
  | zero =>
    intro i X s F c v4 v7 hi hX hW hS hb hch h
    obtain rfl : i = N := by omega
    refine rg225_44 ⟨fun _ => h F _ _ _ _ (fun _ _ _ _ _ => rfl) (fun _ _ => rfl), fun q => ?_⟩
    (simp (disch := omega) only [nn_lit, nn_m1, nn_add, nn_mul, nn_rem, nn_sub, nn_addm1, nn_lt, nn_le, nn_eq, nn_clamp, nn_in, nn_nem1, nn_m1ne, nn_ltm1, nn_m1lt, nn_m1le, nn_lem1, bz_0, bz_n0, not_false_eq_true, not_true_eq_false, true_and, and_true, false_and, and_false, false_implies, true_implies, forall_const, Nat.reduceMul, Nat.reduceAdd, Nat.reduceSub] at q <;> try simp only [nn_bk] at q)
    omega
  | succ d ih =>
    intro i X s F c v4 v7 hi hX hW hS hb hch h
    rw [wd9] at h
    have hr : lc9 X / 65536 % 6 < 6 := Nat.mod_lt _ (by decide)
    have hk : lc9 X / 1048576 % 6 < 6 := Nat.mod_lt _ (by decide)
    have ex := lc_x hX
    have er : (Int64.ofNat (lc9 X) / 65536 - Int64.ofNat (lc9 X) / 65536 / 6 * 6).toInt32 = Int32.ofNat (lc9 X / 65536 % 6) := lc_q (X := lc9 X) (b := 65536) (lc_lt X) (by decide)
    have ek : (Int64.ofNat (lc9 X) / 1048576 - Int64.ofNat (lc9 X) / 1048576 / 6 * 6).toInt32 = Int32.ofNat (lc9 X / 1048576 % 6) := lc_q (X := lc9 X) (b := 1048576) (lc_lt X) (by decide)
    have hW1 : WR9 n (ws9 n (lc9 X / 65536 % 6) (lc9 X / 1048576 % 6) c) := ws_wr h6 (by omega) hW
    have next : ∀ F1 v4, SR9 n (ws9 n (lc9 X / 65536 % 6) (lc9 X / 1048576 % 6) c) (mr9 F1) → (∀ x, x ≠ 198 → x ≠ 199 → F1 x = F x) → wp 225 110 [.ref 193, .int a1, .int (Int32.ofNat N), .long (Int64.ofNat (lc9 X)), v4, .int (Int32.ofNat s), .int (Int32.ofNat i), .int (Int32.ofNat (lc9 X / 65536 % 6))] [] (hs t, F1, G) Q := by
      intro F1 v4 hS1 e2
      have b1 : F1 193 1 = Int32.ofNat n := by rw [e2 193 (by decide) (by decide), hb]
      refine rg225_110 (sp186 (ch := F1 195) (c := mr9 F1) h4 h6 (sr_kw h6 hS1 (wr_kw h6 hW1)) (kd_sr h6 hS1 hW1) b1 rfl rfl (fun F2 hf => rg225_116 (sp190 h6 (by rw [hf 193 (by decide), b1]) (fun F3 g1 g2 g3 => rg225_123 ?_))))
      have m2 : mr9 F2 = mr9 F1 := mr_eq (fun x hx _ => hf x hx)
      have e93 : ∀ x, x ≠ 2 → F3 193 x = F 193 x := fun x hx => by rw [g2, ups, if_neg hx, hf 193 (by decide), e2 193 (by decide) (by decide)]
      rw [← md_eq h6 hW1 hS1, ← gn_congr (ch := ch) h6 (fun i hi => by rw [e2 195 (by decide) (by decide)]; exact hch i hi) hS1, ← gm_congr (ch := ch) (fun i hi => by rw [e2 195 (by decide) (by decide)]; exact hch i hi), nn_add, show Int32.ofNat i + 1 = Int32.ofNat (i + 1) from nn_add i 1]
      refine ih (i + 1) (lc9 X) _ F3 _ _ _ (by omega) (lc_lt X) (wr_py hW1) (sr_py h6 (by rw [m2]; exact hS1) g1 g2 g3) (by rw [e93 1 (by decide), hb]) (fun j hj => by rw [g3 195 (by decide) (by decide), hf 195 (by decide), e2 195 (by decide) (by decide)]; exact hch j hj) (fun F' X' v i' v7 l1 l2 => ?_)
      rw [Nat.add_assoc]
      exact h F' X' v i' v7 (fun x h1 h2 h3 h4 => by rw [l1 x h1 h2 h3 h4, g3 x h4 h2, hf x h1.1, e2 x h3 h4]) (fun x hx => by rw [l2 x hx, e93 x hx])
    refine rg225_44 ⟨fun q => ?_, fun _ => ?_⟩
    · (simp (disch := omega) only [nn_lit, nn_m1, nn_add, nn_mul, nn_rem, nn_sub, nn_addm1, nn_lt, nn_le, nn_eq, nn_clamp, nn_in, nn_nem1, nn_m1ne, nn_ltm1, nn_m1lt, nn_m1le, nn_lem1, bz_0, bz_n0, not_false_eq_true, not_true_eq_false, true_and, and_true, false_and, and_false, false_implies, true_implies, forall_const, Nat.reduceMul, Nat.reduceAdd, Nat.reduceSub] at q <;> try simp only [nn_bk] at q)
      omega
    · rw [ex, er]
      refine sp150n (by omega) hb ?_
      have hir : IR9 n (Int32.ofNat (lc9 X / 65536 % 6)) ↔ lc9 X / 65536 % 6 < n := by
        constructor
        · intro q
          have := (nn_le (by omega) (by omega)).mp q.2
          omega
        · intro q
          exact ⟨(nn_le (a := 0) (by omega) (by omega)).mpr (by omega), (nn_le (by omega) (by omega)).mpr (by omega)⟩
      by_cases q : lc9 X / 65536 % 6 < n
      · rw [bz_t (hir.mpr q)]
        have hv : vp_in (Int32.ofNat (lc9 X / 65536 % 6)) 6 := (nn_in (by omega)).mpr (by omega)
        refine rg225_82 ⟨fun q => absurd q (by decide), fun _ => ⟨hv, hv, ?_⟩⟩
        rw [ek, nn_clamp (by omega)]
        refine next _ _ ?_ (fun x h1 h2 => by rw [u_n h2, u_n h1])
        rw [mr_u199 (by omega), mr_u198 (by omega), ws9, if_pos q]
        exact sr_ups (sr_ups hS)
      · rw [bz_f (fun z => q (hir.mp z))]
        refine rg225_82 ⟨fun _ => next F _ ?_ (fun _ _ _ => rfl), fun q => absurd rfl q⟩
        rw [ws9, if_neg q]
        exact hS
theorem pr_weddings {F : ip_F} {a b : Int32} (hI : INV t F G) : wp 122 0 [.ref 0, .int a, .int b] [] (hs t, F, G) (fun v M => wp 225 0 [.ref 193, .int a, .int b, .float 0, .float 0, .float 0, .float 0, .float 0] [] M (ENi v)) := by
  obtain ⟨n, hN⟩ := hI.2.1
  obtain ⟨⟨h4, h6, b1, b2, b3⟩, hP, -⟩ := id hN
  refine ck122 (fun ha hb => ?_) (fun hn => ?_)
  · obtain ⟨X, hX, rfl⟩ := nn_bet (b := 999999) (by omega) ha.1 ha.2
    obtain ⟨N, hN60, rfl⟩ := nn_bet (b := 60) (by omega) hb.1 hb.2
    have eX : (Int32.ofNat X).toInt64 = Int64.ofNat X := Int32.toInt64_ofNat' (by rw [Int32.toInt_maxValue]; omega)
    refine rg122_18 ⟨fun _ => rg60_0 (sp63 (ok7_119 t) (ok7_3 t) (fun F1 g1 g2 => rg60_18 ?_)), fun q => absurd q (by decide)⟩
    have e : ∀ b, b ≠ 120 → F1 b = F b := g2
    have g1 : ∀ i, i < 25 → F1 120 i = F 4 i := g1
    have hW : WR9 n (F1 120) := wr_congr hP.2 g1
    rw [e 1 (by decide), b1, eX]
    refine sp22 (a := 2) rfl (by decide) h4 h6 (e 2 (by decide)) (fun F2 hM hf => rg60_33 (sp60_36 h4 h6 hN60 N 0 X 0 F2 (F1 120) _ _ (by omega) (by omega) hW (by rw [hf 1 (by decide), e 1 (by decide), b1]) (hf 120 (by decide)) hM (fun F3 k1 => rg122_41 ?_)))
    have e3 : ∀ x, nqc x → F3 x = F x := fun x hx => by rw [k1 x (npl_q hx) (by unfold nqc at hx; omega), hf x (npl_q hx).1, e x (by unfold nqc at hx; omega)]
    have m1 : mr9 F3 = mr9 F := mr_q (fun x hx _ => e3 x hx)
    refine ck225 (fun _ _ => ?_) (fun hn => absurd ⟨ha, hb⟩ hn)
    refine rg225_18 ⟨fun _ => sp187 (a := 208) (n1 := 25) (p := 0) rfl (by omega) (by omega) (by omega) (fun F4 l1 l2 l3 => rg225_35 ?_), fun q => absurd q (by decide)⟩
    rw [eX]
    have m4 : mr9 F4 = mr9 F := by rw [← m1]; exact mr_fr (by rw [l3 193 (by decide)]) (l3 196 (by decide)) (l3 197 (by decide)) (l3 198 (by decide)) (l3 199 (by decide))
    refine sp225_44 (ch := F 2) h4 h6 hN60 N 0 X 0 F4 (F1 120) _ _ (by omega) (by omega) hW (by rw [m4]; exact sr_congr h6 hP.1 g1 (fun _ _ => rfl)) (by rw [l3 193 (by decide), e3 193 (by decide), b2]) (fun i hi => by rw [l3 195 (by decide), e3 195 (by decide)]; exact b3 i hi) (fun F5 X' v4 i' v7 o1 o2 => sp188 (a := 208) (n1 := 25) (p := 0) rfl (by omega) (by omega) (by omega) (fun F6 r1 _ r2 r3 => rg225_138 ?_))
    have e8 : F5 208 = F4 208 := o1 208 (by decide) (by decide) (by decide) (by decide)
    refine en_i (inv_bk (n := n) hI hN (fun x h1 h2 h3 => ?_) (fun x => ?_) (fun i hi => ?_)) rfl
    · rw [r3 x h3.1 h3.2, o1 x ⟨h2.1, h2.2.1⟩ h3.1 (by omega) (by omega), l3 x h2.2.2.1, e3 x h1]
    · rw [r2, ups, e8]
      by_cases q : x = 2
      · rw [if_pos q, q]
        have := l1 24 (by omega)
        rw [m1, mr_24] at this
        exact this
      · rw [if_neg q, o2 x q, l3 193 (by decide), e3 193 (by decide)]
    · rw [r1 i hi, e8, l1 i hi, m1]
  · exact ck225 (fun ha hb => absurd ⟨ha, hb⟩ hn) (fun _ => en_bad hI)
end SP
