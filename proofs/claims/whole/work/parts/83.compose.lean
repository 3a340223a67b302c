/-! ===== the least method that is true ===== -/
def dg9 (x i : Nat) : Nat := x / 3 ^ (5 - i) % 3 + 1
def cx9 (x : Nat) (i : Nat) : Int32 := Int32.ofNat (dg9 x i)
def nx9 (x i : Nat) : Nat := (x / 3 ^ (5 - i) + 1) * 3 ^ (5 - i)
theorem dg_r (x i : Nat) : 1 ≤ dg9 x i ∧ dg9 x i ≤ 3 := by
  unfold dg9
  omega
set_option maxRecDepth 100000 in
theorem adv_all : ∀ (x : Fin 729) (i : Fin 6), dg9 x i < 3 → nx9 x i < 729 ∧ ∀ j : Fin 6, dg9 (nx9 x i) j = if j.val < i.val then dg9 x j else if j.val = i.val then dg9 x i + 1 else 1 := by decide +kernel
set_option maxRecDepth 100000 in
theorem car_all : ∀ (x : Fin 729) (i : Fin 6), dg9 x i = 3 → (i.val = 0 → nx9 x i = 729) ∧ (0 < i.val → nx9 x i = nx9 x (i.val - 1)) := by decide +kernel
theorem nx_gt (x i : Nat) : x < nx9 x i := by
  unfold nx9
  have h := Nat.div_add_mod x (3 ^ (5 - i))
  have h2 := Nat.mod_lt x (Nat.pow_pos (n := 5 - i) (show 0 < 3 by decide))
  rw [Nat.add_mul, Nat.one_mul, Nat.mul_comm]
  omega
/-- a code that begins as x does, up to place l -/
theorem dg_same {x y l j : Nat} (h1 : x ≤ y) (h2 : y < nx9 x l) (hj : j ≤ l) (hl : l < 6) : dg9 y j = dg9 x j := by
  have hp : 0 < 3 ^ (5 - l) := Nat.pow_pos (by decide)
  have e : y / 3 ^ (5 - l) = x / 3 ^ (5 - l) := by
    have a := Nat.div_le_div_right (c := 3 ^ (5 - l)) h1
    have b := (Nat.div_lt_iff_lt_mul hp).mpr (show y < (x / 3 ^ (5 - l) + 1) * 3 ^ (5 - l) from h2)
    omega
  have e3 : 3 ^ (5 - j) = 3 ^ (5 - l) * 3 ^ (l - j) := by
    rw [← Nat.pow_add]
    congr 1
    omega
  unfold dg9
  rw [e3, ← Nat.div_div_eq_div_mul, ← Nat.div_div_eq_div_mul, e]
theorem mu_pre {n : Nat} {ch ch' : Nat → Int32} : ∀ k, (∀ i, i < k → ch (i % 6) = ch' (i % 6)) → mu9 n ch k = mu9 n ch' k
  | 0, _ => rfl
  | k + 1, h => by rw [mu9, mu9, h k (by omega), mu_pre k (fun i hi => h i (by omega))]
theorem erL_pre {g g' : Nat → Int32} {row : Nat} (h : ∀ x, x ≤ row → g x = g' x) : ∀ d k, k + d ≤ row → erL g row d k = erL g' row d k
  | 0, _, _ => rfl
  | d + 1, k, hk => by rw [erL, erL, h k (by omega), h row (by omega), erL_pre h d (k + 1) (by omega)]
theorem frL_some {g : Nat → Int32} : ∀ d k r, frL g d k = some r → (er9 g r).isNone = false
  | 0, _, _, h => by cases h
  | d + 1, k, r, h => by
    rw [frL] at h
    split at h
    · exact frL_some d (k + 1) r h
    · rename_i e
      cases h
      exact Bool.eq_false_iff.mpr e
theorem tb_f {g : Nat → Int32} {k : Nat} (h : tb9 g k = false) : ∀ d, tb9 g (k + d) = false
  | 0 => h
  | d + 1 => by rw [show k + (d + 1) = (k + d) + 1 from rfl, tb9, tb_f h d, Bool.false_and]
theorem er_fr {g : Nat → Int32} {r : Nat} (h1 : 1 ≤ r) (h2 : r < 12) (h : (er9 g r).isNone = false) : (fr9 g).isNone = false := by
  rw [← tb_12]
  obtain ⟨d, hd⟩ : ∃ d, 12 = (r + 1) + d := ⟨11 - r, by omega⟩
  rw [hd]
  refine tb_f ?_ d
  rw [tb9, h, decide_eq_false (by omega)]
  simp
/-- true with the changes of a code -/
def tc9 (n : Nat) (c : Nat → Int32) (m x : Nat) : Bool := (fr9 (gn9 n (cx9 x) c m mk0)).isNone
theorem prune {n m x y r : Nat} {c : Nat → Int32} (hr : fr9 (gn9 n (cx9 x) c m mk0) = some r) (h1 : x ≤ y) (h2 : y < nx9 x (min r 6 - 1)) : tc9 n c m y = false := by
  obtain ⟨r1, r2⟩ := fr_lt hr
  have e0 := frL_some 11 1 r hr
  unfold tc9
  refine er_fr r1 r2 ?_
  rw [← e0]
  congr 1
  refine erL_pre (fun k hk => ?_) r 0 (by omega)
  unfold gn9 ru9
  rw [mu_pre k (fun i hi => ?_)]
  have h6 := Nat.mod_lt i (show 0 < 6 by decide)
  have hle := Nat.mod_le i 6
  unfold cx9
  rw [dg_same h1 h2 (by omega) (by omega)]
def cs9 (T : Nat → Bool) : Nat → Nat → Int32
  | 0, _ => -1
  | d + 1, x => if T x = true then nm9 (cx9 x) 6 else cs9 T d (x + 1)
theorem cs_skip {T : Nat → Bool} {z : Nat} (hz : z ≤ 729) : ∀ d x, x + d = z → (∀ y, x ≤ y → y < z → T y = false) → cs9 T (729 - x) x = cs9 T (729 - z) z
  | 0, x, h, _ => by rw [show x = z by omega]
  | d + 1, x, h, hT => by
    rw [show 729 - x = (729 - (x + 1)) + 1 by omega, cs9, if_neg (by rw [hT x (by omega) (by omega)]; exact Bool.false_ne_true)]
    exact cs_skip hz d (x + 1) (by omega) (fun y h1 h2 => hT y (by omega) h2)
section SP
variable {t : Nat} {G : ip_G} {Q : Option Value → ip_M → Prop} {n : Nat}
theorem m1_add : (0 : Int32) + Int32.ofInt (-1) = -1 := by decide
theorem sub_one {k : Nat} : Int32.ofNat (k + 1) + Int32.ofInt (-1) = Int32.ofNat k := nn_addm1 (a := k + 1) (by omega)
theorem cx_0 : ∀ i : Fin 6, cx9 0 i = 1 := by decide +kernel
/-- the code's digits, as far as place k; ones behind -/
abbrev DK9 (x k : Nat) (f : Nat → Int32) : Prop := ∀ i, i < 6 → f i = if i ≤ k then cx9 x i else 1
theorem dk_one {x k : Nat} {f : Nat → Int32} (h : DK9 x (k + 1) f) : DK9 x k (ups f (k + 1) 1) := by
  intro i hi
  unfold ups
  by_cases e : i = k + 1
  · rw [if_pos e, if_neg (by omega)]
  · rw [if_neg e, h i hi]
    by_cases q : i ≤ k
    · rw [if_pos q, if_pos (by omega)]
    · rw [if_neg q, if_neg (by omega)]
theorem dk_up {x k : Nat} {f : Nat → Int32} (hx : x < 729) (hk : k < 6) (h : DK9 x k f) (hd : dg9 x k < 3) : ∀ i, i < 6 → ups f k (f k + 1) i = cx9 (nx9 x k) i := by
  intro i hi
  have e := (adv_all ⟨x, hx⟩ ⟨k, hk⟩ hd).2 ⟨i, hi⟩
  dsimp only at e
  unfold ups
  by_cases q : i = k
  · rw [if_pos q, h k hk, if_pos (Nat.le_refl k)]
    unfold cx9
    rw [e, if_neg (by omega), if_pos q]
    exact nn_add _ 1
  · rw [if_neg q, h i hi]
    unfold cx9
    rw [e]
    by_cases q2 : i < k
    · rw [if_pos q2, if_pos (by omega)]
    · rw [if_neg q2, if_neg q, if_neg (by omega)]
      rfl
/-! the class -/
theorem sp55_2 {x l : Nat} (hx : x < 729) (hl : l < 6) : ∀ k F, k < 6 → DK9 x k (F 121) → (k ≤ l → nx9 x l = nx9 x k) → (∀ F', nx9 x l < 729 → (∀ i, i < 6 → F' 121 i = cx9 (nx9 x l) i) → (∀ b, b ≠ 121 → F' b = F b) → Q (some (.int 1)) (hs t, F', G)) → (∀ F', nx9 x l = 729 → (∀ b, b ≠ 121 → F' b = F b) → Q (some (.int 0)) (hs t, F', G)) → wp 55 2 [.ref 88, .int (Int32.ofNat l), .int (Int32.ofNat k)] [] (hs t, F, G) Q := by
  intro k
  induction k with
  | zero =>
    intro F hk hD hn h1 h0
    have hv : vp_in (Int32.ofNat 0) 6 := (nn_in (by omega)).mpr (by omega)
    have e0 := hn (Nat.zero_le l)
    refine rg55_2 ⟨fun q => absurd q (by decide), fun _ => ⟨fun q => ?_, fun _ => ⟨hv, fun e => ?_, fun e => ⟨hv, hv, ?_⟩⟩⟩⟩
    · (simp (disch := omega) only [nn_lit, nn_m1, nn_add, nn_mul, nn_rem, nn_sub, nn_addm1, nn_lt, nn_le, nn_eq, nn_clamp, nn_in, nn_nem1, nn_m1ne, nn_ltm1, nn_m1lt, nn_m1le, nn_lem1, bz_0, bz_n0, not_false_eq_true, not_true_eq_false, true_and, and_true, false_and, and_false, false_implies, true_implies, forall_const, Nat.reduceMul, Nat.reduceAdd, Nat.reduceSub] at q <;> try simp only [nn_bk] at q)
      omega
    · rw [nn_clamp (by omega), hD 0 (by omega), if_pos (Nat.le_refl 0)] at e
      have h3 : dg9 x 0 = 3 := by
        have := (nn_le (a := 3) (by omega) (by have := dg_r x 0; omega)).mp e
        have := dg_r x 0
        omega
      have e9 := (car_all ⟨x, hx⟩ ⟨0, by omega⟩ h3).1 rfl
      refine rg55_33 ⟨hv, ?_⟩
      rw [show Int32.ofNat 0 + Int32.ofInt (-1) = -1 from m1_add, nn_clamp (by omega)]
      refine rg55_2 ⟨fun _ => h0 _ (by rw [e0]; exact e9) (fun b hb => u_n hb), fun q => absurd q (by decide)⟩
    · rw [nn_clamp (by omega), hD 0 (by omega), if_pos (Nat.le_refl 0)] at e
      have h3 : dg9 x 0 < 3 := (nn_lt (b := 3) (by have := dg_r x 0; omega) (by omega)).mp e
      have e9 := (adv_all ⟨x, hx⟩ ⟨0, by omega⟩ h3).1
      rw [nn_clamp (by omega)]
      refine h1 _ (by rw [e0]; exact e9) (fun i hi => ?_) (fun b hb => u_n hb)
      rw [u_ups, e0]
      exact dk_up hx (by omega) hD h3 i hi
  | succ k ih =>
    intro F hk hD hn h1 h0
    have hv : vp_in (Int32.ofNat (k + 1)) 6 := (nn_in (by omega)).mpr (by omega)
    have down : (k + 1 ≤ l → dg9 x (k + 1) = 3) → wp 55 33 [.ref 88, .int (Int32.ofNat l), .int (Int32.ofNat (k + 1))] [] (hs t, F, G) Q := by
      intro h3
      refine rg55_33 ⟨hv, ?_⟩
      rw [sub_one, nn_clamp (by omega)]
      refine ih _ (by omega) (by rw [u_ups]; exact dk_one hD) (fun hkl => ?_) (fun F' z1 z2 z3 => h1 F' z1 z2 (fun b hb => by rw [z3 b hb, u_n hb])) (fun F' z1 z2 => h0 F' z1 (fun b hb => by rw [z2 b hb, u_n hb]))
      by_cases q : k + 1 ≤ l
      · rw [hn q]
        exact (car_all ⟨x, hx⟩ ⟨k + 1, hk⟩ (h3 q)).2 (by show 0 < k + 1; omega)
      · rw [show k = l by omega]
    refine rg55_2 ⟨fun q => ?_, fun _ => ⟨fun q => down (fun z => ?_), fun q => ⟨hv, fun e => down (fun _ => ?_), fun e => ⟨hv, hv, ?_⟩⟩⟩⟩
    · exact absurd ((nn_lt (b := 0) (by omega) (by omega)).mp q) (by omega)
    · (simp (disch := omega) only [nn_lit, nn_m1, nn_add, nn_mul, nn_rem, nn_sub, nn_addm1, nn_lt, nn_le, nn_eq, nn_clamp, nn_in, nn_nem1, nn_m1ne, nn_ltm1, nn_m1lt, nn_m1le, nn_lem1, bz_0, bz_n0, not_false_eq_true, not_true_eq_false, true_and, and_true, false_and, and_false, false_implies, true_implies, forall_const, Nat.reduceMul, Nat.reduceAdd, Nat.reduceSub] at q <;> try simp only [nn_bk] at q)
      omega
    · rw [nn_clamp (by omega), hD (k + 1) (by omega), if_pos (Nat.le_refl _)] at e
      have := (nn_le (a := 3) (by omega) (by have := dg_r x (k + 1); omega)).mp e
      have := dg_r x (k + 1)
      omega
    · (simp (disch := omega) only [nn_lit, nn_m1, nn_add, nn_mul, nn_rem, nn_sub, nn_addm1, nn_lt, nn_le, nn_eq, nn_clamp, nn_in, nn_nem1, nn_m1ne, nn_ltm1, nn_m1lt, nn_m1le, nn_lem1, bz_0, bz_n0, not_false_eq_true, not_true_eq_false, true_and, and_true, false_and, and_false, false_implies, true_implies, forall_const, Nat.reduceMul, Nat.reduceAdd, Nat.reduceSub] at q <;> try simp only [nn_bk] at q)
      rw [nn_clamp (by omega), hD (k + 1) (by omega), if_pos (Nat.le_refl _)] at e
      have h3 : dg9 x (k + 1) < 3 := (nn_lt (b := 3) (by have := dg_r x (k + 1); omega) (by omega)).mp e
      have e9 := (adv_all ⟨x, hx⟩ ⟨k + 1, hk⟩ h3).1
      rw [nn_clamp (by omega)]
      refine h1 _ (by rw [hn q]; exact e9) (fun i hi => ?_) (fun b hb => u_n hb)
      rw [u_ups, hn q]
      exact dk_up hx hk hD h3 i hi
theorem sp56 {F : ip_F} {x : Nat} (hD : ∀ i, i < 6 → F 121 i = cx9 x i) (h : Q (some (.int (nm9 (cx9 x) 6))) (hs t, F, G)) : wp 56 0 [.ref 88, .float 0, .float 0] [] (hs t, F, G) Q := by
  have loop : ∀ d k, k + d = 6 → wp 56 4 [.ref 88, .int (nm9 (cx9 x) k), .int (Int32.ofNat k)] [] (hs t, F, G) Q := by
    intro d
    induction d with
    | zero =>
      intro k hk
      obtain rfl : k = 6 := by omega
      exact rg56_4 ⟨fun _ => h, fun q => absurd q (by decide)⟩
    | succ d ih =>
      intro k hk
      refine rg56_4 ⟨fun q => ?_, fun _ => ⟨(nn_in (by omega)).mpr (by omega), ?_⟩⟩
      · (simp (disch := omega) only [nn_lit, nn_m1, nn_add, nn_mul, nn_rem, nn_sub, nn_addm1, nn_lt, nn_le, nn_eq, nn_clamp, nn_in, nn_nem1, nn_m1ne, nn_ltm1, nn_m1lt, nn_m1le, nn_lem1, bz_0, bz_n0, not_false_eq_true, not_true_eq_false, true_and, and_true, false_and, and_false, false_implies, true_implies, forall_const, Nat.reduceMul, Nat.reduceAdd, Nat.reduceSub] at q <;> try simp only [nn_bk] at q)
        omega
      · rw [nn_clamp (by omega), hD k (by omega), show Int32.ofNat k + 1 = Int32.ofNat (k + 1) from nn_add k 1]
        exact ih (k + 1) (by omega)
  exact rg56_0 (loop 6 0 rfl)
theorem sp54_18 {c : Nat → Int32} {m : Nat} (h4 : 4 ≤ n) (h6 : n ≤ 6) (hm64 : m < 64) (hW : WR9 n c) : ∀ N x s F v4, 729 - x ≤ N → x < 729 → s ≤ x → F 1 6 = Int32.ofNat n → F 4 = c → (∀ i, i < 6 → F 121 i = cx9 x i) → (∀ F', (∀ z, npl z → z ≠ 121 → F' z = F z) → Q (some (.int (cs9 (tc9 n c m) (729 - x) x))) (hs t, F', G)) → wp 54 18 [.ref 88, .ref 1, .int (Int32.ofNat m), .int (Int32.ofNat s), v4] [] (hs t, F, G) Q := by
  intro N
  induction N with
  | zero =>
    intro x s F v4 hN hx
    omega
  | succ N ih =>
    intro x s F v4 hN hx hs1 hb hc hD h
    refine rg54_18 ⟨fun q => ?_, fun _ => ?_⟩
    · exact absurd ((nn_le (a := 1000) (by omega) (by omega)).mp q) (by omega)
    · rw [hb]
      refine sp22 (a := 121) rfl (by decide) h4 h6 rfl (fun F1 hM hf => rg54_40 ?_)
      have hc1 : F1 4 = c := by rw [hf 4 (by decide), hc]
      refine sp25 (ok7_3 t) (by decide) h4 h6 hm64 (wr_kw h6 (by rw [show F1 (3 + 1) = c from hc1]; exact hW)) mk_0 ⟨hM.1, hM.2.1, hM.2.2.2⟩ rfl (fun F2 hR hf2 => rg54_52 (sp30 ?_))
      have fr2 : ∀ z, npl z → F2 z = F z := fun z hz => by rw [hf2 z hz.2, hf z hz.1]
      have eg : fr9 (F2 117) = fr9 (gn9 n (cx9 x) c m mk0) := by
        refine fr_agree (fun k hk => ?_)
        rw [hR.2 k hk, show F1 (3 + 1) = c from hc1]
        show nm9 (ru9 n (F 121) c m mk0 k) n = nm9 (ru9 n (cx9 x) c m mk0 k) n
        unfold ru9
        rw [mu_congr hD]
      rw [eg]
      have hD2 : ∀ i, i < 6 → F2 121 i = cx9 x i := fun i hi => by rw [fr2 121 (by decide)]; exact hD i hi
      cases e : fr9 (gn9 n (cx9 x) c m mk0) with
      | none =>
        have hT : tc9 n c m x = true := by unfold tc9; rw [e]; rfl
        have hQ := h F2 (fun z h1 _ => fr2 z h1)
        rw [show 729 - x = (728 - x) + 1 by omega, cs9, if_pos hT] at hQ
        exact rg54_59 ⟨fun q => absurd rfl q, fun _ => sp56 hD2 (rg54_71 hQ)⟩
      | some r =>
        obtain ⟨r1, r2⟩ := fr_lt e
        have hpr : ∀ y, x ≤ y → y < nx9 x (min r 6 - 1) → tc9 n c m y = false := fun y y1 y2 => prune e y1 y2
        have el : (if (6 : Int32) < Int32.ofNat r then (6 : Int32) else Int32.ofNat r) - 1 = Int32.ofNat (min r 6 - 1) := by
          split
          · rename_i q
            have q := (nn_lt (a := 6) (by omega) (by omega)).mp q
            rw [show min r 6 = 6 by omega]
            rfl
          · rename_i q
            have q : ¬ 6 < r := fun z => q ((nn_lt (a := 6) (by omega) (by omega)).mpr z)
            rw [show min r 6 = r by omega]
            exact nn_sub (b := 1) r1
        refine rg54_59 ⟨fun _ => rg55_0 ?_, fun q => absurd q (nn_nem1 (by omega))⟩
        rw [show en9 (some r) = Int32.ofNat r from rfl, el]
        refine sp55_2 (x := x) (l := min r 6 - 1) hx (by omega) 5 F2 (by omega) (fun i hi => by rw [hD2 i hi, if_pos (by omega)]) (fun hl => by rw [show min r 6 - 1 = 5 by omega]) (fun F3 z1 z2 z3 => rg54_85 ⟨fun _ => ?_, fun q => absurd q (by decide)⟩) (fun F3 z1 z2 => rg54_85 ⟨fun q => absurd rfl q, fun _ => ?_⟩)
        · have hgt := nx_gt x (min r 6 - 1)
          have fr3 : ∀ z, npl z → z ≠ 121 → F3 z = F z := fun z h1 h2 => by rw [z3 z h2, fr2 z h1]
          rw [show Int32.ofNat s + 1 = Int32.ofNat (s + 1) from nn_add s 1]
          refine ih (nx9 x (min r 6 - 1)) (s + 1) F3 _ (by omega) z1 (by omega) (by rw [fr3 1 (by decide) (by decide), hb]) (by rw [fr3 4 (by decide) (by decide), hc]) z2 (fun F' k1 => ?_)
          rw [← cs_skip (z := nx9 x (min r 6 - 1)) (by omega) (nx9 x (min r 6 - 1) - x) x (by omega) hpr]
          exact h F' (fun z h1 h2 => by rw [k1 z h1 h2, fr3 z h1 h2])
        · have fr3 : ∀ z, npl z → z ≠ 121 → F3 z = F z := fun z h1 h2 => by rw [z2 z h2, fr2 z h1]
          have hQ := h F3 fr3
          rw [cs_skip (z := 729) (by omega) (729 - x) x (by omega) (fun y y1 y2 => hpr y y1 (by omega))] at hQ
          exact hQ
theorem sp54 {F : ip_F} (h4 : 4 ≤ n) (h6 : n ≤ 6) (b1 : F 1 6 = Int32.ofNat n) (hW : WR9 n (F 4)) (h : ∀ F', (∀ z, npl z → z ≠ 121 → F' z = F z) → Q (some (.int (cs9 (tc9 n (F 4) (bf9 (mks (F 4)) 6)) 729 0))) (hs t, F', G)) : wp 54 0 [.ref 88, .ref 1, .float 0, .float 0, .float 0] [] (hs t, F, G) Q := by
  refine rg54_0 (sp79 (ok7_3 t) (rg54_7 (sp243 (a := 121) (n0 := 6) rfl (by omega) (fun F1 g1 g2 => rg54_16 ?_))))
  refine sp54_18 (c := F 4) h4 h6 (bf_lt _ 6 (by omega)) hW 729 0 0 F1 _ (by omega) (by omega) (by omega) (by rw [g2 1 (by decide), b1]) (g2 4 (by decide)) (fun i hi => ?_) (fun F' k1 => h F' (fun z h1 h2 => by rw [k1 z h1 h2, g2 z h2]))
  rw [g1, if_pos hi]
  exact (cx_0 ⟨i, hi⟩).symm
/-! the reference -/
abbrev ncm (x : Nat) : Prop := x ≠ 195 ∧ x ≠ 205 ∧ x ≠ 206 ∧ x ≠ 209
theorem sp202_57 {F0 : ip_F} {x : Nat} {a1 a2 a3 : Int32} {v5 : Value} (hx : x < 729) : ∀ k F, k < 6 → DK9 x k (F 195) → nx9 x 5 = nx9 x k → (∀ F' k', k' < 6 → dg9 x k' < 3 → nx9 x 5 = nx9 x k' → DK9 x k' (F' 195) → (∀ i, 6 ≤ i → F' 195 i = F 195 i) → (∀ b, b ≠ 195 → F' b = F b) → wp 202 97 [.ref 193, .int a1, .int a2, .int a3, .int (Int32.ofNat k'), v5] [.int 1] (hs t, F', G) Q) → (∀ F', nx9 x 5 = 729 → (∀ i, 6 ≤ i → F' 195 i = F 195 i) → (∀ b, b ≠ 195 → F' b = F b) → wp 202 97 [.ref 193, .int a1, .int a2, .int a3, .int (-1), v5] [.int 0] (hs t, F', G) Q) → wp 202 57 [.ref 193, .int a1, .int a2, .int a3, .int (Int32.ofNat k), v5] [] (hs t, F, G) Q := by
  intro k
  induction k with
  | zero =>
    intro F hk hD hn h1 h0
    have hv : vp_in (Int32.ofNat 0) 6 := (nn_in (by omega)).mpr (by omega)
    refine rg202_57 ⟨fun q => absurd q (by decide), fun _ => ⟨hv, fun e => rg202_87 ⟨fun q => absurd q (by decide), fun _ => ?_⟩, fun e => ⟨hv, ?_⟩⟩⟩
    · rw [nn_clamp (by omega), hD 0 (by omega), if_pos (Nat.le_refl 0)] at e
      have h3 : ¬ dg9 x 0 = 3 := fun z => e (by unfold cx9; rw [z]; rfl)
      have := dg_r x 0
      exact h1 F 0 (by omega) (by omega) hn hD (fun _ _ => rfl) (fun _ _ => rfl)
    · rw [nn_clamp (by omega), hD 0 (by omega), if_pos (Nat.le_refl 0)] at e
      have h3 : dg9 x 0 = 3 := (nn_eq (b := 3) (by have := dg_r x 0; omega) (by omega)).mp e
      have e9 := (car_all ⟨x, hx⟩ ⟨0, by omega⟩ h3).1 rfl
      rw [show Int32.ofNat 0 + Int32.ofInt (-1) = -1 from m1_add, nn_clamp (by omega)]
      refine rg202_57 ⟨fun _ => rg202_87 ⟨fun _ => h0 _ (by rw [hn]; exact e9) (fun i hi => by rw [u_s, if_neg (by omega)]) (fun b hb => u_n hb), fun q => absurd q (by decide)⟩, fun q => absurd q (by decide)⟩
  | succ k ih =>
    intro F hk hD hn h1 h0
    have hv : vp_in (Int32.ofNat (k + 1)) 6 := (nn_in (by omega)).mpr (by omega)
    have hpos : ¬ Int32.ofNat (k + 1) < 0 := fun q => absurd ((nn_lt (b := 0) (by omega) (by omega)).mp q) (by omega)
    refine rg202_57 ⟨fun q => absurd q hpos, fun _ => ⟨hv, fun e => rg202_87 ⟨fun q => absurd q hpos, fun _ => ?_⟩, fun e => ⟨hv, ?_⟩⟩⟩
    · rw [nn_clamp (by omega), hD (k + 1) (by omega), if_pos (Nat.le_refl _)] at e
      have h3 : ¬ dg9 x (k + 1) = 3 := fun z => e (by unfold cx9; rw [z]; rfl)
      have := dg_r x (k + 1)
      exact h1 F (k + 1) hk (by omega) hn hD (fun _ _ => rfl) (fun _ _ => rfl)
    · rw [nn_clamp (by omega), hD (k + 1) (by omega), if_pos (Nat.le_refl _)] at e
      have h3 : dg9 x (k + 1) = 3 := (nn_eq (b := 3) (by have := dg_r x (k + 1); omega) (by omega)).mp e
      rw [sub_one, nn_clamp (by omega)]
      refine ih _ (by omega) (by rw [u_ups]; exact dk_one hD) ?_ (fun F' k' y1 y2 y3 y4 y5 y6 => h1 F' k' y1 y2 y3 y4 (fun i hi => by rw [y5 i hi, u_s, if_neg (by omega)]) (fun b hb => by rw [y6 b hb, u_n hb])) (fun F' y1 y2 y3 => h0 F' y1 (fun i hi => by rw [y2 i hi, u_s, if_neg (by omega)]) (fun b hb => by rw [y3 b hb, u_n hb]))
      rw [hn]
      exact (car_all ⟨x, hx⟩ ⟨k + 1, hk⟩ h3).2 (by show 0 < k + 1; omega)
theorem nx_5 (x : Nat) : nx9 x 5 = x + 1 := by
  unfold nx9
  rw [Nat.sub_self, Nat.pow_zero, Nat.div_one, Nat.mul_one]
theorem sp202_128 {F0 : ip_F} {x : Nat} {a1 a3 : Int32} {b : Bool} (hb : b = true → ∀ i, i < 6 → F0 195 i = cx9 x i) {old : Nat → Int32} (hk : ∀ i, i < 6 → F0 209 i = old i) (h : ∀ F', (∀ i, i < 6 → F' 195 i = old i) → (∀ i, 6 ≤ i → F' 195 i = F0 195 i) → (∀ z, z ≠ 195 → F' z = F0 z) → Q (some (.int (if b = true then nm9 (cx9 x) 6 else -1))) (hs t, F', G)) : ∀ d k F v, k + d = 6 → (b = true → v = nm9 (cx9 x) k) → (∀ i, F 195 i = if i < k then old i else F0 195 i) → (∀ z, z ≠ 195 → F z = F0 z) → wp 202 128 [.ref 193, .int a1, .int (bz (b = true)), .int a3, .int v, .int (Int32.ofNat k)] [] (hs t, F, G) Q := by
  intro d
  induction d with
  | zero =>
    intro k F v hk' hv hD hf
    obtain rfl : k = 6 := by omega
    have hQ := h F (fun i hi => by rw [hD, if_pos hi]) (fun i hi => by rw [hD, if_neg (by omega)]) hf
    refine rg202_128 ⟨fun _ => ⟨fun e => ?_, fun e => ?_⟩, fun q => absurd q (by decide)⟩
    · rw [if_neg (bz_0.mp e)] at hQ
      exact hQ
    · have e := bz_n0.mp e
      rw [if_pos e] at hQ
      rw [hv e]
      exact hQ
  | succ d ih =>
    intro k F v hk' hv hD hf
    have vi : vp_in (Int32.ofNat k) 6 := (nn_in (by omega)).mpr (by omega)
    refine rg202_128 ⟨fun q => ?_, fun _ => ⟨vi, vi, vi, ?_⟩⟩
    · (simp (disch := omega) only [nn_lit, nn_m1, nn_add, nn_mul, nn_rem, nn_sub, nn_addm1, nn_lt, nn_le, nn_eq, nn_clamp, nn_in, nn_nem1, nn_m1ne, nn_ltm1, nn_m1lt, nn_m1le, nn_lem1, bz_0, bz_n0, not_false_eq_true, not_true_eq_false, true_and, and_true, false_and, and_false, false_implies, true_implies, forall_const, Nat.reduceMul, Nat.reduceAdd, Nat.reduceSub] at q <;> try simp only [nn_bk] at q)
      omega
    · rw [nn_clamp (by omega), show Int32.ofNat k + 1 = Int32.ofNat (k + 1) from nn_add k 1]
      refine ih (k + 1) _ _ (by omega) (fun e => ?_) (fun i => ?_) (fun z hz => by rw [u_n hz]; exact hf z hz)
      · rw [hv e, hD, if_neg (by omega), hb e k (by omega)]
        rfl
      · rw [u_s]
        by_cases q : i = k
        · rw [if_pos q, if_pos (by omega), hf 209 (by decide), hk k (by omega), q]
        · rw [if_neg q, hD]
          by_cases q2 : i < k
          · rw [if_pos q2, if_pos (by omega)]
          · rw [if_neg q2, if_neg (by omega)]
theorem sp202_46 {F0 : ip_F} {m : Nat} {c : Nat → Int32} (h4 : 4 ≤ n) (h6 : n ≤ 6) (hm64 : m < 64) (hk : KW9 n c) (hb : F0 193 1 = Int32.ofNat n) (hc : mr9 F0 = c) (h : ∀ F', (∀ i, F' 195 i = F0 195 i) → (∀ z, ncm z → F' z = F0 z) → Q (some (.int (cs9 (tc9 n c m) 729 0))) (hs t, F', G)) : ∀ d x F v4 v5, x + d = 728 → (∀ i, i < 6 → F 195 i = cx9 x i) → (∀ i, 6 ≤ i → F 195 i = F0 195 i) → (∀ i, i < 6 → F 209 i = F0 195 i) → (∀ z, ncm z → F z = F0 z) → cs9 (tc9 n c m) (729 - x) x = cs9 (tc9 n c m) 729 0 → wp 202 46 [.ref 193, .int (Int32.ofNat m), .int (bz (tc9 n c m x = true)), .int 1, v4, v5] [] (hs t, F, G) Q := by
  have done : ∀ x F (b : Bool) a3 v4 v5, (b = true → ∀ i, i < 6 → F 195 i = cx9 x i) → (∀ i, 6 ≤ i → F 195 i = F0 195 i) → (∀ i, i < 6 → F 209 i = F0 195 i) → (∀ z, ncm z → F z = F0 z) → (if b = true then nm9 (cx9 x) 6 else -1) = cs9 (tc9 n c m) 729 0 → wp 202 122 [.ref 193, .int (Int32.ofNat m), .int (bz (b = true)), .int a3, v4, v5] [] (hs t, F, G) Q := by
    intro x F b a3 v4 v5 e1 e2 e3 e4 e5
    refine rg202_122 (sp202_128 (F0 := F) (x := x) (b := b) e1 (old := F0 195) e3 (fun F' k1 k2 k3 => ?_) 6 0 F 0 rfl (fun _ => rfl) (fun i => by rw [if_neg (by omega)]) (fun _ _ => rfl))
    rw [e5]
    refine h F' (fun i => ?_) (fun z hz => by rw [k3 z hz.1, e4 z hz])
    by_cases q : i < 6
    · exact k1 i q
    · rw [k2 i (by omega), e2 i (by omega)]
  intro d
  induction d with
  | zero =>
    intro x F v4 v5 hx e1 e2 e3 e4 e5
    obtain rfl : x = 728 := by omega
    have e5 : (if tc9 n c m 728 = true then nm9 (cx9 728) 6 else -1) = cs9 (tc9 n c m) 729 0 := e5
    refine rg202_46 ⟨fun q => done 728 F _ _ _ _ (fun _ => e1) e2 e3 e4 e5, fun q => ⟨fun z => absurd z (by decide), fun _ => ?_⟩⟩
    have q := bz_0.mp q
    rw [if_neg q] at e5
    refine sp202_57 (F0 := F0) (x := 728) (by omega) 5 F (by omega) (fun i hi => by rw [e1 i hi, if_pos (by omega)]) rfl (fun F' k' y1 y2 y3 y4 y5 y6 => ?_) (fun F' y1 y2 y3 => rg202_97 ⟨fun _ => rg202_46 ⟨fun z => absurd (bz_f q) z, fun _ => ⟨fun _ => ?_, fun z => absurd rfl z⟩⟩, fun z => absurd rfl z⟩)
    · rw [nx_5] at y3
      have := (adv_all ⟨728, by omega⟩ ⟨k', y1⟩ y2).1
      dsimp only at this
      omega
    · have := done 728 F' false 0 (.int (-1)) v5 (fun z => absurd z Bool.false_ne_true) (fun i hi => by rw [y2 i hi, e2 i hi]) (fun i hi => by rw [y3 209 (by decide)]; exact e3 i hi) (fun z hz => by rw [y3 z hz.1, e4 z hz]) (by rw [if_neg Bool.false_ne_true]; exact e5)
      rw [bz_f Bool.false_ne_true] at this
      rw [bz_f q]
      exact this
  | succ d ih =>
    intro x F v4 v5 hx e1 e2 e3 e4 e5
    rw [show 729 - x = (729 - (x + 1)) + 1 by omega, cs9] at e5
    refine rg202_46 ⟨fun q => done x F _ _ _ _ (fun _ => e1) e2 e3 e4 ?_, fun q => ⟨fun z => absurd z (by decide), fun _ => ?_⟩⟩
    · have q := bz_n0.mp q
      rw [if_pos q] at e5 ⊢
      exact e5
    · have q := bz_0.mp q
      rw [if_neg q] at e5
      refine sp202_57 (F0 := F0) (x := x) (by omega) 5 F (by omega) (fun i hi => by rw [e1 i hi, if_pos (by omega)]) rfl (fun F' k' y1 y2 y3 y4 y5 y6 => ?_) (fun F' y1 y2 y3 => ?_)
      · have vi : vp_in (Int32.ofNat k') 6 := (nn_in (by omega)).mpr (by omega)
        have up := dk_up (show x < 729 by omega) y1 y4 y2
        rw [← y3, nx_5] at up
        refine rg202_97 ⟨fun z => absurd z (by decide), fun _ => ⟨vi, vi, ?_⟩⟩
        rw [nn_clamp (by omega)]
        generalize hF2 : ip_u F' 195 k' (F' 195 k' + 1) = F2
        have g195 : F2 195 = ups (F' 195) k' (F' 195 k' + 1) := by rw [← hF2, u_ups]
        have gz : ∀ z, z ≠ 195 → F2 z = F z := fun z hz => by rw [← hF2, u_n hz, y6 z hz]
        have m2 : mr9 F2 = c := by rw [← hc]; exact mr_fr (by rw [gz 193 (by decide), e4 193 (by decide)]) (by rw [gz 196 (by decide), e4 196 (by decide)]) (by rw [gz 197 (by decide), e4 197 (by decide)]) (by rw [gz 198 (by decide), e4 198 (by decide)]) (by rw [gz 199 (by decide), e4 199 (by decide)])
        have d2 : ∀ i, i < 6 → F2 195 i = cx9 (x + 1) i := fun i hi => by rw [g195]; exact up i hi
        refine sp185 (ch := F2 195) (c := c) h4 h6 hm64 hk (by rw [gz 193 (by decide), e4 193 (by decide), hb]) rfl m2 (fun F3 hf => rg202_118 ?_)
        have eT : (fr9 (gn9 n (F2 195) c m mk0)).isNone = tc9 n c m (x + 1) := by
          unfold tc9
          rw [gn_congr (n := n) (ch := F2 195) (ch' := cx9 (x + 1)) h6 d2 (fun _ _ => rfl)]
        rw [eT]
        refine ih (x + 1) F3 _ _ (by omega) (fun i hi => by rw [hf 195 (by decide)]; exact d2 i hi) (fun i hi => ?_) (fun i hi => ?_) (fun z hz => ?_) e5
        · rw [hf 195 (by decide), g195, ups, if_neg (by omega), y5 i hi, e2 i hi]
        · rw [hf 209 (by decide), gz 209 (by decide)]
          exact e3 i hi
        · rw [hf z ⟨hz.2.1, hz.2.2.1⟩, gz z hz.1, e4 z hz]
      · rw [nx_5] at y1
        omega
theorem sp202_7 {F0 : ip_F} {v3 v4 v5 : Value} {m : Int32} (h : ∀ F' v3 v4 v5 a2, (∀ i, i < 6 → F' 195 i = 1) → (∀ i, 6 ≤ i → F' 195 i = F0 195 i) → (∀ i, i < 6 → F' 209 i = F0 195 i) → (∀ z, z ≠ 195 → z ≠ 209 → F' z = F0 z) → wp 185 0 [.ref 193, .int m, .float 0, .float 0] [] (hs t, F', G) (fun v M' => wp 202 43 [.ref 193, .int m, .int a2, v3, v4, v5] (v.toList ++ []) M' Q)) : ∀ d k F, k + d = 6 → (∀ i, F 195 i = if i < k then 1 else F0 195 i) → (∀ i, i < k → F 209 i = F0 195 i) → (∀ z, z ≠ 195 → z ≠ 209 → F z = F0 z) → wp 202 7 [.ref 193, .int m, .int (Int32.ofNat k), v3, v4, v5] [] (hs t, F, G) Q := by
  intro d
  induction d with
  | zero =>
    intro k F hk e1 e2 e3
    obtain rfl : k = 6 := by omega
    exact rg202_7 ⟨fun _ => h F _ _ _ _ (fun i hi => by rw [e1, if_pos hi]) (fun i hi => by rw [e1, if_neg (by omega)]) e2 e3, fun q => absurd q (by decide)⟩
  | succ d ih =>
    intro k F hk e1 e2 e3
    have vi : vp_in (Int32.ofNat k) 6 := (nn_in (by omega)).mpr (by omega)
    refine rg202_7 ⟨fun q => ?_, fun _ => ⟨vi, vi, vi, ?_⟩⟩
    · (simp (disch := omega) only [nn_lit, nn_m1, nn_add, nn_mul, nn_rem, nn_sub, nn_addm1, nn_lt, nn_le, nn_eq, nn_clamp, nn_in, nn_nem1, nn_m1ne, nn_ltm1, nn_m1lt, nn_m1le, nn_lem1, bz_0, bz_n0, not_false_eq_true, not_true_eq_false, true_and, and_true, false_and, and_false, false_implies, true_implies, forall_const, Nat.reduceMul, Nat.reduceAdd, Nat.reduceSub] at q <;> try simp only [nn_bk] at q)
      omega
    · rw [nn_clamp (by omega), show Int32.ofNat k + 1 = Int32.ofNat (k + 1) from nn_add k 1]
      refine ih (k + 1) _ (by omega) (fun i => ?_) (fun i hi => ?_) (fun z h1 h2 => by rw [u_n h1, u_n h2]; exact e3 z h1 h2)
      · rw [u_s, u_n (by decide), e1]
        by_cases q : i = k
        · rw [if_pos q, if_pos (by omega)]
        · rw [if_neg q]
          by_cases q2 : i < k
          · rw [if_pos q2, if_pos (by omega)]
          · rw [if_neg q2, if_neg (by omega)]
      · rw [u_n (by decide), u_s]
        by_cases q : i = k
        · rw [if_pos q, e1, if_neg (by omega), q]
        · rw [if_neg q]
          exact e2 i (by omega)
theorem pr_compose {F : ip_F} (hI : INV t F G) : wp 107 0 [.ref 0] [] (hs t, F, G) (fun v M => wp 202 0 [.ref 193, .float 0, .float 0, .float 0, .float 0, .float 0] [] M (ENi v)) := by
  obtain ⟨n, ⟨h4, h6, b1, b2, b3⟩, hP, -⟩ := hI.2.1
  refine rg107_0 (sp54 h4 h6 b1 hP.2 (fun F1 hf => rg107_11 ?_))
  have e : ∀ x, nqc x → F1 x = F x := fun x hx => hf x (npl_q hx) (by unfold nqc at hx; omega)
  have m1 : mr9 F1 = mr9 F := mr_q (fun x hx _ => e x hx)
  have hP1 : NP9 n F1 := np_fr hP (e 4 (by decide)) m1
  have c2 : F1 193 1 = Int32.ofNat n := by rw [e 193 (by decide), b2]
  refine rg202_0 (sp175 h6 c2 (kd_of h6 hP1) (rg202_4 ?_))
  have hm64 := bf_lt (mks (mr9 F1)) n h6
  refine sp202_7 (F0 := F1) (fun F2 v3 v4 v5 a2 k1 k2 k3 k4 => ?_) 6 0 F1 rfl (fun i => by rw [if_neg (by omega)]) (fun i hi => absurd hi (by omega)) (fun _ _ _ => rfl)
  have m2 : mr9 F2 = mr9 F1 := mr_fr (by rw [k4 193 (by decide) (by decide)]) (k4 196 (by decide) (by decide)) (k4 197 (by decide) (by decide)) (k4 198 (by decide) (by decide)) (k4 199 (by decide) (by decide))
  have d0 : ∀ i, i < 6 → F2 195 i = cx9 0 i := fun i hi => by rw [k1 i hi]; exact (cx_0 ⟨i, hi⟩).symm
  refine sp185 (ch := F2 195) (c := mr9 F1) h4 h6 hm64 (kw_m h6 hP1) (by rw [k4 193 (by decide) (by decide), c2]) rfl m2 (fun F3 hf3 => rg202_43 ?_)
  have eT : (fr9 (gn9 n (F2 195) (mr9 F1) (bf9 (mks (mr9 F1)) n) mk0)).isNone = tc9 n (mr9 F1) (bf9 (mks (mr9 F1)) n) 0 := by
    unfold tc9
    rw [gn_congr (n := n) (ch := F2 195) (ch' := cx9 0) h6 d0 (fun _ _ => rfl)]
  rw [eT]
  refine sp202_46 (F0 := F1) (m := bf9 (mks (mr9 F1)) n) (c := mr9 F1) h4 h6 hm64 (kw_m h6 hP1) c2 rfl (fun F4 y1 y2 => en_i (inv_fr hI (fun x h1 h2 => ?_)) ?_) 728 0 F3 _ _ rfl (fun i hi => by rw [hf3 195 (by decide)]; exact d0 i hi) (fun i hi => by rw [hf3 195 (by decide)]; exact k2 i hi) (fun i hi => by rw [hf3 209 (by decide)]; exact k3 i hi) (fun z hz => by rw [hf3 z ⟨hz.2.1, hz.2.2.1⟩, k4 z hz.1 hz.2.2.2]) rfl
  · by_cases q : x = 195
    · rw [q, ← e 195 (by decide)]
      exact funext y1
    · rw [y2 x ⟨q, h2.1, h2.2.1, h2.2.2.2.1⟩, e x h1]
  · rw [m1, ← md_eq h6 hP.2 hP.1]
    congr 1
    funext x
    unfold tc9
    rw [gn_congr (n := n) (ch := cx9 x) (ch' := cx9 x) h6 (fun _ _ => rfl) hP.1]
end SP
