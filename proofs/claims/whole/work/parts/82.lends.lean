/-! ===== two ropes that lend ===== -/
def lk0 (a b p r : Nat) : Nat := if r = a ∧ p.testBit 0 = true then b else if r = b ∧ p.testBit 1 = true then a else r
def lm9 (a b p : Nat) (r : Nat) : Int32 := Int32.ofNat (lk0 a b p r + 1)
theorem lm_mk {n a b p : Nat} (ha : a < n) (hb : b < n) : MK9 n (lm9 a b p) := by
  intro r hr
  refine ⟨lk0 a b p r, ?_, rfl⟩
  unfold lk0
  split
  · exact hb
  · split
    · exact ha
    · exact hr
/-- bell own + 1 is rung in another place in row k than meant -/
def gP9 (n : Nat) (ch c : Nat → Int32) (m : Nat) (mk : Nat → Int32) (own k : Nat) : Bool := !decide (fp9 (ru9 n ch c m mk k) (Int32.ofNat (own + 1)) n 0 = fp9 (mu9 n ch k) (Int32.ofNat (own + 1)) n 0)
def gA9 (n : Nat) (ch c : Nat → Int32) (m : Nat) (mk : Nat → Int32) (own : Nat) : Nat := cn9 (gP9 n ch c m mk own) 12
theorem rgF_id {n m k : Nat} {c mk f : Nat → Int32} : ∀ r, (∀ q, q < r → ¬ c (6 + q) = Int32.ofNat k) → rgF n c m mk k f r = f
  | 0, _ => rfl
  | r + 1, h => by
    rw [rgF, if_neg (fun q => h r (by omega) q.2)]
    exact rgF_id r (fun q hq => h q (by omega))
theorem wr_r0 {n : Nat} {c : Nat → Int32} (h : WR9 n c) {r : Nat} (hr : r < 6) : ¬ c (6 + r) = Int32.ofNat 0 := by
  rcases h.1 r hr with h1 | ⟨_, _, w, w1, w2, h1⟩
  · rw [h1.2]
    decide
  · rw [h1]
    intro q
    have := (nn_eq (by omega) (by omega)).mp q
    omega
theorem gP_0 {n m own : Nat} {ch c mk : Nat → Int32} (hn : n ≤ 6) (hw : WR9 n c) : gP9 n ch c m mk own 0 = false := by
  unfold gP9 ru9
  rw [rgF_id n (fun q hq => wr_r0 hw (by omega)), decide_eq_true rfl]
  rfl
theorem pd_all : ∀ p : Fin 4, ((Int32.ofNat p &&& 1 = 0) ↔ ¬ p.val.testBit 0 = true) ∧ ((Int32.ofNat p &&& 2 = 0) ↔ ¬ p.val.testBit 1 = true) ∧ Int32.ofNat p ^^^ 1 = Int32.ofNat (p.val ^^^ 1) ∧ Int32.ofNat p ^^^ 2 = Int32.ofNat (p.val ^^^ 2) ∧ p.val ^^^ 1 < 4 ∧ p.val ^^^ 2 < 4 ∧ (((Int32.ofNat p >>> ((0 : Int32) &&& 31)) &&& 1 = 1) ↔ p.val.testBit 0 = true) ∧ (((Int32.ofNat p >>> ((1 : Int32) &&& 31)) &&& 1 = 1) ↔ p.val.testBit 1 = true) := by decide +kernel
/-- what each side reckons for the ropes a and b -/
def va9 (g p : Nat) : Int32 := (Int32.ofNat g - (Int32.ofNat p &&& 1)) - 2 * (Int32.ofNat p >>> ((1 : Int32) &&& 31))
def vb9 (g p : Nat) : Int32 := (Int32.ofNat g - (Int32.ofNat p >>> ((1 : Int32) &&& 31))) - 2 * (Int32.ofNat p &&& 1)
def wa9 (g p : Nat) : Int32 := (Int32.ofNat g - ((Int32.ofNat p >>> ((0 : Int32) &&& 31)) &&& 1)) + 2 * ((Int32.ofNat p >>> (((1 : Int32) - 0) &&& 31)) &&& 1)
def wb9 (g p : Nat) : Int32 := (Int32.ofNat g - ((Int32.ofNat p >>> ((1 : Int32) &&& 31)) &&& 1)) + 2 * ((Int32.ofNat p >>> (((1 : Int32) - 1) &&& 31)) &&& 1)
theorem vw_all : ∀ (g h : Fin 13) (p : Fin 4), (va9 h (p.val ^^^ 1) ≤ va9 g p.val ↔ wa9 h (p.val ^^^ 1) ≤ wa9 g p.val) ∧ (vb9 h (p.val ^^^ 2) ≤ vb9 g p.val ↔ wb9 h (p.val ^^^ 2) ≤ wb9 g p.val) := by decide +kernel
theorem gA_le {n m own : Nat} {ch c mk : Nat → Int32} : gA9 n ch c m mk own ≤ 12 := cn_le 12
section SP
variable {t : Nat} {G : ip_G} {Q : Option Value → ip_M → Prop} {n : Nat}
theorem sp33 {F : ip_F} {own m : Nat} {ch c mk : Nat → Int32} (h4 : 4 ≤ n) (h6 : n ≤ 6) (hm64 : m < 64) (ho : own < n) (hk : KW9 n c) (hm : MK9 n mk) (hM : Mm9 n ch mk F) (hR : Rg9 n ch c m mk F) (h : Q (some (.int (Int32.ofNat (gA9 n ch c m mk own)))) (hs t, F, G)) : wp 33 0 [.ref 89, .int (Int32.ofNat (own + 1)), .float 0, .float 0] [] (hs t, F, G) Q := by
  have loop : ∀ d k, k + d = 12 → wp 33 4 [.ref 89, .int (Int32.ofNat (own + 1)), .int (Int32.ofNat (cn9 (gP9 n ch c m mk own) k)), .int (Int32.ofNat k)] [] (hs t, F, G) Q := by
    intro d
    induction d with
    | zero =>
      intro k hk'
      obtain rfl : k = 12 := by omega
      exact rg33_4 ⟨fun _ => h, fun q => absurd q (by decide)⟩
    | succ d ih =>
      intro k hk'
      have h1 := ih (k + 1) (by omega)
      rw [cn9] at h1
      have hv : vp_in (Int32.ofNat k) 12 := (nn_in (by omega)).mpr (by omega)
      have pr : PM9 n (F (104 + k)) := pm_agree (fun x hx => (hR.1 k (by omega) x hx).symm) (rgF_pm h4 h6 (by omega) hk hm (pm_mu (by omega) k) n (by omega))
      have pm : PM9 n (F (91 + k)) := pm_agree (fun x hx => (hM.2.1 k (by omega) x hx).symm) (pm_mu (by omega) k)
      have e1 : fp9 (F (104 + k)) (Int32.ofNat (own + 1)) n 0 = fp9 (ru9 n ch c m mk k) (Int32.ofNat (own + 1)) n 0 := fp_agree (fun x hx => hR.1 k (by omega) x hx) n 0 (by omega)
      have e2 : fp9 (F (91 + k)) (Int32.ofNat (own + 1)) n 0 = fp9 (mu9 n ch k) (Int32.ofNat (own + 1)) n 0 := fp_agree (fun x hx => hM.2.1 k (by omega) x hx) n 0 (by omega)
      have l1 := (fp_in (n := n) (f := F (104 + k)) (b := Int32.ofNat (own + 1)) n 0 (by omega) (by obtain ⟨y, y1, y2⟩ := pr own ho; exact ⟨y, by omega, y1, y2⟩)).1
      have l2 := (fp_in (n := n) (f := F (91 + k)) (b := Int32.ofNat (own + 1)) n 0 (by omega) (by obtain ⟨y, y1, y2⟩ := pm own ho; exact ⟨y, by omega, y1, y2⟩)).1
      rw [e1] at l1
      rw [e2] at l2
      have fin : ∀ z : Nat, z = (if gP9 n ch c m mk own k = true then 1 else 0) → wp 33 41 [.ref 89, .int (Int32.ofNat (own + 1)), .int (Int32.ofNat (cn9 (gP9 n ch c m mk own) k)), .int (Int32.ofNat k)] [.int (Int32.ofNat z), .int (Int32.ofNat (cn9 (gP9 n ch c m mk own) k))] (hs t, F, G) Q := by
        intro z hz
        refine rg33_41 ?_
        rw [nn_add, show Int32.ofNat k + 1 = Int32.ofNat (k + 1) from nn_add k 1, hz]
        exact h1
      refine rg33_4 ⟨fun q => ?_, fun _ => ⟨hv, ?_⟩⟩
      · (simp (disch := omega) only [nn_lit, nn_m1, nn_add, nn_mul, nn_rem, nn_sub, nn_addm1, nn_lt, nn_le, nn_eq, nn_clamp, nn_in, nn_nem1, nn_m1ne, nn_ltm1, nn_m1lt, nn_m1le, nn_lem1, bz_0, bz_n0, not_false_eq_true, not_true_eq_false, true_and, and_true, false_and, and_false, false_implies, true_implies, forall_const, Nat.reduceMul, Nat.reduceAdd, Nat.reduceSub] at q <;> try simp only [nn_bk] at q)
        omega
      · rw [nn_clamp (by omega)]
        refine sp27 (hs_r104 t k (by omega)) h6 hM.1 (pr own ho) (rg33_22 ⟨hv, ?_⟩)
        rw [nn_clamp (by omega)]
        refine sp27 (hs_r91 t k (by omega)) h6 hM.1 (pm own ho) (rg33_33 ⟨fun e => fin 0 ?_, fun e => fin 1 ?_⟩)
        · rw [e1, e2] at e
          have e3 := (nn_eq (by omega) (by omega)).mp e
          have e4 : fp9 (ru9 n ch c m mk k) (Int32.ofNat (own + 1)) n 0 = fp9 (mu9 n ch k) (Int32.ofNat (own + 1)) n 0 := by omega
          unfold gP9
          rw [decide_eq_true e4]
          rfl
        · rw [e1, e2] at e
          have e4 : ¬ fp9 (ru9 n ch c m mk k) (Int32.ofNat (own + 1)) n 0 = fp9 (mu9 n ch k) (Int32.ofNat (own + 1)) n 0 := fun q => e (by rw [q])
          unfold gP9
          rw [decide_eq_false e4]
          rfl
  exact rg33_0 (loop 12 0 rfl)
theorem sp24 {F : ip_F} {a b p : Nat} (ha : a < 6) (hb : b < 6) (hab : ¬ a = b) (hp : p < 4) (h : ∀ F', (∀ r, r < 6 → (r ≠ a → r ≠ b → F 118 r = Int32.ofNat (r + 1)) → F' 118 r = lm9 a b p r) → (∀ x, x ≠ 118 → F' x = F x) → Q none (hs t, F', G)) : wp 24 0 [.ref 89, .int (Int32.ofNat a), .int (Int32.ofNat b), .int (Int32.ofNat p)] [] (hs t, F, G) Q := by
  obtain ⟨p1, p2, -⟩ := pd_all ⟨p, hp⟩
  have hva : vp_in (Int32.ofNat a) 6 := (nn_in (by omega)).mpr (by omega)
  have hvb : vp_in (Int32.ofNat b) 6 := (nn_in (by omega)).mpr (by omega)
  have e5 : ∀ x, x < 6 → (0 : Int32) ≤ Int32.ofNat x ∧ Int32.ofNat x ≤ 5 := fun x hx => ⟨(nn_le (a := 0) (by omega) (by omega)).mpr (by omega), (nn_le (b := 5) (by omega) (by omega)).mpr (by omega)⟩
  have fin : ∀ x y : Nat, x = lk0 a b p a → y = lk0 a b p b → wp 24 59 [.ref 89, .int (Int32.ofNat a), .int (Int32.ofNat b), .int (Int32.ofNat p)] [.int (Int32.ofNat (y + 1)), .int (Int32.ofNat b), .ref 118] (hs t, ip_u F 118 a (Int32.ofNat (x + 1)), G) Q := by
    intro x y hx hy
    refine rg24_59 ⟨hvb, ?_⟩
    rw [nn_clamp (by omega)]
    refine h _ (fun r hr hr2 => ?_) (fun z hz => by rw [u_n hz, u_n hz])
    rw [u_s, u_s]
    by_cases q : r = b
    · rw [if_pos q, q, hy]
      rfl
    · rw [if_neg q]
      by_cases q2 : r = a
      · rw [if_pos q2, q2, hx]
        rfl
      · rw [if_neg q2, hr2 q2 q]
        unfold lm9 lk0
        rw [if_neg (fun z => q2 z.1), if_neg (fun z => q z.1)]
  have mid : ∀ x : Nat, x = lk0 a b p a → wp 24 38 [.ref 89, .int (Int32.ofNat a), .int (Int32.ofNat b), .int (Int32.ofNat p)] [.int (Int32.ofNat (x + 1)), .int (Int32.ofNat a), .ref 118] (hs t, F, G) Q := by
    intro x hx
    refine rg24_38 ⟨hva, fun e => ?_, fun e => ?_⟩
    · rw [nn_clamp (by omega), show Int32.ofNat b + 1 = Int32.ofNat (b + 1) from nn_add b 1]
      refine fin x b hx ?_
      unfold lk0
      rw [if_neg (fun z => hab z.1.symm), if_neg (fun z => p2.mp e z.2)]
    · rw [nn_clamp (by omega), show Int32.ofNat a + 1 = Int32.ofNat (a + 1) from nn_add a 1]
      refine fin x a hx ?_
      have : p.testBit 1 = true := Classical.byContradiction (fun z => e (p2.mpr z))
      unfold lk0
      rw [if_neg (fun z => hab z.1.symm), if_pos ⟨rfl, this⟩]
  refine rg24_0 (sp129 ?_)
  rw [bz_t (e5 a ha)]
  refine rg24_6 ⟨fun q => absurd q (by decide), fun _ => sp129 ?_⟩
  rw [bz_t (e5 b hb)]
  refine rg24_15 ⟨fun q => absurd q (by decide), fun _ => ⟨fun e => ?_, fun e => ?_⟩⟩
  · rw [show Int32.ofNat a + 1 = Int32.ofNat (a + 1) from nn_add a 1]
    refine mid a ?_
    unfold lk0
    rw [if_neg (fun z => p1.mp e z.2), if_neg (fun z => hab z.1)]
  · rw [show Int32.ofNat b + 1 = Int32.ofNat (b + 1) from nn_add b 1]
    refine mid b ?_
    have : p.testBit 0 = true := Classical.byContradiction (fun z => e (p1.mpr z))
    unfold lk0
    rw [if_pos ⟨rfl, this⟩]
def rs9 (ga gb : Nat → Nat) (p : Nat) : Bool := decide (va9 (ga (p ^^^ 1)) (p ^^^ 1) ≤ va9 (ga p) p) && decide (vb9 (gb (p ^^^ 2)) (p ^^^ 2) ≤ vb9 (gb p) p)
theorem sp59_139 {F : ip_F} {ga gb : Nat → Nat} {a2 a3 a4 : Int32} (hA : ∀ p, p < 4 → F 122 p = va9 (ga p) p) (hB : ∀ p, p < 4 → F 123 p = vb9 (gb p) p) (h : Q (some (.int (Int32.ofNat (bf9 (rs9 ga gb) 4)))) (hs t, F, G)) : ∀ d p v7, p + d = 4 → wp 59 139 [.ref 88, .ref 1, .int a2, .int a3, .int a4, .int (Int32.ofNat (bf9 (rs9 ga gb) p)), .int (Int32.ofNat p), v7] [] (hs t, F, G) Q := by
  intro d
  induction d with
  | zero =>
    intro p v7 hp
    obtain rfl : p = 4 := by omega
    exact rg59_139 ⟨fun _ => h, fun q => absurd q (by decide)⟩
  | succ d ih =>
    intro p v7 hp
    obtain ⟨-, -, p3, p4, p5, p6, -⟩ := pd_all ⟨p, by omega⟩
    have hv : vp_in (Int32.ofNat p) 4 := (nn_in (by omega)).mpr (by omega)
    dsimp only at p3 p4 p5 p6
    have nxt : ∀ z, z = Int32.ofNat (bf9 (rs9 ga gb) (p + 1)) → wp 59 192 [.ref 88, .ref 1, .int a2, .int a3, .int a4, .int z, .int (Int32.ofNat p), v7] [] (hs t, F, G) Q := by
      intro z hz
      refine rg59_192 ?_
      rw [hz, show Int32.ofNat p + 1 = Int32.ofNat (p + 1) from nn_add p 1]
      exact ih (p + 1) _ (by omega)
    have e0 := @bf_step (rs9 ga gb) p (by omega)
    refine rg59_139 ⟨fun q => ?_, fun _ => ⟨hv, ?_⟩⟩
    · exact absurd ((nn_le (a := 4) (by omega) (by omega)).mp q) (by omega)
    · rw [p3, p4, nn_clamp (by omega), nn_clamp (by omega), nn_clamp (by omega), hA p (by omega), hA _ p5, hB p (by omega), hB _ p6]
      refine ⟨(nn_in (by omega)).mpr p5, fun e => nxt _ ?_, fun e => ⟨hv, (nn_in (by omega)).mpr p6, fun e1 => nxt _ ?_, fun e1 => nxt _ ?_⟩⟩
      · rw [bf9, if_neg (by unfold rs9; rw [Bool.and_eq_true, decide_eq_true_eq]; exact fun q => absurd q.1 (Int32.not_le.mpr e)), Nat.or_zero]
      · rw [bf9, if_neg (by unfold rs9; simp only [Bool.and_eq_true, decide_eq_true_eq]; exact fun q => absurd q.2 (Int32.not_le.mpr e1)), Nat.or_zero]
      · exact e0 (by rw [if_pos (by unfold rs9; simp only [Bool.and_eq_true, decide_eq_true_eq]; exact ⟨e, e1⟩)])
theorem sp59_35 {ch c : Nat → Int32} {a b m : Nat} (h4 : 4 ≤ n) (h6 : n ≤ 6) (hm64 : m < 64) (ha : a < n) (hb : b < n) (hab : ¬ a = b) (hW : WR9 n c) : ∀ d p F v6 v7, p + d = 4 → F 4 = c → F 89 5 = Int32.ofNat n → (∀ k, k < 12 → ∀ x, x < n → F (91 + k) x = mu9 n ch k x) → (∀ r, r < n → r ≠ a → r ≠ b → F 118 r = Int32.ofNat (r + 1)) → (∀ q, q < p → F 122 q = va9 (gA9 n ch c m (lm9 a b q) a) q) → (∀ q, q < p → F 123 q = vb9 (gA9 n ch c m (lm9 a b q) b) q) → (∀ F', (∀ x, npl x → x ≠ 122 → x ≠ 123 → F' x = F x) → Q (some (.int (Int32.ofNat (bf9 (rs9 (fun q => gA9 n ch c m (lm9 a b q) a) (fun q => gA9 n ch c m (lm9 a b q) b)) 4)))) (hs t, F', G)) → wp 59 35 [.ref 88, .ref 1, .int (Int32.ofNat a), .int (Int32.ofNat b), .int (Int32.ofNat m), .int (Int32.ofNat p), v6, v7] [] (hs t, F, G) Q := by
  intro d
  induction d with
  | zero =>
    intro p F v6 v7 hp hc hbl hrow hmk hA hB h
    obtain rfl : p = 4 := by omega
    exact rg59_35 ⟨fun _ => sp59_139 hA hB (h F (fun _ _ _ _ => rfl)) 4 0 _ rfl, fun q => absurd q (by decide)⟩
  | succ d ih =>
    intro p F v6 v7 hp hc hbl hrow hmk hA hB h
    have hv : vp_in (Int32.ofNat p) 4 := (nn_in (by omega)).mpr (by omega)
    refine rg59_35 ⟨fun q => ?_, fun _ => ?_⟩
    · exact absurd ((nn_le (a := 4) (by omega) (by omega)).mp q) (by omega)
    have main : ∀ F1, (∀ r, r < n → F1 118 r = lm9 a b p r) → (∀ x, x ≠ 118 → F1 x = F x) → wp 59 64 [.ref 88, .ref 1, .int (Int32.ofNat a), .int (Int32.ofNat b), .int (Int32.ofNat m), .int (Int32.ofNat p), .int (Int32.ofNat p &&& 1), .int (Int32.ofNat p >>> (1 &&& 31))] [] (hs t, F1, G) Q := by
      intro F1 g1 g2
      have hmk9 : MK9 n (lm9 a b p) := lm_mk ha hb
      have hM : Mm9 n ch (lm9 a b p) F1 := ⟨by rw [g2 89 (by decide), hbl], fun k hk x hx => by rw [g2 _ (by omega)]; exact hrow k hk x hx, g1⟩
      have hc1 : F1 4 = c := by rw [g2 4 (by decide), hc]
      refine rg59_64 (sp25 (ok7_3 t) (by decide) h4 h6 hm64 (wr_kw h6 (by rw [show F1 (3 + 1) = c from hc1]; exact hW)) hmk9 hM rfl (fun F2 hR hf => rg59_77 ?_))
      rw [show F1 (3 + 1) = c from hc1] at hR
      have hM2 : Mm9 n ch (lm9 a b p) F2 := ⟨by rw [hf 89 (by decide), hM.1], fun k hk x hx => by rw [hf _ (by unfold nmr; omega)]; exact hM.2.1 k hk x hx, fun x hx => by rw [hf 118 (by decide)]; exact hM.2.2 x hx⟩
      rw [show Int32.ofNat a + 1 = Int32.ofNat (a + 1) from nn_add a 1]
      refine sp33 h4 h6 hm64 ha (wr_kw h6 hW) hmk9 hM2 hR (rg59_93 ⟨hv, ?_⟩)
      rw [nn_clamp (by omega), show Int32.ofNat b + 1 = Int32.ofNat (b + 1) from nn_add b 1]
      have fr3 : ∀ (z : Int32) x, x ≠ 122 → ip_u F2 122 p z x = F2 x := fun z x hx => u_n hx
      refine sp33 h4 h6 hm64 hb (wr_kw h6 hW) hmk9 (ch := ch) (c := c) (m := m) (mk := lm9 a b p) ⟨by rw [fr3 _ 89 (by decide), hM2.1], fun k hk x hx => by rw [fr3 _ _ (by omega)]; exact hM2.2.1 k hk x hx, fun x hx => by rw [fr3 _ 118 (by decide)]; exact hM2.2.2 x hx⟩ ⟨fun k hk x hx => by rw [fr3 _ _ (by omega)]; exact hR.1 k hk x hx, fun k hk => by rw [fr3 _ 117 (by decide)]; exact hR.2 k hk⟩ (rg59_118 ⟨hv, ?_⟩)
      rw [nn_clamp (by omega), show Int32.ofNat p + 1 = Int32.ofNat (p + 1) from nn_add p 1]
      have fr : ∀ x, nmr x → x ≠ 118 → x ≠ 122 → x ≠ 123 → ∀ y z, ip_u (ip_u F2 122 p y) 123 p z x = F x := fun x h1 h2 h3 h5 y z => by rw [u_n h5, u_n h3, hf x h1, g2 x h2]
      refine ih (p + 1) _ _ _ (by omega) (by rw [fr 4 (by decide) (by decide) (by decide) (by decide), hc]) (by rw [fr 89 (by decide) (by decide) (by decide) (by decide), hbl]) (fun k hk x hx => by rw [fr _ (by unfold nmr; omega) (by omega) (by omega) (by omega)]; exact hrow k hk x hx) (fun r hr h1 h2 => ?_) (fun q hq => ?_) (fun q hq => ?_) (fun F' k1 => h F' (fun x h1 h2 h3 => by rw [k1 x h1 h2 h3, fr x h1.2 h1.1.2.2.1 h2 h3]))
      · rw [u_n (by decide), u_n (by decide), hf 118 (by decide), g1 r hr]
        unfold lm9 lk0
        rw [if_neg (fun z => h1 z.1), if_neg (fun z => h2 z.1)]
      · rw [u_n (by decide), u_s]
        by_cases e : q = p
        · rw [if_pos e, e]
          rfl
        · rw [if_neg e, hf 122 (by decide), g2 122 (by decide)]
          exact hA q (by omega)
      · rw [u_s]
        by_cases e : q = p
        · rw [if_pos e, e]
          rfl
        · rw [if_neg e, u_n (by decide), hf 123 (by decide), g2 123 (by decide)]
          exact hB q (by omega)
    exact sp24 (by omega) (by omega) hab (by omega) (fun F1 g1 g2 => main F1 (fun r hr => g1 r (by omega) (hmk r hr)) g2)
theorem sp59 {F : ip_F} {a b : Nat} (h4 : 4 ≤ n) (h6 : n ≤ 6) (b1 : F 1 6 = Int32.ofNat n) (ha : a < n) (hb : b < n) (hab : ¬ a = b) (hW : WR9 n (F 4)) (h : ∀ F', (∀ x, npl x → x ≠ 122 → x ≠ 123 → F' x = F x) → Q (some (.int (Int32.ofNat (bf9 (rs9 (fun q => gA9 n (F 2) (F 4) ((bf9 (mks (F 4)) 6 ||| 1 <<< a) ||| 1 <<< b) (lm9 a b q) a) (fun q => gA9 n (F 2) (F 4) ((bf9 (mks (F 4)) 6 ||| 1 <<< a) ||| 1 <<< b) (lm9 a b q) b)) 4)))) (hs t, F', G)) : wp 59 0 [.ref 88, .ref 1, .int (Int32.ofNat a), .int (Int32.ofNat b), .float 0, .float 0, .float 0, .float 0] [] (hs t, F, G) Q := by
  have h1 : ∀ r : Fin 6, 1 <<< r.val < 64 := by decide
  have l0 := bf_lt (mks (F 4)) 6 (by omega)
  have l1 := bt_lt _ _ l0 (h1 ⟨a, by omega⟩)
  have l2 := bt_lt _ _ l1 (h1 ⟨b, by omega⟩)
  dsimp only at l1 l2
  refine rg59_0 (sp79 (ok7_3 t) (rg59_7 ?_))
  rw [b1, show F (3 + 1) = F 4 from rfl, bt_shl ⟨a, by omega⟩, bt_shl ⟨b, by omega⟩, bt_or ⟨_, l0⟩ ⟨_, h1 ⟨a, by omega⟩⟩]
  dsimp only
  rw [bt_or ⟨_, l1⟩ ⟨_, h1 ⟨b, by omega⟩⟩]
  refine sp22 (a := 2) rfl (by decide) h4 h6 rfl (fun F1 hM hf => rg59_32 (sp59_35 (ch := F 2) (c := F 4) h4 h6 l2 ha hb hab hW 4 0 F1 _ _ rfl (hf 4 (by decide)) hM.1 hM.2.1 (fun r hr _ _ => hM.2.2.2 r hr) (fun q hq => absurd hq (by omega)) (fun q hq => absurd hq (by omega)) (fun F' k1 => h F' (fun x h1 h2 h3 => by rw [k1 x h1 h2 h3, hf x h1.1]))))
/-! the reference -/
theorem sp220 {F : ip_F} {b : Int32} (h6 : n ≤ 6) (he : ∃ y, y < n ∧ F 205 y = b) (h : Q (some (.int (Int32.ofNat (fp9 (F 205) b n 0)))) (hs t, F, G)) : wp 220 0 [.ref 193, .int b, .float 0] [] (hs t, F, G) Q := by
  have loop : ∀ d x, x + d = n → (∃ y, x ≤ y ∧ y < n ∧ F 205 y = b) → Q (some (.int (Int32.ofNat (fp9 (F 205) b d x)))) (hs t, F, G) → wp 220 2 [.ref 193, .int b, .int (Int32.ofNat x)] [] (hs t, F, G) Q := by
    intro d
    induction d with
    | zero =>
      intro x hx he h
      obtain ⟨y, y1, y2, y3⟩ := he
      omega
    | succ d ih =>
      intro x hx he h
      rw [fp9] at h
      refine rg220_2 ⟨(nn_in (by omega)).mpr (by omega), fun e => ?_, fun e => ?_⟩
      · rw [nn_clamp (by omega)] at e
        rw [if_pos e] at h
        exact h
      · rw [nn_clamp (by omega)] at e
        rw [if_neg e] at h
        rw [show Int32.ofNat x + 1 = Int32.ofNat (x + 1) from nn_add x 1]
        obtain ⟨y, y1, y2, y3⟩ := he
        refine ih (x + 1) (by omega) ⟨y, ?_, y2, y3⟩ h
        rcases Nat.lt_or_ge x y with q | q
        · omega
        · obtain rfl : x = y := by omega
          exact absurd y3 e
  obtain ⟨y, y1, y2⟩ := he
  exact rg220_0 (loop n 0 (by omega) ⟨y, by omega, y1, y2⟩ h)
theorem sp221_46 {F0 : ip_F} {a b p own m k : Nat} {c f : Nat → Int32} {a4 a6 a8 : Int32} (h4 : 4 ≤ n) (h6 : n ≤ 6) (hm64 : m < 64) (ha : a < n) (hb : b < n) (hp : p < 4) (hk12 : k < 12) (hb1 : F0 193 1 = Int32.ofNat n) (hc : mr9 F0 = c) (hk : KW9 n c) (hf0 : PM9 n f) : ∀ d r F v10, r + d = n → (∀ x, x ≠ 205 → F x = F0 x) → (∀ x, x < n → F 205 x = rgF n c m (lm9 a b p) k f r x) → (∀ F' v10, (∀ x, x ≠ 205 → F' x = F0 x) → (∀ x, x < n → F' 205 x = rgF n c m (lm9 a b p) k f n x) → wp 220 0 [.ref 193, .int (a4 + 1), .float 0] [] (hs t, F', G) (fun v M' => wp 221 148 [.ref 193, .int (Int32.ofNat a), .int (Int32.ofNat b), .int (Int32.ofNat p), .int a4, .int (Int32.ofNat m), .int a6, .int (Int32.ofNat k), .int a8, .int (Int32.ofNat n), v10] (v.toList ++ [.int a6]) M' Q)) → wp 221 46 [.ref 193, .int (Int32.ofNat a), .int (Int32.ofNat b), .int (Int32.ofNat p), .int a4, .int (Int32.ofNat m), .int a6, .int (Int32.ofNat k), .int a8, .int (Int32.ofNat r), v10] [] (hs t, F, G) Q := by
  obtain ⟨-, -, -, -, -, -, p7, p8⟩ := pd_all ⟨p, hp⟩
  intro d
  induction d with
  | zero =>
    intro r F v10 hr hf hrow h
    obtain rfl : r = n := by omega
    refine rg221_46 ⟨fun _ => h F _ hf hrow, fun q => ?_⟩
    rw [hf 193 (by decide), hb1] at q
    (simp (disch := omega) only [nn_lit, nn_m1, nn_add, nn_mul, nn_rem, nn_sub, nn_addm1, nn_lt, nn_le, nn_eq, nn_clamp, nn_in, nn_nem1, nn_m1ne, nn_ltm1, nn_m1lt, nn_m1le, nn_lem1, bz_0, bz_n0, not_false_eq_true, not_true_eq_false, true_and, and_true, false_and, and_false, false_implies, true_implies, forall_const, Nat.reduceMul, Nat.reduceAdd, Nat.reduceSub] at q <;> try simp only [nn_bk] at q)
    omega
  | succ d ih =>
    intro r F v10 hr hf hrow h
    have hbit := bt_has ⟨m, hm64⟩ ⟨r, by omega⟩
    have hv : vp_in (Int32.ofNat r) 6 := (nn_in (by omega)).mpr (by omega)
    have c6 : F 197 r = c (6 + r) := by rw [hf 197 (by decide), ← hc, mr_6 (by omega)]
    have c0 : F 196 r = c r := by rw [hf 196 (by decide), ← hc, mr_0 (by omega)]
    have nxt : ∀ F' a10, (∀ x, x < n → F' 205 x = rgF n c m (lm9 a b p) k f (r + 1) x) → (∀ x, x ≠ 205 → F' x = F x) → wp 221 132 [.ref 193, .int (Int32.ofNat a), .int (Int32.ofNat b), .int (Int32.ofNat p), .int a4, .int (Int32.ofNat m), .int a6, .int (Int32.ofNat k), .int a8, .int (Int32.ofNat r), .int a10] [] (hs t, F', G) Q := by
      intro F' a10 g1 g2
      refine rg221_132 ?_
      rw [show Int32.ofNat r + 1 = Int32.ofNat (r + 1) from nn_add r 1]
      exact ih (r + 1) F' _ (by omega) (fun x hx => by rw [g2 x hx, hf x hx]) g1 h
    have by9 : ∀ z : Nat, z = lk0 a b p r → wp 221 93 [.ref 193, .int (Int32.ofNat a), .int (Int32.ofNat b), .int (Int32.ofNat p), .int a4, .int (Int32.ofNat m), .int a6, .int (Int32.ofNat k), .int a8, .int (Int32.ofNat r), v10] [.int (Int32.ofNat z)] (hs t, F, G) Q := by
      intro z hz
      refine rg221_93 (sp144 (rg221_102 ⟨fun e => nxt F _ ?_ (fun _ _ => rfl), fun e => ⟨hv, fun e2 => nxt F _ ?_ (fun _ _ => rfl), fun e2 => ⟨hv, ?_⟩⟩⟩))
      · intro x hx
        rw [rgF, if_neg (fun q => bz_0.mp e (hbit.mpr q.1))]
        exact hrow x hx
      · intro x hx
        rw [nn_clamp (by omega), c6] at e2
        rw [rgF, if_neg (fun q => e2 q.2)]
        exact hrow x hx
      · have e1 := hbit.mp (bz_n0.mp e)
        rw [nn_clamp (by omega), c6] at e2
        obtain ⟨hk5, hke⟩ := kw_le hk (by omega) hk12 e2
        rw [nn_clamp (by omega), c0, hke, show Int32.ofNat z + 1 = Int32.ofNat (z + 1) from nn_add z 1]
        have hpm := rgF_pm (m := m) (mk := lm9 a b p) h4 h6 hk12 hk (lm_mk ha hb) hf0 r (by omega)
        have hzn : z < n := by
          rw [hz]
          unfold lk0
          split
          · exact hb
          · split
            · exact ha
            · omega
        refine sp178 h4 h6 hk5 (by rw [hf 193 (by decide), hb1]) (pm_agree (fun x hx => (hrow x hx).symm) hpm z hzn) (fun F' g1 g2 => nxt F' _ (fun x hx => ?_) g2)
        rw [g1, rgF, if_pos ⟨e1, e2⟩]
        rw [show lm9 a b p r = Int32.ofNat (z + 1) by unfold lm9; rw [hz]]
        exact (sp9_agree h4 h6 hk5 (hpm z hzn) (fun x hx => (hrow x hx).symm) x hx).symm
    have at73 : (¬ (r = a ∧ p.testBit 0 = true)) → wp 221 73 [.ref 193, .int (Int32.ofNat a), .int (Int32.ofNat b), .int (Int32.ofNat p), .int a4, .int (Int32.ofNat m), .int a6, .int (Int32.ofNat k), .int a8, .int (Int32.ofNat r), v10] [] (hs t, F, G) Q := by
      intro hn0
      refine rg221_73 ⟨fun e => by9 r ?_, fun e => sp144 (rg221_84 ⟨fun e1 => by9 r ?_, fun e1 => by9 a ?_⟩)⟩
      · unfold lk0
        rw [if_neg hn0, if_neg (fun z => e (by rw [z.1]))]
      · unfold lk0
        rw [if_neg hn0, if_neg (fun z => bz_0.mp e1 (p8.mpr z.2))]
      · unfold lk0
        rw [if_neg hn0, if_pos ⟨(nn_eq (by omega) (by omega)).mp e, p8.mp (bz_n0.mp e1)⟩]
    refine rg221_46 ⟨fun q => ?_, fun _ => ⟨fun e => at73 (fun z => e (by rw [z.1])), fun e => sp144 (rg221_66 ⟨fun e1 => at73 (fun z => bz_0.mp e1 (p7.mpr z.2)), fun e1 => by9 b ?_⟩)⟩⟩
    · rw [hf 193 (by decide), hb1] at q
      (simp (disch := omega) only [nn_lit, nn_m1, nn_add, nn_mul, nn_rem, nn_sub, nn_addm1, nn_lt, nn_le, nn_eq, nn_clamp, nn_in, nn_nem1, nn_m1ne, nn_ltm1, nn_m1lt, nn_m1le, nn_lem1, bz_0, bz_n0, not_false_eq_true, not_true_eq_false, true_and, and_true, false_and, and_false, false_implies, true_implies, forall_const, Nat.reduceMul, Nat.reduceAdd, Nat.reduceSub] at q <;> try simp only [nn_bk] at q)
      omega
    · unfold lk0
      rw [if_pos ⟨(nn_eq (by omega) (by omega)).mp e, p7.mp (bz_n0.mp e1)⟩]
theorem sp221 {F0 : ip_F} {a b p own : Nat} {ch c : Nat → Int32} (h4 : 4 ≤ n) (h6 : n ≤ 6) (ha : a < n) (hb : b < n) (hab : ¬ a = b) (hp : p < 4) (ho : own = a ∨ own = b) (hb1 : F0 193 1 = Int32.ofNat n) (hch : F0 195 = ch) (hc : mr9 F0 = c) (hk : KW9 n c) (hkd : ∀ r, r < n → kd9 (F0 198 r)) (h0 : ∀ q, q < n → ¬ c (6 + q) = Int32.ofNat 0) (h : ∀ F', (∀ x, x ≠ 205 → F' x = F0 x) → Q (some (.int (if own = a then wa9 (gA9 n ch c ((bf9 (mks c) n ||| 1 <<< a) ||| 1 <<< b) (lm9 a b p) own) p else wb9 (gA9 n ch c ((bf9 (mks c) n ||| 1 <<< a) ||| 1 <<< b) (lm9 a b p) own) p))) (hs t, F', G)) : wp 221 0 [.ref 193, .int (Int32.ofNat a), .int (Int32.ofNat b), .int (Int32.ofNat p), .int (Int32.ofNat own), .float 0, .float 0, .float 0, .float 0, .float 0, .float 0] [] (hs t, F0, G) Q := by
  have h1 : ∀ r : Fin 6, 1 <<< r.val < 64 := by decide
  have l0 := bf_lt (mks c) n h6
  have l1 := bt_lt _ _ l0 (h1 ⟨a, by omega⟩)
  have l2 := bt_lt _ _ l1 (h1 ⟨b, by omega⟩)
  dsimp only at l1 l2
  have hon : own < n := by omega
  refine rg221_0 (sp175 h6 hb1 hkd (rg221_4 ?_))
  rw [hc, bt_shl ⟨a, by omega⟩, bt_shl ⟨b, by omega⟩, bt_or ⟨_, l0⟩ ⟨_, h1 ⟨a, by omega⟩⟩]
  dsimp only
  rw [bt_or ⟨_, l1⟩ ⟨_, h1 ⟨b, by omega⟩⟩]
  generalize (bf9 (mks c) n ||| 1 <<< a) ||| 1 <<< b = m at *
  have eP0 : gP9 n ch c m (lm9 a b p) own 0 = false := by
    unfold gP9 ru9
    rw [rgF_id n h0, decide_eq_true rfl]
    rfl
  have loop : ∀ d k F v8 v9 v10, k + d = 12 → 1 ≤ k → (∀ x, x ≠ 205 → F x = F0 x) → wp 221 20 [.ref 193, .int (Int32.ofNat a), .int (Int32.ofNat b), .int (Int32.ofNat p), .int (Int32.ofNat own), .int (Int32.ofNat m), .int (Int32.ofNat (cn9 (gP9 n ch c m (lm9 a b p) own) k)), .int (Int32.ofNat k), v8, v9, v10] [] (hs t, F, G) Q := by
    intro d
    induction d with
    | zero =>
      intro k F v8 v9 v10 hk' hk1 hf
      obtain rfl : k = 12 := by omega
      have := h F hf
      refine rg221_20 ⟨fun _ => ⟨fun e => rg221_178 ?_, fun e => rg221_178 ?_⟩, fun q => absurd q (by decide)⟩
      · rw [if_neg (fun z => e (by rw [z]))] at this
        exact this
      · rw [if_pos ((nn_eq (by omega) (by omega)).mp e)] at this
        exact this
    | succ d ih =>
      intro k F v8 v9 v10 hk' hk1 hf
      have m0 : mr9 F = c := by rw [mr_eq (fun x hx _ => hf x hx), hc]
      refine rg221_20 ⟨fun q => ?_, fun _ => sp177 (c := ch) h4 h6 (by omega) (by rw [hf 193 (by decide), hb1]) (by rw [hf 195 (by decide), hch]) (fun F1 g1 g2 => rg221_33 ?_)⟩
      · exact absurd ((nn_le (a := 12) (by omega) (by omega)).mp q) (by omega)
      · have f1 : ∀ x, x ≠ 205 → F1 x = F0 x := fun x hx => by rw [g2 x hx, hf x hx]
        have pm1 : PM9 n (F1 205) := pm_agree (fun x hx => (g1 x hx).symm) (pm_mu (by omega) k)
        rw [show Int32.ofNat own + 1 = Int32.ofNat (own + 1) from nn_add own 1]
        refine sp220 h6 (pm1 own hon) (rg221_41 ?_)
        have e1 : fp9 (F1 205) (Int32.ofNat (own + 1)) n 0 = fp9 (mu9 n ch k) (Int32.ofNat (own + 1)) n 0 := fp_agree g1 n 0 (by omega)
        have q1 := (fp_in (n := n) (f := F1 205) (b := Int32.ofNat (own + 1)) n 0 (by omega) (by obtain ⟨y, y1, y2⟩ := pm1 own hon; exact ⟨y, by omega, y1, y2⟩)).1
        rw [e1] at q1 ⊢
        have key := sp221_46 (t := t) (G := G) (Q := Q) (F0 := F1) (a := a) (b := b) (p := p) (own := own) (m := m) (k := k) (c := c) (f := mu9 n ch k) (a4 := Int32.ofNat own) (a6 := Int32.ofNat (cn9 (gP9 n ch c m (lm9 a b p) own) k)) (a8 := Int32.ofNat (fp9 (mu9 n ch k) (Int32.ofNat (own + 1)) n 0)) h4 h6 l2 ha hb hp (by omega) (by rw [f1 193 (by decide), hb1]) (by rw [mr_eq (fun x hx _ => g2 x hx), m0]) hk (pm_mu (by omega) k) n 0 F1 v10 (by omega) (fun _ _ => rfl) g1
        refine key (fun F2 v10 g3 g4 => ?_)
        have pm2 : PM9 n (F2 205) := pm_agree (fun x hx => (g4 x hx).symm) (rgF_pm h4 h6 (by omega) hk (lm_mk ha hb) (pm_mu (by omega) k) n (by omega))
        have e2 : fp9 (F2 205) (Int32.ofNat (own + 1)) n 0 = fp9 (ru9 n ch c m (lm9 a b p) k) (Int32.ofNat (own + 1)) n 0 := fp_agree g4 n 0 (by omega)
        have q2 := (fp_in (n := n) (f := F2 205) (b := Int32.ofNat (own + 1)) n 0 (by omega) (by obtain ⟨y, y1, y2⟩ := pm2 own hon; exact ⟨y, by omega, y1, y2⟩)).1
        rw [e2] at q2
        have h3 := ih (k + 1) F2
        rw [cn9] at h3
        have fin : ∀ z : Nat, z = (if gP9 n ch c m (lm9 a b p) own k = true then 1 else 0) → wp 221 158 [.ref 193, .int (Int32.ofNat a), .int (Int32.ofNat b), .int (Int32.ofNat p), .int (Int32.ofNat own), .int (Int32.ofNat m), .int (Int32.ofNat (cn9 (gP9 n ch c m (lm9 a b p) own) k)), .int (Int32.ofNat k), .int (Int32.ofNat (fp9 (mu9 n ch k) (Int32.ofNat (own + 1)) n 0)), .int (Int32.ofNat n), v10] [.int (Int32.ofNat z), .int (Int32.ofNat (cn9 (gP9 n ch c m (lm9 a b p) own) k))] (hs t, F2, G) Q := by
          intro z hz
          refine rg221_158 ?_
          rw [nn_add, show Int32.ofNat k + 1 = Int32.ofNat (k + 1) from nn_add k 1, hz]
          exact h3 _ _ _ (by omega) (by omega) (fun x hx => by rw [g3 x hx, f1 x hx])
        rw [show Int32.ofNat own + 1 = Int32.ofNat (own + 1) from nn_add own 1]
        refine sp220 h6 (pm2 own hon) ?_
        rw [e2]
        refine rg221_148 ⟨fun e => fin 0 ?_, fun e => fin 1 ?_⟩
        · have e4 := (nn_eq (by omega) (by omega)).mp e
          unfold gP9
          rw [decide_eq_true e4]
          rfl
        · have e4 : ¬ fp9 (ru9 n ch c m (lm9 a b p) k) (Int32.ofNat (own + 1)) n 0 = fp9 (mu9 n ch k) (Int32.ofNat (own + 1)) n 0 := fun q => e (by rw [q])
          unfold gP9
          rw [decide_eq_false e4]
          rfl
  have l := loop 11 1 F0 (.float 0) (.float 0) (.float 0) rfl (by omega) (fun _ _ => rfl)
  rw [show cn9 (gP9 n ch c m (lm9 a b p) own) 1 = 0 by rw [cn9, eP0]; rfl] at l
  exact l
theorem rs_eq {ga gb : Nat → Nat} (hA : ∀ p, ga p ≤ 12) (hB : ∀ p, gb p ≤ 12) {p : Nat} (hp : p < 4) : rs9 ga gb p = (decide (wa9 (ga (p ^^^ 1)) (p ^^^ 1) ≤ wa9 (ga p) p) && decide (wb9 (gb (p ^^^ 2)) (p ^^^ 2) ≤ wb9 (gb p) p)) := by
  have h1 := (vw_all ⟨ga p, by have := hA p; omega⟩ ⟨ga (p ^^^ 1), by have := hA (p ^^^ 1); omega⟩ ⟨p, hp⟩).1
  have h2 := (vw_all ⟨gb p, by have := hB p; omega⟩ ⟨gb (p ^^^ 2), by have := hB (p ^^^ 2); omega⟩ ⟨p, hp⟩).2
  dsimp only at h1 h2
  unfold rs9
  rw [decide_eq_decide.mpr h1, decide_eq_decide.mpr h2]
theorem sp222_56 {F0 : ip_F} {a b : Nat} {ch c : Nat → Int32} (h4 : 4 ≤ n) (h6 : n ≤ 6) (ha : a < n) (hb : b < n) (hab : ¬ a = b) (hb1 : F0 193 1 = Int32.ofNat n) (hch : F0 195 = ch) (hc : mr9 F0 = c) (hk : KW9 n c) (hkd : ∀ r, r < n → kd9 (F0 198 r)) (h0 : ∀ q, q < n → ¬ c (6 + q) = Int32.ofNat 0) (h : ∀ F', (∀ x, x ≠ 205 → F' x = F0 x) → Q (some (.int (Int32.ofNat (bf9 (rs9 (fun q => gA9 n ch c ((bf9 (mks c) n ||| 1 <<< a) ||| 1 <<< b) (lm9 a b q) a) (fun q => gA9 n ch c ((bf9 (mks c) n ||| 1 <<< a) ||| 1 <<< b) (lm9 a b q) b)) 4)))) (hs t, F', G)) : ∀ d p F v5, p + d = 4 → (∀ x, x ≠ 205 → F x = F0 x) → wp 222 56 [.ref 193, .int (Int32.ofNat a), .int (Int32.ofNat b), .int (Int32.ofNat (bf9 (rs9 (fun q => gA9 n ch c ((bf9 (mks c) n ||| 1 <<< a) ||| 1 <<< b) (lm9 a b q) a) (fun q => gA9 n ch c ((bf9 (mks c) n ||| 1 <<< a) ||| 1 <<< b) (lm9 a b q) b)) p)), .int (Int32.ofNat p), v5] [] (hs t, F, G) Q := by
  intro d
  induction d with
  | zero =>
    intro p F v5 hp hf
    obtain rfl : p = 4 := by omega
    exact rg222_56 ⟨fun _ => h F hf, fun q => absurd q (by decide)⟩
  | succ d ih =>
    intro p F v5 hp hf
    obtain ⟨-, -, p3, p4, p5, p6, -⟩ := pd_all ⟨p, by omega⟩
    dsimp only at p3 p4 p5 p6
    have gets : ∀ (F1 : ip_F) (p' own : Nat) {Q1 : Option Value → ip_M → Prop}, (∀ x, x ≠ 205 → F1 x = F0 x) → p' < 4 → (own = a ∨ own = b) → (∀ F', (∀ x, x ≠ 205 → F' x = F0 x) → Q1 (some (.int (if own = a then wa9 (gA9 n ch c ((bf9 (mks c) n ||| 1 <<< a) ||| 1 <<< b) (lm9 a b p') own) p' else wb9 (gA9 n ch c ((bf9 (mks c) n ||| 1 <<< a) ||| 1 <<< b) (lm9 a b p') own) p'))) (hs t, F', G)) → wp 221 0 [.ref 193, .int (Int32.ofNat a), .int (Int32.ofNat b), .int (Int32.ofNat p'), .int (Int32.ofNat own), .float 0, .float 0, .float 0, .float 0, .float 0, .float 0] [] (hs t, F1, G) Q1 := by
      intro F1 p' own Q1 f1 hp' ho hQ
      have m1 : mr9 F1 = c := by rw [mr_eq (fun x hx _ => f1 x hx), hc]
      exact sp221 (ch := ch) (c := c) h4 h6 ha hb hab hp' ho (by rw [f1 193 (by decide), hb1]) (by rw [f1 195 (by decide), hch]) m1 hk (fun r hr => by rw [f1 198 (by decide)]; exact hkd r hr) h0 (fun F' k1 => hQ F' (fun x hx => by rw [k1 x hx, f1 x hx]))
    have hba : ¬ b = a := fun q => hab q.symm
    generalize hm : (bf9 (mks c) n ||| 1 <<< a) ||| 1 <<< b = m at *
    have hrs := rs_eq (ga := fun q => gA9 n ch c m (lm9 a b q) a) (gb := fun q => gA9 n ch c m (lm9 a b q) b) (fun _ => gA_le) (fun _ => gA_le) (show p < 4 by omega)
    have fin : ∀ F1, (∀ x, x ≠ 205 → F1 x = F0 x) → ∀ z, z = bz (rs9 (fun q => gA9 n ch c m (lm9 a b q) a) (fun q => gA9 n ch c m (lm9 a b q) b) p = true) → wp 222 113 [.ref 193, .int (Int32.ofNat a), .int (Int32.ofNat b), .int (Int32.ofNat (bf9 (rs9 (fun q => gA9 n ch c m (lm9 a b q) a) (fun q => gA9 n ch c m (lm9 a b q) b)) p)), .int (Int32.ofNat p), v5] [.int z] (hs t, F1, G) Q := by
      intro F1 f1 z hz
      subst hz
      have e0 := @bf_step (rs9 (fun q => gA9 n ch c m (lm9 a b q) a) (fun q => gA9 n ch c m (lm9 a b q) b)) p (by omega)
      refine rg222_113 ⟨fun e => rg222_129 ?_, fun e => rg222_129 ?_⟩
      · rw [e0 (z := 0) (by rw [if_neg (bz_0.mp e)]), show Int32.ofNat p + 1 = Int32.ofNat (p + 1) from nn_add p 1]
        exact ih (p + 1) F1 _ (by omega) f1
      · rw [e0 (by rw [if_pos (bz_n0.mp e)]), show Int32.ofNat p + 1 = Int32.ofNat (p + 1) from nn_add p 1]
        exact ih (p + 1) F1 _ (by omega) f1
    refine rg222_56 ⟨fun q => ?_, fun _ => gets F p a hf (by omega) (Or.inl rfl) (fun F1 f1 => rg222_71 ?_)⟩
    · exact absurd ((nn_le (a := 4) (by omega) (by omega)).mp q) (by omega)
    · rw [if_pos rfl, p3]
      refine gets F1 (p ^^^ 1) a f1 p5 (Or.inl rfl) (fun F2 f2 => rg222_82 ?_)
      rw [if_pos rfl]
      refine ⟨fun e => fin F2 f2 _ ?_, fun e => gets F2 p b f2 (by omega) (Or.inr rfl) (fun F3 f3 => rg222_94 ?_)⟩
      · rw [bz_f (by rw [hrs]; simp only [Bool.and_eq_true, decide_eq_true_eq]; exact fun q => absurd q.1 (Int32.not_le.mpr e))]
      · rw [if_neg hba, p4]
        refine gets F3 (p ^^^ 2) b f3 p6 (Or.inr rfl) (fun F4 f4 => rg222_105 ?_)
        rw [if_neg hba]
        refine ⟨fun e1 => fin F4 f4 _ ?_, fun e1 => fin F4 f4 _ ?_⟩
        · rw [bz_f (by rw [hrs]; simp only [Bool.and_eq_true, decide_eq_true_eq]; exact fun q => absurd q.2 (Int32.not_le.mpr e1))]
        · rw [bz_t (by rw [hrs]; simp only [Bool.and_eq_true, decide_eq_true_eq]; exact ⟨e, e1⟩)]
theorem gA_congr {m own : Nat} {ch ch' c c' mk : Nat → Int32} (hn : n ≤ 6) (hch : ∀ i, i < 6 → ch i = ch' i) (h : SR9 n c c') : gA9 n ch c m mk own = gA9 n ch' c' m mk own := by
  unfold gA9
  refine cn_congr 12 (fun k _ => ?_)
  unfold gP9 ru9
  rw [mu_congr hch, rgF_congr hn h n (by omega)]
theorem pr_lends {F : ip_F} {a b : Int32} (hI : INV t F G) : wp 120 0 [.ref 0, .int a, .int b] [] (hs t, F, G) (fun v M => wp 222 0 [.ref 193, .int a, .int b, .float 0, .float 0, .float 0] [] M (ENi v)) := by
  obtain ⟨n, ⟨h4, h6, b1, b2, b3⟩, hP, hR⟩ := hI.2.1
  have eb : ∀ (i : Nat) (x : Int32), ip_u F 192 i x 193 1 = Int32.ofNat n := fun i x => by rw [u_n (by decide), b2]
  by_cases ha : IR9 n a
  · by_cases hb : IR9 n b
    · by_cases hab : a = b
      · refine rg120_0 (sp130n (by omega) b1 ?_)
        rw [bz_t ha]
        refine rg120_5 ⟨fun q => absurd q (by decide), fun _ => sp130n (by omega) b1 ?_⟩
        rw [bz_t hb]
        refine rg120_13 ⟨fun q => absurd q (by decide), fun _ => ⟨fun q => absurd hab q, fun _ => rg120_21 (sp133b (rg120_27 ?_))⟩⟩
        refine rg222_0 (sp150n (by omega) (eb _ _) ?_)
        rw [bz_t ha]
        refine rg222_5 ⟨fun q => absurd q (by decide), fun _ => sp150n (by omega) (eb _ _) ?_⟩
        rw [bz_t hb]
        exact rg222_13 ⟨fun q => absurd q (by decide), fun _ => ⟨fun q => absurd hab q, fun _ => rg222_21 (rg140_0 (rg222_25 (en_bad hI)))⟩⟩
      · obtain ⟨x, hx, rfl⟩ := ir_of (by omega) h6 ha
        obtain ⟨y, hy, rfl⟩ := ir_of (by omega) h6 hb
        have hxy : ¬ x = y := fun q => hab (by rw [q])
        have vx : vp_in (Int32.ofNat x) 6 := (nn_in (by omega)).mpr (by omega)
        have vy : vp_in (Int32.ofNat y) 6 := (nn_in (by omega)).mpr (by omega)
        have ex : F 196 x = F 4 x := by rw [hP.1 x (by omega), mr_0 (by omega)]
        have ey : F 196 y = F 4 y := by rw [hP.1 y (by omega), mr_0 (by omega)]
        have cls : ∀ {Q1 : Option Value → ip_M → Prop}, wp 71 0 [.ref 3, .int (Int32.ofNat x)] [] (hs t, F, G) (fun v M' => wp 120 39 [.ref 0, .int (Int32.ofNat x), .int (Int32.ofNat y)] (v.toList ++ []) M' Q1) → wp 120 0 [.ref 0, .int (Int32.ofNat x), .int (Int32.ofNat y)] [] (hs t, F, G) Q1 := by
          intro Q1 hk
          refine rg120_0 (sp130n (by omega) b1 ?_)
          rw [bz_t ha]
          refine rg120_5 ⟨fun q => absurd q (by decide), fun _ => sp130n (by omega) b1 ?_⟩
          rw [bz_t hb]
          exact rg120_13 ⟨fun q => absurd q (by decide), fun _ => ⟨fun _ => hk, fun q => absurd q hab⟩⟩
        have mdl : ∀ (F1 : ip_F) {Q1 : Option Value → ip_M → Prop}, F1 193 1 = Int32.ofNat n → F1 196 = F 196 → (F 4 x = -1 → wp 222 46 [.ref 193, .int (Int32.ofNat x), .int (Int32.ofNat y), .float 0, .float 0, .float 0] [] (hs t, F1, G) Q1) → (¬ F 4 x = -1 → F 4 y = -1 → wp 222 46 [.ref 193, .int (Int32.ofNat x), .int (Int32.ofNat y), .float 0, .float 0, .float 0] [] (hs t, F1, G) Q1) → (¬ F 4 x = -1 → ¬ F 4 y = -1 → wp 222 56 [.ref 193, .int (Int32.ofNat x), .int (Int32.ofNat y), .int 0, .int 0, .float 0] [] (hs t, F1, G) Q1) → wp 222 0 [.ref 193, .int (Int32.ofNat x), .int (Int32.ofNat y), .float 0, .float 0, .float 0] [] (hs t, F1, G) Q1 := by
          intro F1 Q1 e1 e2 k1 k2 k3
          refine rg222_0 (sp150n (by omega) e1 ?_)
          rw [bz_t ha]
          refine rg222_5 ⟨fun q => absurd q (by decide), fun _ => sp150n (by omega) e1 ?_⟩
          rw [bz_t hb]
          refine rg222_13 ⟨fun q => absurd q (by decide), fun _ => ⟨fun _ => ⟨vx, ?_⟩, fun q => absurd q hab⟩⟩
          rw [nn_clamp (by omega), e2, ex, nn_clamp (by omega), ey]
          exact ⟨k1, fun z => ⟨vy, fun z2 => k3 z z2, fun z2 => k2 z z2⟩⟩
        refine cls (sp71 (ok7_3 t) (by omega) (rg120_39 ⟨fun e => rg120_56 (sp133n (rg120_62 ?_)), fun e => sp71 (ok7_3 t) (by omega) (rg120_53 ⟨fun e1 => ?_, fun e1 => rg120_56 (sp133n (rg120_62 ?_))⟩)⟩))
        · have e : F 4 x = -1 := by
            have : ¬ hsl (F 4) x = true := bz_0.mp e
            simpa [hsl] using this
          refine mdl _ (eb _ _) (u_n (by decide)) (fun _ => rg222_46 (rg141_0 (rg222_50 (en_no hI)))) (fun z => absurd e z) (fun z => absurd e z)
        · have e : ¬ F 4 x = -1 := fun q => by
            have : hsl (F 4) x = true := bz_n0.mp e
            simp [hsl, q] at this
          have e1 : ¬ F 4 y = -1 := fun q => by
            have : hsl (F 4) y = true := bz_n0.mp e1
            simp [hsl, q] at this
          refine sp59 h4 h6 b1 hx hy hxy hP.2 (fun F1 hf => rg120_76 ?_)
          have f1 : ∀ z, nqc z → F1 z = F z := fun z hz => hf z (npl_q hz) (by unfold nqc at hz; omega) (by unfold nqc at hz; omega)
          have m1 : mr9 F1 = mr9 F := mr_q (fun z hz _ => f1 z hz)
          have hP1 : NP9 n F1 := np_fr hP (f1 4 (by decide)) m1
          refine mdl F1 (by rw [f1 193 (by decide), b2]) (f1 196 (by decide)) (fun z => absurd z e) (fun _ z => absurd z e1) (fun _ _ => ?_)
          refine sp222_56 (ch := F1 195) (c := mr9 F1) (F0 := F1) h4 h6 hx hy hxy (by rw [f1 193 (by decide), b2]) rfl rfl (kw_m h6 hP1) (kd_of h6 hP1) (fun q hq => ?_) (fun F2 k2 => en_i (inv_fr hI (fun z h1 h2 => by rw [k2 z h2.1, f1 z h1])) ?_) 4 0 F1 _ rfl (fun _ _ => rfl)
          · rw [m1, ← hP.1 (6 + q) (by omega)]
            exact wr_r0 hP.2 (by omega)
          · rw [m1, f1 195 (by decide), ← md_eq h6 hP.2 hP.1]
            congr 2
            congr 1
            · funext q
              exact gA_congr h6 b3 hP.1
            · funext q
              exact gA_congr h6 b3 hP.1
        · have e : ¬ F 4 x = -1 := fun q => by
            have : hsl (F 4) x = true := bz_n0.mp e
            simp [hsl, q] at this
          have e1 : F 4 y = -1 := by
            have : ¬ hsl (F 4) y = true := bz_0.mp e1
            simpa [hsl] using this
          exact mdl _ (eb _ _) (u_n (by decide)) (fun z => absurd z e) (fun _ _ => rg222_46 (rg141_0 (rg222_50 (en_no hI)))) (fun _ z => absurd e1 z)
    · refine rg120_0 (sp130n (by omega) b1 ?_)
      rw [bz_t ha]
      refine rg120_5 ⟨fun q => absurd q (by decide), fun _ => sp130n (by omega) b1 ?_⟩
      rw [bz_f hb]
      refine rg120_13 ⟨fun _ => rg120_21 (sp133b (rg120_27 ?_)), fun q => absurd rfl q⟩
      refine rg222_0 (sp150n (by omega) (eb _ _) ?_)
      rw [bz_t ha]
      refine rg222_5 ⟨fun q => absurd q (by decide), fun _ => sp150n (by omega) (eb _ _) ?_⟩
      rw [bz_f hb]
      exact rg222_13 ⟨fun _ => rg222_21 (rg140_0 (rg222_25 (en_bad hI))), fun q => absurd rfl q⟩
  · refine rg120_0 (sp130n (by omega) b1 ?_)
    rw [bz_f ha]
    refine rg120_5 ⟨fun _ => rg120_21 (sp133b (rg120_27 ?_)), fun q => absurd rfl q⟩
    refine rg222_0 (sp150n (by omega) (eb _ _) ?_)
    rw [bz_f ha]
    exact rg222_5 ⟨fun _ => rg222_21 (rg140_0 (rg222_25 (en_bad hI))), fun q => absurd rfl q⟩
end SP
