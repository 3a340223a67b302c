/-! ===== what a slip, what a ringer is ===== -/
def nf9 (g : Nat → Nat → Int32) (r : Int32) (k : Nat) : Nat → Bool
  | 0 => true
  | j + 1 => nf9 g r k j && (!decide (g j 0 = r) || decide (pt9 (Int32.ofNat k) (g j 1) 6 = g j 2))
def mf9 (g : Nat → Nat → Int32) (r : Int32) (k : Nat) : Nat → Bool
  | 0 => true
  | j + 1 => mf9 g r k j && (!decide (g j 0 = r) || decide (bz (mk9 (Int32.ofNat k) (g j 1) (g j 2) = true) = g j 3))
theorem nf_congr {g g' : Nat → Nat → Int32} {r : Int32} {k : Nat} : ∀ u, (∀ j, j < u → ∀ i, i < 3 → g j i = g' j i) → nf9 g r k u = nf9 g' r k u
  | 0, _ => rfl
  | u + 1, h => by rw [nf9, nf9, nf_congr u (fun j hj => h j (by omega)), h u (by omega) 0 (by omega), h u (by omega) 1 (by omega), h u (by omega) 2 (by omega)]
theorem mf_congr {g g' : Nat → Nat → Int32} {r : Int32} {k : Nat} : ∀ u, (∀ j, j < u → ∀ i, i < 4 → g j i = g' j i) → mf9 g r k u = mf9 g' r k u
  | 0, _ => rfl
  | u + 1, h => by rw [mf9, mf9, mf_congr u (fun j hj => h j (by omega)), h u (by omega) 0 (by omega), h u (by omega) 1 (by omega), h u (by omega) 2 (by omega), h u (by omega) 3 (by omega)]
theorem b3_t {p q r : Bool} (h : p = true) (h2 : q = false ∨ r = true) : (p && (!q || r)) = true := by
  subst h
  rcases h2 with rfl | rfl
  · rfl
  · cases q <;> rfl
theorem b3_f {p q r : Bool} (h : p = false ∨ (q = true ∧ r = false)) : (p && (!q || r)) = false := by
  rcases h with rfl | ⟨rfl, rfl⟩
  · rfl
  · cases p <;> rfl
section SP
variable {t : Nat} {F : ip_F} {G : ip_G} {Q : Option Value → ip_M → Prop} {n : Nat}
theorem bz_b {p : Bool} (h : p = true) : bz (p = true) = 1 := bz_t h
theorem bz_c {p : Bool} (h : p = false) : bz (p = true) = 0 := bz_f (by rw [h]; exact Bool.false_ne_true)
theorem sp9_16 {u k B : Nat} {r : Int32} (hu : u ≤ 6) (hu2 : F 17 1 = Int32.ofNat u) (h : ∀ a4 a5 v6, a4 = bz (nf9 (fun j i => F 18 (4 * j + i)) r k u = true) → wp 9 94 [.ref 17, .int r, .int (Int32.ofNat B), .int (Int32.ofNat k), .int a4, .int a5, v6] [.int (if nf9 (fun j i => F 18 (4 * j + i)) r k u = true then (1 : Int32) <<< (Int32.ofNat k &&& 31) else 0), .int (Int32.ofNat B)] (hs t, F, G) Q) : ∀ d j v6, j + d = u → wp 9 16 [.ref 17, .int r, .int (Int32.ofNat B), .int (Int32.ofNat k), .int (bz (nf9 (fun j i => F 18 (4 * j + i)) r k j = true)), .int (Int32.ofNat j), v6] [] (hs t, F, G) Q := by
  have k17 : ok4 t 17 := ⟨rfl, rfl⟩
  intro d
  induction d with
  | zero =>
    intro j v6 hj
    obtain rfl : j = u := by omega
    refine rg9_16 ⟨fun _ => ⟨fun e => ?_, fun e => ?_⟩, fun q => ?_⟩
    · have := h _ (Int32.ofNat j) v6 rfl
      rwa [if_neg (bz_0.mp e)] at this
    · have := h _ (Int32.ofNat j) v6 rfl
      rwa [if_pos (bz_n0.mp e)] at this
    · rw [hu2] at q
      (simp (disch := omega) only [nn_lit, nn_m1, nn_add, nn_mul, nn_rem, nn_sub, nn_addm1, nn_lt, nn_le, nn_eq, nn_clamp, nn_in, nn_nem1, nn_m1ne, nn_ltm1, nn_m1lt, nn_m1le, nn_lem1, bz_0, bz_n0, not_false_eq_true, not_true_eq_false, true_and, and_true, false_and, and_false, false_implies, true_implies, forall_const, Nat.reduceMul, Nat.reduceAdd, Nat.reduceSub] at q <;> try simp only [nn_bk] at q)
      omega
  | succ d ih =>
    intro j v6 hj
    have e0 : nf9 (fun j i => F 18 (4 * j + i)) r k (j + 1) = (nf9 (fun j i => F 18 (4 * j + i)) r k j && (!decide (F 18 (4 * j) = r) || decide (pt9 (Int32.ofNat k) (F 18 (4 * j + 1)) 6 = F 18 (4 * j + 2)))) := rfl
    have next : ∀ z a6, z = bz (nf9 (fun j i => F 18 (4 * j + i)) r k (j + 1) = true) → wp 9 73 [.ref 17, .int r, .int (Int32.ofNat B), .int (Int32.ofNat k), .int (bz (nf9 (fun j i => F 18 (4 * j + i)) r k j = true)), .int (Int32.ofNat j), .int a6] [.int z] (hs t, F, G) Q := by
      intro z a6 hz
      refine rg9_73 ?_
      rw [hz, show Int32.ofNat j + 1 = Int32.ofNat (j + 1) from nn_add j 1]
      exact ih (j + 1) _ (by omega)
    refine rg9_16 ⟨fun q => ?_, fun _ => sp47 k17 hu hu2 (by omega) (j := 1) (by omega) (rg9_33 (sp82 (rg9_38 ⟨fun e => next _ _ ?_, fun e => sp47 k17 hu hu2 (by omega) (j := 0) (by omega) (rg9_52 ⟨fun e1 => next _ _ ?_, fun e1 => sp47 k17 hu hu2 (by omega) (j := 2) (by omega) (rg9_65 ⟨fun e2 => next _ _ ?_, fun e2 => next _ _ ?_⟩)⟩)⟩)))⟩
    · rw [hu2] at q
      (simp (disch := omega) only [nn_lit, nn_m1, nn_add, nn_mul, nn_rem, nn_sub, nn_addm1, nn_lt, nn_le, nn_eq, nn_clamp, nn_in, nn_nem1, nn_m1ne, nn_ltm1, nn_m1lt, nn_m1le, nn_lem1, bz_0, bz_n0, not_false_eq_true, not_true_eq_false, true_and, and_true, false_and, and_false, false_implies, true_implies, forall_const, Nat.reduceMul, Nat.reduceAdd, Nat.reduceSub] at q <;> try simp only [nn_bk] at q)
      omega
    · rw [bz_c (by rw [e0]; exact b3_f (Or.inl (Bool.eq_false_iff.mpr (bz_0.mp e))))]
    · rw [bz_b (by rw [e0]; exact b3_t (bz_n0.mp e) (Or.inl (decide_eq_false e1)))]
    · rw [bz_c (by rw [e0]; exact b3_f (Or.inr ⟨decide_eq_true e1, decide_eq_false e2⟩))]
    · rw [bz_b (by rw [e0]; exact b3_t (bz_n0.mp e) (Or.inr (decide_eq_true e2)))]
theorem sk9 {u : Nat} {r : Int32} (hu : u ≤ 6) (hu2 : F 17 1 = Int32.ofNat u) (h : Q (some (.int (Int32.ofNat (bf9 (fun k => nf9 (fun j i => F 18 (4 * j + i)) r k u) 6)))) (hs t, F, G)) : wp 9 0 [.ref 17, .int r, .float 0, .float 0, .float 0, .float 0, .float 0] [] (hs t, F, G) Q := by
  have loop : ∀ d k v4 v5 v6, k + d = 6 → wp 9 4 [.ref 17, .int r, .int (Int32.ofNat (bf9 (fun k => nf9 (fun j i => F 18 (4 * j + i)) r k u) k)), .int (Int32.ofNat k), v4, v5, v6] [] (hs t, F, G) Q := by
    intro d
    induction d with
    | zero =>
      intro k v4 v5 v6 hk
      obtain rfl : k = 6 := by omega
      exact rg9_4 ⟨fun _ => h, fun q => absurd q (by decide)⟩
    | succ d ih =>
      intro k v4 v5 v6 hk
      refine rg9_4 ⟨fun q => ?_, fun _ => sp9_16 hu hu2 (fun a4 a5 v6 _ => rg9_94 ?_) u 0 _ (by omega)⟩
      · (simp (disch := omega) only [nn_lit, nn_m1, nn_add, nn_mul, nn_rem, nn_sub, nn_addm1, nn_lt, nn_le, nn_eq, nn_clamp, nn_in, nn_nem1, nn_m1ne, nn_ltm1, nn_m1lt, nn_m1le, nn_lem1, bz_0, bz_n0, not_false_eq_true, not_true_eq_false, true_and, and_true, false_and, and_false, false_implies, true_implies, forall_const, Nat.reduceMul, Nat.reduceAdd, Nat.reduceSub] at q <;> try simp only [nn_bk] at q)
        omega
      · rw [bf_step (P := fun k => nf9 (fun j i => F 18 (4 * j + i)) r k u) (r := k) (by omega) rfl, show Int32.ofNat k + 1 = Int32.ofNat (k + 1) from nn_add k 1]
        exact ih (k + 1) _ _ _ (by omega)
  exact rg9_0 (loop 6 0 _ _ _ rfl)
theorem sp12_16 {u k B : Nat} {r : Int32} (hu : u ≤ 6) (hu2 : F 19 1 = Int32.ofNat u) (h : ∀ a4 a5 v6, a4 = bz (mf9 (fun j i => F 20 (4 * j + i)) r k u = true) → wp 12 107 [.ref 19, .int r, .int (Int32.ofNat B), .int (Int32.ofNat k), .int a4, .int a5, v6] [.int (if mf9 (fun j i => F 20 (4 * j + i)) r k u = true then (1 : Int32) <<< (Int32.ofNat k &&& 31) else 0), .int (Int32.ofNat B)] (hs t, F, G) Q) : ∀ d j v6, j + d = u → wp 12 16 [.ref 19, .int r, .int (Int32.ofNat B), .int (Int32.ofNat k), .int (bz (mf9 (fun j i => F 20 (4 * j + i)) r k j = true)), .int (Int32.ofNat j), v6] [] (hs t, F, G) Q := by
  have k19 : ok4 t 19 := ⟨rfl, rfl⟩
  intro d
  induction d with
  | zero =>
    intro j v6 hj
    obtain rfl : j = u := by omega
    refine rg12_16 ⟨fun _ => ⟨fun e => ?_, fun e => ?_⟩, fun q => ?_⟩
    · have := h _ (Int32.ofNat j) v6 rfl
      rwa [if_neg (bz_0.mp e)] at this
    · have := h _ (Int32.ofNat j) v6 rfl
      rwa [if_pos (bz_n0.mp e)] at this
    · rw [hu2] at q
      (simp (disch := omega) only [nn_lit, nn_m1, nn_add, nn_mul, nn_rem, nn_sub, nn_addm1, nn_lt, nn_le, nn_eq, nn_clamp, nn_in, nn_nem1, nn_m1ne, nn_ltm1, nn_m1lt, nn_m1le, nn_lem1, bz_0, bz_n0, not_false_eq_true, not_true_eq_false, true_and, and_true, false_and, and_false, false_implies, true_implies, forall_const, Nat.reduceMul, Nat.reduceAdd, Nat.reduceSub] at q <;> try simp only [nn_bk] at q)
      omega
  | succ d ih =>
    intro j v6 hj
    have e0 : mf9 (fun j i => F 20 (4 * j + i)) r k (j + 1) = (mf9 (fun j i => F 20 (4 * j + i)) r k j && (!decide (F 20 (4 * j) = r) || decide (bz (mk9 (Int32.ofNat k) (F 20 (4 * j + 1)) (F 20 (4 * j + 2)) = true) = F 20 (4 * j + 3)))) := rfl
    have next : ∀ z a6, z = bz (mf9 (fun j i => F 20 (4 * j + i)) r k (j + 1) = true) → wp 12 86 [.ref 19, .int r, .int (Int32.ofNat B), .int (Int32.ofNat k), .int (bz (mf9 (fun j i => F 20 (4 * j + i)) r k j = true)), .int (Int32.ofNat j), .int a6] [.int z] (hs t, F, G) Q := by
      intro z a6 hz
      refine rg12_86 ?_
      rw [hz, show Int32.ofNat j + 1 = Int32.ofNat (j + 1) from nn_add j 1]
      exact ih (j + 1) _ (by omega)
    have mid : ∀ z, z = bz (mk9 (Int32.ofNat k) (F 20 (4 * j + 1)) (F 20 (4 * j + 2)) = true) → wp 12 51 [.ref 19, .int r, .int (Int32.ofNat B), .int (Int32.ofNat k), .int (bz (mf9 (fun j i => F 20 (4 * j + i)) r k j = true)), .int (Int32.ofNat j), v6] [.int z] (hs t, F, G) Q := by
      intro z hz
      refine rg12_51 ⟨fun e => next _ _ ?_, fun e => sp47 k19 hu hu2 (by omega) (j := 0) (by omega) (rg12_65 ⟨fun e1 => next _ _ ?_, fun e1 => sp47 k19 hu hu2 (by omega) (j := 3) (by omega) (rg12_78 ⟨fun e2 => next _ _ ?_, fun e2 => next _ _ ?_⟩)⟩)⟩
      · rw [bz_c (by rw [e0]; exact b3_f (Or.inl (Bool.eq_false_iff.mpr (bz_0.mp e))))]
      · rw [bz_b (by rw [e0]; exact b3_t (bz_n0.mp e) (Or.inl (decide_eq_false e1)))]
      · rw [bz_c (by rw [e0]; exact b3_f (Or.inr ⟨decide_eq_true e1, decide_eq_false (by rw [← hz]; exact e2)⟩))]
      · rw [bz_b (by rw [e0]; exact b3_t (bz_n0.mp e) (Or.inr (decide_eq_true (by rw [← hz]; exact e2))))]
    refine rg12_16 ⟨fun q => ?_, fun _ => sp47 k19 hu hu2 (by omega) (j := 1) (by omega) (rg12_33 (sp47 k19 hu hu2 (by omega) (j := 2) (by omega) (rg12_40 (sp51 (rg12_43 ⟨fun e => mid _ ?_, fun e => mid _ ?_⟩)))))⟩
    · rw [hu2] at q
      (simp (disch := omega) only [nn_lit, nn_m1, nn_add, nn_mul, nn_rem, nn_sub, nn_addm1, nn_lt, nn_le, nn_eq, nn_clamp, nn_in, nn_nem1, nn_m1ne, nn_ltm1, nn_m1lt, nn_m1le, nn_lem1, bz_0, bz_n0, not_false_eq_true, not_true_eq_false, true_and, and_true, false_and, and_false, false_implies, true_implies, forall_const, Nat.reduceMul, Nat.reduceAdd, Nat.reduceSub] at q <;> try simp only [nn_bk] at q)
      omega
    · rw [bz_f (bz_0.mp e)]
    · rw [bz_t (bz_n0.mp e)]
theorem sp12 {u : Nat} {r : Int32} (hu : u ≤ 6) (hu2 : F 19 1 = Int32.ofNat u) (h : Q (some (.int (Int32.ofNat (bf9 (fun k => mf9 (fun j i => F 20 (4 * j + i)) r k u) 6)))) (hs t, F, G)) : wp 12 0 [.ref 19, .int r, .float 0, .float 0, .float 0, .float 0, .float 0] [] (hs t, F, G) Q := by
  have loop : ∀ d k v4 v5 v6, k + d = 6 → wp 12 4 [.ref 19, .int r, .int (Int32.ofNat (bf9 (fun k => mf9 (fun j i => F 20 (4 * j + i)) r k u) k)), .int (Int32.ofNat k), v4, v5, v6] [] (hs t, F, G) Q := by
    intro d
    induction d with
    | zero =>
      intro k v4 v5 v6 hk
      obtain rfl : k = 6 := by omega
      exact rg12_4 ⟨fun _ => h, fun q => absurd q (by decide)⟩
    | succ d ih =>
      intro k v4 v5 v6 hk
      refine rg12_4 ⟨fun q => ?_, fun _ => sp12_16 hu hu2 (fun a4 a5 v6 _ => rg12_107 ?_) u 0 _ (by omega)⟩
      · (simp (disch := omega) only [nn_lit, nn_m1, nn_add, nn_mul, nn_rem, nn_sub, nn_addm1, nn_lt, nn_le, nn_eq, nn_clamp, nn_in, nn_nem1, nn_m1ne, nn_ltm1, nn_m1lt, nn_m1le, nn_lem1, bz_0, bz_n0, not_false_eq_true, not_true_eq_false, true_and, and_true, false_and, and_false, false_implies, true_implies, forall_const, Nat.reduceMul, Nat.reduceAdd, Nat.reduceSub] at q <;> try simp only [nn_bk] at q)
        omega
      · rw [bf_step (P := fun k => mf9 (fun j i => F 20 (4 * j + i)) r k u) (r := k) (by omega) rfl, show Int32.ofNat k + 1 = Int32.ofNat (k + 1) from nn_add k 1]
        exact ih (k + 1) _ _ _ (by omega)
  exact rg12_0 (loop 6 0 _ _ _ rfl)
/-! the reference -/
theorem sp214_15 {u k B : Nat} {r : Int32} (hk5 : k ≤ 5) (hu : u ≤ 6) (hu2 : F 193 4 = Int32.ofNat u) (h : ∀ a4 a5 v6, wp 214 107 [.ref 193, .int r, .int (Int32.ofNat B), .int (Int32.ofNat k), .int a4, .int a5, v6] [.int (if nf9 (fun j i => F 201 (3 * j + i)) r k u = true then (1 : Int32) <<< (Int32.ofNat k &&& 31) else 0), .int (Int32.ofNat B)] (hs t, F, G) Q) : ∀ d j v6, j + d = u → wp 214 15 [.ref 193, .int r, .int (Int32.ofNat B), .int (Int32.ofNat k), .int (bz (nf9 (fun j i => F 201 (3 * j + i)) r k j = true)), .int (Int32.ofNat (3 * j)), v6] [] (hs t, F, G) Q := by
  have e3 : (3 : Int32) * F 193 4 = Int32.ofNat (3 * u) := by rw [hu2]; exact nn_mul 3 u
  intro d
  induction d with
  | zero =>
    intro j v6 hj
    obtain rfl : j = u := by omega
    refine rg214_15 ⟨fun _ => ⟨fun e => ?_, fun e => ?_⟩, fun q => ?_⟩
    · have := h (bz (nf9 (fun j i => F 201 (3 * j + i)) r k j = true)) (Int32.ofNat (3 * j)) v6
      rwa [if_neg (bz_0.mp e)] at this
    · have := h (bz (nf9 (fun j i => F 201 (3 * j + i)) r k j = true)) (Int32.ofNat (3 * j)) v6
      rwa [if_pos (bz_n0.mp e)] at this
    · rw [e3] at q
      (simp (disch := omega) only [nn_lit, nn_m1, nn_add, nn_mul, nn_rem, nn_sub, nn_addm1, nn_lt, nn_le, nn_eq, nn_clamp, nn_in, nn_nem1, nn_m1ne, nn_ltm1, nn_m1lt, nn_m1le, nn_lem1, bz_0, bz_n0, not_false_eq_true, not_true_eq_false, true_and, and_true, false_and, and_false, false_implies, true_implies, forall_const, Nat.reduceMul, Nat.reduceAdd, Nat.reduceSub] at q <;> try simp only [nn_bk] at q)
      omega
  | succ d ih =>
    intro j v6 hj
    have e0 : nf9 (fun j i => F 201 (3 * j + i)) r k (j + 1) = (nf9 (fun j i => F 201 (3 * j + i)) r k j && (!decide (F 201 (3 * j) = r) || decide (pt9 (Int32.ofNat k) (F 201 (3 * j + 1)) 6 = F 201 (3 * j + 2)))) := rfl
    have next : ∀ z a6, z = bz (nf9 (fun j i => F 201 (3 * j + i)) r k (j + 1) = true) → wp 214 86 [.ref 193, .int r, .int (Int32.ofNat B), .int (Int32.ofNat k), .int (bz (nf9 (fun j i => F 201 (3 * j + i)) r k j = true)), .int (Int32.ofNat (3 * j)), .int a6] [.int z] (hs t, F, G) Q := by
      intro z a6 hz
      refine rg214_86 ?_
      rw [hz, show Int32.ofNat (3 * j) + 3 = Int32.ofNat (3 * (j + 1)) from nn_add (3 * j) 3]
      exact ih (j + 1) _ (by omega)
    have mid : ∀ z, z = bz (pt9 (Int32.ofNat k) (F 201 (3 * j + 1)) 6 = F 201 (3 * j + 2)) → wp 214 58 [.ref 193, .int r, .int (Int32.ofNat B), .int (Int32.ofNat k), .int (bz (nf9 (fun j i => F 201 (3 * j + i)) r k j = true)), .int (Int32.ofNat (3 * j)), v6] [.int z] (hs t, F, G) Q := by
      intro z hz
      subst hz
      refine rg214_58 ⟨fun e => next _ _ ?_, fun e => ⟨(nn_in (by omega)).mpr (by omega), fun e1 => next _ _ ?_, fun e1 => ⟨fun e2 => next _ _ ?_, fun e2 => next _ _ ?_⟩⟩⟩
      · rw [bz_c (by rw [e0]; exact b3_f (Or.inl (Bool.eq_false_iff.mpr (bz_0.mp e))))]
      · rw [nn_clamp (by omega)] at e1
        rw [bz_b (by rw [e0]; exact b3_t (bz_n0.mp e) (Or.inl (decide_eq_false e1)))]
      · rw [nn_clamp (by omega)] at e1
        rw [bz_c (by rw [e0]; exact b3_f (Or.inr ⟨decide_eq_true e1, decide_eq_false (bz_0.mp e2)⟩))]
      · rw [bz_b (by rw [e0]; exact b3_t (bz_n0.mp e) (Or.inr (decide_eq_true (bz_n0.mp e2))))]
    refine rg214_15 ⟨fun q => ?_, fun _ => ⟨?_, ?_⟩⟩
    · rw [e3] at q
      (simp (disch := omega) only [nn_lit, nn_m1, nn_add, nn_mul, nn_rem, nn_sub, nn_addm1, nn_lt, nn_le, nn_eq, nn_clamp, nn_in, nn_nem1, nn_m1ne, nn_ltm1, nn_m1lt, nn_m1le, nn_lem1, bz_0, bz_n0, not_false_eq_true, not_true_eq_false, true_and, and_true, false_and, and_false, false_implies, true_implies, forall_const, Nat.reduceMul, Nat.reduceAdd, Nat.reduceSub] at q <;> try simp only [nn_bk] at q)
      omega
    · rw [show Int32.ofNat (3 * j) + 1 = Int32.ofNat (3 * j + 1) from nn_add (3 * j) 1]
      exact (nn_in (by omega)).mpr (by omega)
    · rw [show Int32.ofNat (3 * j) + 1 = Int32.ofNat (3 * j + 1) from nn_add (3 * j) 1, nn_clamp (by omega)]
      refine sp172 ⟨k, hk5, rfl⟩ (rg214_41 ?_)
      rw [show Int32.ofNat (3 * j) + 2 = Int32.ofNat (3 * j + 2) from nn_add (3 * j) 2, nn_clamp (by omega)]
      refine ⟨(nn_in (by omega)).mpr (by omega), fun e => mid _ ?_, fun e => mid _ ?_⟩
      · rw [bz_f e]
      · rw [bz_t e]
theorem sp214 {u : Nat} {r : Int32} (hu : u ≤ 6) (hu2 : F 193 4 = Int32.ofNat u) (h : Q (some (.int (Int32.ofNat (bf9 (fun k => nf9 (fun j i => F 201 (3 * j + i)) r k u) 6)))) (hs t, F, G)) : wp 214 0 [.ref 193, .int r, .float 0, .float 0, .float 0, .float 0, .float 0] [] (hs t, F, G) Q := by
  have loop : ∀ d k v4 v5 v6, k + d = 6 → wp 214 4 [.ref 193, .int r, .int (Int32.ofNat (bf9 (fun k => nf9 (fun j i => F 201 (3 * j + i)) r k u) k)), .int (Int32.ofNat k), v4, v5, v6] [] (hs t, F, G) Q := by
    intro d
    induction d with
    | zero =>
      intro k v4 v5 v6 hk
      obtain rfl : k = 6 := by omega
      exact rg214_4 ⟨fun _ => h, fun q => absurd q (by decide)⟩
    | succ d ih =>
      intro k v4 v5 v6 hk
      refine rg214_4 ⟨fun q => ?_, fun _ => sp214_15 (by omega) hu hu2 (fun a4 a5 v6 => rg214_107 ?_) u 0 _ (by omega)⟩
      · exact absurd ((nn_lt (a := 5) (by omega) (by omega)).mp q) (by omega)
      · rw [bf_step (P := fun k => nf9 (fun j i => F 201 (3 * j + i)) r k u) (r := k) (by omega) rfl, show Int32.ofNat k + 1 = Int32.ofNat (k + 1) from nn_add k 1]
        exact ih (k + 1) _ _ _ (by omega)
  exact rg214_0 (loop 6 0 _ _ _ rfl)
theorem sp215_15 {u k B : Nat} {r : Int32} (hk5 : k ≤ 5) (hu : u ≤ 6) (hu2 : F 193 5 = Int32.ofNat u) (h01 : ∀ j, j < u → F 202 (4 * j + 3) = 0 ∨ F 202 (4 * j + 3) = 1) (h : ∀ a4 a5 v6, wp 215 123 [.ref 193, .int r, .int (Int32.ofNat B), .int (Int32.ofNat k), .int a4, .int a5, v6] [.int (if mf9 (fun j i => F 202 (4 * j + i)) r k u = true then (1 : Int32) <<< (Int32.ofNat k &&& 31) else 0), .int (Int32.ofNat B)] (hs t, F, G) Q) : ∀ d j v6, j + d = u → wp 215 15 [.ref 193, .int r, .int (Int32.ofNat B), .int (Int32.ofNat k), .int (bz (mf9 (fun j i => F 202 (4 * j + i)) r k j = true)), .int (Int32.ofNat (4 * j)), v6] [] (hs t, F, G) Q := by
  have e3 : (4 : Int32) * F 193 5 = Int32.ofNat (4 * u) := by rw [hu2]; exact nn_mul 4 u
  intro d
  induction d with
  | zero =>
    intro j v6 hj
    obtain rfl : j = u := by omega
    refine rg215_15 ⟨fun _ => ⟨fun e => ?_, fun e => ?_⟩, fun q => ?_⟩
    · have := h (bz (mf9 (fun j i => F 202 (4 * j + i)) r k j = true)) (Int32.ofNat (4 * j)) v6
      rwa [if_neg (bz_0.mp e)] at this
    · have := h (bz (mf9 (fun j i => F 202 (4 * j + i)) r k j = true)) (Int32.ofNat (4 * j)) v6
      rwa [if_pos (bz_n0.mp e)] at this
    · rw [e3] at q
      (simp (disch := omega) only [nn_lit, nn_m1, nn_add, nn_mul, nn_rem, nn_sub, nn_addm1, nn_lt, nn_le, nn_eq, nn_clamp, nn_in, nn_nem1, nn_m1ne, nn_ltm1, nn_m1lt, nn_m1le, nn_lem1, bz_0, bz_n0, not_false_eq_true, not_true_eq_false, true_and, and_true, false_and, and_false, false_implies, true_implies, forall_const, Nat.reduceMul, Nat.reduceAdd, Nat.reduceSub] at q <;> try simp only [nn_bk] at q)
      omega
  | succ d ih =>
    intro j v6 hj
    have e0 : mf9 (fun j i => F 202 (4 * j + i)) r k (j + 1) = (mf9 (fun j i => F 202 (4 * j + i)) r k j && (!decide (F 202 (4 * j) = r) || decide (bz (mk9 (Int32.ofNat k) (F 202 (4 * j + 1)) (F 202 (4 * j + 2)) = true) = F 202 (4 * j + 3)))) := rfl
    have next : ∀ z a6, z = bz (mf9 (fun j i => F 202 (4 * j + i)) r k (j + 1) = true) → wp 215 102 [.ref 193, .int r, .int (Int32.ofNat B), .int (Int32.ofNat k), .int (bz (mf9 (fun j i => F 202 (4 * j + i)) r k j = true)), .int (Int32.ofNat (4 * j)), .int a6] [.int z] (hs t, F, G) Q := by
      intro z a6 hz
      refine rg215_102 ?_
      rw [hz, show Int32.ofNat (4 * j) + 4 = Int32.ofNat (4 * (j + 1)) from nn_add (4 * j) 4]
      exact ih (j + 1) _ (by omega)
    have mid : ∀ z, z = bz (bz (mk9 (Int32.ofNat k) (F 202 (4 * j + 1)) (F 202 (4 * j + 2)) = true) = F 202 (4 * j + 3)) → wp 215 74 [.ref 193, .int r, .int (Int32.ofNat B), .int (Int32.ofNat k), .int (bz (mf9 (fun j i => F 202 (4 * j + i)) r k j = true)), .int (Int32.ofNat (4 * j)), v6] [.int z] (hs t, F, G) Q := by
      intro z hz
      subst hz
      refine rg215_74 ⟨fun e => next _ _ ?_, fun e => ⟨(nn_in (by omega)).mpr (by omega), fun e1 => next _ _ ?_, fun e1 => ⟨fun e2 => next _ _ ?_, fun e2 => next _ _ ?_⟩⟩⟩
      · rw [bz_c (by rw [e0]; exact b3_f (Or.inl (Bool.eq_false_iff.mpr (bz_0.mp e))))]
      · rw [nn_clamp (by omega)] at e1
        rw [bz_b (by rw [e0]; exact b3_t (bz_n0.mp e) (Or.inl (decide_eq_false e1)))]
      · rw [nn_clamp (by omega)] at e1
        rw [bz_c (by rw [e0]; exact b3_f (Or.inr ⟨decide_eq_true e1, decide_eq_false (bz_0.mp e2)⟩))]
      · rw [bz_b (by rw [e0]; exact b3_t (bz_n0.mp e) (Or.inr (decide_eq_true (bz_n0.mp e2))))]
    have mid2 : ∀ z, z = F 202 (4 * j + 3) → wp 215 66 [.ref 193, .int r, .int (Int32.ofNat B), .int (Int32.ofNat k), .int (bz (mf9 (fun j i => F 202 (4 * j + i)) r k j = true)), .int (Int32.ofNat (4 * j)), v6] [.int z, .int (bz (mk9 (Int32.ofNat k) (F 202 (4 * j + 1)) (F 202 (4 * j + 2)) = true))] (hs t, F, G) Q := by
      intro z hz
      refine rg215_66 ⟨fun e => mid _ ?_, fun e => mid _ ?_⟩
      · rw [bz_f (by rw [← hz]; exact e)]
      · rw [bz_t (by rw [← hz]; exact e)]
    refine rg215_15 ⟨fun q => ?_, fun _ => ⟨?_, ?_, ?_⟩⟩
    · rw [e3] at q
      (simp (disch := omega) only [nn_lit, nn_m1, nn_add, nn_mul, nn_rem, nn_sub, nn_addm1, nn_lt, nn_le, nn_eq, nn_clamp, nn_in, nn_nem1, nn_m1ne, nn_ltm1, nn_m1lt, nn_m1le, nn_lem1, bz_0, bz_n0, not_false_eq_true, not_true_eq_false, true_and, and_true, false_and, and_false, false_implies, true_implies, forall_const, Nat.reduceMul, Nat.reduceAdd, Nat.reduceSub] at q <;> try simp only [nn_bk] at q)
      omega
    · rw [show Int32.ofNat (4 * j) + 1 = Int32.ofNat (4 * j + 1) from nn_add (4 * j) 1]
      exact (nn_in (by omega)).mpr (by omega)
    · rw [show Int32.ofNat (4 * j) + 2 = Int32.ofNat (4 * j + 2) from nn_add (4 * j) 2]
      exact (nn_in (by omega)).mpr (by omega)
    · rw [show Int32.ofNat (4 * j) + 1 = Int32.ofNat (4 * j + 1) from nn_add (4 * j) 1, show Int32.ofNat (4 * j) + 2 = Int32.ofNat (4 * j + 2) from nn_add (4 * j) 2, nn_clamp (by omega), nn_clamp (by omega)]
      refine sp173 ⟨k, hk5, rfl⟩ (rg215_48 ?_)
      rw [show Int32.ofNat (4 * j) + 3 = Int32.ofNat (4 * j + 3) from nn_add (4 * j) 3, nn_clamp (by omega)]
      refine ⟨(nn_in (by omega)).mpr (by omega), fun e => mid2 _ ?_, fun e => mid2 _ e.symm⟩
      exact ((h01 j (by omega)).resolve_right e).symm
theorem sp215 {u : Nat} {r : Int32} (hu : u ≤ 6) (hu2 : F 193 5 = Int32.ofNat u) (h01 : ∀ j, j < u → F 202 (4 * j + 3) = 0 ∨ F 202 (4 * j + 3) = 1) (h : Q (some (.int (Int32.ofNat (bf9 (fun k => mf9 (fun j i => F 202 (4 * j + i)) r k u) 6)))) (hs t, F, G)) : wp 215 0 [.ref 193, .int r, .float 0, .float 0, .float 0, .float 0, .float 0] [] (hs t, F, G) Q := by
  have loop : ∀ d k v4 v5 v6, k + d = 6 → wp 215 4 [.ref 193, .int r, .int (Int32.ofNat (bf9 (fun k => mf9 (fun j i => F 202 (4 * j + i)) r k u) k)), .int (Int32.ofNat k), v4, v5, v6] [] (hs t, F, G) Q := by
    intro d
    induction d with
    | zero =>
      intro k v4 v5 v6 hk
      obtain rfl : k = 6 := by omega
      exact rg215_4 ⟨fun _ => h, fun q => absurd q (by decide)⟩
    | succ d ih =>
      intro k v4 v5 v6 hk
      refine rg215_4 ⟨fun q => ?_, fun _ => sp215_15 (by omega) hu hu2 h01 (fun a4 a5 v6 => rg215_123 ?_) u 0 _ (by omega)⟩
      · exact absurd ((nn_lt (a := 5) (by omega) (by omega)).mp q) (by omega)
      · rw [bf_step (P := fun k => mf9 (fun j i => F 202 (4 * j + i)) r k u) (r := k) (by omega) rfl, show Int32.ofNat k + 1 = Int32.ofNat (k + 1) from nn_add k 1]
        exact ih (k + 1) _ _ _ (by omega)
  exact rg215_0 (loop 6 0 _ _ _ rfl)
theorem pr_is {a : Int32} (hI : INV t F G) : wp 116 0 [.ref 0, .int a] [] (hs t, F, G) (fun v M => wp 216 0 [.ref 193, .int a] [] M (ENi v)) := by
  obtain ⟨n, ⟨h4, h6, b1, b2, b3⟩, hP, hU, hH, ⟨m, m1, m2, m3, m4⟩, hM⟩ := hI.2.1
  refine ck116 (by omega) b1 (fun ha => ?_) (fun hn => ?_)
  · refine rg116_5 ⟨fun q => absurd q (by decide), fun _ => sk9 m1 m2 (rg116_19 (rg116_28 ?_))⟩
    refine ck216 (by omega) b2 (fun _ => ?_) (fun hn => absurd ha hn)
    refine rg216_5 ⟨fun q => absurd q (by decide), fun _ => sp214 m1 m3 (rg216_13 (rg216_20 (en_i hI ?_)))⟩
    rw [bf_congr 6 (fun k _ => nf_congr (g := fun j i => F 18 (4 * j + i)) (g' := fun j i => F 201 (3 * j + i)) m (fun j hj i hi => m4 j hj i hi))]
  · exact ck216 (by omega) (by rw [u_n (by decide), b2]) (fun ha => absurd ha hn) (fun _ => en_bad hI)
theorem pr_kinds {a : Int32} (hI : INV t F G) : wp 118 0 [.ref 0, .int a] [] (hs t, F, G) (fun v M => wp 217 0 [.ref 193, .int a] [] M (ENi v)) := by
  obtain ⟨n, ⟨h4, h6, b1, b2, b3⟩, hP, hU, hH, hN, w, w1, w2, w3, w4⟩ := hI.2.1
  refine ck118 (by omega) b1 (fun ha => ?_) (fun hn => ?_)
  · refine rg118_5 ⟨fun q => absurd q (by decide), fun _ => sp12 w1 w2 (rg118_19 (rg118_28 ?_))⟩
    refine ck217 (by omega) b2 (fun _ => ?_) (fun hn => absurd ha hn)
    refine rg217_5 ⟨fun q => absurd q (by decide), fun _ => sp215 w1 w3 (fun j hj => by rw [← (w4 j hj).2 3 (by omega)]; exact (w4 j hj).1) (rg217_13 (rg217_20 (en_i hI ?_)))⟩
    rw [bf_congr 6 (fun k _ => mf_congr (g := fun j i => F 20 (4 * j + i)) (g' := fun j i => F 202 (4 * j + i)) w (fun j hj i hi => (w4 j hj).2 i hi))]
  · exact ck217 (by omega) (by rw [u_n (by decide), b2]) (fun ha => absurd ha hn) (fun _ => en_bad hI)
end SP
