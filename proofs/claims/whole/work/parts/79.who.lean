/-! ===== who rang, by what was heard ===== -/
def ag9 (g : Nat → Int32) (hr : Nat → Nat) (hv : Nat → Int32) : Nat → Bool
  | 0 => true
  | j + 1 => ag9 g hr hv j && decide (g (hr j) = hv j)
theorem ag_f {g : Nat → Int32} {hr : Nat → Nat} {hv : Nat → Int32} {j : Nat} (h : ag9 g hr hv j = false) : ∀ d, ag9 g hr hv (j + d) = false
  | 0 => h
  | d + 1 => by rw [show j + (d + 1) = (j + d) + 1 from rfl, ag9, ag_f h d, Bool.false_and]
theorem ag_congr {g g' : Nat → Int32} {hr hr' : Nat → Nat} {hv hv' : Nat → Int32} : ∀ u, (∀ j, j < u → hr j = hr' j ∧ hv j = hv' j ∧ g (hr j) = g' (hr j)) → ag9 g hr hv u = ag9 g' hr' hv' u
  | 0, _ => rfl
  | u + 1, h => by
    obtain ⟨h1, h2, h3⟩ := h u (by omega)
    rw [ag9, ag9, ag_congr u (fun j hj => h j (by omega)), h3, h2, h1]
/-- the sets below k that fit: how many, and which -/
def sq9 (S : Nat) (A : Nat → Bool) : Nat → Nat × (Nat → Nat)
  | 0 => (0, fun _ => 0)
  | k + 1 => if (decide (k &&& S = k) && A k) = true then ((sq9 S A k).1 + 1, fun x => if x = (sq9 S A k).1 then k else (sq9 S A k).2 x) else sq9 S A k
theorem sq_le {S : Nat} {A : Nat → Bool} : ∀ k, (sq9 S A k).1 ≤ k
  | 0 => Nat.le_refl 0
  | k + 1 => by
    have := sq_le (S := S) (A := A) k
    rw [sq9]
    split
    · dsimp only
      omega
    · omega
theorem sq_sub {S : Nat} {A : Nat → Bool} : ∀ k i, i < (sq9 S A k).1 → (sq9 S A k).2 i &&& S = (sq9 S A k).2 i ∧ (sq9 S A k).2 i < k
  | 0, i, h => absurd h (Nat.not_lt_zero i)
  | k + 1, i, h => by
    rw [sq9] at h ⊢
    split
    · rename_i e
      rw [if_pos e] at h
      dsimp only at h ⊢
      by_cases q : i = (sq9 S A k).1
      · rw [if_pos q]
        rw [Bool.and_eq_true, decide_eq_true_eq] at e
        exact ⟨e.1, by omega⟩
      · rw [if_neg q]
        have := sq_sub (S := S) (A := A) k i (by omega)
        exact ⟨this.1, by omega⟩
    · rename_i e
      rw [if_neg e] at h
      have := sq_sub k i h
      exact ⟨this.1, by omega⟩
theorem sq_ext {S : Nat} {A : Nat → Bool} : ∀ d, sq9 S A (S + 1 + d) = sq9 S A (S + 1)
  | 0 => rfl
  | d + 1 => by
    rw [show S + 1 + (d + 1) = (S + 1 + d) + 1 from rfl, sq9, if_neg, sq_ext d]
    rw [Bool.and_eq_true, decide_eq_true_eq]
    intro q
    have := sub_le q.1
    omega
theorem sq_64 {S : Nat} {A : Nat → Bool} (hS : S < 64) : sq9 S A 64 = sq9 S A (S + 1) := by
  obtain ⟨d, hd⟩ : ∃ d, 64 = S + 1 + d := ⟨63 - S, by omega⟩
  rw [hd, sq_ext]
def an9 (el : Nat → Nat) (b : Nat) : Nat → Nat
  | 0 => b
  | i + 1 => an9 el b i &&& el i
def or9 (el : Nat → Nat) : Nat → Nat
  | 0 => 0
  | i + 1 => or9 el i ||| el i
theorem an_congr {el el' : Nat → Nat} {b : Nat} : ∀ u, (∀ i, i < u → el i = el' i) → an9 el b u = an9 el' b u
  | 0, _ => rfl
  | u + 1, h => by rw [an9, an9, an_congr u (fun i hi => h i (by omega)), h u (by omega)]
theorem or_congr {el el' : Nat → Nat} : ∀ u, (∀ i, i < u → el i = el' i) → or9 el u = or9 el' u
  | 0, _ => rfl
  | u + 1, h => by rw [or9, or9, or_congr u (fun i hi => h i (by omega)), h u (by omega)]
theorem an_lt {el : Nat → Nat} {b : Nat} (hb : b < 64) : ∀ u, an9 el b u < 64
  | 0 => hb
  | u + 1 => Nat.lt_of_le_of_lt Nat.and_le_left (an_lt hb u)
theorem or_lt {el : Nat → Nat} : ∀ u, (∀ i, i < u → el i < 64) → or9 el u < 64
  | 0, _ => Nat.zero_lt_succ 63
  | u + 1, h => bt_lt _ _ (or_lt u (fun i hi => h i (by omega))) (h u (by omega))
theorem an_63 : ∀ k : Fin 64, 63 &&& k.val = k.val := by decide +kernel
theorem an_base {el : Nat → Nat} {S : Nat} : ∀ u, (∀ i, i < u + 1 → el i &&& S = el i ∧ el i < 64) → an9 el 63 (u + 1) = an9 el S (u + 1)
  | 0, h => by
    have := h 0 (by omega)
    have e := an_63 ⟨el 0, this.2⟩
    show 63 &&& el 0 = S &&& el 0
    rw [Nat.and_comm S, this.1]
    exact e
  | u + 1, h => by rw [an9, an_base u (fun i hi => h i (by omega)), an9.eq_2 el S (u + 1)]
/-- the first two places of the class's rows that hold what was heard -/
abbrev hr9 (F : ip_F) (j : Nat) : Nat := (F 16 (4 * j)).toNatClampNeg
abbrev hv9 (F : ip_F) (j : Nat) : Int32 := F 16 (4 * j + 1)
abbrev HC9 (u : Nat) (F : ip_F) : Prop := u ≤ 4 ∧ F 15 1 = Int32.ofNat u ∧ ∀ j, j < u → ∃ r, 1 ≤ r ∧ r < 12 ∧ F 16 (4 * j) = Int32.ofNat r
section SP
variable {t : Nat} {G : ip_G} {Q : Option Value → ip_M → Prop} {n : Nat}
theorem sp3 {F : ip_F} {u : Nat} (hH : HC9 u F) (h : Q (some (.int (bz (ag9 (F 117) (hr9 F) (hv9 F) u = true)))) (hs t, F, G)) : wp 3 0 [.ref 15, .ref 89, .float 0, .float 0] [] (hs t, F, G) Q := by
  have k15 : ok4 t 15 := ⟨rfl, rfl⟩
  obtain ⟨hu, hu2, hr⟩ := hH
  have loop : ∀ d j v3, j + d = u → ag9 (F 117) (hr9 F) (hv9 F) j = true → wp 3 2 [.ref 15, .ref 89, .int (Int32.ofNat j), v3] [] (hs t, F, G) Q := by
    intro d
    induction d with
    | zero =>
      intro j v3 hj hT
      obtain rfl : j = u := by omega
      refine rg3_2 ⟨fun _ => ?_, fun q => ?_⟩
      · rwa [bz_b hT] at h
      · rw [hu2] at q
        (simp (disch := omega) only [nn_lit, nn_m1, nn_add, nn_mul, nn_rem, nn_sub, nn_addm1, nn_lt, nn_le, nn_eq, nn_clamp, nn_in, nn_nem1, nn_m1ne, nn_ltm1, nn_m1lt, nn_m1le, nn_lem1, bz_0, bz_n0, not_false_eq_true, not_true_eq_false, true_and, and_true, false_and, and_false, false_implies, true_implies, forall_const, Nat.reduceMul, Nat.reduceAdd, Nat.reduceSub] at q <;> try simp only [nn_bk] at q)
        omega
    | succ d ih =>
      intro j v3 hj hT
      obtain ⟨r, r1, r2, r3⟩ := hr j (by omega)
      have er : hr9 F j = r := by
        unfold hr9
        rw [r3, nn_clamp (by omega)]
      have e0 : ag9 (F 117) (hr9 F) (hv9 F) (j + 1) = (ag9 (F 117) (hr9 F) (hv9 F) j && decide (F 117 (hr9 F j) = hv9 F j)) := rfl
      refine rg3_2 ⟨fun q => ?_, fun _ => sp47 k15 (by omega) hu2 (by omega) (j := 0) (by omega) (rg3_16 (sp129 ?_))⟩
      · rw [hu2] at q
        (simp (disch := omega) only [nn_lit, nn_m1, nn_add, nn_mul, nn_rem, nn_sub, nn_addm1, nn_lt, nn_le, nn_eq, nn_clamp, nn_in, nn_nem1, nn_m1ne, nn_ltm1, nn_m1lt, nn_m1le, nn_lem1, bz_0, bz_n0, not_false_eq_true, not_true_eq_false, true_and, and_true, false_and, and_false, false_implies, true_implies, forall_const, Nat.reduceMul, Nat.reduceAdd, Nat.reduceSub] at q <;> try simp only [nn_bk] at q)
        omega
      · rw [show F (15 + 1) (4 * j + 0) = Int32.ofNat r from r3, bz_t ⟨(nn_le (a := 0) (by omega) (by omega)).mpr (by omega), (nn_le (b := 11) (by omega) (by omega)).mpr (by omega)⟩]
        refine rg3_24 ⟨fun q => absurd q (by decide), fun _ => ⟨(nn_in (by omega)).mpr (by omega), sp47 k15 (by omega) hu2 (by omega) (j := 1) (by omega) (rg3_39 ⟨fun e => ?_, fun e => ?_⟩)⟩⟩
        · rw [show Int32.ofNat j + 1 = Int32.ofNat (j + 1) from nn_add j 1]
          rw [nn_clamp (by omega)] at e
          exact ih (j + 1) _ (by omega) (by rw [e0, hT, er, decide_eq_true (show F 117 r = hv9 F j from e)]; rfl)
        · rw [nn_clamp (by omega)] at e
          have hf : ag9 (F 117) (hr9 F) (hv9 F) (j + 1) = false := by rw [e0, er, decide_eq_false (show ¬ F 117 r = hv9 F j from e), Bool.and_false]
          have := ag_f hf d
          rw [show j + 1 + d = u by omega] at this
          rwa [bz_c this] at h
  exact rg3_0 (loop u 0 _ (by omega) rfl)
/-- what the sets found hold -/
abbrev ES9 (N : Nat) (el : Nat → Nat) (g : Nat → Nat → Int32) (F : ip_F) : Prop := F 124 3 = Int32.ofNat N ∧ ∀ i, i < N → F 125 i = Int32.ofNat (el i) ∧ ∀ x, x < 12 → F (127 + i) x = g (el i) x
/-- not a cell of the evidence -/
abbrev nev (x : Nat) : Prop := x ≠ 124 ∧ x ≠ 125 ∧ (x < 127 ∨ 190 < x)
theorem sp4 {F : ip_F} {N k : Nat} {el : Nat → Nat} {g : Nat → Nat → Int32} (hN : N < 64) (hE : ES9 N el g F) (hg : ∀ x, x < 12 → F 117 x = g k x) (h : ∀ F', ES9 (N + 1) (fun x => if x = N then k else el x) g F' → (∀ x, nev x → F' x = F x) → Q none (hs t, F', G)) : wp 4 0 [.ref 124, .int (Int32.ofNat k), .ref 89] [] (hs t, F, G) Q := by
  obtain ⟨h1, h2⟩ := hE
  have hv : vp_in (Int32.ofNat N) 64 := (nn_in (by omega)).mpr (by omega)
  refine rg4_0 ⟨fun q => ?_, fun _ => ⟨?_, ?_, ?_⟩⟩
  · rw [h1] at q
    exact absurd ((nn_le (a := 64) (by omega) (by omega)).mp q) (by omega)
  · rw [h1]
    exact hv
  · rw [u_n (by decide), h1]
    exact hv
  · rw [h1, nn_clamp (by omega), u_n (show 124 ≠ 125 by decide), h1, nn_clamp (by omega), ur_n (show 124 ≠ 127 + N by omega), u_n (show 124 ≠ 125 by decide), h1, u_n (show 117 ≠ 125 by decide)]
    rw [show Int32.ofNat N + 1 = Int32.ofNat (N + 1) from nn_add N 1]
    refine h _ ⟨by rw [u_s, if_pos rfl], fun i hi => ⟨?_, fun x hx => ?_⟩⟩ (fun x hx => ?_)
    · rw [u_n (show 125 ≠ 124 by decide), ur_n (show 125 ≠ 127 + N by omega), u_s]
      show _ = Int32.ofNat (if i = N then k else el i)
      by_cases q : i = N
      · rw [if_pos q, if_pos q]
      · rw [if_neg q, if_neg q]
        exact (h2 i (by omega)).1
    · rw [u_n (show 127 + i ≠ 124 by omega)]
      show _ = g (if i = N then k else el i) x
      by_cases q : i = N
      · rw [if_pos q, q, ur_s, cp_n x hx, hg x hx]
      · rw [if_neg q, ur_n (show 127 + i ≠ 127 + N by omega), u_n (show 127 + i ≠ 125 by omega)]
        exact (h2 i (by omega)).2 x hx
    · rw [u_n hx.1, ur_n (by have := hx.2.2; omega), u_n hx.2.1]
/-- a set by which all heard ones are so -/
def ah9 (n : Nat) (ch c : Nat → Int32) (u : Nat) (hr : Nat → Nat) (hv : Nat → Int32) (k : Nat) : Bool := ag9 (gn9 n ch c k mk0) hr hv u
theorem sp2_28 {ch c : Nat → Int32} {S u : Nat} {hr : Nat → Nat} {hv : Nat → Int32} (h4 : 4 ≤ n) (h6 : n ≤ 6) (hS : S < 64) (hW : WR9 n c) : ∀ d k F, k + d = 64 → F 4 = c → Mm9 n ch mk0 F → HC9 u F → hr9 F = hr → hv9 F = hv → ES9 (sq9 S (ah9 n ch c u hr hv) k).1 (sq9 S (ah9 n ch c u hr hv) k).2 (fun b => gn9 n ch c b mk0) F → (∀ F', ES9 (sq9 S (ah9 n ch c u hr hv) 64).1 (sq9 S (ah9 n ch c u hr hv) 64).2 (fun b => gn9 n ch c b mk0) F' → (∀ x, npl x → nev x → F' x = F x) → Q none (hs t, F', G)) → wp 2 28 [.ref 124, .ref 1, .ref 89, .int (Int32.ofNat S), .int (Int32.ofNat k)] [] (hs t, F, G) Q := by
  intro d
  induction d with
  | zero =>
    intro k F hk hc hM hH e1 e2 hE h
    obtain rfl : k = 64 := by omega
    exact rg2_28 ⟨fun _ => h F hE (fun _ _ _ => rfl), fun q => absurd q (by decide)⟩
  | succ d ih =>
    intro k F hk hc hM hH e1 e2 hE h
    have step : ∀ F1, (∀ x, nmr x → nev x → F1 x = F x) → ES9 (sq9 S (ah9 n ch c u hr hv) (k + 1)).1 (sq9 S (ah9 n ch c u hr hv) (k + 1)).2 (fun b => gn9 n ch c b mk0) F1 → wp 2 72 [.ref 124, .ref 1, .ref 89, .int (Int32.ofNat S), .int (Int32.ofNat k)] [] (hs t, F1, G) Q := by
      intro F1 fr hE1
      refine rg2_72 ?_
      rw [show Int32.ofNat k + 1 = Int32.ofNat (k + 1) from nn_add k 1]
      have f16 : F1 16 = F 16 := fr 16 (by decide) (by decide)
      refine ih (k + 1) F1 (by omega) (by rw [fr 4 (by decide) (by decide), hc]) ⟨by rw [fr 89 (by decide) (by decide), hM.1], fun q hq x hx => by rw [fr _ (by unfold nmr; omega) (by unfold nev; omega)]; exact hM.2.1 q hq x hx, fun x hx => by rw [fr 118 (by decide) (by decide)]; exact hM.2.2 x hx⟩ ⟨hH.1, by rw [fr 15 (by decide) (by decide), hH.2.1], by rw [f16]; exact hH.2.2⟩ ?_ ?_ hE1 (fun F' k0 k1 => h F' k0 (fun x hx hx2 => by rw [k1 x hx hx2, fr x hx.2 hx2]))
      · rw [← e1]
        funext j
        show (F1 16 _).toNatClampNeg = _
        rw [f16]
      · rw [← e2]
        funext j
        show F1 16 _ = _
        rw [f16]
    have stay : ∀ F1, (∀ x, nmr x → F1 x = F x) → (decide (k &&& S = k) && ah9 n ch c u hr hv k) = false → wp 2 72 [.ref 124, .ref 1, .ref 89, .int (Int32.ofNat S), .int (Int32.ofNat k)] [] (hs t, F1, G) Q := by
      intro F1 fr e
      refine step F1 (fun x hx _ => fr x hx) ?_
      rw [sq9, if_neg (by rw [e]; exact Bool.false_ne_true)]
      have hl := sq_le (S := S) (A := ah9 n ch c u hr hv) k
      exact ⟨by rw [fr 124 (by decide), hE.1], fun i hi => ⟨by rw [fr 125 (by decide)]; exact (hE.2 i hi).1, fun x hx => by rw [fr _ (by unfold nmr; omega)]; exact (hE.2 i hi).2 x hx⟩⟩
    refine rg2_28 ⟨fun q => ?_, fun _ => ⟨fun q => stay F (fun _ _ => rfl) ?_, fun q => ?_⟩⟩
    · (simp (disch := omega) only [nn_lit, nn_m1, nn_add, nn_mul, nn_rem, nn_sub, nn_addm1, nn_lt, nn_le, nn_eq, nn_clamp, nn_in, nn_nem1, nn_m1ne, nn_ltm1, nn_m1lt, nn_m1le, nn_lem1, bz_0, bz_n0, not_false_eq_true, not_true_eq_false, true_and, and_true, false_and, and_false, false_implies, true_implies, forall_const, Nat.reduceMul, Nat.reduceAdd, Nat.reduceSub] at q <;> try simp only [nn_bk] at q)
      omega
    · rw [bt_sub ⟨k, by omega⟩ ⟨S, hS⟩] at q
      rw [decide_eq_false q, Bool.false_and]
    · rw [bt_sub ⟨k, by omega⟩ ⟨S, hS⟩] at q
      refine sp25 (ok7_3 t) (by decide) h4 h6 (show k < 64 by omega) (wr_kw h6 (by rw [show F (3 + 1) = c from hc]; exact hW)) mk_0 hM rfl (fun F1 hR hf => rg2_54 ?_)
      have f16 : F1 16 = F 16 := hf 16 (by decide)
      have hg : ∀ x, x < 12 → F1 117 x = gn9 n ch c k mk0 x := fun x hx => by rw [hR.2 x hx, show F (3 + 1) = c from hc]; rfl
      refine sp3 (u := u) ⟨hH.1, by rw [hf 15 (by decide), hH.2.1], by rw [f16]; exact hH.2.2⟩ ?_
      have eA : ag9 (F1 117) (hr9 F1) (hv9 F1) u = ah9 n ch c u hr hv k := by
        refine ag_congr u (fun j hj => ?_)
        obtain ⟨r, r1, r2, r3⟩ := hH.2.2 j hj
        have er : hr9 F1 j = r := by
          show (F1 16 _).toNatClampNeg = r
          rw [f16, r3, nn_clamp (by omega)]
        refine ⟨?_, ?_, ?_⟩
        · rw [← e1]
          show (F1 16 _).toNatClampNeg = (F 16 _).toNatClampNeg
          rw [f16]
        · rw [← e2]
          show F1 16 _ = F 16 _
          rw [f16]
        · rw [er]
          exact hg r r2
      rw [eA]
      refine rg2_62 ⟨fun e => stay F1 hf (by rw [Bool.eq_false_iff.mpr (bz_0.mp e), Bool.and_false]), fun e => ?_⟩
      have hl := sq_le (S := S) (A := ah9 n ch c u hr hv) k
      refine sp4 (N := (sq9 S (ah9 n ch c u hr hv) k).1) (el := (sq9 S (ah9 n ch c u hr hv) k).2) (g := fun b => gn9 n ch c b mk0) (k := k) (by omega) ⟨by rw [hf 124 (by decide), hE.1], fun i hi => ⟨by rw [hf 125 (by decide)]; exact (hE.2 i hi).1, fun x hx => by rw [hf _ (by unfold nmr; omega)]; exact (hE.2 i hi).2 x hx⟩⟩ hg (fun F2 hE2 f2 => step F2 (fun x hx hx2 => by rw [f2 x hx2, hf x hx]) ?_)
      rw [sq9, if_pos (by rw [decide_eq_true (show k &&& S = k from q), bz_n0.mp e]; rfl)]
      exact hE2
theorem sp2 {F : ip_F} {u : Nat} (h4 : 4 ≤ n) (h6 : n ≤ 6) (b1 : F 1 6 = Int32.ofNat n) (hW : WR9 n (F 4)) (hH : HC9 u F) (h : ∀ F', ES9 (sq9 (bf9 (hsl (F 4)) 6) (ah9 n (F 2) (F 4) u (hr9 F) (hv9 F)) 64).1 (sq9 (bf9 (hsl (F 4)) 6) (ah9 n (F 2) (F 4) u (hr9 F) (hv9 F)) 64).2 (fun b => gn9 n (F 2) (F 4) b mk0) F' → (∀ x, npl x → nev x → F' x = F x) → Q none (hs t, F', G)) : wp 2 0 [.ref 124, .ref 1, .ref 89, .float 0, .float 0] [] (hs t, F, G) Q := by
  refine rg2_0 (sp78 (ok7_3 t) (rg2_7 ?_))
  rw [u_n (show 1 ≠ 124 by decide), b1]
  refine sp22 (a := 2) rfl (by decide) h4 h6 (u_n (by decide)) (fun F1 hM hf => rg2_25 ?_)
  have e : ∀ x, nmn x → x ≠ 124 → F1 x = F x := fun x h1 h2 => by rw [hf x h1, u_n h2]
  have e16 : F1 16 = F 16 := e 16 (by decide) (by decide)
  refine sp2_28 (u := u) (hr := hr9 F) (hv := hv9 F) h4 h6 (bf_lt _ 6 (by omega)) hW 64 0 F1 rfl (e 4 (by decide) (by decide)) ⟨hM.1, hM.2.1, hM.2.2.2⟩ ⟨hH.1, by rw [e 15 (by decide) (by decide), hH.2.1], by rw [e16]; exact hH.2.2⟩ ?_ ?_ ⟨?_, fun i hi => absurd hi (Nat.not_lt_zero i)⟩ (fun F' k0 k1 => h F' k0 (fun x hx hx2 => by rw [k1 x hx hx2, e x hx.1 hx2.1]))
  · funext j
    show (F1 16 _).toNatClampNeg = _
    rw [e16]
  · funext j
    show F1 16 _ = _
    rw [e16]
  · rw [hf 124 (by decide), u_s, if_pos rfl]
    rfl
theorem sp5 {F : ip_F} {N : Nat} {el : Nat → Nat} {g : Nat → Nat → Int32} (hN : N ≤ 64) (hE : ES9 N el g F) (hl : ∀ i, i < N → el i < 64) (h : Q (some (.int (if N = 0 then -1 else Int32.ofNat (an9 el 63 N)))) (hs t, F, G)) : wp 5 0 [.ref 124, .float 0, .float 0] [] (hs t, F, G) Q := by
  have loop : ∀ d i, i + d = N → Q (some (.int (Int32.ofNat (an9 el 63 N)))) (hs t, F, G) → wp 5 14 [.ref 124, .int (Int32.ofNat (an9 el 63 i)), .int (Int32.ofNat i)] [] (hs t, F, G) Q := by
    intro d
    induction d with
    | zero =>
      intro i hi h
      obtain rfl : i = N := by omega
      refine rg5_14 ⟨fun _ => h, fun q => ?_⟩
      rw [hE.1] at q
      (simp (disch := omega) only [nn_lit, nn_m1, nn_add, nn_mul, nn_rem, nn_sub, nn_addm1, nn_lt, nn_le, nn_eq, nn_clamp, nn_in, nn_nem1, nn_m1ne, nn_ltm1, nn_m1lt, nn_m1le, nn_lem1, bz_0, bz_n0, not_false_eq_true, not_true_eq_false, true_and, and_true, false_and, and_false, false_implies, true_implies, forall_const, Nat.reduceMul, Nat.reduceAdd, Nat.reduceSub] at q <;> try simp only [nn_bk] at q)
      omega
    | succ d ih =>
      intro i hi h
      refine rg5_14 ⟨fun q => ?_, fun _ => ⟨(nn_in (by omega)).mpr (by omega), ?_⟩⟩
      · rw [hE.1] at q
        (simp (disch := omega) only [nn_lit, nn_m1, nn_add, nn_mul, nn_rem, nn_sub, nn_addm1, nn_lt, nn_le, nn_eq, nn_clamp, nn_in, nn_nem1, nn_m1ne, nn_ltm1, nn_m1lt, nn_m1le, nn_lem1, bz_0, bz_n0, not_false_eq_true, not_true_eq_false, true_and, and_true, false_and, and_false, false_implies, true_implies, forall_const, Nat.reduceMul, Nat.reduceAdd, Nat.reduceSub] at q <;> try simp only [nn_bk] at q)
        omega
      · rw [nn_clamp (by omega), (hE.2 i (by omega)).1, bt_and ⟨_, an_lt (by decide) i⟩ ⟨_, hl i (by omega)⟩, show Int32.ofNat i + 1 = Int32.ofNat (i + 1) from nn_add i 1]
        exact ih (i + 1) (by omega) h
  refine rg5_0 ⟨fun q => ?_, fun q => ?_⟩
  · rw [hE.1] at q
    have h0 : ¬ N = 0 := fun z => q (by rw [z]; rfl)
    rw [if_neg h0] at h
    exact loop N 0 (by omega) h
  · rw [hE.1] at q
    have h0 : N = 0 := (nn_eq (b := 0) (by omega) (by omega)).mp q
    rw [if_pos h0] at h
    exact h
theorem sp6 {F : ip_F} {N : Nat} {el : Nat → Nat} {g : Nat → Nat → Int32} (hN : N ≤ 64) (hE : ES9 N el g F) (hl : ∀ i, i < N → el i < 64) (h : Q (some (.int (Int32.ofNat (or9 el N)))) (hs t, F, G)) : wp 6 0 [.ref 124, .float 0, .float 0] [] (hs t, F, G) Q := by
  have loop : ∀ d i, i + d = N → wp 6 4 [.ref 124, .int (Int32.ofNat (or9 el i)), .int (Int32.ofNat i)] [] (hs t, F, G) Q := by
    intro d
    induction d with
    | zero =>
      intro i hi
      obtain rfl : i = N := by omega
      refine rg6_4 ⟨fun _ => h, fun q => ?_⟩
      rw [hE.1] at q
      (simp (disch := omega) only [nn_lit, nn_m1, nn_add, nn_mul, nn_rem, nn_sub, nn_addm1, nn_lt, nn_le, nn_eq, nn_clamp, nn_in, nn_nem1, nn_m1ne, nn_ltm1, nn_m1lt, nn_m1le, nn_lem1, bz_0, bz_n0, not_false_eq_true, not_true_eq_false, true_and, and_true, false_and, and_false, false_implies, true_implies, forall_const, Nat.reduceMul, Nat.reduceAdd, Nat.reduceSub] at q <;> try simp only [nn_bk] at q)
      omega
    | succ d ih =>
      intro i hi
      refine rg6_4 ⟨fun q => ?_, fun _ => ⟨(nn_in (by omega)).mpr (by omega), ?_⟩⟩
      · rw [hE.1] at q
        (simp (disch := omega) only [nn_lit, nn_m1, nn_add, nn_mul, nn_rem, nn_sub, nn_addm1, nn_lt, nn_le, nn_eq, nn_clamp, nn_in, nn_nem1, nn_m1ne, nn_ltm1, nn_m1lt, nn_m1le, nn_lem1, bz_0, bz_n0, not_false_eq_true, not_true_eq_false, true_and, and_true, false_and, and_false, false_implies, true_implies, forall_const, Nat.reduceMul, Nat.reduceAdd, Nat.reduceSub] at q <;> try simp only [nn_bk] at q)
        omega
      · rw [nn_clamp (by omega), (hE.2 i (by omega)).1, bt_or ⟨_, or_lt i (fun j hj => hl j (by omega))⟩ ⟨_, hl i (by omega)⟩, show Int32.ofNat i + 1 = Int32.ofNat (i + 1) from nn_add i 1]
        exact ih (i + 1) (by omega)
  exact rg6_0 (loop N 0 (by omega))
/-! the reference -/
abbrev HM9 (u : Nat) (F : ip_F) : Prop := u ≤ 4 ∧ F 193 3 = Int32.ofNat u ∧ ∀ j, j < u → ∃ r, 1 ≤ r ∧ r < 12 ∧ F 200 (2 * j) = Int32.ofNat r
abbrev kr9 (F : ip_F) (j : Nat) : Nat := (F 200 (2 * j)).toNatClampNeg
abbrev kv9 (F : ip_F) (j : Nat) : Int32 := F 200 (2 * j + 1)
theorem sp207 {ch c : Nat → Int32} {u k : Nat} {F0 : ip_F} (h4 : 4 ≤ n) (h6 : n ≤ 6) (hk64 : k < 64) (hk : KW9 n c) (hb : F0 193 1 = Int32.ofNat n) (hch : F0 195 = ch) (hc : mr9 F0 = c) (hH : HM9 u F0) (h : ∀ F', (∀ x, x ≠ 205 → F' x = F0 x) → Q (some (.int (bz (ah9 n ch c u (kr9 F0) (kv9 F0) k = true)))) (hs t, F', G)) : wp 207 0 [.ref 193, .int (Int32.ofNat k), .float 0, .float 0] [] (hs t, F0, G) Q := by
  obtain ⟨hu, hu2, hr⟩ := hH
  have loop : ∀ d j F, j + d = u → (∀ x, x ≠ 205 → F x = F0 x) → wp 207 4 [.ref 193, .int (Int32.ofNat k), .int (bz (ah9 n ch c j (kr9 F0) (kv9 F0) k = true)), .int (Int32.ofNat (2 * j))] [] (hs t, F, G) Q := by
    intro d
    induction d with
    | zero =>
      intro j F hj hf
      obtain rfl : j = u := by omega
      refine rg207_4 ⟨fun _ => ⟨bz_and, h F hf⟩, fun q => ?_⟩
      rw [hf 193 (by decide), hu2, show (2 : Int32) * Int32.ofNat j = Int32.ofNat (2 * j) from nn_mul 2 j] at q
      (simp (disch := omega) only [nn_lit, nn_m1, nn_add, nn_mul, nn_rem, nn_sub, nn_addm1, nn_lt, nn_le, nn_eq, nn_clamp, nn_in, nn_nem1, nn_m1ne, nn_ltm1, nn_m1lt, nn_m1le, nn_lem1, bz_0, bz_n0, not_false_eq_true, not_true_eq_false, true_and, and_true, false_and, and_false, false_implies, true_implies, forall_const, Nat.reduceMul, Nat.reduceAdd, Nat.reduceSub] at q <;> try simp only [nn_bk] at q)
      omega
    | succ d ih =>
      intro j F hj hf
      obtain ⟨r, r1, r2, r3⟩ := hr j (by omega)
      have e0 : ah9 n ch c (j + 1) (kr9 F0) (kv9 F0) k = (ah9 n ch c j (kr9 F0) (kv9 F0) k && decide (gn9 n ch c k mk0 (kr9 F0 j) = kv9 F0 j)) := rfl
      have er : kr9 F0 j = r := by
        unfold kr9
        rw [r3, nn_clamp (by omega)]
      have next : ∀ F1 z, (∀ x, x ≠ 205 → F1 x = F0 x) → z = bz (ah9 n ch c (j + 1) (kr9 F0) (kv9 F0) k = true) → ∀ a2, wp 207 45 [.ref 193, .int (Int32.ofNat k), .int a2, .int (Int32.ofNat (2 * j))] [.int z] (hs t, F1, G) Q := by
        intro F1 z f1 hz a2
        refine rg207_45 ?_
        rw [hz, show Int32.ofNat (2 * j) + 2 = Int32.ofNat (2 * (j + 1)) from nn_add (2 * j) 2]
        exact ih (j + 1) F1 (by omega) f1
      refine rg207_4 ⟨fun q => ?_, fun _ => ⟨fun e => next F 0 hf ?_ _, fun e => ⟨(nn_in (by omega)).mpr (by omega), ?_⟩⟩⟩
      · rw [hf 193 (by decide), hu2, show (2 : Int32) * Int32.ofNat u = Int32.ofNat (2 * u) from nn_mul 2 u] at q
        (simp (disch := omega) only [nn_lit, nn_m1, nn_add, nn_mul, nn_rem, nn_sub, nn_addm1, nn_lt, nn_le, nn_eq, nn_clamp, nn_in, nn_nem1, nn_m1ne, nn_ltm1, nn_m1lt, nn_m1le, nn_lem1, bz_0, bz_n0, not_false_eq_true, not_true_eq_false, true_and, and_true, false_and, and_false, false_implies, true_implies, forall_const, Nat.reduceMul, Nat.reduceAdd, Nat.reduceSub] at q <;> try simp only [nn_bk] at q)
        omega
      · rw [bz_c (by rw [e0, Bool.eq_false_iff.mpr (bz_0.mp e), Bool.false_and])]
      · rw [nn_clamp (by omega), hf 200 (by decide), r3]
        refine sp182 (ch := ch) (c := c) h4 h6 r2 hk64 hk (by rw [hf 193 (by decide), hb]) (by rw [hf 195 (by decide), hch]) (by rw [mr_eq (fun x h1 _ => hf x h1), hc]) (fun F1 hf1 => rg207_29 ?_)
        have f1 : ∀ x, x ≠ 205 → F1 x = F0 x := fun x hx => by rw [hf1 x hx, hf x hx]
        rw [show Int32.ofNat (2 * j) + 1 = Int32.ofNat (2 * j + 1) from nn_add (2 * j) 1, nn_clamp (by omega), f1 200 (by decide)]
        refine ⟨(nn_in (by omega)).mpr (by omega), fun e1 => next F1 0 f1 ?_ _, fun e1 => next F1 1 f1 ?_ _⟩
        · rw [bz_c (by rw [e0, er, decide_eq_false (show ¬ gn9 n ch c k mk0 r = kv9 F0 j from e1), Bool.and_false])]
        · rw [bz_b (by rw [e0, er, decide_eq_true (show gn9 n ch c k mk0 r = kv9 F0 j from e1), bz_n0.mp e]; rfl)]
  exact rg207_0 (loop u 0 F0 (by omega) (fun _ _ => rfl))
theorem sp208_30 {ch c : Nat → Int32} {S u w : Nat} {F0 : ip_F} (h4 : 4 ≤ n) (h6 : n ≤ 6) (hS : S < 64) (hw : w ≤ 2) (hk : KW9 n c) (hb : F0 193 1 = Int32.ofNat n) (hch : F0 195 = ch) (hc : mr9 F0 = c) (hH : HM9 u F0) : ∀ d k F, k + d = S + 1 → (∀ x, x ≠ 205 → F x = F0 x) → (∀ F', (∀ x, x ≠ 205 → F' x = F0 x) → Q (some (.int (if w = 0 then Int32.ofNat (sq9 S (ah9 n ch c u (kr9 F0) (kv9 F0)) (S + 1)).1 else if w = 2 then Int32.ofNat (or9 (sq9 S (ah9 n ch c u (kr9 F0) (kv9 F0)) (S + 1)).2 (sq9 S (ah9 n ch c u (kr9 F0) (kv9 F0)) (S + 1)).1) else if (sq9 S (ah9 n ch c u (kr9 F0) (kv9 F0)) (S + 1)).1 = 0 then -1 else Int32.ofNat (an9 (sq9 S (ah9 n ch c u (kr9 F0) (kv9 F0)) (S + 1)).2 S (sq9 S (ah9 n ch c u (kr9 F0) (kv9 F0)) (S + 1)).1)))) (hs t, F', G)) → wp 208 30 [.ref 193, .int (Int32.ofNat w), .int (Int32.ofNat S), .int (Int32.ofNat (sq9 S (ah9 n ch c u (kr9 F0) (kv9 F0)) k).1), .int (Int32.ofNat (an9 (sq9 S (ah9 n ch c u (kr9 F0) (kv9 F0)) k).2 S (sq9 S (ah9 n ch c u (kr9 F0) (kv9 F0)) k).1)), .int (Int32.ofNat (or9 (sq9 S (ah9 n ch c u (kr9 F0) (kv9 F0)) k).2 (sq9 S (ah9 n ch c u (kr9 F0) (kv9 F0)) k).1)), .int (Int32.ofNat k)] [] (hs t, F, G) Q := by
  intro d
  induction d with
  | zero =>
    intro k F hk' hf h
    obtain rfl : k = S + 1 := by omega
    have hQ := h F hf
    have hl := sq_le (S := S) (A := ah9 n ch c u (kr9 F0) (kv9 F0)) (S + 1)
    refine rg208_30 ⟨fun _ => ?_, fun q => ?_⟩
    · match w, hw with
      | 0, _ => exact ⟨fun q => absurd rfl q, fun _ => hQ⟩
      | 1, _ =>
        refine ⟨fun _ => ⟨fun _ => ⟨fun q => ?_, fun q => ?_⟩, fun q => absurd q (by decide)⟩, fun q => absurd q (by decide)⟩
        · rw [if_neg (by decide), if_neg (by decide), if_neg (fun z => q (by rw [z]; rfl))] at hQ
          exact hQ
        · rw [if_neg (by decide), if_neg (by decide), if_pos ((nn_eq (b := 0) (by omega) (by omega)).mp q)] at hQ
          exact hQ
      | 2, _ => exact ⟨fun _ => ⟨fun q => absurd rfl q, fun _ => hQ⟩, fun q => absurd q (by decide)⟩
    · (simp (disch := omega) only [nn_lit, nn_m1, nn_add, nn_mul, nn_rem, nn_sub, nn_addm1, nn_lt, nn_le, nn_eq, nn_clamp, nn_in, nn_nem1, nn_m1ne, nn_ltm1, nn_m1lt, nn_m1le, nn_lem1, bz_0, bz_n0, not_false_eq_true, not_true_eq_false, true_and, and_true, false_and, and_false, false_implies, true_implies, forall_const, Nat.reduceMul, Nat.reduceAdd, Nat.reduceSub] at q <;> try simp only [nn_bk] at q)
      omega
  | succ d ih =>
    intro k F hk' hf h
    have hl := sq_le (S := S) (A := ah9 n ch c u (kr9 F0) (kv9 F0)) k
    have hsub := sq_sub (S := S) (A := ah9 n ch c u (kr9 F0) (kv9 F0)) k
    have stay : ∀ F1, (∀ x, x ≠ 205 → F1 x = F0 x) → (decide (k &&& S = k) && ah9 n ch c u (kr9 F0) (kv9 F0) k) = false → wp 208 71 [.ref 193, .int (Int32.ofNat w), .int (Int32.ofNat S), .int (Int32.ofNat (sq9 S (ah9 n ch c u (kr9 F0) (kv9 F0)) k).1), .int (Int32.ofNat (an9 (sq9 S (ah9 n ch c u (kr9 F0) (kv9 F0)) k).2 S (sq9 S (ah9 n ch c u (kr9 F0) (kv9 F0)) k).1)), .int (Int32.ofNat (or9 (sq9 S (ah9 n ch c u (kr9 F0) (kv9 F0)) k).2 (sq9 S (ah9 n ch c u (kr9 F0) (kv9 F0)) k).1)), .int (Int32.ofNat k)] [] (hs t, F1, G) Q := by
      intro F1 f1 e
      refine rg208_71 ?_
      have := ih (k + 1) F1 (by omega) f1 h
      rw [sq9, if_neg (by rw [e]; exact Bool.false_ne_true)] at this
      rw [show Int32.ofNat k + 1 = Int32.ofNat (k + 1) from nn_add k 1]
      exact this
    refine rg208_30 ⟨fun q => ?_, fun _ => ⟨fun q => stay F hf ?_, fun q => ?_⟩⟩
    · (simp (disch := omega) only [nn_lit, nn_m1, nn_add, nn_mul, nn_rem, nn_sub, nn_addm1, nn_lt, nn_le, nn_eq, nn_clamp, nn_in, nn_nem1, nn_m1ne, nn_ltm1, nn_m1lt, nn_m1le, nn_lem1, bz_0, bz_n0, not_false_eq_true, not_true_eq_false, true_and, and_true, false_and, and_false, false_implies, true_implies, forall_const, Nat.reduceMul, Nat.reduceAdd, Nat.reduceSub] at q <;> try simp only [nn_bk] at q)
      omega
    · rw [bt_sub ⟨k, by omega⟩ ⟨S, hS⟩] at q
      rw [decide_eq_false q, Bool.false_and]
    · rw [bt_sub ⟨k, by omega⟩ ⟨S, hS⟩] at q
      refine sp207 (ch := F 195) (c := mr9 F) (u := u) h4 h6 (by omega) (by rw [mr_eq (fun x h1 _ => hf x h1), hc]; exact hk) (by rw [hf 193 (by decide), hb]) rfl rfl ⟨hH.1, by rw [hf 193 (by decide), hH.2.1], by rw [hf 200 (by decide)]; exact hH.2.2⟩ (fun F1 hf1 => ?_)
      have f1 : ∀ x, x ≠ 205 → F1 x = F0 x := fun x hx => by rw [hf1 x hx, hf x hx]
      have eA : ah9 n (F 195) (mr9 F) u (kr9 F) (kv9 F) k = ah9 n ch c u (kr9 F0) (kv9 F0) k := by
        rw [mr_eq (fun x h1 _ => hf x h1), hc, hf 195 (by decide), hch]
        unfold ah9
        exact ag_congr u (fun j _ => ⟨by show (F 200 _).toNatClampNeg = _; rw [hf 200 (by decide)], by show F 200 _ = _; rw [hf 200 (by decide)], rfl⟩)
      rw [eA]
      refine rg208_51 ⟨fun e => stay F1 f1 (by rw [Bool.eq_false_iff.mpr (bz_0.mp e), Bool.and_false]), fun e => rg208_71 ?_⟩
      have hT : (decide (k &&& S = k) && ah9 n ch c u (kr9 F0) (kv9 F0) k) = true := by rw [decide_eq_true (show k &&& S = k from q), bz_n0.mp e]; rfl
      have := ih (k + 1) F1 (by omega) f1 h
      rw [sq9, if_pos hT] at this
      rw [show Int32.ofNat k + 1 = Int32.ofNat (k + 1) from nn_add k 1, show Int32.ofNat (sq9 S (ah9 n ch c u (kr9 F0) (kv9 F0)) k).1 + 1 = Int32.ofNat ((sq9 S (ah9 n ch c u (kr9 F0) (kv9 F0)) k).1 + 1) from nn_add _ 1, bt_and ⟨_, an_lt hS _⟩ ⟨k, by omega⟩, bt_or ⟨_, or_lt _ (fun i hi => by have := (hsub i hi).2; omega)⟩ ⟨k, by omega⟩]
      have ea : an9 (fun x => if x = (sq9 S (ah9 n ch c u (kr9 F0) (kv9 F0)) k).1 then k else (sq9 S (ah9 n ch c u (kr9 F0) (kv9 F0)) k).2 x) S ((sq9 S (ah9 n ch c u (kr9 F0) (kv9 F0)) k).1 + 1) = an9 (sq9 S (ah9 n ch c u (kr9 F0) (kv9 F0)) k).2 S (sq9 S (ah9 n ch c u (kr9 F0) (kv9 F0)) k).1 &&& k := by
        rw [an9, if_pos rfl]
        congr 1
        exact an_congr _ (fun i hi => by rw [if_neg (by omega)])
      have eo : or9 (fun x => if x = (sq9 S (ah9 n ch c u (kr9 F0) (kv9 F0)) k).1 then k else (sq9 S (ah9 n ch c u (kr9 F0) (kv9 F0)) k).2 x) ((sq9 S (ah9 n ch c u (kr9 F0) (kv9 F0)) k).1 + 1) = or9 (sq9 S (ah9 n ch c u (kr9 F0) (kv9 F0)) k).2 (sq9 S (ah9 n ch c u (kr9 F0) (kv9 F0)) k).1 ||| k := by
        rw [or9, if_pos rfl]
        congr 1
        exact or_congr _ (fun i hi => by rw [if_neg (by omega)])
      dsimp only at this
      rw [ea, eo] at this
      exact this
/-- both sides hear the same -/
theorem ah_eq {F : ip_F} {u : Nat} (h6 : n ≤ 6) (hP : NP9 n F) (hch : ∀ i, i < 6 → F 2 i = F 195 i) (h : ∀ j, j < u → ∀ i, i < 2 → F 16 (4 * j + i) = F 200 (2 * j + i)) : ah9 n (F 2) (F 4) u (hr9 F) (hv9 F) = ah9 n (F 195) (mr9 F) u (kr9 F) (kv9 F) := by
  funext k
  unfold ah9
  refine ag_congr u (fun j hj => ⟨?_, ?_, ?_⟩)
  · show (F 16 _).toNatClampNeg = (F 200 _).toNatClampNeg
    have := h j hj 0 (by omega)
    rw [Nat.add_zero, Nat.add_zero] at this
    rw [this]
  · exact h j hj 1 (by omega)
  · rw [gn_congr h6 hch hP.1]
theorem pr_who {F : ip_F} {a : Int32} (hI : INV t F G) : wp 111 0 [.ref 0, .int a] [] (hs t, F, G) (fun v M => wp 208 0 [.ref 193, .int a, .float 0, .float 0, .float 0, .float 0, .float 0] [] M (ENi v)) := by
  obtain ⟨n, ⟨h4, h6, b1, b2, b3⟩, hP, hU, ⟨u, u1, u2, u3, u4⟩, hN, hM⟩ := hI.2.1
  refine ck111 (fun ha => ?_) (fun hn => ?_)
  · obtain ⟨w, hw, rfl⟩ := nn_bet (b := 2) (by omega) ha.1 ha.2
    refine rg111_6 ⟨fun _ => sp2 h4 h6 b1 hP.2 ⟨u1, u2, fun j hj => (u4 j hj).1⟩ (fun F1 hE hf => ?_), fun q => absurd q (by decide)⟩
    have e : ∀ x, nqc x → F1 x = F x := fun x hx => hf x (npl_q hx) (by unfold nqc at hx; unfold nev; omega)
    have m1 : mr9 F1 = mr9 F := mr_q (fun x hx _ => e x hx)
    have hP1 : NP9 n F1 := np_fr hP (e 4 (by decide)) m1
    have hS : bf9 (hsl (F 4)) 6 < 64 := bf_lt _ 6 (by omega)
    have hS2 : bf9 (hsl (mr9 F1)) n = bf9 (hsl (F 4)) 6 := by rw [m1, sl_eq h6 hP.2 hP.1]
    have eA : ah9 n (F1 195) (mr9 F1) u (kr9 F1) (kv9 F1) = ah9 n (F 2) (F 4) u (hr9 F) (hv9 F) := by
      rw [ah_eq h6 hP b3 (fun j hj => (u4 j hj).2), m1, e 195 (by decide)]
      funext k
      unfold ah9
      exact ag_congr u (fun j _ => ⟨by show (F1 200 _).toNatClampNeg = _; rw [e 200 (by decide)], by show F1 200 _ = _; rw [e 200 (by decide)], rfl⟩)
    generalize hsq : sq9 (bf9 (hsl (F 4)) 6) (ah9 n (F 2) (F 4) u (hr9 F) (hv9 F)) 64 = sq at hE
    have hl : sq.1 ≤ 64 := by rw [← hsq]; exact sq_le 64
    have hsub : ∀ i, i < sq.1 → sq.2 i &&& bf9 (hsl (F 4)) 6 = sq.2 i ∧ sq.2 i < 64 := by rw [← hsq]; exact sq_sub 64
    have model : ∀ z, z = (if w = 0 then Int32.ofNat sq.1 else if w = 2 then Int32.ofNat (or9 sq.2 sq.1) else if sq.1 = 0 then -1 else Int32.ofNat (an9 sq.2 (bf9 (hsl (F 4)) 6) sq.1)) → wp 208 0 [.ref 193, .int (Int32.ofNat w), .float 0, .float 0, .float 0, .float 0, .float 0] [] (hs t, F1, G) (ENi (some (.int z))) := by
      intro z hz
      refine ck208 (fun _ => ?_) (fun hn => absurd ha hn)
      refine rg208_6 ⟨fun _ => sp174 h6 (by rw [e 193 (by decide), b2]) (rg208_18 ?_), fun q => absurd q (by decide)⟩
      rw [hS2]
      refine sp208_30 (ch := F1 195) (c := mr9 F1) (u := u) (F0 := F1) h4 h6 hS hw (kw_m h6 hP1) (by rw [e 193 (by decide), b2]) rfl rfl ⟨u1, by rw [e 193 (by decide), u3], fun j hj => ?_⟩ (bf9 (hsl (F 4)) 6 + 1) 0 F1 (by omega) (fun _ _ => rfl) (fun F2 k2 => en_i (inv_fr hI (fun x h1 h2 => by rw [k2 x h2.1, e x h1])) ?_)
      · obtain ⟨r, r1, r2, r3⟩ := (u4 j hj).1
        have := (u4 j hj).2 0 (by omega)
        exact ⟨r, r1, r2, by rw [e 200 (by decide)]; rw [Nat.add_zero, Nat.add_zero] at this; rw [← this, r3]⟩
      · rw [eA, ← sq_64 hS, hsq]
        exact hz
    refine rg111_34 ?_
    match w, hw with
    | 0, _ =>
      refine ⟨fun q => absurd rfl q, fun _ => ?_⟩
      rw [hE.1]
      exact model _ rfl
    | 1, _ =>
      refine ⟨fun _ => ⟨fun q => absurd rfl q, fun _ => sp5 hl hE (fun i hi => (hsub i hi).2) (rg111_58 (rg111_68 (model _ ?_)))⟩, fun q => absurd q (by decide)⟩
      rw [if_neg (show ¬ (1 = 0) by decide), if_neg (show ¬ (1 = 2) by decide)]
      by_cases h0 : sq.1 = 0
      · rw [if_pos h0, if_pos h0]
      · rw [if_neg h0, if_neg h0]
        obtain ⟨N, hN⟩ : ∃ N, sq.1 = N + 1 := ⟨sq.1 - 1, by omega⟩
        rw [hN] at hsub ⊢
        rw [an_base N hsub]
    | 2, _ => exact ⟨fun _ => ⟨fun _ => sp6 hl hE (fun i hi => (hsub i hi).2) (rg111_68 (model _ rfl)), fun q => absurd q (by decide)⟩, fun q => absurd q (by decide)⟩
  · exact ck208 (fun ha => absurd ha hn) (fun _ => en_bad hI)
end SP
