/-! ===== the fewest slips left out ===== -/
/-- true, if just those of x are made -/
def tw9 (n : Nat) (ch c : Nat → Int32) (x : Nat) : Bool := (fr9 (gn9 n ch c x mk0)).isNone
def mc9 (m : Nat) (T : Nat → Bool) (o : Option Nat) (k : Nat) : Bool := decide (k &&& m = k) && (match o with | none => true | some b => decide (nb9 k < nb9 b)) && T (m ^^^ (m &&& k))
def me9 (m : Nat) (T : Nat → Bool) : Nat → Option Nat
  | 0 => none
  | k + 1 => if mc9 m T (me9 m T k) k = true then some k else me9 m T k
theorem me_lt {m : Nat} {T : Nat → Bool} : ∀ k b, me9 m T k = some b → b < k
  | 0, _, h => by cases h
  | k + 1, b, h => by
    rw [me9] at h
    split at h
    · cases h
      omega
    · have := me_lt k b h
      omega
theorem sub_le {k m : Nat} (h : k &&& m = k) : k ≤ m := by
  rw [← h]
  exact Nat.and_le_right
theorem me_ext {m : Nat} {T : Nat → Bool} : ∀ d, me9 m T (m + 1 + d) = me9 m T (m + 1)
  | 0 => rfl
  | d + 1 => by
    rw [show m + 1 + (d + 1) = (m + 1 + d) + 1 from rfl, me9, if_neg, me_ext d]
    unfold mc9
    simp only [Bool.and_eq_true, decide_eq_true_eq]
    intro q
    have := sub_le q.1.1
    omega
theorem me_64 {m : Nat} {T : Nat → Bool} (hm : m < 64) : me9 m T 64 = me9 m T (m + 1) := by
  obtain ⟨d, hd⟩ : ∃ d, 64 = m + 1 + d := ⟨63 - m, by omega⟩
  rw [hd, me_ext]
theorem xd_lt {m k : Nat} (hm : m < 64) : m ^^^ (m &&& k) < 64 := by
  have h1 : m &&& k < 64 := Nat.lt_of_le_of_lt Nat.and_le_left hm
  exact Nat.xor_lt_two_pow (n := 6) hm h1
section SP
variable {t : Nat} {G : ip_G} {Q : Option Value → ip_M → Prop} {n : Nat}
theorem sp53_28 {ch c : Nat → Int32} {m : Nat} (h4 : 4 ≤ n) (h6 : n ≤ 6) (hm : m < 64) (hW : WR9 n c) : ∀ d k F v5, k + d = 64 → F 4 = c → Mm9 n ch mk0 F → (∀ F', (∀ x, npl x → F' x = F x) → Q (some (.int (en9 (me9 m (tw9 n ch c) 64)))) (hs t, F', G)) → wp 53 28 [.ref 88, .ref 1, .int (Int32.ofNat m), .int (en9 (me9 m (tw9 n ch c) k)), .int (Int32.ofNat k), v5] [] (hs t, F, G) Q := by
  intro d
  induction d with
  | zero =>
    intro k F v5 hk hc hM h
    obtain rfl : k = 64 := by omega
    exact rg53_28 ⟨fun _ => h F (fun _ _ => rfl), fun q => absurd q (by decide)⟩
  | succ d ih =>
    intro k F v5 hk hc hM h
    have step : ∀ F1 a5, (∀ x, nmr x → F1 x = F x) → ∀ z, z = en9 (me9 m (tw9 n ch c) (k + 1)) → wp 53 107 [.ref 88, .ref 1, .int (Int32.ofNat m), .int z, .int (Int32.ofNat k), .int a5] [] (hs t, F1, G) Q := by
      intro F1 a5 fr z hz
      refine rg53_107 ?_
      rw [show Int32.ofNat k + 1 = Int32.ofNat (k + 1) from nn_add k 1, hz]
      exact ih (k + 1) F1 _ (by omega) (by rw [fr 4 (by decide), hc]) ⟨by rw [fr 89 (by decide), hM.1], fun q hq x hx => by rw [fr _ (by unfold nmr; omega)]; exact hM.2.1 q hq x hx, fun x hx => by rw [fr 118 (by decide)]; exact hM.2.2 x hx⟩ (fun F' k1 => h F' (fun x hx => by rw [k1 x hx, fr x hx.2]))
    have stay : mc9 m (tw9 n ch c) (me9 m (tw9 n ch c) k) k = false → en9 (me9 m (tw9 n ch c) k) = en9 (me9 m (tw9 n ch c) (k + 1)) := by
      intro e
      rw [me9, if_neg (by rw [e]; exact Bool.false_ne_true)]
    have go : (match me9 m (tw9 n ch c) k with | none => true | some b => decide (nb9 k < nb9 b)) = true → wp 53 57 [.ref 88, .ref 1, .int (Int32.ofNat m), .int (en9 (me9 m (tw9 n ch c) k)), .int (Int32.ofNat k), v5] [.int 1] (hs t, F, G) Q := by
      intro hfew
      refine rg53_57 ⟨fun q => absurd q (by decide), fun _ => ⟨fun q => step F _ (fun _ _ => rfl) _ (stay ?_), fun q => ?_⟩⟩
      · rw [bt_sub ⟨k, by omega⟩ ⟨m, hm⟩] at q
        unfold mc9
        rw [decide_eq_false q]
        rfl
      · rw [bt_sub ⟨k, by omega⟩ ⟨m, hm⟩] at q
        rw [bt_dif ⟨m, hm⟩ ⟨k, by omega⟩]
        refine sp25 (ok7_3 t) (by decide) h4 h6 (xd_lt hm) (wr_kw h6 (by rw [show F (3 + 1) = c from hc]; exact hW)) mk_0 hM rfl (fun F1 hR hf => rg53_90 (sp31 ?_))
        have hT : (fr9 (F1 117)).isNone = tw9 n ch c (m ^^^ (m &&& k)) := by
          rw [fr_agree (g := F1 117) (g' := gn9 n ch (F 4) (m ^^^ (m &&& k)) mk0) (fun x hx => hR.2 x hx), hc]
          rfl
        rw [hT]
        refine rg53_97 ⟨fun e => rg53_106 (step F1 _ hf _ (stay ?_)), fun e => rg53_106 (step F1 _ hf _ ?_)⟩
        · unfold mc9
          rw [Bool.eq_false_iff.mpr (bz_0.mp e), Bool.and_false]
        · rw [me9, if_pos]
          · rfl
          · unfold mc9
            rw [bz_n0.mp e, hfew, decide_eq_true q]
            rfl
    have no : (match me9 m (tw9 n ch c) k with | none => true | some b => decide (nb9 k < nb9 b)) = false → wp 53 57 [.ref 88, .ref 1, .int (Int32.ofNat m), .int (en9 (me9 m (tw9 n ch c) k)), .int (Int32.ofNat k), v5] [.int 0] (hs t, F, G) Q := by
      intro hfew
      refine rg53_57 ⟨fun _ => step F _ (fun _ _ => rfl) _ (stay ?_), fun q => absurd rfl q⟩
      unfold mc9
      rw [hfew, Bool.and_false, Bool.false_and]
    refine rg53_28 ⟨fun q => ?_, fun _ => ⟨fun e => go ?_, fun e => ?_⟩⟩
    · (simp (disch := omega) only [nn_lit, nn_m1, nn_add, nn_mul, nn_rem, nn_sub, nn_addm1, nn_lt, nn_le, nn_eq, nn_clamp, nn_in, nn_nem1, nn_m1ne, nn_ltm1, nn_m1lt, nn_m1le, nn_lem1, bz_0, bz_n0, not_false_eq_true, not_true_eq_false, true_and, and_true, false_and, and_false, false_implies, true_implies, forall_const, Nat.reduceMul, Nat.reduceAdd, Nat.reduceSub] at q <;> try simp only [nn_bk] at q)
      omega
    · cases e5 : me9 m (tw9 n ch c) k with
      | none => rfl
      | some b =>
        rw [e5] at e
        have := me_lt k b e5
        exact absurd e (nn_nem1 (by omega))
    · cases e5 : me9 m (tw9 n ch c) k with
      | none =>
        rw [e5] at e
        exact absurd rfl e
      | some b =>
        have hb := me_lt k b e5
        rw [e5] at go no
        have h1 := nb_le k
        have h2 := nb_le b
        refine sp236 (by omega) (rg53_45 (sp236 (by omega) (rg53_49 ⟨fun q => no ?_, fun q => go ?_⟩)))
        · (simp (disch := omega) only [nn_lit, nn_m1, nn_add, nn_mul, nn_rem, nn_sub, nn_addm1, nn_lt, nn_le, nn_eq, nn_clamp, nn_in, nn_nem1, nn_m1ne, nn_ltm1, nn_m1lt, nn_m1le, nn_lem1, bz_0, bz_n0, not_false_eq_true, not_true_eq_false, true_and, and_true, false_and, and_false, false_implies, true_implies, forall_const, Nat.reduceMul, Nat.reduceAdd, Nat.reduceSub] at q <;> try simp only [nn_bk] at q)
          exact decide_eq_false (by omega)
        · (simp (disch := omega) only [nn_lit, nn_m1, nn_add, nn_mul, nn_rem, nn_sub, nn_addm1, nn_lt, nn_le, nn_eq, nn_clamp, nn_in, nn_nem1, nn_m1ne, nn_ltm1, nn_m1lt, nn_m1le, nn_lem1, bz_0, bz_n0, not_false_eq_true, not_true_eq_false, true_and, and_true, false_and, and_false, false_implies, true_implies, forall_const, Nat.reduceMul, Nat.reduceAdd, Nat.reduceSub] at q <;> try simp only [nn_bk] at q)
          exact decide_eq_true q
/-- the bound that the reference holds -/
def mf0 : Option Nat → Nat
  | none => 1048576
  | some b => nb9 b
theorem mf_b {o : Option Nat} {k : Nat} : (match o with | none => true | some b => decide (nb9 k < nb9 b)) = decide (nb9 k < mf0 o) := by
  cases o with
  | none =>
    have := nb_le k
    exact (decide_eq_true (show nb9 k < 1048576 by omega)).symm
  | some b => rfl
theorem sp201_13 {ch c : Nat → Int32} {m : Nat} (h4 : 4 ≤ n) (h6 : n ≤ 6) (hm : m < 64) (hk : KW9 n c) : ∀ d k F v5, k + d = m + 1 → F 193 1 = Int32.ofNat n → F 195 = ch → mr9 F = c → (∀ F', (∀ x, nmm x → F' x = F x) → Q (some (.int (en9 (me9 m (tw9 n ch c) (m + 1))))) (hs t, F', G)) → wp 201 13 [.ref 193, .int (Int32.ofNat m), .int (en9 (me9 m (tw9 n ch c) k)), .int (Int32.ofNat (mf0 (me9 m (tw9 n ch c) k))), .int (Int32.ofNat k), v5] [] (hs t, F, G) Q := by
  intro d
  induction d with
  | zero =>
    intro k F v5 hk' hb hch hc h
    obtain rfl : k = m + 1 := by omega
    refine rg201_13 ⟨fun _ => h F (fun _ _ => rfl), fun q => ?_⟩
    (simp (disch := omega) only [nn_lit, nn_m1, nn_add, nn_mul, nn_rem, nn_sub, nn_addm1, nn_lt, nn_le, nn_eq, nn_clamp, nn_in, nn_nem1, nn_m1ne, nn_ltm1, nn_m1lt, nn_m1le, nn_lem1, bz_0, bz_n0, not_false_eq_true, not_true_eq_false, true_and, and_true, false_and, and_false, false_implies, true_implies, forall_const, Nat.reduceMul, Nat.reduceAdd, Nat.reduceSub] at q <;> try simp only [nn_bk] at q)
    omega
  | succ d ih =>
    intro k F v5 hk' hb hch hc h
    have step : ∀ F1 a5, (∀ x, nmm x → F1 x = F x) → ∀ z w, z = en9 (me9 m (tw9 n ch c) (k + 1)) → w = Int32.ofNat (mf0 (me9 m (tw9 n ch c) (k + 1))) → wp 201 71 [.ref 193, .int (Int32.ofNat m), .int z, .int w, .int (Int32.ofNat k), .int a5] [] (hs t, F1, G) Q := by
      intro F1 a5 fr z w hz hw
      refine rg201_71 ?_
      rw [show Int32.ofNat k + 1 = Int32.ofNat (k + 1) from nn_add k 1, hz, hw]
      exact ih (k + 1) F1 _ (by omega) (by rw [fr 193 (by decide), hb]) (by rw [fr 195 (by decide), hch]) (by rw [mr_eq (fun x h1 h2 => fr x ⟨h1, h2⟩), hc]) (fun F' k1 => h F' (fun x hx => by rw [k1 x hx, fr x hx]))
    have stay : mc9 m (tw9 n ch c) (me9 m (tw9 n ch c) k) k = false → me9 m (tw9 n ch c) k = me9 m (tw9 n ch c) (k + 1) := by
      intro e
      rw [me9, if_neg (by rw [e]; exact Bool.false_ne_true)]
    have stop : mc9 m (tw9 n ch c) (me9 m (tw9 n ch c) k) k = false → ∀ F1 a5, (∀ x, nmm x → F1 x = F x) → wp 201 71 [.ref 193, .int (Int32.ofNat m), .int (en9 (me9 m (tw9 n ch c) k)), .int (Int32.ofNat (mf0 (me9 m (tw9 n ch c) k))), .int (Int32.ofNat k), .int a5] [] (hs t, F1, G) Q := by
      intro e F1 a5 fr
      exact step F1 a5 fr _ _ (by rw [stay e]) (by rw [stay e])
    have hnb := nb_le k
    have hmf : mf0 (me9 m (tw9 n ch c) k) ≤ 1048576 := by
      cases me9 m (tw9 n ch c) k with
      | none => exact Nat.le_refl _
      | some b =>
        have := nb_le b
        show nb9 b ≤ 1048576
        omega
    refine rg201_13 ⟨fun q => ?_, fun _ => ⟨fun q => rg201_42 ⟨fun _ => stop ?_ F _ (fun _ _ => rfl), fun q => absurd rfl q⟩, fun q => sp147 (by omega) (rg201_33 ⟨fun e => rg201_42 ⟨fun _ => stop ?_ F _ (fun _ _ => rfl), fun q => absurd rfl q⟩, fun e => rg201_42 ⟨fun q => absurd q (by decide), fun _ => ?_⟩⟩)⟩⟩
    · (simp (disch := omega) only [nn_lit, nn_m1, nn_add, nn_mul, nn_rem, nn_sub, nn_addm1, nn_lt, nn_le, nn_eq, nn_clamp, nn_in, nn_nem1, nn_m1ne, nn_ltm1, nn_m1lt, nn_m1le, nn_lem1, bz_0, bz_n0, not_false_eq_true, not_true_eq_false, true_and, and_true, false_and, and_false, false_implies, true_implies, forall_const, Nat.reduceMul, Nat.reduceAdd, Nat.reduceSub] at q <;> try simp only [nn_bk] at q)
      omega
    · rw [bt_sub ⟨k, by omega⟩ ⟨m, hm⟩] at q
      unfold mc9
      rw [decide_eq_false q]
      rfl
    · (simp (disch := omega) only [nn_lit, nn_m1, nn_add, nn_mul, nn_rem, nn_sub, nn_addm1, nn_lt, nn_le, nn_eq, nn_clamp, nn_in, nn_nem1, nn_m1ne, nn_ltm1, nn_m1lt, nn_m1le, nn_lem1, bz_0, bz_n0, not_false_eq_true, not_true_eq_false, true_and, and_true, false_and, and_false, false_implies, true_implies, forall_const, Nat.reduceMul, Nat.reduceAdd, Nat.reduceSub] at e <;> try simp only [nn_bk] at e)
      unfold mc9
      rw [mf_b, decide_eq_false (show ¬ nb9 k < mf0 (me9 m (tw9 n ch c) k) by omega), Bool.and_false, Bool.false_and]
    · (simp (disch := omega) only [nn_lit, nn_m1, nn_add, nn_mul, nn_rem, nn_sub, nn_addm1, nn_lt, nn_le, nn_eq, nn_clamp, nn_in, nn_nem1, nn_m1ne, nn_ltm1, nn_m1lt, nn_m1le, nn_lem1, bz_0, bz_n0, not_false_eq_true, not_true_eq_false, true_and, and_true, false_and, and_false, false_implies, true_implies, forall_const, Nat.reduceMul, Nat.reduceAdd, Nat.reduceSub] at e <;> try simp only [nn_bk] at e)
      rw [bt_sub ⟨k, by omega⟩ ⟨m, hm⟩] at q
      rw [bt_dif ⟨m, hm⟩ ⟨k, by omega⟩]
      refine sp185 (ch := ch) (c := c) h4 h6 (xd_lt hm) hk hb hch hc (fun F1 hf => rg201_59 ⟨fun e1 => stop ?_ F1 _ hf, fun e1 => sp147 (by omega) (rg201_70 (step F1 _ hf _ _ ?_ ?_))⟩)
      · have e1 : ¬ tw9 n ch c (m ^^^ (m &&& k)) = true := bz_0.mp e1
        unfold mc9
        rw [Bool.eq_false_iff.mpr e1, Bool.and_false]
      · have e1 : tw9 n ch c (m ^^^ (m &&& k)) = true := bz_n0.mp e1
        rw [me9, if_pos (by unfold mc9; rw [mf_b, decide_eq_true e, decide_eq_true q, e1]; rfl)]
        rfl
      · have e1 : tw9 n ch c (m ^^^ (m &&& k)) = true := bz_n0.mp e1
        rw [me9, if_pos (by unfold mc9; rw [mf_b, decide_eq_true e, decide_eq_true q, e1]; rfl)]
        rfl
theorem tw_congr {ch ch' c c' : Nat → Int32} (hn : n ≤ 6) (h : SR9 n c c') (hch : ∀ i, i < 6 → ch i = ch' i) : tw9 n ch c = tw9 n ch' c' := by
  funext x
  unfold tw9
  rw [gn_congr hn hch h]
theorem pr_mend {F : ip_F} (hI : INV t F G) : wp 106 0 [.ref 0] [] (hs t, F, G) (fun v M => wp 201 0 [.ref 193, .float 0, .float 0, .float 0, .float 0, .float 0] [] M (ENi v)) := by
  obtain ⟨n, ⟨h4, h6, b1, b2, b3⟩, hP, -⟩ := hI.2.1
  refine rg106_0 (rg53_0 (sp79 (ok7_3 t) (rg53_7 ?_)))
  rw [b1]
  have hm : bf9 (mks (F 4)) 6 < 64 := bf_lt _ 6 (by omega)
  refine sp22 (a := 2) rfl (by decide) h4 h6 rfl (fun F1 hM hf => rg53_25 (sp53_28 (m := bf9 (mks (F 4)) 6) (c := F 4) h4 h6 hm hP.2 64 0 F1 _ rfl (hf 4 (by decide)) ⟨hM.1, hM.2.1, hM.2.2.2⟩ (fun F2 k1 => rg106_11 ?_)))
  have e : ∀ x, nqc x → F2 x = F x := fun x hx => by rw [k1 x (npl_q hx), hf x (npl_q hx).1]
  have m1 : mr9 F2 = mr9 F := mr_q (fun x hx _ => e x hx)
  have hP2 : NP9 n F2 := np_fr hP (e 4 (by decide)) m1
  refine rg201_0 (sp175 h6 (by rw [e 193 (by decide), b2]) (kd_of h6 hP2) (rg201_4 ?_))
  refine sp201_13 (m := bf9 (mks (mr9 F2)) n) (ch := F2 195) (c := mr9 F2) h4 h6 (bf_lt _ n h6) (kw_m h6 hP2) (bf9 (mks (mr9 F2)) n + 1) 0 F2 _ (by omega) (by rw [e 193 (by decide), b2]) rfl rfl (fun F3 k3 => en_i (inv_fr hI (fun x h1 h2 => by rw [k3 x ⟨h2.1, h2.2.1⟩, e x h1])) ?_)
  rw [me_64 hm, m1, e 195 (by decide), ← md_eq h6 hP.2 hP.1, tw_congr h6 hP.1 b3]
end SP
