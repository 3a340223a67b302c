/-! ===== years that go by ===== -/
/-- true, as the ropes stand -/
def tr9 (n : Nat) (ch c : Nat → Int32) : Bool := (fr9 (gn9 n ch c (bf9 (mks c) 6) mk0)).isNone
theorem tr_eq {n : Nat} {ch ch' c c' : Nat → Int32} (hn : n ≤ 6) (hw : WR9 n c) (h : SR9 n c c') (hch : ∀ i, i < 6 → ch i = ch' i) : (fr9 (gn9 n ch' c' (bf9 (mks c') n) mk0)).isNone = tr9 n ch c := by
  unfold tr9
  rw [md_eq hn hw h, gn_congr hn hch h]
theorem kd_sr {n : Nat} {F : ip_F} {c : Nat → Int32} (hn : n ≤ 6) (h : SR9 n c (mr9 F)) (hw : WR9 n c) : ∀ r, r < n → kd9 (F 198 r) := by
  intro r hr
  rw [← mr_12 (F := F) (by omega), ← h (12 + r) (by omega)]
  exact hw.2 r (by omega)
/-- in how many years it is true first -/
def wh9 (n : Nat) (ch : Nat → Int32) : Nat → Nat → (Nat → Int32) → Int32
  | 0, _, _ => -1
  | d + 1, y, c => if tr9 n ch c = true then Int32.ofNat y else wh9 n ch d (y + 1) (py9 c)
theorem inv_rq {t n : Nat} {F F' : ip_F} {G : ip_G} (h : INV t F G) (hN : NR9 n F) (e : ∀ x, nqc x → nqm x → (x ≠ 4 ∧ x ≠ 5 ∧ (x < 7 ∨ 14 < x) ∧ x ≠ 193 ∧ (x < 196 ∨ 199 < x) ∧ x ≠ 207) → F' x = F x) (e93 : ∀ x, x ≠ 2 → x ≠ 22 → F' 193 x = F 193 x) (hP : NP9 n F') (hU : NU9 n F') : INV t F' G := by
  obtain ⟨hB, -, -, hH, hN, hM⟩ := hN
  exact inv_nw (n := n) h (fun x hx => e x (by unfold nqc; omega) (by unfold nqm; omega) (by omega)) (e93 15 (by decide) (by decide)) ⟨nb_fr hB (by rw [e 1 (by decide) (by decide) (by decide)]) (e 2 (by decide) (by decide) (by decide)) (e93 1 (by decide) (by decide)) (e 195 (by decide) (by decide) (by decide)), hP, hU, nh_fr hH (by rw [e 15 (by decide) (by decide) (by decide)]) (e 16 (by decide) (by decide) (by decide)) (e93 3 (by decide) (by decide)) (e 200 (by decide) (by decide) (by decide)), nn_fr hN (by rw [e 17 (by decide) (by decide) (by decide)]) (e 18 (by decide) (by decide) (by decide)) (e93 4 (by decide) (by decide)) (e 201 (by decide) (by decide) (by decide)), nm_fr hM (by rw [e 19 (by decide) (by decide) (by decide)]) (e 20 (by decide) (by decide) (by decide)) (e93 5 (by decide) (by decide)) (e 202 (by decide) (by decide) (by decide))⟩
/-- the reference took its ropes back -/
theorem inv_bk {t n : Nat} {F F' : ip_F} {G : ip_G} (h : INV t F G) (hN : NR9 n F) (e : ∀ x, nqc x → nqm x → (x ≠ 193 ∧ (x < 196 ∨ 199 < x)) → F' x = F x) (e93 : ∀ x, F' 193 x = F 193 x) (em : ∀ i, i < 25 → mr9 F' i = mr9 F i) : INV t F' G := by
  obtain ⟨hB, hP, hU, hR⟩ := id hN
  refine inv_rq h hN (fun x h1 h2 h3 => e x h1 h2 (by omega)) (fun x _ _ => e93 x) ⟨?_, ?_⟩ (nu_fr hU (by rw [e 5 (by decide) (by decide) (by decide)]) (e93 22) (fun j hj => e _ (by unfold nqc; omega) (by unfold nqm; omega) (by omega)) (e 207 (by decide) (by decide) (by decide)))
  · rw [e 4 (by decide) (by decide) (by decide)]
    exact sr_to hB.2.1 hP.1 em
  · rw [e 4 (by decide) (by decide) (by decide)]
    exact hP.2
section SP
variable {t : Nat} {G : ip_G} {Q : Option Value → ip_M → Prop} {n : Nat}
theorem sp194_21 {N : Nat} (hN : N ≤ 60) (hn : n ≤ 6) : ∀ d i F c, i + d = N → F 193 1 = Int32.ofNat n → SR9 n c (mr9 F) → (∀ F' i', SR9 n (pys9 d c) (mr9 F') → (∀ x, x ≠ 2 → F' 193 x = F 193 x) → (∀ b, b ≠ 193 → b ≠ 199 → F' b = F b) → wp 194 46 [.ref 193, .int (Int32.ofNat N), .int i'] [] (hs t, F', G) Q) → wp 194 21 [.ref 193, .int (Int32.ofNat N), .int (Int32.ofNat i)] [] (hs t, F, G) Q := by
  intro d
  induction d with
  | zero =>
    intro i F c hi hb hS h
    obtain rfl : i = N := by omega
    refine rg194_21 ⟨fun _ => h F _ hS (fun _ _ => rfl) (fun _ _ _ => rfl), fun q => ?_⟩
    (simp (disch := omega) only [nn_lit, nn_m1, nn_add, nn_mul, nn_rem, nn_sub, nn_addm1, nn_lt, nn_le, nn_eq, nn_clamp, nn_in, nn_nem1, nn_m1ne, nn_ltm1, nn_m1lt, nn_m1le, nn_lem1, bz_0, bz_n0, not_false_eq_true, not_true_eq_false, true_and, and_true, false_and, and_false, false_implies, true_implies, forall_const, Nat.reduceMul, Nat.reduceAdd, Nat.reduceSub] at q <;> try simp only [nn_bk] at q)
    omega
  | succ d ih =>
    intro i F c hi hb hS h
    have e24 : F 193 2 = c 24 := (hS 24 (by omega)).symm
    refine rg194_21 ⟨fun q => ?_, fun _ => ⟨fun q => ?_, fun q => sp190 hn hb (fun F1 g1 g2 g3 => rg194_40 ?_)⟩⟩
    · (simp (disch := omega) only [nn_lit, nn_m1, nn_add, nn_mul, nn_rem, nn_sub, nn_addm1, nn_lt, nn_le, nn_eq, nn_clamp, nn_in, nn_nem1, nn_m1ne, nn_ltm1, nn_m1lt, nn_m1le, nn_lem1, bz_0, bz_n0, not_false_eq_true, not_true_eq_false, true_and, and_true, false_and, and_false, false_implies, true_implies, forall_const, Nat.reduceMul, Nat.reduceAdd, Nat.reduceSub] at q <;> try simp only [nn_bk] at q)
      omega
    · rw [e24] at q
      rw [pys9, if_neg (Int32.not_lt.mpr q)] at h
      exact h F _ hS (fun _ _ => rfl) (fun _ _ _ => rfl)
    · rw [e24] at q
      rw [pys9, if_pos q] at h
      rw [show Int32.ofNat i + 1 = Int32.ofNat (i + 1) from nn_add i 1]
      have e93 : ∀ x, x ≠ 2 → F1 193 x = F 193 x := fun x hx => by rw [g2, ups, if_neg hx]
      exact ih (i + 1) F1 (py9 c) (by omega) (by rw [e93 1 (by decide), hb]) (sr_py hn hS g1 g2 g3) (fun F' i' k1 k2 k3 => h F' i' k1 (fun x hx => by rw [k2 x hx, e93 x hx]) (fun b hb hb2 => by rw [k3 b hb hb2, g3 b hb2 hb]))
theorem pr_year {F : ip_F} {a : Int32} (hI : INV t F G) : wp 100 0 [.ref 0, .int a] [] (hs t, F, G) (fun v M => wp 194 0 [.ref 193, .int a, .float 0] [] M (ENi v)) := by
  obtain ⟨n, hB, hP, ⟨u, u1, u2, u3, u4⟩, hR⟩ := id hI.2.1
  obtain ⟨h4, h6, b1, b2, b3⟩ := id hB
  refine ck100 (fun ha => ?_) (fun hn => ?_)
  · obtain ⟨N, hN1, hN, rfl⟩ := nn_bt (a := 1) (b := 60) (by omega) ha.1 (by omega) ha.2
    refine rg100_7 ⟨fun _ => sp17 ok1_5 (ok7_3 t) ⟨by decide, Or.inl (by decide)⟩ u1 u2 (fun F1 v1 d1 d2 d3 d4 d5 d6 d7 => rg100_34 (sp76 (ok7_3 t) (by omega) (fun F2 d8 d9 => rg100_45 ?_))), fun q => absurd q (by decide)⟩
    have e2 : ∀ x, x ≠ 4 → x ≠ 5 → (x < 7 ∨ 14 < x) → F2 x = F x := fun x h1 h2 h3 => by rw [d9 x h1, d7 x h2 h3]
    have e4 : F2 4 = pys9 N (F 4) := by
      refine d8.trans ?_
      rw [show F1 (3 + 1) = F 4 from d7 4 (by decide) (by decide)]
    have hW : WR9 n (F2 4) := by rw [e4]; exact wr_pys N _ hP.2
    refine sp135 h4 h6 (wr_kw h6 hW) (by rw [e2 1 (by decide) (by decide) (by decide), b1]) rfl rfl (fun F3 hPl hf => rg100_49 (sp31 ?_))
    have e3 : ∀ x, nqc x → F3 x = F2 x := fun x hx => hf x (npl_q hx)
    have e32 : ∀ x, 192 < x → F3 x = F x := fun x hx => by rw [e3 x (by unfold nqc; omega), e2 x (by omega) (by omega) (by omega)]
    have m3 : mr9 F3 = mr9 F := mr_fr (by rw [e32 193 (by decide)]) (e32 196 (by decide)) (e32 197 (by decide)) (e32 198 (by decide)) (e32 199 (by decide))
    have z3 : (fr9 (F3 117)).isNone = tr9 n (F 2) (F2 4) := by
      rw [fr_agree (g := F3 117) (g' := gn9 n (F2 2) (F2 4) (bf9 (mks (F2 4)) 6) mk0) (fun x hx => hPl.2.2 x hx), e2 2 (by decide) (by decide) (by decide)]
      rfl
    rw [z3]
    have key : ∀ z, z = bz (tr9 n (F 2) (F2 4) = true) → wp 194 0 [.ref 193, .int (Int32.ofNat N), .float 0] [] (hs t, F3, G) (ENi (some (.int z))) := by
      intro z hz
      refine ck194 (fun _ => ?_) (fun hn => absurd ha hn)
      refine rg194_7 ⟨fun _ => sp189 u1 (by rw [e32 193 (by decide), u3]) (fun F4 v2 g1 g2 g3 g4 g5 g6 g7 g8 => rg194_19 ?_), fun q => absurd q (by decide)⟩
      have m4 : mr9 F4 = mr9 F := by rw [← m3]; exact mr_fr (g7 2 (by decide)) (g8 196 (by decide) (by decide)) (g8 197 (by decide) (by decide)) (g8 198 (by decide) (by decide)) (g8 199 (by decide) (by decide))
      refine sp194_21 hN h6 N 0 F4 (F 4) (by omega) (by rw [g7 1 (by decide), e32 193 (by decide), b2]) (by rw [m4]; exact hP.1) (fun F5 i' k1 k2 k3 => rg194_46 ?_)
      rw [← e4] at k1
      have b5 : F5 193 1 = Int32.ofNat n := by rw [k2 1 (by decide), g7 1 (by decide), e32 193 (by decide), b2]
      have c5 : F5 195 = F 195 := by rw [k3 195 (by decide) (by decide), g8 195 (by decide) (by decide), e32 195 (by decide)]
      refine sp175 h6 b5 (kd_sr h6 k1 hW) (rg194_51 (sp185 (ch := F5 195) (c := mr9 F5) h4 h6 (bf_lt _ n h6) (sr_kw h6 k1 (wr_kw h6 hW)) b5 rfl rfl (fun F6 hf6 => ?_)))
      rw [tr_eq (ch := F 2) h6 hW k1 (fun i hi => by rw [c5]; exact b3 i hi)]
      have hfin : ENi (some (.int z)) (some (.int (bz (tr9 n (F 2) (F2 4) = true)))) (hs t, F6, G) := by
        have f4 : F6 4 = F2 4 := by rw [hf6 4 (by decide), k3 4 (by decide) (by decide), g8 4 (by decide) (by decide), e3 4 (by decide)]
        have m6 : mr9 F6 = mr9 F5 := mr_eq (fun x h1 h2 => hf6 x ⟨h1, h2⟩)
        refine en_i (inv_rq (n := n) hI ⟨hB, hP, ⟨u, u1, u2, u3, u4⟩, hR⟩ (fun x h1 h2 hx => ?_) (fun x h1 h2 => by rw [hf6 193 (by decide), k2 x h1, g7 x h2, e32 193 (by decide)]) ?_ ?_) hz
        · rw [hf6 x ⟨h2.1, h2.2.1⟩, k3 x hx.2.2.2.1 (by omega), g8 x hx.2.2.2.1 hx.2.2.2.2.2, e3 x h1, e2 x hx.1 hx.2.1 hx.2.2.1]
        · unfold NP9
          rw [f4, m6]
          exact ⟨k1, hW⟩
        · refine nu_keep h6 hP u1 u4 d1 d3 d4 g3 g4 ?_ ?_ (fun j hj x hx => ?_) (fun j hj i hi => ?_)
          · rw [hf6 5 (by decide), k3 5 (by decide) (by decide), g8 5 (by decide) (by decide), e3 5 (by decide), d9 5 (by decide), d5]
          · rw [hf6 193 (by decide), k2 22 (by decide), g5]
          · rw [hf6 _ (by unfold nmm; omega), k3 _ (by omega) (by omega), g8 _ (by omega) (by omega), e3 _ (by unfold nqc; omega), d9 _ (by omega)]
            exact d6 j hj x hx
          · rw [hf6 207 (by decide), k3 207 (by decide) (by decide), g6 j hj i hi, m3, e32 207 (by decide)]
      refine rg194_54 ⟨fun e => ?_, fun e => ?_⟩
      · rwa [bz_f (bz_0.mp e)] at hfin
      · rwa [bz_t (bz_n0.mp e)] at hfin
    refine rg100_52 ⟨fun e => key _ ?_, fun e => key _ ?_⟩
    · rw [bz_f (bz_0.mp e)]
    · rw [bz_t (bz_n0.mp e)]
  · exact ck194 (fun ha => absurd ha hn) (fun _ => en_bad hI)
/-! when -/
theorem sp57_28 {ch : Nat → Int32} (h4 : 4 ≤ n) (h6 : n ≤ 6) : ∀ d y F c, y + d = 61 → WR9 n c → F 120 = c → Mm9 n ch mk0 F → (∀ F', (∀ x, npl x → x ≠ 120 → F' x = F x) → Q (some (.int (wh9 n ch d y c))) (hs t, F', G)) → wp 57 28 [.ref 88, .ref 1, .int (Int32.ofNat y)] [] (hs t, F, G) Q := by
  intro d
  induction d with
  | zero =>
    intro y F c hy hW hc hM h
    obtain rfl : y = 61 := by omega
    exact rg57_28 ⟨fun _ => h F (fun _ _ _ => rfl), fun q => absurd q (by decide)⟩
  | succ d ih =>
    intro y F c hy hW hc hM h
    rw [wh9] at h
    refine rg57_28 ⟨fun q => ?_, fun _ => sp79 (ok7_119 t) (rg57_49 (sp25 (ok7_119 t) (by decide) h4 h6 (bf_lt _ 6 (by omega)) (wr_kw h6 (by rw [hc]; exact hW)) mk_0 hM rfl (fun F1 hR hf => rg57_52 (sp31 (rg57_59 ⟨fun e => ?_, fun e => ?_⟩)))))⟩
    · (simp (disch := omega) only [nn_lit, nn_m1, nn_add, nn_mul, nn_rem, nn_sub, nn_addm1, nn_lt, nn_le, nn_eq, nn_clamp, nn_in, nn_nem1, nn_m1ne, nn_ltm1, nn_m1lt, nn_m1le, nn_lem1, bz_0, bz_n0, not_false_eq_true, not_true_eq_false, true_and, and_true, false_and, and_false, false_implies, true_implies, forall_const, Nat.reduceMul, Nat.reduceAdd, Nat.reduceSub] at q <;> try simp only [nn_bk] at q)
      omega
    · rw [bz_0] at e
      have e : ¬ tr9 n ch c = true := fun q => e (by rw [fr_agree (g := F1 117) (g' := gn9 n ch (F 120) (bf9 (mks (F 120)) 6) mk0) (fun x hx => hR.2 x hx), hc]; exact q)
      rw [if_neg e] at h
      refine sp75 (ok7_119 t) (fun F2 g1 g2 => rg57_71 ?_)
      rw [show Int32.ofNat y + 1 = Int32.ofNat (y + 1) from nn_add y 1]
      have fr : ∀ x, nmr x → x ≠ 120 → F2 x = F x := fun x h1 h2 => by rw [g2 x h2, hf x h1]
      refine ih (y + 1) F2 (py9 c) (by omega) (wr_py hW) ?_ ⟨by rw [fr 89 (by decide) (by decide), hM.1], fun k hk x hx => by rw [fr _ (by unfold nmr; omega) (by omega)]; exact hM.2.1 k hk x hx, fun x hx => by rw [fr 118 (by decide) (by decide)]; exact hM.2.2 x hx⟩ (fun F' k1 => h F' (fun x h1 h2 => by rw [k1 x h1 h2, fr x h1.2 h2]))
      rw [← hc, ← hf 120 (by decide)]
      exact g1
    · rw [bz_n0] at e
      have e : tr9 n ch c = true := by rw [fr_agree (g := F1 117) (g' := gn9 n ch (F 120) (bf9 (mks (F 120)) 6) mk0) (fun x hx => hR.2 x hx), hc] at e; exact e
      rw [if_pos e] at h
      exact h F1 (fun x h1 _ => hf x h1.2)
theorem sp57 {F : ip_F} (h4 : 4 ≤ n) (h6 : n ≤ 6) (b1 : F 1 6 = Int32.ofNat n) (hW : WR9 n (F 4)) (h : ∀ c, (∀ i, i < 25 → c i = F 4 i) → ∀ F', (∀ x, npl x → x ≠ 120 → F' x = F x) → Q (some (.int (wh9 n (F 2) 61 0 c))) (hs t, F', G)) : wp 57 0 [.ref 88, .ref 1, .float 0] [] (hs t, F, G) Q := by
  refine rg57_0 (sp63 (ok7_119 t) (ok7_3 t) (fun F1 g1 g2 => rg57_11 ?_))
  have e : ∀ b, b ≠ 120 → F1 b = F b := g2
  have g1 : ∀ i, i < 25 → F1 120 i = F 4 i := g1
  rw [e 1 (by decide), b1]
  refine sp22 (a := 2) rfl (by decide) h4 h6 (e 2 (by decide)) (fun F2 hM hf => rg57_26 (sp57_28 h4 h6 61 0 F2 (F1 120) rfl (wr_congr hW g1) (hf 120 (by decide)) ⟨hM.1, hM.2.1, hM.2.2.2⟩ (fun F' k1 => h (F1 120) g1 F' (fun x h1 h2 => by rw [k1 x h1 h2, hf x h1.1, e x h2]))))
theorem sp203_20 {ch : Nat → Int32} (h4 : 4 ≤ n) (h6 : n ≤ 6) : ∀ d y F c, y + d = 60 → WR9 n c → SR9 n c (mr9 F) → F 193 1 = Int32.ofNat n → (∀ i, i < 6 → ch i = F 195 i) → (∀ F' y' (z : Bool), (∀ x, nmm x → x ≠ 193 → x ≠ 199 → F' x = F x) → (∀ x, x ≠ 2 → F' 193 x = F 193 x) → (if z = true then Int32.ofNat y' else -1) = wh9 n ch (d + 1) y c → wp 203 49 [.ref 193, .int (Int32.ofNat y'), .int (bz (z = true))] [] (hs t, F', G) Q) → wp 203 20 [.ref 193, .int (Int32.ofNat y), .int (bz (tr9 n ch c = true))] [] (hs t, F, G) Q := by
  intro d
  induction d with
  | zero =>
    intro y F c hy hW hS hb hch h
    obtain rfl : y = 60 := by omega
    refine rg203_20 ⟨fun _ => h F 60 _ (fun _ _ _ _ => rfl) (fun _ _ => rfl) rfl, fun q => absurd q (by decide)⟩
  | succ d ih =>
    intro y F c hy hW hS hb hch h
    refine rg203_20 ⟨fun q => ?_, fun _ => ⟨fun e => h F y _ (fun _ _ _ _ => rfl) (fun _ _ => rfl) ?_, fun e => sp190 h6 hb (fun F1 g1 g2 g3 => rg203_34 ?_)⟩⟩
    · (simp (disch := omega) only [nn_lit, nn_m1, nn_add, nn_mul, nn_rem, nn_sub, nn_addm1, nn_lt, nn_le, nn_eq, nn_clamp, nn_in, nn_nem1, nn_m1ne, nn_ltm1, nn_m1lt, nn_m1le, nn_lem1, bz_0, bz_n0, not_false_eq_true, not_true_eq_false, true_and, and_true, false_and, and_false, false_implies, true_implies, forall_const, Nat.reduceMul, Nat.reduceAdd, Nat.reduceSub] at q <;> try simp only [nn_bk] at q)
      omega
    · rw [bz_n0] at e
      rw [if_pos e, wh9, if_pos e]
    · rw [bz_0] at e
      have e93 : ∀ x, x ≠ 2 → F1 193 x = F 193 x := fun x hx => by rw [g2, ups, if_neg hx]
      have b1 : F1 193 1 = Int32.ofNat n := by rw [e93 1 (by decide), hb]
      have hS1 := sr_py h6 hS g1 g2 g3
      have hW1 := wr_py hW
      have hc1 : ∀ i, i < 6 → ch i = F1 195 i := fun i hi => by rw [g3 195 (by decide) (by decide)]; exact hch i hi
      refine sp175 h6 b1 (kd_sr h6 hS1 hW1) (rg203_42 (sp185 (ch := F1 195) (c := mr9 F1) h4 h6 (bf_lt _ n h6) (sr_kw h6 hS1 (wr_kw h6 hW1)) b1 rfl rfl (fun F2 hf => rg203_45 ?_)))
      rw [tr_eq (ch := ch) h6 hW1 hS1 hc1, show Int32.ofNat y + 1 = Int32.ofNat (y + 1) from nn_add y 1]
      refine ih (y + 1) F2 (py9 c) (by omega) hW1 (by rw [mr_eq (fun x h1 h2 => hf x ⟨h1, h2⟩)]; exact hS1) (by rw [hf 193 (by decide), b1]) (fun i hi => by rw [hf 195 (by decide)]; exact hc1 i hi) (fun F' y' z k1 k2 k3 => h F' y' z (fun x h1 h2 h3 => by rw [k1 x h1 h2 h3, hf x h1, g3 x h3 h2]) (fun x hx => by rw [k2 x hx, hf 193 (by decide), e93 x hx]) ?_)
      refine k3.trans ?_
      show _ = if tr9 n ch c = true then Int32.ofNat y else wh9 n ch (d + 1) (y + 1) (py9 c)
      rw [if_neg e]
theorem pr_when {F : ip_F} (hI : INV t F G) : wp 108 0 [.ref 0] [] (hs t, F, G) (fun v M => wp 203 0 [.ref 193, .float 0, .float 0] [] M (ENi v)) := by
  obtain ⟨n, hN⟩ := hI.2.1
  obtain ⟨⟨h4, h6, b1, b2, b3⟩, hP, -⟩ := id hN
  refine rg108_0 (sp57 h4 h6 b1 hP.2 (fun c hc F1 hf => rg108_11 ?_))
  have e : ∀ x, nqc x → F1 x = F x := fun x hx => hf x (npl_q hx) (by unfold nqc at hx; omega)
  have m1 : mr9 F1 = mr9 F := mr_q (fun x hx _ => e x hx)
  have hW : WR9 n c := wr_congr hP.2 hc
  refine rg203_0 (sp187 (a := 208) (n1 := 25) (p := 0) rfl (by omega) (by omega) (by omega) (fun F2 g1 g2 g3 => rg203_9 ?_))
  have m2 : mr9 F2 = mr9 F := by rw [← m1]; exact mr_fr (by rw [g3 193 (by decide)]) (g3 196 (by decide)) (g3 197 (by decide)) (g3 198 (by decide)) (g3 199 (by decide))
  have hS : SR9 n c (mr9 F2) := by rw [m2]; exact sr_congr h6 hP.1 hc (fun _ _ => rfl)
  have b4 : F2 193 1 = Int32.ofNat n := by rw [g3 193 (by decide), e 193 (by decide), b2]
  have hch : ∀ i, i < 6 → F 2 i = F2 195 i := fun i hi => by rw [g3 195 (by decide), e 195 (by decide)]; exact b3 i hi
  refine sp175 h6 b4 (kd_sr h6 hS hW) (rg203_16 (sp185 (ch := F2 195) (c := mr9 F2) h4 h6 (bf_lt _ n h6) (sr_kw h6 hS (wr_kw h6 hW)) b4 rfl rfl (fun F3 hf3 => rg203_19 ?_)))
  rw [tr_eq (ch := F 2) h6 hW hS hch]
  refine sp203_20 h4 h6 60 0 F3 c rfl hW (by rw [mr_eq (fun x h1 h2 => hf3 x ⟨h1, h2⟩)]; exact hS) (by rw [hf3 193 (by decide), b4]) (fun i hi => by rw [hf3 195 (by decide)]; exact hch i hi) (fun F4 y' z k1 k2 k3 => rg203_49 (sp188 (a := 208) (n1 := 25) (p := 0) rfl (by omega) (by omega) (by omega) (fun F5 l1 _ l2 l3 => ?_)))
  have e8 : F4 208 = F2 208 := by rw [k1 208 (by decide) (by decide) (by decide), hf3 208 (by decide)]
  have fin : ENi (some (.int (wh9 n (F 2) 61 0 c))) (some (.int (if z = true then Int32.ofNat y' else -1))) (hs t, F5, G) := by
    refine en_i (inv_bk (n := n) hI hN (fun x h1 h2 h3 => ?_) (fun x => ?_) (fun i hi => ?_)) k3.symm
    · rw [l3 x h3.1 h3.2, k1 x ⟨h2.1, h2.2.1⟩ h3.1 (by omega), hf3 x ⟨h2.1, h2.2.1⟩, g3 x h2.2.2.1, e x h1]
    · rw [l2, ups, e8]
      by_cases q : x = 2
      · rw [if_pos q, q]
        have := g1 24 (by omega)
        rw [m1, mr_24] at this
        exact this
      · rw [if_neg q, k2 x q, hf3 193 (by decide), g3 193 (by decide), e 193 (by decide)]
    · rw [l1 i hi, e8, g1 i hi, m1]
  refine rg203_58 ⟨fun q => ?_, fun q => ?_⟩
  · rw [bz_0] at q
    rwa [if_neg q] at fin
  · rw [bz_n0] at q
    rwa [if_pos q] at fin
end SP
