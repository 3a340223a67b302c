/-! ===== the easy calls, both sides ===== -/
theorem nn_bt {x : Int32} {a b : Nat} (hb : b < 2147483648) (h : Int32.ofNat a ≤ x) (ha : a < 2147483648) (h1 : x ≤ Int32.ofNat b) : ∃ n, a ≤ n ∧ n ≤ b ∧ x = Int32.ofNat n := by
  obtain ⟨n, hn, rfl⟩ := nn_bet (x := x) hb (Int32.le_trans ((nn_le (a := 0) (by omega) ha).mpr (by omega)) h) h1
  exact ⟨n, (nn_le ha (by omega)).mp h, hn, rfl⟩
section SP
variable {t : Nat} {F : ip_F} {G : ip_G} {Q : Option Value → ip_M → Prop} {n : Nat}
theorem sp149n {v : Int32} (h : ∀ F', F' 193 1 = v → F' 193 2 = 0 → F' 193 3 = 0 → F' 193 4 = 0 → F' 193 5 = 0 → F' 193 22 = 0 → (∀ x, 5 < x → x ≠ 22 → F' 193 x = F 193 x) → (∀ i, i < 6 → F' 195 i = 0) → (∀ i, i < 25 → mr9 F' i = if i < 12 then -1 else 0) → (∀ b, b ≠ 193 → (b < 195 ∨ 199 < b) → F' b = F b) → Q none (hs t, F', G)) : wp 149 0 [.ref 193, .int v, .float 0] [] (hs t, F, G) Q := by
  refine sp149 (fun F' h1 h2 h3 => h F' ?_ ?_ ?_ ?_ ?_ ?_ (fun x hx hx2 => ?_) (fun i hi => (h2 i hi).1) (fun i hi => ?_) h3)
  · rw [h1]
    rfl
  · rw [h1]
    rfl
  · rw [h1]
    rfl
  · rw [h1]
    rfl
  · rw [h1]
    rfl
  · rw [h1]
    rfl
  · rw [h1]
    unfold ups
    rw [if_neg hx2, if_neg (by omega), if_neg (by omega), if_neg (by omega), if_neg (by omega), if_neg (by omega)]
  · unfold mr9
    by_cases e6 : i < 6
    · rw [if_pos e6, if_pos (by omega), (h2 i e6).2.1]
    · rw [if_neg e6]
      by_cases e12 : i < 12
      · rw [if_pos e12, if_pos (by omega), (h2 _ (by omega)).2.2.1]
      · rw [if_neg e12, if_neg e12]
        by_cases e18 : i < 18
        · rw [if_pos e18, (h2 _ (by omega)).2.2.2.1]
        · rw [if_neg e18]
          by_cases e24 : i < 24
          · rw [if_pos e24, (h2 _ (by omega)).2.2.2.2]
          · rw [if_neg e24, h1]
            rfl
/-- a new tower's ropes -/
theorem np_new {F' : ip_F} (h : ∀ i, i < 25 → F' 4 i = if i < 12 then -1 else 0) (h2 : ∀ i, i < 25 → mr9 F' i = if i < 12 then -1 else 0) (hn : n ≤ 6) : NP9 n F' := by
  refine ⟨fun i hi => by rw [h i (by omega), h2 i (by omega)], fun r hr => Or.inl ⟨?_, ?_⟩, fun r hr => ⟨0, by omega, ?_⟩⟩
  · rw [h r (by omega), if_pos (by omega)]
  · rw [h _ (by omega), if_pos (by omega)]
  · rw [h _ (by omega), if_neg (by omega)]
    rfl
/-- all but the towers at hand -/
theorem inv_nw {F' : ip_F} (h : INV t F G) (e : ∀ x, (21 ≤ x ∧ x < 64) ∨ x = 192 ∨ x = 194 ∨ x = 203 ∨ x = 211 ∨ x = 212 → F' x = F x) (e15 : F' 193 15 = F 193 15) (hN : NR9 n F') : INV t F' G := by
  obtain ⟨ht, -, hI0, hR, hT, hG⟩ := h
  exact ⟨ht, ⟨n, hN⟩, im_fr hI0 (fun b hb hb2 => e b (by omega)) (e 211 (by omega)) (e 212 (by omega)), rf_fr hR (e 192 (by omega)) (e 194 (by omega)), tx_fr hT (by rw [e 62 (by omega)]) (e 63 (by omega)) e15 (e 203 (by omega)), hG⟩
/-- all but the text -/
theorem inv_tx {F' : ip_F} (h : INV t F G) (e : ∀ x, x ≠ 62 → x ≠ 63 → x ≠ 203 → x ≠ 193 → F' x = F x) (e93 : ∀ x, x ≠ 15 → F' 193 x = F 193 x) (hT : XT9 F') : INV t F' G := by
  obtain ⟨ht, ⟨n, hB, hP, hU, hH, hN, hM⟩, hI0, hR, -, hG⟩ := h
  have e0 : ∀ x, (x ≠ 62 ∧ x ≠ 63 ∧ x ≠ 203 ∧ x ≠ 193) → F' x = F x := fun x hx => e x hx.1 hx.2.1 hx.2.2.1 hx.2.2.2
  exact ⟨ht, ⟨n, nb_fr hB (by rw [e0 1 (by decide)]) (e0 2 (by decide)) (e93 1 (by decide)) (e0 195 (by decide)), np_fr hP (e0 4 (by decide)) (mr_fr (e93 2 (by decide)) (e0 196 (by decide)) (e0 197 (by decide)) (e0 198 (by decide)) (e0 199 (by decide))), nu_fr hU (by rw [e0 5 (by decide)]) (e93 22 (by decide)) (fun j hj => e0 _ (by omega)) (e0 207 (by decide)), nh_fr hH (by rw [e0 15 (by decide)]) (e0 16 (by decide)) (e93 3 (by decide)) (e0 200 (by decide)), nn_fr hN (by rw [e0 17 (by decide)]) (e0 18 (by decide)) (e93 4 (by decide)) (e0 201 (by decide)), nm_fr hM (by rw [e0 19 (by decide)]) (e0 20 (by decide)) (e93 5 (by decide)) (e0 202 (by decide))⟩, im_fr hI0 (fun b hb hb2 => e0 b (by omega)) (e0 211 (by decide)) (e0 212 (by decide)), rf_fr hR (e0 192 (by decide)) (e0 194 (by decide)), hT, hG⟩
theorem pr_tower {a : Int32} (hI : INV t F G) : wp 92 0 [.ref 0, .int a, .float 0] [] (hs t, F, G) (fun v M => wp 151 0 [.ref 193, .int a, .float 0] [] M (ENi v)) := by
  by_cases hb : (4 : Int32) ≤ a ∧ a ≤ 6
  · refine rg92_0 (sp129 ?_)
    rw [bz_t hb]
    refine rg92_7 ⟨fun _ => ?_, fun q => absurd q (by decide)⟩
    obtain ⟨n', h4, h6, rfl⟩ := nn_bt (a := 4) (b := 6) (by omega) hb.1 (by omega) hb.2
    refine sp89 (ok10_1 t) (fun F1 c1 c2 c3 c4 c5 c6 c7 c8 => rg92_33 ?_)
    refine rg151_0 (sp143 ?_)
    rw [bz_t hb]
    refine rg151_7 ⟨fun _ => ?_, fun q => absurd q (by decide)⟩
    refine sp149n (fun F2 d1 d2 d3 d4 d5 d6 d7 d8 d9 d10 => rg151_25 ?_)
    have e1 : ∀ b, b < 21 → F2 b = F1 b := fun b hb => d10 b (by omega) (by omega)
    obtain ⟨n, hN⟩ := hI.2.1
    refine en_i (inv_nw (n := n') hI (fun b hb => by rw [d10 b (by omega) (by omega), c8 b (by omega)]) (by rw [d7 15 (by decide) (by decide), c8 193 (by decide)]) ⟨⟨h4, h6, by rw [e1 1 (by omega), c1], d1, fun i hi => by rw [e1 2 (by omega), d8 i hi]; exact c2 i hi⟩, np_new (fun i hi => by rw [e1 4 (by omega)]; exact c3 i hi) d9 h6, ⟨0, by omega, by rw [e1 5 (by omega)]; exact c4, d6, fun j hj => absurd hj (by omega)⟩, ⟨0, by omega, by rw [e1 15 (by omega)]; exact c5, d3, fun j hj => absurd hj (by omega)⟩, ⟨0, by omega, by rw [e1 17 (by omega)]; exact c6, d4, fun j hj => absurd hj (by omega)⟩, 0, by omega, by rw [e1 19 (by omega)]; exact c7, d5, fun j hj => absurd hj (by omega)⟩) ?_
    rw [c8 193 (by decide), hN.1.2.2.1, hN.1.2.2.2.1]
  · refine rg92_0 (sp129 ?_)
    rw [bz_f hb]
    refine rg92_7 ⟨fun q => absurd rfl q, fun _ => sp133b (rg92_16 ?_)⟩
    refine rg151_0 (sp143 ?_)
    rw [bz_f hb]
    exact rg151_7 ⟨fun q => absurd rfl q, fun _ => rg140_0 (rg151_14 (en_i (inv_rf (by decide) hI) rfl))⟩
theorem pr_method {a b : Int32} (hI : INV t F G) : wp 93 0 [.ref 0, .int a, .int b, .float 0] [] (hs t, F, G) (fun v M => wp 152 0 [.ref 193, .int a, .int b, .float 0] [] M (ENi v)) := by
  by_cases ha : (0 : Int32) ≤ a ∧ a ≤ 5
  · by_cases hb : (0 : Int32) ≤ b ∧ b ≤ 3
    · refine rg93_0 (sp129 ?_)
      rw [bz_t ha]
      refine rg93_6 ⟨fun q => absurd q (by decide), fun _ => sp129 ?_⟩
      rw [bz_t hb]
      obtain ⟨k, hk, rfl⟩ := nn_bet (b := 5) (by omega) ha.1 ha.2
      have hv : vp_in (Int32.ofNat k) 6 := (nn_in (by omega)).mpr (by omega)
      refine rg93_15 ⟨fun _ => ⟨hv, hv, rg16_0 (k := 5) ⟨rfl, rfl, hs_8 t 5 rfl, by decide⟩ (rg93_55 ?_)⟩, fun q => absurd q (by decide)⟩
      refine rg152_0 (sp143 ?_)
      rw [bz_t ha]
      refine rg152_6 ⟨fun q => absurd q (by decide), fun _ => sp143 ?_⟩
      rw [bz_t hb]
      refine rg152_15 ⟨fun _ => ⟨hv, hv, ?_⟩, fun q => absurd q (by decide)⟩
      rw [nn_clamp (by omega)]
      obtain ⟨n, hB, hP, hU, hH, hN, hM⟩ := hI.2.1
      have e : ∀ x, (x ≠ 2 ∧ x ≠ 5 ∧ x ≠ 195 ∧ x ≠ 193) → ip_u (ip_u (ip_u (ip_u F 2 k b) 5 1 0) 195 k b) 193 22 0 x = F x := fun x h => by rw [u_n h.2.2.2, u_n h.2.2.1, u_n h.2.1, u_n h.1]
      have e93 : ∀ x, x ≠ 22 → ip_u (ip_u (ip_u (ip_u F 2 k b) 5 1 0) 195 k b) 193 22 0 193 x = F 193 x := fun x h1 => by rw [u_s, if_neg h1, u_n (by decide), u_n (by decide), u_n (by decide)]
      refine en_i (inv_nw (n := n) hI (fun x hx => e x (by omega)) (e93 15 (by decide)) ⟨⟨hB.1, hB.2.1, by rw [e 1 (by decide), hB.2.2.1], by rw [e93 1 (by decide), hB.2.2.2.1], fun i hi => ?_⟩, np_fr hP (e 4 (by decide)) (mr_fr (e93 2 (by decide)) (e 196 (by decide)) (e 197 (by decide)) (e 198 (by decide)) (e 199 (by decide))), ⟨0, by omega, ?_, ?_, fun j hj => absurd hj (by omega)⟩, nh_fr hH (by rw [e 15 (by decide)]) (e 16 (by decide)) (e93 3 (by decide)) (e 200 (by decide)), nn_fr hN (by rw [e 17 (by decide)]) (e 18 (by decide)) (e93 4 (by decide)) (e 201 (by decide)), nm_fr hM (by rw [e 19 (by decide)]) (e 20 (by decide)) (e93 5 (by decide)) (e 202 (by decide))⟩) ?_
      · rw [u_n (show 2 ≠ 193 by decide), u_n (show 2 ≠ 195 by decide), u_n (show 2 ≠ 5 by decide), u_n (show 195 ≠ 193 by decide), u_s, u_s, u_n (show 195 ≠ 5 by decide), u_n (show 195 ≠ 2 by decide), hB.2.2.2.2 i hi]
      · rw [u_n (show 5 ≠ 193 by decide), u_n (show 5 ≠ 195 by decide), u_s, if_pos rfl]
        rfl
      · rw [u_s, if_pos rfl]
        rfl
      · rw [u_n (show 195 ≠ 5 by decide), u_n (show 195 ≠ 2 by decide)]
        exact hB.2.2.2.2 k (by omega)
    · refine rg93_0 (sp129 ?_)
      rw [bz_t ha]
      refine rg93_6 ⟨fun q => absurd q (by decide), fun _ => sp129 ?_⟩
      rw [bz_f hb]
      refine rg93_15 ⟨fun q => absurd rfl q, fun _ => rg93_18 (sp133b (rg93_24 ?_))⟩
      refine rg152_0 (sp143 ?_)
      rw [bz_t ha]
      refine rg152_6 ⟨fun q => absurd q (by decide), fun _ => sp143 ?_⟩
      rw [bz_f hb]
      exact rg152_15 ⟨fun q => absurd rfl q, fun _ => rg152_18 (rg140_0 (rg152_22 (en_i (inv_rf (by decide) hI) rfl)))⟩
  · refine rg93_0 (sp129 ?_)
    rw [bz_f ha]
    refine rg93_6 ⟨fun _ => rg93_18 (sp133b (rg93_24 ?_)), fun q => absurd rfl q⟩
    refine rg152_0 (sp143 ?_)
    rw [bz_f ha]
    exact rg152_6 ⟨fun _ => rg152_18 (rg140_0 (rg152_22 (en_i (inv_rf (by decide) hI) rfl))), fun q => absurd rfl q⟩
theorem byt_all : ∀ b : Fin 128, vp_nar .byte (Int32.ofNat b).toInt8.toInt32 = Int32.ofNat b := by decide +kernel
theorem pr_type {a : Int32} (hI : INV t F G) : wp 94 0 [.ref 0, .int a] [] (hs t, F, G) (fun v M => wp 153 0 [.ref 193, .int a] [] M (ENi v)) := by
  by_cases ha : (0 : Int32) ≤ a ∧ a ≤ 127
  · refine rg94_0 (sp129 ?_)
    rw [bz_t ha]
    obtain ⟨T, t1, t2, t3, t4⟩ := hI.2.2.2.2.1
    by_cases hT : T < 150
    · obtain ⟨b, hb, rfl⟩ := nn_bet (b := 127) (by omega) ha.1 ha.2
      have hv : vp_in (Int32.ofNat T) 150 := (nn_in (by omega)).mpr (by omega)
      refine rg94_7 ⟨fun _ => ⟨fun _ => rg85_0 (k := 62) ⟨rfl, rfl⟩ ⟨fun q => ?_, fun _ => ⟨?_, rg94_45 ?_⟩⟩, fun q => ?_⟩, fun q => absurd q (by decide)⟩
      · rw [t2] at q
        (simp (disch := omega) only [nn_lit, nn_m1, nn_add, nn_mul, nn_rem, nn_sub, nn_addm1, nn_lt, nn_le, nn_eq, nn_clamp, nn_in, nn_nem1, nn_m1ne, nn_ltm1, nn_m1lt, nn_m1le, nn_lem1, bz_0, bz_n0, not_false_eq_true, not_true_eq_false, true_and, and_true, false_and, and_false, false_implies, true_implies, forall_const, Nat.reduceMul, Nat.reduceAdd, Nat.reduceSub] at q <;> try simp only [nn_bk] at q)
        omega
      · rw [t2]
        exact hv
      · refine rg153_0 (sp143 ?_)
        rw [bz_t ha, t2, nn_clamp (by omega), byt_all ⟨b, by omega⟩, show ip_u F (62 + 1) T (Int32.ofNat b) 62 1 = Int32.ofNat T by rw [u_n (by decide), t2]]
        rw [show ∀ x : Int32, ip_u (ip_u F (62 + 1) T (Int32.ofNat b)) 62 1 x 62 1 = x from fun x => by rw [u_s, if_pos rfl]]
        have e0 : ∀ x : Int32, ip_u (ip_u F (62 + 1) T (Int32.ofNat b)) 62 1 x 193 15 = Int32.ofNat T := fun x => by rw [u_n (by decide), u_n (by decide), t3]
        refine rg153_7 ⟨fun _ => ⟨fun _ => ⟨?_, ?_⟩, fun q => ?_⟩, fun q => absurd q (by decide)⟩
        · rw [e0]
          exact hv
        · rw [e0, nn_clamp (by omega), u_n (show 193 ≠ 203 by decide), e0, u_s, if_pos rfl]
          rw [show Int32.ofNat T + 1 = Int32.ofNat (T + 1) from nn_add T 1]
          refine en_i (inv_tx hI (fun x h1 h2 h3 h4 => by rw [u_n h4, u_n h3, u_n h1, u_n h2]) (fun x h1 => by rw [u_s, if_neg h1, u_n (by decide), u_n (by decide), u_n (by decide)]) ⟨T + 1, by omega, ?_, ?_, fun j hj => ?_⟩) rfl
          · rw [u_n (by decide), u_n (by decide), u_s, if_pos rfl]
          · rw [u_s, if_pos rfl]
          · rw [u_n (show 63 ≠ 193 by decide), u_n (show 63 ≠ 203 by decide), u_n (show 63 ≠ 62 by decide), u_n (show 203 ≠ 193 by decide), u_s, u_s]
            by_cases q : j = T
            · rw [if_pos q, if_pos q]
              exact ⟨b, by omega, rfl, rfl⟩
            · rw [if_neg q, if_neg q, u_n (by decide), u_n (by decide)]
              exact t4 j (by omega)
        · rw [e0] at q
          (simp (disch := omega) only [nn_lit, nn_m1, nn_add, nn_mul, nn_rem, nn_sub, nn_addm1, nn_lt, nn_le, nn_eq, nn_clamp, nn_in, nn_nem1, nn_m1ne, nn_ltm1, nn_m1lt, nn_m1le, nn_lem1, bz_0, bz_n0, not_false_eq_true, not_true_eq_false, true_and, and_true, false_and, and_false, false_implies, true_implies, forall_const, Nat.reduceMul, Nat.reduceAdd, Nat.reduceSub] at q <;> try simp only [nn_bk] at q)
          omega
      · rw [t2] at q
        (simp (disch := omega) only [nn_lit, nn_m1, nn_add, nn_mul, nn_rem, nn_sub, nn_addm1, nn_lt, nn_le, nn_eq, nn_clamp, nn_in, nn_nem1, nn_m1ne, nn_ltm1, nn_m1lt, nn_m1le, nn_lem1, bz_0, bz_n0, not_false_eq_true, not_true_eq_false, true_and, and_true, false_and, and_false, false_implies, true_implies, forall_const, Nat.reduceMul, Nat.reduceAdd, Nat.reduceSub] at q <;> try simp only [nn_bk] at q)
        omega
    · obtain rfl : T = 150 := by omega
      refine rg94_7 ⟨fun _ => ⟨fun q => ?_, fun _ => sp133f (rg94_36 ?_)⟩, fun q => absurd q (by decide)⟩
      · rw [t2] at q
        exact absurd q (by decide)
      · refine rg153_0 (sp143 ?_)
        rw [bz_t ha]
        refine rg153_7 ⟨fun _ => ⟨fun q => ?_, fun _ => rg142_0 (rg153_29 (en_i (inv_rf (by decide) hI) rfl))⟩, fun q => absurd q (by decide)⟩
        rw [u_n (by decide), t3] at q
        exact absurd rfl q
  · refine rg94_0 (sp129 ?_)
    rw [bz_f ha]
    refine rg94_7 ⟨fun q => absurd rfl q, fun _ => sp133b (rg94_16 ?_)⟩
    refine rg153_0 (sp143 ?_)
    rw [bz_f ha]
    exact rg153_7 ⟨fun q => absurd rfl q, fun _ => rg140_0 (rg153_14 (en_i (inv_rf (by decide) hI) rfl))⟩
theorem pr_clear (hI : INV t F G) : wp 95 0 [.ref 0] [] (hs t, F, G) (fun v M => wp 154 0 [.ref 193, .float 0] [] M (ENi v)) := by
  refine rg95_0 (rg84_0 (k := 62) ⟨rfl, rfl⟩ (rg95_7 (rg154_0 ?_)))
  obtain ⟨T, t1, t2, t3, t4⟩ := hI.2.2.2.2.1
  refine en_i (inv_tx hI (fun x h1 h2 h3 h4 => by rw [u_n h4, u_n h1]) (fun x hx => by rw [u_s, if_neg hx, u_n (by decide)]) ⟨0, by omega, ?_, ?_, fun j hj => absurd hj (by omega)⟩) ?_
  · rw [u_n (by decide), u_s, if_pos rfl]
    rfl
  · rw [u_s, if_pos rfl]
    rfl
  · rw [u_n (by decide), t2, t3]
theorem pr_status {a : Int32} (hI : INV t F G) : wp 126 0 [.ref 0, .int a] [] (hs t, F, G) (fun v M => wp 231 0 [.ref 193, .int a] [] M (ENi v)) := by
  by_cases ha : (0 : Int32) ≤ a ∧ a ≤ 2
  · refine rg126_0 (sp129 ?_)
    rw [bz_t ha]
    obtain ⟨b, hb, rfl⟩ := nn_bet (b := 2) (by omega) ha.1 ha.2
    have hv : vp_in (Int32.ofNat b) 3 := (nn_in (by omega)).mpr (by omega)
    refine rg126_6 ⟨fun _ => ⟨hv, ?_⟩, fun q => absurd q (by decide)⟩
    refine rg231_0 (sp143 ?_)
    rw [bz_t ha]
    refine rg231_6 ⟨fun _ => ⟨hv, en_i hI ?_⟩, fun q => absurd q (by decide)⟩
    rw [nn_clamp (by omega)]
    exact hI.2.2.2.1 b (by omega)
  · refine rg126_0 (sp129 ?_)
    rw [bz_f ha]
    refine rg126_6 ⟨fun q => absurd rfl q, fun _ => sp133b (rg126_15 ?_)⟩
    refine rg231_0 (sp143 ?_)
    rw [bz_f ha]
    exact rg231_6 ⟨fun q => absurd rfl q, fun _ => en_i (inv_rf (by decide) hI) rfl⟩
theorem pr_part {a : Int32} (hI : INV t F G) : wp 123 0 [.ref 0, .int a] [] (hs t, F, G) (fun v M => wp 226 0 [.ref 193, .int a] [] M (ENl v)) := by
  by_cases ha : (0 : Int32) ≤ a ∧ a ≤ 1
  · refine rg123_0 (sp129 ?_)
    rw [bz_t ha]
    obtain ⟨b, hb, rfl⟩ := nn_bet (b := 1) (by omega) ha.1 ha.2
    match b, hb with
    | 0, _ => exact rg123_6 ⟨fun _ => ⟨fun q => absurd rfl q, fun _ => rg226_0 ⟨fun q => absurd rfl q, fun _ => en_l hI hI.2.2.2.2.2.1⟩⟩, fun q => absurd q (by decide)⟩
    | 1, _ => exact rg123_6 ⟨fun _ => ⟨fun _ => rg226_0 ⟨fun _ => ⟨fun q => absurd rfl q, fun _ => en_l hI hI.2.2.2.2.2.2⟩, fun q => absurd q (by decide)⟩, fun q => absurd q (by decide)⟩, fun q => absurd q (by decide)⟩
  · refine rg123_0 (sp129 ?_)
    rw [bz_f ha]
    refine rg123_6 ⟨fun q => absurd rfl q, fun _ => sp133b (rg123_15 ?_)⟩
    refine rg226_0 ⟨fun _ => ⟨fun _ => rg140_0 (rg226_27 (en_l (inv_rf (by decide) hI) rfl)), fun q => ?_⟩, fun q => ?_⟩
    · subst q
      exact absurd ⟨by decide, by decide⟩ ha
    · subst q
      exact absurd ⟨by decide, by decide⟩ ha
end SP
