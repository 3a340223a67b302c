/-! ===== what is heard, noted, marked, forgotten ===== -/
section SP
variable {t : Nat} {F F' : ip_F} {G : ip_G} {Q : Option Value → ip_M → Prop} {n : Nat}
theorem inv_hh (h : INV t F G) (e : ∀ x, (x ≠ 15 ∧ x ≠ 16 ∧ x ≠ 200 ∧ x ≠ 193) → F' x = F x) (e93 : ∀ x, x ≠ 3 → F' 193 x = F 193 x) (hH : NH9 F') : INV t F' G := by
  obtain ⟨n, hB, hP, hU, -, hN, hM⟩ := h.2.1
  exact inv_nw (n := n) h (fun x hx => e x (by omega)) (e93 15 (by decide)) ⟨nb_fr hB (by rw [e 1 (by decide)]) (e 2 (by decide)) (e93 1 (by decide)) (e 195 (by decide)), np_fr hP (e 4 (by decide)) (mr_fr (e93 2 (by decide)) (e 196 (by decide)) (e 197 (by decide)) (e 198 (by decide)) (e 199 (by decide))), nu_fr hU (by rw [e 5 (by decide)]) (e93 22 (by decide)) (fun j hj => e _ (by omega)) (e 207 (by decide)), hH, nn_fr hN (by rw [e 17 (by decide)]) (e 18 (by decide)) (e93 4 (by decide)) (e 201 (by decide)), nm_fr hM (by rw [e 19 (by decide)]) (e 20 (by decide)) (e93 5 (by decide)) (e 202 (by decide))⟩
theorem inv_nn (h : INV t F G) (e : ∀ x, (x ≠ 17 ∧ x ≠ 18 ∧ x ≠ 201 ∧ x ≠ 193) → F' x = F x) (e93 : ∀ x, x ≠ 4 → F' 193 x = F 193 x) (hN : NN9 F') : INV t F' G := by
  obtain ⟨n, hB, hP, hU, hH, -, hM⟩ := h.2.1
  exact inv_nw (n := n) h (fun x hx => e x (by omega)) (e93 15 (by decide)) ⟨nb_fr hB (by rw [e 1 (by decide)]) (e 2 (by decide)) (e93 1 (by decide)) (e 195 (by decide)), np_fr hP (e 4 (by decide)) (mr_fr (e93 2 (by decide)) (e 196 (by decide)) (e 197 (by decide)) (e 198 (by decide)) (e 199 (by decide))), nu_fr hU (by rw [e 5 (by decide)]) (e93 22 (by decide)) (fun j hj => e _ (by omega)) (e 207 (by decide)), nh_fr hH (by rw [e 15 (by decide)]) (e 16 (by decide)) (e93 3 (by decide)) (e 200 (by decide)), hN, nm_fr hM (by rw [e 19 (by decide)]) (e 20 (by decide)) (e93 5 (by decide)) (e 202 (by decide))⟩
theorem inv_mm (h : INV t F G) (e : ∀ x, (x ≠ 19 ∧ x ≠ 20 ∧ x ≠ 202 ∧ x ≠ 193) → F' x = F x) (e93 : ∀ x, x ≠ 5 → F' 193 x = F 193 x) (hM : NM9 F') : INV t F' G := by
  obtain ⟨n, hB, hP, hU, hH, hN, -⟩ := h.2.1
  exact inv_nw (n := n) h (fun x hx => e x (by omega)) (e93 15 (by decide)) ⟨nb_fr hB (by rw [e 1 (by decide)]) (e 2 (by decide)) (e93 1 (by decide)) (e 195 (by decide)), np_fr hP (e 4 (by decide)) (mr_fr (e93 2 (by decide)) (e 196 (by decide)) (e 197 (by decide)) (e 198 (by decide)) (e 199 (by decide))), nu_fr hU (by rw [e 5 (by decide)]) (e93 22 (by decide)) (fun j hj => e _ (by omega)) (e 207 (by decide)), nh_fr hH (by rw [e 15 (by decide)]) (e 16 (by decide)) (e93 3 (by decide)) (e 200 (by decide)), nn_fr hN (by rw [e 17 (by decide)]) (e 18 (by decide)) (e93 4 (by decide)) (e 201 (by decide)), hM⟩
theorem fg_193 {F1 : ip_F} {x3 x4 x5 : Int32} (x : Nat) : ip_u (ip_u (ip_u F1 193 3 x3) 193 4 x4) 193 5 x5 193 x = if x = 5 then x5 else if x = 4 then x4 else if x = 3 then x3 else F1 193 x := by rw [u_s, u_s, u_s]
theorem pr_forget {a : Int32} (hI : INV t F G) : wp 115 0 [.ref 0, .int a, .float 0] [] (hs t, F, G) (fun v M => wp 213 0 [.ref 193, .int a, .float 0] [] M (ENi v)) := by
  have k15 : ok4 t 15 := ⟨rfl, rfl⟩
  have k17 : ok4 t 17 := ⟨rfl, rfl⟩
  have k19 : ok4 t 19 := ⟨rfl, rfl⟩
  by_cases ha : (0 : Int32) ≤ a ∧ a ≤ 2
  · obtain ⟨b, hb, rfl⟩ := nn_bet (b := 2) (by omega) ha.1 ha.2
    match b, hb with
    | 0, _ =>
      refine rg115_0 k15 (sp129 ?_)
      rw [bz_t ha]
      refine rg115_6 k15 ⟨fun _ => ⟨fun q => absurd rfl q, fun _ => rg115_52 k15 (rg49_0 k15 (rg115_57 k15 ?_))⟩, fun q => absurd q (by decide)⟩
      refine rg213_0 (sp143 ?_)
      rw [bz_t ha]
      refine rg213_6 ⟨fun _ => ⟨fun q => absurd rfl q, fun _ => rg213_41 ⟨fun q => absurd rfl q, fun _ => rg213_55 ⟨fun _ => rg213_72 ⟨fun _ => rg213_89 ?_, fun q => absurd q (by decide)⟩, fun q => absurd q (by decide)⟩⟩⟩, fun q => absurd q (by decide)⟩
      have e4 : ip_u (ip_u F 15 1 0) 193 3 0 193 4 = F 193 4 := by rw [u_s, if_neg (by decide), u_n (by decide)]
      have e5 : ip_u (ip_u (ip_u F 15 1 0) 193 3 0) 193 4 (F 193 4) 193 5 = F 193 5 := by rw [u_s, if_neg (by decide), u_s, if_neg (by decide), u_n (by decide)]
      rw [e4, e5]
      obtain ⟨n, hB, hP, hU, ⟨u, u1, u2, u3, u4⟩, hN, hM⟩ := hI.2.1
      refine en_i (inv_hh hI (fun x hx => by rw [u_n hx.2.2.2, u_n hx.2.2.2, u_n hx.2.2.2, u_n hx.1]) (fun x hx => ?_) ⟨0, by omega, ?_, ?_, fun j hj => absurd hj (by omega)⟩) ?_
      · rw [fg_193, u_n (by decide)]
        by_cases q5 : x = 5
        · rw [if_pos q5, q5]
        · rw [if_neg q5]
          by_cases q4 : x = 4
          · rw [if_pos q4, q4]
          · rw [if_neg q4, if_neg hx]
      · rw [u_n (by decide), u_n (by decide), u_n (by decide), u_s, if_pos rfl]
        rfl
      · rw [fg_193]
        rfl
      · rw [u_n (by decide), u2, u3]
    | 1, _ =>
      refine rg115_0 k17 (sp129 ?_)
      rw [bz_t ha]
      refine rg115_6 k17 ⟨fun _ => ⟨fun _ => ⟨fun q => absurd rfl q, fun _ => rg115_52 k17 (rg49_0 k17 (rg115_57 k17 ?_))⟩, fun q => absurd q (by decide)⟩, fun q => absurd q (by decide)⟩
      refine rg213_0 (sp143 ?_)
      rw [bz_t ha]
      refine rg213_6 ⟨fun _ => ⟨fun _ => ⟨fun q => absurd rfl q, fun _ => rg213_41 ⟨fun _ => rg213_55 ⟨fun q => absurd rfl q, fun _ => rg213_72 ⟨fun _ => rg213_89 ?_, fun q => absurd q (by decide)⟩⟩, fun q => absurd q (by decide)⟩⟩, fun q => absurd q (by decide)⟩, fun q => absurd q (by decide)⟩
      have e3 : ip_u F 17 1 0 193 3 = F 193 3 := by rw [u_n (by decide)]
      have e5 : ip_u (ip_u (ip_u F 17 1 0) 193 3 (F 193 3)) 193 4 0 193 5 = F 193 5 := by rw [u_s, if_neg (by decide), u_s, if_neg (by decide), u_n (by decide)]
      rw [e3, e5]
      obtain ⟨n, hB, hP, hU, hH, ⟨u, u1, u2, u3, u4⟩, hM⟩ := hI.2.1
      refine en_i (inv_nn hI (fun x hx => by rw [u_n hx.2.2.2, u_n hx.2.2.2, u_n hx.2.2.2, u_n hx.1]) (fun x hx => ?_) ⟨0, by omega, ?_, ?_, fun j hj => absurd hj (by omega)⟩) ?_
      · rw [fg_193, u_n (by decide)]
        by_cases q5 : x = 5
        · rw [if_pos q5, q5]
        · rw [if_neg q5, if_neg hx]
          by_cases q4 : x = 3
          · rw [if_pos q4, q4]
          · rw [if_neg q4]
      · rw [u_n (by decide), u_n (by decide), u_n (by decide), u_s, if_pos rfl]
        rfl
      · rw [fg_193]
        rfl
      · rw [u_n (by decide), u2, u3]
    | 2, _ =>
      refine rg115_0 k19 (sp129 ?_)
      rw [bz_t ha]
      refine rg115_6 k19 ⟨fun _ => ⟨fun _ => ⟨fun _ => rg115_52 k19 (rg49_0 k19 (rg115_57 k19 ?_)), fun q => absurd q (by decide)⟩, fun q => absurd q (by decide)⟩, fun q => absurd q (by decide)⟩
      refine rg213_0 (sp143 ?_)
      rw [bz_t ha]
      refine rg213_6 ⟨fun _ => ⟨fun _ => ⟨fun _ => rg213_41 ⟨fun _ => rg213_55 ⟨fun _ => rg213_72 ⟨fun q => absurd rfl q, fun _ => rg213_89 ?_⟩, fun q => absurd q (by decide)⟩, fun q => absurd q (by decide)⟩, fun q => absurd q (by decide)⟩, fun q => absurd q (by decide)⟩, fun q => absurd q (by decide)⟩
      have e3 : ip_u F 19 1 0 193 3 = F 193 3 := by rw [u_n (by decide)]
      have e4 : ip_u (ip_u F 19 1 0) 193 3 (F 193 3) 193 4 = F 193 4 := by rw [u_s, if_neg (by decide), u_n (by decide)]
      rw [e3, e4]
      obtain ⟨n, hB, hP, hU, hH, hN, u, u1, u2, u3, u4⟩ := hI.2.1
      refine en_i (inv_mm hI (fun x hx => by rw [u_n hx.2.2.2, u_n hx.2.2.2, u_n hx.2.2.2, u_n hx.1]) (fun x hx => ?_) ⟨0, by omega, ?_, ?_, fun j hj => absurd hj (by omega)⟩) ?_
      · rw [fg_193, u_n (by decide), if_neg hx]
        by_cases q5 : x = 4
        · rw [if_pos q5, q5]
        · rw [if_neg q5]
          by_cases q4 : x = 3
          · rw [if_pos q4, q4]
          · rw [if_neg q4]
      · rw [u_n (by decide), u_n (by decide), u_n (by decide), u_s, if_pos rfl]
        rfl
      · rw [fg_193]
        rfl
      · rw [u_n (by decide), u2, u3]
  · refine rg115_0 k15 (sp129 ?_)
    rw [bz_f ha]
    refine rg115_6 k15 ⟨fun q => absurd rfl q, fun _ => sp133b (rg115_15 k15 ?_)⟩
    refine rg213_0 (sp143 ?_)
    rw [bz_f ha]
    exact rg213_6 ⟨fun q => absurd rfl q, fun _ => rg140_0 (rg213_13 (en_i (inv_rf (by decide) hI) rfl))⟩
/-- refused by the one, refused by the other -/
theorem en_bad (hI : INV t F G) : ENi (some (.int (-2))) (some (.int (-2))) (hs t, ip_u (ip_u F 192 0 (F 192 0 + 1)) 194 0 (ip_u F 192 0 (F 192 0 + 1) 194 0 + 1), G) := en_i (inv_rf (by decide) hI) rfl
theorem en_no (hI : INV t F G) : ENi (some (.int (-3))) (some (.int (-3))) (hs t, ip_u (ip_u F 192 1 (F 192 1 + 1)) 194 1 (ip_u F 192 1 (F 192 1 + 1) 194 1 + 1), G) := en_i (inv_rf (by decide) hI) rfl
theorem en_full (hI : INV t F G) : ENi (some (.int (-4))) (some (.int (-4))) (hs t, ip_u (ip_u F 192 2 (F 192 2 + 1)) 194 2 (ip_u F 192 2 (F 192 2 + 1) 194 2 + 1), G) := en_i (inv_rf (by decide) hI) rfl
theorem pr_note {a b c : Int32} (hI : INV t F G) : wp 113 0 [.ref 0, .int a, .int b, .int c] [] (hs t, F, G) (fun v M => wp 211 0 [.ref 193, .int a, .int b, .int c] [] M (ENi v)) := by
  obtain ⟨n, ⟨h4, h6, b1, b2, b3⟩, hP, hU, hH, ⟨u, u1, u2, u3, u4⟩, hM⟩ := hI.2.1
  refine ck113 (by omega) b1 (fun ha hb hc => ?_) (fun hn => ?_)
  · by_cases hu : u < 6
    · refine rg113_25 ⟨fun _ => ⟨fun _ => sp46 (k := 17) ⟨rfl, rfl⟩ hu u2 (fun F1 d1 d2 d3 => rg113_71 ?_), fun q => ?_⟩, fun q => absurd q (by decide)⟩
      · refine ck211 (by omega) (by rw [d3 193 (by decide) (by decide), b2]) (fun _ _ _ => ?_) (fun hn => absurd ⟨ha, hb, hc⟩ hn)
        have e4 : F1 193 4 = Int32.ofNat u := by rw [d3 193 (by decide) (by decide), u3]
        have u93 : ∀ (F : ip_F) m x, ip_u F 201 m x 193 = F 193 := fun _ _ _ => u_n (by decide)
        refine rg211_25 ⟨fun _ => ⟨fun _ => ?_, fun q => ?_⟩, fun q => absurd q (by decide)⟩
        · simp only [u93, e4]
          rw [show (3 : Int32) * Int32.ofNat u = Int32.ofNat (3 * u) from nn_mul 3 u, show Int32.ofNat (3 * u) + 1 = Int32.ofNat (3 * u + 1) from nn_add _ 1, show Int32.ofNat (3 * u) + 2 = Int32.ofNat (3 * u + 2) from nn_add _ 2, show Int32.ofNat u + 1 = Int32.ofNat (u + 1) from nn_add _ 1, nn_clamp (by omega), nn_clamp (by omega), nn_clamp (by omega)]
          refine ⟨(nn_in (by omega)).mpr (by omega), (nn_in (by omega)).mpr (by omega), (nn_in (by omega)).mpr (by omega), ?_⟩
          refine en_i (inv_nn hI (fun x hx => by rw [u_n hx.2.2.2, u_n hx.2.2.1, u_n hx.2.2.1, u_n hx.2.2.1, d3 x hx.1 hx.2.1]) (fun x hx => by rw [u_s, if_neg hx, u93, u93, u93, d3 193 (by decide) (by decide)]) ⟨u + 1, by omega, ?_, ?_, fun j hj i hi => ?_⟩) ?_
          · rw [u_n (by decide), u_n (by decide), u_n (by decide), u_n (by decide), d1]
          · rw [u_s, if_pos rfl]
          · rw [u_n (show 18 ≠ 193 by decide), u_n (show 18 ≠ 201 by decide), u_n (show 18 ≠ 201 by decide), u_n (show 18 ≠ 201 by decide), d2, u_n (show 201 ≠ 193 by decide), u_s, u_s, u_s]
            by_cases q : j = u
            · subst q
              match i, hi with
              | 0, _ => rw [if_neg (by omega), if_neg (by omega), if_neg (by omega), if_pos (by omega), if_neg (by omega), if_neg (by omega), if_pos (by omega)]
              | 1, _ => rw [if_neg (by omega), if_neg (by omega), if_pos (by omega), if_neg (by omega), if_pos (by omega)]
              | 2, _ => rw [if_neg (by omega), if_pos (by omega), if_pos (by omega)]
            · rw [if_neg (by omega), if_neg (by omega), if_neg (by omega), if_neg (by omega), if_neg (by omega), if_neg (by omega), if_neg (by omega), d3 201 (by decide) (by decide)]
              exact u4 j (by omega) i hi
          · rw [u_s, if_pos rfl]
        · rw [e4] at q
          (simp (disch := omega) only [nn_lit, nn_m1, nn_add, nn_mul, nn_rem, nn_sub, nn_addm1, nn_lt, nn_le, nn_eq, nn_clamp, nn_in, nn_nem1, nn_m1ne, nn_ltm1, nn_m1lt, nn_m1le, nn_lem1, bz_0, bz_n0, not_false_eq_true, not_true_eq_false, true_and, and_true, false_and, and_false, false_implies, true_implies, forall_const, Nat.reduceMul, Nat.reduceAdd, Nat.reduceSub] at q <;> try simp only [nn_bk] at q)
          omega
      · rw [u2] at q
        (simp (disch := omega) only [nn_lit, nn_m1, nn_add, nn_mul, nn_rem, nn_sub, nn_addm1, nn_lt, nn_le, nn_eq, nn_clamp, nn_in, nn_nem1, nn_m1ne, nn_ltm1, nn_m1lt, nn_m1le, nn_lem1, bz_0, bz_n0, not_false_eq_true, not_true_eq_false, true_and, and_true, false_and, and_false, false_implies, true_implies, forall_const, Nat.reduceMul, Nat.reduceAdd, Nat.reduceSub] at q <;> try simp only [nn_bk] at q)
        omega
    · obtain rfl : u = 6 := by omega
      refine rg113_25 ⟨fun _ => ⟨fun q => ?_, fun _ => sp133f (rg113_56 ?_)⟩, fun q => absurd q (by decide)⟩
      · rw [u2] at q
        exact absurd q (by decide)
      · refine ck211 (by omega) (by rw [u_n (by decide), b2]) (fun _ _ _ => ?_) (fun hn => absurd ⟨ha, hb, hc⟩ hn)
        refine rg211_25 ⟨fun _ => ⟨fun q => ?_, fun _ => rg142_0 (rg211_46 (en_full hI))⟩, fun q => absurd q (by decide)⟩
        rw [u_n (by decide), u3] at q
        exact absurd rfl q
  · exact ck211 (by omega) (by rw [u_n (by decide), b2]) (fun ha hb hc => absurd ⟨ha, hb, hc⟩ hn) (fun _ => en_bad hI)
theorem pr_mark {a b c d : Int32} (hI : INV t F G) : wp 114 0 [.ref 0, .int a, .int b, .int c, .int d] [] (hs t, F, G) (fun v M => wp 212 0 [.ref 193, .int a, .int b, .int c, .int d] [] M (ENi v)) := by
  obtain ⟨n, ⟨h4, h6, b1, b2, b3⟩, hP, hU, hH, hN, u, u1, u2, u3, u4⟩ := hI.2.1
  refine ck114 (by omega) b1 (fun ha hb hc hd => ?_) (fun hn => ?_)
  · by_cases hu : u < 6
    · refine rg114_35 ⟨fun _ => ⟨fun _ => sp46 (k := 19) ⟨rfl, rfl⟩ hu u2 (fun F1 d1 d2 d3 => rg114_82 ?_), fun q => ?_⟩, fun q => absurd q (by decide)⟩
      · refine ck212 (by omega) (by rw [d3 193 (by decide) (by decide), b2]) (fun _ _ _ _ => ?_) (fun hn => absurd ⟨ha, hb, hc, hd⟩ hn)
        have e4 : F1 193 5 = Int32.ofNat u := by rw [d3 193 (by decide) (by decide), u3]
        have u93 : ∀ (F : ip_F) m x, ip_u F 202 m x 193 = F 193 := fun _ _ _ => u_n (by decide)
        refine rg212_35 ⟨fun _ => ⟨fun _ => ?_, fun q => ?_⟩, fun q => absurd q (by decide)⟩
        · simp only [u93, e4]
          rw [show (4 : Int32) * Int32.ofNat u = Int32.ofNat (4 * u) from nn_mul 4 u, show Int32.ofNat (4 * u) + 1 = Int32.ofNat (4 * u + 1) from nn_add _ 1, show Int32.ofNat (4 * u) + 2 = Int32.ofNat (4 * u + 2) from nn_add _ 2, show Int32.ofNat (4 * u) + 3 = Int32.ofNat (4 * u + 3) from nn_add _ 3, show Int32.ofNat u + 1 = Int32.ofNat (u + 1) from nn_add _ 1, nn_clamp (by omega), nn_clamp (by omega), nn_clamp (by omega), nn_clamp (by omega)]
          refine ⟨(nn_in (by omega)).mpr (by omega), (nn_in (by omega)).mpr (by omega), (nn_in (by omega)).mpr (by omega), (nn_in (by omega)).mpr (by omega), ?_⟩
          refine en_i (inv_mm hI (fun x hx => by rw [u_n hx.2.2.2, u_n hx.2.2.1, u_n hx.2.2.1, u_n hx.2.2.1, u_n hx.2.2.1, d3 x hx.1 hx.2.1]) (fun x hx => by rw [u_s, if_neg hx, u93, u93, u93, u93, d3 193 (by decide) (by decide)]) ⟨u + 1, by omega, ?_, ?_, fun j hj => ⟨?_, fun i hi => ?_⟩⟩) ?_
          · rw [u_n (by decide), u_n (by decide), u_n (by decide), u_n (by decide), u_n (by decide), d1]
          · rw [u_s, if_pos rfl]
          · rw [u_n (show 20 ≠ 193 by decide), u_n (show 20 ≠ 202 by decide), u_n (show 20 ≠ 202 by decide), u_n (show 20 ≠ 202 by decide), u_n (show 20 ≠ 202 by decide), d2]
            by_cases q : j = u
            · rw [if_pos (by omega)]
              obtain ⟨z, hz, rfl⟩ := nn_bet (b := 1) (by omega) hd.1 hd.2
              match z, hz with
              | 0, _ => exact Or.inl rfl
              | 1, _ => exact Or.inr rfl
            · rw [if_neg (by omega), if_neg (by omega), if_neg (by omega), if_neg (by omega)]
              exact (u4 j (by omega)).1
          · rw [u_n (show 20 ≠ 193 by decide), u_n (show 20 ≠ 202 by decide), u_n (show 20 ≠ 202 by decide), u_n (show 20 ≠ 202 by decide), u_n (show 20 ≠ 202 by decide), d2, u_n (show 202 ≠ 193 by decide), u_s, u_s, u_s, u_s, d3 202 (by decide) (by decide)]
            by_cases q : j = u
            · subst q
              match i, hi with
              | 0, _ => rw [if_neg (by omega), if_neg (by omega), if_neg (by omega), if_pos (by omega), if_neg (by omega), if_neg (by omega), if_neg (by omega), if_pos (by omega)]
              | 1, _ => rw [if_neg (by omega), if_neg (by omega), if_pos (by omega), if_neg (by omega), if_neg (by omega), if_pos (by omega)]
              | 2, _ => rw [if_neg (by omega), if_pos (by omega), if_neg (by omega), if_pos (by omega)]
              | 3, _ => rw [if_pos (by omega), if_pos (by omega)]
            · rw [if_neg (by omega), if_neg (by omega), if_neg (by omega), if_neg (by omega), if_neg (by omega), if_neg (by omega), if_neg (by omega), if_neg (by omega)]
              exact (u4 j (by omega)).2 i hi
          · rw [u_s, if_pos rfl]
        · rw [e4] at q
          (simp (disch := omega) only [nn_lit, nn_m1, nn_add, nn_mul, nn_rem, nn_sub, nn_addm1, nn_lt, nn_le, nn_eq, nn_clamp, nn_in, nn_nem1, nn_m1ne, nn_ltm1, nn_m1lt, nn_m1le, nn_lem1, bz_0, bz_n0, not_false_eq_true, not_true_eq_false, true_and, and_true, false_and, and_false, false_implies, true_implies, forall_const, Nat.reduceMul, Nat.reduceAdd, Nat.reduceSub] at q <;> try simp only [nn_bk] at q)
          omega
      · rw [u2] at q
        (simp (disch := omega) only [nn_lit, nn_m1, nn_add, nn_mul, nn_rem, nn_sub, nn_addm1, nn_lt, nn_le, nn_eq, nn_clamp, nn_in, nn_nem1, nn_m1ne, nn_ltm1, nn_m1lt, nn_m1le, nn_lem1, bz_0, bz_n0, not_false_eq_true, not_true_eq_false, true_and, and_true, false_and, and_false, false_implies, true_implies, forall_const, Nat.reduceMul, Nat.reduceAdd, Nat.reduceSub] at q <;> try simp only [nn_bk] at q)
        omega
    · obtain rfl : u = 6 := by omega
      refine rg114_35 ⟨fun _ => ⟨fun q => ?_, fun _ => sp133f (rg114_66 ?_)⟩, fun q => absurd q (by decide)⟩
      · rw [u2] at q
        exact absurd q (by decide)
      · refine ck212 (by omega) (by rw [u_n (by decide), b2]) (fun _ _ _ _ => ?_) (fun hn => absurd ⟨ha, hb, hc, hd⟩ hn)
        refine rg212_35 ⟨fun _ => ⟨fun q => ?_, fun _ => rg142_0 (rg212_56 (en_full hI))⟩, fun q => absurd q (by decide)⟩
        rw [u_n (by decide), u3] at q
        exact absurd rfl q
  · exact ck212 (by omega) (by rw [u_n (by decide), b2]) (fun ha hb hc hd => absurd ⟨ha, hb, hc, hd⟩ hn) (fun _ => en_bad hI)
end SP
