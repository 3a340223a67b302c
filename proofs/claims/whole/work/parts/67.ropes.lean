/-! ===== ropes changed, undone ===== -/
theorem sr_ups {n i : Nat} {c c' : Nat → Int32} {v : Int32} (h : SR9 n c c') : SR9 n (ups c i v) (ups c' i v) := by
  intro j hj
  unfold ups
  rw [h j hj]
theorem nu_keep {n u u1 u2 : Nat} {F F' : ip_F} (hn : n ≤ 6) (hP : NP9 n F) (hu : u ≤ 8) (hU : ∀ j, j < u → SR9 n (F (7 + j)) (ly9 (F 207) (25 * j)) ∧ WR9 n (F (7 + j))) (a1 : u1 ≤ 8) (a3 : u < 8 → u1 = u + 1) (a4 : u = 8 → u1 = 8) (b3 : u < 8 → u2 = u + 1) (b4 : u = 8 → u2 = 8) (c1 : F' 5 1 = Int32.ofNat u1) (c2 : F' 193 22 = Int32.ofNat u2) (r1 : ∀ j, j < u1 → ∀ x, x < 25 → F' (7 + j) x = if j + 1 = u1 then F 4 x else if u < 8 then F (7 + j) x else F (7 + (j + 1)) x) (r2 : ∀ j, j < u2 → ∀ i, i < 25 → ly9 (F' 207) (25 * j) i = if j + 1 = u2 then mr9 F i else if u < 8 then ly9 (F 207) (25 * j) i else ly9 (F 207) (25 * (j + 1)) i) : NU9 n F' := by
  have e : u2 = u1 := by omega
  subst e
  refine ⟨u2, a1, c1, c2, fun j hj => ?_⟩
  by_cases q : j + 1 = u2
  · have f1 : ∀ x, x < 25 → F' (7 + j) x = F 4 x := fun x hx => by rw [r1 j hj x hx, if_pos q]
    have f2 : ∀ i, i < 25 → ly9 (F' 207) (25 * j) i = mr9 F i := fun i hi => by rw [r2 j hj i hi, if_pos q]
    exact ⟨sr_congr hn hP.1 f1 f2, wr_congr hP.2 f1⟩
  · by_cases q2 : u < 8
    · have f1 : ∀ x, x < 25 → F' (7 + j) x = F (7 + j) x := fun x hx => by rw [r1 j hj x hx, if_neg q, if_pos q2]
      have f2 : ∀ i, i < 25 → ly9 (F' 207) (25 * j) i = ly9 (F 207) (25 * j) i := fun i hi => by rw [r2 j hj i hi, if_neg q, if_pos q2]
      exact ⟨sr_congr hn (hU j (by omega)).1 f1 f2, wr_congr (hU j (by omega)).2 f1⟩
    · have f1 : ∀ x, x < 25 → F' (7 + j) x = F (7 + (j + 1)) x := fun x hx => by rw [r1 j hj x hx, if_neg q, if_neg q2]
      have f2 : ∀ i, i < 25 → ly9 (F' 207) (25 * j) i = ly9 (F 207) (25 * (j + 1)) i := fun i hi => by rw [r2 j hj i hi, if_neg q, if_neg q2]
      exact ⟨sr_congr hn (hU (j + 1) (by omega)).1 f1 f2, wr_congr (hU (j + 1) (by omega)).2 f1⟩
section SP
variable {t : Nat} {F F' : ip_F} {G : ip_G} {Q : Option Value → ip_M → Prop} {n : Nat}
theorem ok1_5 : ok1 t 5 := ⟨rfl, rfl, hs_8 t 5 rfl, by decide⟩
theorem inv_rp (h : INV t F G) (hN : NR9 n F) (e : ∀ x, (x ≠ 4 ∧ x ≠ 5 ∧ (x < 7 ∨ 14 < x) ∧ x ≠ 193 ∧ (x < 196 ∨ 199 < x) ∧ x ≠ 207) → F' x = F x) (e93 : ∀ x, x ≠ 2 → x ≠ 22 → F' 193 x = F 193 x) (hP : NP9 n F') (hU : NU9 n F') : INV t F' G := by
  obtain ⟨hB, -, -, hH, hN, hM⟩ := hN
  exact inv_nw (n := n) h (fun x hx => e x (by omega)) (e93 15 (by decide) (by decide)) ⟨nb_fr hB (by rw [e 1 (by decide)]) (e 2 (by decide)) (e93 1 (by decide) (by decide)) (e 195 (by decide)), hP, hU, nh_fr hH (by rw [e 15 (by decide)]) (e 16 (by decide)) (e93 3 (by decide) (by decide)) (e 200 (by decide)), nn_fr hN (by rw [e 17 (by decide)]) (e 18 (by decide)) (e93 4 (by decide) (by decide)) (e 201 (by decide)), nm_fr hM (by rw [e 19 (by decide)]) (e 20 (by decide)) (e93 5 (by decide) (by decide)) (e 202 (by decide))⟩
theorem pr_slips {a b c : Int32} (hI : INV t F G) : wp 97 0 [.ref 0, .int a, .int b, .int c, .float 0] [] (hs t, F, G) (fun v M => wp 191 0 [.ref 193, .int a, .int b, .int c, .float 0] [] M (ENi v)) := by
  obtain ⟨n, hB, hP, ⟨u, u1, u2, u3, u4⟩, hR⟩ := id hI.2.1
  obtain ⟨h4, h6, b1, b2, b3⟩ := id hB
  refine ck97 (by omega) b1 (fun ha hb hc => ?_) (fun hn => ?_)
  · obtain ⟨r, hr, rfl⟩ := ir_of (by omega) h6 ha
    have hv : vp_in (Int32.ofNat r) 6 := (nn_in (by omega)).mpr (by omega)
    have next : ∀ z, z = bz (hsl (F 4) r = true) → wp 97 51 [.ref 0, .int (Int32.ofNat r), .int b, .int c, .float 0] [.int z] (hs t, F, G) (fun v M => wp 191 0 [.ref 193, .int (Int32.ofNat r), .int b, .int c, .float 0] [] M (ENi v)) := by
      intro z hz
      refine rg97_51 (sp17 ok1_5 (ok7_3 t) ⟨by decide, Or.inl (by decide)⟩ u1 u2 (fun F1 v1 d1 d2 d3 d4 d5 d6 d7 => rg97_70 (sp72 (ok7_3 t) (by omega) (fun F2 d8 d9 => rg97_83 ?_))))
      have e2 : ∀ x, x ≠ 4 → x ≠ 5 → (x < 7 ∨ 14 < x) → F2 x = F x := fun x h1 h2 h3 => by rw [d9 x h1, d7 x h2 h3]
      refine ck191 (by omega) (by rw [e2 193 (by decide) (by decide) (by decide), b2]) (fun _ _ _ => ?_) (fun hn => absurd ⟨ha, hb, hc⟩ hn)
      refine rg191_24 ⟨fun _ => sp189 u1 (by rw [e2 193 (by decide) (by decide) (by decide), u3]) (fun F3 v2 g1 g2 g3 g4 g5 g6 g7 g8 => ?_), fun q => absurd q (by decide)⟩
      have e3 : ∀ x, x ≠ 4 → x ≠ 5 → (x < 7 ∨ 14 < x) → x ≠ 193 → x ≠ 207 → F3 x = F x := fun x h1 h2 h3 h4 h5 => by rw [g8 x h4 h5, e2 x h1 h2 h3]
      have m2 : mr9 F2 = mr9 F := mr_fr (by rw [e2 193 (by decide) (by decide) (by decide)]) (e2 196 (by decide) (by decide) (by decide)) (e2 197 (by decide) (by decide) (by decide)) (e2 198 (by decide) (by decide) (by decide)) (e2 199 (by decide) (by decide) (by decide))
      have m3 : mr9 F3 = mr9 F := by rw [← m2]; exact mr_fr (g7 2 (by decide)) (g8 196 (by decide) (by decide)) (g8 197 (by decide) (by decide)) (g8 198 (by decide) (by decide)) (g8 199 (by decide) (by decide))
      have er : F3 196 r = F 4 r := by rw [hP.1 r (by omega), ← m3, mr_0 (by omega)]
      have fin : ∀ z', z = z' → wp 191 51 [.ref 193, .int (Int32.ofNat r), .int b, .int c, .float 0] [.int z'] (hs t, F3, G) (ENi (some (.int z))) := by
        intro z' hz'
        refine rg191_51 ⟨hv, hv, ?_⟩
        rw [nn_clamp (by omega)]
        refine en_i (inv_rp (n := n) hI ⟨hB, hP, ⟨u, u1, u2, u3, u4⟩, hR⟩ (fun x hx => by rw [u_n (show x ≠ 197 by omega), u_n (show x ≠ 196 by omega)]; exact e3 x hx.1 hx.2.1 hx.2.2.1 hx.2.2.2.1 hx.2.2.2.2.2) (fun x h1 h2 => by rw [u_n (by decide), u_n (by decide), g7 x h2, e2 193 (by decide) (by decide) (by decide)]) ?_ ?_) hz'
        · have e4 : ip_u (ip_u F3 196 r b) 197 r c 4 = ups (ups (F 4) r b) (6 + r) c := by rw [u_n (by decide), u_n (by decide), g8 4 (by decide) (by decide)]; exact d8.trans (by rw [show F1 (3 + 1) = F 4 from d7 4 (by decide) (by decide)])
          unfold NP9
          rw [e4, mr_u197 (by omega), mr_u196 (by omega), m3]
          obtain ⟨k, hk, rfl⟩ := nn_bet (b := 5) (by omega) hb.1 hb.2
          obtain ⟨w, w1, w2, rfl⟩ := nn_bt (a := 1) (b := 11) (by omega) hc.1 (by omega) hc.2
          exact ⟨sr_ups (sr_ups hP.1), wr_slip hP.2 (by omega) (Or.inr ⟨hr, ⟨k, hk, rfl⟩, w, w1, by omega, rfl⟩)⟩
        · refine nu_keep h6 hP u1 u4 d1 d3 d4 g3 g4 ?_ ?_ (fun j hj x hx => ?_) (fun j hj i hi => ?_)
          · rw [u_n (by decide), u_n (by decide), g8 5 (by decide) (by decide), d9 5 (by decide), d5]
          · rw [u_n (by decide), u_n (by decide), g5]
          · rw [u_n (show 7 + j ≠ 197 by omega), u_n (show 7 + j ≠ 196 by omega), g8 _ (by omega) (by omega), d9 _ (by omega)]
            exact d6 j hj x hx
          · rw [u_n (by decide), u_n (by decide), g6 j hj i hi, m2, e2 207 (by decide) (by decide) (by decide)]
      refine rg191_36 ⟨hv, fun e => fin _ ?_, fun e => fin _ ?_⟩
      · rw [nn_clamp (by omega), er] at e
        rw [hz, bz_f (by simp [hsl, e])]
      · rw [nn_clamp (by omega), er] at e
        rw [hz, bz_t (by simp [hsl, e])]
    refine rg97_22 ⟨fun _ => sp71 (ok7_3 t) (by omega) (rg97_43 ⟨fun e => next _ ?_, fun e => next _ ?_⟩), fun q => absurd q (by decide)⟩
    · rw [bz_0] at e
      rw [bz_f e]
    · rw [bz_n0] at e
      rw [bz_t e]
  · exact ck191 (by omega) (by rw [u_n (by decide), b2]) (fun ha hb hc => absurd ⟨ha, hb, hc⟩ hn) (fun _ => en_bad hI)
theorem pr_drops {a : Int32} (hI : INV t F G) : wp 98 0 [.ref 0, .int a, .float 0] [] (hs t, F, G) (fun v M => wp 192 0 [.ref 193, .int a, .float 0] [] M (ENi v)) := by
  obtain ⟨n, hB, hP, ⟨u, u1, u2, u3, u4⟩, hR⟩ := id hI.2.1
  obtain ⟨h4, h6, b1, b2, b3⟩ := id hB
  refine ck98 (by omega) b1 (fun ha => ?_) (fun hn => ?_)
  · obtain ⟨r, hr, rfl⟩ := ir_of (by omega) h6 ha
    have hv : vp_in (Int32.ofNat r) 6 := (nn_in (by omega)).mpr (by omega)
    have e0 : F 196 r = F 4 r := by rw [hP.1 r (by omega), mr_0 (by omega)]
    refine rg98_5 ⟨fun _ => sp71 (ok7_3 t) (by omega) (rg98_26 ⟨fun e => ?_, fun e => ?_⟩), fun q => absurd q (by decide)⟩
    · rw [bz_n0] at e
      have e : ¬ F 4 r = -1 := fun q => by
        have : hsl (F 4) r = true := e
        simp [hsl, q] at this
      refine sp66 (ok7_3 t) (by omega) (rg98_47 (sp17 ok1_5 (ok7_3 t) ⟨by decide, Or.inl (by decide)⟩ u1 u2 (fun F1 v1 d1 d2 d3 d4 d5 d6 d7 => rg98_65 (sp73 (ok7_3 t) (by omega) (fun F2 d8 d9 => rg98_76 ?_)))))
      have e2 : ∀ x, x ≠ 4 → x ≠ 5 → (x < 7 ∨ 14 < x) → F2 x = F x := fun x h1 h2 h3 => by rw [d9 x h1, d7 x h2 h3]
      refine ck192 (by omega) (by rw [e2 193 (by decide) (by decide) (by decide), b2]) (fun _ => ?_) (fun hn => absurd ha hn)
      refine rg192_5 ⟨fun _ => ⟨hv, fun _ => sp189 u1 (by rw [e2 193 (by decide) (by decide) (by decide), u3]) (fun F3 v2 g1 g2 g3 g4 g5 g6 g7 g8 => rg192_32 ⟨hv, hv, hv, ?_⟩), fun q => ?_⟩, fun q => absurd q (by decide)⟩
      · have e3 : ∀ x, x ≠ 4 → x ≠ 5 → (x < 7 ∨ 14 < x) → x ≠ 193 → x ≠ 207 → F3 x = F x := fun x h1 h2 h3 h4 h5 => by rw [g8 x h4 h5, e2 x h1 h2 h3]
        have m2 : mr9 F2 = mr9 F := mr_fr (by rw [e2 193 (by decide) (by decide) (by decide)]) (e2 196 (by decide) (by decide) (by decide)) (e2 197 (by decide) (by decide) (by decide)) (e2 198 (by decide) (by decide) (by decide)) (e2 199 (by decide) (by decide) (by decide))
        have m3 : mr9 F3 = mr9 F := by rw [← m2]; exact mr_fr (g7 2 (by decide)) (g8 196 (by decide) (by decide)) (g8 197 (by decide) (by decide)) (g8 198 (by decide) (by decide)) (g8 199 (by decide) (by decide))
        rw [nn_clamp (by omega)]
        refine en_i (inv_rp (n := n) hI ⟨hB, hP, ⟨u, u1, u2, u3, u4⟩, hR⟩ (fun x hx => by rw [u_n (show x ≠ 197 by omega), u_n (show x ≠ 196 by omega)]; exact e3 x hx.1 hx.2.1 hx.2.2.1 hx.2.2.2.1 hx.2.2.2.2.2) (fun x h1 h2 => by rw [u_n (by decide), u_n (by decide), g7 x h2, e2 193 (by decide) (by decide) (by decide)]) ?_ ?_) ?_
        · have e4 : ip_u (ip_u F3 196 r (-1)) 197 r (-1) 4 = ups (ups (F 4) r (-1)) (6 + r) (-1) := by rw [u_n (by decide), u_n (by decide), g8 4 (by decide) (by decide)]; exact d8.trans (by rw [show F1 (3 + 1) = F 4 from d7 4 (by decide) (by decide)])
          unfold NP9
          rw [e4, mr_u197 (by omega), mr_u196 (by omega), m3]
          exact ⟨sr_ups (sr_ups hP.1), wr_slip hP.2 (by omega) (Or.inl ⟨rfl, rfl⟩)⟩
        · refine nu_keep h6 hP u1 u4 d1 d3 d4 g3 g4 ?_ ?_ (fun j hj x hx => ?_) (fun j hj i hi => ?_)
          · rw [u_n (by decide), u_n (by decide), g8 5 (by decide) (by decide), d9 5 (by decide), d5]
          · rw [u_n (by decide), u_n (by decide), g5]
          · rw [u_n (show 7 + j ≠ 197 by omega), u_n (show 7 + j ≠ 196 by omega), g8 _ (by omega) (by omega), d9 _ (by omega)]
            exact d6 j hj x hx
          · rw [u_n (by decide), u_n (by decide), g6 j hj i hi, m2, e2 207 (by decide) (by decide) (by decide)]
        · rw [e3 196 (by decide) (by decide) (by decide) (by decide) (by decide), e0]
      · rw [nn_clamp (by omega), e2 196 (by decide) (by decide) (by decide), e0] at q
        exact absurd q e
    · rw [bz_0] at e
      have e : F 4 r = -1 := by
        have : ¬ hsl (F 4) r = true := e
        simpa [hsl] using this
      refine sp133n (rg98_35 ?_)
      refine ck192 (by omega) (by rw [u_n (by decide), b2]) (fun _ => ?_) (fun hn => absurd ha hn)
      refine rg192_5 ⟨fun _ => ⟨hv, fun q => ?_, fun _ => rg141_0 (rg192_27 (en_no hI))⟩, fun q => absurd q (by decide)⟩
      rw [nn_clamp (by omega), u_n (by decide), e0] at q
      exact absurd e q
  · exact ck192 (by omega) (by rw [u_n (by decide), b2]) (fun ha => absurd ha hn) (fun _ => en_bad hI)
theorem pr_hands {a b : Int32} (hI : INV t F G) : wp 99 0 [.ref 0, .int a, .int b, .float 0] [] (hs t, F, G) (fun v M => wp 193 0 [.ref 193, .int a, .int b, .float 0] [] M (ENi v)) := by
  obtain ⟨n, hB, hP, ⟨u, u1, u2, u3, u4⟩, hR⟩ := id hI.2.1
  obtain ⟨h4, h6, b1, b2, b3⟩ := id hB
  refine ck99 (by omega) b1 (fun ha hb => ?_) (fun hn => ?_)
  · obtain ⟨r, hr, rfl⟩ := ir_of (by omega) h6 ha
    have hv : vp_in (Int32.ofNat r) 6 := (nn_in (by omega)).mpr (by omega)
    refine rg99_12 ⟨fun _ => sp69 (ok7_3 t) (by omega) (rg99_33 (sp17 ok1_5 (ok7_3 t) ⟨by decide, Or.inl (by decide)⟩ u1 u2 (fun F1 v1 d1 d2 d3 d4 d5 d6 d7 => rg99_51 (sp74 (ok7_3 t) (by omega) (fun F2 d8 d9 => rg99_64 ?_))))), fun q => absurd q (by decide)⟩
    have e2 : ∀ x, x ≠ 4 → x ≠ 5 → (x < 7 ∨ 14 < x) → F2 x = F x := fun x h1 h2 h3 => by rw [d9 x h1, d7 x h2 h3]
    refine ck193 (by omega) (by rw [e2 193 (by decide) (by decide) (by decide), b2]) (fun _ _ => ?_) (fun hn => absurd ⟨ha, hb⟩ hn)
    refine rg193_14 ⟨fun _ => sp189 u1 (by rw [e2 193 (by decide) (by decide) (by decide), u3]) (fun F3 v2 g1 g2 g3 g4 g5 g6 g7 g8 => rg193_26 ⟨hv, hv, hv, ?_⟩), fun q => absurd q (by decide)⟩
    have e3 : ∀ x, x ≠ 4 → x ≠ 5 → (x < 7 ∨ 14 < x) → x ≠ 193 → x ≠ 207 → F3 x = F x := fun x h1 h2 h3 h4 h5 => by rw [g8 x h4 h5, e2 x h1 h2 h3]
    have m2 : mr9 F2 = mr9 F := mr_fr (by rw [e2 193 (by decide) (by decide) (by decide)]) (e2 196 (by decide) (by decide) (by decide)) (e2 197 (by decide) (by decide) (by decide)) (e2 198 (by decide) (by decide) (by decide)) (e2 199 (by decide) (by decide) (by decide))
    have m3 : mr9 F3 = mr9 F := by rw [← m2]; exact mr_fr (g7 2 (by decide)) (g8 196 (by decide) (by decide)) (g8 197 (by decide) (by decide)) (g8 198 (by decide) (by decide)) (g8 199 (by decide) (by decide))
    rw [nn_clamp (by omega)]
    refine en_i (inv_rp (n := n) hI ⟨hB, hP, ⟨u, u1, u2, u3, u4⟩, hR⟩ (fun x hx => by rw [u_n (show x ≠ 199 by omega), u_n (show x ≠ 198 by omega)]; exact e3 x hx.1 hx.2.1 hx.2.2.1 hx.2.2.2.1 hx.2.2.2.2.2) (fun x h1 h2 => by rw [u_n (by decide), u_n (by decide), g7 x h2, e2 193 (by decide) (by decide) (by decide)]) ?_ ?_) ?_
    · have e4 : ip_u (ip_u F3 198 r b) 199 r 0 4 = ups (ups (F 4) (12 + r) b) (18 + r) 0 := by rw [u_n (by decide), u_n (by decide), g8 4 (by decide) (by decide)]; exact d8.trans (by rw [show F1 (3 + 1) = F 4 from d7 4 (by decide) (by decide)])
      unfold NP9
      rw [e4, mr_u199 (by omega), mr_u198 (by omega), m3]
      obtain ⟨k, hk, rfl⟩ := nn_bet (b := 5) (by omega) hb.1 hb.2
      exact ⟨sr_ups (sr_ups hP.1), wr_seat hP.2 (by omega) ⟨k, hk, rfl⟩⟩
    · refine nu_keep h6 hP u1 u4 d1 d3 d4 g3 g4 ?_ ?_ (fun j hj x hx => ?_) (fun j hj i hi => ?_)
      · rw [u_n (by decide), u_n (by decide), g8 5 (by decide) (by decide), d9 5 (by decide), d5]
      · rw [u_n (by decide), u_n (by decide), g5]
      · rw [u_n (show 7 + j ≠ 199 by omega), u_n (show 7 + j ≠ 198 by omega), g8 _ (by omega) (by omega), d9 _ (by omega)]
        exact d6 j hj x hx
      · rw [u_n (by decide), u_n (by decide), g6 j hj i hi, m2, e2 207 (by decide) (by decide) (by decide)]
    · show F 4 (18 + r) = F3 199 r
      rw [e3 199 (by decide) (by decide) (by decide) (by decide) (by decide), hP.1 (18 + r) (by omega), mr_18 (by omega)]
  · exact ck193 (by omega) (by rw [u_n (by decide), b2]) (fun ha hb => absurd ⟨ha, hb⟩ hn) (fun _ => en_bad hI)
theorem pr_undo (hI : INV t F G) : wp 101 0 [.ref 0] [] (hs t, F, G) (fun v M => wp 195 0 [.ref 193] [] M (ENi v)) := by
  obtain ⟨n, hB, hP, ⟨u, u1, u2, u3, u4⟩, hR⟩ := id hI.2.1
  obtain ⟨h4, h6, b1, b2, b3⟩ := id hB
  match u, u1, u2, u3, u4 with
  | 0, _, u2, u3, _ =>
    refine rg101_0 ⟨fun q => absurd u2 q, fun _ => sp133n (rg101_19 (rg195_0 ⟨fun q => ?_, fun _ => rg141_0 (rg195_11 (en_no hI))⟩))⟩
    rw [u_n (by decide), u3] at q
    exact absurd rfl q
  | u + 1, u1, u2, u3, u4 =>
    refine rg101_0 ⟨fun _ => sp19 ok1_5 (ok7_3 t) ⟨by decide, Or.inl (by decide)⟩ (by omega) u2 (fun F1 d1 d2 d3 => rg101_37 (rg70_0 (ok7_3 t) (rg101_47 ?_))), fun q => ?_⟩
    · refine rg195_0 ⟨fun _ => ?_, fun q => ?_⟩
      · have e1 : F1 193 22 - 1 = Int32.ofNat u := by
          rw [d3 193 (by decide) (by decide), u3]
          exact nn_sub (b := 1) (by omega)
        rw [e1, show ip_u F1 193 22 (Int32.ofNat u) 193 22 = Int32.ofNat u by rw [u_s, if_pos rfl], show (25 : Int32) * Int32.ofNat u = Int32.ofNat (25 * u) from nn_mul 25 u]
        refine sp188 (a := 207) (n1 := 200) rfl (by omega) (by omega) (by omega) (fun F2 g1 g2 g3 g4 => rg195_37 ?_)
        have e2 : ∀ x, x ≠ 4 → x ≠ 5 → x ≠ 193 → (x < 196 ∨ 199 < x) → F2 x = F x := fun x h1 h2 h3 h5 => by rw [g4 x h3 h5, u_n h3, d3 x h2 h1]
        have e7 : ip_u F1 193 22 (Int32.ofNat u) 207 = F 207 := by rw [u_n (by decide), d3 207 (by decide) (by decide)]
        rw [e7] at g1
        have hQ := u4 u (by omega)
        have f1 : ∀ i, i < 25 → F2 4 i = F (7 + u) i := fun i hi => by rw [g4 4 (by decide) (by decide), u_n (by decide)]; exact d2 i hi
        refine en_i (inv_rp (n := n) hI ⟨hB, hP, ⟨u + 1, u1, u2, u3, u4⟩, hR⟩ (fun x hx => e2 x hx.1 hx.2.1 hx.2.2.2.1 hx.2.2.2.2.1) (fun x h1 h2 => ?_) ⟨sr_congr h6 hQ.1 f1 g1, wr_congr hQ.2 f1⟩ ⟨u, by omega, ?_, ?_, fun j hj => ?_⟩) ?_
        · rw [g3, ups, if_neg h1, u_s, if_neg h2, d3 193 (by decide) (by decide)]
        · rw [g4 5 (by decide) (by decide), u_n (by decide), d1]
        · rw [g3, ups, if_neg (by decide), u_s, if_pos rfl]
        · rw [e2 (7 + j) (by omega) (by omega) (by omega) (by omega), e2 207 (by decide) (by decide) (by decide) (by decide)]
          exact u4 j (by omega)
        · have := g1 24 (by omega)
          rw [mr_24] at this
          rw [this]
          refine (d2 24 (by omega)).trans ?_
          exact hQ.1 24 (by omega)
      · rw [d3 193 (by decide) (by decide), u3] at q
        (simp (disch := omega) only [nn_lit, nn_m1, nn_add, nn_mul, nn_rem, nn_sub, nn_addm1, nn_lt, nn_le, nn_eq, nn_clamp, nn_in, nn_nem1, nn_m1ne, nn_ltm1, nn_m1lt, nn_m1le, nn_lem1, bz_0, bz_n0, not_false_eq_true, not_true_eq_false, true_and, and_true, false_and, and_false, false_implies, true_implies, forall_const, Nat.reduceMul, Nat.reduceAdd, Nat.reduceSub] at q <;> try simp only [nn_bk] at q)
        omega
    · rw [u2] at q
      (simp (disch := omega) only [nn_lit, nn_m1, nn_add, nn_mul, nn_rem, nn_sub, nn_addm1, nn_lt, nn_le, nn_eq, nn_clamp, nn_in, nn_nem1, nn_m1ne, nn_ltm1, nn_m1lt, nn_m1le, nn_lem1, bz_0, bz_n0, not_false_eq_true, not_true_eq_false, true_and, and_true, false_and, and_false, false_implies, true_implies, forall_const, Nat.reduceMul, Nat.reduceAdd, Nat.reduceSub] at q <;> try simp only [nn_bk] at q)
      omega
end SP
