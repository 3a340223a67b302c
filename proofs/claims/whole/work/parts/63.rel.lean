/-! ===== the two sides hold the same ===== -/
abbrev NB9 (n : Nat) (F : ip_F) : Prop := 4 ≤ n ∧ n ≤ 6 ∧ F 1 6 = Int32.ofNat n ∧ F 193 1 = Int32.ofNat n ∧ (∀ i, i < 6 → F 2 i = F 195 i)
abbrev NP9 (n : Nat) (F : ip_F) : Prop := SR9 n (F 4) (mr9 F) ∧ WR9 n (F 4)
abbrev NU9 (n : Nat) (F : ip_F) : Prop := ∃ u, u ≤ 8 ∧ F 5 1 = Int32.ofNat u ∧ F 193 22 = Int32.ofNat u ∧ ∀ j, j < u → SR9 n (F (7 + j)) (ly9 (F 207) (25 * j)) ∧ WR9 n (F (7 + j))
abbrev NH9 (F : ip_F) : Prop := ∃ u, u ≤ 4 ∧ F 15 1 = Int32.ofNat u ∧ F 193 3 = Int32.ofNat u ∧ ∀ j, j < u → (∃ r, 1 ≤ r ∧ r < 12 ∧ F 16 (4 * j) = Int32.ofNat r) ∧ ∀ i, i < 2 → F 16 (4 * j + i) = F 200 (2 * j + i)
abbrev NN9 (F : ip_F) : Prop := ∃ u, u ≤ 6 ∧ F 17 1 = Int32.ofNat u ∧ F 193 4 = Int32.ofNat u ∧ ∀ j, j < u → ∀ i, i < 3 → F 18 (4 * j + i) = F 201 (3 * j + i)
abbrev NM9 (F : ip_F) : Prop := ∃ u, u ≤ 6 ∧ F 19 1 = Int32.ofNat u ∧ F 193 5 = Int32.ofNat u ∧ ∀ j, j < u → (F 20 (4 * j + 3) = 0 ∨ F 20 (4 * j + 3) = 1) ∧ ∀ i, i < 4 → F 20 (4 * j + i) = F 202 (4 * j + i)
abbrev NR9 (n : Nat) (F : ip_F) : Prop := NB9 n F ∧ NP9 n F ∧ NU9 n F ∧ NH9 F ∧ NN9 F ∧ NM9 F
/-- a tower of the class at cell k, and one as the reference lays it -/
abbrev TR9 (k n : Nat) (F : ip_F) (v : Nat → Int32) : Prop := (4 ≤ n ∧ n ≤ 6 ∧ F k 6 = Int32.ofNat n ∧ v 25 = Int32.ofNat n ∧ (∀ i, i < 6 → F (k + 1) i = v (30 + i))) ∧
  (SR9 n (F (k + 3)) (ly9 v 0) ∧ WR9 n (F (k + 3))) ∧
  (∃ u, u ≤ 8 ∧ F (k + 4) 1 = Int32.ofNat u ∧ v 29 = Int32.ofNat u ∧ ∀ j, j < u → SR9 n (F (k + 6 + j)) (ly9 v (86 + 25 * j)) ∧ WR9 n (F (k + 6 + j))) ∧
  (∃ u, u ≤ 4 ∧ F (k + 14) 1 = Int32.ofNat u ∧ v 26 = Int32.ofNat u ∧ ∀ j, j < u → (∃ r, 1 ≤ r ∧ r < 12 ∧ F (k + 15) (4 * j) = Int32.ofNat r) ∧ ∀ i, i < 2 → F (k + 15) (4 * j + i) = v (36 + (2 * j + i))) ∧
  (∃ u, u ≤ 6 ∧ F (k + 16) 1 = Int32.ofNat u ∧ v 27 = Int32.ofNat u ∧ ∀ j, j < u → ∀ i, i < 3 → F (k + 17) (4 * j + i) = v (44 + (3 * j + i))) ∧
  (∃ u, u ≤ 6 ∧ F (k + 18) 1 = Int32.ofNat u ∧ v 28 = Int32.ofNat u ∧ ∀ j, j < u → (F (k + 19) (4 * j + 3) = 0 ∨ F (k + 19) (4 * j + 3) = 1) ∧ ∀ i, i < 4 → F (k + 19) (4 * j + i) = v (62 + (4 * j + i)))
abbrev IM9 (F : ip_F) : Prop := ∀ i, i < 2 → F 61 i = F 212 i ∧ (F 212 i = 0 ∨ (F 212 i = 1 ∧ ∃ n, TR9 (21 + 20 * i) n F (fun x => F 211 (300 * i + x))))
abbrev RF9 (F : ip_F) : Prop := ∀ i, i < 3 → F 192 i = F 194 i
abbrev XT9 (F : ip_F) : Prop := ∃ T, T ≤ 150 ∧ F 62 1 = Int32.ofNat T ∧ F 193 15 = Int32.ofNat T ∧ ∀ j, j < T → ∃ b, b < 128 ∧ F 63 j = Int32.ofNat b ∧ F 203 j = Int32.ofNat b
abbrev FG9 (G : ip_G) : Prop := G 0 9 = G 193 26 ∧ G 0 10 = G 193 27
abbrev INV (t : Nat) (F : ip_F) (G : ip_G) : Prop := (t = 86 ∨ t = 62) ∧ (∃ n, NR9 n F) ∧ IM9 F ∧ RF9 F ∧ XT9 F ∧ FG9 G
/-- what the reference lays of all that an image keeps -/
def lv9 (F : ip_F) (x : Nat) : Int32 := if x = 0 then F 193 2 else if x < 7 then F 196 (x - 1) else if x < 13 then F 197 (x - 7) else if x < 19 then F 198 (x - 13) else if x < 25 then F 199 (x - 19) else if x = 25 then F 193 1 else if x = 26 then F 193 3 else if x = 27 then F 193 4 else if x = 28 then F 193 5 else if x = 29 then F 193 22 else if x < 36 then F 195 (x - 30) else if x < 44 then F 200 (x - 36) else if x < 62 then F 201 (x - 44) else if x < 86 then F 202 (x - 62) else F 207 (x - 86)
theorem lv_mr {F : ip_F} {i : Nat} (hi : i < 25) : ly9 (lv9 F) 0 i = mr9 F i := by
  unfold ly9 mr9
  by_cases e : i = 24
  · subst e
    rw [if_pos rfl]
    rfl
  · rw [if_neg e, lv9, if_neg (by omega)]
    by_cases e6 : i < 6
    · rw [if_pos (by omega), if_pos e6, show 0 + 1 + i - 1 = i by omega]
    · rw [if_neg (by omega), if_neg e6]
      by_cases e12 : i < 12
      · rw [if_pos (by omega), if_pos e12, show 0 + 1 + i - 7 = i - 6 by omega]
      · rw [if_neg (by omega), if_neg e12]
        by_cases e18 : i < 18
        · rw [if_pos (by omega), if_pos e18, show 0 + 1 + i - 13 = i - 12 by omega]
        · rw [if_neg (by omega), if_neg e18, if_pos (by omega), if_pos (by omega), show 0 + 1 + i - 19 = i - 18 by omega]
theorem lv_195 {F : ip_F} {i : Nat} (hi : i < 6) : lv9 F (30 + i) = F 195 i := by
  rw [lv9, if_neg (by omega), if_neg (by omega), if_neg (by omega), if_neg (by omega), if_neg (by omega), if_neg (by omega), if_neg (by omega), if_neg (by omega), if_neg (by omega), if_neg (by omega), if_pos (by omega), show 30 + i - 30 = i by omega]
theorem lv_200 {F : ip_F} {i : Nat} (hi : i < 8) : lv9 F (36 + i) = F 200 i := by
  rw [lv9, if_neg (by omega), if_neg (by omega), if_neg (by omega), if_neg (by omega), if_neg (by omega), if_neg (by omega), if_neg (by omega), if_neg (by omega), if_neg (by omega), if_neg (by omega), if_neg (by omega), if_pos (by omega), show 36 + i - 36 = i by omega]
theorem lv_201 {F : ip_F} {i : Nat} (hi : i < 18) : lv9 F (44 + i) = F 201 i := by
  rw [lv9, if_neg (by omega), if_neg (by omega), if_neg (by omega), if_neg (by omega), if_neg (by omega), if_neg (by omega), if_neg (by omega), if_neg (by omega), if_neg (by omega), if_neg (by omega), if_neg (by omega), if_neg (by omega), if_pos (by omega), show 44 + i - 44 = i by omega]
theorem lv_202 {F : ip_F} {i : Nat} (hi : i < 24) : lv9 F (62 + i) = F 202 i := by
  rw [lv9, if_neg (by omega), if_neg (by omega), if_neg (by omega), if_neg (by omega), if_neg (by omega), if_neg (by omega), if_neg (by omega), if_neg (by omega), if_neg (by omega), if_neg (by omega), if_neg (by omega), if_neg (by omega), if_neg (by omega), if_pos (by omega), show 62 + i - 62 = i by omega]
theorem lv_207 {F : ip_F} {i : Nat} : lv9 F (86 + i) = F 207 i := by
  rw [lv9, if_neg (by omega), if_neg (by omega), if_neg (by omega), if_neg (by omega), if_neg (by omega), if_neg (by omega), if_neg (by omega), if_neg (by omega), if_neg (by omega), if_neg (by omega), if_neg (by omega), if_neg (by omega), if_neg (by omega), if_neg (by omega), show 86 + i - 86 = i by omega]
theorem lv_ly {F : ip_F} {j i : Nat} : ly9 (lv9 F) (86 + j) i = ly9 (F 207) j i := by
  unfold ly9
  by_cases e : i = 24
  · rw [if_pos e, if_pos e, lv_207]
  · rw [if_neg e, if_neg e, show 86 + j + 1 + i = 86 + (j + 1 + i) by omega, lv_207]
theorem sr_to {n : Nat} {c a b : Nat → Int32} (hn : n ≤ 6) (h : SR9 n c a) (e : ∀ i, i < 25 → b i = a i) : SR9 n c b := fun i hi => by rw [e i (by omega)]; exact h i hi
theorem nr_tr {n : Nat} {F : ip_F} (h : NR9 n F) : TR9 1 n F (lv9 F) := by
  obtain ⟨⟨b1, b2, b3, b4, b5⟩, ⟨p1, p2⟩, ⟨u, u1, u2, u3, u4⟩, ⟨a, a1, a2, a3, a4⟩, ⟨m, m1, m2, m3, m4⟩, w, w1, w2, w3, w4⟩ := h
  refine ⟨⟨b1, b2, b3, b4, fun i hi => ?_⟩, ⟨sr_to b2 p1 (fun i hi => lv_mr hi), p2⟩, ⟨u, u1, u2, u3, fun j hj => ⟨sr_to b2 (u4 j hj).1 (fun i hi => lv_ly), (u4 j hj).2⟩⟩, ⟨a, a1, a2, a3, fun j hj => ⟨(a4 j hj).1, fun i hi => ?_⟩⟩, ⟨m, m1, m2, m3, fun j hj i hi => ?_⟩, w, w1, w2, w3, fun j hj => ⟨(w4 j hj).1, fun i hi => ?_⟩⟩
  · rw [lv_195 hi]
    exact b5 i hi
  · rw [lv_200 (by omega)]
    exact (a4 j hj).2 i hi
  · rw [lv_201 (by omega)]
    exact m4 j hj i hi
  · rw [lv_202 (by omega)]
    exact (w4 j hj).2 i hi
theorem tr_nr {n : Nat} {F : ip_F} (h : TR9 1 n F (lv9 F)) : NR9 n F := by
  obtain ⟨⟨b1, b2, b3, b4, b5⟩, ⟨p1, p2⟩, ⟨u, u1, u2, u3, u4⟩, ⟨a, a1, a2, a3, a4⟩, ⟨m, m1, m2, m3, m4⟩, w, w1, w2, w3, w4⟩ := h
  refine ⟨⟨b1, b2, b3, b4, fun i hi => ?_⟩, ⟨sr_to b2 p1 (fun i hi => (lv_mr hi).symm), p2⟩, ⟨u, u1, u2, u3, fun j hj => ⟨sr_to b2 (u4 j hj).1 (fun i hi => lv_ly.symm), (u4 j hj).2⟩⟩, ⟨a, a1, a2, a3, fun j hj => ⟨(a4 j hj).1, fun i hi => ?_⟩⟩, ⟨m, m1, m2, m3, fun j hj i hi => ?_⟩, w, w1, w2, w3, fun j hj => ⟨(w4 j hj).1, fun i hi => ?_⟩⟩
  · rw [← lv_195 (F := F) hi]
    exact b5 i hi
  · rw [← lv_200 (F := F) (show 2 * j + i < 8 by omega)]
    exact (a4 j hj).2 i hi
  · rw [← lv_201 (F := F) (show 3 * j + i < 18 by omega)]
    exact m4 j hj i hi
  · rw [← lv_202 (F := F) (show 4 * j + i < 24 by omega)]
    exact (w4 j hj).2 i hi
theorem ly_to {v v' : Nat → Int32} {p : Nat} (hp : p + 25 ≤ 286) (h : ∀ x, x < 286 → v' x = v x) {i : Nat} (hi : i < 25) : ly9 v' p i = ly9 v p i := by
  unfold ly9
  by_cases e : i = 24
  · rw [if_pos e, if_pos e, h _ (by omega)]
  · rw [if_neg e, if_neg e, h _ (by omega)]
/-- copied, it is the same still -/
theorem tr_copy {k o n : Nat} {F F' : ip_F} {v v' : Nat → Int32} (h : TR9 o n F v) (e6 : F' k 6 = F o 6) (e1 : ∀ i, i < 6 → F' (k + 1) i = F (o + 1) i) (e3 : ∀ i, i < 25 → F' (k + 3) i = F (o + 3) i) (e4 : F' (k + 4) 1 = F (o + 4) 1) (e5 : ∀ j, j < 8 → ∀ x, x < 25 → F' (k + 6 + j) x = F (o + 6 + j) x) (e14 : F' (k + 14) 1 = F (o + 14) 1) (e15 : ∀ x, x < 24 → F' (k + 15) x = F (o + 15) x) (e16 : F' (k + 16) 1 = F (o + 16) 1) (e17 : ∀ x, x < 24 → F' (k + 17) x = F (o + 17) x) (e18 : F' (k + 18) 1 = F (o + 18) 1) (e19 : ∀ x, x < 24 → F' (k + 19) x = F (o + 19) x) (hv : ∀ x, x < 286 → v' x = v x) : TR9 k n F' v' := by
  obtain ⟨⟨b1, b2, b3, b4, b5⟩, ⟨p1, p2⟩, ⟨u, u1, u2, u3, u4⟩, ⟨a, a1, a2, a3, a4⟩, ⟨m, m1, m2, m3, m4⟩, w, w1, w2, w3, w4⟩ := h
  refine ⟨⟨b1, b2, by rw [e6, b3], by rw [hv 25 (by omega), b4], fun i hi => by rw [e1 i hi, hv _ (by omega)]; exact b5 i hi⟩, ⟨sr_congr b2 p1 e3 (fun i hi => ly_to (by omega) hv hi), wr_congr p2 e3⟩, ⟨u, u1, by rw [e4, u2], by rw [hv 29 (by omega), u3], fun j hj => ⟨sr_congr b2 (u4 j hj).1 (e5 j (by omega)) (fun i hi => ly_to (by omega) hv hi), wr_congr (u4 j hj).2 (e5 j (by omega))⟩⟩, ⟨a, a1, by rw [e14, a2], by rw [hv 26 (by omega), a3], fun j hj => ⟨?_, fun i hi => by rw [e15 _ (by omega), hv _ (by omega)]; exact (a4 j hj).2 i hi⟩⟩, ⟨m, m1, by rw [e16, m2], by rw [hv 27 (by omega), m3], fun j hj i hi => by rw [e17 _ (by omega), hv _ (by omega)]; exact m4 j hj i hi⟩, w, w1, by rw [e18, w2], by rw [hv 28 (by omega), w3], fun j hj => ⟨?_, fun i hi => by rw [e19 _ (by omega), hv _ (by omega)]; exact (w4 j hj).2 i hi⟩⟩
  · obtain ⟨r, r1, r2, r3⟩ := (a4 j hj).1
    exact ⟨r, r1, r2, by rw [e15 _ (by omega), r3]⟩
  · rw [e19 _ (by omega)]
    exact (w4 j hj).1
/-! frames -/
theorem nb_fr {n : Nat} {F F' : ip_F} (h : NB9 n F) (e1 : F' 1 6 = F 1 6) (e2 : F' 2 = F 2) (e3 : F' 193 1 = F 193 1) (e4 : F' 195 = F 195) : NB9 n F' := by
  unfold NB9
  rw [e1, e2, e3, e4]
  exact h
theorem mr_fr {F F' : ip_F} (e1 : F' 193 2 = F 193 2) (e2 : F' 196 = F 196) (e3 : F' 197 = F 197) (e4 : F' 198 = F 198) (e5 : F' 199 = F 199) : mr9 F' = mr9 F := by
  funext i
  unfold mr9
  rw [e1, e2, e3, e4, e5]
theorem np_fr {n : Nat} {F F' : ip_F} (h : NP9 n F) (e1 : F' 4 = F 4) (e2 : mr9 F' = mr9 F) : NP9 n F' := by
  unfold NP9
  rw [e1, e2]
  exact h
theorem nu_fr {n : Nat} {F F' : ip_F} (h : NU9 n F) (e1 : F' 5 1 = F 5 1) (e2 : F' 193 22 = F 193 22) (e3 : ∀ j, j < 8 → F' (7 + j) = F (7 + j)) (e4 : F' 207 = F 207) : NU9 n F' := by
  obtain ⟨u, u1, u2, u3, u4⟩ := h
  refine ⟨u, u1, by rw [e1, u2], by rw [e2, u3], fun j hj => ?_⟩
  rw [e3 j (by omega), e4]
  exact u4 j hj
theorem nh_fr {F F' : ip_F} (h : NH9 F) (e1 : F' 15 1 = F 15 1) (e2 : F' 16 = F 16) (e3 : F' 193 3 = F 193 3) (e4 : F' 200 = F 200) : NH9 F' := by
  unfold NH9
  rw [e1, e2, e3, e4]
  exact h
theorem nn_fr {F F' : ip_F} (h : NN9 F) (e1 : F' 17 1 = F 17 1) (e2 : F' 18 = F 18) (e3 : F' 193 4 = F 193 4) (e4 : F' 201 = F 201) : NN9 F' := by
  unfold NN9
  rw [e1, e2, e3, e4]
  exact h
theorem nm_fr {F F' : ip_F} (h : NM9 F) (e1 : F' 19 1 = F 19 1) (e2 : F' 20 = F 20) (e3 : F' 193 5 = F 193 5) (e4 : F' 202 = F 202) : NM9 F' := by
  unfold NM9
  rw [e1, e2, e3, e4]
  exact h
theorem tr_fr {k n : Nat} {F F' : ip_F} {v v' : Nat → Int32} (h : TR9 k n F v) (e : ∀ b, k ≤ b → b < k + 20 → F' b = F b) (hv : ∀ x, x < 286 → v' x = v x) : TR9 k n F' v' :=
  tr_copy h (by rw [e k (by omega) (by omega)]) (fun i _ => by rw [e _ (by omega) (by omega)]) (fun i _ => by rw [e _ (by omega) (by omega)]) (by rw [e _ (by omega) (by omega)]) (fun j hj i _ => by rw [e _ (by omega) (by omega)]) (by rw [e _ (by omega) (by omega)]) (fun i _ => by rw [e _ (by omega) (by omega)]) (by rw [e _ (by omega) (by omega)]) (fun i _ => by rw [e _ (by omega) (by omega)]) (by rw [e _ (by omega) (by omega)]) (fun i _ => by rw [e _ (by omega) (by omega)]) hv
theorem im_fr {F F' : ip_F} (h : IM9 F) (e : ∀ b, 21 ≤ b → b < 62 → F' b = F b) (e1 : F' 211 = F 211) (e2 : F' 212 = F 212) : IM9 F' := by
  intro i hi
  rw [e 61 (by omega) (by omega), e2, e1]
  obtain ⟨h1, h2⟩ := h i hi
  refine ⟨h1, h2.imp id (fun ⟨q, n, hT⟩ => ⟨q, n, tr_fr hT (fun b hb hb2 => e b (by omega) (by omega)) (fun _ _ => rfl)⟩)⟩
theorem tx_fr {F F' : ip_F} (h : XT9 F) (e1 : F' 62 1 = F 62 1) (e2 : F' 63 = F 63) (e3 : F' 193 15 = F 193 15) (e4 : F' 203 = F 203) : XT9 F' := by
  unfold XT9
  rw [e1, e2, e3, e4]
  exact h
theorem rf_fr {F F' : ip_F} (h : RF9 F) (e1 : F' 192 = F 192) (e2 : F' 194 = F 194) : RF9 F' := by
  unfold RF9
  rw [e1, e2]
  exact h
theorem nr_fr {n : Nat} {F F' : ip_F} (h : NR9 n F) (e : ∀ b, (1 ≤ b ∧ b < 21) ∨ b = 193 ∨ (195 ≤ b ∧ b ≤ 202) ∨ b = 207 → F' b = F b) : NR9 n F' := by
  obtain ⟨hB, hP, hU, hH, hN, hM⟩ := h
  exact ⟨nb_fr hB (by rw [e 1 (by omega)]) (e 2 (by omega)) (by rw [e 193 (by omega)]) (e 195 (by omega)), np_fr hP (e 4 (by omega)) (mr_fr (by rw [e 193 (by omega)]) (e 196 (by omega)) (e 197 (by omega)) (e 198 (by omega)) (e 199 (by omega))), nu_fr hU (by rw [e 5 (by omega)]) (by rw [e 193 (by omega)]) (fun j hj => e _ (by omega)) (e 207 (by omega)), nh_fr hH (by rw [e 15 (by omega)]) (e 16 (by omega)) (by rw [e 193 (by omega)]) (e 200 (by omega)), nn_fr hN (by rw [e 17 (by omega)]) (e 18 (by omega)) (by rw [e 193 (by omega)]) (e 201 (by omega)), nm_fr hM (by rw [e 19 (by omega)]) (e 20 (by omega)) (by rw [e 193 (by omega)]) (e 202 (by omega))⟩
/-- cells that questions don't write -/
abbrev nqc (b : Nat) : Prop := b < 64 ∨ b = 88 ∨ 192 ≤ b
abbrev nqm (b : Nat) : Prop := b ≠ 205 ∧ b ≠ 206 ∧ b ≠ 208 ∧ b ≠ 209 ∧ b ≠ 210
theorem inv_fr {t : Nat} {F F' : ip_F} {G : ip_G} (h : INV t F G) (e : ∀ b, nqc b → nqm b → F' b = F b) : INV t F' G := by
  obtain ⟨ht, ⟨n, hN⟩, hI, hR, hT, hG⟩ := h
  exact ⟨ht, ⟨n, nr_fr hN (fun b hb => e b (by unfold nqc; omega) (by unfold nqm; omega))⟩, im_fr hI (fun b hb hb2 => e b (by unfold nqc; omega) (by unfold nqm; omega)) (e 211 (by decide) (by decide)) (e 212 (by decide) (by decide)), rf_fr hR (e 192 (by decide) (by decide)) (e 194 (by decide) (by decide)), tx_fr hT (by rw [e 62 (by decide) (by decide)]) (e 63 (by decide) (by decide)) (by rw [e 193 (by decide) (by decide)]) (e 203 (by decide) (by decide)), hG⟩
/-! both answered alike, and all is the same again -/
abbrev ENi (v v' : Option Value) (M : ip_M) : Prop := ∃ (z : Int32) (t : Nat) (F : ip_F) (G : ip_G), v = some (.int z) ∧ v' = some (.int z) ∧ M = (hs t, F, G) ∧ INV t F G
abbrev ENl (v v' : Option Value) (M : ip_M) : Prop := ∃ (z : Int64) (t : Nat) (F : ip_F) (G : ip_G), v = some (.long z) ∧ v' = some (.long z) ∧ M = (hs t, F, G) ∧ INV t F G
theorem en_i {t : Nat} {F : ip_F} {G : ip_G} {z z' : Int32} (h : INV t F G) (e : z = z') : ENi (some (.int z)) (some (.int z')) (hs t, F, G) := ⟨z, t, F, G, rfl, by rw [e], rfl, h⟩
theorem en_l {t : Nat} {F : ip_F} {G : ip_G} {z z' : Int64} (h : INV t F G) (e : z = z') : ENl (some (.long z)) (some (.long z')) (hs t, F, G) := ⟨z, t, F, G, rfl, by rw [e], rfl, h⟩
/-- refused on both sides -/
theorem inv_rf {t : Nat} {F : ip_F} {G : ip_G} {i : Nat} (hi : i < 3) (h : INV t F G) : INV t (ip_u (ip_u F 192 i (F 192 i + 1)) 194 i (ip_u F 192 i (F 192 i + 1) 194 i + 1)) G := by
  obtain ⟨ht, ⟨n, hN⟩, hI, hR, hT, hG⟩ := h
  have e : ∀ b, b ≠ 192 → b ≠ 194 → ip_u (ip_u F 192 i (F 192 i + 1)) 194 i (ip_u F 192 i (F 192 i + 1) 194 i + 1) b = F b := fun b hb hb2 => by rw [u_n hb2, u_n hb]
  refine ⟨ht, ⟨n, nr_fr hN (fun b hb => e b (by omega) (by omega))⟩, im_fr hI (fun b hb hb2 => e b (by omega) (by omega)) (e 211 (by decide) (by decide)) (e 212 (by decide) (by decide)), fun j hj => ?_, tx_fr hT (by rw [e 62 (by decide) (by decide)]) (e 63 (by decide) (by decide)) (by rw [e 193 (by decide) (by decide)]) (e 203 (by decide) (by decide)), hG⟩
  rw [u_n (show 192 ≠ 194 by decide), u_s, u_s, u_n (show 194 ≠ 192 by decide)]
  by_cases q : j = i
  · subst q
    rw [if_pos rfl, if_pos rfl, hR j hj]
  · rw [if_neg q, if_neg q]
    exact hR j hj
