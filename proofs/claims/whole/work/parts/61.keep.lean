/-! ===== what always holds of the ropes is kept ===== -/
theorem my_le {y : Nat} (h : y ≤ 99) : ∃ z, z ≤ 99 ∧ my9 (Int32.ofNat y) = Int32.ofNat z := by
  unfold my9
  rw [show Int32.ofNat y + 1 = Int32.ofNat (y + 1) from nn_add y 1]
  by_cases e : 99 < y + 1
  · refine ⟨99, by omega, ?_⟩
    rw [if_pos (show (99 : Int32) < Int32.ofNat (y + 1) from (nn_lt (a := 99) (by omega) (by omega)).mpr e)]
    rfl
  · refine ⟨y + 1, by omega, ?_⟩
    rw [if_neg (show ¬ (99 : Int32) < Int32.ofNat (y + 1) from fun q => e ((nn_lt (a := 99) (by omega) (by omega)).mp q))]
theorem wr_py {n : Nat} {c : Nat → Int32} (hw : WR9 n c) {T : Nat} (hT : T < 2000) (hc : c 24 = Int32.ofNat T) : WR9 n (py9 c) := by
  obtain ⟨h1, h2, h3, _⟩ := hw
  have e0 : ∀ i, i < 18 → py9 c i = c i := fun i hi => by
    unfold py9
    rw [if_neg (by omega), if_neg (by omega)]
  refine ⟨fun r hr => ?_, fun r hr => ?_, fun r hr => ?_, T + 1, by omega, ?_⟩
  · rw [e0 r (by omega), e0 (6 + r) (by omega)]
    exact h1 r hr
  · rw [e0 (12 + r) (by omega)]
    exact h2 r hr
  · obtain ⟨y, hy, e⟩ := h3 r hr
    unfold py9
    rw [if_neg (by omega), if_pos (by omega), e]
    exact my_le hy
  · unfold py9
    rw [if_pos rfl, hc]
    exact nn_add T 1
theorem wr_slip {n r : Nat} {c : Nat → Int32} {x y : Int32} (hw : WR9 n c) (hr : r < 6) (hxy : (x = -1 ∧ y = -1) ∨ (r < n ∧ kd9 x ∧ ∃ w, 1 ≤ w ∧ w < 12 ∧ y = Int32.ofNat w)) : WR9 n (ups (ups c r x) (6 + r) y) := by
  obtain ⟨h1, h2, h3, T, h4, h5⟩ := hw
  have e0 : ∀ i, 12 ≤ i → ups (ups c r x) (6 + r) y i = c i := fun i hi => by
    unfold ups
    rw [if_neg (by omega), if_neg (by omega)]
  refine ⟨fun q hq => ?_, fun q hq => ?_, fun q hq => ?_, T, h4, ?_⟩
  · by_cases e : q = r
    · subst e
      have ea : ups (ups c q x) (6 + q) y q = x := by
        unfold ups
        rw [if_neg (by omega), if_pos rfl]
      have eb : ups (ups c q x) (6 + q) y (6 + q) = y := if_pos rfl
      rw [ea, eb]
      exact hxy
    · have ea : ups (ups c r x) (6 + r) y q = c q := by
        unfold ups
        rw [if_neg (by omega), if_neg (by omega)]
      have eb : ups (ups c r x) (6 + r) y (6 + q) = c (6 + q) := by
        unfold ups
        rw [if_neg (by omega), if_neg (by omega)]
      rw [ea, eb]
      exact h1 q hq
  · rw [e0 _ (by omega)]
    exact h2 q hq
  · rw [e0 _ (by omega)]
    exact h3 q hq
  · rw [e0 _ (by omega)]
    exact h5
theorem wr_seat {n r : Nat} {c : Nat → Int32} {x : Int32} {y : Nat} (hw : WR9 n c) (hr : r < 6) (hx : kd9 x) (hy : y ≤ 99) : WR9 n (ups (ups c (12 + r) x) (18 + r) (Int32.ofNat y)) := by
  obtain ⟨h1, h2, h3, T, h4, h5⟩ := hw
  have e0 : ∀ i, i < 12 ∨ i = 24 → ups (ups c (12 + r) x) (18 + r) (Int32.ofNat y) i = c i := fun i hi => by
    unfold ups
    rw [if_neg (by omega), if_neg (by omega)]
  refine ⟨fun q hq => ?_, fun q hq => ?_, fun q hq => ?_, T, h4, ?_⟩
  · rw [e0 _ (by omega), e0 _ (by omega)]
    exact h1 q hq
  · unfold ups
    rw [if_neg (by omega)]
    by_cases e : q = r
    · rw [if_pos (by omega)]
      exact hx
    · rw [if_neg (by omega)]
      exact h2 q hq
  · unfold ups
    by_cases e : q = r
    · rw [if_pos (by omega)]
      exact ⟨y, hy, rfl⟩
    · rw [if_neg (by omega), if_neg (by omega)]
      exact h3 q hq
  · rw [e0 _ (by omega)]
    exact h5
