/-! ===== what always holds of the ropes is kept ===== -/
theorem wr_py {n : Nat} {c : Nat → Int32} (hw : WR9 n c) : WR9 n (py9 c) := by
  obtain ⟨h1, h2⟩ := hw
  have e0 : ∀ i, i < 18 → py9 c i = c i := fun i hi => by
    unfold py9
    rw [if_neg (by omega), if_neg (by omega)]
  refine ⟨fun r hr => ?_, fun r hr => ?_⟩
  · rw [e0 r (by omega), e0 (6 + r) (by omega)]
    exact h1 r hr
  · rw [e0 (12 + r) (by omega)]
    exact h2 r hr
theorem wr_slip {n r : Nat} {c : Nat → Int32} {x y : Int32} (hw : WR9 n c) (hr : r < 6) (hxy : (x = -1 ∧ y = -1) ∨ (r < n ∧ kd9 x ∧ ∃ w, 1 ≤ w ∧ w < 12 ∧ y = Int32.ofNat w)) : WR9 n (ups (ups c r x) (6 + r) y) := by
  obtain ⟨h1, h2⟩ := hw
  have e0 : ∀ i, 12 ≤ i → ups (ups c r x) (6 + r) y i = c i := fun i hi => by
    unfold ups
    rw [if_neg (by omega), if_neg (by omega)]
  refine ⟨fun q hq => ?_, fun q hq => ?_⟩
  · by_cases e : q = r
    · subst e
      have ea : ups (ups c q x) (6 + q) y q = x := by
        unfold ups
        rw [if_neg (by omega), if_pos rfl]
      have eb : ups (ups c q x) (6 + q) y (6 + q) = y := if_pos rfl
      rw [ea, eb]
      exact hxy
    · have ea : ups (ups c r x) (6 + r) y q = c q := by
        unfold ups
        rw [if_neg (by omega), if_neg (by omega)]
      have eb : ups (ups c r x) (6 + r) y (6 + q) = c (6 + q) := by
        unfold ups
        rw [if_neg (by omega), if_neg (by omega)]
      rw [ea, eb]
      exact h1 q hq
  · rw [e0 _ (by omega)]
    exact h2 q hq
theorem wr_seat {n r : Nat} {c : Nat → Int32} {x y : Int32} (hw : WR9 n c) (hr : r < 6) (hx : kd9 x) : WR9 n (ups (ups c (12 + r) x) (18 + r) y) := by
  obtain ⟨h1, h2⟩ := hw
  have e0 : ∀ i, i < 12 ∨ i = 24 → ups (ups c (12 + r) x) (18 + r) y i = c i := fun i hi => by
    unfold ups
    rw [if_neg (by omega), if_neg (by omega)]
  refine ⟨fun q hq => ?_, fun q hq => ?_⟩
  · rw [e0 _ (by omega), e0 _ (by omega)]
    exact h1 q hq
  · unfold ups
    rw [if_neg (by omega)]
    by_cases e : q = r
    · rw [if_pos (by omega)]
      exact hx
    · rw [if_neg (by omega)]
      exact h2 q hq
theorem wr_congr {n : Nat} {c c' : Nat → Int32} (hw : WR9 n c) (h : ∀ i, i < 25 → c' i = c i) : WR9 n c' := by
  refine ⟨fun r hr => ?_, fun r hr => ?_⟩
  · rw [h r (by omega), h (6 + r) (by omega)]
    exact hw.1 r hr
  · rw [h (12 + r) (by omega)]
    exact hw.2 r hr
theorem sr_congr {n : Nat} {a a' c c' : Nat → Int32} (hn : n ≤ 6) (hs : SR9 n a c) (ha : ∀ i, i < 25 → a' i = a i) (hc : ∀ i, i < 25 → c' i = c i) : SR9 n a' c' := by
  intro i hi
  rw [ha i (by omega), hc i (by omega)]
  exact hs i hi
theorem wr_pys {n : Nat} : ∀ d (c : Nat → Int32), WR9 n c → WR9 n (pys9 d c)
  | 0, _, h => h
  | d + 1, c, h => by
    rw [pys9]
    split
    · exact wr_pys d _ (wr_py h)
    · exact h
