/-! ===== what makes a slip, where it is told, how many bits ===== -/
def mk9 (k y t : Int32) : Bool := if k = 0 then true else if k = 1 then decide (3 ≤ y) else if k = 2 then !decide (t - t / 5 * 5 = 0) else if k = 3 then decide (9 ≤ y) else if k = 4 then decide (y - y / 2 * 2 = 0) else (!decide (t - t / 5 * 5 = 0)) && decide (t - t / 2 * 2 = 0)
def pl9 (p n : Int32) : Int32 := if n < p + 1 then n else p + 1
def el9 (p n : Int32) : Int32 := if pl9 p n - 2 < 1 then 1 else pl9 p n - 2
def la9 (p n : Int32) : Int32 := if n < pl9 p n + 1 then n else pl9 p n + 1
def pt9 (k p n : Int32) : Int32 := if k = 0 then pl9 p n else if k = 1 then el9 p n else if k = 2 then la9 p n else if k = 3 then (if la9 p n = n then n else p) else if k = 4 then n + 1 - el9 p n else la9 p n
theorem i32_le3 {y : Int32} (h : 9 ≤ y) : 3 ≤ y := Int32.le_trans (by decide) h
section SP
variable {t : Nat} {F : ip_F} {G : ip_G} {Q : Option Value → ip_M → Prop}
theorem sp51 {a b c : Int32} (h : Q (some (.int (bz (mk9 a b c = true)))) (hs t, F, G)) : wp 51 0 [.int a, .int b, .int c, .float 0, .float 0] [] (hs t, F, G) Q := by
  have key : ∀ l p : Int32, l = bz (3 ≤ b) → p = bz (¬ (c - c / 5 * 5 = 0)) → wp 51 22 [.int a, .int b, .int c, .int l, .float 0] [.int p] (hs t, F, G) Q := by
    intro l p hl hp
    subst hl hp
    refine rg51_22 ⟨fun e => ?_, fun e => ⟨bz_and, ?_⟩, fun e => ⟨bz_and, ?_⟩, fun e => ⟨fun e1 => ?_, fun e1 => ⟨fun e2 => ?_, fun e2 => ?_⟩⟩, fun e => ⟨fun e1 => ?_, fun e1 => ?_⟩, ?_⟩
    · subst e
      exact h
    · subst e
      rw [show bz (mk9 1 b c = true) = bz (3 ≤ b) from bz_iff (by simp [mk9])] at h
      exact h
    · subst e
      rw [show bz (mk9 2 b c = true) = bz (¬ (c - c / 5 * 5 = 0)) from bz_iff (by simp [mk9])] at h
      exact h
    · subst e
      rw [show bz (mk9 3 b c = true) = 0 from bz_f (by simpa [mk9, Int32.not_le] using e1)] at h
      exact h
    · rw [bz_0] at e2
      exact absurd (i32_le3 e1) e2
    · subst e
      rw [show bz (mk9 3 b c = true) = 1 from bz_t (by simpa [mk9] using e1)] at h
      exact h
    · subst e
      rw [show bz (mk9 4 b c = true) = 0 from bz_f (by simpa [mk9] using e1)] at h
      exact h
    · subst e
      rw [show bz (mk9 4 b c = true) = 1 from bz_t (by simpa [mk9] using e1)] at h
      exact h
    · rintro ⟨n0, n1, n2, n3, n4⟩
      have e : mk9 a b c = ((!decide (c - c / 5 * 5 = 0)) && decide (c - c / 2 * 2 = 0)) := by simp only [mk9, if_neg n0, if_neg n1, if_neg n2, if_neg n3, if_neg n4]
      rw [e] at h
      refine ⟨fun e1 => ?_, fun e1 => ⟨fun e2 => ?_, fun e2 => ?_⟩⟩
      · rw [bz_0] at e1
        rw [bz_f (by simp only [Bool.and_eq_true, Bool.not_eq_true', decide_eq_false_iff_not, decide_eq_true_eq]; exact fun q => e1 q.1)] at h
        exact h
      · rw [bz_f (by simp only [Bool.and_eq_true, Bool.not_eq_true', decide_eq_false_iff_not, decide_eq_true_eq]; exact fun q => e2 q.2)] at h
        exact h
      · rw [bz_n0] at e1
        rw [bz_t (by simp only [Bool.and_eq_true, Bool.not_eq_true', decide_eq_false_iff_not, decide_eq_true_eq]; exact ⟨e1, e2⟩)] at h
        exact h
  refine rg51_0 ⟨fun h1 => rg51_10 ⟨fun h2 => key _ _ ?_ ?_, fun h2 => key _ _ ?_ ?_⟩, fun h1 => rg51_10 ⟨fun h2 => key _ _ ?_ ?_, fun h2 => key _ _ ?_ ?_⟩⟩
  · rw [bz_f (Int32.not_le.mpr h1)]
  · rw [bz_f (fun q => q h2)]
  · rw [bz_f (Int32.not_le.mpr h1)]
  · rw [bz_t h2]
  · rw [bz_t h1]
  · rw [bz_f (fun q => q h2)]
  · rw [bz_t h1]
  · rw [bz_t h2]
theorem sp173 {a b c : Int32} (ha : ∃ n, n ≤ 5 ∧ a = Int32.ofNat n) (h : Q (some (.int (bz (mk9 a b c = true)))) (hs t, F, G)) : wp 173 0 [.int a, .int b, .int c] [] (hs t, F, G) Q := by
  refine rg173_0 ⟨fun e => ⟨fun e1 => ?_, fun e1 => ?_⟩, fun e => ⟨fun e1 => ?_, fun e1 => ?_⟩, fun e => ⟨fun e1 => ?_, fun e1 => ?_⟩, fun e => ⟨fun e1 => ?_, fun e1 => ?_⟩, fun e => ⟨fun e1 => ?_, fun e1 => ⟨fun e2 => ?_, fun e2 => ?_⟩⟩, ?_⟩
  · subst e
    rwa [show bz (mk9 1 b c = true) = 0 from bz_f (by simpa [mk9, Int32.not_le] using e1)] at h
  · subst e
    rwa [show bz (mk9 1 b c = true) = 1 from bz_t (by simpa [mk9] using e1)] at h
  · subst e
    rwa [show bz (mk9 2 b c = true) = 0 from bz_f (by simpa [mk9] using e1)] at h
  · subst e
    rwa [show bz (mk9 2 b c = true) = 1 from bz_t (by simpa [mk9] using e1)] at h
  · subst e
    rwa [show bz (mk9 3 b c = true) = 0 from bz_f (by simpa [mk9, Int32.not_le] using e1)] at h
  · subst e
    rwa [show bz (mk9 3 b c = true) = 1 from bz_t (by simpa [mk9] using e1)] at h
  · subst e
    rwa [show bz (mk9 4 b c = true) = 0 from bz_f (by simpa [mk9] using e1)] at h
  · subst e
    rwa [show bz (mk9 4 b c = true) = 1 from bz_t (by simpa [mk9] using e1)] at h
  · subst e
    rwa [show bz (mk9 5 b c = true) = 0 from bz_f (by simp [mk9, e1])] at h
  · subst e
    rwa [show bz (mk9 5 b c = true) = 0 from bz_f (by simp [mk9, e2])] at h
  · subst e
    rwa [show bz (mk9 5 b c = true) = 1 from bz_t (by simp [mk9, e1, e2])] at h
  · rintro ⟨n1, n2, n3, n4, n5⟩
    obtain ⟨n, hn, rfl⟩ := ha
    have : n = 0 := by
      match n, hn with
      | 0, _ => rfl
      | 1, _ => exact absurd rfl n1
      | 2, _ => exact absurd rfl n2
      | 3, _ => exact absurd rfl n3
      | 4, _ => exact absurd rfl n4
      | 5, _ => exact absurd rfl n5
    subst this
    exact h
theorem sp82 {a b c : Int32} (h : Q (some (.int (pt9 a b c))) (hs t, F, G)) : wp 82 0 [.int a, .int b, .int c, .float 0, .float 0, .float 0] [] (hs t, F, G) Q := by
  refine rg82_0 ⟨fun e => ?_, fun e => ?_, fun e => ?_, fun e => ⟨fun e1 => ?_, fun e1 => ?_⟩, fun e => ?_, ?_⟩
  · subst e
    exact h
  · subst e
    exact h
  · subst e
    exact h
  · subst e
    rw [show pt9 3 b c = b from if_neg e1] at h
    exact h
  · subst e
    rw [show pt9 3 b c = c from if_pos e1] at h
    exact h
  · subst e
    exact h
  · rintro ⟨n0, n1, n2, n3, n4⟩
    rw [show pt9 a b c = la9 b c by simp only [pt9, if_neg n0, if_neg n1, if_neg n2, if_neg n3, if_neg n4]] at h
    exact h
theorem sp172 {a b c : Int32} (ha : ∃ n, n ≤ 5 ∧ a = Int32.ofNat n) (h : Q (some (.int (pt9 a b c))) (hs t, F, G)) : wp 172 0 [.int a, .int b, .int c, .float 0, .float 0, .float 0] [] (hs t, F, G) Q := by
  refine rg172_0 (sp145 ?_)
  refine rg172_7 (sp146 ?_)
  refine rg172_15 (sp145 ?_)
  refine rg172_24 ⟨fun e => ?_, fun e => ?_, fun e => ⟨fun e1 => ?_, fun e1 => ?_⟩, fun e => ?_, fun e => ?_, ?_⟩
  · subst e
    exact h
  · subst e
    exact h
  · subst e
    rw [show pt9 3 b c = b from if_neg e1] at h
    exact h
  · subst e
    rw [show pt9 3 b c = c from if_pos e1] at h
    exact h
  · subst e
    exact h
  · subst e
    exact sp145 (rg172_92 h)
  · rintro ⟨n1, n2, n3, n4, n5⟩
    obtain ⟨n, hn, rfl⟩ := ha
    have : n = 0 := by
      match n, hn with
      | 0, _ => rfl
      | 1, _ => exact absurd rfl n1
      | 2, _ => exact absurd rfl n2
      | 3, _ => exact absurd rfl n3
      | 4, _ => exact absurd rfl n4
      | 5, _ => exact absurd rfl n5
    subst this
    exact h
end SP
