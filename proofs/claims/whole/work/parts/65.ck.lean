/-! ===== the checks of a call ===== -/
/-! a rope or none -/
abbrev IR9 (n : Nat) (v : Int32) : Prop := 0 ≤ v ∧ v ≤ Int32.ofNat (n - 1)
theorem ir_of {n : Nat} {v : Int32} (hn : 1 ≤ n) (h6 : n ≤ 6) (h : IR9 n v) : ∃ r, r < n ∧ v = Int32.ofNat r := by
  obtain ⟨r, h1, h2⟩ := nn_bet (by omega) h.1 h.2
  exact ⟨r, by omega, h2⟩
section SP
variable {t : Nat} {F : ip_F} {G : ip_G} {Q : Option Value → ip_M → Prop} {n : Nat}
theorem sp130n {v : Int32} (hn : 1 ≤ n) (hb : F 1 6 = Int32.ofNat n) (h : Q (some (.int (bz (IR9 n v)))) (hs t, F, G)) : wp 130 0 [.ref 0, .int v] [] (hs t, F, G) Q := by
  refine sp130 ?_
  rw [hb, show Int32.ofNat n - 1 = Int32.ofNat (n - 1) from nn_sub (b := 1) hn]
  exact h
theorem sp150n {v : Int32} (hn : 1 ≤ n) (hb : F 193 1 = Int32.ofNat n) (h : Q (some (.int (bz (IR9 n v)))) (hs t, F, G)) : wp 150 0 [.ref 193, .int v] [] (hs t, F, G) Q := by
  refine sp150 ?_
  rw [hb, show Int32.ofNat n - 1 = Int32.ofNat (n - 1) from nn_sub (b := 1) hn]
  exact h
theorem ck97 {a b c : Int32} (hn : 1 ≤ n) (hb : F 1 6 = Int32.ofNat n) (h1 : (IR9 n a) → ((0 : Int32) ≤ b ∧ b ≤ 5) → ((1 : Int32) ≤ c ∧ c ≤ 11) → wp 97 22 [.ref 0, .int a, .int b, .int c, .float 0] [.int 1] (hs t, F, G) Q) (h2 : ¬ ((IR9 n a) ∧ ((0 : Int32) ≤ b ∧ b ≤ 5) ∧ ((1 : Int32) ≤ c ∧ c ≤ 11)) → Q (some (.int (-2))) (hs t, ip_u F 192 0 (F 192 0 + 1), G)) : wp 97 0 [.ref 0, .int a, .int b, .int c, .float 0] [] (hs t, F, G) Q := by
  refine rg97_0 (sp130n hn hb ?_)
  by_cases c1 : IR9 n a
  · rw [bz_t c1]
    refine rg97_5 ⟨fun q => absurd q (by decide), fun _ => sp131 ?_⟩
    by_cases c2 : (0 : Int32) ≤ b ∧ b ≤ 5
    · rw [bz_t c2]
      refine rg97_12 ⟨fun q => absurd q (by decide), fun _ => sp129 ?_⟩
      by_cases c3 : (1 : Int32) ≤ c ∧ c ≤ 11
      · rw [bz_t c3]
        exact h1 c1 c2 c3
      · rw [bz_f c3]
        exact rg97_22 ⟨fun q => absurd rfl q, fun _ => rg97_25 (sp133b (rg97_31 (h2 (fun q => c3 q.2.2))))⟩
    · rw [bz_f c2]
      exact rg97_12 ⟨fun _ => rg97_25 (sp133b (rg97_31 (h2 (fun q => c2 q.2.1)))), fun q => absurd rfl q⟩
  · rw [bz_f c1]
    exact rg97_5 ⟨fun _ => rg97_25 (sp133b (rg97_31 (h2 (fun q => c1 q.1)))), fun q => absurd rfl q⟩
theorem ck99 {a b : Int32} (hn : 1 ≤ n) (hb : F 1 6 = Int32.ofNat n) (h1 : (IR9 n a) → ((0 : Int32) ≤ b ∧ b ≤ 5) → wp 99 12 [.ref 0, .int a, .int b, .float 0] [.int 1] (hs t, F, G) Q) (h2 : ¬ ((IR9 n a) ∧ ((0 : Int32) ≤ b ∧ b ≤ 5)) → Q (some (.int (-2))) (hs t, ip_u F 192 0 (F 192 0 + 1), G)) : wp 99 0 [.ref 0, .int a, .int b, .float 0] [] (hs t, F, G) Q := by
  refine rg99_0 (sp130n hn hb ?_)
  by_cases c1 : IR9 n a
  · rw [bz_t c1]
    refine rg99_5 ⟨fun q => absurd q (by decide), fun _ => sp131 ?_⟩
    by_cases c2 : (0 : Int32) ≤ b ∧ b ≤ 5
    · rw [bz_t c2]
      exact h1 c1 c2
    · rw [bz_f c2]
      exact rg99_12 ⟨fun q => absurd rfl q, fun _ => rg99_15 (sp133b (rg99_21 (h2 (fun q => c2 q.2))))⟩
  · rw [bz_f c1]
    exact rg99_5 ⟨fun _ => rg99_15 (sp133b (rg99_21 (h2 (fun q => c1 q.1)))), fun q => absurd rfl q⟩
theorem ck102 {a b : Int32} (hn : 1 ≤ n) (hb : F 1 6 = Int32.ofNat n) (h1 : (IR9 n a) → ((0 : Int32) ≤ b ∧ b ≤ 4) → wp 102 14 [.ref 0, .int a, .int b] [.int 1] (hs t, F, G) Q) (h2 : ¬ ((IR9 n a) ∧ ((0 : Int32) ≤ b ∧ b ≤ 4)) → Q (some (.int (-2))) (hs t, ip_u F 192 0 (F 192 0 + 1), G)) : wp 102 0 [.ref 0, .int a, .int b] [] (hs t, F, G) Q := by
  refine rg102_0 (sp130n hn hb ?_)
  by_cases c1 : IR9 n a
  · rw [bz_t c1]
    refine rg102_5 ⟨fun q => absurd q (by decide), fun _ => sp129 ?_⟩
    by_cases c2 : (0 : Int32) ≤ b ∧ b ≤ 4
    · rw [bz_t c2]
      exact h1 c1 c2
    · rw [bz_f c2]
      exact rg102_14 ⟨fun q => absurd rfl q, fun _ => rg102_17 (sp133b (rg102_23 (h2 (fun q => c2 q.2))))⟩
  · rw [bz_f c1]
    exact rg102_5 ⟨fun _ => rg102_17 (sp133b (rg102_23 (h2 (fun q => c1 q.1)))), fun q => absurd rfl q⟩
theorem ck103 {a b : Int32} (h1 : ((0 : Int32) ≤ a ∧ a ≤ 11) → ((0 : Int32) ≤ b ∧ b ≤ 1) → wp 103 16 [.ref 0, .int a, .int b, .float 0] [.int 1] (hs t, F, G) Q) (h2 : ¬ (((0 : Int32) ≤ a ∧ a ≤ 11) ∧ ((0 : Int32) ≤ b ∧ b ≤ 1)) → Q (some (.int (-2))) (hs t, ip_u F 192 0 (F 192 0 + 1), G)) : wp 103 0 [.ref 0, .int a, .int b, .float 0] [] (hs t, F, G) Q := by
  refine rg103_0 (sp129 ?_)
  by_cases c1 : (0 : Int32) ≤ a ∧ a ≤ 11
  · rw [bz_t c1]
    refine rg103_7 ⟨fun q => absurd q (by decide), fun _ => sp129 ?_⟩
    by_cases c2 : (0 : Int32) ≤ b ∧ b ≤ 1
    · rw [bz_t c2]
      exact h1 c1 c2
    · rw [bz_f c2]
      exact rg103_16 ⟨fun q => absurd rfl q, fun _ => rg103_19 (sp133b (rg103_25 (h2 (fun q => c2 q.2))))⟩
  · rw [bz_f c1]
    exact rg103_7 ⟨fun _ => rg103_19 (sp133b (rg103_25 (h2 (fun q => c1 q.1)))), fun q => absurd rfl q⟩
theorem ck113 {a b c : Int32} (hn : 1 ≤ n) (hb : F 1 6 = Int32.ofNat n) (h1 : (IR9 n a) → ((1 : Int32) ≤ b ∧ b ≤ 6) → ((1 : Int32) ≤ c ∧ c ≤ 6) → wp 113 25 [.ref 0, .int a, .int b, .int c] [.int 1] (hs t, F, G) Q) (h2 : ¬ ((IR9 n a) ∧ ((1 : Int32) ≤ b ∧ b ≤ 6) ∧ ((1 : Int32) ≤ c ∧ c ≤ 6)) → Q (some (.int (-2))) (hs t, ip_u F 192 0 (F 192 0 + 1), G)) : wp 113 0 [.ref 0, .int a, .int b, .int c] [] (hs t, F, G) Q := by
  refine rg113_0 (sp130n hn hb ?_)
  by_cases c1 : IR9 n a
  · rw [bz_t c1]
    refine rg113_5 ⟨fun q => absurd q (by decide), fun _ => sp129 ?_⟩
    by_cases c2 : (1 : Int32) ≤ b ∧ b ≤ 6
    · rw [bz_t c2]
      refine rg113_15 ⟨fun q => absurd q (by decide), fun _ => sp129 ?_⟩
      by_cases c3 : (1 : Int32) ≤ c ∧ c ≤ 6
      · rw [bz_t c3]
        exact h1 c1 c2 c3
      · rw [bz_f c3]
        exact rg113_25 ⟨fun q => absurd rfl q, fun _ => rg113_28 (sp133b (rg113_34 (h2 (fun q => c3 q.2.2))))⟩
    · rw [bz_f c2]
      exact rg113_15 ⟨fun _ => rg113_28 (sp133b (rg113_34 (h2 (fun q => c2 q.2.1)))), fun q => absurd rfl q⟩
  · rw [bz_f c1]
    exact rg113_5 ⟨fun _ => rg113_28 (sp133b (rg113_34 (h2 (fun q => c1 q.1)))), fun q => absurd rfl q⟩
theorem ck114 {a b c d : Int32} (hn : 1 ≤ n) (hb : F 1 6 = Int32.ofNat n) (h1 : (IR9 n a) → ((0 : Int32) ≤ b ∧ b ≤ 99) → ((0 : Int32) ≤ c ∧ c ≤ 99) → ((0 : Int32) ≤ d ∧ d ≤ 1) → wp 114 35 [.ref 0, .int a, .int b, .int c, .int d] [.int 1] (hs t, F, G) Q) (h2 : ¬ ((IR9 n a) ∧ ((0 : Int32) ≤ b ∧ b ≤ 99) ∧ ((0 : Int32) ≤ c ∧ c ≤ 99) ∧ ((0 : Int32) ≤ d ∧ d ≤ 1)) → Q (some (.int (-2))) (hs t, ip_u F 192 0 (F 192 0 + 1), G)) : wp 114 0 [.ref 0, .int a, .int b, .int c, .int d] [] (hs t, F, G) Q := by
  refine rg114_0 (sp130n hn hb ?_)
  by_cases c1 : IR9 n a
  · rw [bz_t c1]
    refine rg114_5 ⟨fun q => absurd q (by decide), fun _ => sp129 ?_⟩
    by_cases c2 : (0 : Int32) ≤ b ∧ b ≤ 99
    · rw [bz_t c2]
      refine rg114_15 ⟨fun q => absurd q (by decide), fun _ => sp129 ?_⟩
      by_cases c3 : (0 : Int32) ≤ c ∧ c ≤ 99
      · rw [bz_t c3]
        refine rg114_25 ⟨fun q => absurd q (by decide), fun _ => sp129 ?_⟩
        by_cases c4 : (0 : Int32) ≤ d ∧ d ≤ 1
        · rw [bz_t c4]
          exact h1 c1 c2 c3 c4
        · rw [bz_f c4]
          exact rg114_35 ⟨fun q => absurd rfl q, fun _ => rg114_38 (sp133b (rg114_44 (h2 (fun q => c4 q.2.2.2))))⟩
      · rw [bz_f c3]
        exact rg114_25 ⟨fun _ => rg114_38 (sp133b (rg114_44 (h2 (fun q => c3 q.2.2.1)))), fun q => absurd rfl q⟩
    · rw [bz_f c2]
      exact rg114_15 ⟨fun _ => rg114_38 (sp133b (rg114_44 (h2 (fun q => c2 q.2.1)))), fun q => absurd rfl q⟩
  · rw [bz_f c1]
    exact rg114_5 ⟨fun _ => rg114_38 (sp133b (rg114_44 (h2 (fun q => c1 q.1)))), fun q => absurd rfl q⟩
theorem ck122 {a b : Int32} (h1 : ((0 : Int32) ≤ a ∧ a ≤ 999999) → ((0 : Int32) ≤ b ∧ b ≤ 60) → wp 122 18 [.ref 0, .int a, .int b] [.int 1] (hs t, F, G) Q) (h2 : ¬ (((0 : Int32) ≤ a ∧ a ≤ 999999) ∧ ((0 : Int32) ≤ b ∧ b ≤ 60)) → Q (some (.int (-2))) (hs t, ip_u F 192 0 (F 192 0 + 1), G)) : wp 122 0 [.ref 0, .int a, .int b] [] (hs t, F, G) Q := by
  refine rg122_0 (sp129 ?_)
  by_cases c1 : (0 : Int32) ≤ a ∧ a ≤ 999999
  · rw [bz_t c1]
    refine rg122_8 ⟨fun q => absurd q (by decide), fun _ => sp129 ?_⟩
    by_cases c2 : (0 : Int32) ≤ b ∧ b ≤ 60
    · rw [bz_t c2]
      exact h1 c1 c2
    · rw [bz_f c2]
      exact rg122_18 ⟨fun q => absurd rfl q, fun _ => rg122_21 (sp133b (rg122_27 (h2 (fun q => c2 q.2))))⟩
  · rw [bz_f c1]
    exact rg122_8 ⟨fun _ => rg122_21 (sp133b (rg122_27 (h2 (fun q => c1 q.1)))), fun q => absurd rfl q⟩
theorem ck191 {a b c : Int32} (hn : 1 ≤ n) (hb : F 193 1 = Int32.ofNat n) (h1 : (IR9 n a) → ((0 : Int32) ≤ b ∧ b ≤ 5) → ((1 : Int32) ≤ c ∧ c ≤ 11) → wp 191 24 [.ref 193, .int a, .int b, .int c, .float 0] [.int 1] (hs t, F, G) Q) (h2 : ¬ ((IR9 n a) ∧ ((0 : Int32) ≤ b ∧ b ≤ 5) ∧ ((1 : Int32) ≤ c ∧ c ≤ 11)) → Q (some (.int (-2))) (hs t, ip_u F 194 0 (F 194 0 + 1), G)) : wp 191 0 [.ref 193, .int a, .int b, .int c, .float 0] [] (hs t, F, G) Q := by
  refine rg191_0 (sp150n hn hb ?_)
  by_cases c1 : IR9 n a
  · rw [bz_t c1]
    refine rg191_5 ⟨fun q => absurd q (by decide), fun _ => sp143 ?_⟩
    by_cases c2 : (0 : Int32) ≤ b ∧ b ≤ 5
    · rw [bz_t c2]
      refine rg191_14 ⟨fun q => absurd q (by decide), fun _ => sp143 ?_⟩
      by_cases c3 : (1 : Int32) ≤ c ∧ c ≤ 11
      · rw [bz_t c3]
        exact h1 c1 c2 c3
      · rw [bz_f c3]
        exact rg191_24 ⟨fun q => absurd rfl q, fun _ => rg191_27 (rg140_0 (rg191_31 (h2 (fun q => c3 q.2.2))))⟩
    · rw [bz_f c2]
      exact rg191_14 ⟨fun _ => rg191_27 (rg140_0 (rg191_31 (h2 (fun q => c2 q.2.1)))), fun q => absurd rfl q⟩
  · rw [bz_f c1]
    exact rg191_5 ⟨fun _ => rg191_27 (rg140_0 (rg191_31 (h2 (fun q => c1 q.1)))), fun q => absurd rfl q⟩
theorem ck193 {a b : Int32} (hn : 1 ≤ n) (hb : F 193 1 = Int32.ofNat n) (h1 : (IR9 n a) → ((0 : Int32) ≤ b ∧ b ≤ 5) → wp 193 14 [.ref 193, .int a, .int b, .float 0] [.int 1] (hs t, F, G) Q) (h2 : ¬ ((IR9 n a) ∧ ((0 : Int32) ≤ b ∧ b ≤ 5)) → Q (some (.int (-2))) (hs t, ip_u F 194 0 (F 194 0 + 1), G)) : wp 193 0 [.ref 193, .int a, .int b, .float 0] [] (hs t, F, G) Q := by
  refine rg193_0 (sp150n hn hb ?_)
  by_cases c1 : IR9 n a
  · rw [bz_t c1]
    refine rg193_5 ⟨fun q => absurd q (by decide), fun _ => sp143 ?_⟩
    by_cases c2 : (0 : Int32) ≤ b ∧ b ≤ 5
    · rw [bz_t c2]
      exact h1 c1 c2
    · rw [bz_f c2]
      exact rg193_14 ⟨fun q => absurd rfl q, fun _ => rg193_17 (rg140_0 (rg193_21 (h2 (fun q => c2 q.2))))⟩
  · rw [bz_f c1]
    exact rg193_5 ⟨fun _ => rg193_17 (rg140_0 (rg193_21 (h2 (fun q => c1 q.1)))), fun q => absurd rfl q⟩
theorem ck197 {a b : Int32} (hn : 1 ≤ n) (hb : F 193 1 = Int32.ofNat n) (h1 : (IR9 n a) → ((0 : Int32) ≤ b ∧ b ≤ 4) → wp 197 14 [.ref 193, .int a, .int b] [.int 1] (hs t, F, G) Q) (h2 : ¬ ((IR9 n a) ∧ ((0 : Int32) ≤ b ∧ b ≤ 4)) → Q (some (.int (-2))) (hs t, ip_u F 194 0 (F 194 0 + 1), G)) : wp 197 0 [.ref 193, .int a, .int b] [] (hs t, F, G) Q := by
  refine rg197_0 (sp150n hn hb ?_)
  by_cases c1 : IR9 n a
  · rw [bz_t c1]
    refine rg197_5 ⟨fun q => absurd q (by decide), fun _ => sp143 ?_⟩
    by_cases c2 : (0 : Int32) ≤ b ∧ b ≤ 4
    · rw [bz_t c2]
      exact h1 c1 c2
    · rw [bz_f c2]
      exact rg197_14 ⟨fun _ => rg197_26 (rg140_0 (rg197_30 (h2 (fun q => c2 q.2)))), fun q => absurd rfl q⟩
  · rw [bz_f c1]
    exact rg197_5 ⟨fun _ => rg197_26 (rg140_0 (rg197_30 (h2 (fun q => c1 q.1)))), fun q => absurd rfl q⟩
theorem ck198 {a b : Int32} (h1 : ((0 : Int32) ≤ a ∧ a ≤ 11) → ((0 : Int32) ≤ b ∧ b ≤ 1) → wp 198 16 [.ref 193, .int a, .int b] [.int 1] (hs t, F, G) Q) (h2 : ¬ (((0 : Int32) ≤ a ∧ a ≤ 11) ∧ ((0 : Int32) ≤ b ∧ b ≤ 1)) → Q (some (.int (-2))) (hs t, ip_u F 194 0 (F 194 0 + 1), G)) : wp 198 0 [.ref 193, .int a, .int b] [] (hs t, F, G) Q := by
  refine rg198_0 (sp143 ?_)
  by_cases c1 : (0 : Int32) ≤ a ∧ a ≤ 11
  · rw [bz_t c1]
    refine rg198_7 ⟨fun q => absurd q (by decide), fun _ => sp143 ?_⟩
    by_cases c2 : (0 : Int32) ≤ b ∧ b ≤ 1
    · rw [bz_t c2]
      exact h1 c1 c2
    · rw [bz_f c2]
      exact rg198_16 ⟨fun q => absurd rfl q, fun _ => rg198_19 (rg140_0 (rg198_23 (h2 (fun q => c2 q.2))))⟩
  · rw [bz_f c1]
    exact rg198_7 ⟨fun _ => rg198_19 (rg140_0 (rg198_23 (h2 (fun q => c1 q.1)))), fun q => absurd rfl q⟩
theorem ck211 {a b c : Int32} (hn : 1 ≤ n) (hb : F 193 1 = Int32.ofNat n) (h1 : (IR9 n a) → ((1 : Int32) ≤ b ∧ b ≤ 6) → ((1 : Int32) ≤ c ∧ c ≤ 6) → wp 211 25 [.ref 193, .int a, .int b, .int c] [.int 1] (hs t, F, G) Q) (h2 : ¬ ((IR9 n a) ∧ ((1 : Int32) ≤ b ∧ b ≤ 6) ∧ ((1 : Int32) ≤ c ∧ c ≤ 6)) → Q (some (.int (-2))) (hs t, ip_u F 194 0 (F 194 0 + 1), G)) : wp 211 0 [.ref 193, .int a, .int b, .int c] [] (hs t, F, G) Q := by
  refine rg211_0 (sp150n hn hb ?_)
  by_cases c1 : IR9 n a
  · rw [bz_t c1]
    refine rg211_5 ⟨fun q => absurd q (by decide), fun _ => sp143 ?_⟩
    by_cases c2 : (1 : Int32) ≤ b ∧ b ≤ 6
    · rw [bz_t c2]
      refine rg211_15 ⟨fun q => absurd q (by decide), fun _ => sp143 ?_⟩
      by_cases c3 : (1 : Int32) ≤ c ∧ c ≤ 6
      · rw [bz_t c3]
        exact h1 c1 c2 c3
      · rw [bz_f c3]
        exact rg211_25 ⟨fun q => absurd rfl q, fun _ => rg211_28 (rg140_0 (rg211_32 (h2 (fun q => c3 q.2.2))))⟩
    · rw [bz_f c2]
      exact rg211_15 ⟨fun _ => rg211_28 (rg140_0 (rg211_32 (h2 (fun q => c2 q.2.1)))), fun q => absurd rfl q⟩
  · rw [bz_f c1]
    exact rg211_5 ⟨fun _ => rg211_28 (rg140_0 (rg211_32 (h2 (fun q => c1 q.1)))), fun q => absurd rfl q⟩
theorem ck212 {a b c d : Int32} (hn : 1 ≤ n) (hb : F 193 1 = Int32.ofNat n) (h1 : (IR9 n a) → ((0 : Int32) ≤ b ∧ b ≤ 99) → ((0 : Int32) ≤ c ∧ c ≤ 99) → ((0 : Int32) ≤ d ∧ d ≤ 1) → wp 212 35 [.ref 193, .int a, .int b, .int c, .int d] [.int 1] (hs t, F, G) Q) (h2 : ¬ ((IR9 n a) ∧ ((0 : Int32) ≤ b ∧ b ≤ 99) ∧ ((0 : Int32) ≤ c ∧ c ≤ 99) ∧ ((0 : Int32) ≤ d ∧ d ≤ 1)) → Q (some (.int (-2))) (hs t, ip_u F 194 0 (F 194 0 + 1), G)) : wp 212 0 [.ref 193, .int a, .int b, .int c, .int d] [] (hs t, F, G) Q := by
  refine rg212_0 (sp150n hn hb ?_)
  by_cases c1 : IR9 n a
  · rw [bz_t c1]
    refine rg212_5 ⟨fun q => absurd q (by decide), fun _ => sp143 ?_⟩
    by_cases c2 : (0 : Int32) ≤ b ∧ b ≤ 99
    · rw [bz_t c2]
      refine rg212_15 ⟨fun q => absurd q (by decide), fun _ => sp143 ?_⟩
      by_cases c3 : (0 : Int32) ≤ c ∧ c ≤ 99
      · rw [bz_t c3]
        refine rg212_25 ⟨fun q => absurd q (by decide), fun _ => sp143 ?_⟩
        by_cases c4 : (0 : Int32) ≤ d ∧ d ≤ 1
        · rw [bz_t c4]
          exact h1 c1 c2 c3 c4
        · rw [bz_f c4]
          exact rg212_35 ⟨fun q => absurd rfl q, fun _ => rg212_38 (rg140_0 (rg212_42 (h2 (fun q => c4 q.2.2.2))))⟩
      · rw [bz_f c3]
        exact rg212_25 ⟨fun _ => rg212_38 (rg140_0 (rg212_42 (h2 (fun q => c3 q.2.2.1)))), fun q => absurd rfl q⟩
    · rw [bz_f c2]
      exact rg212_15 ⟨fun _ => rg212_38 (rg140_0 (rg212_42 (h2 (fun q => c2 q.2.1)))), fun q => absurd rfl q⟩
  · rw [bz_f c1]
    exact rg212_5 ⟨fun _ => rg212_38 (rg140_0 (rg212_42 (h2 (fun q => c1 q.1)))), fun q => absurd rfl q⟩
theorem ck225 {a b : Int32} (h1 : ((0 : Int32) ≤ a ∧ a ≤ 999999) → ((0 : Int32) ≤ b ∧ b ≤ 60) → wp 225 18 [.ref 193, .int a, .int b, .float 0, .float 0, .float 0, .float 0, .float 0] [.int 1] (hs t, F, G) Q) (h2 : ¬ (((0 : Int32) ≤ a ∧ a ≤ 999999) ∧ ((0 : Int32) ≤ b ∧ b ≤ 60)) → Q (some (.int (-2))) (hs t, ip_u F 194 0 (F 194 0 + 1), G)) : wp 225 0 [.ref 193, .int a, .int b, .float 0, .float 0, .float 0, .float 0, .float 0] [] (hs t, F, G) Q := by
  refine rg225_0 (sp143 ?_)
  by_cases c1 : (0 : Int32) ≤ a ∧ a ≤ 999999
  · rw [bz_t c1]
    refine rg225_8 ⟨fun q => absurd q (by decide), fun _ => sp143 ?_⟩
    by_cases c2 : (0 : Int32) ≤ b ∧ b ≤ 60
    · rw [bz_t c2]
      exact h1 c1 c2
    · rw [bz_f c2]
      exact rg225_18 ⟨fun q => absurd rfl q, fun _ => rg225_21 (rg140_0 (rg225_25 (h2 (fun q => c2 q.2))))⟩
  · rw [bz_f c1]
    exact rg225_8 ⟨fun _ => rg225_21 (rg140_0 (rg225_25 (h2 (fun q => c1 q.1)))), fun q => absurd rfl q⟩
theorem ck98 {a : Int32} (hn : 1 ≤ n) (hb : F 1 6 = Int32.ofNat n) (h1 : (IR9 n a) → wp 98 5 [.ref 0, .int a, .float 0] [.int 1] (hs t, F, G) Q) (h2 : ¬ ((IR9 n a)) → Q (some (.int (-2))) (hs t, ip_u F 192 0 (F 192 0 + 1), G)) : wp 98 0 [.ref 0, .int a, .float 0] [] (hs t, F, G) Q := by
  refine rg98_0 (sp130n hn hb ?_)
  by_cases c1 : IR9 n a
  · rw [bz_t c1]
    exact h1 c1
  · rw [bz_f c1]
    exact rg98_5 ⟨fun q => absurd rfl q, fun _ => sp133b (rg98_14 (h2 (fun q => c1 q)))⟩
theorem ck100 {a : Int32} (h1 : ((1 : Int32) ≤ a ∧ a ≤ 60) → wp 100 7 [.ref 0, .int a] [.int 1] (hs t, F, G) Q) (h2 : ¬ (((1 : Int32) ≤ a ∧ a ≤ 60)) → Q (some (.int (-2))) (hs t, ip_u F 192 0 (F 192 0 + 1), G)) : wp 100 0 [.ref 0, .int a] [] (hs t, F, G) Q := by
  refine rg100_0 (sp129 ?_)
  by_cases c1 : (1 : Int32) ≤ a ∧ a ≤ 60
  · rw [bz_t c1]
    exact h1 c1
  · rw [bz_f c1]
    exact rg100_7 ⟨fun q => absurd rfl q, fun _ => sp133b (rg100_16 (h2 (fun q => c1 q)))⟩
theorem ck104 {a : Int32} (h1 : ((0 : Int32) ≤ a ∧ a ≤ 1) → wp 104 6 [.ref 0, .int a, .float 0, .float 0] [.int 1] (hs t, F, G) Q) (h2 : ¬ (((0 : Int32) ≤ a ∧ a ≤ 1)) → Q (some (.int (-2))) (hs t, ip_u F 192 0 (F 192 0 + 1), G)) : wp 104 0 [.ref 0, .int a, .float 0, .float 0] [] (hs t, F, G) Q := by
  refine rg104_0 (sp129 ?_)
  by_cases c1 : (0 : Int32) ≤ a ∧ a ≤ 1
  · rw [bz_t c1]
    exact h1 c1
  · rw [bz_f c1]
    exact rg104_6 ⟨fun q => absurd rfl q, fun _ => sp133b (rg104_15 (h2 (fun q => c1 q)))⟩
theorem ck105 {a : Int32} (h1 : ((0 : Int32) ≤ a ∧ a ≤ 1) → wp 105 6 [.ref 0, .int a, .float 0] [.int 1] (hs t, F, G) Q) (h2 : ¬ (((0 : Int32) ≤ a ∧ a ≤ 1)) → Q (some (.int (-2))) (hs t, ip_u F 192 0 (F 192 0 + 1), G)) : wp 105 0 [.ref 0, .int a, .float 0] [] (hs t, F, G) Q := by
  refine rg105_0 (sp129 ?_)
  by_cases c1 : (0 : Int32) ≤ a ∧ a ≤ 1
  · rw [bz_t c1]
    exact h1 c1
  · rw [bz_f c1]
    exact rg105_6 ⟨fun q => absurd rfl q, fun _ => sp133b (rg105_15 (h2 (fun q => c1 q)))⟩
theorem ck111 {a : Int32} (h1 : ((0 : Int32) ≤ a ∧ a ≤ 2) → wp 111 6 [.ref 0, .int a] [.int 1] (hs t, F, G) Q) (h2 : ¬ (((0 : Int32) ≤ a ∧ a ≤ 2)) → Q (some (.int (-2))) (hs t, ip_u F 192 0 (F 192 0 + 1), G)) : wp 111 0 [.ref 0, .int a] [] (hs t, F, G) Q := by
  refine rg111_0 (sp129 ?_)
  by_cases c1 : (0 : Int32) ≤ a ∧ a ≤ 2
  · rw [bz_t c1]
    exact h1 c1
  · rw [bz_f c1]
    exact rg111_6 ⟨fun q => absurd rfl q, fun _ => sp133b (rg111_15 (h2 (fun q => c1 q)))⟩
theorem ck121 {a : Int32} (h1 : ((0 : Int32) ≤ a ∧ a ≤ 10) → wp 121 7 [.ref 0, .int a, .float 0, .float 0, .float 0, .float 0, .float 0, .float 0] [.int 1] (hs t, F, G) Q) (h2 : ¬ (((0 : Int32) ≤ a ∧ a ≤ 10)) → Q (some (.int (-2))) (hs t, ip_u F 192 0 (F 192 0 + 1), G)) : wp 121 0 [.ref 0, .int a, .float 0, .float 0, .float 0, .float 0, .float 0, .float 0] [] (hs t, F, G) Q := by
  refine rg121_0 (sp129 ?_)
  by_cases c1 : (0 : Int32) ≤ a ∧ a ≤ 10
  · rw [bz_t c1]
    exact h1 c1
  · rw [bz_f c1]
    exact rg121_7 ⟨fun q => absurd rfl q, fun _ => sp133b (rg121_16 (h2 (fun q => c1 q)))⟩
theorem ck116 {a : Int32} (hn : 1 ≤ n) (hb : F 1 6 = Int32.ofNat n) (h1 : (IR9 n a) → wp 116 5 [.ref 0, .int a] [.int 1] (hs t, F, G) Q) (h2 : ¬ ((IR9 n a)) → Q (some (.int (-2))) (hs t, ip_u F 192 0 (F 192 0 + 1), G)) : wp 116 0 [.ref 0, .int a] [] (hs t, F, G) Q := by
  refine rg116_0 (sp130n hn hb ?_)
  by_cases c1 : IR9 n a
  · rw [bz_t c1]
    exact h1 c1
  · rw [bz_f c1]
    exact rg116_5 ⟨fun _ => sp133b (rg116_28 (h2 (fun q => c1 q))), fun q => absurd rfl q⟩
theorem ck117 {a : Int32} (hn : 1 ≤ n) (hb : F 1 6 = Int32.ofNat n) (h1 : (IR9 n a) → wp 117 5 [.ref 0, .int a] [.int 1] (hs t, F, G) Q) (h2 : ¬ ((IR9 n a)) → Q (some (.int (-2))) (hs t, ip_u F 192 0 (F 192 0 + 1), G)) : wp 117 0 [.ref 0, .int a] [] (hs t, F, G) Q := by
  refine rg117_0 (sp130n hn hb ?_)
  by_cases c1 : IR9 n a
  · rw [bz_t c1]
    exact h1 c1
  · rw [bz_f c1]
    exact rg117_5 ⟨fun _ => sp133b (rg117_35 (h2 (fun q => c1 q))), fun q => absurd rfl q⟩
theorem ck118 {a : Int32} (hn : 1 ≤ n) (hb : F 1 6 = Int32.ofNat n) (h1 : (IR9 n a) → wp 118 5 [.ref 0, .int a] [.int 1] (hs t, F, G) Q) (h2 : ¬ ((IR9 n a)) → Q (some (.int (-2))) (hs t, ip_u F 192 0 (F 192 0 + 1), G)) : wp 118 0 [.ref 0, .int a] [] (hs t, F, G) Q := by
  refine rg118_0 (sp130n hn hb ?_)
  by_cases c1 : IR9 n a
  · rw [bz_t c1]
    exact h1 c1
  · rw [bz_f c1]
    exact rg118_5 ⟨fun _ => sp133b (rg118_28 (h2 (fun q => c1 q))), fun q => absurd rfl q⟩
theorem ck119 {a : Int32} (hn : 1 ≤ n) (hb : F 1 6 = Int32.ofNat n) (h1 : (IR9 n a) → wp 119 5 [.ref 0, .int a] [.int 1] (hs t, F, G) Q) (h2 : ¬ ((IR9 n a)) → Q (some (.int (-2))) (hs t, ip_u F 192 0 (F 192 0 + 1), G)) : wp 119 0 [.ref 0, .int a] [] (hs t, F, G) Q := by
  refine rg119_0 (sp130n hn hb ?_)
  by_cases c1 : IR9 n a
  · rw [bz_t c1]
    exact h1 c1
  · rw [bz_f c1]
    exact rg119_5 ⟨fun _ => sp133b (rg119_31 (h2 (fun q => c1 q))), fun q => absurd rfl q⟩
theorem ck127 {a : Int32} (h1 : ((0 : Int32) ≤ a ∧ a ≤ 9) → wp 127 7 [.ref 0, .int a] [.int 1] (hs t, F, G) Q) (h2 : ¬ (((0 : Int32) ≤ a ∧ a ≤ 9)) → Q (some (.int (-2))) (hs t, ip_u F 192 0 (F 192 0 + 1), G)) : wp 127 0 [.ref 0, .int a] [] (hs t, F, G) Q := by
  refine rg127_0 (sp129 ?_)
  by_cases c1 : (0 : Int32) ≤ a ∧ a ≤ 9
  · rw [bz_t c1]
    exact h1 c1
  · rw [bz_f c1]
    exact rg127_7 ⟨fun _ => sp133b (rg127_24 (h2 (fun q => c1 q))), fun q => absurd rfl q⟩
theorem ck124 {a : Int32} {o : Nat} (ho : ok10 t o) (h1 : ((0 : Int32) ≤ a ∧ a ≤ 1) → wp 124 6 [.ref 0, .int a] [.int 1] (hs t, F, G) Q) (h2 : ¬ (((0 : Int32) ≤ a ∧ a ≤ 1)) → Q (some (.int (-2))) (hs t, ip_u F 192 0 (F 192 0 + 1), G)) : wp 124 0 [.ref 0, .int a] [] (hs t, F, G) Q := by
  refine rg124_0 ho (sp129 ?_)
  by_cases c1 : (0 : Int32) ≤ a ∧ a ≤ 1
  · rw [bz_t c1]
    exact h1 c1
  · rw [bz_f c1]
    exact rg124_6 ho ⟨fun q => absurd rfl q, fun _ => sp133b (rg124_15 ho (h2 (fun q => c1 q)))⟩
theorem ck125 {a : Int32} {o : Nat} (ho : ok10 t o) (h1 : ((0 : Int32) ≤ a ∧ a ≤ 1) → wp 125 6 [.ref 0, .int a] [.int 1] (hs t, F, G) Q) (h2 : ¬ (((0 : Int32) ≤ a ∧ a ≤ 1)) → Q (some (.int (-2))) (hs t, ip_u F 192 0 (F 192 0 + 1), G)) : wp 125 0 [.ref 0, .int a] [] (hs t, F, G) Q := by
  refine rg125_0 ho (sp129 ?_)
  by_cases c1 : (0 : Int32) ≤ a ∧ a ≤ 1
  · rw [bz_t c1]
    exact h1 c1
  · rw [bz_f c1]
    exact rg125_6 ho ⟨fun q => absurd rfl q, fun _ => sp133b (rg125_15 ho (h2 (fun q => c1 q)))⟩
theorem ck192 {a : Int32} (hn : 1 ≤ n) (hb : F 193 1 = Int32.ofNat n) (h1 : (IR9 n a) → wp 192 5 [.ref 193, .int a, .float 0] [.int 1] (hs t, F, G) Q) (h2 : ¬ ((IR9 n a)) → Q (some (.int (-2))) (hs t, ip_u F 194 0 (F 194 0 + 1), G)) : wp 192 0 [.ref 193, .int a, .float 0] [] (hs t, F, G) Q := by
  refine rg192_0 (sp150n hn hb ?_)
  by_cases c1 : IR9 n a
  · rw [bz_t c1]
    exact h1 c1
  · rw [bz_f c1]
    exact rg192_5 ⟨fun q => absurd rfl q, fun _ => rg140_0 (rg192_12 (h2 (fun q => c1 q)))⟩
theorem ck194 {a : Int32} (h1 : ((1 : Int32) ≤ a ∧ a ≤ 60) → wp 194 7 [.ref 193, .int a, .float 0] [.int 1] (hs t, F, G) Q) (h2 : ¬ (((1 : Int32) ≤ a ∧ a ≤ 60)) → Q (some (.int (-2))) (hs t, ip_u F 194 0 (F 194 0 + 1), G)) : wp 194 0 [.ref 193, .int a, .float 0] [] (hs t, F, G) Q := by
  refine rg194_0 (sp143 ?_)
  by_cases c1 : (1 : Int32) ≤ a ∧ a ≤ 60
  · rw [bz_t c1]
    exact h1 c1
  · rw [bz_f c1]
    exact rg194_7 ⟨fun q => absurd rfl q, fun _ => rg140_0 (rg194_14 (h2 (fun q => c1 q)))⟩
theorem ck199 {a : Int32} (h1 : ((0 : Int32) ≤ a ∧ a ≤ 1) → wp 199 6 [.ref 193, .int a, .float 0] [.int 1] (hs t, F, G) Q) (h2 : ¬ (((0 : Int32) ≤ a ∧ a ≤ 1)) → Q (some (.int (-2))) (hs t, ip_u F 194 0 (F 194 0 + 1), G)) : wp 199 0 [.ref 193, .int a, .float 0] [] (hs t, F, G) Q := by
  refine rg199_0 (sp143 ?_)
  by_cases c1 : (0 : Int32) ≤ a ∧ a ≤ 1
  · rw [bz_t c1]
    exact h1 c1
  · rw [bz_f c1]
    exact rg199_6 ⟨fun q => absurd rfl q, fun _ => rg140_0 (rg199_13 (h2 (fun q => c1 q)))⟩
theorem ck200 {a : Int32} (h1 : ((0 : Int32) ≤ a ∧ a ≤ 1) → wp 200 6 [.ref 193, .int a, .float 0, .float 0, .float 0, .float 0, .float 0, .float 0] [.int 1] (hs t, F, G) Q) (h2 : ¬ (((0 : Int32) ≤ a ∧ a ≤ 1)) → Q (some (.int (-2))) (hs t, ip_u F 194 0 (F 194 0 + 1), G)) : wp 200 0 [.ref 193, .int a, .float 0, .float 0, .float 0, .float 0, .float 0, .float 0] [] (hs t, F, G) Q := by
  refine rg200_0 (sp143 ?_)
  by_cases c1 : (0 : Int32) ≤ a ∧ a ≤ 1
  · rw [bz_t c1]
    exact h1 c1
  · rw [bz_f c1]
    exact rg200_6 ⟨fun q => absurd rfl q, fun _ => rg140_0 (rg200_13 (h2 (fun q => c1 q)))⟩
theorem ck208 {a : Int32} (h1 : ((0 : Int32) ≤ a ∧ a ≤ 2) → wp 208 6 [.ref 193, .int a, .float 0, .float 0, .float 0, .float 0, .float 0] [.int 1] (hs t, F, G) Q) (h2 : ¬ (((0 : Int32) ≤ a ∧ a ≤ 2)) → Q (some (.int (-2))) (hs t, ip_u F 194 0 (F 194 0 + 1), G)) : wp 208 0 [.ref 193, .int a, .float 0, .float 0, .float 0, .float 0, .float 0] [] (hs t, F, G) Q := by
  refine rg208_0 (sp143 ?_)
  by_cases c1 : (0 : Int32) ≤ a ∧ a ≤ 2
  · rw [bz_t c1]
    exact h1 c1
  · rw [bz_f c1]
    exact rg208_6 ⟨fun q => absurd rfl q, fun _ => rg140_0 (rg208_13 (h2 (fun q => c1 q)))⟩
theorem ck224 {a : Int32} (h1 : ((0 : Int32) ≤ a ∧ a ≤ 10) → wp 224 7 [.ref 193, .int a, .float 0, .float 0, .float 0, .float 0, .float 0, .float 0, .float 0, .float 0, .float 0] [.int 1] (hs t, F, G) Q) (h2 : ¬ (((0 : Int32) ≤ a ∧ a ≤ 10)) → Q (some (.int (-2))) (hs t, ip_u F 194 0 (F 194 0 + 1), G)) : wp 224 0 [.ref 193, .int a, .float 0, .float 0, .float 0, .float 0, .float 0, .float 0, .float 0, .float 0, .float 0] [] (hs t, F, G) Q := by
  refine rg224_0 (sp143 ?_)
  by_cases c1 : (0 : Int32) ≤ a ∧ a ≤ 10
  · rw [bz_t c1]
    exact h1 c1
  · rw [bz_f c1]
    exact rg224_7 ⟨fun q => absurd rfl q, fun _ => rg140_0 (rg224_14 (h2 (fun q => c1 q)))⟩
theorem ck216 {a : Int32} (hn : 1 ≤ n) (hb : F 193 1 = Int32.ofNat n) (h1 : (IR9 n a) → wp 216 5 [.ref 193, .int a] [.int 1] (hs t, F, G) Q) (h2 : ¬ ((IR9 n a)) → Q (some (.int (-2))) (hs t, ip_u F 194 0 (F 194 0 + 1), G)) : wp 216 0 [.ref 193, .int a] [] (hs t, F, G) Q := by
  refine rg216_0 (sp150n hn hb ?_)
  by_cases c1 : IR9 n a
  · rw [bz_t c1]
    exact h1 c1
  · rw [bz_f c1]
    exact rg216_5 ⟨fun _ => rg140_0 (rg216_20 (h2 (fun q => c1 q))), fun q => absurd rfl q⟩
theorem ck217 {a : Int32} (hn : 1 ≤ n) (hb : F 193 1 = Int32.ofNat n) (h1 : (IR9 n a) → wp 217 5 [.ref 193, .int a] [.int 1] (hs t, F, G) Q) (h2 : ¬ ((IR9 n a)) → Q (some (.int (-2))) (hs t, ip_u F 194 0 (F 194 0 + 1), G)) : wp 217 0 [.ref 193, .int a] [] (hs t, F, G) Q := by
  refine rg217_0 (sp150n hn hb ?_)
  by_cases c1 : IR9 n a
  · rw [bz_t c1]
    exact h1 c1
  · rw [bz_f c1]
    exact rg217_5 ⟨fun _ => rg140_0 (rg217_20 (h2 (fun q => c1 q))), fun q => absurd rfl q⟩
theorem ck218 {a : Int32} (hn : 1 ≤ n) (hb : F 193 1 = Int32.ofNat n) (h1 : (IR9 n a) → wp 218 5 [.ref 193, .int a, .float 0, .float 0, .float 0, .float 0, .float 0, .float 0, .float 0, .float 0] [.int 1] (hs t, F, G) Q) (h2 : ¬ ((IR9 n a)) → Q (some (.int (-2))) (hs t, ip_u F 194 0 (F 194 0 + 1), G)) : wp 218 0 [.ref 193, .int a, .float 0, .float 0, .float 0, .float 0, .float 0, .float 0, .float 0, .float 0] [] (hs t, F, G) Q := by
  refine rg218_0 (sp150n hn hb ?_)
  by_cases c1 : IR9 n a
  · rw [bz_t c1]
    exact h1 c1
  · rw [bz_f c1]
    exact rg218_5 ⟨fun q => absurd rfl q, fun _ => rg140_0 (rg218_12 (h2 (fun q => c1 q)))⟩
theorem ck219 {a : Int32} (hn : 1 ≤ n) (hb : F 193 1 = Int32.ofNat n) (h1 : (IR9 n a) → wp 219 5 [.ref 193, .int a, .float 0, .float 0, .float 0, .float 0, .float 0, .float 0, .float 0] [.int 1] (hs t, F, G) Q) (h2 : ¬ ((IR9 n a)) → Q (some (.int (-2))) (hs t, ip_u F 194 0 (F 194 0 + 1), G)) : wp 219 0 [.ref 193, .int a, .float 0, .float 0, .float 0, .float 0, .float 0, .float 0, .float 0] [] (hs t, F, G) Q := by
  refine rg219_0 (sp150n hn hb ?_)
  by_cases c1 : IR9 n a
  · rw [bz_t c1]
    exact h1 c1
  · rw [bz_f c1]
    exact rg219_5 ⟨fun q => absurd rfl q, fun _ => rg140_0 (rg219_12 (h2 (fun q => c1 q)))⟩
theorem ck233 {a : Int32} (h1 : ((0 : Int32) ≤ a ∧ a ≤ 9) → wp 233 7 [.ref 193, .int a] [.int 1] (hs t, F, G) Q) (h2 : ¬ (((0 : Int32) ≤ a ∧ a ≤ 9)) → Q (some (.int (-2))) (hs t, ip_u F 194 0 (F 194 0 + 1), G)) : wp 233 0 [.ref 193, .int a] [] (hs t, F, G) Q := by
  refine rg233_0 (sp143 ?_)
  by_cases c1 : (0 : Int32) ≤ a ∧ a ≤ 9
  · rw [bz_t c1]
    exact h1 c1
  · rw [bz_f c1]
    exact rg233_7 ⟨fun _ => rg140_0 (rg233_22 (h2 (fun q => c1 q))), fun q => absurd rfl q⟩
theorem ck229 {a : Int32} (h1 : ((0 : Int32) ≤ a ∧ a ≤ 1) → wp 229 6 [.ref 193, .int a] [.int 1] (hs t, F, G) Q) (h2 : ¬ (((0 : Int32) ≤ a ∧ a ≤ 1)) → Q (some (.int (-2))) (hs t, ip_u F 194 0 (F 194 0 + 1), G)) : wp 229 0 [.ref 193, .int a] [] (hs t, F, G) Q := by
  refine rg229_0 (sp143 ?_)
  by_cases c1 : (0 : Int32) ≤ a ∧ a ≤ 1
  · rw [bz_t c1]
    exact h1 c1
  · rw [bz_f c1]
    exact rg229_6 ⟨fun q => absurd rfl q, fun _ => rg140_0 (rg229_13 (h2 (fun q => c1 q)))⟩
theorem ck230 {a : Int32} (h1 : ((0 : Int32) ≤ a ∧ a ≤ 1) → wp 230 6 [.ref 193, .int a] [.int 1] (hs t, F, G) Q) (h2 : ¬ (((0 : Int32) ≤ a ∧ a ≤ 1)) → Q (some (.int (-2))) (hs t, ip_u F 194 0 (F 194 0 + 1), G)) : wp 230 0 [.ref 193, .int a] [] (hs t, F, G) Q := by
  refine rg230_0 (sp143 ?_)
  by_cases c1 : (0 : Int32) ≤ a ∧ a ≤ 1
  · rw [bz_t c1]
    exact h1 c1
  · rw [bz_f c1]
    exact rg230_6 ⟨fun q => absurd rfl q, fun _ => rg140_0 (rg230_13 (h2 (fun q => c1 q)))⟩
end SP
