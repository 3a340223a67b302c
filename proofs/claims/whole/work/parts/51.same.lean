/-! ===== the same ropes on both sides ===== -/
/-- the cells that tell: the years of a rope that no bell has, on one side, don't -/
abbrev SR9 (n : Nat) (c c' : Nat → Int32) : Prop := ∀ i, i < 18 + n ∨ i = 24 → c i = c' i
/-- what holds of a tower's ropes at all times -/
abbrev WR9 (n : Nat) (c : Nat → Int32) : Prop := (∀ r, r < 6 → (c r = -1 ∧ c (6 + r) = -1) ∨ (r < n ∧ kd9 (c r) ∧ ∃ w, 1 ≤ w ∧ w < 12 ∧ c (6 + r) = Int32.ofNat w)) ∧ (∀ r, r < 6 → kd9 (c (12 + r)))
theorem wr_kw {n : Nat} {c : Nat → Int32} (hn : n ≤ 6) (h : WR9 n c) : KW9 n c := by
  intro r hr h6
  rcases h.1 r (by omega) with h1 | h1
  · exact absurd h1.2 h6
  · exact h1.2.1
theorem sr_kw {n : Nat} {c c' : Nat → Int32} (hn : n ≤ 6) (h : SR9 n c c') (hk : KW9 n c) : KW9 n c' := by
  intro r hr h6
  rw [← h (6 + r) (by omega)] at h6
  rw [← h r (by omega)]
  exact hk r hr h6
theorem sr_mks {n : Nat} {c c' : Nat → Int32} (hn : n ≤ 6) (h : SR9 n c c') {r : Nat} (hr : r < n) : mks c r = mks c' r := by
  unfold mks
  rw [h r (by omega), h (12 + r) (by omega), h (18 + r) (by omega), h 24 (by omega)]
theorem sr_hsl {n : Nat} {c c' : Nat → Int32} (hn : n ≤ 6) (h : SR9 n c c') {r : Nat} (hr : r < n) : hsl c r = hsl c' r := by
  unfold hsl
  rw [h r (by omega)]
theorem wr_hi {n : Nat} {c : Nat → Int32} (h : WR9 n c) {r : Nat} (hr : r < 6) (hn : n ≤ r) : c r = -1 := by
  rcases h.1 r hr with h1 | h1
  · exact h1.1
  · omega
/-- who makes a slip, as both sides tell it -/
theorem md_eq {n : Nat} {c c' : Nat → Int32} (hn : n ≤ 6) (hw : WR9 n c) (h : SR9 n c c') : bf9 (mks c) 6 = bf9 (mks c') n := by
  rw [← bf_congr n (fun r hr => sr_mks hn h hr)]
  obtain ⟨d, hd⟩ : ∃ d, 6 = n + d := ⟨6 - n, by omega⟩
  rw [hd]
  refine bf_ext d (fun r h1 h2 => ?_)
  unfold mks
  rw [wr_hi hw (by omega) h1]
  rfl
theorem sl_eq {n : Nat} {c c' : Nat → Int32} (hn : n ≤ 6) (hw : WR9 n c) (h : SR9 n c c') : bf9 (hsl c) 6 = bf9 (hsl c') n := by
  rw [← bf_congr n (fun r hr => sr_hsl hn h hr)]
  obtain ⟨d, hd⟩ : ∃ d, 6 = n + d := ⟨6 - n, by omega⟩
  rw [hd]
  refine bf_ext d (fun r h1 h2 => ?_)
  unfold hsl
  rw [wr_hi hw (by omega) h1]
  rfl
theorem mu_congr {n : Nat} {ch ch' : Nat → Int32} (h : ∀ i, i < 6 → ch i = ch' i) : ∀ k, mu9 n ch k = mu9 n ch' k
  | 0 => rfl
  | k + 1 => by rw [mu9, mu9, h _ (Nat.mod_lt _ (by decide)), mu_congr h k]
theorem rgF_congr {n m k : Nat} {c c' mk f : Nat → Int32} (hn : n ≤ 6) (h : SR9 n c c') : ∀ r, r ≤ n → rgF n c m mk k f r = rgF n c' m mk k f r
  | 0, _ => rfl
  | r + 1, hr => by rw [rgF, rgF, h (6 + r) (by omega), h r (by omega), rgF_congr hn h r (by omega)]
theorem gn_congr {n m : Nat} {ch ch' c c' mk : Nat → Int32} (hn : n ≤ 6) (hch : ∀ i, i < 6 → ch i = ch' i) (h : SR9 n c c') : gn9 n ch c m mk = gn9 n ch' c' m mk := by
  funext k
  unfold gn9 ru9
  rw [mu_congr hch, rgF_congr hn h n (by omega)]
theorem gm_congr {n : Nat} {ch ch' : Nat → Int32} (hch : ∀ i, i < 6 → ch i = ch' i) : gm9 n ch = gm9 n ch' := by
  funext k
  unfold gm9
  rw [mu_congr hch]
/-- a row of what the reference lays, as the class lays it -/
def ly9 (f : Nat → Int32) (at_ : Nat) : Nat → Int32 := fun i => if i = 24 then f at_ else f (at_ + 1 + i)
