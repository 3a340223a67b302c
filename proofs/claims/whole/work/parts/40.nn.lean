/-! ===== small numbers as Int32 ===== -/
theorem nn_lit (k : Nat) : (OfNat.ofNat k : Int32) = Int32.ofNat k := rfl
theorem nn_m1 : Int32.ofInt (-1) = -Int32.ofNat 1 := rfl
theorem nn_bk : -Int32.ofNat 1 = -1 := rfl
theorem nn_lt {a b : Nat} (ha : a < 2147483648) (hb : b < 2147483648) : Int32.ofNat a < Int32.ofNat b ↔ a < b := by
  rw [Int32.lt_iff_toInt_lt, Int32.toInt_ofNat_of_lt ha, Int32.toInt_ofNat_of_lt hb]
  omega
theorem nn_le {a b : Nat} (ha : a < 2147483648) (hb : b < 2147483648) : Int32.ofNat a ≤ Int32.ofNat b ↔ a ≤ b := by
  rw [Int32.le_iff_toInt_le, Int32.toInt_ofNat_of_lt ha, Int32.toInt_ofNat_of_lt hb]
  omega
theorem nn_eq {a b : Nat} (ha : a < 2147483648) (hb : b < 2147483648) : Int32.ofNat a = Int32.ofNat b ↔ a = b := by
  rw [← Int32.toInt_inj, Int32.toInt_ofNat_of_lt ha, Int32.toInt_ofNat_of_lt hb]
  omega
theorem nn_add (a b : Nat) : Int32.ofNat a + Int32.ofNat b = Int32.ofNat (a + b) := (Int32.ofNat_add a b).symm
theorem nn_mul (a b : Nat) : Int32.ofNat a * Int32.ofNat b = Int32.ofNat (a * b) := (Int32.ofNat_mul a b).symm
theorem nn_sub {a b : Nat} (h : b ≤ a) : Int32.ofNat a - Int32.ofNat b = Int32.ofNat (a - b) := (Int32.ofNat_sub a b h).symm
theorem nn_addm1 {a : Nat} (h : 1 ≤ a) : Int32.ofNat a + (-Int32.ofNat 1) = Int32.ofNat (a - 1) := by
  rw [← nn_sub h, Int32.sub_eq_add_neg]
theorem nn_clamp {a : Nat} (ha : a < 2147483648) : (Int32.ofNat a).toNatClampNeg = a := Int32.toNatClampNeg_ofNat_of_lt ha
theorem nn_in {a n : Nat} (ha : a < 2147483648) : vp_in (Int32.ofNat a) n ↔ a < n := by
  unfold vp_in
  rw [nn_clamp ha, show (0 : Int32) = Int32.ofNat 0 from rfl, nn_lt ha (by omega)]
  omega
theorem nn_nem1 {a : Nat} (ha : a < 2147483648) : ¬ Int32.ofNat a = -Int32.ofNat 1 := by
  rw [← Int32.toInt_inj, Int32.toInt_ofNat_of_lt ha]
  have : (-Int32.ofNat 1).toInt = -1 := rfl
  omega
theorem nn_m1ne {a : Nat} (ha : a < 2147483648) : ¬ -Int32.ofNat 1 = Int32.ofNat a := fun h => nn_nem1 ha h.symm
theorem nn_ltm1 {a : Nat} (ha : a < 2147483648) : ¬ Int32.ofNat a < -Int32.ofNat 1 := by
  rw [Int32.lt_iff_toInt_lt, Int32.toInt_ofNat_of_lt ha]
  have : (-Int32.ofNat 1).toInt = -1 := rfl
  omega
theorem nn_m1lt {a : Nat} (ha : a < 2147483648) : -Int32.ofNat 1 < Int32.ofNat a := by
  rw [Int32.lt_iff_toInt_lt, Int32.toInt_ofNat_of_lt ha]
  have : (-Int32.ofNat 1).toInt = -1 := rfl
  omega
theorem nn_m1le {a : Nat} (ha : a < 2147483648) : -Int32.ofNat 1 ≤ Int32.ofNat a := by
  rw [Int32.le_iff_toInt_le, Int32.toInt_ofNat_of_lt ha]
  have : (-Int32.ofNat 1).toInt = -1 := rfl
  omega
theorem nn_lem1 {a : Nat} (ha : a < 2147483648) : ¬ Int32.ofNat a ≤ -Int32.ofNat 1 := by
  rw [Int32.le_iff_toInt_le, Int32.toInt_ofNat_of_lt ha]
  have : (-Int32.ofNat 1).toInt = -1 := rfl
  omega
theorem nn_div {a b : Nat} (ha : a < 2147483648) (hb : b < 2147483648) : Int32.ofNat a / Int32.ofNat b = Int32.ofNat (a / b) := (Int32.ofNat_div ha hb).symm
theorem nn_rem {a b : Nat} (ha : a < 2147483648) (hb : b < 2147483648) : Int32.ofNat a - Int32.ofNat a / Int32.ofNat b * Int32.ofNat b = Int32.ofNat (a % b) := by
  rw [nn_div ha hb, nn_mul, nn_sub (Nat.div_mul_le_self a b)]
  congr 1
  have := Nat.div_add_mod a b
  rw [Nat.mul_comm] at this
  omega
theorem nn_of {x : Int32} (h : 0 ≤ x) : ∃ n, n < 2147483648 ∧ x = Int32.ofNat n := by
  rw [Int32.le_iff_toInt_le] at h
  have h0 : (0 : Int32).toInt = 0 := rfl
  refine ⟨x.toNatClampNeg, Int32.toNatClampNeg_lt x, ?_⟩
  rw [← Int32.toInt_inj, Int32.toInt_ofNat_of_lt (Int32.toNatClampNeg_lt x)]
  show x.toInt = ((x.toInt.toNat : Nat) : Int)
  omega
theorem nn_bet {x : Int32} {b : Nat} (hb : b < 2147483648) (h : 0 ≤ x) (h1 : x ≤ Int32.ofNat b) : ∃ n, n ≤ b ∧ x = Int32.ofNat n := by
  obtain ⟨n, hn, rfl⟩ := nn_of h
  exact ⟨n, (nn_le hn hb).mp h1, rfl⟩
/-- a condition as 0 or 1 -/
def bz (c : Prop) [Decidable c] : Int32 := if c then 1 else 0
theorem bz_t {c : Prop} [Decidable c] (h : c) : bz c = 1 := if_pos h
theorem bz_f {c : Prop} [Decidable c] (h : ¬ c) : bz c = 0 := if_neg h
theorem bz_0 {c : Prop} [Decidable c] : bz c = 0 ↔ ¬ c := by
  by_cases h : c
  · rw [bz_t h]
    exact ⟨fun q => absurd q (by decide), fun q => absurd h q⟩
  · rw [bz_f h]
    exact ⟨fun _ => h, fun _ => rfl⟩
theorem bz_n0 {c : Prop} [Decidable c] : ¬ bz c = 0 ↔ c := by
  rw [bz_0]
  exact Decidable.not_not
theorem bz_and {c : Prop} [Decidable c] : bz c &&& 1 = bz c := by
  by_cases h : c
  · rw [bz_t h]
    decide
  · rw [bz_f h]
    decide
theorem bz_iff {c d : Prop} [Decidable c] [Decidable d] (h : c ↔ d) : bz c = bz d := by
  by_cases hc : c
  · rw [bz_t hc, bz_t (h.mp hc)]
  · rw [bz_f hc, bz_f (fun q => hc (h.mpr q))]
/-! ===== the small helpers ===== -/
section SP
variable {t : Nat} {F : ip_F} {G : ip_G} {Q : Option Value → ip_M → Prop}
theorem sp129 {v a b : Int32} (h : Q (some (.int (bz (a ≤ v ∧ v ≤ b)))) (hs t, F, G)) : wp 129 0 [.int v, .int a, .int b] [] (hs t, F, G) Q := by
  refine rg129_0 ⟨fun h1 => ?_, fun h1 => ⟨fun h2 => ?_, fun h2 => ?_⟩⟩
  · rwa [bz_f (fun q => absurd (Int32.not_le.mpr h1) (fun z => z q.1))] at h
  · rwa [bz_f (fun q => absurd (Int32.not_le.mpr h2) (fun z => z q.2))] at h
  · rwa [bz_t ⟨h1, h2⟩] at h
theorem sp143 {v a b : Int32} (h : Q (some (.int (bz (a ≤ v ∧ v ≤ b)))) (hs t, F, G)) : wp 143 0 [.int v, .int a, .int b] [] (hs t, F, G) Q := by
  refine rg143_0 ⟨fun h1 => ?_, fun h1 => ⟨fun h2 => ?_, fun h2 => ?_⟩⟩
  · rwa [bz_f (fun q => absurd (Int32.not_le.mpr h1) (fun z => z q.1))] at h
  · rwa [bz_f (fun q => absurd (Int32.not_le.mpr h2) (fun z => z q.2))] at h
  · rwa [bz_t ⟨h1, h2⟩] at h
theorem sp144 {s k : Int32} (h : Q (some (.int (bz ((s >>> (k &&& 31)) &&& 1 = 1)))) (hs t, F, G)) : wp 144 0 [.int s, .int k] [] (hs t, F, G) Q := by
  refine rg144_0 ⟨fun h1 => ?_, fun h1 => ?_⟩
  · first | rwa [bz_f h1] at h | rwa [bz_t h1] at h
  · first | rwa [bz_f h1] at h | rwa [bz_t h1] at h
theorem sp145 {a b : Int32} (h : Q (some (.int (if a < b then a else b))) (hs t, F, G)) : wp 145 0 [.int a, .int b] [] (hs t, F, G) Q := by
  refine rg145_0 ⟨fun h1 => ?_, fun h1 => ?_⟩
  · first | rwa [if_pos h1] at h | rwa [if_neg (Int32.not_lt.mpr h1)] at h
  · first | rwa [if_pos h1] at h | rwa [if_neg (Int32.not_lt.mpr h1)] at h
theorem sp146 {a b : Int32} (h : Q (some (.int (if b < a then a else b))) (hs t, F, G)) : wp 146 0 [.int a, .int b] [] (hs t, F, G) Q := by
  refine rg146_0 ⟨fun h1 => ?_, fun h1 => ?_⟩
  · first | rwa [if_pos h1] at h | rwa [if_neg (Int32.not_lt.mpr h1)] at h
  · first | rwa [if_pos h1] at h | rwa [if_neg (Int32.not_lt.mpr h1)] at h
end SP
