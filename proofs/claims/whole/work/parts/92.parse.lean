/-! ===== the class reads a text ===== -/
def rd_run (T : Nat) (b : Nat → Nat) (n : Nat) : List (Nat × (Nat → Nat)) → Nat → Nat → Int32 → Prop
  | [], p, a, z => (T ≤ rd_sk T b p ∧ z = Int32.ofNat a) ∨ (rd_sk T b p < T ∧ ∃ q, rd_item T b n 0 p = .inl q ∧ q ≤ T ∧ z = -10 - Int32.ofNat q)
  | x :: l, p, a, z => rd_sk T b p < T ∧ ∃ q, rd_item T b n 0 p = .inr (x.1, x.2, q) ∧ q ≤ T ∧ p < q ∧ 1 ≤ x.1 ∧ x.1 < 5 ∧ (∀ i, i < rd_m x.1 → rd_lo x.1 i ≤ x.2 i ∧ x.2 i ≤ rd_hi n x.1 i) ∧ rd_run T b n l q (a + 1) z
def rd_fc : List (Nat × (Nat → Nat)) → (Nat → Int32) → (Nat → Int32)
  | [], c => c
  | x :: l, c => rd_fc l (rd_ac x.1 x.2 c)
def rd_fh : List (Nat × (Nat → Nat)) → (Nat → Int32) → (Nat → Int32)
  | [], c => c
  | x :: l, c => rd_fh l (rd_ah x.1 x.2 c)
theorem rd_fhc : ∀ (l : List (Nat × (Nat → Nat))) (h h' : Nat → Int32), (∀ i, i < 6 → h i = h' i) → ∀ i, i < 6 → rd_fh l h i = rd_fh l h' i := by
  intro l
  induction l with
  | nil => intro h h' e; exact e
  | cons x l ih =>
    intro h h' e i hi
    refine ih _ _ (fun i hi => ?_) i hi
    unfold rd_ah
    split
    · simp only [if_pos hi]
    · exact e i hi
theorem rd_numsl {T : Nat} {b : Nat → Nat} {n k : Nat} : ∀ r j p w q, p ≤ T → rd_nums T b n k r j p w = .inl q → q ≤ T := by
  intro r
  induction r with
  | zero =>
    intro j p w q hp h
    rw [rd_nums] at h
    cases h
  | succ r ih =>
    intro j p w q hp h
    obtain ⟨s1, s2⟩ := rd_skb (b := b) hp
    rw [rd_nums] at h
    split at h
    · exact ih _ _ _ _ (rd_feb (b := b) s2).2 h
    · cases h
      exact s2
theorem rd_iteml {T : Nat} {b : Nat → Nat} {n f p q : Nat} (hp : p ≤ T) (h : rd_item T b n f p = .inl q) : q ≤ T := by
  obtain ⟨s1, s2⟩ := rd_skb (b := b) hp
  have wT := (rd_web (b := b) s2).2
  rw [rd_item] at h
  split at h
  · revert h
    cases e : rd_nums T b n (rd_kd T b (rd_sk T b p)) (rd_m (rd_kd T b (rd_sk T b p))) 0 (rd_we T b (rd_sk T b p)) (fun _ => 0) with
    | inl q' =>
      intro h
      cases h
      exact rd_numsl _ _ _ _ _ wT e
    | inr x =>
      obtain ⟨w, q'⟩ := x
      intro h
      obtain ⟨g1, -⟩ := rd_numsok _ _ _ _ _ _ wT e
      rw [rd_end] at h
      split at h
      · cases h
      · cases h
        exact (rd_skb (b := b) g1).2
  · cases h
    exact s2
theorem rd_item1 {T : Nat} {b : Nat → Nat} {n n' p : Nat} : rd_item T b n 1 p = rd_item T b n' 1 p := by
  rw [rd_item, rd_item]
  by_cases h : rd_kd T b (rd_sk T b p) < 5 ∧ (rd_kd T b (rd_sk T b p) = 0 ↔ (1 : Nat) = 1)
  · rw [if_pos h, if_pos h, h.2.mpr rfl]
    rfl
  · rw [if_neg h, if_neg h]
theorem rd_w06 {n k : Nat} {w : Nat → Nat} (hn6 : n ≤ 6) (hk : k < 5) (hk1 : 1 ≤ k) (hw : ∀ i, i < rd_m k → rd_lo k i ≤ w i ∧ w i ≤ rd_hi n k i) : (k = 2 ∨ k = 3 → w 0 < n ∨ n = 0) ∧ w 0 ≤ 1000 := by
  match k, hk with
  | 0, _ => omega
  | 1, _ =>
    have := (hw 0 (by decide)).2
    simp [rd_hi] at this
    exact ⟨fun q => by omega, by omega⟩
  | 2, _ =>
    have := (hw 0 (by decide)).2
    simp [rd_hi] at this
    exact ⟨fun q => by omega, by omega⟩
  | 3, _ =>
    have := (hw 0 (by decide)).2
    simp [rd_hi] at this
    exact ⟨fun q => by omega, by omega⟩
  | 4, _ =>
    have := (hw 0 (by decide)).2
    simp [rd_hi] at this
    exact ⟨fun q => by omega, by omega⟩
section PRS
variable {G : ip_G} {Q : Option Value → ip_M → Prop} {T : Nat} {b : Nat → Nat} {t : Nat}
theorem rd_tk0 {s : Nat} {tk te tv : Int32} (h : rd_is T b s tk te tv) (hs : s < T) : ¬ tk = 0 := by
  rcases h with ⟨c1, c2⟩ | ⟨c0, ⟨c1, c2, -⟩ | ⟨c1, c2, c3, c4, c5⟩ | ⟨c1, c2, c3⟩ | ⟨c1, c2, c3⟩ | ⟨-, -, c1, c2⟩⟩
  · omega
  · rw [c2]; decide
  · rw [c3]; decide
  · rw [c3]; decide
  · rw [c2]; decide
  · rw [c2]; decide
theorem sp35_20 {n : Nat} (hn : 1 ≤ n) (hn6 : n ≤ 6) : ∀ d p a F, p + d = T → RdC T b F → 1 ≤ a → a ≤ p → F 64 5 = Int32.ofNat p → F 65 6 = Int32.ofNat n →
    (∀ its z F', rd_run T b n its p a z → F' 68 = rd_fc its (F 68) → (∀ i, i < 6 → F' 66 i = rd_fh its (F 66) i) → (∀ x, x ≠ 64 → x ≠ 85 → x ≠ 66 → x ≠ 68 → F' x = F x) → Q (some (.int z)) (hs 62, F', G)) →
    wp 35 20 [.ref 64, .ref 62, .int (Int32.ofNat a)] [] (hs 62, F, G) Q := by
  intro d
  induction d using Nat.strongRecOn with
  | _ d ih =>
  intro p a F hd hT ha hap h5 hb h
  have h150 := hT.1
  obtain ⟨s1, s2⟩ := rd_skb (T := T) (b := b) (p := p) (by omega)
  refine rg35_20 (t := 62) ⟨fun q => ?_, fun _ => sp40 hT (by omega) h5 (fun F1 g4 gi gf => ?_)⟩
  · have := (nn_lt (a := 150) (by omega) (by omega)).mp q
    omega
  show wp 35 31 _ _ _ _
  have ha0 : ¬ Int32.ofNat a = 0 := fun q => by
    have := (nn_eq (b := 0) (by omega) (by omega)).mp q
    omega
  by_cases hs : rd_sk T b p < T
  · refine rg35_31 (t := 62) ⟨fun _ => rg35_44 (t := 62) ⟨fun _ => rg35_54 (t := 62) ?_, fun q => absurd q ha0⟩, fun q => absurd q (rd_tk0 gi hs)⟩
    refine sp36 (f := 0) hn hn6 (rd_fr hT (gf 62 (by decide)) (gf 63 (by decide))) (show p ≤ T by omega) g4 gi (by rw [gf 65 (by decide), hb]) (by omega) (fun q hq F' k1 k2 => ?_) (fun k w q hq hk hk0 hw hq1 hq2 F' k1 k2 k3 => ?_)
    · refine rg35_57 (t := 62) ⟨fun q => absurd rfl q, fun _ => ?_⟩
      rw [k1]
      have e : ∀ x, x ≠ 64 → x ≠ 85 → F' x = F x := fun x x1 x2 => by rw [k2 x x1 x2, gf x x1]
      exact h [] _ F' (Or.inr ⟨hs, q, hq, rd_iteml (by omega) hq, rfl⟩) (e 68 (by decide) (by decide)) (fun i hi => by rw [e 66 (by decide) (by decide)]; rfl) (fun x x1 x2 x3 x4 => e x x1 x2)
    · have hk1 : 1 ≤ k := by
        rcases Nat.lt_or_ge k 1 with y | y
        · exact absurd (hk0.mp (by omega)) (by decide)
        · exact y
      obtain ⟨v1, v2⟩ := rd_w06 hn6 hk hk1 hw
      refine sp39_1 hk hk1 k2 (fun z => by have := v1 z; omega) v2 (fun F2 d1 d2 d3 => ⟨F2, G, rfl, rfl, rg35_57 (t := 62) ⟨fun _ => ?_, fun q => absurd q (by decide)⟩⟩)
      have e : ∀ x, x ≠ 64 → x ≠ 85 → F' x = F x := fun x x1 x2 => by rw [k3 x x1 x2, gf x x1]
      have e2 : ∀ x, x ≠ 64 → x ≠ 85 → x ≠ 66 → x ≠ 68 → F2 x = F x := fun x x1 x2 x3 x4 => by rw [d3 x x3 x4, e x x1 x2]
      rw [show Int32.ofNat a + 1 = Int32.ofNat (a + 1) from nn_add a 1]
      refine ih (T - q) (by omega) q (a + 1) F2 (by omega) (rd_fr hT (e2 62 (by decide) (by decide) (by decide) (by decide)) (e2 63 (by decide) (by decide) (by decide) (by decide))) (by omega) (by omega) (by rw [d3 64 (by decide) (by decide), k1]) (by rw [e2 65 (by decide) (by decide) (by decide) (by decide), hb]) (fun its z F3 r1 r2 r3 r4 => ?_)
      refine h ((k, w) :: its) z F3 ⟨hs, q, hq, hq2, by omega, hk1, hk, hw, r1⟩ ?_ (fun i hi => ?_) (fun x x1 x2 x3 x4 => by rw [r4 x x1 x2 x3 x4, e2 x x1 x2 x3 x4])
      · rw [r2, d1, e 68 (by decide) (by decide)]
        rfl
      · rw [r3 i hi]
        refine rd_fhc its _ _ (fun j hj => ?_) i hi
        rw [d2 j hj, e 66 (by decide) (by decide)]
  · have hz : F1 64 3 = 0 := by
      rcases gi with ⟨c1, c2⟩ | ⟨c0, -⟩
      · exact c2
      · omega
    refine rg35_31 (t := 62) ⟨fun q => absurd hz q, fun _ => ⟨fun q => ?_, fun _ => h [] _ F1 (Or.inl ⟨by omega, rfl⟩) (gf 68 (by decide)) (fun i hi => by rw [gf 66 (by decide)]; rfl) (fun x x1 x2 x3 x4 => gf x x1)⟩⟩
    have := (nn_le (b := 0) (by omega) (by omega)).mp q
    omega
theorem sp35 {F : ip_F} (hT : RdC T b F) (hA : ∀ q F', rd_item T b 5 1 0 = .inl q → q ≤ T → (∀ x, x < 64 ∨ 88 < x → F' x = F x) → Q (some (.int (-10 - Int32.ofNat q))) (hs 62, F', G))
    (hB : ∀ w q its z c F', rd_item T b 5 1 0 = .inr (0, w, q) → q ≤ T → 4 ≤ w 0 → w 0 ≤ 6 → rd_run T b (w 0) its q 1 z → (∀ i, i < 25 → c i = if i < 12 then -1 else 0) → F' 68 = rd_fc its c → (∀ i, i < 6 → F' 66 i = rd_fh its (fun _ => 0) i) → F' 65 6 = Int32.ofNat (w 0) → F' 69 1 = 0 → F' 79 1 = 0 → F' 81 1 = 0 → F' 83 1 = 0 → (∀ x, x < 64 ∨ 88 < x → F' x = F x) → Q (some (.int z)) (hs 62, F', G)) :
    wp 35 0 [.ref 64, .ref 62, .float 0] [] (hs t, F, G) Q := by
  have h150 := hT.1
  refine rg35_0 (sp89 (ok10_65 62) (fun F1 a1 a2 a3 a4 a5 a6 a7 a8 => rg35_18 (t := 62) ?_))
  have f1 : ∀ x, x < 64 ∨ 88 < x → F1 x = F x := fun x hx => by rw [a8 x (by omega), u_n (by omega)]
  have hT1 : RdC T b F1 := rd_fr hT (f1 62 (by omega)) (f1 63 (by omega))
  refine rg35_20 (t := 62) ⟨fun q => absurd q (by decide), fun _ => sp40 (p := 0) hT1 (by omega) (by rw [a8 64 (by omega)]; rfl) (fun F2 g4 gi gf => ?_)⟩
  have f2 : ∀ x, x < 64 ∨ 88 < x → F2 x = F x := fun x hx => by rw [gf x (by omega), f1 x hx]
  have go : wp 35 44 [.ref 64, .ref 62, .int 0] [] (hs 62, F2, G) Q := by
    refine rg35_44 (t := 62) ⟨fun q => absurd rfl q, fun _ => rg35_54 (t := 62) ?_⟩
    refine sp36 (n := 5) (f := 1) (p := 0) (by omega) (by omega) (rd_fr hT1 (gf 62 (by decide)) (gf 63 (by decide))) (by omega) g4 gi (by rw [gf 65 (by decide), a1]; rfl) (by omega) (fun q hq F' k1 k2 => ?_) (fun k w q hq hk hk0 hw hq1 hq2 F' k1 k2 k3 => ?_)
    · refine rg35_57 (t := 62) ⟨fun q => absurd rfl q, fun _ => ?_⟩
      rw [k1]
      exact hA q F' hq (rd_iteml (by omega) hq) (fun x hx => by rw [k2 x (by omega) (by omega), f2 x hx])
    · obtain rfl : k = 0 := hk0.mpr rfl
      have hw0 := hw 0 (by decide)
      simp only [rd_lo, rd_hi, if_true] at hw0
      refine rg39_0 (t := 62) ⟨fun _ => ?_, fun q => absurd q (by decide), fun q => absurd q (by decide), fun q => absurd q (by decide), fun q => absurd rfl q.1⟩
      rw [k2 0 (by decide)]
      refine sp89 (ok10_65 62) (fun F3 b1 b2 b3 b4 b5 b6 b7 b8 => rg39_45 (t := 62) (rg39_147 (t := 62) ⟨F3, G, rfl, rfl, rg35_57 (t := 62) ⟨fun _ => ?_, fun q => absurd q (by decide)⟩⟩))
      have f3 : ∀ x, x < 64 ∨ 88 < x → F3 x = F x := fun x hx => by rw [b8 x (by omega), k3 x (by omega) (by omega), f2 x hx]
      refine sp35_20 (n := w 0) (by omega) (by omega) (T - q) q 1 F3 (by omega) (rd_fr hT (f3 62 (by omega)) (f3 63 (by omega))) (by omega) (by omega) (by rw [b8 64 (by omega), k1]) b1 (fun its z F4 r1 r2 r3 r4 => ?_)
      refine hB w q its z (F3 68) F4 hq hq2 hw0.1 hw0.2 r1 b3 r2 (fun i hi => ?_) (by rw [r4 65 (by decide) (by decide) (by decide) (by decide), b1]) (by rw [r4 69 (by decide) (by decide) (by decide) (by decide)]; exact b4) (by rw [r4 79 (by decide) (by decide) (by decide) (by decide)]; exact b5) (by rw [r4 81 (by decide) (by decide) (by decide) (by decide)]; exact b6) (by rw [r4 83 (by decide) (by decide) (by decide) (by decide)]; exact b7) (fun x hx => by rw [r4 x (by omega) (by omega) (by omega) (by omega), f3 x hx])
      rw [r3 i hi]
      exact rd_fhc its _ _ (fun j hj => b2 j hj) i hi
  refine rg35_31 (t := 62) ⟨fun _ => go, fun _ => ⟨fun _ => go, fun q => absurd q (by decide)⟩⟩
end PRS
