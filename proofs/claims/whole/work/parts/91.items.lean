/-! ===== the reader's items: what both sides read, and how the class reads it ===== -/
def rd_m (k : Nat) : Nat := if k = 1 then 6 else if k = 2 then 3 else if k = 3 then 3 else 1
def rd_lo (k j : Nat) : Nat := if k = 0 then 4 else if k = 1 then 0 else if k = 4 then 1 else if j = 0 then 0 else if j = 1 then 0 else if k = 2 then 1 else 0
def rd_hi (n k j : Nat) : Nat := if k = 0 then 6 else if k = 1 then 3 else if k = 4 then 99 else if j = 0 then n - 1 else if j = 1 then 5 else if k = 2 then 11 else 99
/-- a number of figures at s -/
def rd_fg (T : Nat) (b : Nat → Nat) (s : Nat) : Prop := s < T ∧ rd_rg 48 57 (b s) = true ∧ rd_fe T b s - s ≤ 2
/-- a number that stands at place j of an item k -/
def rd_ok (T : Nat) (b : Nat → Nat) (n k j s : Nat) : Bool := decide (s < T) && rd_rg 48 57 (b s) && decide (rd_fe T b s - s ≤ 2) && decide (rd_lo k j ≤ rd_nm b s (rd_fe T b s)) && decide (rd_nm b s (rd_fe T b s) ≤ rd_hi n k j)
def rd_nums (T : Nat) (b : Nat → Nat) (n k : Nat) : Nat → Nat → Nat → (Nat → Nat) → Sum Nat ((Nat → Nat) × Nat)
  | 0, _, p, w => .inr (w, p)
  | r + 1, j, p, w => if rd_ok T b n k j (rd_sk T b p) = true then rd_nums T b n k r (j + 1) (rd_fe T b (rd_sk T b p)) (fun i => if i = j then rd_nm b (rd_sk T b p) (rd_fe T b (rd_sk T b p)) else w i) else .inl (rd_sk T b p)
def rd_end (T : Nat) (b : Nat → Nat) (k : Nat) : Sum Nat ((Nat → Nat) × Nat) → Sum Nat (Nat × (Nat → Nat) × Nat)
  | .inl q => .inl q
  | .inr (w, q) => if rd_sk T b q < T ∧ b (rd_sk T b q) = 59 then .inr (k, w, rd_sk T b q + 1) else .inl (rd_sk T b q)
/-- the word at s, if it may open an item: 5 none -/
def rd_kd (T : Nat) (b : Nat → Nat) (s : Nat) : Nat := if s < T ∧ rd_rg 97 122 (b s) = true then rd_wd b s (rd_we T b s) else 5
def rd_item (T : Nat) (b : Nat → Nat) (n f p : Nat) : Sum Nat (Nat × (Nat → Nat) × Nat) :=
  if rd_kd T b (rd_sk T b p) < 5 ∧ (rd_kd T b (rd_sk T b p) = 0 ↔ f = 1) then rd_end T b (rd_kd T b (rd_sk T b p)) (rd_nums T b n (rd_kd T b (rd_sk T b p)) (rd_m (rd_kd T b (rd_sk T b p))) 0 (rd_we T b (rd_sk T b p)) (fun _ => 0)) else .inl (rd_sk T b p)
theorem rd_skb {T : Nat} {b : Nat → Nat} {p : Nat} (hp : p ≤ T) : p ≤ rd_sk T b p ∧ rd_sk T b p ≤ T := ⟨rd_ge hp, rd_T hp⟩
theorem rd_web {T : Nat} {b : Nat → Nat} {p : Nat} (hp : p ≤ T) : p ≤ rd_we T b p ∧ rd_we T b p ≤ T := ⟨rd_ge hp, rd_T hp⟩
theorem rd_feb {T : Nat} {b : Nat → Nat} {p : Nat} (hp : p ≤ T) : p ≤ rd_fe T b p ∧ rd_fe T b p ≤ T := ⟨rd_ge hp, rd_T hp⟩
theorem rd_oki {T : Nat} {b : Nat → Nat} {n k j s : Nat} : rd_ok T b n k j s = true ↔ rd_fg T b s ∧ rd_lo k j ≤ rd_nm b s (rd_fe T b s) ∧ rd_nm b s (rd_fe T b s) ≤ rd_hi n k j := by
  unfold rd_ok rd_fg
  simp only [Bool.and_eq_true, decide_eq_true_eq]
  constructor
  · rintro ⟨⟨⟨⟨h1, h2⟩, h3⟩, h4⟩, h5⟩
    exact ⟨⟨h1, h2, h3⟩, h4, h5⟩
  · rintro ⟨⟨h1, h2, h3⟩, h4, h5⟩
    exact ⟨⟨⟨⟨h1, h2⟩, h3⟩, h4⟩, h5⟩
theorem rd_numsok {T : Nat} {b : Nat → Nat} {n k : Nat} : ∀ r j p w w' q, p ≤ T → rd_nums T b n k r j p w = .inr (w', q) → q ≤ T ∧ p ≤ q ∧ (∀ i, i < j → w' i = w i) ∧ ∀ i, j ≤ i → i < j + r → rd_lo k i ≤ w' i ∧ w' i ≤ rd_hi n k i := by
  intro r
  induction r with
  | zero =>
    intro j p w w' q hp h
    rw [rd_nums] at h
    cases h
    exact ⟨hp, Nat.le_refl _, fun _ _ => rfl, fun i h1 h2 => by omega⟩
  | succ r ih =>
    intro j p w w' q hp h
    rw [rd_nums] at h
    split at h
    · rename_i hc
      obtain ⟨-, c1, c2⟩ := rd_oki.mp hc
      obtain ⟨s1, s2⟩ := rd_skb (b := b) hp
      obtain ⟨s3, s4⟩ := rd_feb (b := b) s2
      obtain ⟨g1, g2, g3, g4⟩ := ih _ _ _ _ _ s4 h
      refine ⟨g1, by omega, fun i hi => ?_, fun i h1 h2 => ?_⟩
      · rw [g3 i (by omega), if_neg (by omega)]
      · by_cases e : i = j
        · subst e
          rw [g3 i (by omega), if_pos rfl]
          exact ⟨c1, c2⟩
        · exact g4 i (by omega) (by omega)
    · cases h
/-- the class's answer to an item: its ropes, its changes -/
def rd_ac (k : Nat) (w : Nat → Nat) (c : Nat → Int32) : Nat → Int32 := if k = 2 then ups (ups c (w 0) (Int32.ofNat (w 1))) (6 + w 0) (Int32.ofNat (w 2)) else if k = 3 then ups (ups c (12 + w 0) (Int32.ofNat (w 1))) (18 + w 0) (Int32.ofNat (w 2)) else if k = 4 then pys9 (w 0) c else c
def rd_ah (k : Nat) (w : Nat → Nat) (h : Nat → Int32) : Nat → Int32 := if k = 1 then fun i => if i < 6 then Int32.ofNat (w i) else h i else h
section ITM
variable {F : ip_F} {G : ip_G} {Q : Option Value → ip_M → Prop} {T : Nat} {b : Nat → Nat} {t : Nat}
theorem sp37 {k : Nat} (hk : k < 5) (h : Q (some (.int (Int32.ofNat (rd_m k)))) (hs 62, F, G)) : wp 37 0 [.int (Int32.ofNat k)] [] (hs 62, F, G) Q := by
  match k, hk with
  | 0, _ => exact rg37_0 (t := 62) ⟨fun _ => ⟨fun q => absurd q (by decide), fun _ => ⟨fun _ => h, fun q => absurd q (by decide)⟩⟩, fun q => absurd q (by decide)⟩
  | 1, _ => exact rg37_0 (t := 62) ⟨fun q => absurd rfl q, fun _ => h⟩
  | 2, _ => exact rg37_0 (t := 62) ⟨fun _ => ⟨fun _ => h, fun q => absurd rfl q⟩, fun q => absurd q (by decide)⟩
  | 3, _ => exact rg37_0 (t := 62) ⟨fun _ => ⟨fun q => absurd q (by decide), fun _ => ⟨fun q => absurd rfl q, fun _ => h⟩⟩, fun q => absurd q (by decide)⟩
  | 4, _ => exact rg37_0 (t := 62) ⟨fun _ => ⟨fun q => absurd q (by decide), fun _ => ⟨fun _ => h, fun q => absurd q (by decide)⟩⟩, fun q => absurd q (by decide)⟩
theorem sp38 {n k j : Nat} (hn : 1 ≤ n) (hb : F 65 6 = Int32.ofNat n) (hk : k < 5) (hj : j < rd_m k) (h : Q (some (.int (bz (Int32.ofNat (rd_lo k j) ≤ F 64 6 ∧ F 64 6 ≤ Int32.ofNat (rd_hi n k j))))) (hs 62, F, G)) : wp 38 0 [.ref 64, .int (Int32.ofNat k), .int (Int32.ofNat j)] [] (hs 62, F, G) Q := by
  match k, hk with
  | 0, _ => exact rg38_0 (t := 62) ⟨fun q => absurd rfl q, fun _ => sp129 (rg38_14 (t := 62) ⟨bz_and, h⟩)⟩
  | 1, _ => exact rg38_0 (t := 62) ⟨fun _ => ⟨fun q => absurd rfl q, fun _ => sp129 (rg38_29 (t := 62) ⟨bz_and, h⟩)⟩, fun q => absurd q (by decide)⟩
  | 4, _ => exact rg38_0 (t := 62) ⟨fun _ => ⟨fun _ => ⟨fun q => absurd rfl q, fun _ => sp129 (rg38_45 (t := 62) ⟨bz_and, h⟩)⟩, fun q => absurd q (by decide)⟩, fun q => absurd q (by decide)⟩
  | 2, _ =>
    match j, hj with
    | 0, _ =>
      refine rg38_0 (t := 62) ⟨fun _ => ⟨fun _ => ⟨fun _ => ⟨fun q => absurd rfl q, fun _ => ?_⟩, fun q => absurd q (by decide)⟩, fun q => absurd q (by decide)⟩, fun q => absurd q (by decide)⟩
      rw [hb, show (1 : Int32) = Int32.ofNat 1 from rfl, nn_sub hn]
      exact sp129 (rg38_67 (t := 62) ⟨bz_and, h⟩)
    | 1, _ => exact rg38_0 (t := 62) ⟨fun _ => ⟨fun _ => ⟨fun _ => ⟨fun _ => ⟨fun q => absurd rfl q, fun _ => sp131 (rg38_80 (t := 62) ⟨bz_and, h⟩)⟩, fun q => absurd q (by decide)⟩, fun q => absurd q (by decide)⟩, fun q => absurd q (by decide)⟩, fun q => absurd q (by decide)⟩
    | 2, _ => exact rg38_0 (t := 62) ⟨fun _ => ⟨fun _ => ⟨fun _ => ⟨fun _ => ⟨fun _ => ⟨fun q => absurd rfl q, fun _ => sp129 (rg38_96 (t := 62) (rg38_109 (t := 62) ⟨bz_and, h⟩))⟩, fun q => absurd q (by decide)⟩, fun q => absurd q (by decide)⟩, fun q => absurd q (by decide)⟩, fun q => absurd q (by decide)⟩, fun q => absurd q (by decide)⟩
  | 3, _ =>
    match j, hj with
    | 0, _ =>
      refine rg38_0 (t := 62) ⟨fun _ => ⟨fun _ => ⟨fun _ => ⟨fun q => absurd rfl q, fun _ => ?_⟩, fun q => absurd q (by decide)⟩, fun q => absurd q (by decide)⟩, fun q => absurd q (by decide)⟩
      rw [hb, show (1 : Int32) = Int32.ofNat 1 from rfl, nn_sub hn]
      exact sp129 (rg38_67 (t := 62) ⟨bz_and, h⟩)
    | 1, _ => exact rg38_0 (t := 62) ⟨fun _ => ⟨fun _ => ⟨fun _ => ⟨fun _ => ⟨fun q => absurd rfl q, fun _ => sp131 (rg38_80 (t := 62) ⟨bz_and, h⟩)⟩, fun q => absurd q (by decide)⟩, fun q => absurd q (by decide)⟩, fun q => absurd q (by decide)⟩, fun q => absurd q (by decide)⟩
    | 2, _ => exact rg38_0 (t := 62) ⟨fun _ => ⟨fun _ => ⟨fun _ => ⟨fun _ => ⟨fun _ => ⟨fun _ => sp129 (rg38_109 (t := 62) ⟨bz_and, h⟩), fun q => absurd q (by decide)⟩, fun q => absurd q (by decide)⟩, fun q => absurd q (by decide)⟩, fun q => absurd q (by decide)⟩, fun q => absurd q (by decide)⟩, fun q => absurd q (by decide)⟩
theorem sp39_1 {k : Nat} {w : Nat → Nat} (hk : k < 5) (hk1 : 1 ≤ k) (hw : ∀ i, i < rd_m k → F 85 i = Int32.ofNat (w i)) (hr : k = 2 ∨ k = 3 → w 0 < 6) (hy : w 0 ≤ 1000) (h : ∀ F', F' 68 = rd_ac k w (F 68) → (∀ i, i < 6 → F' 66 i = rd_ah k w (F 66) i) → (∀ a, a ≠ 66 → a ≠ 68 → F' a = F a) → Q none (hs 62, F', G)) : wp 39 0 [.ref 64, .int (Int32.ofNat k)] [] (hs 62, F, G) Q := by
  match k, hk with
  | 0, _ => omega
  | 1, _ =>
    refine rg39_0 (t := 62) ⟨fun q => absurd q (by decide), fun _ => rg39_147 (t := 62) (h _ rfl (fun i hi => ?_) (fun a h1 h2 => if_neg h1)), fun q => absurd q (by decide), fun q => absurd q (by decide), fun q => absurd rfl q.2.1⟩
    show (ip_ur F 66 (va_cpy (F 85) (F 66) 0 0 6)) 66 i = _
    rw [rd_ah, if_pos rfl, if_pos hi, ← hw i (by exact hi)]
    simp [ip_ur, va_cpy, hi]
  | 2, _ =>
    refine rg39_0 (t := 62) ⟨fun q => absurd q (by decide), fun q => absurd q (by decide), fun _ => ?_, fun q => absurd q (by decide), fun q => absurd rfl q.2.2.1⟩
    rw [hw 0 (by decide), hw 1 (by decide), hw 2 (by decide)]
    exact sp72 (ok7_67 62) (hr (Or.inl rfl)) (fun F' d1 d2 => rg39_97 (t := 62) (rg39_147 (t := 62) (h F' d1 (fun i hi => by rw [d2 66 (by decide)]; rfl) (fun a h1 h2 => d2 a h2))))
  | 3, _ =>
    refine rg39_0 (t := 62) ⟨fun q => absurd q (by decide), fun q => absurd q (by decide), fun q => absurd q (by decide), fun _ => ?_, fun q => absurd rfl q.2.2.2⟩
    rw [hw 0 (by decide), hw 1 (by decide), hw 2 (by decide)]
    exact sp74 (ok7_67 62) (hr (Or.inr rfl)) (fun F' d1 d2 => rg39_128 (t := 62) (rg39_147 (t := 62) (h F' d1 (fun i hi => by rw [d2 66 (by decide)]; rfl) (fun a h1 h2 => d2 a h2))))
  | 4, _ =>
    refine rg39_0 (t := 62) ⟨fun q => absurd q (by decide), fun q => absurd q (by decide), fun q => absurd q (by decide), fun q => absurd q (by decide), fun _ => ?_⟩
    rw [hw 0 (by decide)]
    exact sp76 (ok7_67 62) hy (fun F' d1 d2 => rg39_147 (t := 62) (h F' d1 (fun i hi => by rw [d2 66 (by decide)]; rfl) (fun a h1 h2 => d2 a h2)))
theorem rd_lofi {x : Nat} (h : rd_rg 97 122 x = true) : ¬ rd_rg 48 57 x = true := by
  simp only [rd_rg, Bool.and_eq_true, decide_eq_true_eq] at h ⊢
  omega
theorem rd_59 : rd_rg 48 57 59 = false ∧ rd_rg 97 122 59 = false := by decide
theorem rd_nmb {s : Nat} (hT : RdC T b F) (c0 : s < T) (c1 : rd_rg 48 57 (b s) = true) : rd_nm b s (rd_fe T b s) < 1000 := by
  have z1 : s < rd_fe T b s := rd_pos c0 c1
  have z2 := (rd_feb (b := b) (show s ≤ T by omega)).2
  have k1 := (hT.2.2 _ c0).1
  unfold rd_nm
  split
  · omega
  · have k2 := (hT.2.2 (s + 1) (by omega)).1
    omega
theorem sp36_41 {n k : Nat} {z : Int32} (hn : 1 ≤ n) (hn6 : n ≤ 6) (hk : k < 5) : ∀ r j p w F, j + r = rd_m k → RdC T b F → p ≤ T → F 64 5 = Int32.ofNat p → F 65 6 = Int32.ofNat n → (∀ i, i < j → F 85 i = Int32.ofNat (w i)) →
    (∀ q, rd_nums T b n k r j p w = .inl q → ∀ F', F' 64 4 = Int32.ofNat q → (∀ a, a ≠ 64 → a ≠ 85 → F' a = F a) → Q (some (.int 0)) (hs 62, F', G)) →
    (∀ w' q, rd_nums T b n k r j p w = .inr (w', q) → ∀ F', F' 64 5 = Int32.ofNat q → (∀ i, i < rd_m k → F' 85 i = Int32.ofNat (w' i)) → (∀ a, a ≠ 64 → a ≠ 85 → F' a = F a) → wp 36 98 [.ref 64, .int z, .int (Int32.ofNat k), .int (Int32.ofNat (rd_m k)), .int (Int32.ofNat (rd_m k))] [] (hs 62, F', G) Q) →
    wp 36 41 [.ref 64, .int z, .int (Int32.ofNat k), .int (Int32.ofNat (rd_m k)), .int (Int32.ofNat j)] [] (hs 62, F, G) Q := by
  have hm : rd_m k ≤ 6 := by
    match k, hk with
    | 0, _ => decide
    | 1, _ => decide
    | 2, _ => decide
    | 3, _ => decide
    | 4, _ => decide
  intro r
  induction r with
  | zero =>
    intro j p w F hj hT hp h5 hb hw h1 h2
    obtain rfl : j = rd_m k := by omega
    exact rg36_41 (t := 62) ⟨fun _ => h2 w p rfl F h5 hw (fun _ _ _ => rfl), fun q => absurd q (Int32.not_lt.mpr (Int32.le_refl _))⟩
  | succ r ih =>
    intro j p w F hj hT hp h5 hb hw h1 h2
    have h150 := hT.1
    refine rg36_41 (t := 62) ⟨fun q => ?_, fun _ => ⟨fun q => ?_, fun _ => sp40 hT hp h5 (fun F1 g4 gi gf => ?_)⟩⟩
    · have := (nn_le (by omega) (by omega)).mp q
      omega
    · have := (nn_le (a := 6) (by omega) (by omega)).mp q
      omega
    have s2 : rd_sk T b p ≤ T := rd_T hp
    have hfail : ¬ rd_fg T b (rd_sk T b p) → ¬ F1 64 3 = 2 → wp 36 61 [.ref 64, .int z, .int (Int32.ofNat k), .int (Int32.ofNat (rd_m k)), .int (Int32.ofNat j)] [] (hs 62, F1, G) Q := by
      intro q1 q2
      have e : rd_nums T b n k (r + 1) j p w = .inl (rd_sk T b p) := by
        rw [rd_nums, if_neg (fun q => q1 (rd_oki.mp q).1)]
      exact rg36_61 (t := 62) ⟨fun _ => h1 _ e F1 g4 (fun a a1 a2 => gf a a1), fun q => absurd q q2⟩
    show wp 36 61 _ _ _ _
    rcases gi with ⟨c1, c2⟩ | ⟨c0, ⟨c1, c2, -⟩ | ⟨c1, c2, c3, c4, c5⟩ | ⟨c1, c2, c3⟩ | ⟨c1, c2, -⟩ | ⟨-, c1, -, c2⟩⟩
    · exact hfail (fun q => by have := q.1; omega) (by rw [c2]; decide)
    · exact hfail (fun q => rd_lofi c1 q.2.1) (by rw [c2]; decide)
    · refine rg36_61 (t := 62) ⟨fun q => absurd c3 q, fun _ => sp38 hn (by rw [gf 65 (by decide), hb]) hk (by omega) ?_⟩
      have s3 := rd_pos c0 c1
      have hnm := rd_nmb hT c0 c1
      have hlo : rd_lo k j < 1000 := by
        unfold rd_lo
        repeat' split
        all_goals omega
      have hhi : rd_hi n k j < 1000 := by
        unfold rd_hi
        repeat' split
        all_goals omega
      rw [c5, rd_bz hlo hhi hnm]
      by_cases hr : rd_rg (rd_lo k j) (rd_hi n k j) (rd_nm b (rd_sk T b p) (rd_fe T b (rd_sk T b p))) = true
      · have hr2 := hr
        simp only [rd_rg, Bool.and_eq_true, decide_eq_true_eq] at hr2
        have e : rd_nums T b n k (r + 1) j p w = rd_nums T b n k r (j + 1) (rd_fe T b (rd_sk T b p)) (fun i => if i = j then rd_nm b (rd_sk T b p) (rd_fe T b (rd_sk T b p)) else w i) := by
          rw [rd_nums, if_pos (rd_oki.mpr ⟨⟨c0, c1, c2⟩, hr2.1, hr2.2⟩)]
        rw [e] at h1 h2
        rw [if_pos hr]
        refine rg36_76 (t := 62) ⟨fun _ => ⟨(nn_in (by omega)).mpr (by omega), ?_⟩, fun q => absurd q (by decide)⟩
        rw [nn_clamp (by omega), c5, show Int32.ofNat j + 1 = Int32.ofNat (j + 1) from nn_add j 1]
        have gf2 : ∀ a, a ≠ 64 → a ≠ 85 → ip_u F1 85 j (Int32.ofNat (rd_nm b (rd_sk T b p) (rd_fe T b (rd_sk T b p)))) a = F a := fun a a1 a2 => by rw [u_n a2, gf a a1]
        refine ih (j + 1) (rd_fe T b (rd_sk T b p)) _ _ (by omega) (rd_fr hT (gf2 62 (by decide) (by decide)) (gf2 63 (by decide) (by decide))) (rd_feb s2).2 (by rw [u_n (by decide), c4]) (by rw [gf2 65 (by decide) (by decide), hb]) (fun i hi => ?_) (fun q hq F' k1 k2 => h1 q hq F' k1 (fun a a1 a2 => by rw [k2 a a1 a2, gf2 a a1 a2])) (fun w' q hq F' k1 k2 k3 => h2 w' q hq F' k1 k2 (fun a a1 a2 => by rw [k3 a a1 a2, gf2 a a1 a2]))
        rw [u_s]
        by_cases e2 : i = j
        · rw [if_pos e2, if_pos e2]
        · rw [if_neg e2, if_neg e2, gf 85 (by decide), hw i (by omega)]
      · have e : rd_nums T b n k (r + 1) j p w = .inl (rd_sk T b p) := by
          rw [rd_nums, if_neg (fun q => hr (by
            have := (rd_oki.mp q).2
            simp only [rd_rg, Bool.and_eq_true, decide_eq_true_eq]
            exact this))]
        rw [if_neg hr]
        exact rg36_76 (t := 62) ⟨fun q => absurd rfl q, fun _ => h1 _ e F1 g4 (fun a a1 a2 => gf a a1)⟩
    · exact hfail (fun q => by have := q.2.2; omega) (by rw [c3]; decide)
    · exact hfail (fun q => by have := q.2.1; rw [c1, rd_59.1] at this; cases this) (by rw [c2]; decide)
    · exact hfail (fun q => by have := q.2.1; rw [c1] at this; cases this) (by rw [c2]; decide)
theorem sp36_98 {k q : Nat} {z : Int32} {w : Nat → Nat} (hT : RdC T b F) (hq : q ≤ T) (h5 : F 64 5 = Int32.ofNat q) (hk : k < 5) (h1 : ∀ q', rd_end T b k (.inr (w, q)) = .inl q' → ∀ F', F' 64 4 = Int32.ofNat q' → (∀ a, a ≠ 64 → a ≠ 85 → F' a = F a) → Q (some (.int 0)) (hs 62, F', G))
    (h2 : ∀ q', rd_end T b k (.inr (w, q)) = .inr (k, w, q') → ∀ F', F' 64 5 = Int32.ofNat q' → F' 85 = F 85 → (∀ a, a ≠ 64 → a ≠ 85 → F' a = F a) → wp 39 0 [.ref 64, .int (Int32.ofNat k)] [] (hs 62, F', G) (fun v M' => ∃ F2 G2, v = none ∧ M' = (hs 62, F2, G2) ∧ Q (some (.int 1)) (hs 62, F2, G2))) :
    wp 36 98 [.ref 64, .int z, .int (Int32.ofNat k), .int (Int32.ofNat (rd_m k)), .int (Int32.ofNat (rd_m k))] [] (hs 62, F, G) Q := by
  refine rg36_98 (t := 62) (sp40 hT hq h5 (fun F1 g4 gi gf => ?_))
  obtain ⟨s1, s2⟩ := rd_skb (b := b) hq
  by_cases hc : rd_sk T b q < T ∧ b (rd_sk T b q) = 59
  · have e : rd_end T b k (.inr (w, q)) = .inr (k, w, rd_sk T b q + 1) := by rw [rd_end, if_pos hc]
    rcases gi with ⟨c1, c2⟩ | ⟨c0, ⟨c1, c2, -⟩ | ⟨c1, c2, c3, c4, c5⟩ | ⟨c1, c2, c3⟩ | ⟨c1, c2, c3⟩ | ⟨-, -, c1, c2⟩⟩
    · omega
    · rw [hc.2, rd_59.2] at c1
      cases c1
    · rw [hc.2, rd_59.1] at c1
      cases c1
    · rw [hc.2, rd_59.1] at c1
      cases c1
    · refine rg36_102 (t := 62) ⟨fun _ => ?_, fun q2 => absurd c2 q2⟩
      refine wp_seq (h2 _ e F1 c3 (gf 85 (by decide)) (fun a a1 a2 => gf a a1)) ?_
      rintro _ _ ⟨F2, G2, rfl, rfl, hQ⟩
      exact rg36_117 (t := 62) hQ
    · exact absurd hc.2 c1
  · have e : rd_end T b k (.inr (w, q)) = .inl (rd_sk T b q) := by rw [rd_end, if_neg hc]
    refine rg36_102 (t := 62) ⟨fun q2 => ?_, fun _ => h1 _ e F1 g4 (fun a a1 a2 => gf a a1)⟩
    rcases gi with ⟨c1, c2⟩ | ⟨c0, ⟨c1, c2, -⟩ | ⟨c1, c2, c3, c4, c5⟩ | ⟨c1, c2, c3⟩ | ⟨c1, c2, c3⟩ | ⟨-, -, c1, c2⟩⟩
    · rw [c2] at q2
      cases q2
    · rw [c2] at q2
      cases q2
    · rw [c3] at q2
      cases q2
    · rw [c3] at q2
      cases q2
    · exact absurd ⟨c0, c1⟩ hc
    · rw [c2] at q2
      cases q2
theorem rd_wd5 (b : Nat → Nat) (p e : Nat) : rd_wd b p e ≤ 5 := by
  unfold rd_wd
  repeat' split
  all_goals omega
theorem sp36 {n f p : Nat} (hn : 1 ≤ n) (hn6 : n ≤ 6) (hT : RdC T b F) (hp : p ≤ T) (h4 : F 64 4 = Int32.ofNat (rd_sk T b p)) (hi : rd_is T b (rd_sk T b p) (F 64 3) (F 64 5) (F 64 6)) (hb : F 65 6 = Int32.ofNat n) (hf : f ≤ 1)
    (h1 : ∀ q, rd_item T b n f p = .inl q → ∀ F', F' 64 4 = Int32.ofNat q → (∀ a, a ≠ 64 → a ≠ 85 → F' a = F a) → Q (some (.int 0)) (hs 62, F', G))
    (h2 : ∀ k w q, rd_item T b n f p = .inr (k, w, q) → k < 5 → (k = 0 ↔ f = 1) → (∀ i, i < rd_m k → rd_lo k i ≤ w i ∧ w i ≤ rd_hi n k i) → rd_sk T b p < q → q ≤ T → ∀ F', F' 64 5 = Int32.ofNat q → (∀ i, i < rd_m k → F' 85 i = Int32.ofNat (w i)) → (∀ a, a ≠ 64 → a ≠ 85 → F' a = F a) → wp 39 0 [.ref 64, .int (Int32.ofNat k)] [] (hs 62, F', G) (fun v M' => ∃ F2 G2, v = none ∧ M' = (hs 62, F2, G2) ∧ Q (some (.int 1)) (hs 62, F2, G2))) :
    wp 36 0 [.ref 64, .int (Int32.ofNat f), .float 0, .float 0, .float 0] [] (hs 62, F, G) Q := by
  have h150 := hT.1
  obtain ⟨s1, s2⟩ := rd_skb (b := b) hp
  have bad : ¬ rd_kd T b (rd_sk T b p) < 5 ∨ ¬ (rd_kd T b (rd_sk T b p) = 0 ↔ f = 1) → Q (some (.int 0)) (hs 62, F, G) := by
    intro q
    refine h1 (rd_sk T b p) ?_ F h4 (fun _ _ _ => rfl)
    rw [rd_item, if_neg (fun q2 => q.elim (fun z => z q2.1) (fun z => z q2.2))]
  have nolet : ¬ (rd_sk T b p < T ∧ rd_rg 97 122 (b (rd_sk T b p)) = true) → ¬ F 64 3 = 1 → wp 36 0 [.ref 64, .int (Int32.ofNat f), .float 0, .float 0, .float 0] [] (hs 62, F, G) Q := by
    intro q q2
    refine rg36_0 (t := 62) ⟨fun _ => bad (Or.inl ?_), fun z => absurd z q2⟩
    rw [rd_kd, if_neg q]
    omega
  rcases hi with ⟨c1, c2⟩ | ⟨c0, ⟨c1, c2, c3, c4⟩ | ⟨c1, c2, c3, c4, c5⟩ | ⟨c1, c2, c3⟩ | ⟨c1, c2, c3⟩ | ⟨c1, -, -, c2⟩⟩
  · exact nolet (fun q => by omega) (by rw [c2]; decide)
  · have ek : rd_kd T b (rd_sk T b p) = rd_wd b (rd_sk T b p) (rd_we T b (rd_sk T b p)) := by rw [rd_kd, if_pos ⟨c0, c1⟩]
    have w5 := rd_wd5 b (rd_sk T b p) (rd_we T b (rd_sk T b p))
    rw [← ek] at w5 c4
    have wpos : rd_sk T b p < rd_we T b (rd_sk T b p) := rd_pos c0 c1
    have hwT := (rd_web (b := b) s2).2
    generalize hk0 : rd_kd T b (rd_sk T b p) = k at w5 c4 bad
    refine rg36_0 (t := 62) ⟨fun q => absurd c2 q, fun _ => ⟨fun q => bad (Or.inl ?_), fun q => ?_⟩⟩
    · intro hk
      rw [c4, rd_wv, if_pos hk] at q
      exact absurd (show Int32.ofNat k = -Int32.ofNat 1 from q) (nn_nem1 (by omega))
    have hk : k < 5 := by
      rcases Nat.lt_or_ge k 5 with z | z
      · exact z
      · rw [c4, rd_wv, if_neg (by omega)] at q
        exact absurd rfl q
    have ev : F 64 6 = Int32.ofNat k := by rw [c4, rd_wv, if_pos hk]
    rw [ev]
    have go : (k = 0 ↔ f = 1) → wp 37 0 [.int (Int32.ofNat k)] [] (hs 62, F, G) (fun v M' => wp 36 37 [.ref 64, .int (Int32.ofNat f), .int (Int32.ofNat k), .float 0, .float 0] (v.toList ++ []) M' Q) := by
      intro hc
      refine sp37 hk (rg36_37 (t := 62) ?_)
      have ei : rd_item T b n f p = rd_end T b k (rd_nums T b n k (rd_m k) 0 (rd_we T b (rd_sk T b p)) (fun _ => 0)) := by
        rw [rd_item, hk0, if_pos ⟨hk, hc⟩]
      refine sp36_41 hn hn6 hk (rd_m k) 0 (rd_we T b (rd_sk T b p)) (fun _ => 0) F (by omega) hT hwT c3 hb (fun i hi => absurd hi (by omega)) (fun q hq F' k1 k2 => h1 q ?_ F' k1 k2) (fun w q hq F' k1 k2 k3 => ?_)
      · rw [ei, hq]
        rfl
      · obtain ⟨g1, g2, g3, g4⟩ := rd_numsok _ _ _ _ _ _ hwT hq
        have gq := rd_skb (b := b) g1
        refine sp36_98 (w := w) (q := q) (rd_fr hT (k3 62 (by decide) (by decide)) (k3 63 (by decide) (by decide))) g1 k1 hk (fun q' e' F2 d1 d2 => h1 q' (by rw [ei, hq, e']) F2 d1 (fun a a1 a2 => by rw [d2 a a1 a2, k3 a a1 a2])) (fun q' e' F2 d1 d2 d3 => ?_)
        have eq' : rd_sk T b q < T ∧ q' = rd_sk T b q + 1 := by
          rw [rd_end] at e'
          split at e'
          · rename_i hc2
            cases e'
            exact ⟨hc2.1, rfl⟩
          · cases e'
        exact h2 k w q' (by rw [ei, hq, e']) hk hc (fun i hi => g4 i (by omega) (by omega)) (by omega) (by omega) F2 d1 (fun i hi => by rw [d2, k2 i hi]) (fun a a1 a2 => by rw [d3 a a1 a2, k3 a a1 a2])
    refine ⟨fun q => ?_, fun q => ?_⟩
    · have hk1 : ¬ k = 0 := fun z => q (by rw [z]; rfl)
      refine rg36_28 (t := 62) ⟨fun z => ?_, fun z => bad (Or.inr (fun z2 => ?_))⟩
      · rw [ev] at *
        refine go ⟨fun z2 => absurd z2 hk1, fun z2 => ?_⟩
        rw [z2] at z
        exact absurd z (by decide)
      · have : f = 0 := by
          rcases Nat.lt_or_ge f 1 with y | y
          · omega
          · exact absurd (z2.mpr (by omega)) hk1
        rw [this] at z
        exact z rfl
    · have hk1 : k = 0 := (nn_eq (b := 0) (by omega) (by omega)).mp q
      refine rg36_28 (t := 62) ⟨fun z => ?_, fun z => bad (Or.inr (fun z2 => ?_))⟩
      · rw [ev] at *
        refine go ⟨fun _ => ?_, fun _ => hk1⟩
        exact (nn_eq (b := 1) (by omega) (by omega)).mp z
      · have := z2.mp hk1
        rw [this] at z
        exact z rfl
  · exact nolet (fun q => rd_lofi q.2 c1) (by rw [c3]; decide)
  · exact nolet (fun q => rd_lofi q.2 c1) (by rw [c3]; decide)
  · exact nolet (fun q => by have := q.2; rw [c1, rd_59.2] at this; cases this) (by rw [c2]; decide)
  · exact nolet (fun q => by have := q.2; rw [c1] at this; cases this) (by rw [c2]; decide)
end ITM
