/-! ===== the reference reads a text ===== -/
abbrev rd_H (F F' : ip_F) : Prop := (∀ x, 5 < x → x ≠ 22 → x ≠ 16 → x ≠ 17 → F' 193 x = F 193 x) ∧ ∀ a, a ≠ 193 → (a < 195 ∨ 199 < a) → F' a = F a
theorem rd_Ht {F F' F'' : ip_F} (h : rd_H F F') (h' : rd_H F' F'') : rd_H F F'' := ⟨fun x h1 h2 h3 h4 => by rw [h'.1 x h1 h2 h3 h4, h.1 x h1 h2 h3 h4], fun a ha hb => by rw [h'.2 a ha hb, h.2 a ha hb]⟩
theorem rd_GH {F F' : ip_F} (h : rd_G F F') : rd_H F F' := ⟨fun x h1 h2 h3 h4 => h.1 x (by omega) h3 h4, h.2⟩
theorem rd_Hm {T : Nat} {b : Nat → Nat} {F F' : ip_F} (h : RdM T b F) (e : rd_H F F') : RdM T b F' := by
  unfold RdM
  rw [e.1 15 (by decide) (by decide) (by decide) (by decide), e.2 203 (by decide) (by decide)]
  exact h
theorem rd_q0 : ∀ q : Fin 151, (-10 - Int32.ofNat q.val) ≤ 0 := by decide +kernel
theorem rd_runz {T : Nat} {b : Nat → Nat} {n : Nat} (hT : T ≤ 150) : ∀ its p a z, rd_run T b n its p a z → 1 ≤ a → a ≤ p → p ≤ T → (∃ a', 1 ≤ a' ∧ a' ≤ 150 ∧ z = Int32.ofNat a') ∨ ∃ q, q ≤ T ∧ z = -10 - Int32.ofNat q := by
  intro its
  induction its with
  | nil =>
    intro p a z h ha hap hp
    rcases h with ⟨-, h⟩ | ⟨-, q, -, h1, h2⟩
    · exact Or.inl ⟨a, ha, by omega, h⟩
    · exact Or.inr ⟨q, h1, h2⟩
  | cons x l ih =>
    intro p a z h ha hap hp
    obtain ⟨-, q, -, h1, h2, -, -, -, h3⟩ := h
    exact ih q (a + 1) z h3 (by omega) (by omega) h1
theorem rd_wr {T : Nat} {b : Nat → Nat} {n : Nat} (hn : 1 ≤ n) (hn6 : n ≤ 6) : ∀ its p a z c, rd_run T b n its p a z → WR9 n c → WR9 n (rd_fc its c) := by
  intro its
  induction its with
  | nil => intro p a z c _ h; exact h
  | cons x l ih =>
    intro p a z c h hw
    obtain ⟨-, q, -, -, -, h1, h5, hr, h3⟩ := h
    obtain ⟨k, w⟩ := x
    refine ih q (a + 1) z _ h3 ?_
    have hr : ∀ i, i < rd_m k → rd_lo k i ≤ w i ∧ w i ≤ rd_hi n k i := hr
    have h1 : 1 ≤ k := h1
    have h5 : k < 5 := h5
    show WR9 n (rd_ac k w c)
    match k, h5 with
    | 0, _ => omega
    | 1, _ => exact hw
    | 2, _ =>
      have r0 := hr 0 (by decide)
      have r1 := hr 1 (by decide)
      have r2 := hr 2 (by decide)
      simp [rd_lo, rd_hi] at r0 r1 r2
      exact wr_slip hw (by omega) (Or.inr ⟨by omega, ⟨w 1, by omega, rfl⟩, w 2, r2.1, by omega, rfl⟩)
    | 3, _ =>
      have r0 := hr 0 (by decide)
      have r1 := hr 1 (by decide)
      simp [rd_lo, rd_hi] at r0 r1
      exact wr_seat hw (by omega) ⟨w 1, by omega, rfl⟩
    | 4, _ => exact wr_pys (w 0) c hw
section RDS
variable {G : ip_G} {Q : Option Value → ip_M → Prop} {T : Nat} {b : Nat → Nat} {t : Nat}
theorem sp168 {n p : Nat} {c h : Nat → Int32} {F : ip_F} (hn : 1 ≤ n) (hn6 : n ≤ 6) (hT : RdM T b F) (hp : p ≤ T) (h6 : F 193 16 = Int32.ofNat (rd_sk T b p)) (hS : rd_MS n c h F)
    (h1 : ∀ q, rd_item T b n 0 p = .inl q → ∀ F', F' 193 16 = Int32.ofNat q → rd_G F F' → Q (some (.int 0)) (hs t, F', G))
    (h2 : ∀ k w q, rd_item T b n 0 p = .inr (k, w, q) → ∀ F', F' 193 16 = Int32.ofNat q → rd_G F F' → rd_MS n (rd_ac k w c) (rd_ah k w h) F' → Q (some (.int 1)) (hs t, F', G)) :
    wp 168 0 [.ref 193, .float 0] [] (hs t, F, G) Q := by
  have h150 := hT.1
  obtain ⟨s1, s2⟩ := rd_skb (b := b) hp
  obtain ⟨w1, w2⟩ := rd_web (b := b) s2
  refine rg168_0 (sp161 hT s2 h6 ?_)
  have no : ¬ (rd_kd T b (rd_sk T b p) < 5 ∧ (rd_kd T b (rd_sk T b p) = 0 ↔ (0 : Nat) = 1)) → Q (some (.int 0)) (hs t, F, G) := by
    intro q
    refine h1 (rd_sk T b p) ?_ F h6 (rd_FG (rd_Fr F))
    rw [rd_item, if_neg q]
  have yes : rd_kd T b (rd_sk T b p) < 5 ∧ (rd_kd T b (rd_sk T b p) = 0 ↔ (0 : Nat) = 1) → rd_item T b n 0 p = rd_end T b (rd_kd T b (rd_sk T b p)) (rd_nums T b n (rd_kd T b (rd_sk T b p)) (rd_m (rd_kd T b (rd_sk T b p))) 0 (rd_we T b (rd_sk T b p)) (fun _ => 0)) := by
    intro q
    rw [rd_item, if_pos q]
  have hl : rd_kd T b (rd_sk T b p) < 5 → rd_we T b (rd_sk T b p) - rd_sk T b p = wn8 (rd_kd T b (rd_sk T b p)) := by
    intro q
    by_cases hc : rd_sk T b p < T ∧ rd_rg 97 122 (b (rd_sk T b p)) = true
    · have e : rd_kd T b (rd_sk T b p) = rd_wd b (rd_sk T b p) (rd_we T b (rd_sk T b p)) := by rw [rd_kd, if_pos hc]
      exact rd_wl q e.symm
    · rw [rd_kd, if_neg hc] at q
      omega
  have h5 : rd_kd T b (rd_sk T b p) ≤ 5 := by
    unfold rd_kd
    split
    · exact rd_wd5 _ _ _
    · omega
  generalize rd_kd T b (rd_sk T b p) = k at *
  match k, h5 with
  | 0, _ => exact rg168_4 ⟨fun q => absurd q (by decide), fun _ => no (fun q => absurd (q.2.mp rfl) (by decide))⟩
  | 5, _ => exact rg168_4 ⟨fun q => absurd q (by decide), fun _ => no (fun q => by omega)⟩
  | 1, _ =>
    have e := hl (by omega)
    have y := yes ⟨by omega, by omega⟩
    have ew : Int32.ofNat (rd_sk T b p) + 6 = Int32.ofNat (rd_we T b (rd_sk T b p)) := by
      rw [show (6 : Int32) = Int32.ofNat 6 from rfl, nn_add]
      congr 1
      have : wn8 1 = 6 := by decide
      omega
    refine rg168_4 ⟨fun _ => ⟨fun _ => ⟨fun _ => ?_, fun q => absurd q (by decide)⟩, fun q => absurd q (by decide)⟩, fun q => absurd q (by decide)⟩
    rw [h6]
    refine rg168_37 ⟨fun q => absurd rfl q, fun _ => ?_⟩
    rw [ew]
    have f := rd_Fu (F := F) (x := 16) (v := Int32.ofNat (rd_we T b (rd_sk T b p))) (Or.inl rfl)
    exact sp164 (n := n) (rd_Fm hT f) w2 (by rw [u_s, if_pos rfl]) (rd_MSf hS f) (fun q hq F' k1 k2 => rg168_50 (rg168_81 ⟨rfl, h1 q (by rw [y, hq]) F' k1 (rd_Gt (rd_FG f) k2)⟩)) (fun w q hq F' k1 k2 k3 => rg168_50 (rg168_81 ⟨rfl, h2 1 w q (by rw [y, hq]) F' k1 (rd_Gt (rd_FG f) k2) k3⟩))
  | 2, _ =>
    have e := hl (by omega)
    have y := yes ⟨by omega, by omega⟩
    have ew : Int32.ofNat (rd_sk T b p) + 4 = Int32.ofNat (rd_we T b (rd_sk T b p)) := by
      rw [show (4 : Int32) = Int32.ofNat 4 from rfl, nn_add]
      congr 1
      have : wn8 2 = 4 := by decide
      omega
    refine rg168_4 ⟨fun _ => ⟨fun q => absurd rfl q, fun _ => ?_⟩, fun q => absurd q (by decide)⟩
    rw [h6]
    refine rg168_37 ⟨fun _ => ⟨fun q => absurd rfl q, fun _ => ?_⟩, fun q => absurd q (by decide)⟩
    rw [ew]
    have f := rd_Fu (F := F) (x := 16) (v := Int32.ofNat (rd_we T b (rd_sk T b p))) (Or.inl rfl)
    exact sp165 (n := n) hn hn6 (rd_Fm hT f) w2 (by rw [u_s, if_pos rfl]) (rd_MSf hS f) (fun q hq F' k1 k2 => rg168_62 (rg168_81 ⟨rfl, h1 q (by rw [y, hq]) F' k1 (rd_Gt (rd_FG f) k2)⟩)) (fun w q hq F' k1 k2 k3 => rg168_62 (rg168_81 ⟨rfl, h2 2 w q (by rw [y, hq]) F' k1 (rd_Gt (rd_FG f) k2) k3⟩))
  | 3, _ =>
    have e := hl (by omega)
    have y := yes ⟨by omega, by omega⟩
    have ew : Int32.ofNat (rd_sk T b p) + 6 = Int32.ofNat (rd_we T b (rd_sk T b p)) := by
      rw [show (6 : Int32) = Int32.ofNat 6 from rfl, nn_add]
      congr 1
      have : wn8 3 = 6 := by decide
      omega
    refine rg168_4 ⟨fun _ => ⟨fun _ => ⟨fun _ => ?_, fun q => absurd q (by decide)⟩, fun q => absurd q (by decide)⟩, fun q => absurd q (by decide)⟩
    rw [h6]
    refine rg168_37 ⟨fun _ => ⟨fun _ => ⟨fun q => absurd rfl q, fun _ => ?_⟩, fun q => absurd q (by decide)⟩, fun q => absurd q (by decide)⟩
    rw [ew]
    have f := rd_Fu (F := F) (x := 16) (v := Int32.ofNat (rd_we T b (rd_sk T b p))) (Or.inl rfl)
    exact sp166 (n := n) hn hn6 (rd_Fm hT f) w2 (by rw [u_s, if_pos rfl]) (rd_MSf hS f) (fun q hq F' k1 k2 => rg168_74 (rg168_81 ⟨rfl, h1 q (by rw [y, hq]) F' k1 (rd_Gt (rd_FG f) k2)⟩)) (fun w q hq F' k1 k2 k3 => rg168_74 (rg168_81 ⟨rfl, h2 3 w q (by rw [y, hq]) F' k1 (rd_Gt (rd_FG f) k2) k3⟩))
  | 4, _ =>
    have e := hl (by omega)
    have y := yes ⟨by omega, by omega⟩
    have ew : Int32.ofNat (rd_sk T b p) + 5 = Int32.ofNat (rd_we T b (rd_sk T b p)) := by
      rw [show (5 : Int32) = Int32.ofNat 5 from rfl, nn_add]
      congr 1
      have : wn8 4 = 5 := by decide
      omega
    refine rg168_4 ⟨fun _ => ⟨fun _ => ⟨fun q => absurd rfl q, fun _ => ?_⟩, fun q => absurd q (by decide)⟩, fun q => absurd q (by decide)⟩
    rw [h6]
    refine rg168_37 ⟨fun _ => ⟨fun _ => ⟨fun _ => ?_, fun q => absurd q (by decide)⟩, fun q => absurd q (by decide)⟩, fun q => absurd q (by decide)⟩
    rw [ew]
    have f := rd_Fu (F := F) (x := 16) (v := Int32.ofNat (rd_we T b (rd_sk T b p))) (Or.inl rfl)
    exact sp167 (n := n) hn6 (rd_Fm hT f) w2 (by rw [u_s, if_pos rfl]) (rd_MSf hS f) (fun q hq F' k1 k2 => rg168_81 ⟨rfl, h1 q (by rw [y, hq]) F' k1 (rd_Gt (rd_FG f) k2)⟩) (fun w q hq F' k1 k2 k3 => rg168_81 ⟨rfl, h2 4 w q (by rw [y, hq]) F' k1 (rd_Gt (rd_FG f) k2) k3⟩)
theorem sp170_20 {n : Nat} (hn : 1 ≤ n) (hn6 : n ≤ 6) : ∀ its p a z c h F, rd_run T b n its p a z → RdM T b F → p ≤ T → 1 ≤ a → a ≤ p → F 193 16 = Int32.ofNat (rd_sk T b p) → rd_MS n c h F →
    (∀ a' F', z = Int32.ofNat a' → a' ≤ 150 → rd_G F F' → rd_MS n (rd_fc its c) (rd_fh its h) F' → Q (some (.int z)) (hs t, F', G)) →
    (∀ q F', z = -10 - Int32.ofNat q → q ≤ T → F' 193 16 = Int32.ofNat q → rd_G F F' → Q (some (.int (-1))) (hs t, F', G)) →
    wp 170 20 [.ref 193, .int (Int32.ofNat a)] [] (hs t, F, G) Q := by
  intro its
  induction its with
  | nil =>
    intro p a z c h F hr hT hp ha hap h6 hS k1 k2
    have h150 := hT.1
    obtain ⟨s1, s2⟩ := rd_skb (b := b) hp
    rcases hr with ⟨c1, rfl⟩ | ⟨c1, q, c2, c3, c4⟩
    · refine rg170_20 ⟨fun _ => k1 a F rfl (by omega) (rd_FG (rd_Fr F)) hS, fun q => ?_⟩
      rw [h6, hT.2.1] at q
      have := (nn_lt (by omega) (by omega)).mp q
      omega
    · refine rg170_20 ⟨fun q => ?_, fun _ => ?_⟩
      · rw [h6, hT.2.1] at q
        have := (nn_le (by omega) (by omega)).mp q
        omega
      · refine sp168 hn hn6 hT hp h6 hS (fun q' hq F' j1 j2 => rg170_35 ⟨fun z => absurd rfl z, fun _ => ?_⟩) (fun k w q' hq F' j1 j2 j3 => ?_)
        · rw [c2] at hq
          cases hq
          exact k2 q F' c4 c3 j1 j2
        · rw [c2] at hq
          cases hq
  | cons x l ih =>
    intro p a z c h F hr hT hp ha hap h6 hS k1 k2
    have h150 := hT.1
    obtain ⟨s1, s2⟩ := rd_skb (b := b) hp
    obtain ⟨k, w⟩ := x
    obtain ⟨c1, q, c2, c3, c4, c5, c6, c7, c8⟩ := hr
    refine rg170_20 ⟨fun q => ?_, fun _ => ?_⟩
    · rw [h6, hT.2.1] at q
      have := (nn_le (by omega) (by omega)).mp q
      omega
    · refine sp168 hn hn6 hT hp h6 hS (fun q' hq F' j1 j2 => ?_) (fun k' w' q' hq F' j1 j2 j3 => rg170_35 ⟨fun _ => ?_, fun z => absurd z (by decide)⟩)
      · rw [c2] at hq
        cases hq
      · rw [c2] at hq
        cases hq
        refine sp156 (T - q) q F' (by omega) (rd_Gm hT j2) j1 (fun F2 i1 i2 => rg170_47 ?_)
        rw [show Int32.ofNat a + 1 = Int32.ofNat (a + 1) from nn_add a 1]
        have e : rd_G F F2 := rd_Gt j2 (rd_FG i2)
        exact ih q (a + 1) z _ _ F2 c8 (rd_Gm hT e) c3 (by omega) (by omega) i1 (rd_MSf j3 i2) (fun a' F3 d1 d2 d3 d4 => k1 a' F3 d1 d2 (rd_Gt e d3) d4) (fun q3 F3 d1 d2 d3 d4 => k2 q3 F3 d1 d2 d3 (rd_Gt e d4))
theorem sp169 {n : Nat} {F : ip_F} (hT : RdM T b F) (h6 : F 193 16 = Int32.ofNat 0)
    (h1 : ∀ q, rd_item T b n 1 0 = .inl q → ∀ F', F' 193 16 = Int32.ofNat q → rd_H F F' → Q (some (.int 0)) (hs t, F', G))
    (h2 : ∀ w q, rd_item T b n 1 0 = .inr (0, w, q) → 4 ≤ w 0 → w 0 ≤ 6 → ∀ F', F' 193 16 = Int32.ofNat q → rd_H F F' → F' 193 1 = Int32.ofNat (w 0) → F' 193 3 = 0 → F' 193 4 = 0 → F' 193 5 = 0 → (∀ i, i < 6 → F' 195 i = 0) → (∀ i, i < 25 → mr9 F' i = if i < 12 then -1 else 0) → Q (some (.int 1)) (hs t, F', G)) :
    wp 169 0 [.ref 193] [] (hs t, F, G) Q := by
  have h150 := hT.1
  obtain ⟨s1, s2⟩ := rd_skb (b := b) (show 0 ≤ T by omega)
  obtain ⟨w1, w2⟩ := rd_web (b := b) s2
  refine rg169_0 (sp156 T 0 F (by omega) hT h6 (fun F1 a1 a2 => rg169_4 (sp161 (rd_Fm hT a2) s2 a1 ?_)))
  by_cases hk : rd_kd T b (rd_sk T b 0) = 0
  · have y : rd_item T b n 1 0 = rd_end T b 0 (rd_nums T b n 0 1 0 (rd_we T b (rd_sk T b 0)) (fun _ => 0)) := by
      rw [rd_item, hk, if_pos ⟨by omega, by simp⟩]
      rfl
    have hc : rd_sk T b 0 < T ∧ rd_rg 97 122 (b (rd_sk T b 0)) = true := by
      by_cases z : rd_sk T b 0 < T ∧ rd_rg 97 122 (b (rd_sk T b 0)) = true
      · exact z
      · rw [rd_kd, if_neg z] at hk
        omega
    have hl : rd_we T b (rd_sk T b 0) - rd_sk T b 0 = 5 := by
      rw [rd_kd, if_pos hc] at hk
      exact rd_wl (k := 0) (by omega) hk
    rw [hk]
    refine rg169_8 ⟨fun _ => ?_, fun q => absurd rfl q⟩
    rw [a1, show Int32.ofNat (rd_sk T b 0) + 5 = Int32.ofNat (rd_we T b (rd_sk T b 0)) from (nn_add _ 5).trans (by congr 1; omega)]
    have f := rd_Ft a2 (rd_Fu (F := F1) (x := 16) (v := Int32.ofNat (rd_we T b (rd_sk T b 0))) (Or.inl rfl))
    refine sp162 (lo := 4) (hi := 6) (rd_Fm hT f) w2 (by rw [u_s, if_pos rfl]) (by omega) (by omega) (fun q0 F2 b1 b2 => ?_) (fun q0 F2 b1 b2 b3 => ?_)
    · refine rg169_30 ⟨fun q => absurd rfl q, fun _ => h1 _ ?_ F2 b1 (rd_GH (rd_FG (rd_Ft f b2)))⟩
      rw [y, rd_nf (r := 0) (show ¬ rd_ok T b n 0 0 _ = true from q0)]
      rfl
    · have r0 := rd_rgi.mp (rd_okli.mp q0).2
      rw [rd_ns (r := 0) (show rd_ok T b n 0 0 _ = true from q0)] at y
      have g1 := (rd_feb (b := b) (rd_skb (b := b) w2).2).2
      generalize rd_nm b (rd_sk T b (rd_we T b (rd_sk T b 0))) (rd_fe T b (rd_sk T b (rd_we T b (rd_sk T b 0)))) = v0 at *
      generalize rd_fe T b (rd_sk T b (rd_we T b (rd_sk T b 0))) = p1 at *
      refine rg169_30 ⟨fun _ => ?_, fun q => absurd q (by decide)⟩
      rw [b1]
      refine sp149n (fun F3 d1 d2 d3 d4 d5 d6 d7 d8 d9 d10 => rg169_43 ?_)
      have e3 : rd_H F F3 := rd_Ht (rd_GH (rd_FG (rd_Ft f b3))) ⟨fun x x1 x2 x3 x4 => d7 x x1 x2, fun a ha hb => d10 a ha hb⟩
      refine sp163 (k := 0) (w := fun i => if i = 0 then v0 else 0) (rd_Hm hT e3) g1 (by rw [d7 16 (by decide) (by decide), b2]) (fun q hq F' j1 j2 => rg169_47 ⟨rfl, h1 q (by rw [y]; exact hq) F' j1 (rd_Ht e3 (rd_GH (rd_FG j2)))⟩) (fun q hq F' j1 j2 => rg169_47 ⟨rfl, h2 _ q (by rw [y]; exact hq) r0.1 r0.2 F' j1 (rd_Ht e3 (rd_GH (rd_FG j2))) ?_ ?_ ?_ ?_ (fun i hi => ?_) (fun i hi => ?_)⟩)
      · rw [j2.1 1 (by decide) (by decide), d1]
        rfl
      · rw [j2.1 3 (by decide) (by decide), d3]
      · rw [j2.1 4 (by decide) (by decide), d4]
      · rw [j2.1 5 (by decide) (by decide), d5]
      · rw [j2.2 195 (by decide), d8 i hi]
      · rw [rd_Fmr j2, d9 i hi]
  · have y : rd_item T b n 1 0 = .inl (rd_sk T b 0) := by
      rw [rd_item, if_neg (fun q => hk (q.2.mpr rfl))]
    refine rg169_8 ⟨fun q => ?_, fun _ => h1 _ y F1 a1 (rd_GH (rd_FG a2))⟩
    exfalso
    unfold rd_wv at q
    split at q
    · exact hk ((nn_eq (b := 0) (by omega) (by omega)).mp q)
    · exact absurd q (by decide)
end RDS
