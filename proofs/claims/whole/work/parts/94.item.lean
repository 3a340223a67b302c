/-! ===== the reference reads an item ===== -/
abbrev rd_G (F F' : ip_F) : Prop := (∀ x, x ≠ 2 → x ≠ 16 → x ≠ 17 → F' 193 x = F 193 x) ∧ ∀ a, a ≠ 193 → (a < 195 ∨ 199 < a) → F' a = F a
theorem rd_Gt {F F' F'' : ip_F} (h : rd_G F F') (h' : rd_G F' F'') : rd_G F F'' := ⟨fun x h1 h2 h3 => by rw [h'.1 x h1 h2 h3, h.1 x h1 h2 h3], fun a ha hb => by rw [h'.2 a ha hb, h.2 a ha hb]⟩
theorem rd_FG {F F' : ip_F} (h : rd_F F F') : rd_G F F' := ⟨fun x _ h2 h3 => h.1 x h2 h3, fun a ha _ => h.2 a ha⟩
theorem rd_Gu {F : ip_F} {k x : Nat} {v : Int32} (hk : 195 ≤ k ∧ k ≤ 199) : rd_G F (ip_u F k x v) := ⟨fun y _ _ _ => by rw [u_n (by omega)], fun a _ hb => u_n (by omega)⟩
theorem rd_Gm {T : Nat} {b : Nat → Nat} {F F' : ip_F} (h : RdM T b F) (e : rd_G F F') : RdM T b F' := by
  unfold RdM
  rw [e.1 15 (by decide) (by decide) (by decide), e.2 203 (by decide) (by decide)]
  exact h
/-- the reference's tower at hand, as an abstract one -/
abbrev rd_MS (n : Nat) (c h : Nat → Int32) (F : ip_F) : Prop := F 193 1 = Int32.ofNat n ∧ SR9 n c (mr9 F) ∧ ∀ i, i < 6 → F 195 i = h i
theorem rd_Fmr {F F' : ip_F} (e : rd_F F F') : mr9 F' = mr9 F := mr_fr (e.1 2 (by decide) (by decide)) (e.2 196 (by decide)) (e.2 197 (by decide)) (e.2 198 (by decide)) (e.2 199 (by decide))
theorem rd_MSf {n : Nat} {c h : Nat → Int32} {F F' : ip_F} (hS : rd_MS n c h F) (e : rd_F F F') : rd_MS n c h F' := by
  unfold rd_MS
  rw [e.1 1 (by decide) (by decide), rd_Fmr e, e.2 195 (by decide)]
  exact hS
theorem rd_nf {T : Nat} {b : Nat → Nat} {n k r j p : Nat} {w : Nat → Nat} (h : ¬ rd_ok T b n k j (rd_sk T b p) = true) : rd_nums T b n k (r + 1) j p w = .inl (rd_sk T b p) := by
  rw [rd_nums, if_neg h]
theorem rd_ns {T : Nat} {b : Nat → Nat} {n k r j p : Nat} {w : Nat → Nat} (h : rd_ok T b n k j (rd_sk T b p) = true) : rd_nums T b n k (r + 1) j p w = rd_nums T b n k r (j + 1) (rd_fe T b (rd_sk T b p)) (fun i => if i = j then rd_nm b (rd_sk T b p) (rd_fe T b (rd_sk T b p)) else w i) := by
  rw [rd_nums, if_pos h]
theorem rd_rgi {lo hi x : Nat} : rd_rg lo hi x = true ↔ lo ≤ x ∧ x ≤ hi := by
  unfold rd_rg
  simp only [Bool.and_eq_true, decide_eq_true_eq]
section ITE
variable {F : ip_F} {G : ip_G} {Q : Option Value → ip_M → Prop} {T : Nat} {b : Nat → Nat} {t : Nat}
theorem sp164_2 {n : Nat} {c h : Nat → Int32} : ∀ r j p w F, j + r = 6 → RdM T b F → p ≤ T → F 193 16 = Int32.ofNat p → F 193 1 = Int32.ofNat n → SR9 n c (mr9 F) → (∀ i, i < j → F 195 i = Int32.ofNat (w i)) →
    (∀ q, rd_end T b 1 (rd_nums T b n 1 r j p w) = .inl q → ∀ F', F' 193 16 = Int32.ofNat q → rd_G F F' → Q (some (.int 0)) (hs t, F', G)) →
    (∀ w' q, rd_end T b 1 (rd_nums T b n 1 r j p w) = .inr (1, w', q) → ∀ F', F' 193 16 = Int32.ofNat q → rd_G F F' → rd_MS n (rd_ac 1 w' c) (rd_ah 1 w' h) F' → Q (some (.int 1)) (hs t, F', G)) →
    wp 164 2 [.ref 193, .int (Int32.ofNat j)] [] (hs t, F, G) Q := by
  intro r
  induction r with
  | zero =>
    intro j p w F hj hT hp h6 hb hS hw h1 h2
    obtain rfl : j = 6 := by omega
    refine rg164_2 ⟨fun _ => sp163 (k := 1) (w := w) hT hp h6 (fun q hq F' k1 k2 => rg164_39 ⟨rfl, h1 q hq F' k1 (rd_FG k2)⟩) (fun q hq F' k1 k2 => rg164_39 ⟨rfl, h2 w q hq F' k1 (rd_FG k2) ⟨?_, ?_, fun i hi => ?_⟩⟩), fun q => absurd q (by decide)⟩
    · rw [k2.1 1 (by decide) (by decide), hb]
    · rw [rd_Fmr k2]
      exact hS
    · rw [k2.2 195 (by decide), hw i hi]
      unfold rd_ah
      rw [if_pos rfl, if_pos hi]
  | succ r ih =>
    intro j p w F hj hT hp h6 hb hS hw h1 h2
    have h150 := hT.1
    refine rg164_2 ⟨fun q => ?_, fun _ => ?_⟩
    · have := (nn_le (a := 6) (by omega) (by omega)).mp q
      omega
    refine sp162 (lo := 0) (hi := 3) hT hp h6 (by omega) (by omega) (fun q0 F1 a1 a2 => ?_) (fun q0 F1 a1 a2 a3 => ?_)
    · refine rg164_14 ⟨fun q => absurd rfl q, fun _ => h1 _ (by rw [rd_nf (show ¬ rd_ok T b n 1 j _ = true from q0)]; rfl) F1 a1 (rd_FG a2)⟩
    · rw [rd_ns (show rd_ok T b n 1 j _ = true from q0)] at h1 h2
      refine rg164_14 ⟨fun _ => ⟨(nn_in (by omega)).mpr (by omega), ?_⟩, fun q => absurd q (by decide)⟩
      rw [nn_clamp (by omega), a1, show Int32.ofNat j + 1 = Int32.ofNat (j + 1) from nn_add j 1]
      have eg : rd_G F (ip_u F1 195 j (Int32.ofNat (rd_nm b (rd_sk T b p) (rd_fe T b (rd_sk T b p))))) := rd_Gt (rd_FG a3) (rd_Gu (by omega))
      refine ih (j + 1) _ _ _ (by omega) (rd_Gm hT eg) (rd_feb (rd_skb hp).2).2 (by rw [u_n (by decide), a2]) (by rw [eg.1 1 (by decide) (by decide) (by decide), hb]) ?_ (fun i hi => ?_) (fun q hq F' k1 k2 => h1 q hq F' k1 (rd_Gt eg k2)) (fun w' q hq F' k1 k2 k3 => h2 w' q hq F' k1 (rd_Gt eg k2) k3)
      · rw [show mr9 (ip_u F1 195 j (Int32.ofNat (rd_nm b (rd_sk T b p) (rd_fe T b (rd_sk T b p))))) = mr9 F1 from mr_fr (by rw [u_n (by decide)]) (u_n (by decide)) (u_n (by decide)) (u_n (by decide)) (u_n (by decide)), rd_Fmr a3]
        exact hS
      · rw [u_s]
        by_cases e2 : i = j
        · rw [if_pos e2, if_pos e2]
        · rw [if_neg e2, if_neg e2, a3.2 195 (by decide), hw i (by omega)]
theorem sp164 {n p : Nat} {c h : Nat → Int32} {F : ip_F} (hT : RdM T b F) (hp : p ≤ T) (h6 : F 193 16 = Int32.ofNat p) (hS : rd_MS n c h F)
    (h1 : ∀ q, rd_end T b 1 (rd_nums T b n 1 (rd_m 1) 0 p (fun _ => 0)) = .inl q → ∀ F', F' 193 16 = Int32.ofNat q → rd_G F F' → Q (some (.int 0)) (hs t, F', G))
    (h2 : ∀ w' q, rd_end T b 1 (rd_nums T b n 1 (rd_m 1) 0 p (fun _ => 0)) = .inr (1, w', q) → ∀ F', F' 193 16 = Int32.ofNat q → rd_G F F' → rd_MS n (rd_ac 1 w' c) (rd_ah 1 w' h) F' → Q (some (.int 1)) (hs t, F', G)) :
    wp 164 0 [.ref 193, .float 0] [] (hs t, F, G) Q :=
  rg164_0 (sp164_2 6 0 p (fun _ => 0) F rfl hT hp h6 hS.1 hS.2.1 (fun i hi => absurd hi (by omega)) h1 h2)
theorem sp165 {n p : Nat} {c h : Nat → Int32} {F : ip_F} (hn : 1 ≤ n) (hn6 : n ≤ 6) (hT : RdM T b F) (hp : p ≤ T) (h6 : F 193 16 = Int32.ofNat p) (hS : rd_MS n c h F)
    (h1 : ∀ q, rd_end T b 2 (rd_nums T b n 2 (rd_m 2) 0 p (fun _ => 0)) = .inl q → ∀ F', F' 193 16 = Int32.ofNat q → rd_G F F' → Q (some (.int 0)) (hs t, F', G))
    (h2 : ∀ w' q, rd_end T b 2 (rd_nums T b n 2 (rd_m 2) 0 p (fun _ => 0)) = .inr (2, w', q) → ∀ F', F' 193 16 = Int32.ofNat q → rd_G F F' → rd_MS n (rd_ac 2 w' c) (rd_ah 2 w' h) F' → Q (some (.int 1)) (hs t, F', G)) :
    wp 165 0 [.ref 193, .float 0] [] (hs t, F, G) Q := by
  have h150 := hT.1
  refine rg165_0 ?_
  rw [hS.1, show (1 : Int32) = Int32.ofNat 1 from rfl, nn_sub hn]
  refine sp162 (lo := 0) (hi := n - 1) hT hp h6 (by omega) (by omega) (fun q0 F1 a1 a2 => ?_) (fun q0 F1 a1 a2 a3 => ?_)
  · exact rg165_11 ⟨fun q => absurd rfl q, fun _ => h1 _ (by rw [show rd_m 2 = 2 + 1 from rfl, rd_nf (show ¬ rd_ok T b n 2 0 _ = true from q0)]; rfl) F1 a1 (rd_FG a2)⟩
  have r0 := rd_rgi.mp (rd_okli.mp q0).2
  rw [show rd_m 2 = 2 + 1 from rfl, rd_ns (show rd_ok T b n 2 0 _ = true from q0)] at h1 h2
  have g1 := (rd_feb (b := b) (rd_skb (b := b) hp).2).2
  generalize rd_nm b (rd_sk T b p) (rd_fe T b (rd_sk T b p)) = v0 at *
  generalize rd_fe T b (rd_sk T b p) = p1 at *
  refine rg165_11 ⟨fun _ => ?_, fun q => absurd q (by decide)⟩
  rw [a1]
  refine sp162 (lo := 0) (hi := 5) (rd_Fm hT a3) g1 a2 (by omega) (by omega) (fun q1 F2 b1 b2 => ?_) (fun q1 F2 b1 b2 b3 => ?_)
  · exact rg165_27 ⟨fun q => absurd rfl q, fun _ => h1 _ (by rw [show 2 = 1 + 1 from rfl, rd_nf (show ¬ rd_ok T b n 2 1 _ = true from q1)]; rfl) F2 b1 (rd_Gt (rd_FG a3) (rd_FG b2))⟩
  rw [rd_ns (r := 1) (show rd_ok T b n 2 1 _ = true from q1)] at h1 h2
  have g2 := (rd_feb (b := b) (rd_skb (b := b) g1).2).2
  generalize rd_nm b (rd_sk T b p1) (rd_fe T b (rd_sk T b p1)) = v1 at *
  generalize rd_fe T b (rd_sk T b p1) = p2 at *
  refine rg165_27 ⟨fun _ => ⟨(nn_in (by omega)).mpr (by omega), ?_⟩, fun q => absurd q (by decide)⟩
  rw [nn_clamp (by omega), b1]
  have e3 : rd_G F (ip_u F2 196 v0 (Int32.ofNat v1)) := rd_Gt (rd_Gt (rd_FG a3) (rd_FG b3)) (rd_Gu (by omega))
  have m3 : mr9 (ip_u F2 196 v0 (Int32.ofNat v1)) = ups (mr9 F) v0 (Int32.ofNat v1) := by rw [mr_u196 (by omega), rd_Fmr b3, rd_Fmr a3]
  have l3 : ip_u F2 196 v0 (Int32.ofNat v1) 195 = F 195 := by rw [u_n (by decide), b3.2 195 (by decide), a3.2 195 (by decide)]
  have p3 : ip_u F2 196 v0 (Int32.ofNat v1) 193 16 = Int32.ofNat p2 := by rw [u_n (by decide), b2]
  generalize ip_u F2 196 v0 (Int32.ofNat v1) = F3 at *
  refine sp162 (lo := 1) (hi := 11) (rd_Gm hT e3) g2 p3 (by omega) (by omega) (fun q2 F4 c1 c2 => ?_) (fun q2 F4 c1 c2 c3 => ?_)
  · exact rg165_49 ⟨fun q => absurd rfl q, fun _ => h1 _ (by rw [show 1 = 0 + 1 from rfl, rd_nf (show ¬ rd_ok T b n 2 2 _ = true from q2)]; rfl) F4 c1 (rd_Gt e3 (rd_FG c2))⟩
  rw [rd_ns (r := 0) (show rd_ok T b n 2 2 _ = true from q2)] at h1 h2
  have g3 := (rd_feb (b := b) (rd_skb (b := b) g2).2).2
  generalize rd_nm b (rd_sk T b p2) (rd_fe T b (rd_sk T b p2)) = v2 at *
  generalize rd_fe T b (rd_sk T b p2) = p3' at *
  refine rg165_49 ⟨fun _ => ⟨(nn_in (by omega)).mpr (by omega), ?_⟩, fun q => absurd q (by decide)⟩
  rw [nn_clamp (by omega), c1]
  have e5 : rd_G F (ip_u F4 197 v0 (Int32.ofNat v2)) := rd_Gt (rd_Gt e3 (rd_FG c3)) (rd_Gu (by omega))
  have m5 : mr9 (ip_u F4 197 v0 (Int32.ofNat v2)) = ups (ups (mr9 F) v0 (Int32.ofNat v1)) (6 + v0) (Int32.ofNat v2) := by rw [mr_u197 (by omega), rd_Fmr c3, m3]
  have l5 : ip_u F4 197 v0 (Int32.ofNat v2) 195 = F 195 := by rw [u_n (by decide), c3.2 195 (by decide), l3]
  have p5 : ip_u F4 197 v0 (Int32.ofNat v2) 193 16 = Int32.ofNat p3' := by rw [u_n (by decide), c2]
  generalize ip_u F4 197 v0 (Int32.ofNat v2) = F5 at *
  refine sp163 (k := 2) (w := fun i => if i = 2 then v2 else if i = 1 then v1 else if i = 0 then v0 else 0) (rd_Gm hT e5) g3 p5 (fun q hq F' k1 k2 => rg165_68 ⟨rfl, h1 q hq F' k1 (rd_Gt e5 (rd_FG k2))⟩) (fun q hq F' k1 k2 => rg165_68 ⟨rfl, h2 _ q hq F' k1 (rd_Gt e5 (rd_FG k2)) ⟨?_, ?_, fun i hi => ?_⟩⟩)
  · rw [(rd_Gt e5 (rd_FG k2)).1 1 (by decide) (by decide) (by decide), hS.1]
  · rw [rd_Fmr k2, m5]
    exact sr_ups (sr_ups hS.2.1)
  · rw [k2.2 195 (by decide), l5, hS.2.2 i hi]
    rfl
theorem sp166 {n p : Nat} {c h : Nat → Int32} {F : ip_F} (hn : 1 ≤ n) (hn6 : n ≤ 6) (hT : RdM T b F) (hp : p ≤ T) (h6 : F 193 16 = Int32.ofNat p) (hS : rd_MS n c h F)
    (h1 : ∀ q, rd_end T b 3 (rd_nums T b n 3 (rd_m 3) 0 p (fun _ => 0)) = .inl q → ∀ F', F' 193 16 = Int32.ofNat q → rd_G F F' → Q (some (.int 0)) (hs t, F', G))
    (h2 : ∀ w' q, rd_end T b 3 (rd_nums T b n 3 (rd_m 3) 0 p (fun _ => 0)) = .inr (3, w', q) → ∀ F', F' 193 16 = Int32.ofNat q → rd_G F F' → rd_MS n (rd_ac 3 w' c) (rd_ah 3 w' h) F' → Q (some (.int 1)) (hs t, F', G)) :
    wp 166 0 [.ref 193, .float 0] [] (hs t, F, G) Q := by
  have h150 := hT.1
  refine rg166_0 ?_
  rw [hS.1, show (1 : Int32) = Int32.ofNat 1 from rfl, nn_sub hn]
  refine sp162 (lo := 0) (hi := n - 1) hT hp h6 (by omega) (by omega) (fun q0 F1 a1 a2 => ?_) (fun q0 F1 a1 a2 a3 => ?_)
  · exact rg166_11 ⟨fun q => absurd rfl q, fun _ => h1 _ (by rw [show rd_m 3 = 2 + 1 from rfl, rd_nf (show ¬ rd_ok T b n 3 0 _ = true from q0)]; rfl) F1 a1 (rd_FG a2)⟩
  have r0 := rd_rgi.mp (rd_okli.mp q0).2
  rw [show rd_m 3 = 2 + 1 from rfl, rd_ns (show rd_ok T b n 3 0 _ = true from q0)] at h1 h2
  have g1 := (rd_feb (b := b) (rd_skb (b := b) hp).2).2
  generalize rd_nm b (rd_sk T b p) (rd_fe T b (rd_sk T b p)) = v0 at *
  generalize rd_fe T b (rd_sk T b p) = p1 at *
  refine rg166_11 ⟨fun _ => ?_, fun q => absurd q (by decide)⟩
  rw [a1]
  refine sp162 (lo := 0) (hi := 5) (rd_Fm hT a3) g1 a2 (by omega) (by omega) (fun q1 F2 b1 b2 => ?_) (fun q1 F2 b1 b2 b3 => ?_)
  · exact rg166_27 ⟨fun q => absurd rfl q, fun _ => h1 _ (by rw [show 2 = 1 + 1 from rfl, rd_nf (show ¬ rd_ok T b n 3 1 _ = true from q1)]; rfl) F2 b1 (rd_Gt (rd_FG a3) (rd_FG b2))⟩
  rw [rd_ns (r := 1) (show rd_ok T b n 3 1 _ = true from q1)] at h1 h2
  have g2 := (rd_feb (b := b) (rd_skb (b := b) g1).2).2
  generalize rd_nm b (rd_sk T b p1) (rd_fe T b (rd_sk T b p1)) = v1 at *
  generalize rd_fe T b (rd_sk T b p1) = p2 at *
  refine rg166_27 ⟨fun _ => ⟨(nn_in (by omega)).mpr (by omega), ?_⟩, fun q => absurd q (by decide)⟩
  rw [nn_clamp (by omega), b1]
  have e3 : rd_G F (ip_u F2 198 v0 (Int32.ofNat v1)) := rd_Gt (rd_Gt (rd_FG a3) (rd_FG b3)) (rd_Gu (by omega))
  have m3 : mr9 (ip_u F2 198 v0 (Int32.ofNat v1)) = ups (mr9 F) (12 + v0) (Int32.ofNat v1) := by rw [mr_u198 (by omega), rd_Fmr b3, rd_Fmr a3]
  have l3 : ip_u F2 198 v0 (Int32.ofNat v1) 195 = F 195 := by rw [u_n (by decide), b3.2 195 (by decide), a3.2 195 (by decide)]
  have p3 : ip_u F2 198 v0 (Int32.ofNat v1) 193 16 = Int32.ofNat p2 := by rw [u_n (by decide), b2]
  generalize ip_u F2 198 v0 (Int32.ofNat v1) = F3 at *
  refine sp162 (lo := 0) (hi := 99) (rd_Gm hT e3) g2 p3 (by omega) (by omega) (fun q2 F4 c1 c2 => ?_) (fun q2 F4 c1 c2 c3 => ?_)
  · exact rg166_49 ⟨fun q => absurd rfl q, fun _ => h1 _ (by rw [show 1 = 0 + 1 from rfl, rd_nf (show ¬ rd_ok T b n 3 2 _ = true from q2)]; rfl) F4 c1 (rd_Gt e3 (rd_FG c2))⟩
  rw [rd_ns (r := 0) (show rd_ok T b n 3 2 _ = true from q2)] at h1 h2
  have g3 := (rd_feb (b := b) (rd_skb (b := b) g2).2).2
  generalize rd_nm b (rd_sk T b p2) (rd_fe T b (rd_sk T b p2)) = v2 at *
  generalize rd_fe T b (rd_sk T b p2) = p3' at *
  refine rg166_49 ⟨fun _ => ⟨(nn_in (by omega)).mpr (by omega), ?_⟩, fun q => absurd q (by decide)⟩
  rw [nn_clamp (by omega), c1]
  have e5 : rd_G F (ip_u F4 199 v0 (Int32.ofNat v2)) := rd_Gt (rd_Gt e3 (rd_FG c3)) (rd_Gu (by omega))
  have m5 : mr9 (ip_u F4 199 v0 (Int32.ofNat v2)) = ups (ups (mr9 F) (12 + v0) (Int32.ofNat v1)) (18 + v0) (Int32.ofNat v2) := by rw [mr_u199 (by omega), rd_Fmr c3, m3]
  have l5 : ip_u F4 199 v0 (Int32.ofNat v2) 195 = F 195 := by rw [u_n (by decide), c3.2 195 (by decide), l3]
  have p5 : ip_u F4 199 v0 (Int32.ofNat v2) 193 16 = Int32.ofNat p3' := by rw [u_n (by decide), c2]
  generalize ip_u F4 199 v0 (Int32.ofNat v2) = F5 at *
  refine sp163 (k := 3) (w := fun i => if i = 2 then v2 else if i = 1 then v1 else if i = 0 then v0 else 0) (rd_Gm hT e5) g3 p5 (fun q hq F' k1 k2 => rg166_68 ⟨rfl, h1 q hq F' k1 (rd_Gt e5 (rd_FG k2))⟩) (fun q hq F' k1 k2 => rg166_68 ⟨rfl, h2 _ q hq F' k1 (rd_Gt e5 (rd_FG k2)) ⟨?_, ?_, fun i hi => ?_⟩⟩)
  · rw [(rd_Gt e5 (rd_FG k2)).1 1 (by decide) (by decide) (by decide), hS.1]
  · rw [rd_Fmr k2, m5]
    exact sr_ups (sr_ups hS.2.1)
  · rw [k2.2 195 (by decide), l5, hS.2.2 i hi]
    rfl
theorem sp167_19 {N n : Nat} (hN : N ≤ 1000) (hn : n ≤ 6) : ∀ d i F c, i + d = N → F 193 1 = Int32.ofNat n → SR9 n c (mr9 F) → (∀ F' i', SR9 n (pys9 d c) (mr9 F') → (∀ x, x ≠ 2 → F' 193 x = F 193 x) → (∀ b, b ≠ 193 → b ≠ 199 → F' b = F b) → wp 167 44 [.ref 193, .int (Int32.ofNat N), .int i'] [] (hs t, F', G) Q) → wp 167 19 [.ref 193, .int (Int32.ofNat N), .int (Int32.ofNat i)] [] (hs t, F, G) Q := by
  intro d
  induction d with
  | zero =>
    intro i F c hi hb hS h
    obtain rfl : i = N := by omega
    refine rg167_19 ⟨fun _ => h F _ hS (fun _ _ => rfl) (fun _ _ _ => rfl), fun q => ?_⟩
    (simp (disch := omega) only [nn_lit, nn_m1, nn_add, nn_mul, nn_rem, nn_sub, nn_addm1, nn_lt, nn_le, nn_eq, nn_clamp, nn_in, nn_nem1, nn_m1ne, nn_ltm1, nn_m1lt, nn_m1le, nn_lem1, bz_0, bz_n0, not_false_eq_true, not_true_eq_false, true_and, and_true, false_and, and_false, false_implies, true_implies, forall_const, Nat.reduceMul, Nat.reduceAdd, Nat.reduceSub] at q <;> try simp only [nn_bk] at q)
    omega
  | succ d ih =>
    intro i F c hi hb hS h
    have e24 : F 193 2 = c 24 := (hS 24 (by omega)).symm
    refine rg167_19 ⟨fun q => ?_, fun _ => ⟨fun q => ?_, fun q => sp190 hn hb (fun F1 g1 g2 g3 => rg167_38 ?_)⟩⟩
    · (simp (disch := omega) only [nn_lit, nn_m1, nn_add, nn_mul, nn_rem, nn_sub, nn_addm1, nn_lt, nn_le, nn_eq, nn_clamp, nn_in, nn_nem1, nn_m1ne, nn_ltm1, nn_m1lt, nn_m1le, nn_lem1, bz_0, bz_n0, not_false_eq_true, not_true_eq_false, true_and, and_true, false_and, and_false, false_implies, true_implies, forall_const, Nat.reduceMul, Nat.reduceAdd, Nat.reduceSub] at q <;> try simp only [nn_bk] at q)
      omega
    · rw [e24] at q
      rw [pys9, if_neg (Int32.not_lt.mpr q)] at h
      exact h F _ hS (fun _ _ => rfl) (fun _ _ _ => rfl)
    · rw [e24] at q
      rw [pys9, if_pos q] at h
      rw [show Int32.ofNat i + 1 = Int32.ofNat (i + 1) from nn_add i 1]
      have e93 : ∀ x, x ≠ 2 → F1 193 x = F 193 x := fun x hx => by rw [g2, ups, if_neg hx]
      exact ih (i + 1) F1 (py9 c) (by omega) (by rw [e93 1 (by decide), hb]) (sr_py hn hS g1 g2 g3) (fun F' i' k1 k2 k3 => h F' i' k1 (fun x hx => by rw [k2 x hx, e93 x hx]) (fun b hb hb2 => by rw [k3 b hb hb2, g3 b hb2 hb]))
theorem sp167 {n p : Nat} {c h : Nat → Int32} {F : ip_F} (hn6 : n ≤ 6) (hT : RdM T b F) (hp : p ≤ T) (h6 : F 193 16 = Int32.ofNat p) (hS : rd_MS n c h F)
    (h1 : ∀ q, rd_end T b 4 (rd_nums T b n 4 (rd_m 4) 0 p (fun _ => 0)) = .inl q → ∀ F', F' 193 16 = Int32.ofNat q → rd_G F F' → Q (some (.int 0)) (hs t, F', G))
    (h2 : ∀ w' q, rd_end T b 4 (rd_nums T b n 4 (rd_m 4) 0 p (fun _ => 0)) = .inr (4, w', q) → ∀ F', F' 193 16 = Int32.ofNat q → rd_G F F' → rd_MS n (rd_ac 4 w' c) (rd_ah 4 w' h) F' → Q (some (.int 1)) (hs t, F', G)) :
    wp 167 0 [.ref 193, .float 0, .float 0] [] (hs t, F, G) Q := by
  have h150 := hT.1
  refine rg167_0 (sp162 (lo := 1) (hi := 99) hT hp h6 (by omega) (by omega) (fun q0 F1 a1 a2 => ?_) (fun q0 F1 a1 a2 a3 => ?_))
  · exact rg167_7 ⟨fun q => absurd rfl q, fun _ => h1 _ (by rw [show rd_m 4 = 0 + 1 from rfl, rd_nf (show ¬ rd_ok T b n 4 0 _ = true from q0)]; rfl) F1 a1 (rd_FG a2)⟩
  have r0 := rd_rgi.mp (rd_okli.mp q0).2
  rw [show rd_m 4 = 0 + 1 from rfl, rd_ns (show rd_ok T b n 4 0 _ = true from q0)] at h1 h2
  have g1 := (rd_feb (b := b) (rd_skb (b := b) hp).2).2
  generalize rd_nm b (rd_sk T b p) (rd_fe T b (rd_sk T b p)) = v0 at *
  generalize rd_fe T b (rd_sk T b p) = p1 at *
  refine rg167_7 ⟨fun _ => ?_, fun q => absurd q (by decide)⟩
  rw [a1]
  refine sp167_19 (N := v0) (n := n) (by omega) hn6 v0 0 F1 c (by omega) (by rw [a3.1 1 (by decide) (by decide), hS.1]) (by rw [rd_Fmr a3]; exact hS.2.1) (fun F2 i' k1 k2 k3 => rg167_44 ?_)
  have e2 : rd_G F F2 := rd_Gt (rd_FG a3) ⟨fun x h1 _ _ => k2 x h1, fun a ha hb => k3 a ha (by omega)⟩
  refine sp163 (k := 4) (w := fun i => if i = 0 then v0 else 0) (rd_Gm hT e2) g1 (by rw [k2 16 (by decide), a2]) (fun q hq F' j1 j2 => rg167_48 ⟨rfl, h1 q hq F' j1 (rd_Gt e2 (rd_FG j2))⟩) (fun q hq F' j1 j2 => rg167_48 ⟨rfl, h2 _ q hq F' j1 (rd_Gt e2 (rd_FG j2)) ⟨?_, ?_, fun i hi => ?_⟩⟩)
  · rw [(rd_Gt e2 (rd_FG j2)).1 1 (by decide) (by decide) (by decide), hS.1]
  · rw [rd_Fmr j2]
    exact k1
  · rw [j2.2 195 (by decide), k3 195 (by decide) (by decide), a3.2 195 (by decide), hS.2.2 i hi]
    rfl
end ITE
