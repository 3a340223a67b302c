/-! ===== what is asked of the ropes and the peal as they stand ===== -/
theorem bt_get : ∀ (a : Fin 64) (r : Fin 6), (Int32.ofNat a >>> (Int32.ofNat r &&& 31)) &&& 1 = if a.val.testBit r = true then 1 else 0 := by decide +kernel
def rf9 (c : Nat → Int32) (r w : Nat) : Int32 := if w = 0 then c r else if w = 1 then c (6 + r) else if w = 2 then c (12 + r) else if w = 3 then c (18 + r) else bz (mks c r = true)
theorem rf_eq {n r w : Nat} {c c' : Nat → Int32} (hn : n ≤ 6) (hr : r < n) (h : SR9 n c c') : rf9 c r w = rf9 c' r w := by
  unfold rf9
  rw [h r (by omega), h (6 + r) (by omega), h (12 + r) (by omega), h (18 + r) (by omega), sr_mks hn h hr]
theorem kd_of {n : Nat} {F : ip_F} (hn : n ≤ 6) (h : NP9 n F) : ∀ r, r < n → kd9 (F 198 r) := by
  intro r hr
  rw [← mr_12 (F := F) (by omega), ← h.1 (12 + r) (by omega)]
  exact h.2.2 r (by omega)
theorem kw_m {n : Nat} {F : ip_F} (hn : n ≤ 6) (h : NP9 n F) : KW9 n (mr9 F) := sr_kw hn h.1 (wr_kw hn h.2)
theorem npl_q {x : Nat} (h : nqc x) : npl x := by
  unfold nqc at h
  unfold npl nmn nmr
  omega
section SP
variable {t : Nat} {F F' : ip_F} {G : ip_G} {Q : Option Value → ip_M → Prop} {n : Nat}
theorem sp136 {r w : Nat} (hr : r < 6) (hw : w ≤ 4) (h : Q (some (.int (rf9 (F 4) r w))) (hs t, F, G)) : wp 136 0 [.ref 0, .int (Int32.ofNat r), .int (Int32.ofNat w)] [] (hs t, F, G) Q := by
  match w, hw with
  | 0, _ => exact rg136_0 ⟨fun _ => sp66 (ok7_3 t) hr (rg136_43 h), fun q => absurd q (by decide), fun q => absurd q (by decide), fun q => absurd q (by decide), fun q => absurd rfl q.1⟩
  | 1, _ => exact rg136_0 ⟨fun q => absurd q (by decide), fun _ => sp67 (ok7_3 t) hr (rg136_55 h), fun q => absurd q (by decide), fun q => absurd q (by decide), fun q => absurd rfl q.2.1⟩
  | 2, _ => exact rg136_0 ⟨fun q => absurd q (by decide), fun q => absurd q (by decide), fun _ => sp68 (ok7_3 t) hr (rg136_67 h), fun q => absurd q (by decide), fun q => absurd rfl q.2.2.1⟩
  | 3, _ => exact rg136_0 ⟨fun q => absurd q (by decide), fun q => absurd q (by decide), fun q => absurd q (by decide), fun _ => sp69 (ok7_3 t) hr (rg136_79 h), fun q => absurd rfl q.2.2.2⟩
  | 4, _ =>
    refine rg136_0 ⟨fun q => absurd q (by decide), fun q => absurd q (by decide), fun q => absurd q (by decide), fun q => absurd q (by decide), fun _ => sp77 (ok7_3 t) hr (rg136_91 ⟨fun e => ?_, fun e => ?_⟩)⟩
    · rw [bz_0] at e
      have h : Q (some (.int (bz (mks (F 4) r = true)))) (hs t, F, G) := h
      rwa [bz_f e] at h
    · rw [bz_n0] at e
      have h : Q (some (.int (bz (mks (F 4) r = true)))) (hs t, F, G) := h
      rwa [bz_t e] at h
theorem sp196 {r w : Nat} (hn : n ≤ 6) (hb : F 193 1 = Int32.ofNat n) (hk : ∀ r, r < n → kd9 (F 198 r)) (hr : r < n) (hw : w ≤ 4) (h : Q (some (.int (rf9 (mr9 F) r w))) (hs t, F, G)) : wp 196 0 [.ref 193, .int (Int32.ofNat r), .int (Int32.ofNat w)] [] (hs t, F, G) Q := by
  have hv : vp_in (Int32.ofNat r) 6 := (nn_in (by omega)).mpr (by omega)
  match w, hw with
  | 0, _ =>
    refine rg196_0 ⟨fun q => absurd rfl q, fun _ => ⟨hv, ?_⟩⟩
    rw [nn_clamp (by omega), ← mr_0 (F := F) (by omega)]
    exact h
  | 1, _ =>
    refine rg196_0 ⟨fun _ => ⟨fun q => absurd rfl q, fun _ => ⟨hv, ?_⟩⟩, fun q => absurd q (by decide)⟩
    rw [nn_clamp (by omega), ← mr_6 (F := F) (by omega)]
    exact h
  | 2, _ =>
    refine rg196_0 ⟨fun _ => ⟨fun _ => ⟨fun q => absurd rfl q, fun _ => ⟨hv, ?_⟩⟩, fun q => absurd q (by decide)⟩, fun q => absurd q (by decide)⟩
    rw [nn_clamp (by omega), ← mr_12 (F := F) (by omega)]
    exact h
  | 3, _ =>
    refine rg196_0 ⟨fun _ => ⟨fun _ => ⟨fun _ => ⟨fun q => absurd rfl q, fun _ => ⟨hv, ?_⟩⟩, fun q => absurd q (by decide)⟩, fun q => absurd q (by decide)⟩, fun q => absurd q (by decide)⟩
    rw [nn_clamp (by omega), ← mr_18 (F := F) (by omega)]
    exact h
  | 4, _ =>
    refine rg196_0 ⟨fun _ => ⟨fun _ => ⟨fun _ => ⟨fun _ => sp175 hn hb hk (rg196_59 ?_), fun q => absurd q (by decide)⟩, fun q => absurd q (by decide)⟩, fun q => absurd q (by decide)⟩, fun q => absurd q (by decide)⟩
    rw [bt_get ⟨_, bf_lt _ n hn⟩ ⟨r, by omega⟩]
    have e := bf_testBit (mks (mr9 F)) n hn r
    rw [decide_eq_true hr, Bool.true_and] at e
    rw [e]
    exact h
theorem pr_of {a b : Int32} (hI : INV t F G) : wp 102 0 [.ref 0, .int a, .int b] [] (hs t, F, G) (fun v M => wp 197 0 [.ref 193, .int a, .int b] [] M (ENi v)) := by
  obtain ⟨n, ⟨h4, h6, b1, b2, b3⟩, hP, -⟩ := hI.2.1
  refine ck102 (by omega) b1 (fun ha hb => ?_) (fun hn => ?_)
  · obtain ⟨r, hr, rfl⟩ := ir_of (by omega) h6 ha
    obtain ⟨w, hw, rfl⟩ := nn_bet (b := 4) (by omega) hb.1 hb.2
    refine rg102_14 ⟨fun _ => sp136 (by omega) hw (rg102_30 ?_), fun q => absurd q (by decide)⟩
    refine ck197 (by omega) b2 (fun _ _ => ?_) (fun hn => absurd ⟨ha, hb⟩ hn)
    exact rg197_14 ⟨fun q => absurd q (by decide), fun _ => sp196 h6 b2 (kd_of h6 hP) hr hw (rg197_23 (rg197_30 (en_i hI (rf_eq h6 hr hP.1))))⟩
  · exact ck197 (by omega) (by rw [u_n (by decide), b2]) (fun ha hb => absurd ⟨ha, hb⟩ hn) (fun _ => en_bad hI)
theorem pr_row {a b : Int32} (hI : INV t F G) : wp 103 0 [.ref 0, .int a, .int b, .float 0] [] (hs t, F, G) (fun v M => wp 198 0 [.ref 193, .int a, .int b] [] M (ENi v)) := by
  obtain ⟨n, ⟨h4, h6, b1, b2, b3⟩, hP, -⟩ := hI.2.1
  refine ck103 (fun ha hb => ?_) (fun hn => ?_)
  · obtain ⟨k, hk, rfl⟩ := nn_bet (b := 11) (by omega) ha.1 ha.2
    obtain ⟨w, hw, rfl⟩ := nn_bet (b := 1) (by omega) hb.1 hb.2
    have hv : vp_in (Int32.ofNat k) 12 := (nn_in (by omega)).mpr (by omega)
    refine rg103_16 ⟨fun _ => sp135 h4 h6 (wr_kw h6 hP.2) b1 rfl rfl (fun F1 hPl hf => ?_), fun q => absurd q (by decide)⟩
    have e : ∀ x, nqc x → F1 x = F x := fun x hx => hf x (npl_q hx)
    have m1 : mr9 F1 = mr9 F := mr_fr (by rw [e 193 (by decide)]) (e 196 (by decide)) (e 197 (by decide)) (e 198 (by decide)) (e 199 (by decide))
    match w, hw with
    | 0, _ =>
      refine rg103_30 ⟨fun q => absurd rfl q, fun _ => ⟨hv, ?_⟩⟩
      refine ck198 (fun _ _ => ?_) (fun hn => absurd ⟨ha, hb⟩ hn)
      refine rg198_16 ⟨fun _ => ⟨fun q => absurd rfl q, fun _ => sp181 h4 h6 (by omega) (by rw [e 193 (by decide), b2]) rfl (fun F2 hf2 => rg198_33 (rg198_45 (en_i (inv_fr hI (fun x h1 h2 => by rw [hf2 x h2.1, e x h1])) ?_)))⟩, fun q => absurd q (by decide)⟩
      rw [nn_clamp (by omega), hPl.2.1 k (by omega), e 195 (by decide), gm_congr b3]
      rfl
    | 1, _ =>
      refine rg103_30 ⟨fun _ => ⟨hv, ?_⟩, fun q => absurd q (by decide)⟩
      refine ck198 (fun _ _ => ?_) (fun hn => absurd ⟨ha, hb⟩ hn)
      refine rg198_16 ⟨fun _ => ⟨fun _ => sp175 h6 (by rw [e 193 (by decide), b2]) (fun r hr => by rw [e 198 (by decide)]; exact kd_of h6 hP r hr) (rg198_42 ?_), fun q => absurd q (by decide)⟩, fun q => absurd q (by decide)⟩
      refine sp182 (ch := F 195) (c := mr9 F) h4 h6 (by omega) (bf_lt _ n h6) (kw_m h6 hP) (by rw [e 193 (by decide), b2]) (e 195 (by decide)) m1 (fun F2 hf2 => rg198_45 (en_i (inv_fr hI (fun x h1 h2 => by rw [hf2 x h2.1, e x h1])) ?_))
      rw [nn_clamp (by omega), hPl.2.2 k (by omega), md_eq h6 hP.2 hP.1, m1, gn_congr h6 b3 hP.1]
      rfl
  · exact ck198 (fun ha hb => absurd ⟨ha, hb⟩ hn) (fun _ => en_bad hI)
/-- the first repeat, or what it repeats -/
def rp9 (g : Nat → Int32) (w : Nat) : Option Nat → Int32
  | none => -1
  | some r => if w = 0 then Int32.ofNat r else en9 (er9 g r)
theorem rp_congr {g g' : Nat → Int32} {w : Nat} (h : ∀ x, x < 12 → g x = g' x) : rp9 g w (fr9 g) = rp9 g' w (fr9 g') := by
  rw [fr_agree h]
  cases e : fr9 g' with
  | none => rfl
  | some r => rw [rp9, rp9, er_agree h (fr_lt e).2]
theorem sp29m (h : Q (some (.int (-1))) (hs t, F, G)) : wp 29 0 [.ref 89, .int (-1), .float 0] [] (hs t, F, G) Q := rg29_0 (rg29_2 ⟨fun _ => h, fun q => absurd q (by decide)⟩)
theorem sp199_24 {w : Nat} (hw : w ≤ 1) : ∀ d k, k + d = 12 → Q (some (.int (rp9 (F 206) w (frL (F 206) d k)))) (hs t, F, G) → wp 199 24 [.ref 193, .int (Int32.ofNat w), .int (Int32.ofNat k)] [] (hs t, F, G) Q := by
  intro d
  induction d with
  | zero =>
    intro k hk h
    obtain rfl : k = 12 := by omega
    exact rg199_24 ⟨fun _ => rg199_45 ⟨fun q => absurd rfl q, fun _ => rg199_68 h⟩, fun q => absurd q (by decide)⟩
  | succ d ih =>
    intro k hk h
    rw [frL] at h
    refine rg199_24 ⟨fun q => ?_, fun _ => sp184 (by omega) (rg199_35 ⟨fun e => rg199_45 ⟨fun _ => ?_, fun q => ?_⟩, fun e => ?_⟩)⟩
    · (simp (disch := omega) only [nn_lit, nn_m1, nn_add, nn_mul, nn_rem, nn_sub, nn_addm1, nn_lt, nn_le, nn_eq, nn_clamp, nn_in, nn_nem1, nn_m1ne, nn_ltm1, nn_m1lt, nn_m1le, nn_lem1, bz_0, bz_n0, not_false_eq_true, not_true_eq_false, true_and, and_true, false_and, and_false, false_implies, true_implies, forall_const, Nat.reduceMul, Nat.reduceAdd, Nat.reduceSub] at q <;> try simp only [nn_bk] at q)
      omega
    · rw [er_m1 (by omega)] at e
      rw [if_neg e] at h
      match w, hw with
      | 0, _ => exact ⟨fun q => absurd rfl q, fun _ => rg199_68 h⟩
      | 1, _ => exact ⟨fun _ => sp184 (by omega) (rg199_68 h), fun q => absurd q (by decide)⟩
    · exact absurd ((nn_eq (b := 12) (by omega) (by omega)).mp q) (by omega)
    · rw [er_m1 (by omega)] at e
      rw [if_pos e] at h
      rw [show Int32.ofNat k + 1 = Int32.ofNat (k + 1) from nn_add k 1]
      exact ih (k + 1) (by omega) h
theorem pr_repeats {a : Int32} (hI : INV t F G) : wp 104 0 [.ref 0, .int a, .float 0, .float 0] [] (hs t, F, G) (fun v M => wp 199 0 [.ref 193, .int a, .float 0] [] M (ENi v)) := by
  obtain ⟨n, ⟨h4, h6, b1, b2, b3⟩, hP, -⟩ := hI.2.1
  refine ck104 (fun ha => ?_) (fun hn => ?_)
  · obtain ⟨w, hw, rfl⟩ := nn_bet (b := 1) (by omega) ha.1 ha.2
    refine rg104_6 ⟨fun _ => sp135 h4 h6 (wr_kw h6 hP.2) b1 rfl rfl (fun F1 hPl hf => rg104_20 (sp30 ?_)), fun q => absurd q (by decide)⟩
    have e : ∀ x, nqc x → F1 x = F x := fun x hx => hf x (npl_q hx)
    have m1 : mr9 F1 = mr9 F := mr_fr (by rw [e 193 (by decide)]) (e 196 (by decide)) (e 197 (by decide)) (e 198 (by decide)) (e 199 (by decide))
    have key : wp 104 39 [.ref 0, .int (Int32.ofNat w), .ref 89, .int (en9 (fr9 (F1 117)))] [.int (rp9 (F1 117) w (fr9 (F1 117)))] (hs t, F1, G) (fun v M => wp 199 0 [.ref 193, .int (Int32.ofNat w), .float 0] [] M (ENi v)) := by
      refine rg104_39 ?_
      refine ck199 (fun _ => ?_) (fun hn => absurd ha hn)
      refine rg199_6 ⟨fun _ => sp175 h6 (by rw [e 193 (by decide), b2]) (fun r hr => by rw [e 198 (by decide)]; exact kd_of h6 hP r hr) (rg199_19 ?_), fun q => absurd q (by decide)⟩
      refine sp183 (ch := F 195) (c := mr9 F) h4 h6 (bf_lt _ n h6) (kw_m h6 hP) (by rw [e 193 (by decide), b2]) (e 195 (by decide)) m1 (fun F2 g1 hf2 => rg199_22 (sp199_24 hw 11 1 rfl (en_i (inv_fr hI (fun x h1 h2 => by rw [hf2 x ⟨h2.1, h2.2.1⟩, e x h1])) ?_)))
      rw [show frL (F2 206) 11 1 = fr9 (F2 206) from rfl]
      refine rp_congr (fun x hx => ?_)
      rw [hPl.2.2 x hx, g1 x hx, md_eq h6 hP.2 hP.1, m1, gn_congr h6 b3 hP.1]
      rfl
    refine rg104_25 ⟨fun q => ?_, fun q => ?_⟩
    · match w, hw with
      | 0, _ => exact absurd rfl q
      | 1, _ =>
        cases e5 : fr9 (F1 117) with
        | none =>
          rw [e5] at key
          exact sp29m key
        | some r =>
          rw [e5] at key
          exact sp29 (fr_lt e5).2 key
    · match w, hw with
      | 0, _ =>
        have : rp9 (F1 117) 0 (fr9 (F1 117)) = en9 (fr9 (F1 117)) := by cases fr9 (F1 117) <;> rfl
        rw [this] at key
        exact key
      | 1, _ => exact absurd q (by decide)
  · exact ck199 (fun ha => absurd ha hn) (fun _ => en_bad hI)
theorem pr_clean (hI : INV t F G) : wp 109 0 [.ref 0] [] (hs t, F, G) (fun v M => wp 204 0 [.ref 193] [] M (ENi v)) := by
  obtain ⟨n, ⟨h4, h6, b1, b2, b3⟩, hP, -⟩ := hI.2.1
  refine rg109_0 (sp79 (ok7_3 t) (rg109_21 ?_))
  refine rg204_0 (sp175 h6 b2 (kd_of h6 hP) (rg204_12 (en_i hI ?_)))
  rw [b1, b2, show F (3 + 1) = F 4 from rfl, md_eq h6 hP.2 hP.1]
end SP
