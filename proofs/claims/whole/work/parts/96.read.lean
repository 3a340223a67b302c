/-! ===== read ===== -/
theorem rd_itemr {T : Nat} {b : Nat → Nat} {n f p k q : Nat} {w : Nat → Nat} (h : rd_item T b n f p = .inr (k, w, q)) : 1 ≤ q := by
  rw [rd_item] at h
  split at h
  · revert h
    cases e : rd_nums T b n (rd_kd T b (rd_sk T b p)) (rd_m (rd_kd T b (rd_sk T b p))) 0 (rd_we T b (rd_sk T b p)) (fun _ => 0) with
    | inl q' =>
      intro h
      cases h
    | inr x =>
      obtain ⟨w', q'⟩ := x
      intro h
      rw [rd_end] at h
      split at h
      · cases h
        omega
      · cases h
  · cases h
theorem rd_qn : ∀ q a : Fin 151, ¬ (-10 - Int32.ofNat q.val) = Int32.ofNat a.val := by decide +kernel
theorem wr_new {n : Nat} {c : Nat → Int32} (h : ∀ i, i < 25 → c i = if i < 12 then -1 else 0) : WR9 n c := by
  refine ⟨fun r hr => Or.inl ⟨?_, ?_⟩, fun r hr => ?_⟩
  · rw [h r (by omega), if_pos (by omega)]
  · rw [h (6 + r) (by omega), if_pos (by omega)]
  · rw [h (12 + r) (by omega), if_neg (by omega)]
    exact ⟨0, by decide, rfl⟩
section READ
variable {G : ip_G} {Q : Option Value → ip_M → Prop} {T : Nat} {b : Nat → Nat} {t : Nat}
theorem sp170A {F : ip_F} {q : Nat} (hT : RdM T b F) (hq : rd_item T b 5 1 0 = .inl q) (h : ∀ F', F' 193 16 = Int32.ofNat q → rd_H F F' → Q (some (.int (-1))) (hs t, F', G)) : wp 170 0 [.ref 193, .float 0] [] (hs t, F, G) Q := by
  have f := rd_Fu (F := F) (x := 16) (v := 0) (Or.inl rfl)
  refine rg170_0 (sp169 (n := 5) (rd_Fm hT f) (by rw [u_s, if_pos rfl]; rfl) (fun q' hq' F' k1 k2 => rg170_9 ⟨fun z => absurd rfl z, fun _ => ?_⟩) (fun w q' hq' _ _ F' _ _ _ _ _ _ _ _ => ?_))
  · rw [hq] at hq'
    cases hq'
    exact h F' k1 (rd_Ht (rd_GH (rd_FG f)) k2)
  · rw [hq] at hq'
    cases hq'
theorem sp170B {F : ip_F} {q : Nat} {w : Nat → Nat} {its : List (Nat × (Nat → Nat))} {z : Int32} {c : Nat → Int32} (hT : RdM T b F) (hq : rd_item T b 5 1 0 = .inr (0, w, q)) (hqT : q ≤ T) (h4 : 4 ≤ w 0) (h6 : w 0 ≤ 6) (hr : rd_run T b (w 0) its q 1 z) (hc : ∀ i, i < 25 → c i = if i < 12 then -1 else 0)
    (h1 : ∀ q' F', z = -10 - Int32.ofNat q' → q' ≤ T → F' 193 16 = Int32.ofNat q' → rd_H F F' → Q (some (.int (-1))) (hs t, F', G))
    (h2 : ∀ a' F', z = Int32.ofNat a' → a' ≤ 150 → rd_H F F' → rd_MS (w 0) (rd_fc its c) (rd_fh its (fun _ => 0)) F' → F' 193 3 = 0 → F' 193 4 = 0 → F' 193 5 = 0 → Q (some (.int z)) (hs t, F', G)) : wp 170 0 [.ref 193, .float 0] [] (hs t, F, G) Q := by
  have f := rd_Fu (F := F) (x := 16) (v := 0) (Or.inl rfl)
  have h1q := rd_itemr hq
  refine rg170_0 (sp169 (n := 5) (rd_Fm hT f) (by rw [u_s, if_pos rfl]; rfl) (fun q' hq' F' k1 k2 => ?_) (fun w' q' hq' _ _ F1 a1 a2 a3 a4 a5 a6 a7 a8 => rg170_9 ⟨fun _ => ?_, fun z => absurd z (by decide)⟩))
  · rw [hq] at hq'
    cases hq'
  · rw [hq] at hq'
    cases hq'
    have e1 : rd_H F F1 := rd_Ht (rd_GH (rd_FG f)) a2
    refine sp156 (T - q) q F1 (by omega) (rd_Hm hT e1) a1 (fun F2 b1 b2 => ?_)
    have e2 : rd_H F F2 := rd_Ht e1 (rd_GH (rd_FG b2))
    have hS : rd_MS (w 0) c (fun _ => 0) F2 := ⟨by rw [b2.1 1 (by decide) (by decide), a3], fun i hi => by rw [hc i (by omega), rd_Fmr b2, a8 i (by omega)], fun i hi => by rw [b2.2 195 (by decide), a7 i hi]⟩
    refine sp170_20 (n := w 0) (by omega) h6 its q 1 z c (fun _ => 0) F2 hr (rd_Hm hT e2) hqT (by omega) h1q b1 hS (fun a' F3 d1 d2 d3 d4 => h2 a' F3 d1 d2 (rd_Ht e2 (rd_GH d3)) d4 ?_ ?_ ?_) (fun q' F3 d1 d2 d3 d4 => h1 q' F3 d1 d2 d3 (rd_Ht e2 (rd_GH d4)))
    · rw [d3.1 3 (by decide) (by decide) (by decide), b2.1 3 (by decide) (by decide), a4]
    · rw [d3.1 4 (by decide) (by decide) (by decide), b2.1 4 (by decide) (by decide), a5]
    · rw [d3.1 5 (by decide) (by decide) (by decide), b2.1 5 (by decide) (by decide), a6]
theorem rd_bad {n q : Nat} {F F1 F2 F3 : ip_F} (hI : INV 62 F G) (hN : NR9 n F) (f1 : ∀ x, x < 64 ∨ 88 < x → F1 x = F x) (hL : LI9 F1 204 0 286 F2) (h3 : rd_H F2 F3) (h6 : F3 193 16 = Int32.ofNat q) :
    wp 171 13 [.ref 193, .float 0] [.int (-1)] (hs 62, F3, G) (ENi (some (.int (-10 - Int32.ofNat q)))) := by
  refine rg171_13 ⟨fun z => absurd z (by decide), fun _ => sp228 (a := 204) (n1 := 300) (p := 0) rfl (by omega) (by omega) (by omega) (fun F4 g1 g2 g3 => rg171_27 ?_)⟩
  have e : ∀ x, x ≠ 193 → (x < 195 ∨ 202 < x) → x ≠ 207 → x ≠ 204 → x < 64 ∨ 88 < x → F4 x = F x := fun x y1 y2 y3 y4 y5 => by rw [g3 x y1 y2 y3, h3.2 x y1 (by omega), hL.2.2 x y4, f1 x y5]
  refine en_i (inv_nw (n := n) hI (fun x hx => e x (by omega) (by omega) (by omega) (by omega) (by omega)) ?_ (tr_nr (tr_fr (nr_tr hN) (fun x x1 x2 => e x (by omega) (by omega) (by omega) (by omega) (by omega)) (fun x hx => ?_)))) ?_
  · rw [g2 15 (by omega) (by omega), h3.1 15 (by omega) (by omega) (by omega) (by omega), hL.2.2 193 (by omega), f1 193 (by omega)]
  · rw [g1 x hx, h3.2 204 (by omega) (by omega), hL.1 x hx]
    exact congrFun (lv_fr (fun y hy => f1 y (by omega))) x
  · rw [g2 16 (by omega) (by omega), h6]
theorem pr_read {F : ip_F} (hI : INV t F G) : wp 96 0 [.ref 0, .float 0] [] (hs t, F, G) (fun v M => wp 171 0 [.ref 193, .float 0] [] M (ENi v)) := by
  have hI' : INV 62 F G := ⟨Or.inr rfl, hI.2⟩
  obtain ⟨n, hN⟩ := hI.2.1
  obtain ⟨T, hT, x1, x2, x3⟩ := hI.2.2.2.2.1
  have hC : RdC T (fun j => (F 63 j).toNatClampNeg) F := ⟨hT, x1, fun j hj => by
    obtain ⟨b', h1, h2, h3⟩ := x3 j hj
    simp only [h2]
    rw [nn_clamp (by omega)]
    exact ⟨h1, rfl⟩⟩
  have hM : RdM T (fun j => (F 63 j).toNatClampNeg) F := ⟨hT, x2, fun j hj => by
    obtain ⟨b', h1, h2, h3⟩ := x3 j hj
    simp only [h2, h3]
    rw [nn_clamp (by omega)]
    exact ⟨h1, rfl⟩⟩
  generalize (fun j => (F 63 j).toNatClampNeg) = b at hC hM
  have mfr : ∀ F1 : ip_F, (∀ x, x < 64 ∨ 88 < x → F1 x = F x) → RdM T b F1 := fun F1 f1 => by
    unfold RdM
    rw [f1 193 (by omega), f1 203 (by omega)]
    exact hM
  have lfr : ∀ F1 F2 : ip_F, RdM T b F1 → LI9 F1 204 0 286 F2 → RdM T b F2 := fun F1 F2 h hL => by
    unfold RdM
    rw [hL.2.2 193 (by omega), hL.2.2 203 (by omega)]
    exact h
  have neg : ∀ q, q ≤ T → (-10 - Int32.ofNat q) ≤ 0 := fun q hq => rd_q0 ⟨q, by omega⟩
  refine rg96_0 (sp35 hC (fun q F1 hq hqT f1 => ?_) (fun w q its z c F1 hq hqT h4 h6 hr hc e68 e66 e65 e69 e79 e81 e83 f1 => ?_))
  · refine rg96_11 ⟨fun _ => rg96_30 ?_, fun z => absurd (neg q hqT) (Int32.not_le.mpr z)⟩
    refine rg171_0 (sp227 (a := 204) (n1 := 300) (p := 0) rfl (by omega) (by omega) (by omega) (fun F2 hL => rg171_9 ?_))
    exact sp170A (lfr F1 F2 (mfr F1 f1) hL) hq (fun F3 d1 d2 => rd_bad hI' hN f1 hL d2 d1)
  · have h1q := rd_itemr hq
    rcases rd_runz hT its q 1 z hr (by omega) h1q hqT with ⟨a', ha1, ha2, rfl⟩ | ⟨q', hq', rfl⟩
    · refine rg96_11 ⟨fun y => ?_, fun _ => sp90 (ok10_1 62) (ok10_65 62) (Or.inl (by omega)) (fun F2 g6 g1 g3 g4 g5 g14 g15 g16 g17 g18 g19 gf => rg96_30 ?_)⟩
      · have := (nn_le (b := 0) (by omega) (by omega)).mp y
        omega
      have f2 : ∀ x, (20 < x ∧ x < 64) ∨ 88 < x → F2 x = F x := fun x hx => by rw [gf x (by omega), f1 x (by omega)]
      have hM2 : RdM T b F2 := by
        unfold RdM
        rw [f2 193 (by omega), f2 203 (by omega)]
        exact hM
      refine rg171_0 (sp227 (a := 204) (n1 := 300) (p := 0) rfl (by omega) (by omega) (by omega) (fun F3 hL => rg171_9 ?_))
      refine sp170B (lfr F2 F3 hM2 hL) hq hqT h4 h6 hr hc (fun q' F4 d1 d2 d3 d4 => ?_) (fun a'' F4 d1 d2 d3 d4 d5 d6 d7 => rg171_13 ⟨fun _ => en_i ?_ rfl, fun y => ?_⟩)
      · exfalso
        have := neg q' d2
        rw [← d1] at this
        have := (nn_le (b := 0) (by omega) (by omega)).mp this
        omega
      · have e4 : ∀ x, x ≠ 193 → (x < 195 ∨ 199 < x) → x ≠ 204 → ip_u F4 193 22 0 x = F2 x := fun x y1 y2 y3 => by rw [u_n y1, d3.2 x y1 y2, hL.2.2 x y3]
        have e93 : ∀ x, x ≠ 22 → ip_u F4 193 22 0 193 x = F4 193 x := fun x hx => by rw [u_s, if_neg hx]
        have em : mr9 (ip_u F4 193 22 0) = mr9 F4 := mr_fr (e93 2 (by decide)) (u_n (by decide)) (u_n (by decide)) (u_n (by decide)) (u_n (by decide))
        obtain ⟨m1, m2, m3⟩ := d4
        have c4 : ∀ x, x < 25 → ip_u F4 193 22 0 4 x = rd_fc its c x := fun x hx => by rw [e4 4 (by omega) (by omega) (by omega), ← e68]; exact g3 x hx
        refine inv_nw (n := w 0) hI' (fun x hx => ?_) ?_ ⟨⟨h4, h6, ?_, ?_, fun i hi => ?_⟩, ⟨?_, ?_⟩, ⟨0, by omega, ?_, by rw [u_s, if_pos rfl]; rfl, fun j hj => absurd hj (by omega)⟩, ⟨0, by omega, ?_, ?_, fun j hj => absurd hj (by omega)⟩, ⟨0, by omega, ?_, ?_, fun j hj => absurd hj (by omega)⟩, 0, by omega, ?_, ?_, fun j hj => absurd hj (by omega)⟩
        · rw [e4 x (by omega) (by omega) (by omega), f2 x (by omega)]
        · rw [e93 15 (by decide), d3.1 15 (by omega) (by omega) (by omega) (by omega), hL.2.2 193 (by omega), f2 193 (by omega)]
        · rw [e4 1 (by omega) (by omega) (by omega), g6, e65]
        · rw [e93 1 (by decide), m1]
        · rw [e4 2 (by omega) (by omega) (by omega), u_n (by decide), m3 i hi, ← e66 i hi]
          exact g1 i hi
        · rw [em]
          intro i hi
          rw [c4 i (by omega)]
          exact m2 i hi
        · exact wr_congr (rd_wr (by omega) h6 its q 1 _ c hr (wr_new hc)) c4
        · rw [e4 5 (by omega) (by omega) (by omega)]
          exact g4.trans e69
        · rw [e4 15 (by omega) (by omega) (by omega)]
          exact g14.trans e79
        · rw [e93 3 (by decide), d5]
          rfl
        · rw [e4 17 (by omega) (by omega) (by omega)]
          exact g16.trans e81
        · rw [e93 4 (by decide), d6]
          rfl
        · rw [e4 19 (by omega) (by omega) (by omega)]
          exact g18.trans e83
        · rw [e93 5 (by decide), d7]
          rfl
      · exfalso
        have := (nn_lt (b := 0) (by omega) (by omega)).mp y
        omega
    · refine rg96_11 ⟨fun _ => rg96_30 ?_, fun z => absurd (neg q' hq') (Int32.not_le.mpr z)⟩
      refine rg171_0 (sp227 (a := 204) (n1 := 300) (p := 0) rfl (by omega) (by omega) (by omega) (fun F2 hL => rg171_9 ?_))
      refine sp170B (lfr F1 F2 (mfr F1 f1) hL) hq hqT h4 h6 hr hc (fun q'' F3 d1 d2 d3 d4 => ?_) (fun a' F3 d1 d2 d3 d4 d5 d6 d7 => ?_)
      · have := rd_bad hI' hN f1 hL d4 d3
        rw [← d1] at this
        exact this
      · exfalso
        exact rd_qn ⟨q', by omega⟩ ⟨a', by omega⟩ d1
end READ
