/-! ===== the law's loop, its start and its end ===== -/
theorem l5_le {L i : Nat} (hL : L ≤ 2560) (hi : i ≤ 2600) (h : ¬ Int32.ofNat L - 5 < Int32.ofNat i) : i + 5 ≤ L := by
  rcases Nat.lt_or_ge L 5 with h5 | h5
  · refine absurd ?_ h
    rw [Int32.lt_iff_toInt_lt, Int32.toInt_ofNat_of_lt (by omega : i < 2 ^ 31)]
    match L, h5 with
    | 0, _ => exact Int.lt_of_lt_of_le (show (Int32.ofNat 0 - 5).toInt < 0 by decide) (by omega)
    | 1, _ => exact Int.lt_of_lt_of_le (show (Int32.ofNat 1 - 5).toInt < 0 by decide) (by omega)
    | 2, _ => exact Int.lt_of_lt_of_le (show (Int32.ofNat 2 - 5).toInt < 0 by decide) (by omega)
    | 3, _ => exact Int.lt_of_lt_of_le (show (Int32.ofNat 3 - 5).toInt < 0 by decide) (by omega)
    | 4, _ => exact Int.lt_of_lt_of_le (show (Int32.ofNat 4 - 5).toInt < 0 by decide) (by omega)
  · rw [show (5 : Int32) = Int32.ofNat 5 from rfl, nn_sub h5, nn_lt (by omega) (by omega)] at h
    omega
theorem l63 (x : Int32) : ∃ k, k < 64 ∧ x &&& 63 = Int32.ofNat k := by
  refine ⟨(x &&& 63).toBitVec.toNat, ?_, ?_⟩
  · rw [Int32.toBitVec_and, BitVec.toNat_and]
    exact Nat.lt_of_le_of_lt Nat.and_le_right (by decide)
  · apply Int32.toBitVec_inj.mp
    rw [Int32.toBitVec_ofNat', BitVec.ofNat_toNat, BitVec.setWidth_eq]
def lw_off : Array Int := #[164, 187, 220, 243, 256, 269, 312, 335, 368, 391, 404, 437, 470, 493, 516, 529, 542, 555, 568, 601, 624, 637, 680, 733, 756, 779, 802, 825, 848, 881, 904, 937, 961, 984, 1007, 1030, 1053]
def lw_tgt (k : Nat) : Nat := if k < 37 then ([196, 219, 252, 275, 288, 301, 344, 367, 400, 423, 436, 469, 502, 525, 548, 561, 574, 587, 600, 633, 656, 669, 712, 765, 788, 811, 834, 857, 880, 913, 936, 969, 993, 1016, 1039, 1062, 1085] : List Nat).getD k 0 else 1099
theorem lw_sw : ∀ k, k < 64 → ip_sw 32 1067 0 36 lw_off (Int32.ofNat k) = some (lw_tgt k) := by decide +kernel
section LW
variable {L i : Nat} {xs : Nat → Int32} {pc pc' : Nat} {Lo Lo' S S' : List Value} {M M' : ip_M} {cs cs' : Nat × Nat} {t : Nat} {F : ip_F} {G : ip_G}
theorem wl_ret (hf : ip_fetch 0 pc = some (.ireturn, 1, 0)) : wl L xs pc Lo [.int 1] M lw_cs := by
  refine ⟨1, M, ?_⟩
  rw [ip_run, hf]
  rfl
theorem lw_end : wl L xs 1105 Lo [] M lw_cs := by
  obtain ⟨f0, f1⟩ : ip_fetch 0 1105 = some (.iconst 1, 1, 0) ∧ ip_fetch 0 1106 = some (.ireturn, 1, 0) := by decide +kernel
  refine wl_N (fun n => ?_) (wl_ret (M := M) (Lo := Lo) f1)
  rw [ip_run, f0]
  rfl
theorem lw_next (hk : wl L xs 18 (lwL (i + 5)) [] M cs) : wl L xs 1099 (lwL i) [] M cs := by
  obtain ⟨f0, f1⟩ : ip_fetch 0 1099 = some (.iinc 3 5, 3, 0) ∧ ip_fetch 0 1102 = some (.goto (-1084), 3, 18) := by decide +kernel
  have h1 : wl L xs 1102 (lwL (i + 5)) [] M cs := by
    refine wl_N (fun n => ?_) hk
    rw [ip_run, f1]
    rfl
  refine wl_N (fun n => ?_) h1
  rw [ip_run, f0]
  simp only [Option.bind_some, ip_ex]
  rw [show (lwL i)[3]? = some (.int (Int32.ofNat i)) from rfl]
  simp only
  rw [show Int32.ofNat i + Int32.ofInt 5 = Int32.ofNat (i + 5) from nn_add i 5]
  rfl
theorem lw_hd (hL : L ≤ 2560) (hi : i ≤ 2600) (hM : M.1.length ≤ 1000) (hk : i + 5 ≤ L → ∀ k, k < 64 → wl L xs (lw_tgt k) (lwL i) [] M lw_cs) : wl L xs 18 (lwL i) [] M lw_cs := by
  obtain ⟨f0, f1, f2, f3, f4, f5⟩ : ip_fetch 0 18 = some (.iload_n 3, 1, 0) ∧ ip_fetch 0 19 = some (.aload_n 0, 1, 0) ∧ ip_fetch 0 20 = some (.arraylength, 1, 0) ∧ ip_fetch 0 21 = some (.iconst (Int.ofNat 5), 1, 0) ∧ ip_fetch 0 22 = some (.isub, 1, 0) ∧ ip_fetch 0 23 = some (.if_icmp .gt 1082, 3, 1105) := by decide +kernel
  obtain ⟨g0, g1, g2, g3, g4, g5⟩ : ip_fetch 0 26 = some (.aload_n 0, 1, 0) ∧ ip_fetch 0 27 = some (.iload_n 3, 1, 0) ∧ ip_fetch 0 28 = some (.iaload, 1, 0) ∧ ip_fetch 0 29 = some (.bipush 63, 2, 0) ∧ ip_fetch 0 31 = some (.iand, 1, 0) ∧ ip_fetch 0 32 = some (.tableswitch 1067 0 36 lw_off, 164, 0) := by decide +kernel
  have e0 : M.1[ip_EX]? = none := List.getElem?_eq_none (Nat.le_trans hM (by decide))
  have h5 : i + 5 ≤ L → wl L xs 26 (lwL i) [] M lw_cs := by
    intro hL5
    obtain ⟨k, hk64, ek⟩ := l63 (xs i)
    refine wl_ld0 g0 (wl_ld3 g1 (wl_x g2 (by omega) hL hM ?_))
    have h32 : wl L xs 32 (lwL i) [.int (xs i &&& 63)] M lw_cs := by
      refine wl_N (fun n => ?_) (hk hL5 k hk64)
      rw [ip_run, g5]
      simp only [Option.bind_some, ip_ex]
      rw [ek, lw_sw k hk64]
      rfl
    have h31 : wl L xs 31 (lwL i) [.int 63, .int (xs i)] M lw_cs := by
      refine wl_N (fun n => ?_) h32
      rw [ip_run, g4]
      rfl
    refine wl_N (fun n => ?_) h31
    rw [ip_run, g3]
    rfl
  have h23 : wl L xs 23 (lwL i) [.int (Int32.ofNat L - 5), .int (Int32.ofNat i)] M lw_cs := by
    by_cases hc : Int32.ofNat L - 5 < Int32.ofNat i
    · refine wl_N (fun n => ?_) (lw_end (M := M) (Lo := lwL i))
      rw [ip_run, f5]
      simp only [Option.bind_some, ip_ex, ip_if]
      rw [if_pos (show ip_cmp (Int32.ofNat i) (Int32.ofNat L - 5) .gt from hc)]
    · refine wl_N (fun n => ?_) (h5 (l5_le hL hi hc))
      rw [ip_run, f5]
      simp only [Option.bind_some, ip_ex, ip_if]
      rw [if_neg (show ¬ ip_cmp (Int32.ofNat i) (Int32.ofNat L - 5) .gt from hc)]
  have h22 : wl L xs 22 (lwL i) [.int 5, .int (Int32.ofNat L), .int (Int32.ofNat i)] M lw_cs := by
    refine wl_N (fun n => ?_) h23
    rw [ip_run, f4]
    rfl
  have h20 : wl L xs 20 (lwL i) [.ref ip_EX, .int (Int32.ofNat i)] M lw_cs := by
    refine wl_N (fun n => ?_) (wl_ic f3 h22)
    rw [ip_run, f2]
    simp only [Option.bind_some, ip_ex, ip_len, e0]
    rfl
  exact wl_ld3 f0 (wl_ld0 f1 h20)
theorem lw_loop (hL : L ≤ 2560) (hrd : ∀ t F G, INV t F G → wp 96 0 [.ref 0, .float 0] [] (hs t, F, G) (fun v M => wp 171 0 [.ref 193, .float 0] [] M (ENi v))) : ∀ (d i t : Nat) (F : ip_F) (G : ip_G), i + d = 2600 → INV t F G → wl L xs 18 (lwL i) [] (hs t, F, G) lw_cs := by
  intro d
  induction d using Nat.strongRecOn with
  | _ d ih =>
  intro i t F G hd hI
  refine lw_hd hL (by omega) (lw_len t) (fun hi k hk => ?_)
  clear hk
  have hn : ∀ t F G, INV t F G → wl L xs 1099 (lwL i) [] (hs t, F, G) lw_cs := fun t F G hI => lw_next (ih (d - 5) (by omega) (i + 5) t F G (by omega) hI)
  match k with
  | 0 => exact lc_0 hL hi hI hn
  | 1 => exact lc_1 hL hi hI hn
  | 2 => exact lc_2 hL hi hI hn
  | 3 => exact lc_3 hL hi hI hn
  | 4 => exact lc_4 hL hi hI hrd hn
  | 5 => exact lc_5 hL hi hI hn
  | 6 => exact lc_6 hL hi hI hn
  | 7 => exact lc_7 hL hi hI hn
  | 8 => exact lc_8 hL hi hI hn
  | 9 => exact lc_9 hL hi hI hn
  | 10 => exact lc_10 hL hi hI hn
  | 11 => exact lc_11 hL hi hI hn
  | 12 => exact lc_12 hL hi hI hn
  | 13 => exact lc_13 hL hi hI hn
  | 14 => exact lc_14 hL hi hI hn
  | 15 => exact lc_15 hL hi hI hn
  | 16 => exact lc_16 hL hi hI hn
  | 17 => exact lc_17 hL hi hI hn
  | 18 => exact lc_18 hL hi hI hn
  | 19 => exact lc_19 hL hi hI hn
  | 20 => exact lc_20 hL hi hI hn
  | 21 => exact lc_21 hL hi hI hn
  | 22 => exact lc_22 hL hi hI hn
  | 23 => exact lc_23 hL hi hI hn
  | 24 => exact lc_24 hL hi hI hn
  | 25 => exact lc_25 hL hi hI hn
  | 26 => exact lc_26 hL hi hI hn
  | 27 => exact lc_27 hL hi hI hn
  | 28 => exact lc_28 hL hi hI hn
  | 29 => exact lc_29 hL hi hI hn
  | 30 => exact lc_30 hL hi hI hn
  | 31 => exact lc_31 hL hi hI hn
  | 32 => exact lc_32 hL hi hI hn
  | 33 => exact lc_33 hL hi hI hn
  | 34 => exact lc_34 hL hi hI hn
  | 35 => exact lc_35 hL hi hI hn
  | 36 => exact lc_36 hL hi hI hn
  | k + 37 =>
    rw [show lw_tgt (k + 37) = 1099 from if_neg (by omega)]
    exact hn _ _ _ hI
theorem lw_go (hL : L ≤ 2560) (hrd : ∀ t F G, INV t F G → wp 96 0 [.ref 0, .float 0] [] (hs t, F, G) (fun v M => wp 171 0 [.ref 193, .float 0] [] M (ENi v))) : wl L xs 0 cz_L0 [] ([], fun _ _ => 0, fun _ _ => 0) (0, 0) := by
  obtain ⟨f0, f1, f2, f3, f4⟩ : ip_fetch 0 0 = some (.new 7, 3, 9) ∧ ip_fetch 0 3 = some (.dup, 1, 0) ∧ ip_fetch 0 4 = some (.invokespecial 9, 3, 91) ∧ ip_fetch 0 7 = some (.astore_n 1, 1, 0) ∧ ip_fetch 0 8 = some (.new 10, 3, 10) := by decide +kernel
  obtain ⟨g0, g1, g2, g3, g4⟩ : ip_fetch 0 11 = some (.dup, 1, 0) ∧ ip_fetch 0 12 = some (.invokespecial 12, 3, 148) ∧ ip_fetch 0 15 = some (.astore_n 2, 1, 0) ∧ ip_fetch 0 16 = some (.iconst 0, 1, 0) ∧ ip_fetch 0 17 = some (.istore_n 3, 1, 0) := by decide +kernel
  obtain ⟨M1, F, G, e1, eg, ⟨n2, v2, rfl, e2⟩, hI⟩ := cz_fin
  obtain ⟨w1, w2⟩ := cz_1a
  have h18 := lw_loop (xs := xs) hL hrd 2600 0 86 F G rfl hI
  have h17 : wl L xs 17 [.ref ip_EX, .ref 0, .ref 193, .float 0] [.int 0] (hs 86, F, G) lw_cs := by
    refine wl_N (fun n => ?_) h18
    rw [ip_run, g4]
    rfl
  have h16 : wl L xs 16 [.ref ip_EX, .ref 0, .ref 193, .float 0] [] (hs 86, F, G) lw_cs := by
    refine wl_N (fun n => ?_) h17
    rw [ip_run, g3]
    rfl
  have h15 : wl L xs 15 cz_L1 [.ref 193] (hs 86, F, G) lw_cs := by
    refine wl_N (fun n => ?_) h16
    rw [ip_run, g2]
    rfl
  simp only [cz_g, Bool.and_eq_true, decide_eq_true_eq] at eg
  obtain ⟨⟨l1, l2⟩, l3⟩ := eg
  have h12 : wl L xs 12 cz_L1 [.ref 193, .ref 193] (cz_n M1) (194, 2828) := by
    refine wl_C (m := 148) (Li := ip_loc (ip_mB 148).2.2.1 [.ref 193]) (rest := [.ref 193]) (cs' := lw_cs) (pc' := 15) (fun n => ?_) ⟨n2, _, e2, h15⟩
    rw [ip_run, g1]
    simp only [Option.bind_some, ip_ex]
    rw [if_neg (by decide), if_neg (by decide)]
    show (if (193 : Nat) ≠ ip_EX + 50 then ip_call _ _ 0 12 148 cz_L1 [.ref 193] [.ref 193] (cz_n M1) (194, 2828) else none) = _
    rw [if_pos (by decide), ip_call, if_pos]
    · rfl
    · show (true && (decide _ || ip_wf (cz_n M1) cz_L1 [.ref 193, .ref 193])) = true
      rw [l3, Bool.or_true]
      rfl
  have h11 : wl L xs 11 cz_L1 [.ref 193] (cz_n M1) (194, 2828) := by
    refine wl_N (fun n => ?_) h12
    rw [ip_run, g0]
    rfl
  have h8 : wl L xs 8 cz_L1 [] M1 (193, 2797) := by
    refine wl_N (fun n => ?_) h11
    rw [ip_run, f4]
    simp only [Option.bind_some, ip_ex, ip_newO]
    rw [if_pos (by rw [l2]; rfl)]
    simp only [Option.bind_some, l1]
    rw [show cz_n M1 = (M1.1 ++ [(3, 10, ip_dfl 10)], ip_ur M1.2.1 193 (fun _ => 0), ip_ur M1.2.2 193 (fun _ => 0)) from rfl]
    rfl
  have h7 : wl L xs 7 cz_L0 [.ref 0] M1 (193, 2797) := by
    refine wl_N (fun n => ?_) h8
    rw [ip_run, f3]
    rfl
  have h4 : wl L xs 4 cz_L0 [.ref 0, .ref 0] ([(3, 9, ip_dfl 9)], ip_ur (fun _ _ => 0) 0 (fun _ => 0), ip_ur (fun _ _ => 0) 0 (fun _ => 0)) (1, 11) := by
    unfold cz_1 at e1
    obtain ⟨r, r1, r2⟩ := Option.bind_eq_some_iff.mp e1
    obtain ⟨v, r⟩ := r
    cases v with
    | some v => cases r2
    | none =>
      cases r2
      refine wl_C (m := 91) (Li := ip_loc (ip_mB 91).2.2.1 [.ref 0]) (rest := [.ref 0]) (cs' := (193, 2797)) (pc' := 7) (fun n => ?_) ⟨_, _, r1, h7⟩
      rw [ip_run, f2]
      simp only [Option.bind_some, ip_ex]
      rw [if_neg (by decide), if_neg (by decide)]
      show (if (0 : Nat) ≠ ip_EX + 50 then ip_call _ _ 0 4 91 cz_L0 [.ref 0] [.ref 0] _ (1, 11) else none) = _
      rw [if_pos (by decide), ip_call, if_pos]
      · rfl
      · show (true && (decide _ || ip_wf _ cz_L0 [.ref 0, .ref 0])) = true
        rw [show ip_wf (([(3, 9, ip_dfl 9)], ip_ur (fun _ _ => 0) 0 (fun _ => 0), ip_ur (fun _ _ => 0) 0 (fun _ => 0)) : ip_M) cz_L0 [.ref 0, .ref 0] = true from w2, Bool.or_true]
        rfl
  have h3 : wl L xs 3 cz_L0 [.ref 0] ([(3, 9, ip_dfl 9)], ip_ur (fun _ _ => 0) 0 (fun _ => 0), ip_ur (fun _ _ => 0) 0 (fun _ => 0)) (1, 11) := by
    refine wl_N (fun n => ?_) h4
    rw [ip_run, f1]
    rfl
  refine wl_N (fun n => ?_) h3
  rw [ip_run, f0]
  simp only [Option.bind_some, ip_ex, ip_newO]
  rw [if_pos (by rw [w1]; rfl)]
  rfl
end LW
