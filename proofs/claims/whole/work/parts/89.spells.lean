/-! ===== does the text spell a word ===== -/
def wbL8 : List (List Nat) := [[116, 111, 119, 101, 114], [109, 101, 116, 104, 111, 100], [115, 108, 105, 112], [114, 105, 110, 103, 101, 114], [121, 101, 97, 114, 115]]
def wn8 (w : Nat) : Nat := (wbL8.getD w []).length
def wb8 (w i : Nat) : Nat := (wbL8.getD w []).getD i 0
/-- what the reader's text holds -/
abbrev RdC (T : Nat) (b : Nat → Nat) (F : ip_F) : Prop := T ≤ 150 ∧ F 62 1 = Int32.ofNat T ∧ ∀ j, j < T → b j < 128 ∧ F 63 j = Int32.ofNat (b j)
def bt8 (T : Nat) (b : Nat → Nat) (p : Nat) : Int32 := if p < T then Int32.ofNat (b p) else -1
def SW8 (b : Nat → Nat) (w p e : Nat) : Prop := e - p = wn8 w ∧ ∀ i, i < wn8 w → b (p + i) = wb8 w i
theorem ok9_62 (t : Nat) : ok9 t 62 := ⟨rfl, rfl⟩
theorem b8_lt {T : Nat} {b : Nat → Nat} {p : Nat} (h : p < T) : bt8 T b p = Int32.ofNat (b p) := if_pos h
theorem b8_ge {T : Nat} {b : Nat → Nat} {p : Nat} (h : T ≤ p) : bt8 T b p = -1 := if_neg (by omega)
section SPL
variable {F : ip_F} {G : ip_G} {Q : Option Value → ip_M → Prop} {T : Nat} {b : Nat → Nat} {t : Nat}
theorem sp86t {p : Nat} (hT : RdC T b F) (hp : p ≤ 1000) (h : Q (some (.int (bt8 T b p))) (hs t, F, G)) : wp 86 0 [.ref 62, .int (Int32.ofNat p)] [] (hs t, F, G) Q := by
  obtain ⟨h1, h2, h3⟩ := hT
  refine rg86_0 (ok9_62 t) ⟨fun q => ?_, fun _ => ⟨fun q => ?_, fun q => ⟨(nn_in (by omega)).mpr ?_, ?_⟩⟩⟩
  · exact absurd ((nn_lt (b := 0) (by omega) (by omega)).mp q) (by omega)
  · rw [h2] at q
    rw [b8_ge ((nn_le (by omega) (by omega)).mp q)] at h
    exact h
  · rw [h2] at q
    have := (nn_lt (by omega) (by omega)).mp q
    omega
  · rw [h2] at q
    have := (nn_lt (by omega) (by omega)).mp q
    rw [nn_clamp (by omega), (h3 p this).2]
    rw [b8_lt this] at h
    exact h
theorem sp237 {w : Nat} (hw : w < 5) (h : Q (some (.int (Int32.ofNat (wn8 w)))) (hs 62, F, G)) : wp 237 0 [.ref (1000001 + w)] [] (hs 62, F, G) Q := by
  match w, hw with
  | 0, _ => exact sp237_0 h
  | 1, _ => exact sp237_1 h
  | 2, _ => exact sp237_2 h
  | 3, _ => exact sp237_3 h
  | 4, _ => exact sp237_4 h
theorem sp238 {w i : Nat} (hw : w < 5) (hi : i < wn8 w) (h : Q (some (.int (Int32.ofNat (wb8 w i)))) (hs 62, F, G)) : wp 238 0 [.ref (1000001 + w), .int (Int32.ofNat i)] [] (hs 62, F, G) Q := by
  match w, hw with
  | 0, _ => match i, hi with
    | 0, _ => exact sp238_00 h
    | 1, _ => exact sp238_01 h
    | 2, _ => exact sp238_02 h
    | 3, _ => exact sp238_03 h
    | 4, _ => exact sp238_04 h
  | 1, _ => match i, hi with
    | 0, _ => exact sp238_10 h
    | 1, _ => exact sp238_11 h
    | 2, _ => exact sp238_12 h
    | 3, _ => exact sp238_13 h
    | 4, _ => exact sp238_14 h
    | 5, _ => exact sp238_15 h
  | 2, _ => match i, hi with
    | 0, _ => exact sp238_20 h
    | 1, _ => exact sp238_21 h
    | 2, _ => exact sp238_22 h
    | 3, _ => exact sp238_23 h
  | 3, _ => match i, hi with
    | 0, _ => exact sp238_30 h
    | 1, _ => exact sp238_31 h
    | 2, _ => exact sp238_32 h
    | 3, _ => exact sp238_33 h
    | 4, _ => exact sp238_34 h
    | 5, _ => exact sp238_35 h
  | 4, _ => match i, hi with
    | 0, _ => exact sp238_40 h
    | 1, _ => exact sp238_41 h
    | 2, _ => exact sp238_42 h
    | 3, _ => exact sp238_43 h
    | 4, _ => exact sp238_44 h
theorem wn8_le : ∀ w, w < 5 → wn8 w ≤ 6 := by decide
theorem wb8_le : ∀ w, w < 5 → ∀ i, i < 6 → wb8 w i < 128 := by decide
set_option maxRecDepth 20000 in
theorem rcv_w {w : Nat} (hw : w < 5) : ip_rcv (hs 62, F, G) 237 (1000001 + w) = true ∧ ip_rcv (hs 62, F, G) 238 (1000001 + w) = true := by
  match w, hw with
  | 0, _ => exact ⟨rfl, rfl⟩
  | 1, _ => exact ⟨rfl, rfl⟩
  | 2, _ => exact ⟨rfl, rfl⟩
  | 3, _ => exact ⟨rfl, rfl⟩
  | 4, _ => exact ⟨rfl, rfl⟩
theorem wp_CR {j pc : Nat} {L S : List Value} {M : ip_M} {i k idx : Nat} {as lf : List Value} (hf : ip_fetch j pc = some (.invokevirtual idx, 3, i)) (hr : ip_rcv M i k = true) (hS : (ip_mI i).2.2.1 = (as.length + 1)) (hok : as.all ip_okv = true) (hl : (ip_arg (.ref k :: as)).length ≤ (ip_mB i).2.2.1) (hmay : ip_may j i (0, 0) S = true) (hal : (ip_mI i).2.2.2.2.2.1 = 0 ∧ (ip_mI i).2.2.2.2.2.2 = 0) (hlf : ip_loc (ip_mB i).2.2.1 (.ref k :: as) = lf)
    (hk : wp i 0 lf [] M (fun v M' => wp j (pc + 3) L (v.toList ++ S) M' Q)) : wp j pc L (as.reverse ++ .ref k :: S) M Q := by
  refine wp_C (fun n9 => ?_) hk
  rw [ip_run, hf]
  have hlen : (as.reverse ++ Value.ref k :: S).length = as.length + 1 + S.length := by simp; omega
  have e0 : as.reverse ++ Value.ref k :: S = (as.reverse ++ [Value.ref k]) ++ S := by simp
  have e1 : (as.reverse ++ Value.ref k :: S).take (as.length + 1) = as.reverse ++ [.ref k] := by
    rw [e0, List.take_left' (by simp)]
  have e2 : (as.reverse ++ Value.ref k :: S).drop (as.length + 1) = S := by
    rw [e0, List.drop_left' (by simp)]
  simp only [Option.bind_some, ip_ex, hS]
  rw [if_neg (by rw [hlen]; omega), e1, e2]
  simp only [List.reverse_append, List.reverse_cons, List.reverse_nil, List.nil_append, List.singleton_append, List.reverse_reverse]
  rw [if_pos hr]
  unfold ip_call
  rw [if_pos (by simp [hmay, hok, hl, hal.1, ip_okv]), hlf, hal.1, hal.2]
theorem sp87_15 {w p e : Nat} (hT : RdC T b F) (hw : w < 5) (he : p + wn8 w ≤ T) : ∀ d i, i + d = wn8 w → ((∀ k, i ≤ k → k < wn8 w → b (p + k) = wb8 w k) → Q (some (.int 1)) (hs 62, F, G)) → ((¬ ∀ k, i ≤ k → k < wn8 w → b (p + k) = wb8 w k) → Q (some (.int 0)) (hs 62, F, G)) → wp 87 15 [.ref 62, .ref (1000001 + w), .int (Int32.ofNat p), .int (Int32.ofNat e), .int (Int32.ofNat i)] [] (hs 62, F, G) Q := by
  have h6 := wn8_le w hw
  have hT' := hT.1
  intro d
  induction d with
  | zero =>
    intro i hi h1 h2
    obtain rfl : i = wn8 w := by omega
    refine wp_N (j' := 87) (pc' := 18) (L' := [.ref 62, .ref (1000001 + w), .int (Int32.ofNat p), .int (Int32.ofNat e), .int (Int32.ofNat (wn8 w))]) (S' := [.ref (1000001 + w), .int (Int32.ofNat (wn8 w))]) (M' := (hs 62, F, G)) 1 (fun _ => rfl) ?_
    refine wp_CR (as := []) (lf := [.ref (1000001 + w)]) rfl (rcv_w hw).1 rfl rfl (Nat.le_of_ble_eq_true rfl) rfl ⟨rfl, rfl⟩ rfl (sp237 hw ?_)
    refine wp_I (S' := []) .ge (fun _ => rfl) (fun _ => ?_) (fun q => absurd (Int32.le_refl _) q)
    refine wp_N (j' := 87) (pc' := 50) (L' := [.ref 62, .ref (1000001 + w), .int (Int32.ofNat p), .int (Int32.ofNat e), .int (Int32.ofNat (wn8 w))]) (S' := [.int 1]) (M' := (hs 62, F, G)) 0 (fun _ => rfl) ?_
    exact wp_RZ rfl rfl rfl (h1 (fun k q1 q2 => by omega))
  | succ d ih =>
    intro i hi h1 h2
    refine wp_N (j' := 87) (pc' := 18) (L' := [.ref 62, .ref (1000001 + w), .int (Int32.ofNat p), .int (Int32.ofNat e), .int (Int32.ofNat i)]) (S' := [.ref (1000001 + w), .int (Int32.ofNat i)]) (M' := (hs 62, F, G)) 1 (fun _ => rfl) ?_
    refine wp_CR (as := []) (lf := [.ref (1000001 + w)]) rfl (rcv_w hw).1 rfl rfl (Nat.le_of_ble_eq_true rfl) rfl ⟨rfl, rfl⟩ rfl (sp237 hw ?_)
    refine wp_I (S' := []) .ge (fun _ => rfl) (fun q => ?_) (fun _ => ?_)
    · have := (nn_le (by omega) (by omega)).mp (show Int32.ofNat (wn8 w) ≤ Int32.ofNat i from q)
      omega
    refine wp_N (j' := 87) (pc' := 29) (L' := [.ref 62, .ref (1000001 + w), .int (Int32.ofNat p), .int (Int32.ofNat e), .int (Int32.ofNat i)]) (S' := [.int (Int32.ofNat p + Int32.ofNat i), .ref 62]) (M' := (hs 62, F, G)) 3 (fun _ => rfl) ?_
    refine wp_C (i := 86) (pc' := 32) (Li := [.ref 62, .int (Int32.ofNat p + Int32.ofNat i)]) (rest := []) (fun _ => rfl) ?_
    rw [nn_add]
    refine sp86t hT (by omega) ?_
    rw [b8_lt (by omega)]
    refine wp_N (j' := 87) (pc' := 35) (L' := [.ref 62, .ref (1000001 + w), .int (Int32.ofNat p), .int (Int32.ofNat e), .int (Int32.ofNat i)]) (S' := [.int (Int32.ofNat i), .ref (1000001 + w), .int (Int32.ofNat (b (p + i)))]) (M' := (hs 62, F, G)) 1 (fun _ => rfl) ?_
    refine wp_CR (as := [.int (Int32.ofNat i)]) (lf := [.ref (1000001 + w), .int (Int32.ofNat i)]) rfl (rcv_w hw).2 rfl rfl (Nat.le_of_ble_eq_true rfl) rfl ⟨rfl, rfl⟩ rfl (sp238 hw (by omega) ?_)
    have hb := (hT.2.2 (p + i) (by omega)).1
    have hsb := wb8_le w hw i (by omega)
    refine wp_I (S' := []) .eq (fun _ => rfl) (fun q => ?_) (fun q => ?_)
    · have q1 := (nn_eq (by omega) (by omega)).mp (show Int32.ofNat (b (p + i)) = Int32.ofNat (wb8 w i) from q)
      refine wp_N (j' := 87) (pc' := 15) (L' := [.ref 62, .ref (1000001 + w), .int (Int32.ofNat p), .int (Int32.ofNat e), .int (Int32.ofNat i + 1)]) (S' := []) (M' := (hs 62, F, G)) 1 (fun _ => rfl) ?_
      rw [show Int32.ofNat i + 1 = Int32.ofNat (i + 1) from nn_add i 1]
      refine ih (i + 1) (by omega) (fun q2 => h1 (fun k k1 k2 => ?_)) (fun q2 => h2 (fun q3 => q2 (fun k k1 k2 => q3 k (by omega) k2)))
      by_cases e : k = i
      · subst e
        exact q1
      · exact q2 k (by omega) k2
    · refine wp_N (j' := 87) (pc' := 42) (L' := [.ref 62, .ref (1000001 + w), .int (Int32.ofNat p), .int (Int32.ofNat e), .int (Int32.ofNat i)]) (S' := [.int 0]) (M' := (hs 62, F, G)) 0 (fun _ => rfl) ?_
      exact wp_RZ rfl rfl rfl (h2 (fun q2 => q (show Int32.ofNat (b (p + i)) = Int32.ofNat (wb8 w i) by rw [q2 i (Nat.le_refl i) (by omega)])))
theorem sp87 {w p e : Nat} (hT : RdC T b F) (hw : w < 5) (hpe : p ≤ e) (he : e ≤ T) (h1 : SW8 b w p e → Q (some (.int 1)) (hs 62, F, G)) (h2 : ¬ SW8 b w p e → Q (some (.int 0)) (hs 62, F, G)) : wp 87 0 [.ref 62, .ref (1000001 + w), .int (Int32.ofNat p), .int (Int32.ofNat e), .float 0] [] (hs 62, F, G) Q := by
  have h6 := wn8_le w hw
  have hT' := hT.1
  refine wp_N (j' := 87) (pc' := 4) (L' := [.ref 62, .ref (1000001 + w), .int (Int32.ofNat p), .int (Int32.ofNat e), .float 0]) (S' := [.ref (1000001 + w), .int (Int32.ofNat e - Int32.ofNat p)]) (M' := (hs 62, F, G)) 3 (fun _ => rfl) ?_
  refine wp_CR (as := []) (lf := [.ref (1000001 + w)]) rfl (rcv_w hw).1 rfl rfl (Nat.le_of_ble_eq_true rfl) rfl ⟨rfl, rfl⟩ rfl (sp237 hw ?_)
  rw [nn_sub hpe]
  refine wp_I (S' := []) .eq (fun _ => rfl) (fun q => ?_) (fun q => ?_)
  · have q1 := (nn_eq (by omega) (by omega)).mp (show Int32.ofNat (e - p) = Int32.ofNat (wn8 w) from q)
    refine wp_N (j' := 87) (pc' := 15) (L' := [.ref 62, .ref (1000001 + w), .int (Int32.ofNat p), .int (Int32.ofNat e), .int (Int32.ofNat 0)]) (S' := []) (M' := (hs 62, F, G)) 1 (fun _ => rfl) ?_
    exact sp87_15 hT hw (by omega) (wn8 w) 0 (by omega) (fun q2 => h1 ⟨q1, fun i hi => q2 i (by omega) hi⟩) (fun q2 => h2 (fun q3 => q2 (fun k _ k2 => q3.2 k k2)))
  · refine wp_N (j' := 87) (pc' := 11) (L' := [.ref 62, .ref (1000001 + w), .int (Int32.ofNat p), .int (Int32.ofNat e), .float 0]) (S' := [.int 0]) (M' := (hs 62, F, G)) 0 (fun _ => rfl) ?_
    exact wp_RZ rfl rfl rfl (h2 (fun q3 => q (show Int32.ofNat (e - p) = Int32.ofNat (wn8 w) by rw [q3.1])))
end SPL
