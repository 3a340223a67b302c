/-! ===== the reference reads: blanks, words, numbers ===== -/
abbrev RdM (T : Nat) (b : Nat → Nat) (F : ip_F) : Prop := T ≤ 150 ∧ F 193 15 = Int32.ofNat T ∧ ∀ j, j < T → b j < 128 ∧ F 203 j = Int32.ofNat (b j)
/-- at most the reader's place and its number are new -/
abbrev rd_F (F F' : ip_F) : Prop := (∀ x, x ≠ 16 → x ≠ 17 → F' 193 x = F 193 x) ∧ ∀ a, a ≠ 193 → F' a = F a
theorem rd_Fr (F : ip_F) : rd_F F F := ⟨fun _ _ _ => rfl, fun _ _ => rfl⟩
theorem rd_Ft {F F' F'' : ip_F} (h : rd_F F F') (h' : rd_F F' F'') : rd_F F F'' := ⟨fun x h1 h2 => by rw [h'.1 x h1 h2, h.1 x h1 h2], fun a ha => by rw [h'.2 a ha, h.2 a ha]⟩
theorem rd_Fu {F : ip_F} {x : Nat} {v : Int32} (hx : x = 16 ∨ x = 17) : rd_F F (ip_u F 193 x v) := ⟨fun y h1 h2 => by rw [u_s, if_neg (by omega)], fun a ha => u_n ha⟩
theorem rd_Fm {T : Nat} {b : Nat → Nat} {F F' : ip_F} (h : RdM T b F) (e : rd_F F F') : RdM T b F' := by
  unfold RdM
  rw [e.1 15 (by decide) (by decide), e.2 203 (by decide)]
  exact h
theorem rd_ch {v c : Nat} {A B : Prop} (hv : v < 128) (hc : c < 128) (h1 : ¬ v = c → A) (h2 : v = c → B) : (¬ Int32.ofNat v = Int32.ofNat c → A) ∧ (Int32.ofNat v = Int32.ofNat c → B) :=
  ⟨fun q => h1 (fun e => q (by rw [e])), fun q => h2 ((nn_eq (by omega) (by omega)).mp q)⟩
theorem rd_s0 {b : Nat → Nat} {p e : Nat} : rd_sw b 0 p e = true ↔ e - p = 5 ∧ b (p + 0) = 116 ∧ b (p + 1) = 111 ∧ b (p + 2) = 119 ∧ b (p + 3) = 101 ∧ b (p + 4) = 114 := by
  rw [rd_swi]
  constructor
  · rintro ⟨h1, h2⟩
    exact ⟨h1, h2 0 (by decide), h2 1 (by decide), h2 2 (by decide), h2 3 (by decide), h2 4 (by decide)⟩
  · rintro ⟨h1, c0, c1, c2, c3, c4⟩
    refine ⟨h1, fun i hi => ?_⟩
    match i, hi with
    | 0, _ => exact c0
    | 1, _ => exact c1
    | 2, _ => exact c2
    | 3, _ => exact c3
    | 4, _ => exact c4
theorem rd_s1 {b : Nat → Nat} {p e : Nat} : rd_sw b 1 p e = true ↔ e - p = 6 ∧ b (p + 0) = 109 ∧ b (p + 1) = 101 ∧ b (p + 2) = 116 ∧ b (p + 3) = 104 ∧ b (p + 4) = 111 ∧ b (p + 5) = 100 := by
  rw [rd_swi]
  constructor
  · rintro ⟨h1, h2⟩
    exact ⟨h1, h2 0 (by decide), h2 1 (by decide), h2 2 (by decide), h2 3 (by decide), h2 4 (by decide), h2 5 (by decide)⟩
  · rintro ⟨h1, c0, c1, c2, c3, c4, c5⟩
    refine ⟨h1, fun i hi => ?_⟩
    match i, hi with
    | 0, _ => exact c0
    | 1, _ => exact c1
    | 2, _ => exact c2
    | 3, _ => exact c3
    | 4, _ => exact c4
    | 5, _ => exact c5
theorem rd_s2 {b : Nat → Nat} {p e : Nat} : rd_sw b 2 p e = true ↔ e - p = 4 ∧ b (p + 0) = 115 ∧ b (p + 1) = 108 ∧ b (p + 2) = 105 ∧ b (p + 3) = 112 := by
  rw [rd_swi]
  constructor
  · rintro ⟨h1, h2⟩
    exact ⟨h1, h2 0 (by decide), h2 1 (by decide), h2 2 (by decide), h2 3 (by decide)⟩
  · rintro ⟨h1, c0, c1, c2, c3⟩
    refine ⟨h1, fun i hi => ?_⟩
    match i, hi with
    | 0, _ => exact c0
    | 1, _ => exact c1
    | 2, _ => exact c2
    | 3, _ => exact c3
theorem rd_s3 {b : Nat → Nat} {p e : Nat} : rd_sw b 3 p e = true ↔ e - p = 6 ∧ b (p + 0) = 114 ∧ b (p + 1) = 105 ∧ b (p + 2) = 110 ∧ b (p + 3) = 103 ∧ b (p + 4) = 101 ∧ b (p + 5) = 114 := by
  rw [rd_swi]
  constructor
  · rintro ⟨h1, h2⟩
    exact ⟨h1, h2 0 (by decide), h2 1 (by decide), h2 2 (by decide), h2 3 (by decide), h2 4 (by decide), h2 5 (by decide)⟩
  · rintro ⟨h1, c0, c1, c2, c3, c4, c5⟩
    refine ⟨h1, fun i hi => ?_⟩
    match i, hi with
    | 0, _ => exact c0
    | 1, _ => exact c1
    | 2, _ => exact c2
    | 3, _ => exact c3
    | 4, _ => exact c4
    | 5, _ => exact c5
theorem rd_s4 {b : Nat → Nat} {p e : Nat} : rd_sw b 4 p e = true ↔ e - p = 5 ∧ b (p + 0) = 121 ∧ b (p + 1) = 101 ∧ b (p + 2) = 97 ∧ b (p + 3) = 114 ∧ b (p + 4) = 115 := by
  rw [rd_swi]
  constructor
  · rintro ⟨h1, h2⟩
    exact ⟨h1, h2 0 (by decide), h2 1 (by decide), h2 2 (by decide), h2 3 (by decide), h2 4 (by decide)⟩
  · rintro ⟨h1, c0, c1, c2, c3, c4⟩
    refine ⟨h1, fun i hi => ?_⟩
    match i, hi with
    | 0, _ => exact c0
    | 1, _ => exact c1
    | 2, _ => exact c2
    | 3, _ => exact c3
    | 4, _ => exact c4
theorem rd_w4 {b : Nat → Nat} {p e : Nat} (h : e - p = 4) : rd_wd b p e = if rd_sw b 2 p e = true then 2 else 5 := by
  unfold rd_wd
  rw [if_neg (fun q => by have := (rd_s0.mp q).1; omega), if_neg (fun q => by have := (rd_s1.mp q).1; omega), if_neg (c := rd_sw b 3 p e = true) (fun q => by have := (rd_s3.mp q).1; omega), if_neg (c := rd_sw b 4 p e = true) (fun q => by have := (rd_s4.mp q).1; omega)]
theorem rd_w5 {b : Nat → Nat} {p e : Nat} (h : e - p = 5) : rd_wd b p e = if rd_sw b 0 p e = true then 0 else if rd_sw b 4 p e = true then 4 else 5 := by
  unfold rd_wd
  rw [if_neg (c := rd_sw b 1 p e = true) (fun q => by have := (rd_s1.mp q).1; omega), if_neg (c := rd_sw b 2 p e = true) (fun q => by have := (rd_s2.mp q).1; omega), if_neg (c := rd_sw b 3 p e = true) (fun q => by have := (rd_s3.mp q).1; omega)]
theorem rd_w6 {b : Nat → Nat} {p e : Nat} (h : e - p = 6) : rd_wd b p e = if rd_sw b 1 p e = true then 1 else if rd_sw b 3 p e = true then 3 else 5 := by
  unfold rd_wd
  rw [if_neg (c := rd_sw b 0 p e = true) (fun q => by have := (rd_s0.mp q).1; omega), if_neg (c := rd_sw b 2 p e = true) (fun q => by have := (rd_s2.mp q).1; omega), if_neg (c := rd_sw b 4 p e = true) (fun q => by have := (rd_s4.mp q).1; omega)]
theorem rd_wn {b : Nat → Nat} {p e : Nat} (h4 : ¬ e - p = 4) (h5 : ¬ e - p = 5) (h6 : ¬ e - p = 6) : rd_wd b p e = 5 := by
  unfold rd_wd
  rw [if_neg (fun q => h5 (rd_s0.mp q).1), if_neg (fun q => h6 (rd_s1.mp q).1), if_neg (fun q => h4 (rd_s2.mp q).1), if_neg (fun q => h6 (rd_s3.mp q).1), if_neg (fun q => h5 (rd_s4.mp q).1)]
theorem rd_wl {b : Nat → Nat} {p e k : Nat} (hk : k < 5) (h : rd_wd b p e = k) : e - p = wn8 k := by
  unfold rd_wd at h
  split at h
  · rename_i q; subst h; exact (rd_s0.mp q).1
  split at h
  · rename_i q; subst h; exact (rd_s1.mp q).1
  split at h
  · rename_i q; subst h; exact (rd_s2.mp q).1
  split at h
  · rename_i q; subst h; exact (rd_s3.mp q).1
  split at h
  · rename_i q; subst h; exact (rd_s4.mp q).1
  omega
section MOD
variable {F : ip_F} {G : ip_G} {Q : Option Value → ip_M → Prop} {T : Nat} {b : Nat → Nat} {t : Nat}
theorem sp155 {p : Nat} (hT : RdM T b F) (hp : p ≤ T) (h6 : F 193 16 = Int32.ofNat p) (h : Q (some (.int (bt8 T b p))) (hs t, F, G)) : wp 155 0 [.ref 193] [] (hs t, F, G) Q := by
  obtain ⟨h1, h2, h3⟩ := hT
  refine rg155_0 ⟨fun q => ?_, fun q => ⟨?_, ?_⟩⟩
  · rw [h2, h6] at q
    rw [b8_ge ((nn_le (by omega) (by omega)).mp q)] at h
    exact h
  · rw [h6]
    exact (nn_in (by omega)).mpr (by rw [h2, h6] at q; have := (nn_lt (by omega) (by omega)).mp q; omega)
  · rw [h2, h6] at q
    have := (nn_lt (by omega) (by omega)).mp q
    rw [h6, nn_clamp (by omega), (h3 p this).2]
    rw [b8_lt this] at h
    exact h
theorem sp156 : ∀ d p F, p + d = T → RdM T b F → F 193 16 = Int32.ofNat p → (∀ F', F' 193 16 = Int32.ofNat (rd_sk T b p) → rd_F F F' → Q none (hs t, F', G)) → wp 156 0 [.ref 193] [] (hs t, F, G) Q := by
  intro d
  induction d with
  | zero =>
    intro p F hp hT h6 h
    have h150 := hT.1
    refine rg156_0 (sp155 hT (by omega) h6 (rg156_4 ⟨fun _ => h F ?_ (rd_Fr F), fun q => ?_⟩))
    · unfold rd_sk
      rw [rd_eq, if_neg (fun q => by omega)]
      exact h6
    · rw [b8_ge (by omega)] at q
      exact absurd q (by decide)
  | succ d ih =>
    intro p F hp hT h6 h
    have h150 := hT.1
    have hb := (hT.2.2 p (by omega)).1
    refine rg156_0 (sp155 hT (by omega) h6 (rg156_4 ⟨fun q => h F ?_ (rd_Fr F), fun q => ?_⟩))
    · rw [b8_lt (by omega)] at q
      unfold rd_sk
      rw [rd_eq, if_neg (fun q2 => ?_)]
      · exact h6
      · have := q2.2
        simp only [rd_rg, Bool.and_eq_true, decide_eq_true_eq] at this
        exact q (by rw [show b p = 32 by omega]; rfl)
    · rw [b8_lt (by omega)] at q
      have e := (nn_eq (b := 32) (by omega) (by omega)).mp q
      refine ih (p + 1) _ (by omega) (rd_Fm hT (rd_Fu (Or.inl rfl))) (by rw [u_s, if_pos rfl, h6]; exact nn_add p 1) (fun F' k1 k2 => h F' ?_ (rd_Ft (rd_Fu (Or.inl rfl)) k2))
      unfold rd_sk at k1 ⊢
      rw [rd_eq, if_pos ⟨by omega, by rw [e]; decide⟩]
      exact k1
theorem sp157 {x : Nat} (hx : x < 128) (h : Q (some (.int (if rd_rg 97 122 x = true then 1 else 0))) (hs t, F, G)) : wp 157 0 [.int (Int32.ofNat x)] [] (hs t, F, G) Q := by
  refine rg157_0 (sp143 (rg157_8 ⟨bz_and, ?_⟩))
  rw [show (97 : Int32) = Int32.ofNat 97 from rfl, show (122 : Int32) = Int32.ofNat 122 from rfl, rd_bz (by omega) (by omega) (by omega)]
  exact h
theorem sp158 {x : Nat} (hx : x < 128) (h : Q (some (.int (if rd_rg 48 57 x = true then 1 else 0))) (hs t, F, G)) : wp 158 0 [.int (Int32.ofNat x)] [] (hs t, F, G) Q := by
  refine rg158_0 (sp143 (rg158_8 ⟨bz_and, ?_⟩))
  rw [show (48 : Int32) = Int32.ofNat 48 from rfl, show (57 : Int32) = Int32.ofNat 57 from rfl, rd_bz (by omega) (by omega) (by omega)]
  exact h
theorem sp159_2 {s : Nat} (hT : RdM T b F) (h6 : F 193 16 = Int32.ofNat s) : ∀ d i, s + i + d = T → Q (some (.int (Int32.ofNat (rd_we T b (s + i) - s)))) (hs t, F, G) → wp 159 2 [.ref 193, .int (Int32.ofNat i)] [] (hs t, F, G) Q := by
  have h150 := hT.1
  intro d
  induction d with
  | zero =>
    intro i hi h
    refine rg159_2 ⟨fun _ => ?_, fun q => ?_⟩
    · unfold rd_we at h
      rw [rd_eq, if_neg (fun q => by omega), show s + i - s = i by omega] at h
      exact h
    · rw [h6, hT.2.1, nn_add] at q
      have := (nn_lt (by omega) (by omega)).mp q
      omega
  | succ d ih =>
    intro i hi h
    have hb := (hT.2.2 (s + i) (by omega)).1
    refine rg159_2 ⟨fun q => ?_, fun _ => ⟨?_, ?_⟩⟩
    · rw [h6, hT.2.1, nn_add] at q
      have := (nn_le (by omega) (by omega)).mp q
      omega
    · rw [h6, nn_add]
      exact (nn_in (by omega)).mpr (by omega)
    · rw [h6, nn_add, nn_clamp (by omega), (hT.2.2 (s + i) (by omega)).2]
      refine sp157 hb (rg159_29 ⟨fun q => ?_, fun q => ?_⟩)
      · unfold rd_we at h
        rw [rd_eq, if_neg (fun q2 => by rw [if_pos q2.2] at q; exact absurd q (by decide)), show s + i - s = i by omega] at h
        exact h
      · have e : rd_rg 97 122 (b (s + i)) = true := by
          by_cases e : rd_rg 97 122 (b (s + i)) = true
          · exact e
          · rw [if_neg e] at q
            exact absurd rfl q
        rw [show Int32.ofNat i + 1 = Int32.ofNat (i + 1) from nn_add i 1]
        refine ih (i + 1) (by omega) ?_
        unfold rd_we at h ⊢
        rw [rd_eq, if_pos ⟨by omega, e⟩] at h
        exact h
theorem sp159 {s : Nat} (hT : RdM T b F) (hs' : s ≤ T) (h6 : F 193 16 = Int32.ofNat s) (h : Q (some (.int (Int32.ofNat (rd_we T b s - s)))) (hs t, F, G)) : wp 159 0 [.ref 193, .float 0] [] (hs t, F, G) Q :=
  rg159_0 (sp159_2 hT h6 (T - s) 0 (by omega) h)
theorem sp160 {s i : Nat} (hT : RdM T b F) (h6 : F 193 16 = Int32.ofNat s) (hi : s + i < T) (h : Q (some (.int (Int32.ofNat (b (s + i))))) (hs t, F, G)) : wp 160 0 [.ref 193, .int (Int32.ofNat i)] [] (hs t, F, G) Q := by
  have h150 := hT.1
  refine rg160_0 ⟨?_, ?_⟩
  · rw [h6, nn_add]
    exact (nn_in (by omega)).mpr (by omega)
  · rw [h6, nn_add, nn_clamp (by omega), (hT.2.2 (s + i) hi).2]
    exact h
theorem sp161 {s : Nat} (hT : RdM T b F) (hs' : s ≤ T) (h6 : F 193 16 = Int32.ofNat s) (h : Q (some (.int (rd_wv (rd_kd T b s)))) (hs t, F, G)) : wp 161 0 [.ref 193, .float 0] [] (hs t, F, G) Q := by
  have h150 := hT.1
  obtain ⟨w1, w2⟩ := rd_web (b := b) hs'
  have ek : rd_kd T b s = rd_wd b s (rd_we T b s) := by
    unfold rd_kd
    split
    · rfl
    · rename_i hn
      have : rd_we T b s = s := by
        unfold rd_we
        rw [rd_eq, if_neg hn]
      rw [this]
      exact (rd_wn (by omega) (by omega) (by omega)).symm
  rw [ek] at h
  refine rg161_0 (sp159 hT hs' h6 ?_)
  generalize rd_we T b s = e at h w1 w2 ⊢
  have lt : ∀ i, i < e - s → s + i < T := fun i hi => by omega
  have bl : ∀ i, i < e - s → b (s + i) < 128 := fun i hi => (hT.2.2 (s + i) (lt i hi)).1
  have no : rd_wd b s e = 5 → Q (some (.int (-1))) (hs t, F, G) := fun q => by rw [q] at h; exact h
  refine rg161_4 ⟨fun q4 => ⟨fun q5 => ⟨fun q6 => ?_, fun q6 => ?_⟩, fun q5 => ?_⟩, fun q4 => ?_⟩
  · have e0 : e - s = 6 := (nn_eq (b := 6) (by omega) (by omega)).mp q6
    have nx : ¬ rd_sw b 1 s e = true → wp 161 239 [.ref 193, .int (Int32.ofNat (e - s))] [] (hs t, F, G) Q := by
      intro nq
      refine rg161_239 (sp160 (i := 0) hT h6 (lt 0 (by omega)) (rg161_244 (rd_ch (c := 114) (bl 0 (by omega)) (by omega) (fun n => no (by rw [rd_w6 e0, if_neg nq, if_neg (fun q => n (rd_s3.mp q).2.1)])) (fun c0 => ?_))))
      refine sp160 (i := 1) hT h6 (lt 1 (by omega)) (rg161_254 (rd_ch (c := 105) (bl 1 (by omega)) (by omega) (fun n => no (by rw [rd_w6 e0, if_neg nq, if_neg (fun q => n (rd_s3.mp q).2.2.1)])) (fun c1 => ?_)))
      refine sp160 (i := 2) hT h6 (lt 2 (by omega)) (rg161_264 (rd_ch (c := 110) (bl 2 (by omega)) (by omega) (fun n => no (by rw [rd_w6 e0, if_neg nq, if_neg (fun q => n (rd_s3.mp q).2.2.2.1)])) (fun c2 => ?_)))
      refine sp160 (i := 3) hT h6 (lt 3 (by omega)) (rg161_274 (rd_ch (c := 103) (bl 3 (by omega)) (by omega) (fun n => no (by rw [rd_w6 e0, if_neg nq, if_neg (fun q => n (rd_s3.mp q).2.2.2.2.1)])) (fun c3 => ?_)))
      refine sp160 (i := 4) hT h6 (lt 4 (by omega)) (rg161_284 (rd_ch (c := 101) (bl 4 (by omega)) (by omega) (fun n => no (by rw [rd_w6 e0, if_neg nq, if_neg (fun q => n (rd_s3.mp q).2.2.2.2.2.1)])) (fun c4 => ?_)))
      refine sp160 (i := 5) hT h6 (lt 5 (by omega)) (rg161_294 (rd_ch (c := 114) (bl 5 (by omega)) (by omega) (fun n => no (by rw [rd_w6 e0, if_neg nq, if_neg (fun q => n (rd_s3.mp q).2.2.2.2.2.2)])) (fun c5 => ?_)))
      rw [rd_w6 e0, if_neg nq, if_pos (rd_s3.mpr ⟨e0, c0, c1, c2, c3, c4, c5⟩)] at h
      exact h
    refine sp160 (i := 0) hT h6 (lt 0 (by omega)) (rg161_182 (rd_ch (c := 109) (bl 0 (by omega)) (by omega) (fun n => nx (fun q => n (rd_s1.mp q).2.1)) (fun c0 => ?_)))
    refine sp160 (i := 1) hT h6 (lt 1 (by omega)) (rg161_192 (rd_ch (c := 101) (bl 1 (by omega)) (by omega) (fun n => nx (fun q => n (rd_s1.mp q).2.2.1)) (fun c1 => ?_)))
    refine sp160 (i := 2) hT h6 (lt 2 (by omega)) (rg161_202 (rd_ch (c := 116) (bl 2 (by omega)) (by omega) (fun n => nx (fun q => n (rd_s1.mp q).2.2.2.1)) (fun c2 => ?_)))
    refine sp160 (i := 3) hT h6 (lt 3 (by omega)) (rg161_212 (rd_ch (c := 104) (bl 3 (by omega)) (by omega) (fun n => nx (fun q => n (rd_s1.mp q).2.2.2.2.1)) (fun c3 => ?_)))
    refine sp160 (i := 4) hT h6 (lt 4 (by omega)) (rg161_222 (rd_ch (c := 111) (bl 4 (by omega)) (by omega) (fun n => nx (fun q => n (rd_s1.mp q).2.2.2.2.2.1)) (fun c4 => ?_)))
    refine sp160 (i := 5) hT h6 (lt 5 (by omega)) (rg161_232 (rd_ch (c := 100) (bl 5 (by omega)) (by omega) (fun n => nx (fun q => n (rd_s1.mp q).2.2.2.2.2.2)) (fun c5 => ?_)))
    rw [rd_w6 e0, if_pos (rd_s1.mpr ⟨e0, c0, c1, c2, c3, c4, c5⟩)] at h
    exact h
  · exact no (rd_wn (fun z => q4 (by rw [z]; rfl)) (fun z => q5 (by rw [z]; rfl)) (fun z => q6 (by rw [z]; rfl)))
  · have e0 : e - s = 5 := (nn_eq (b := 5) (by omega) (by omega)).mp q5
    have nx : ¬ rd_sw b 0 s e = true → wp 161 113 [.ref 193, .int (Int32.ofNat (e - s))] [] (hs t, F, G) Q := by
      intro nq
      refine rg161_113 (sp160 (i := 0) hT h6 (lt 0 (by omega)) (rg161_118 (rd_ch (c := 121) (bl 0 (by omega)) (by omega) (fun n => no (by rw [rd_w5 e0, if_neg nq, if_neg (fun q => n (rd_s4.mp q).2.1)])) (fun c0 => ?_))))
      refine sp160 (i := 1) hT h6 (lt 1 (by omega)) (rg161_128 (rd_ch (c := 101) (bl 1 (by omega)) (by omega) (fun n => no (by rw [rd_w5 e0, if_neg nq, if_neg (fun q => n (rd_s4.mp q).2.2.1)])) (fun c1 => ?_)))
      refine sp160 (i := 2) hT h6 (lt 2 (by omega)) (rg161_138 (rd_ch (c := 97) (bl 2 (by omega)) (by omega) (fun n => no (by rw [rd_w5 e0, if_neg nq, if_neg (fun q => n (rd_s4.mp q).2.2.2.1)])) (fun c2 => ?_)))
      refine sp160 (i := 3) hT h6 (lt 3 (by omega)) (rg161_148 (rd_ch (c := 114) (bl 3 (by omega)) (by omega) (fun n => no (by rw [rd_w5 e0, if_neg nq, if_neg (fun q => n (rd_s4.mp q).2.2.2.2.1)])) (fun c3 => ?_)))
      refine sp160 (i := 4) hT h6 (lt 4 (by omega)) (rg161_158 (rd_ch (c := 115) (bl 4 (by omega)) (by omega) (fun n => no (by rw [rd_w5 e0, if_neg nq, if_neg (fun q => n (rd_s4.mp q).2.2.2.2.2)])) (fun c4 => ?_)))
      rw [rd_w5 e0, if_neg nq, if_pos (rd_s4.mpr ⟨e0, c0, c1, c2, c3, c4⟩)] at h
      exact h
    refine sp160 (i := 0) hT h6 (lt 0 (by omega)) (rg161_66 (rd_ch (c := 116) (bl 0 (by omega)) (by omega) (fun n => nx (fun q => n (rd_s0.mp q).2.1)) (fun c0 => ?_)))
    refine sp160 (i := 1) hT h6 (lt 1 (by omega)) (rg161_76 (rd_ch (c := 111) (bl 1 (by omega)) (by omega) (fun n => nx (fun q => n (rd_s0.mp q).2.2.1)) (fun c1 => ?_)))
    refine sp160 (i := 2) hT h6 (lt 2 (by omega)) (rg161_86 (rd_ch (c := 119) (bl 2 (by omega)) (by omega) (fun n => nx (fun q => n (rd_s0.mp q).2.2.2.1)) (fun c2 => ?_)))
    refine sp160 (i := 3) hT h6 (lt 3 (by omega)) (rg161_96 (rd_ch (c := 101) (bl 3 (by omega)) (by omega) (fun n => nx (fun q => n (rd_s0.mp q).2.2.2.2.1)) (fun c3 => ?_)))
    refine sp160 (i := 4) hT h6 (lt 4 (by omega)) (rg161_106 (rd_ch (c := 114) (bl 4 (by omega)) (by omega) (fun n => nx (fun q => n (rd_s0.mp q).2.2.2.2.2)) (fun c4 => ?_)))
    rw [rd_w5 e0, if_pos (rd_s0.mpr ⟨e0, c0, c1, c2, c3, c4⟩)] at h
    exact h
  · have e0 : e - s = 4 := (nn_eq (b := 4) (by omega) (by omega)).mp q4
    refine sp160 (i := 0) hT h6 (lt 0 (by omega)) (rg161_15 (rd_ch (c := 115) (bl 0 (by omega)) (by omega) (fun n => no (by rw [rd_w4 e0, if_neg (fun q => n (rd_s2.mp q).2.1)])) (fun c0 => ?_)))
    refine sp160 (i := 1) hT h6 (lt 1 (by omega)) (rg161_25 (rd_ch (c := 108) (bl 1 (by omega)) (by omega) (fun n => no (by rw [rd_w4 e0, if_neg (fun q => n (rd_s2.mp q).2.2.1)])) (fun c1 => ?_)))
    refine sp160 (i := 2) hT h6 (lt 2 (by omega)) (rg161_35 (rd_ch (c := 105) (bl 2 (by omega)) (by omega) (fun n => no (by rw [rd_w4 e0, if_neg (fun q => n (rd_s2.mp q).2.2.2.1)])) (fun c2 => ?_)))
    refine sp160 (i := 3) hT h6 (lt 3 (by omega)) (rg161_45 (rd_ch (c := 112) (bl 3 (by omega)) (by omega) (fun n => no (by rw [rd_w4 e0, if_neg (fun q => n (rd_s2.mp q).2.2.2.2)])) (fun c3 => ?_)))
    rw [rd_w4 e0, if_pos (rd_s2.mpr ⟨e0, c0, c1, c2, c3⟩)] at h
    exact h
theorem rd_val {s cnt : Nat} (h1 : 1 ≤ cnt) (h2 : cnt ≤ 2) : (if cnt = 0 then 0 else if cnt = 1 then b s - 48 else 10 * (b s - 48) + (b (s + 1) - 48)) = rd_nm b s (s + cnt) := by
  unfold rd_nm
  rw [if_neg (by omega), show s + cnt - s = cnt by omega]
theorem sp162_9 {s : Nat} {x y : Int32} (hT : RdM T b F) (h6 : F 193 16 = Int32.ofNat s) : ∀ d i, s + i + d = T → wp 162 77 [.ref 193, .int x, .int y, .int (Int32.ofNat (rd_fe T b (s + i) - s)), .int (Int32.ofNat (if rd_fe T b (s + i) - s = 0 then 0 else if rd_fe T b (s + i) - s = 1 then b s - 48 else 10 * (b s - 48) + (b (s + 1) - 48)))] [] (hs t, F, G) Q →
    wp 162 9 [.ref 193, .int x, .int y, .int (Int32.ofNat i), .int (Int32.ofNat (if i = 0 then 0 else if i = 1 then b s - 48 else 10 * (b s - 48) + (b (s + 1) - 48)))] [] (hs t, F, G) Q := by
  have h150 := hT.1
  intro d
  induction d with
  | zero =>
    intro i hi h
    refine rg162_9 ⟨fun _ => ?_, fun q => ?_⟩
    · unfold rd_fe at h
      rw [rd_eq, if_neg (fun q => by omega), show s + i - s = i by omega] at h
      exact h
    · rw [h6, hT.2.1, nn_add] at q
      have := (nn_lt (by omega) (by omega)).mp q
      omega
  | succ d ih =>
    intro i hi h
    have hb := (hT.2.2 (s + i) (by omega)).1
    refine rg162_9 ⟨fun q => ?_, fun _ => ⟨?_, ?_⟩⟩
    · rw [h6, hT.2.1, nn_add] at q
      have := (nn_le (by omega) (by omega)).mp q
      omega
    · rw [h6, nn_add]
      exact (nn_in (by omega)).mpr (by omega)
    · rw [h6, nn_add, nn_clamp (by omega), (hT.2.2 (s + i) (by omega)).2]
      refine sp158 hb ?_
      by_cases e : rd_rg 48 57 (b (s + i)) = true
      · rw [if_pos e]
        have e2 := e
        simp only [rd_rg, Bool.and_eq_true, decide_eq_true_eq] at e2
        unfold rd_fe at h
        rw [rd_eq, if_pos ⟨by omega, e⟩] at h
        have ih := ih (i + 1) (by omega) h
        refine rg162_36 ⟨fun q => absurd q (by decide), fun _ => ⟨fun q => ?_, fun q => ⟨?_, ?_⟩⟩⟩
        · have q2 := (nn_le (a := 2) (by omega) (by omega)).mp q
          refine rg162_69 ?_
          rw [show Int32.ofNat i + 1 = Int32.ofNat (i + 1) from nn_add i 1]
          rw [if_neg (by omega), if_neg (by omega)] at ih ⊢
          exact ih
        · rw [h6, nn_add]
          exact (nn_in (by omega)).mpr (by omega)
        · have q2 := (nn_lt (b := 2) (by omega) (by omega)).mp q
          rw [h6, nn_add, nn_clamp (by omega), (hT.2.2 (s + i) (by omega)).2]
          refine rg162_69 ?_
          rw [show Int32.ofNat i + 1 = Int32.ofNat (i + 1) from nn_add i 1, show (10 : Int32) = Int32.ofNat 10 from rfl, show (48 : Int32) = Int32.ofNat 48 from rfl, nn_mul, nn_add, nn_sub (by omega)]
          rcases Nat.lt_or_ge i 1 with z | z
          · obtain rfl : i = 0 := by omega
            rw [if_neg (by omega), if_pos (by omega)] at ih
            rw [if_pos rfl, show 10 * 0 + b (s + 0) - 48 = b s - 48 by simp]
            exact ih
          · obtain rfl : i = 1 := by omega
            rw [if_neg (by omega), if_neg (by omega)] at ih
            rw [if_neg (by omega), if_pos rfl, show 10 * (b s - 48) + b (s + 1) - 48 = 10 * (b s - 48) + (b (s + 1) - 48) by omega]
            exact ih
      · rw [if_neg e]
        unfold rd_fe at h
        rw [rd_eq, if_neg (fun q => e q.2), show s + i - s = i by omega] at h
        exact rg162_36 ⟨fun _ => h, fun q => absurd rfl q⟩
def rd_okl (T : Nat) (b : Nat → Nat) (lo hi s : Nat) : Bool := decide (s < T) && rd_rg 48 57 (b s) && decide (rd_fe T b s - s ≤ 2) && decide (lo ≤ rd_nm b s (rd_fe T b s)) && decide (rd_nm b s (rd_fe T b s) ≤ hi)
theorem rd_okli {lo hi s : Nat} : rd_okl T b lo hi s = true ↔ rd_fg T b s ∧ rd_rg lo hi (rd_nm b s (rd_fe T b s)) = true := by
  unfold rd_okl rd_fg rd_rg
  simp only [Bool.and_eq_true, decide_eq_true_eq]
  constructor
  · rintro ⟨⟨⟨⟨h1, h2⟩, h3⟩, h4⟩, h5⟩
    exact ⟨⟨h1, h2, h3⟩, h4, h5⟩
  · rintro ⟨⟨h1, h2, h3⟩, h4, h5⟩
    exact ⟨⟨⟨⟨h1, h2⟩, h3⟩, h4⟩, h5⟩
theorem sp162 {p lo hi : Nat} {F : ip_F} (hT : RdM T b F) (hp : p ≤ T) (h6 : F 193 16 = Int32.ofNat p) (hlo : lo < 1000) (hhi : hi < 1000)
    (h1 : ¬ rd_okl T b lo hi (rd_sk T b p) = true → ∀ F', F' 193 16 = Int32.ofNat (rd_sk T b p) → rd_F F F' → Q (some (.int 0)) (hs t, F', G))
    (h2 : rd_okl T b lo hi (rd_sk T b p) = true → ∀ F', F' 193 17 = Int32.ofNat (rd_nm b (rd_sk T b p) (rd_fe T b (rd_sk T b p))) → F' 193 16 = Int32.ofNat (rd_fe T b (rd_sk T b p)) → rd_F F F' → Q (some (.int 1)) (hs t, F', G)) :
    wp 162 0 [.ref 193, .int (Int32.ofNat lo), .int (Int32.ofNat hi), .float 0, .float 0] [] (hs t, F, G) Q := by
  have h150 := hT.1
  obtain ⟨s1, s2⟩ := rd_skb (b := b) hp
  refine rg162_0 (sp156 (T - p) p F (by omega) hT h6 (fun F1 k1 k2 => rg162_4 ?_))
  have hT1 := rd_Fm hT k2
  generalize hs0 : rd_sk T b p = s at *
  obtain ⟨f1, f2⟩ := rd_feb (b := b) s2
  refine sp162_9 (s := s) hT1 k1 (T - s) 0 (by omega) ?_
  rw [show s + 0 = s from rfl]
  have hno : ¬ rd_okl T b lo hi s = true → Q (some (.int 0)) (hs t, F1, G) := fun q => h1 q F1 k1 k2
  refine rg162_77 (sp143 ?_)
  rw [show (1 : Int32) = Int32.ofNat 1 from rfl, show (2 : Int32) = Int32.ofNat 2 from rfl, rd_bz (by omega) (by omega) (by omega)]
  by_cases hc : rd_rg 1 2 (rd_fe T b s - s) = true
  · rw [if_pos hc]
    simp only [rd_rg, Bool.and_eq_true, decide_eq_true_eq] at hc
    have hsT : s < T ∧ rd_rg 48 57 (b s) = true := by
      by_cases z : s < T ∧ rd_rg 48 57 (b s) = true
      · exact z
      · have : rd_fe T b s = s := by
          unfold rd_fe
          rw [rd_eq, if_neg z]
        omega
    have hnm : rd_nm b s (rd_fe T b s) < 1000 := by
      have k1 := (hT.2.2 _ hsT.1).1
      unfold rd_nm
      split
      · omega
      · have k2 := (hT.2.2 (s + 1) (by omega)).1
        omega
    rw [rd_val hc.1 hc.2, show s + (rd_fe T b s - s) = rd_fe T b s by omega]
    refine rg162_83 ⟨fun q => absurd q (by decide), fun _ => sp143 ?_⟩
    rw [rd_bz hlo hhi hnm]
    by_cases hr : rd_rg lo hi (rd_nm b s (rd_fe T b s)) = true
    · rw [if_pos hr]
      refine rg162_93 ⟨fun _ => h2 (rd_okli.mpr ⟨⟨hsT.1, hsT.2, hc.2⟩, hr⟩) _ rfl ?_ (rd_Ft (rd_Ft k2 (rd_Fu (Or.inr rfl))) (rd_Fu (Or.inl rfl))), fun q => absurd q (by decide)⟩
      rw [u_s, if_pos rfl, u_s, if_neg (by decide), k1, nn_add]
      congr 1
      omega
    · rw [if_neg hr]
      exact rg162_93 ⟨fun q => absurd rfl q, fun _ => hno (fun q => hr (rd_okli.mp q).2)⟩
  · rw [if_neg hc]
    refine rg162_83 ⟨fun _ => hno (fun q => hc ?_), fun q => absurd rfl q⟩
    obtain ⟨z1, z2, z3⟩ := (rd_okli.mp q).1
    have : s < rd_fe T b s := rd_pos z1 z2
    simp only [rd_rg, Bool.and_eq_true, decide_eq_true_eq]
    omega
theorem sp163 {k p : Nat} {w : Nat → Nat} {F : ip_F} (hT : RdM T b F) (hp : p ≤ T) (h6 : F 193 16 = Int32.ofNat p)
    (h1 : ∀ q, rd_end T b k (.inr (w, p)) = .inl q → ∀ F', F' 193 16 = Int32.ofNat q → rd_F F F' → Q (some (.int 0)) (hs t, F', G))
    (h2 : ∀ q, rd_end T b k (.inr (w, p)) = .inr (k, w, q) → ∀ F', F' 193 16 = Int32.ofNat q → rd_F F F' → Q (some (.int 1)) (hs t, F', G)) :
    wp 163 0 [.ref 193] [] (hs t, F, G) Q := by
  have h150 := hT.1
  obtain ⟨s1, s2⟩ := rd_skb (b := b) hp
  refine rg163_0 (sp156 (T - p) p F (by omega) hT h6 (fun F1 k1 k2 => rg163_4 (sp155 (rd_Fm hT k2) s2 k1 ?_)))
  by_cases hc : rd_sk T b p < T ∧ b (rd_sk T b p) = 59
  · have e : rd_end T b k (.inr (w, p)) = .inr (k, w, rd_sk T b p + 1) := by rw [rd_end, if_pos hc]
    rw [b8_lt hc.1, hc.2]
    refine rg163_8 ⟨fun _ => h2 _ e _ ?_ (rd_Ft k2 (rd_Fu (Or.inl rfl))), fun q => absurd rfl q⟩
    rw [u_s, if_pos rfl, k1]
    exact nn_add _ 1
  · have e : rd_end T b k (.inr (w, p)) = .inl (rd_sk T b p) := by rw [rd_end, if_neg hc]
    refine rg163_8 ⟨fun q => ?_, fun _ => h1 _ e F1 k1 k2⟩
    by_cases hs : rd_sk T b p < T
    · have hb := (hT.2.2 _ hs).1
      rw [b8_lt hs] at q
      exact absurd ⟨hs, (nn_eq (b := 59) (by omega) (by omega)).mp q⟩ hc
    · rw [b8_ge (by omega)] at q
      exact absurd q (by decide)
end MOD
