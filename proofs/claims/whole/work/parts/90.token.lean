/-! ===== the reader's tokens ===== -/
def rd_rg (lo hi x : Nat) : Bool := decide (lo ≤ x) && decide (x ≤ hi)
def rd_r9 (P : Nat → Bool) (T : Nat) (b : Nat → Nat) : Nat → Nat → Nat
  | 0, p => p
  | d + 1, p => if p < T ∧ P (b p) = true then rd_r9 P T b d (p + 1) else p
/-- the end of a run of such bytes, from p on -/
def rd_rn (P : Nat → Bool) (T : Nat) (b : Nat → Nat) (p : Nat) : Nat := rd_r9 P T b (T - p) p
theorem rd_eq (P : Nat → Bool) (T : Nat) (b : Nat → Nat) (p : Nat) : rd_rn P T b p = if p < T ∧ P (b p) = true then rd_rn P T b (p + 1) else p := by
  unfold rd_rn
  by_cases h : p < T
  · obtain ⟨d, hd⟩ : ∃ d, T - p = d + 1 := ⟨T - p - 1, by omega⟩
    rw [hd, rd_r9, show T - (p + 1) = d by omega]
  · rw [show T - p = 0 by omega, rd_r9, if_neg (fun q => h q.1)]
theorem rd_le (P : Nat → Bool) (T : Nat) (b : Nat → Nat) : ∀ d p, p + d = T → p ≤ rd_rn P T b p ∧ rd_rn P T b p ≤ T := by
  intro d
  induction d with
  | zero =>
    intro p hp
    rw [rd_eq, if_neg (fun q => by omega)]
    omega
  | succ d ih =>
    intro p hp
    rw [rd_eq]
    split
    · have := ih (p + 1) (by omega)
      omega
    · omega
theorem rd_ge {P : Nat → Bool} {T : Nat} {b : Nat → Nat} {p : Nat} (hp : p ≤ T) : p ≤ rd_rn P T b p := (rd_le P T b (T - p) p (by omega)).1
theorem rd_T {P : Nat → Bool} {T : Nat} {b : Nat → Nat} {p : Nat} (hp : p ≤ T) : rd_rn P T b p ≤ T := (rd_le P T b (T - p) p (by omega)).2
theorem rd_in (P : Nat → Bool) (T : Nat) (b : Nat → Nat) : ∀ d p, p + d = T → ∀ j, p ≤ j → j < rd_rn P T b p → P (b j) = true := by
  intro d
  induction d with
  | zero =>
    intro p hp j h1 h2
    rw [rd_eq, if_neg (fun q => by omega)] at h2
    omega
  | succ d ih =>
    intro p hp j h1 h2
    rw [rd_eq] at h2
    split at h2
    · rename_i hc
      by_cases e : j = p
      · subst e
        exact hc.2
      · exact ih (p + 1) (by omega) j (by omega) h2
    · omega
theorem rd_pos {P : Nat → Bool} {T : Nat} {b : Nat → Nat} {p : Nat} (hp : p < T) (h : P (b p) = true) : p < rd_rn P T b p := by
  rw [rd_eq, if_pos ⟨hp, h⟩]
  have := rd_ge (P := P) (b := b) (show p + 1 ≤ T by omega)
  omega
abbrev rd_sk (T : Nat) (b : Nat → Nat) (p : Nat) : Nat := rd_rn (rd_rg 32 32) T b p
abbrev rd_we (T : Nat) (b : Nat → Nat) (p : Nat) : Nat := rd_rn (rd_rg 97 122) T b p
abbrev rd_fe (T : Nat) (b : Nat → Nat) (p : Nat) : Nat := rd_rn (rd_rg 48 57) T b p
def rd_sw (b : Nat → Nat) (w p e : Nat) : Bool := decide (e - p = wn8 w) && (List.range (wn8 w)).all (fun i => b (p + i) == wb8 w i)
theorem rd_swi {b : Nat → Nat} {w p e : Nat} : rd_sw b w p e = true ↔ SW8 b w p e := by
  unfold rd_sw SW8
  simp only [Bool.and_eq_true, decide_eq_true_eq, List.all_eq_true, List.mem_range, beq_iff_eq]
/-- the word between p and e; 5: none -/
def rd_wd (b : Nat → Nat) (p e : Nat) : Nat := if rd_sw b 0 p e = true then 0 else if rd_sw b 1 p e = true then 1 else if rd_sw b 2 p e = true then 2 else if rd_sw b 3 p e = true then 3 else if rd_sw b 4 p e = true then 4 else 5
def rd_wv (k : Nat) : Int32 := if k < 5 then Int32.ofNat k else -1
def rd_nm (b : Nat → Nat) (p e : Nat) : Nat := if e - p = 1 then b p - 48 else 10 * (b p - 48) + (b (p + 1) - 48)
/-- the token at s -/
def rd_is (T : Nat) (b : Nat → Nat) (s : Nat) (tk te tv : Int32) : Prop :=
  (T ≤ s ∧ tk = 0) ∨ (s < T ∧ ((rd_rg 97 122 (b s) = true ∧ tk = 1 ∧ te = Int32.ofNat (rd_we T b s) ∧ tv = rd_wv (rd_wd b s (rd_we T b s))) ∨
    (rd_rg 48 57 (b s) = true ∧ rd_fe T b s - s ≤ 2 ∧ tk = 2 ∧ te = Int32.ofNat (rd_fe T b s) ∧ tv = Int32.ofNat (rd_nm b s (rd_fe T b s))) ∨
    (rd_rg 48 57 (b s) = true ∧ 2 < rd_fe T b s - s ∧ tk = 4) ∨ (b s = 59 ∧ tk = 3 ∧ te = Int32.ofNat (s + 1)) ∨ (rd_rg 97 122 (b s) = false ∧ rd_rg 48 57 (b s) = false ∧ ¬ b s = 59 ∧ tk = 4)))
theorem rd_fr {T : Nat} {b : Nat → Nat} {F F' : ip_F} (h : RdC T b F) (e1 : F' 62 = F 62) (e2 : F' 63 = F 63) : RdC T b F' := by
  unfold RdC
  rw [e1, e2]
  exact h
theorem rd_bz {lo hi x : Nat} (hlo : lo < 1000) (hhi : hi < 1000) (hx : x < 1000) : bz (Int32.ofNat lo ≤ Int32.ofNat x ∧ Int32.ofNat x ≤ Int32.ofNat hi) = if rd_rg lo hi x = true then 1 else 0 := by
  unfold rd_rg
  simp only [Bool.and_eq_true, decide_eq_true_eq]
  exact bz_iff (d := lo ≤ x ∧ x ≤ hi) (and_congr (nn_le (by omega) (by omega)) (nn_le (by omega) (by omega)))
section TOK
variable {F : ip_F} {G : ip_G} {Q : Option Value → ip_M → Prop} {T : Nat} {b : Nat → Nat} {t : Nat}
theorem sp41_3 {lo hi : Nat} {z : Int32} (hT : RdC T b F) (hlo : lo < 1000) (hhi : hi < 1000) : ∀ d p, p + d = T → Q (some (.int (Int32.ofNat (rd_rn (rd_rg lo hi) T b p)))) (hs 62, F, G) → wp 41 3 [.ref 64, .int z, .int (Int32.ofNat lo), .int (Int32.ofNat hi), .int (Int32.ofNat p)] [] (hs 62, F, G) Q := by
  intro d
  have h150 := hT.1
  induction d with
  | zero =>
    intro p hp h
    refine rg41_3 (t := 62) ⟨fun _ => ?_, fun q => ?_⟩
    · rw [rd_eq, if_neg (fun q => by omega)] at h
      exact h
    · rw [hT.2.1] at q
      have := (nn_lt (by omega) (by omega)).mp q
      omega
  | succ d ih =>
    intro p hp h
    refine rg41_3 (t := 62) ⟨fun q => ?_, fun q => sp86t hT (by omega) (rg41_24 (t := 62) (sp129 ?_))⟩
    · rw [hT.2.1] at q
      have := (nn_le (by omega) (by omega)).mp q
      omega
    · have hb := (hT.2.2 p (by omega)).1
      rw [b8_lt (by omega), rd_bz hlo hhi (by omega)]
      rw [rd_eq] at h
      by_cases e : rd_rg lo hi (b p) = true
      · rw [if_pos e]
        rw [if_pos ⟨by omega, e⟩] at h
        refine rg41_29 (t := 62) ⟨fun q => absurd q (by decide), fun _ => ?_⟩
        rw [show Int32.ofNat p + 1 = Int32.ofNat (p + 1) from nn_add p 1]
        exact ih (p + 1) (by omega) h
      · rw [if_neg e]
        rw [if_neg (fun q => e q.2)] at h
        exact rg41_29 (t := 62) ⟨fun _ => h, fun q => absurd rfl q⟩
theorem sp41 {lo hi p : Nat} (hT : RdC T b F) (hlo : lo < 1000) (hhi : hi < 1000) (hp : p ≤ T) (h : Q (some (.int (Int32.ofNat (rd_rn (rd_rg lo hi) T b p)))) (hs 62, F, G)) : wp 41 0 [.ref 64, .int (Int32.ofNat p), .int (Int32.ofNat lo), .int (Int32.ofNat hi), .float 0] [] (hs 62, F, G) Q :=
  rg41_0 (t := 62) (sp41_3 hT hlo hhi (T - p) p (by omega) h)
theorem sp43 {w : Nat} (hw : w < 5) (h : Q (some (.ref (1000001 + w))) (hs 62, F, G)) : wp 43 0 [.int (Int32.ofNat w)] [] (hs 62, F, G) Q := by
  match w, hw with
  | 0, _ => exact rg43_0 (t := 62) ⟨fun _ => h, fun q => absurd q (by decide), fun q => absurd q (by decide), fun q => absurd q (by decide), fun q => absurd rfl q.1⟩
  | 1, _ => exact rg43_0 (t := 62) ⟨fun q => absurd q (by decide), fun _ => h, fun q => absurd q (by decide), fun q => absurd q (by decide), fun q => absurd rfl q.2.1⟩
  | 2, _ => exact rg43_0 (t := 62) ⟨fun q => absurd q (by decide), fun q => absurd q (by decide), fun _ => h, fun q => absurd q (by decide), fun q => absurd rfl q.2.2.1⟩
  | 3, _ => exact rg43_0 (t := 62) ⟨fun q => absurd q (by decide), fun q => absurd q (by decide), fun q => absurd q (by decide), fun _ => h, fun q => absurd rfl q.2.2.2⟩
  | 4, _ => exact rg43_0 (t := 62) ⟨fun q => absurd q (by decide), fun q => absurd q (by decide), fun q => absurd q (by decide), fun q => absurd q (by decide), fun _ => h⟩
theorem sp42_s {p e w : Nat} (hT : RdC T b F) (hpe : p ≤ e) (he : e ≤ T) (h4 : F 64 4 = Int32.ofNat p) (h5 : F 64 5 = Int32.ofNat e) (hw : w < 5) (h1 : rd_sw b w p e = true → Q (some (.int (Int32.ofNat w))) (hs 62, F, G)) (h2 : ¬ rd_sw b w p e = true → wp 42 2 [.ref 64, .int (Int32.ofNat (w + 1))] [] (hs 62, F, G) Q) : wp 42 2 [.ref 64, .int (Int32.ofNat w)] [] (hs 62, F, G) Q := by
  refine rg42_2 (t := 62) (w := 0) ⟨fun q => ?_, fun _ => sp43 hw (rg42_15 (t := 62) ?_)⟩
  · have := (nn_lt (a := 4) (by omega) (by omega)).mp q
    omega
  · rw [h4, h5]
    refine sp87 hT hw hpe he (fun q => ?_) (fun q => ?_)
    · exact rg42_26 (t := 62) (w := 0) ⟨fun q2 => absurd q2 (by decide), fun _ => h1 (rd_swi.mpr q)⟩
    · refine rg42_26 (t := 62) (w := 0) ⟨fun _ => ?_, fun q2 => absurd rfl q2⟩
      rw [show Int32.ofNat w + 1 = Int32.ofNat (w + 1) from nn_add w 1]
      exact h2 (fun q2 => q (rd_swi.mp q2))
theorem sp42 {p e : Nat} (hT : RdC T b F) (hpe : p ≤ e) (he : e ≤ T) (h4 : F 64 4 = Int32.ofNat p) (h5 : F 64 5 = Int32.ofNat e) (h : Q (some (.int (rd_wv (rd_wd b p e)))) (hs 62, F, G)) : wp 42 0 [.ref 64, .float 0] [] (hs 62, F, G) Q := by
  unfold rd_wd at h
  refine rg42_0 (t := 62) (w := 0) (sp42_s (w := 0) hT hpe he h4 h5 (by decide) (fun q => ?_) (fun q => ?_))
  · rw [if_pos q] at h
    exact h
  rw [if_neg q] at h
  refine sp42_s (w := 1) hT hpe he h4 h5 (by decide) (fun q => ?_) (fun q => ?_)
  · rw [if_pos q] at h
    exact h
  rw [if_neg q] at h
  refine sp42_s (w := 2) hT hpe he h4 h5 (by decide) (fun q => ?_) (fun q => ?_)
  · rw [if_pos q] at h
    exact h
  rw [if_neg q] at h
  refine sp42_s (w := 3) hT hpe he h4 h5 (by decide) (fun q => ?_) (fun q => ?_)
  · rw [if_pos q] at h
    exact h
  rw [if_neg q] at h
  refine sp42_s (w := 4) hT hpe he h4 h5 (by decide) (fun q => ?_) (fun q => ?_)
  · rw [if_pos q] at h
    exact h
  rw [if_neg q] at h
  exact rg42_2 (t := 62) (w := 0) ⟨fun _ => h, fun q => absurd q (by decide)⟩
theorem sp44_s {p e v q : Nat} (hT : RdC T b F) (he : e ≤ T) (h5 : F 64 5 = Int32.ofNat e) (hq : q < e) (hv : v < 1000) (hb : 48 ≤ b q) (h : wp 44 22 [.ref 64, .int (Int32.ofNat (10 * v + (b q - 48))), .int (Int32.ofNat (q + 1))] [] (hs 62, F, G) Q) : wp 44 22 [.ref 64, .int (Int32.ofNat v), .int (Int32.ofNat q)] [] (hs 62, F, G) Q := by
  have h150 := hT.1
  refine rg44_22 (t := 62) ⟨fun q => ?_, fun _ => sp86t hT (by omega) ?_⟩
  · rw [h5] at q
    have := (nn_le (by omega) (by omega)).mp q
    omega
  · have hb2 := (hT.2.2 q (by omega)).1
    rw [b8_lt (by omega)]
    refine rg44_42 (t := 62) ?_
    rw [show (10 : Int32) * Int32.ofNat v = Int32.ofNat (10 * v) from nn_mul 10 v, nn_add, show (48 : Int32) = Int32.ofNat 48 from rfl, nn_sub (by omega), show Int32.ofNat q + 1 = Int32.ofNat (q + 1) from nn_add q 1, show 10 * v + b q - 48 = 10 * v + (b q - 48) by omega]
    exact h
theorem sp44_e {v e : Nat} (he : e ≤ 1000) (h5 : F 64 5 = Int32.ofNat e) (h : Q (some (.int (Int32.ofNat v))) (hs 62, F, G)) : wp 44 22 [.ref 64, .int (Int32.ofNat v), .int (Int32.ofNat e)] [] (hs 62, F, G) Q := by
  refine rg44_22 (t := 62) ⟨fun _ => h, fun q => ?_⟩
  rw [h5] at q
  have := (nn_lt (by omega) (by omega)).mp q
  omega
theorem sp44 {p e : Nat} (hT : RdC T b F) (hpe : p < e) (he : e ≤ T) (h4 : F 64 4 = Int32.ofNat p) (h5 : F 64 5 = Int32.ofNat e) (hb : ∀ j, p ≤ j → j < e → 48 ≤ b j) (h1 : e - p ≤ 2 → Q (some (.int (Int32.ofNat (rd_nm b p e)))) (hs 62, F, G)) (h2 : 2 < e - p → Q (some (.int (-1))) (hs 62, F, G)) : wp 44 0 [.ref 64, .float 0, .float 0] [] (hs 62, F, G) Q := by
  have h150 := hT.1
  refine rg44_0 (t := 62) ⟨fun q => ?_, fun q => ?_⟩
  · rw [h4, h5, nn_sub (by omega)] at q
    have q2 := (nn_le (b := 2) (by omega) (by omega)).mp q
    rw [h4]
    have h1 := h1 q2
    have hbp := (hT.2.2 p (by omega)).1
    refine sp44_s (p := p) (v := 0) hT he h5 hpe (by omega) (hb p (by omega) hpe) ?_
    by_cases e1 : e - p = 1
    · rw [rd_nm, if_pos e1] at h1
      rw [show p + 1 = e by omega, show 10 * 0 + (b p - 48) = b p - 48 by omega]
      exact sp44_e (by omega) h5 h1
    · rw [rd_nm, if_neg e1] at h1
      refine sp44_s (p := p) hT he h5 (by omega) (by omega) (hb (p + 1) (by omega) (by omega)) ?_
      rw [show p + 1 + 1 = e by omega, show 10 * (10 * 0 + (b p - 48)) + (b (p + 1) - 48) = 10 * (b p - 48) + (b (p + 1) - 48) by omega]
      exact sp44_e (by omega) h5 h1
  · rw [h4, h5, nn_sub (by omega)] at q
    exact h2 ((nn_lt (a := 2) (by omega) (by omega)).mp q)
theorem sp40 {p : Nat} (hT : RdC T b F) (hp : p ≤ T) (h5 : F 64 5 = Int32.ofNat p) (h : ∀ F', F' 64 4 = Int32.ofNat (rd_sk T b p) → rd_is T b (rd_sk T b p) (F' 64 3) (F' 64 5) (F' 64 6) → (∀ a, a ≠ 64 → F' a = F a) → Q none (hs 62, F', G)) : wp 40 0 [.ref 64, .float 0] [] (hs 62, F, G) Q := by
  have h150 := hT.1
  refine rg40_0 (t := 62) ?_
  rw [h5]
  refine sp41 (lo := 32) (hi := 32) hT (by omega) (by omega) hp (rg40_13 (t := 62) ?_)
  have hs1 : p ≤ rd_sk T b p := rd_ge hp
  have hs2 : rd_sk T b p ≤ T := rd_T hp
  show wp 86 0 [.ref 62, .int (Int32.ofNat (rd_sk T b p))] [] _ _
  unfold rd_sk at h hs1 hs2 ⊢
  generalize hs0 : rd_rn (rd_rg 32 32) T b p = s at h hs1 hs2 ⊢
  generalize hF1 : ip_u (ip_u (ip_u F 64 4 (Int32.ofNat s)) 64 5 (((ip_u F 64 4 (Int32.ofNat s)) 64 4) + (1 : Int32))) 64 6 (-1 : Int32) = F1
  have g4 : F1 64 4 = Int32.ofNat s := by rw [← hF1]; rfl
  have g5 : F1 64 5 = Int32.ofNat (s + 1) := by rw [← hF1]; exact nn_add s 1
  have g6 : F1 64 6 = -1 := by rw [← hF1]; rfl
  have gf : ∀ a, a ≠ 64 → F1 a = F a := fun a ha => by rw [← hF1, u_n ha, u_n ha, u_n ha]
  have hT1 : RdC T b F1 := rd_fr hT (gf 62 (by decide)) (gf 63 (by decide))
  refine sp86t hT1 (by omega) ?_
  by_cases hsT : T ≤ s
  · rw [b8_ge hsT]
    refine rg40_42 (t := 62) ⟨fun q => absurd rfl q, fun _ => h _ ?_ (Or.inl ⟨hsT, rfl⟩) (fun a ha => by rw [u_n ha, u_n ha, gf a ha])⟩
    exact g4
  have hsT : s < T := by omega
  have hbs := (hT.2.2 s hsT).1
  rw [b8_lt hsT]
  refine rg40_42 (t := 62) ⟨fun _ => sp129 ?_, fun q => absurd (show Int32.ofNat (b s) = -Int32.ofNat 1 from q) (nn_nem1 (by omega))⟩
  rw [show (97 : Int32) = Int32.ofNat 97 from rfl, show (122 : Int32) = Int32.ofNat 122 from rfl, rd_bz (by omega) (by omega) (by omega)]
  by_cases hl : rd_rg 97 122 (b s) = true
  · rw [if_pos hl]
    refine rg40_72 (t := 62) ⟨fun q => absurd q (by decide), fun _ => ?_⟩
    have hT2 : RdC T b (ip_u F1 64 3 1) := rd_fr hT1 (u_n (by decide)) (u_n (by decide))
    rw [show ip_u F1 64 3 1 64 4 = Int32.ofNat s from g4]
    refine sp41 (lo := 97) (hi := 122) hT2 (by omega) (by omega) hs2 (rg40_93 (t := 62) ?_)
    have hT3 : RdC T b (ip_u (ip_u F1 64 3 1) 64 5 (Int32.ofNat (rd_we T b s))) := rd_fr hT2 (u_n (by decide)) (u_n (by decide))
    refine sp42 (p := s) (e := rd_we T b s) hT3 (rd_ge hs2) (rd_T hs2) g4 rfl (rg40_101 (t := 62) (h _ g4 (Or.inr ⟨hsT, Or.inl ⟨hl, rfl, rfl, rfl⟩⟩) (fun a ha => by rw [u_n ha, u_n ha, u_n ha, gf a ha])))
  rw [if_neg hl]
  refine rg40_72 (t := 62) ⟨fun _ => sp129 ?_, fun q => absurd rfl q⟩
  rw [show (48 : Int32) = Int32.ofNat 48 from rfl, show (57 : Int32) = Int32.ofNat 57 from rfl, rd_bz (by omega) (by omega) (by omega)]
  by_cases hf : rd_rg 48 57 (b s) = true
  · rw [if_pos hf]
    refine rg40_115 (t := 62) ⟨fun q => absurd q (by decide), fun _ => ?_⟩
    rw [g4]
    refine sp41 (lo := 48) (hi := 57) hT1 (by omega) (by omega) hs2 (rg40_131 (t := 62) ?_)
    have hT3 : RdC T b (ip_u F1 64 5 (Int32.ofNat (rd_fe T b s))) := rd_fr hT1 (u_n (by decide)) (u_n (by decide))
    have hfb : ∀ j, s ≤ j → j < rd_fe T b s → 48 ≤ b j := fun j j1 j2 => by
      have := rd_in (rd_rg 48 57) T b (T - s) s (by omega) j j1 j2
      simp only [rd_rg, Bool.and_eq_true, decide_eq_true_eq] at this
      exact this.1
    refine sp44 (p := s) (e := rd_fe T b s) hT3 (rd_pos hsT hf) (rd_T hs2) g4 rfl hfb (fun q => ?_) (fun q => ?_)
    · refine rg40_139 (t := 62) ⟨fun _ => rg40_156 (t := 62) (h _ g4 (Or.inr ⟨hsT, Or.inr (Or.inl ⟨hf, q, rfl, rfl, rfl⟩)⟩) (fun a ha => by rw [u_n ha, u_n ha, u_n ha, gf a ha])), fun q2 => ?_⟩
      have hnm : rd_nm b s (rd_fe T b s) < 10000 := by
        have k1 := (hT.2.2 s hsT).1
        unfold rd_nm
        split
        · omega
        · rename_i hne
          have z1 : s < rd_fe T b s := rd_pos hsT hf
          have z2 : rd_fe T b s ≤ T := rd_T hs2
          have k2 := (hT.2.2 (s + 1) (by omega)).1
          omega
      exact absurd (show Int32.ofNat (rd_nm b s (rd_fe T b s)) = -Int32.ofNat 1 from q2) (nn_nem1 (by omega))
    · refine rg40_139 (t := 62) ⟨fun q2 => absurd rfl q2, fun _ => rg40_156 (t := 62) (h _ g4 (Or.inr ⟨hsT, Or.inr (Or.inr (Or.inl ⟨hf, q, rfl⟩))⟩) (fun a ha => by rw [u_n ha, u_n ha, u_n ha, gf a ha]))⟩
  rw [if_neg hf]
  refine rg40_115 (t := 62) ⟨fun _ => ⟨fun q => ?_, fun q => ?_⟩, fun q => absurd rfl q⟩
  · refine rg40_174 (t := 62) (h _ g4 (Or.inr ⟨hsT, Or.inr (Or.inr (Or.inr (Or.inr ⟨by simpa using hl, by simpa using hf, fun e => q (by rw [e]; rfl), rfl⟩)))⟩) (fun a ha => by rw [u_n ha, gf a ha]))
  · have q1 := (nn_eq (b := 59) (by omega) (by omega)).mp q
    refine rg40_174 (t := 62) (h _ g4 (Or.inr ⟨hsT, Or.inr (Or.inr (Or.inr (Or.inl ⟨q1, rfl, g5⟩)))⟩) (fun a ha => by rw [u_n ha, gf a ha]))
end TOK
