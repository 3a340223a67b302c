/-! ===== the two constructors, run by the kernel ===== -/
def cz_1 : Option ip_M := (ip_run none 4000 91 0 (ip_loc (ip_mB 91).2.2.1 [.ref 0]) [] ([(3, 9, ip_dfl 9)], ip_ur (fun _ _ => 0) 0 (fun _ => 0), ip_ur (fun _ _ => 0) 0 (fun _ => 0)) (0, 0)).bind fun r => if r.1.isNone then some r.2 else none
def cz_n (M : ip_M) : ip_M := (M.1 ++ [(3, 10, ip_dfl 10)], ip_ur M.2.1 193 (fun _ => 0), ip_ur M.2.2 193 (fun _ => 0))
def cz_L0 : List Value := [.ref ip_EX, .float 0, .float 0, .float 0]
def cz_L1 : List Value := [.ref ip_EX, .ref 0, .float 0, .float 0]
def cz_g (M : ip_M) : Bool := decide (M.1.length = 193) && ip_wf M cz_L1 [] && ip_wf (cz_n M) cz_L1 [.ref 193, .ref 193]
def cz_2 : Option ip_M := cz_1.bind fun M => if cz_g M then (ip_run none 4000 148 0 (ip_loc (ip_mB 148).2.2.1 [.ref 193]) [] (cz_n M) (0, 0)).bind fun r => if r.1.isNone then some r.2 else none else none
def cz_ok (M : ip_M) : Bool := decide (M.1 = hs 86) && (List.range 6).all (fun i => M.2.1 2 i == M.2.1 195 i) && M.2.1 1 6 == 5 && M.2.1 193 1 == 5 && M.2.1 5 1 == 0 && M.2.1 193 22 == 0 && M.2.1 15 1 == 0 && M.2.1 193 3 == 0 && M.2.1 17 1 == 0 && M.2.1 193 4 == 0 && M.2.1 19 1 == 0 && M.2.1 193 5 == 0 && M.2.1 62 1 == 0 && M.2.1 193 15 == 0 &&
  (List.range 2).all (fun i => M.2.1 61 i == 0 && M.2.1 212 i == 0) && (List.range 3).all (fun i => M.2.1 192 i == 0 && M.2.1 194 i == 0) && M.2.2 0 9 == M.2.2 193 26 && M.2.2 0 10 == M.2.2 193 27 &&
  (List.range 25).all (fun i => M.2.1 4 i == if i < 12 then -1 else 0) && (List.range 25).all (fun i => mr9 M.2.1 i == if i < 12 then -1 else 0)
theorem cz_1a : ip_wf ([], fun _ _ => 0, fun _ _ => 0) cz_L0 [] = true ∧ ip_wf ([(3, 9, ip_dfl 9)], fun _ _ => 0, fun _ _ => 0) cz_L0 [.ref 0, .ref 0] = true := by decide +kernel
theorem cz_chk : (match cz_2 with
  | some M => cz_ok M
  | none => false) = true := by decide +kernel
theorem cz_fin : ∃ (M1 : ip_M) (F : ip_F) (G : ip_G), cz_1 = some M1 ∧ cz_g M1 = true ∧ (∃ n v, v = none ∧ ip_run none n 148 0 (ip_loc (ip_mB 148).2.2.1 [.ref 193]) [] (cz_n M1) (0, 0) = some (v, (hs 86, F, G))) ∧ INV 86 F G := by
  have h := cz_chk
  revert h
  unfold cz_2
  cases e1 : cz_1 with
  | none => intro h; cases h
  | some M1 =>
    simp only [Option.bind_some]
    by_cases hg : cz_g M1 = true
    · rw [if_pos hg]
      cases e2 : ip_run none 4000 148 0 (ip_loc (ip_mB 148).2.2.1 [.ref 193]) [] (cz_n M1) (0, 0) with
      | none => intro h; cases h
      | some r =>
        obtain ⟨v, sh, F, G⟩ := r
        simp only [Option.bind_some]
        cases v with
        | some v => intro h; cases h
        | none =>
          simp only [Option.isNone_none, if_true]
          intro h
          simp only [cz_ok, Bool.and_eq_true, decide_eq_true_eq, beq_iff_eq, List.all_eq_true, List.mem_range] at h
          obtain ⟨⟨⟨⟨⟨⟨⟨⟨⟨⟨⟨⟨⟨⟨⟨⟨⟨⟨⟨h1, h2⟩, h3⟩, h4⟩, h5⟩, h6⟩, h7⟩, h8⟩, h9⟩, h10⟩, h11⟩, h12⟩, h13⟩, h14⟩, h15⟩, h16⟩, h17⟩, h18⟩, h19⟩, h20⟩ := h
          subst h1
          refine ⟨M1, F, G, rfl, hg, ⟨4000, none, rfl, e2⟩, Or.inl rfl, ⟨5, ⟨by decide, by decide, h3, h4, h2⟩, ⟨fun i hi => ?_, fun r hr => ?_, fun r hr => ?_⟩, ⟨0, by decide, h5, h6, fun j hj => absurd hj (by omega)⟩, ⟨0, by decide, h7, h8, fun j hj => absurd hj (by omega)⟩, ⟨0, by decide, h9, h10, fun j hj => absurd hj (by omega)⟩, 0, by decide, h11, h12, fun j hj => absurd hj (by omega)⟩, fun i hi => ⟨?_, ?_⟩, fun i hi => ?_, ⟨0, by decide, h13, h14, fun j hj => absurd hj (by omega)⟩, h17, h18⟩
          · rw [h19 i (by omega), h20 i (by omega)]
          · refine Or.inl ⟨?_, ?_⟩
            · rw [h19 r (by omega), if_pos (by omega)]
            · rw [h19 (6 + r) (by omega), if_pos (by omega)]
          · rw [h19 (12 + r) (by omega), if_neg (by omega)]
            exact ⟨0, by decide, rfl⟩
          · rw [(h15 i hi).1, (h15 i hi).2]
          · exact Or.inl (h15 i hi).2
          · rw [(h16 i hi).1, (h16 i hi).2]
    · rw [if_neg hg]
      intro h
      cases h
