/-! ===== the machine does what the interpreter says: arrays ===== -/
theorem sd_eu {ad : Nat → Nat} {dA : Nat → ClassId} {F : ip_F} {G : ip_G} {k t n i : Nat} {q : List Nat} {x : Int32} : sd_e ad dA (ip_u F k i x) G k (1, t, n :: q) = .inl (dA t, n, .inl (upd (F k) i x)) := by
  have : ip_u F k i x k = upd (F k) i x := by funext b; simp [ip_u, upd]
  show (Sum.inl (dA t, n, Sum.inl (ip_u F k i x k)) : va_E) = _
  rw [this]
section SDA
variable {p : Program} {l : Launch} {e : Env} {R : Room} {s : State} {m : MethodId} {args : Array Value} {below : List Frame} {meth : Method} {c : Code} {H : Heap} {locs : List Loc} {cells slots : Nat} {Q : State → Prop}
variable {D : va_G} {dA : Nat → ClassId} {ad : Nat → Nat} {vz : Value} {A : Nat → Prop} {ls : Array Slot} {j pc aux sz0 idx : Nat} {M : ip_M} {k : Nat} {rest : List Value}
theorem sd_ia {t : Nat} {i : Int32} (h : ip_ia M t k i = true) : ∃ (n : Nat) (q : List Nat), M.1[k]? = some (1, t, n :: q) ∧ vp_in i n := by
  unfold ip_ia at h
  split at h
  · rename_i t' n q hk
    simp only [Bool.and_eq_true, decide_eq_true_eq, Bool.not_eq_true', decide_eq_false_iff_not] at h
    obtain ⟨h1, h2⟩ := h
    subst h1
    exact ⟨n, q, hk, h2⟩
  · cases h
theorem sd_ial {top : ip_Top} (hC : sd_C p s m meth c args R j) (hV : sd_V D dA ad vz A s s.heap) (hT : sd_Tp top ad A s) (hP : sd_P D dA ad A s H locs sz0 M) (hdec : decode (ip_mB j).2.1 pc = .ok (.iaload, 1)) {i : Int32} {v : Value} (h : ip_ial top M k i = some v)
    (kk : W p l e R s m args below meth c H locs cells slots Q (F0 m (pc + 1) ls (sd_v ad vz v :: rest))) : W p l e R s m args below meth c H locs cells slots Q (F0 m pc ls (.int i :: sd_v ad vz (.ref k) :: rest)) := by
  obtain ⟨hx, hb, -⟩ := hC
  unfold ip_ial at h
  split at h
  · rename_i hi
    cases h
    obtain ⟨n, q, hk, hin⟩ := sd_ia hi
    rw [sd_v_ref (sd_lt hP hk)]
    exact va_iald hx hb hV.1 hP.1 k 0 (sd_wk' hk) rfl hin hdec kk
  · split at h
    · rename_i hk
      subst hk
      cases top with
      | none => cases h
      | some q =>
        obtain ⟨L, xs⟩ := q
        simp only [Option.bind_some] at h
        split at h
        · cases h
        · rename_i hin
          cases h
          rw [sd_v_ref (by omega)]
          exact va_sld hx hb hT.1 hT.2.1 hT.2.2 hP.2.2.1 hin hdec kk
    · cases h
theorem sd_bal (hC : sd_C p s m meth c args R j) (hV : sd_V D dA ad vz A s s.heap) (hP : sd_P D dA ad A s H locs sz0 M) (hdec : decode (ip_mB j).2.1 pc = .ok (.baload, 1)) {i : Int32} {v : Value} (h : ip_bal M k i = some v)
    (kk : W p l e R s m args below meth c H locs cells slots Q (F0 m (pc + 1) ls (sd_v ad vz v :: rest))) : W p l e R s m args below meth c H locs cells slots Q (F0 m pc ls (.int i :: sd_v ad vz (.ref k) :: rest)) := by
  obtain ⟨hx, hb, -⟩ := hC
  unfold ip_bal at h
  split at h
  · rename_i hi
    cases h
    simp only [Bool.or_eq_true] at hi
    rcases hi with hi | hi
    · obtain ⟨n, q, hk, hin⟩ := sd_ia hi
      rw [sd_v_ref (sd_lt hP hk)]
      exact va_zald hx hb hV.1 hP.1 k 1 (sd_wk' hk) rfl hin hdec kk
    · obtain ⟨n, q, hk, hin⟩ := sd_ia hi
      rw [sd_v_ref (sd_lt hP hk)]
      exact va_bald hx hb hV.1 hP.1 k 2 (sd_wk' hk) rfl hin hdec kk
  · split at h
    · rename_i hk
      split at h
      · cases h
      · rename_i hin
        cases h
        rw [sd_v_ref (by omega)]
        have hS := ((hV.2.2.2.2.1).1 (k - (ip_EX + 11)) (by omega)).2.2.2
        dsimp only at hS
        rw [show ip_EX + 11 + (k - (ip_EX + 11)) = k by omega] at hS
        exact va_tb hx hb hS hP.2.2.1 hin rfl hdec kk
    · cases h
theorem sd_aal (hC : sd_C p s m meth c args R j) (hV : sd_V D dA ad vz A s s.heap) (hP : sd_P D dA ad A s H locs sz0 M) (hdec : decode (ip_mB j).2.1 pc = .ok (.aaload, 1)) {i : Int32} {v : Value} (h : ip_aa M k i = some v)
    (kk : W p l e R s m args below meth c H locs cells slots Q (F0 m (pc + 1) ls (sd_v ad vz v :: rest))) : W p l e R s m args below meth c H locs cells slots Q (F0 m pc ls (.int i :: sd_v ad vz (.ref k) :: rest)) := by
  obtain ⟨hx, hb, -⟩ := hC
  unfold ip_aa at h
  split at h
  · rename_i lf hk
    split at h
    · cases h
    · rename_i hi0
      cases hd : lf[i.toNatClampNeg]? with
      | none => rw [hd] at h; cases h
      | some d =>
        rw [hd] at h
        simp only [Option.bind_some] at h
        have hlt : i.toNatClampNeg < lf.length := (List.getElem?_eq_some_iff.mp hd).1
        match d, h with
        | 0, h => cases h
        | d + 1, h =>
          simp only at h
          split at h
          · rename_i hdx
            cases h
            rw [sd_v_ref (sd_lt hP hk)]
            rw [sd_v_ref (by omega)] at kk
            have hin : vp_in i lf.length := fun q => by
              rcases q with q | q
              · exact hi0 q
              · omega
            have hcell := hP.1 k _ (sd_wk' (ad := ad) (dA := dA) hk)
            have hread : sd_rw ad lf i.toNatClampNeg = some (ad d) := by simp [sd_rw, hd, sd_ro]
            exact W.aald (v := .ref (ad d)) (ty := .array .int) hx hb hcell ((hV.1.2 3 _ rfl).1 lf.length (fun j => va_rf (sd_rw ad lf j))) rfl (fun q => by cases q) (by show ¬ (i < 0 ∨ (arrV _ _ _).slots.size ≤ _); rw [arrV_size]; exact hin) (by show (arrV _ _ _).slots[_]? = _; rw [arrV_read _ _ hlt, hread]; rfl) rfl rfl hdec kk
          · cases h
  · cases h
theorem sd_ias (hC : sd_C p s m meth c args R j) (hV : sd_V D dA ad vz A s s.heap) (hP : sd_P D dA ad A s H locs sz0 M) (hdec : decode (ip_mB j).2.1 pc = .ok (.iastore, 1)) {i x : Int32} (h : ip_ia M 0 k i = true)
    (kk : ∀ (H1 : Heap) (locs1 : List Loc), sd_P D dA ad A s H1 locs1 sz0 (M.1, ip_u M.2.1 k i.toNatClampNeg x, M.2.2) → W p l e R s m args below meth c H1 locs1 cells slots Q (F0 m (pc + 1) ls rest)) : W p l e R s m args below meth c H locs cells slots Q (F0 m pc ls (.int x :: .int i :: sd_v ad vz (.ref k) :: rest)) := by
  obtain ⟨hx, hb, -⟩ := hC
  obtain ⟨n, q, hk, hin⟩ := sd_ia h
  rw [sd_v_ref (sd_lt hP hk)]
  obtain ⟨g1, g2, g3, g4, g5⟩ := hP
  have hw : sd_w ad dA (M.1, ip_u M.2.1 k i.toNatClampNeg x, M.2.2) = (sd_w ad dA M).set k (ad k, .inl (dA 0, n, .inl (upd (M.2.1 k) i.toNatClampNeg x))) := by
    rw [sd_set' hk (fun a ha => by funext b; simp [ip_u, ha]) (fun a _ => rfl), sd_eu]
  refine va_iast hx hb hV.1 g1 g2 g3 k 0 (sd_wk' hk) rfl hin hdec fun H1 locs1 q1 q2 q3 => ?_
  exact kk H1 locs1 ⟨by rw [hw]; exact q1, by rw [hw]; exact q2, q3, g4, g5⟩
theorem sd_bas (hC : sd_C p s m meth c args R j) (hV : sd_V D dA ad vz A s s.heap) (hP : sd_P D dA ad A s H locs sz0 M) (hdec : decode (ip_mB j).2.1 pc = .ok (.bastore, 1)) {i x : Int32} {M' : ip_M} (h : ip_bas M k i x = some M')
    (kk : ∀ (H1 : Heap) (locs1 : List Loc), sd_P D dA ad A s H1 locs1 sz0 M' → W p l e R s m args below meth c H1 locs1 cells slots Q (F0 m (pc + 1) ls rest)) : W p l e R s m args below meth c H locs cells slots Q (F0 m pc ls (.int x :: .int i :: sd_v ad vz (.ref k) :: rest)) := by
  obtain ⟨hx, hb, -⟩ := hC
  unfold ip_bas at h
  split at h
  · rename_i hi
    cases h
    obtain ⟨n, q, hk, hin⟩ := sd_ia hi
    rw [sd_v_ref (sd_lt hP hk)]
    obtain ⟨g1, g2, g3, g4, g5⟩ := hP
    have hw : sd_w ad dA (M.1, ip_u M.2.1 k i.toNatClampNeg (vp_nar .boolean x), M.2.2) = (sd_w ad dA M).set k (ad k, .inl (dA 1, n, .inl (upd (M.2.1 k) i.toNatClampNeg (vp_nar .boolean x)))) := by
      rw [sd_set' hk (fun a ha => by funext b; simp [ip_u, ha]) (fun a _ => rfl), sd_eu]
    refine va_zast hx hb hV.1 g1 g2 g3 k 1 (sd_wk' hk) rfl hin hdec fun H1 locs1 q1 q2 q3 => ?_
    exact kk H1 locs1 ⟨by rw [hw]; exact q1, by rw [hw]; exact q2, q3, g4, g5⟩
  · split at h
    · rename_i hi
      cases h
      obtain ⟨n, q, hk, hin⟩ := sd_ia hi
      rw [sd_v_ref (sd_lt hP hk)]
      obtain ⟨g1, g2, g3, g4, g5⟩ := hP
      have hw : sd_w ad dA (M.1, ip_u M.2.1 k i.toNatClampNeg (vp_nar .byte x), M.2.2) = (sd_w ad dA M).set k (ad k, .inl (dA 2, n, .inl (upd (M.2.1 k) i.toNatClampNeg (vp_nar .byte x)))) := by
        rw [sd_set' hk (fun a ha => by funext b; simp [ip_u, ha]) (fun a _ => rfl), sd_eu]
      refine va_bast hx hb hV.1 g1 g2 g3 k 2 (sd_wk' hk) rfl hin hdec fun H1 locs1 q1 q2 q3 => ?_
      exact kk H1 locs1 ⟨by rw [hw]; exact q1, by rw [hw]; exact q2, q3, g4, g5⟩
    · cases h
theorem sd_len {top : ip_Top} (hC : sd_C p s m meth c args R j) (hV : sd_V D dA ad vz A s s.heap) (hT : sd_Tp top ad A s) (hP : sd_P D dA ad A s H locs sz0 M) (hdec : decode (ip_mB j).2.1 pc = .ok (.arraylength, 1)) {v : Int32} (h : ip_len top M k = some v)
    (kk : W p l e R s m args below meth c H locs cells slots Q (F0 m (pc + 1) ls (.int v :: rest))) : W p l e R s m args below meth c H locs cells slots Q (F0 m pc ls (sd_v ad vz (.ref k) :: rest)) := by
  obtain ⟨hx, hb, -⟩ := hC
  unfold ip_len at h
  split at h
  · rename_i t n q hk
    split at h
    · rename_i ht
      cases h
      rw [sd_v_ref (sd_lt hP hk)]
      match t, ht, hk with
      | 0, _, hk => exact va_alen hx hb hV.1 hP.1 k 0 (sd_wk' hk) rfl rfl hdec kk
      | 1, _, hk => exact va_alen hx hb hV.1 hP.1 k 1 (sd_wk' hk) rfl rfl hdec kk
      | 2, _, hk => exact va_alen hx hb hV.1 hP.1 k 2 (sd_wk' hk) rfl rfl hdec kk
    · cases h
  · rename_i lf hk
    cases h
    rw [sd_v_ref (sd_lt hP hk)]
    exact va_alen hx hb hV.1 hP.1 k 3 (sd_wk' hk) rfl rfl hdec kk
  · cases h
  · split at h
    · rename_i hk
      subst hk
      cases top with
      | none => cases h
      | some q =>
        obtain ⟨L, xs⟩ := q
        simp only [Option.map_some, Option.some.injEq] at h
        subst h
        rw [sd_v_ref (by omega)]
        exact va_slen hx hb hT.1 hT.2.1 hT.2.2 hP.2.2.1 hdec kk
    · split at h
      · rename_i hk
        have h := Option.some.inj h
        subst h
        rw [sd_v_ref (by omega)]
        have hS := ((hV.2.2.2.2.1).1 (k - (ip_EX + 11)) (by omega)).2.2.2
        dsimp only at hS
        rw [show ip_EX + 11 + (k - (ip_EX + 11)) = k by omega] at hS
        exact va_tlen hx hb hS hP.2.2.1 rfl hdec kk
      · cases h
theorem sd_copy (hC : sd_C p s m meth c args R j) (hV : sd_V D dA ad vz A s s.heap) (hls : ls.size = (ip_mB j).2.2.1) (hP : sd_P D dA ad A s H locs sz0 M) (hdec : decode (ip_mB j).2.1 pc = .ok (.invokestatic idx, 3)) (hlk : ip_AL.any (fun e => decide (e.1 = (ip_mI j).1 ∧ e.2.1 = idx)) = true) {S : List Value} {q : List Value × ip_M} (h : ip_copy j S M = some q)
    (kk : ∀ (H1 : Heap) (locs1 : List Loc), sd_P D dA ad A s H1 locs1 sz0 q.2 → W p l e R s m args below meth c H1 locs1 cells slots Q (F0 m (pc + 3) ls (q.1.map (sd_v ad vz)))) : W p l e R s m args below meth c H locs cells slots Q (F0 m pc ls (S.map (sd_v ad vz))) := by
  obtain ⟨hx, hb, hml, hown, hts, -, hfr, hlo, -⟩ := hC
  obtain ⟨en, hen, h1⟩ := List.any_eq_true.mp hlk
  simp only [decide_eq_true_eq] at h1
  obtain ⟨e1, e2⟩ := h1
  have h2 := List.all_eq_true.mp ip_ALok en hen
  simp only [decide_eq_true_eq] at h2
  have hm := ip_good_mem (List.mem_of_getElem? h2) rfl
  rw [e1, e2] at hm
  unfold ip_copy at h
  split at h
  · rename_i n dp d sp a rest
    split at h
    · rename_i n0 q0 n1 q1 ha hd
      split at h
      · rename_i hc
        cases h
        obtain ⟨c1, c2, c3, c4, c5⟩ := hc
        simp only [List.map_cons]
        rw [sd_v_ref (sd_lt hP ha), sd_v_ref (sd_lt hP hd)]
        obtain ⟨g1, g2, g3, g4, g5⟩ := hP
        have hw : sd_w ad dA (M.1, ip_ur M.2.1 d (va_cpy (M.2.1 a) (M.2.1 d) sp.toNatClampNeg dp.toNatClampNeg n.toNatClampNeg), M.2.2) = (sd_w ad dA M).set d (ad d, .inl (dA 0, n1, .inl (va_cpy (M.2.1 a) (M.2.1 d) sp.toNatClampNeg dp.toNatClampNeg n.toNatClampNeg))) := by
          rw [sd_set' hd (fun a ha => by funext b; simp [ip_ur, ha]) (fun a _ => rfl)]
          congr 2
          simp [sd_e, ip_ur]
        have hw8 : nativeFrameWords "java/lang/System" "arraycopy" 5 = 7 := by decide
        refine va_copyi (ty := .int) hx hb (hml.trans hls.symm) hown (hts _ hm) (hts _ (ip_good_mem ip_w_acp.1 rfl)) (hts _ (ip_good_mem ip_w_acp.2.1 rfl)) (hts _ (ip_good_mem ip_w_acp.2.2 rfl)) hV.1 g1 g2 g3 a d 0 0 (sd_wk' ha) (sd_wk' hd) rfl rfl rfl (fun z => c1 (Or.inl z)) (fun z => c1 (Or.inr (Or.inl z))) (fun z => c1 (Or.inr (Or.inr z))) c2 c3 (fun _ _ => rfl) (by rw [hfr]; exact c4) (by rw [sd_cat hV.2.2.2.1, hw8, hlo]; omega) hdec fun H1 locs1 q1 q2 q3 => ?_
        exact kk H1 locs1 ⟨by rw [hw]; exact q1, by rw [hw]; exact q2, q3, g4, g5⟩
      · cases h
    · cases h
  · cases h
end SDA
