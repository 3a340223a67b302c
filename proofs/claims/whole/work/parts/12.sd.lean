/-! ===== the machine does what the interpreter says: fields and arrays ===== -/
theorem sd_FL {j idx aux : Nat} (h : ip_FL.any (fun e => decide (e.1 = (ip_mI j).1 ∧ e.2.1 = idx ∧ e.2.2.1 = aux)) = true) : ∃ (r : vw_C), vwCl[aux / 64]? = some r ∧ aux % 64 < r.2.2 ∧ (r.2.1 (aux % 64)).1 = r.1 ∧
    (Jvm.Cond.fieldLinkNest (ip_own j) idx r.1 (r.2.1 (aux % 64)).2.1 (r.2.1 (aux % 64)).2.2.1 "HandedSlips" ∈ lw_tbl ∨ Jvm.Cond.fieldLink (ip_own j) idx r.1 (r.2.1 (aux % 64)).2.1 (r.2.1 (aux % 64)).2.2.1 ∈ lw_tbl) := by
  obtain ⟨e, he, h1⟩ := List.any_eq_true.mp h
  simp only [decide_eq_true_eq] at h1
  obtain ⟨e1, e2, e3⟩ := h1
  have h2 := List.all_eq_true.mp ip_FLok e he
  obtain ⟨oc, ix, ax, ps, nest⟩ := e
  dsimp only at e1 e2 e3
  subst e1 e2 e3
  unfold ip_flc at h2
  dsimp only at h2
  cases hr : vwCl[ax / 64]? with
  | none => rw [hr] at h2; cases h2
  | some r =>
    rw [hr] at h2
    simp only [Bool.and_eq_true, decide_eq_true_eq] at h2
    refine ⟨r, rfl, h2.1.1, h2.1.2, ?_⟩
    have hm := List.mem_of_getElem? h2.2
    cases nest with
    | true => exact Or.inl hm
    | false => exact Or.inr hm
theorem sd_lt {D : va_G} {dA : Nat → ClassId} {ad : Nat → Nat} {A : Nat → Prop} {s : State} {H : Heap} {locs : List Loc} {sz0 : Nat} {M : ip_M} (hP : sd_P D dA ad A s H locs sz0 M) {k : Nat} {q : ip_Sh} (h : M.1[k]? = some q) : k ≠ ip_EX + 50 := by
  have := (List.getElem?_eq_some_iff.mp h).1
  have := hP.2.2.2.2
  omega
section SDF
variable {p : Program} {l : Launch} {e : Env} {R : Room} {s : State} {m : MethodId} {args : Array Value} {below : List Frame} {meth : Method} {c : Code} {H : Heap} {locs : List Loc} {cells slots : Nat} {Q : State → Prop}
variable {D : va_G} {dA : Nat → ClassId} {ad : Nat → Nat} {vz : Value} {A : Nat → Prop} {ls : Array Slot} {j pc aux sz0 idx : Nat} {M : ip_M} {k : Nat} {rest : List Value}
theorem sd_getf (hC : sd_C p s m meth c args R j) (hV : sd_V D dA ad vz A s s.heap) (hP : sd_P D dA ad A s H locs sz0 M) (hdec : decode (ip_mB j).2.1 pc = .ok (.getfield idx, 3)) (ha : aux < 100000) (hlk : ip_lk j pc aux (.getfield idx) = true) {v : Value} (h : ip_gf M k aux = some v)
    (kk : W p l e R s m args below meth c H locs cells slots Q (F0 m (pc + 3) ls (sd_v ad vz v :: rest))) : W p l e R s m args below meth c H locs cells slots Q (F0 m pc ls (sd_v ad vz (.ref k) :: rest)) := by
  obtain ⟨hx, hb, hml, hown, hts, -⟩ := hC
  simp only [ip_lk, if_pos ha] at hlk
  obtain ⟨⟨C, T, N⟩, hr, hN, hT1, hlink⟩ := sd_FL hlk
  dsimp only at hN hT1 hlink
  unfold ip_gf at h
  split at h
  · rename_i ci lf hk
    split at h
    · rename_i hci
      subst hci
      cases hd : lf[aux % 64]? with
      | none => rw [hd] at h; cases h
      | some d =>
        rw [hd] at h
        simp only [Option.bind_some] at h
        rw [sd_v_ref (sd_lt hP hk)]
        have he := sd_wk' (ad := ad) (dA := dA) hk
        have hfs : (lf.mapIdx (fun f d => sd_fv ad M.2.1 M.2.2 k f d))[aux % 64]? = some (sd_v ad vz v) := by
          rw [List.getElem?_mapIdx, hd]
          simp only [Option.map_some, Option.some.injEq]
          match d, h with
          | 0, h => simp only [ip_fd, Option.some.injEq] at h; subst h; rfl
          | 1, h => simp only [ip_fd, Option.some.injEq] at h; subst h; rfl
          | 2, h => cases h
          | d + 3, h =>
            simp only [ip_fd] at h
            split at h
            · cases h
              rename_i hlt
              rw [sd_v_ref (by omega)]
              rfl
            · cases h
        have hin : ∀ w ∈ u_ws C T N, w ∈ ip_good := fun w hw => by
          have h1 := ip_cl_in _ _ hr w hw
          refine ip_good_mem h1 ?_
          obtain ⟨i, -, rfl⟩ := List.mem_map.mp hw
          unfold u_lay
          split <;> rfl
        have hsame : ∀ x, s.fieldFound? (T (aux % 64)).1 (T (aux % 64)).2.1 (T (aux % 64)).2.2.1 = some x → s.fieldFound? C (T (aux % 64)).2.1 (T (aux % 64)).2.2.1 = some x := fun x hx => by rw [hT1] at hx; exact hx
        rcases hlink with hlink | hlink
        · exact va_getN (ref := C) (host := "HandedSlips") hx hb hts hin hown hV.1 hP.1 k he hr (aux % 64) hN (va_Nw.use rfl (hV.2.1 _ (ip_nst_mem hlink rfl))) hsame hfs hdec kk
        · exact va_get (ref := C) hx hb hts hin hown hV.1 hP.1 k he hr (aux % 64) hN (hts _ (ip_good_mem hlink rfl)) hsame hfs hdec kk
    · cases h
  · cases h
theorem sd_getS (hC : sd_C p s m meth c args R j) (hV : sd_V D dA ad vz A s s.heap) (hP : sd_P D dA ad A s H locs sz0 M) (hdec : decode (ip_mB j).2.1 pc = .ok (.getfield idx, 3)) (ha : ¬ aux < 100000) (hlk : ip_lk j pc aux (.getfield idx) = true) (hk : ip_EX + 1 ≤ k) (hk2 : k < ip_EX + 6)
    (kk : W p l e R s m args below meth c H locs cells slots Q (F0 m (pc + 3) ls (sd_v ad vz (if aux = 100000 then .ref (k + 10) else .int 0) :: rest))) : W p l e R s m args below meth c H locs cells slots Q (F0 m pc ls (sd_v ad vz (.ref k) :: rest)) := by
  obtain ⟨hx, hb, hml, hown, hts, -⟩ := hC
  simp only [ip_lk, if_neg ha, decide_eq_true_eq] at hlk
  obtain ⟨ho, hi⟩ := hlk
  rw [ho] at hown
  rw [sd_v_ref (by omega)]
  have hS := (hV.2.2.2.2.1).1 (k - (ip_EX + 1)) (by omega)
  have e1 : ip_EX + 1 + (k - (ip_EX + 1)) = k := by omega
  have e2 : ip_EX + 11 + (k - (ip_EX + 1)) = k + 10 := by omega
  dsimp only at hS
  rw [e1, e2] at hS
  rcases hi with ⟨h1, h2⟩ | ⟨h1, h2⟩
  · subst h1 h2
    rw [if_pos rfl, sd_v_ref (by omega)] at kk
    exact vk_getf hx hb hS.2.2.1 hP.2.2.1 hown (hts _ (ip_good_mem ip_w_str.1 rfl)) (fun _ h => h) hdec kk
  · subst h1 h2
    rw [if_neg (by decide)] at kk
    exact vk_getf hx hb hS.2.1 hP.2.2.1 hown (hts _ (ip_good_mem ip_w_str.2.1 rfl)) (fun _ h => h) hdec kk
theorem sd_gets (hC : sd_C p s m meth c args R j) (hV : sd_V D dA ad vz A s s.heap) (hP : sd_P D dA ad A s H locs sz0 M) (hdec : decode (ip_mB j).2.1 pc = .ok (.getstatic idx, 3)) (hlk : ip_lk j pc aux (.getstatic idx) = true)
    (kk : W p l e R s m args below meth c H locs cells slots Q (F0 m (pc + 3) ls ((if aux = 0 then .int 1 else vz) :: rest))) : W p l e R s m args below meth c H locs cells slots Q (F0 m pc ls rest) := by
  obtain ⟨hx, hb, hml, hown, hts, -⟩ := hC
  simp only [ip_lk, decide_eq_true_eq] at hlk
  obtain ⟨ho, hi⟩ := hlk
  rw [ho] at hown
  rcases hi with ⟨h1, h2⟩ | ⟨h1, h2⟩
  · subst h1 h2
    rw [if_pos rfl] at kk
    exact va_gets hx hb hV.2.2.2.2.2.2.1 hP.2.2.1 hown (hts _ (ip_good_mem ip_w_str.2.2.1 rfl)) (fun _ h => h) hdec kk
  · subst h1 h2
    rw [if_neg (by decide)] at kk
    exact va_gets hx hb hV.2.2.2.2.2.2.2 hP.2.2.1 hown (hts _ (ip_good_mem ip_w_str.2.2.2 rfl)) (fun _ h => h) hdec kk
theorem sd_fs {lf : List Nat} {f d0 d' : Nat} {F F' : ip_F} {G G' : ip_G} (hf : lf[f]? = some d0) (hF : ∀ b, b ≠ f → F' k b = F k b) (hG : ∀ b, b ≠ f → G' k b = G k b) :
    (lf.set f d').mapIdx (fun f d => sd_fv ad F' G' k f d) = (lf.mapIdx (fun f d => sd_fv ad F G k f d)).set f (sd_fv ad F' G' k f d') := by
  have hl : f < lf.length := (List.getElem?_eq_some_iff.mp hf).1
  apply List.ext_getElem?
  intro i
  rw [List.getElem?_mapIdx]
  by_cases hi : i = f
  · subst hi
    rw [List.getElem?_set_self hl, List.getElem?_set_self (by simpa using hl)]
    rfl
  · rw [List.getElem?_set_ne (Ne.symm hi), List.getElem?_set_ne (Ne.symm hi), List.getElem?_mapIdx]
    cases lf[i]? with
    | none => rfl
    | some d =>
      simp only [Option.map_some, Option.some.injEq]
      match d with
      | 0 => simp [sd_fv, hF i hi]
      | 1 => simp [sd_fv, hG i hi]
      | 2 => rfl
      | d + 3 => rfl
theorem sd_putf (hC : sd_C p s m meth c args R j) (hV : sd_V D dA ad vz A s s.heap) (hP : sd_P D dA ad A s H locs sz0 M) (hdec : decode (ip_mB j).2.1 pc = .ok (.putfield idx, 3)) (hlk : ip_lk j pc aux (.putfield idx) = true) {v : Value} {M' : ip_M} (h : ip_pf M k aux v = some M')
    (kk : ∀ (H1 : Heap) (locs1 : List Loc), sd_P D dA ad A s H1 locs1 sz0 M' → W p l e R s m args below meth c H1 locs1 cells slots Q (F0 m (pc + 3) ls rest)) : W p l e R s m args below meth c H locs cells slots Q (F0 m pc ls (sd_v ad vz v :: sd_v ad vz (.ref k) :: rest)) := by
  obtain ⟨hx, hb, hml, hown, hts, hin0, -⟩ := hC
  obtain ⟨g1, g2, g3, g4, g5⟩ := hP
  have hP : sd_P D dA ad A s H locs sz0 M := ⟨g1, g2, g3, g4, g5⟩
  simp only [ip_lk] at hlk
  obtain ⟨en, hen, h1⟩ := List.any_eq_true.mp hlk
  simp only [Bool.and_eq_true, decide_eq_true_eq] at h1
  obtain ⟨⟨e1, e2, e3⟩, hfin⟩ := h1
  have h2 := List.all_eq_true.mp ip_FLok en hen
  obtain ⟨oc, ix, ax, ps, nest⟩ := en
  dsimp only at e1 e2 e3 hfin
  subst e1 e2 e3
  unfold ip_flc at h2
  dsimp only at h2
  cases hr : vwCl[ax / 64]? with
  | none => rw [hr] at h2; cases h2
  | some r =>
    rw [hr] at h2 hfin
    obtain ⟨C, T, N⟩ := r
    simp only [Bool.and_eq_true, decide_eq_true_eq] at h2
    obtain ⟨⟨hN, hT1⟩, hps⟩ := h2
    have hlink := List.mem_of_getElem? hps
    obtain ⟨hty, hnm⟩ := ip_cl_ty _ _ hr
    dsimp only at hty hnm
    have hin : ∀ w ∈ u_ws C T N, w ∈ ip_good := fun w hw => by
      have h1 := ip_cl_in _ _ hr w hw
      refine ip_good_mem h1 ?_
      obtain ⟨i, -, rfl⟩ := List.mem_map.mp hw
      unfold u_lay
      split <;> rfl
    have hsame : ∀ x, s.fieldFound? (T (ax % 64)).1 (T (ax % 64)).2.1 (T (ax % 64)).2.2.1 = some x → s.fieldFound? C (T (ax % 64)).2.1 (T (ax % 64)).2.2.1 = some x := fun x hx => by rw [hT1] at hx; exact hx
    unfold ip_pf at h
    split at h
    · rename_i ci lf hk
      split at h
      · rename_i hci
        subst hci
        cases hd : lf[ax % 64]? with
        | none => rw [hd] at h; cases h
        | some d =>
          rw [hd] at h
          simp only [Option.bind_some] at h
          rw [sd_v_ref (sd_lt hP hk)]
          have he := sd_wk' (ad := ad) (dA := dA) hk
          have hl : ax % 64 < (lf.mapIdx (fun f d => sd_fv ad M.2.1 M.2.2 k f d)).length := by simpa using (List.getElem?_eq_some_iff.mp hd).1
          -- the value fits, and the world behind is M''s
          have main : ∀ (ty : FieldType), ip_ty (ax / 64) (ax % 64) = ty → narrow ty (sd_v ad vz v) = sd_v ad vz v → fits ty (sd_v ad vz v) = true →
              sd_w ad dA M' = (sd_w ad dA M).set k (ad k, .inr (ax / 64, (lf.mapIdx (fun f d => sd_fv ad M.2.1 M.2.2 k f d)).set (ax % 64) (sd_v ad vz v))) → M'.1.length = M.1.length →
              W p l e R s m args below meth c H locs cells slots Q (F0 m pc ls (sd_v ad vz v :: .ref (ad k) :: rest)) := fun ty ety hn hf hw hlen => by
            have kk' : ∀ (H1 : Heap) (locs1 : List Loc), va_P D vwCl ((sd_w ad dA M).set k (ad k, .inr (ax / 64, (lf.mapIdx (fun f d => sd_fv ad M.2.1 M.2.2 k f d)).set (ax % 64) (sd_v ad vz v)))) H1 → va_D A ((sd_w ad dA M).set k (ad k, .inr (ax / 64, (lf.mapIdx (fun f d => sd_fv ad M.2.1 M.2.2 k f d)).set (ax % 64) (sd_v ad vz v)))) → va_S A s.heap H1 locs1 → W p l e R s m args below meth c H1 locs1 cells slots Q (F0 m (pc + 3) ls rest) := fun H1 locs1 q1 q2 q3 =>
              kk H1 locs1 ⟨by rw [hw]; exact q1, by rw [hw]; exact q2, q3, by rw [hlen]; exact g4, by rw [hlen]; exact g5⟩
            have hty2 := hty (ax % 64) hN
            rw [ety] at hty2
            cases hff : (T (ax % 64)).2.2.2 with
            | true =>
              simp only [hff, Bool.not_true, Bool.false_or, Bool.and_eq_true, decide_eq_true_eq, Bool.not_eq_true'] at hfin
              obtain ⟨⟨hi1, hi2⟩, hi3⟩ := hfin
              subst hi3
              simp only [if_neg Bool.false_ne_true] at hlink
              exact va_putF (ref := C) hx hb hts hin (ip_ty (ax / 64)) hty hnm hown hV.1 g1 g2 g3 k he hr (ax % 64) hN (hts _ (ip_good_mem hlink rfl)) hsame hff (hin0 hi1) (hT1.trans hi2.symm) hty2 hn hf hl hdec kk'
            | false =>
              cases nest with
              | true =>
                simp only [if_true] at hlink
                exact va_putN (ref := C) (host := "HandedSlips") hx hb hts hin (ip_ty (ax / 64)) hty hnm hown hV.1 g1 g2 g3 k he hr (ax % 64) hN (va_Nw.use rfl (hV.2.1 _ (ip_nst_mem hlink rfl))) hsame hff hty2 hn hf hl hdec kk'
              | false =>
                simp only [if_neg Bool.false_ne_true] at hlink
                exact va_put (ref := C) hx hb hts hin (ip_ty (ax / 64)) hty hnm hown hV.1 g1 g2 g3 k he hr (ax % 64) hN (hts _ (ip_good_mem hlink rfl)) hsame hff hty2 hn hf hl hdec kk'
          unfold ip_pv at h
          split at h
          · rename_i x ety
            split at h
            · rename_i hd0
              subst hd0
              cases h
              refine main _ ety rfl rfl ?_ rfl
              rw [sd_set' hk (fun a ha => by funext b; simp [ip_u, ha]) (fun a _ => rfl)]
              congr 2
              have := sd_fs (ad := ad) (k := k) (d' := 0) (F := M.2.1) (F' := ip_u M.2.1 k (ax % 64) x) (G := M.2.2) (G' := M.2.2) hd (fun b hb => by simp [ip_u, hb]) (fun _ _ => rfl)
              have hset : lf.set (ax % 64) 0 = lf := by
                apply List.ext_getElem?
                intro i
                by_cases hi : i = ax % 64
                · subst hi
                  rw [List.getElem?_set_self (by simpa using hl), hd]
                · rw [List.getElem?_set_ne (Ne.symm hi)]
              rw [hset] at this
              show (Sum.inr (ax / 64, lf.mapIdx (fun f d => sd_fv ad (ip_u M.2.1 k (ax % 64) x) M.2.2 k f d)) : va_E) = _
              rw [this]
              simp [sd_fv, ip_u, sd_v]
            · cases h
          · rename_i x ety
            split at h
            · rename_i hd0
              subst hd0
              cases h
              refine main _ ety rfl rfl ?_ rfl
              rw [sd_set' hk (fun a _ => rfl) (fun a ha => by funext b; simp [ip_ul, ha])]
              congr 2
              have := sd_fs (ad := ad) (k := k) (d' := 1) (F := M.2.1) (F' := M.2.1) (G := M.2.2) (G' := ip_ul M.2.2 k (ax % 64) x) hd (fun _ _ => rfl) (fun b hb => by simp [ip_ul, hb])
              have hset : lf.set (ax % 64) 1 = lf := by
                apply List.ext_getElem?
                intro i
                by_cases hi : i = ax % 64
                · subst hi
                  rw [List.getElem?_set_self (by simpa using hl), hd]
                · rw [List.getElem?_set_ne (Ne.symm hi)]
              rw [hset] at this
              show (Sum.inr (ax / 64, lf.mapIdx (fun f d => sd_fv ad M.2.1 (ip_ul M.2.2 k (ax % 64) x) k f d)) : va_E) = _
              rw [this]
              simp [sd_fv, ip_ul, sd_v]
            · cases h
          · rename_i nm r ety
            split at h
            · rename_i hd0
              cases h
              have hrr : sd_v ad vz (.ref r) = .ref (ad r) := sd_v_ref (Nat.ne_of_lt (Nat.lt_of_lt_of_le hd0.2 (Nat.le_trans g5 (Nat.le_add_right _ _))))
              refine main _ ety (by rw [hrr]; rfl) (by rw [hrr]; rfl) ?_ (by simp)
              rw [sd_set hk (fun a _ => rfl) (fun a _ => rfl)]
              congr 2
              have := sd_fs (ad := ad) (k := k) (d' := r + 3) (F := M.2.1) (F' := M.2.1) (G := M.2.2) (G' := M.2.2) hd (fun _ _ => rfl) (fun _ _ => rfl)
              show (Sum.inr (ax / 64, (lf.set (ax % 64) (r + 3)).mapIdx (fun f d => sd_fv ad M.2.1 M.2.2 k f d)) : va_E) = _
              rw [this, hrr]
              rfl
            · cases h
          · rename_i nm r ety
            split at h
            · rename_i hd0
              cases h
              have hrr : sd_v ad vz (.ref r) = .ref (ad r) := sd_v_ref (Nat.ne_of_lt (Nat.lt_of_lt_of_le hd0.2 (Nat.le_trans g5 (Nat.le_add_right _ _))))
              refine main _ ety (by rw [hrr]; rfl) (by rw [hrr]; rfl) ?_ (by simp)
              rw [sd_set hk (fun a _ => rfl) (fun a _ => rfl)]
              congr 2
              have := sd_fs (ad := ad) (k := k) (d' := r + 3) (F := M.2.1) (F' := M.2.1) (G := M.2.2) (G' := M.2.2) hd (fun _ _ => rfl) (fun _ _ => rfl)
              show (Sum.inr (ax / 64, (lf.set (ax % 64) (r + 3)).mapIdx (fun f d => sd_fv ad M.2.1 M.2.2 k f d)) : va_E) = _
              rw [this, hrr]
              rfl
            · cases h
          · cases h
      · cases h
    · cases h
end SDF
