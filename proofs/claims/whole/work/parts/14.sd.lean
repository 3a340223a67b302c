/-! ===== the machine does what the interpreter says: new cells, calls ===== -/
theorem sd_al_ad {ad ad' : Nat → Nat} {vz : Value} {n : Nat} {L : List Value} {ls : Array Slot} {nL : Nat} (hv : L.all (ip_wfv n) = true) (ha : sd_ag n ad ad') (hl : lv_has ls nL (sd_al ad vz L)) : lv_has ls nL (sd_al ad' vz L) := by
  refine ⟨hl.1, hl.2.1, fun q hq => ?_⟩
  obtain ⟨k, w, q1, q2, rfl⟩ := sd_al_of hq
  rw [sd_v_ad (List.all_eq_true.mp hv w (List.mem_of_getElem? q1)) ha]
  exact sd_ld hl q1 q2
theorem sd_wf {M : ip_M} {L S : List Value} (h : ip_wf M L S = true) : M.1.length < ip_EX ∧ M.1.all (ip_wfs M.1.length) = true ∧ L.all (ip_wfv M.1.length) = true ∧ S.all (ip_wfv M.1.length) = true := by
  simp only [ip_wf, Bool.and_eq_true, decide_eq_true_eq] at h
  exact ⟨h.1.1.1, h.1.1.2, h.1.2, h.2⟩
section SDN
variable {p : Program} {l : Launch} {e : Env} {R : Room} {s : State} {m : MethodId} {args : Array Value} {below : List Frame} {meth : Method} {c : Code} {H : Heap} {locs : List Loc} {cells slots : Nat} {Q : State → Prop}
variable {D : va_G} {dA : Nat → ClassId} {ad : Nat → Nat} {vz : Value} {A : Nat → Prop} {ls : Array Slot} {j pc aux sz0 idx : Nat} {M : ip_M} {L : List Value}
/-- what a step that makes cells hands on -/
def sd_Go (p : Program) (l : Launch) (e : Env) (R : Room) (s : State) (m : MethodId) (args : Array Value) (below : List Frame) (meth : Method) (c : Code) (D : va_G) (dA : Nat → ClassId) (vz : Value) (A : Nat → Prop) (Q : State → Prop) (ls : Array Slot) (j pc sz0 : Nat) (M : ip_M) (ad : Nat → Nat) (L S : List Value) (M' : ip_M) (cs' : Nat × Nat) : Prop :=
  ∀ (ad' : Nat → Nat) (H1 : Heap) (locs1 : List Loc), sd_ag M.1.length ad ad' → lv_has ls (ip_mB j).2.2.1 (sd_al ad' vz L) → sd_P D dA ad' A s H1 locs1 sz0 M' → W p l e R s m args below meth c H1 locs1 cs'.1 cs'.2 Q (F0 m pc ls (S.map (sd_v ad' vz)))
theorem sd_new {cs : Nat × Nat} (hC : sd_C p s m meth c args R j) (hV : sd_V D dA ad vz A s s.heap) (hA : ∀ q : Nat, s.heap.size ≤ q → A q) (hl : lv_has ls (ip_mB j).2.2.1 (sd_al ad vz L)) (hP : sd_P D dA ad A s H locs sz0 M) (hdec : decode (ip_mB j).2.1 pc = .ok (.new idx, 3)) (hlk : ip_lk j pc aux (.new idx) = true)
    {S : List Value} {q : ip_M × (Nat × Nat)} (h : ip_newO j aux L S M cs = some q) (kk : sd_Go p l e R s m args below meth c D dA vz A Q ls j (pc + 3) sz0 M ad L (.ref M.1.length :: S) q.1 q.2) : W p l e R s m args below meth c H locs cs.1 cs.2 Q (F0 m pc ls (S.map (sd_v ad vz))) := by
  obtain ⟨hx, hb, hml, hown, hts, -, hfr, hlo, hce, hsl⟩ := hC
  obtain ⟨g1, g2, g3, g4, g5⟩ := hP
  unfold ip_newO at h
  split at h
  · rename_i hc
    cases h
    simp only [Bool.and_eq_true, decide_eq_true_eq] at hc
    obtain ⟨⟨⟨hwf, c1⟩, c2⟩, c3⟩ := hc
    obtain ⟨w1, w2, w3, w4⟩ := sd_wf hwf
    simp only [ip_lk] at hlk
    obtain ⟨en, hen, h1⟩ := List.any_eq_true.mp hlk
    simp only [decide_eq_true_eq] at h1
    obtain ⟨e1, e2, e3⟩ := h1
    have h2 := List.all_eq_true.mp ip_NLok en hen
    obtain ⟨oc, ix, ci, p1, p2, p3⟩ := en
    dsimp only at e1 e2 e3
    subst e1 e2 e3
    unfold ip_nlc at h2
    dsimp only at h2
    cases hr : vwCl[ci]? with
    | none => rw [hr] at h2; cases h2
    | some r =>
      rw [hr] at h2
      obtain ⟨C, T, N⟩ := r
      simp only [Bool.and_eq_true, decide_eq_true_eq] at h2
      obtain ⟨⟨l1, l2⟩, l3⟩ := h2
      have m1 := ip_good_mem (List.mem_of_getElem? l1) rfl
      have m2 := ip_good_mem (List.mem_of_getElem? l2) rfl
      have m3 := ip_good_mem (List.mem_of_getElem? l3) rfl
      obtain ⟨hty, hnm⟩ := ip_cl_ty _ _ hr
      dsimp only at hty hnm
      have hlen : (ip_dfl ci).length = N := by rw [ip_dfl_len ci c3, hr]; rfl
      have hdfl : ∀ k, k < N → (ip_dfl ci)[k]? = some (match ip_ty ci k with | .int => 0 | .long => 1 | _ => 2) := fun k hk => by
        unfold ip_dfl
        rw [hr]
        simp only
        rw [List.getElem?_map, List.getElem?_range hk]
        rfl
      have hok : ∀ k, k < N → (match ip_ty ci k with | .int => true | .long => true | .object _ => true | .array _ => true | _ => false) = true := fun k hk => ip_ty_ok ci c3 k (by rw [hr]; exact hk)
      have hin : ∀ w ∈ u_ws C T N, w ∈ ip_good := fun w hw => by
        have h1 := ip_cl_in _ _ hr w hw
        refine ip_good_mem h1 ?_
        obtain ⟨i, -, rfl⟩ := List.mem_map.mp hw
        unfold u_lay
        split <;> rfl
      rw [hlen] at c2 kk
      refine va_new (ci := ci) (fs := (ip_dfl ci).mapIdx (fun f d => sd_fv ad (fun _ _ => 0) (fun _ _ => 0) 0 f d)) hx hb hts hin (ip_ty ci) hty hown (hts _ m1) (hts _ m2) (hts _ m3) hV.1 g1 g2 g3 hA hr (fun k hk => ?_) (by rw [hce]; exact c1) (by rw [hsl]; exact c2) hdec fun q H1 q1 q2 q3 => ?_
      · unfold vp_V
        rw [List.getD_eq_getElem?_getD, List.getElem?_mapIdx, hdfl k hk]
        have := hok k hk
        cases hkt : ip_ty ci k <;> rw [hkt] at this <;> first | rfl | cases this
      · have hag : sd_ag M.1.length ad (fun k => if k = M.1.length then q else ad k) := ⟨fun k hk => if_neg (by omega), fun k hk => if_neg (by omega)⟩
        have hw : sd_w (fun k => if k = M.1.length then q else ad k) dA (M.1 ++ [(3, ci, ip_dfl ci)], ip_ur M.2.1 M.1.length (fun _ => 0), ip_ur M.2.2 M.1.length (fun _ => 0)) = sd_w ad dA M ++ [(q, .inr (ci, (ip_dfl ci).mapIdx (fun f d => sd_fv ad (fun _ _ => 0) (fun _ _ => 0) 0 f d)))] := by
          rw [sd_app w2 hag.1 (fun a ha => by simp [ip_ur, Nat.ne_of_lt ha]) (fun a ha => by simp [ip_ur, Nat.ne_of_lt ha])]
          congr 1
          simp only [List.mapIdx_cons, List.mapIdx_nil, Nat.add_zero, if_true]
          congr 2
          show (Sum.inr (ci, (ip_dfl ci).mapIdx _) : va_E) = _
          congr 2
          apply List.ext_getElem?
          intro i
          rw [List.getElem?_mapIdx, List.getElem?_mapIdx]
          by_cases hi : i < N
          · rw [hdfl i hi]
            have := hok i hi
            cases hkt : ip_ty ci i <;> rw [hkt] at this <;> first | (cases this; done) | simp [sd_fv, ip_ur]
          · rw [List.getElem?_eq_none (by omega)]
            rfl
        have := kk _ H1 locs hag (sd_al_ad w3 hag hl) ⟨by rw [hw]; exact q1, by rw [hw]; exact q2, q3, by simp; omega, by simp; omega⟩
        simp only [List.map_cons] at this
        rw [sd_v_ref (by omega), if_pos rfl, sd_S_ad w4 hag] at this
        exact this
  · cases h
theorem sd_newa {cs : Nat × Nat} {t : ArrayType} {n : Int32} (hC : sd_C p s m meth c args R j) (hV : sd_V D dA ad vz A s s.heap) (hA : ∀ q : Nat, s.heap.size ≤ q → A q) (hl : lv_has ls (ip_mB j).2.2.1 (sd_al ad vz L)) (hP : sd_P D dA ad A s H locs sz0 M) (hdec : decode (ip_mB j).2.1 pc = .ok (.newarray t, 2))
    {S : List Value} {q : ip_M × (Nat × Nat)} (hn : ¬ n < 0) (h : ip_newA j (ip_atyp t) n.toNatClampNeg L S M cs = some q) (kk : sd_Go p l e R s m args below meth c D dA vz A Q ls j (pc + 2) sz0 M ad L (.ref M.1.length :: S) q.1 q.2) : W p l e R s m args below meth c H locs cs.1 cs.2 Q (F0 m pc ls (.int n :: S.map (sd_v ad vz))) := by
  obtain ⟨hx, hb, hml, hown, hts, -, hfr, hlo, hce, hsl⟩ := hC
  obtain ⟨g1, g2, g3, g4, g5⟩ := hP
  unfold ip_newA at h
  split at h
  · rename_i hc
    cases h
    simp only [Bool.and_eq_true, decide_eq_true_eq] at hc
    obtain ⟨⟨⟨⟨hwf, c1⟩, c2⟩, c3⟩, c4⟩ := hc
    obtain ⟨w1, w2, w3, w4⟩ := sd_wf hwf
    have main : ∀ (ty : FieldType), newarray.typeOf t = ty → (Jvm.Cond.arrayClass ty).before args s = true → defaultValue ty = .int 0 → componentBytes ty ≤ 4 → (sd_t dA)[ip_atyp t]? = some (dA (ip_atyp t), ty) → (∀ u cA, va_RA u cA ty = (u.vm.findClass ("[" ++ ty.toString) = some cA)) → W p l e R s m args below meth c H locs cs.1 cs.2 Q (F0 m pc ls (.int n :: S.map (sd_v ad vz))) := fun ty e1 e2 e3 e4 e5 e6 => by
      refine va_newa (ty := ty) (a0 := (n.toNatClampNeg, .inl (fun _ => 0))) hx hb (by rw [e1]; exact e2) e1 hV.1 g1 g2 g3 hA (fun cA => by rw [e3]; rfl) hn rfl (Nat.le_trans (Nat.mul_le_mul c3 e4) (by decide)) (by rw [hce]; exact c1) (by rw [hsl]; exact c2) hdec fun q cA H1 q0 q1 q2 q3 => ?_
      have hA1 : cA = dA (ip_atyp t) := by
        have r1 := (q0.2 (sd_t dA).length (cA, ty) (by simp)).2
        have r2 := (hV.1.2 _ _ e5).2
        rw [e6] at r1 r2
        exact Option.some.inj (r1.symm.trans r2)
      subst hA1
      have hag : sd_ag M.1.length ad (fun k => if k = M.1.length then q else ad k) := ⟨fun k hk => if_neg (by omega), fun k hk => if_neg (by omega)⟩
      have hw : sd_w (fun k => if k = M.1.length then q else ad k) dA (M.1 ++ [(1, ip_atyp t, [n.toNatClampNeg])], ip_ur M.2.1 M.1.length (fun _ => 0), M.2.2) = sd_w ad dA M ++ [(q, .inl (dA (ip_atyp t), n.toNatClampNeg, .inl (fun _ => 0)))] := by
        rw [sd_app w2 hag.1 (fun a ha => by simp [ip_ur, Nat.ne_of_lt ha]) (fun a ha => rfl)]
        congr 1
        simp [sd_e, ip_ur]
      have := kk _ H1 locs hag (sd_al_ad w3 hag hl) ⟨by rw [hw]; exact q1, by rw [hw]; exact q2, q3, by simp; omega, by simp; omega⟩
      simp only [List.map_cons] at this
      rw [sd_v_ref (by omega), if_pos rfl, sd_S_ad w4 hag] at this
      exact this
    cases t with
    | int => exact main .int rfl (hts _ (ip_good_mem ip_w_arr.1 rfl)) rfl (by decide) rfl (fun _ _ => rfl)
    | boolean => exact main .boolean rfl (hts _ (ip_good_mem ip_w_arr.2.1 rfl)) rfl (by decide) rfl (fun _ _ => rfl)
    | byte => exact main .byte rfl (hts _ (ip_good_mem ip_w_arr.2.2.1 rfl)) rfl (by decide) rfl (fun _ _ => rfl)
    | _ => simp [ip_atyp] at c4
  · cases h
theorem sd_newm {cs : Nat × Nat} {n k : Int32} (hC : sd_C p s m meth c args R j) (hV : sd_V D dA ad vz A s s.heap) (hA : ∀ q : Nat, s.heap.size ≤ q → A q) (hl : lv_has ls (ip_mB j).2.2.1 (sd_al ad vz L)) (hP : sd_P D dA ad A s H locs sz0 M) (hdec : decode (ip_mB j).2.1 pc = .ok (.multianewarray idx 2, 4)) (hlk : ip_lk j pc aux (.multianewarray idx 2) = true)
    {S : List Value} {q : ip_M × (Nat × Nat)} (hn : ¬ n < 0) (hk : ¬ k < 0) (h : ip_newM j n.toNatClampNeg k.toNatClampNeg L S M cs = some q) (kk : sd_Go p l e R s m args below meth c D dA vz A Q ls j (pc + 4) sz0 M ad L (.ref M.1.length :: S) q.1 q.2) : W p l e R s m args below meth c H locs cs.1 cs.2 Q (F0 m pc ls (.int k :: .int n :: S.map (sd_v ad vz))) := by
  obtain ⟨hx, hb, hml, hown, hts, -, hfr, hlo, hce, hsl⟩ := hC
  obtain ⟨g1, g2, g3, g4, g5⟩ := hP
  unfold ip_newM at h
  split at h
  · rename_i hc
    cases h
    simp only [Bool.and_eq_true, decide_eq_true_eq] at hc
    obtain ⟨⟨⟨⟨⟨hwf, c1⟩, c2⟩, c3⟩, c4⟩, c5⟩ := hc
    obtain ⟨w1, w2, w3, w4⟩ := sd_wf hwf
    simp only [ip_lk] at hlk
    obtain ⟨en, hen, h1⟩ := List.any_eq_true.mp hlk
    simp only [decide_eq_true_eq] at h1
    obtain ⟨e1, e2⟩ := h1
    have h2 := List.all_eq_true.mp ip_MNok en hen
    simp only [decide_eq_true_eq] at h2
    have m1 := ip_good_mem (List.mem_of_getElem? h2) rfl
    rw [e1, e2] at m1
    have hcy : s.vm.findClass (FieldType.array .int).toString = some (dA 0) := (hV.1.2 0 _ rfl).2
    refine va_mna (X := sd_w ad dA M) (L := []) (f := fun _ => .inr (0, [])) (ty := .int) (cy := dA 0) (z := (k.toNatClampNeg, .inl (fun _ => 0))) hx hb hown (hts _ m1) ?_ (hts _ (ip_good_mem ip_w_arr.1 rfl)) hcy hV.1 (by simpa [va_pl] using g1) (by simpa [va_pl] using g2) g3 hA hn hk rfl rfl (by omega) (by show k.toNatClampNeg * 4 ≤ _; omega) (by omega) rfl rfl (by rw [hce]; omega) (by rw [hsl]; omega) (fun cc => arrV_new cc _ _) hdec fun q r cA H1 r1 r2 q0 q1 q2 q3 => ?_
    · have h3 := hV.2.2.1
      exact h3
    · have hA1 : cA = dA 3 := by
        have r1 := (q0.2 (sd_t dA).length (cA, .array .int) (by simp)).2
        have r2 := (hV.1.2 3 _ rfl).2
        exact Option.some.inj ((show s.vm.findClass _ = some cA from r1).symm.trans (show s.vm.findClass _ = some (dA 3) from r2))
      subst hA1
      have hag : sd_ag M.1.length ad (fun i => if i = M.1.length then q else if M.1.length < i ∧ i < M.1.length + 1 + n.toNatClampNeg then r (i - M.1.length - 1) else ad i) :=
        ⟨fun i hi => by dsimp only; rw [if_neg (by omega), if_neg (by omega)], fun i hi => by dsimp only; rw [if_neg (by omega), if_neg (by omega)]⟩
      have hw : sd_w (fun i => if i = M.1.length then q else if M.1.length < i ∧ i < M.1.length + 1 + n.toNatClampNeg then r (i - M.1.length - 1) else ad i) dA (M.1 ++ ((2, 3, (List.range n.toNatClampNeg).map fun i => M.1.length + 2 + i) :: List.replicate n.toNatClampNeg (1, 0, [k.toNatClampNeg])), (fun a b => if M.1.length ≤ a then 0 else M.2.1 a b), M.2.2) =
          (sd_w ad dA M ++ [(q, .inl (dA 3, n.toNatClampNeg, .inr (.inr (.inr (.inr (fun i => if i < n.toNatClampNeg then some (r i) else none))))))]) ++ va_pl ([] ++ (List.range n.toNatClampNeg).map r) (vr_up (fun _ => .inr (0, [])) ((List.range n.toNatClampNeg).map r) (.inl (dA 0, (k.toNatClampNeg, .inl (fun _ => 0))))) := by
        rw [sd_app w2 hag.1 (fun a ha => by funext b; simp [Nat.not_le.mpr ha]) (fun a ha => rfl), List.append_assoc]
        congr 1
        rw [List.mapIdx_cons, List.singleton_append, List.nil_append]
        congr 1
        · simp only [Nat.add_zero, if_true]
          congr 1
          show (Sum.inl (dA 3, ((List.range n.toNatClampNeg).map fun i => M.1.length + 2 + i).length, Sum.inr (Sum.inr (Sum.inr (Sum.inr (sd_rw _ _))))) : va_E) = _
          rw [List.length_map, List.length_range]
          congr 7
          funext i
          unfold sd_rw
          by_cases hi : i < n.toNatClampNeg
          · rw [List.getElem?_map, List.getElem?_range hi, if_pos hi]
            show sd_ro _ (M.1.length + 2 + i) = _
            rw [show M.1.length + 2 + i = (M.1.length + 1 + i) + 1 by omega]
            show some (if _ then _ else _) = _
            rw [if_neg (by omega), if_pos (by omega)]
            congr 2
            omega
          · rw [List.getElem?_map, List.getElem?_eq_none (by rw [List.length_range]; omega), if_neg hi]
            rfl
        · apply List.ext_getElem?
          intro i
          rw [List.getElem?_mapIdx]
          unfold va_pl
          rw [List.getElem?_map, List.getElem?_map]
          by_cases hi : i < n.toNatClampNeg
          · rw [List.getElem?_replicate_of_lt hi, List.getElem?_range hi]
            simp only [Option.map_some, Option.some.injEq]
            rw [vr_up_in (List.mem_map.mpr ⟨i, List.mem_range.mpr hi, rfl⟩)]
            rw [if_neg (by omega), if_pos (by omega)]
            congr 1
            · congr 1
              omega
            · show (Sum.inl (dA 0, k.toNatClampNeg, Sum.inl (fun b => if M.1.length ≤ M.1.length + (i + 1) then 0 else _)) : va_E) = _
              congr 4
              funext b
              rw [if_pos (by omega)]
          · rw [List.getElem?_eq_none (by rw [List.length_replicate]; omega), List.getElem?_eq_none (by rw [List.length_range]; omega)]
            rfl
      have := kk _ H1 locs hag (sd_al_ad w3 hag hl) ⟨by rw [hw]; exact q1, by rw [hw]; exact q2, q3, by simp; omega, by simp; omega⟩
      simp only [List.map_cons] at this
      rw [sd_v_ref (by omega), if_pos rfl, sd_S_ad w4 hag] at this
      exact this
  · cases h
end SDN
