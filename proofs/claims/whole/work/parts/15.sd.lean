/-! ===== the machine does what the interpreter says: calls, and all together ===== -/
theorem sd_ML {j idx i kind : Nat} (h : ip_ML.any (fun e => decide (e.1 = (ip_mI j).1 ∧ e.2.1 = idx ∧ e.2.2.1 = i ∧ e.2.2.2.1 = kind)) = true) : i < ip_mi.length ∧ 0 < i ∧
    ((∃ host, kind ≠ 0 ∧ Jvm.Cond.methodLinkNest (ip_own j) idx (ip_mB i).1 host ∈ ip_nst) ∨ Jvm.Cond.methodLink (ip_own j) idx (ip_mB i).1 ∈ ip_good) ∧
    (kind = 1 → Jvm.Cond.static (ip_mB i).1 ∈ ip_good) ∧ (kind ≠ 1 → Jvm.Cond.instanceMethod (ip_mB i).1 ∈ ip_good) ∧ Jvm.Cond.initialized (ip_mB i).1.cls ∈ ip_good ∧
    (kind = 0 → Jvm.Cond.selects (ip_mB i).1.cls (ip_mB i).1 (ip_mB i).1 ∈ ip_good ∧ (((ip_mI i).2.1 = 98 ∧ (ip_mB i).1.cls = "java/lang/String") ∨ ((ip_mI i).2.1 ≠ 98 ∧ (vwCl[(ip_mI i).2.1]?).map (fun r => r.1) = some (ip_mB i).1.cls))) ∧
    (kind = 2 → (ip_mB i).1.name = "<init>" ∧ (ip_mB i).2.2.2 = none) ∧
    (parseMethodDescriptor (ip_mB i).1.desc).map (fun d => d.parameters.length) = some (if kind = 1 then (ip_mI i).2.2.1 else (ip_mI i).2.2.1 - 1) ∧ (kind ≠ 1 → 1 ≤ (ip_mI i).2.2.1) := by
  obtain ⟨e, he, h1⟩ := List.any_eq_true.mp h
  simp only [decide_eq_true_eq] at h1
  obtain ⟨e1, e2, e3, e4⟩ := h1
  have h2 := List.all_eq_true.mp ip_MLok e he
  obtain ⟨oc, ix, ii, kd, p1, p2, p3, p4, nest⟩ := e
  dsimp only at e1 e2 e3 e4
  subst e1 e2 e3 e4
  simp only [ip_mlc, Bool.and_eq_true, Bool.or_eq_true, decide_eq_true_eq] at h2
  obtain ⟨⟨⟨⟨⟨⟨⟨⟨⟨a1, a2⟩, a0⟩, a3⟩, a4⟩, a5⟩, a6⟩, a7⟩, a8⟩, a9⟩ := h2
  refine ⟨a1, a2, ?_, fun hk => ?_, fun hk => ?_, ?_, fun hk => ?_, fun hk => ?_, a8, fun hk => a9.resolve_left hk⟩
  · have hm := List.mem_of_getElem? a3
    cases nest with
    | true =>
      simp only [if_true] at hm
      refine Or.inl ⟨"HandedSlips", ?_, ip_nst_mem hm rfl⟩
      rcases a0 with q | q
      · exact q
      · cases q
    | false =>
      simp only [if_neg Bool.false_ne_true] at hm
      exact Or.inr (ip_good_mem hm rfl)
  · rw [if_pos hk] at a4
    exact ip_good_mem (List.mem_of_getElem? a4) rfl
  · rw [if_neg hk] at a4
    exact ip_good_mem (List.mem_of_getElem? a4) rfl
  · exact ip_good_mem (List.mem_of_getElem? a5) rfl
  · rcases a6 with q | q
    · exact absurd hk q
    · refine ⟨ip_good_mem (List.mem_of_getElem? q.1) rfl, ?_⟩
      have q2 := q.2
      split at q2
      · rename_i h98
        exact Or.inl ⟨h98, by simpa using q2⟩
      · rename_i h98
        exact Or.inr ⟨h98, by simpa using q2⟩
  · rcases a7 with q | q
    · exact absurd hk q
    · exact q
section SDK
variable {p : Program} {l : Launch} {e : Env} {R : Room} {s : State} {m : MethodId} {args : Array Value} {below : List Frame} {meth : Method} {c : Code} {H : Heap} {locs : List Loc} {cells slots : Nat} {Q : State → Prop}
variable {D : va_G} {dA : Nat → ClassId} {ad : Nat → Nat} {vz : Value} {A : Nat → Prop} {ls : Array Slot} {j pc aux sz0 idx : Nat} {M : ip_M} {L : List Value}
/-- a call, of any of the three kinds -/
theorem sd_call {top : ip_Top} {n i kind : Nat} {as rest : List Value} {res : ip_R} {cs : Nat × Nat} (IH : sd_Snd l D dA vz n)
    (hC : sd_C p s m meth c args R j) (hV : sd_V D dA ad vz A s s.heap) (hT : sd_Tp top ad A s) (hA : ∀ q : Nat, s.heap.size ≤ q → A q) (hl : lv_has ls (ip_mB j).2.2.1 (sd_al ad vz L)) (hP : sd_P D dA ad A s H locs sz0 M) (hH : sd_H p l e R s m args below meth c D dA vz A Q j sz0 ad res)
    (hlk : ip_ML.any (fun e => decide (e.1 = (ip_mI j).1 ∧ e.2.1 = idx ∧ e.2.2.1 = i ∧ e.2.2.2.1 = kind)) = true) (hlen : as.length = (ip_mI i).2.2.1)
    (hdec : (kind = 0 ∧ decode (ip_mB j).2.1 pc = .ok (.invokevirtual idx, 3) ∧ ∃ (k : Nat) (as' : List Value), as = .ref k :: as' ∧ ip_rcv M i k = true) ∨ (kind = 1 ∧ decode (ip_mB j).2.1 pc = .ok (.invokestatic idx, 3)) ∨ (kind = 2 ∧ decode (ip_mB j).2.1 pc = .ok (.invokespecial idx, 3) ∧ ∃ (k : Nat) (as' : List Value), as = .ref k :: as' ∧ k ≠ ip_EX + 50))
    (h : ip_call (fun pc' L' S' M' cs' => ip_run top n j pc' L' S' M' cs') (fun i L' M' => ip_run none n i 0 L' [] M' (0, 0)) j pc i L as rest M cs = some res) :
    W p l e R s m args below meth c H locs cs.1 cs.2 Q (F0 m pc ls ((as.reverse ++ rest).map (sd_v ad vz))) := by
  obtain ⟨a1, a2, a3, a4, a5, a6, a7, a8, a9, a10⟩ := sd_ML hlk
  have hC0 := hC
  obtain ⟨hx, hb, hml, hown, hts, -, hfr, hlo, hce, hsl⟩ := hC
  have hz := hV.2.2.2.1
  unfold ip_call at h
  split at h
  · rename_i hc
    simp only [Bool.and_eq_true, Bool.or_eq_true, decide_eq_true_eq] at hc
    obtain ⟨⟨⟨hmay, hok⟩, hal⟩, hwf⟩ := hc
    obtain ⟨r1, h1, h2⟩ := Option.bind_eq_some_iff.mp h
    unfold ip_may at hmay
    simp only [Bool.and_eq_true, decide_eq_true_eq] at hmay
    obtain ⟨⟨⟨⟨m1, m2⟩, m3⟩, m4⟩, m5⟩ := hmay
    have hM := sd_met IH a1 a2 h1 hok hal hP.2.2.2.2 ad H.size
    have hin := sd_into (as := as) hV hA hP
    have hS : CallFix p m c (ip_mB j).2.1 (ip_mB j).2.2.1 s args ip_good (ip_own j) := ⟨hx, hb, hml, hown, hts⟩
    have hnm := ip_w_name1 i a1 a2
    have hown2 := ip_w_name2 (ip_mI i).1 (ip_w_name3 i a1)
    have hMH : (ip_mB i).1.cls ≠ "java/lang/invoke/MethodHandle" ∧ (ip_mB i).1.cls ≠ "java/lang/invoke/VarHandle" := by rw [hnm]; exact hown2.2
    have hR : (sd_rm i).frames + 1 ≤ R.frames ∧ 8 + ((ip_mB i).2.2.1 + 11) + (sd_rm i).locals ≤ R.locals := ⟨by rw [hfr]; exact m1, by rw [hlo]; exact m2⟩
    have hf : cs.1 + (ip_mI i).2.2.2.2.2.1 ≤ R.cells ∧ cs.2 + (ip_mI i).2.2.2.2.2.2 ≤ R.slots := ⟨by rw [hce]; exact m3, by rw [hsl]; exact m4⟩
    have hW8 : 2 * (F0 m pc ls ((as.reverse ++ rest).map (sd_v ad vz))).monitorRoom + ((rest.map (sd_v ad vz)).map fun v => v.category).sum ≤ 8 := lv_room (by rw [sd_cat hz]; exact m5)
    have hblind : FrameBlind (sd_Pre D dA vz ad M as H.size) := sd_blind
    have hmc0 : (ip_mI j).2.2.2.2.2.1 = 0 → (ip_mI i).2.2.2.2.2.1 = 0 := fun z => by omega
    refine sd_back IH hC0 hV hT hA hl hP hH hmc0 hwf (av := (as.map (sd_v ad vz)).toArray) ?_ h2
    have hgood := sd_good a1 a2
    rcases hdec with ⟨rfl, hd, k, as', rfl, hrc⟩ | ⟨rfl, hd⟩ | ⟨rfl, hd, k, as', rfl, hne⟩
    · have hkne : k ≠ ip_EX + 50 := by
        intro z
        subst z
        unfold ip_rcv at hrc
        split at hrc
        · rename_i hk
          exact sd_lt hP hk rfl
        · cases hrc
        · simp only [decide_eq_true_eq] at hrc
          omega
      have hrcv : ∃ cellB : Cell, H[ad k]? = some cellB ∧ cellB.vm.isStatics = false ∧ s.vm.findClass (ip_mB i).1.cls = some cellB.cls := by
        unfold ip_rcv at hrc
        split at hrc
        · rename_i ci lf hk
          simp only [decide_eq_true_eq] at hrc
          rcases (a7 rfl).2 with ⟨h98, -⟩ | ⟨h98, hcl⟩
          · rw [h98] at hrc
            subst hrc
            obtain ⟨q', g1, -⟩ := hP.1 k _ (sd_wk' (ad := ad) (dA := dA) hk)
            cases g1
          · rw [← hrc] at hcl
            cases hr : vwCl[ci]? with
            | none => rw [hr] at hcl; cases hcl
            | some r =>
              rw [hr] at hcl
              simp only [Option.map_some, Option.some.injEq] at hcl
              rw [← hcl]
              exact va_recv hV.1 hP.1 hr (sd_wk' hk)
        · cases hrc
        · simp only [decide_eq_true_eq] at hrc
          rcases (a7 rfl).2 with ⟨-, hst⟩ | ⟨h98, -⟩
          · rw [hst]
            have := vk_recv hV.2.2.2.2.1 (i := k - (ip_EX + 1)) (by omega) hP.2.2.1
            rw [show ip_EX + 1 + (k - (ip_EX + 1)) = k by omega] at this
            exact this
          · exact absurd hrc.1 h98
      rcases a3 with ⟨host, q, -⟩ | a3
      · exact absurd rfl q
      · have hG : GoodIn ip_good (wsV (ip_own j) idx (ip_mB i).1.cls (ip_mB i).1 (sd_ws i)) := by
          intro w hw
          unfold wsV at hw
          rcases List.mem_append.mp hw with hw | hw
          · simp only [List.mem_cons, List.not_mem_nil, or_false] at hw
            rcases hw with rfl | rfl | rfl | rfl
            · exact ⟨a3, Or.inl rfl⟩
            · exact ⟨a5 (by decide), Or.inl rfl⟩
            · exact ⟨(a7 rfl).1, Or.inl rfl⟩
            · exact ⟨a6, Or.inl rfl⟩
          · exact hgood w hw
        have hk2 : sd_v ad vz (.ref k) = .ref (ad k) := sd_v_ref hkne
        have := va_runV (l := l) (e := e) (below := below) (meth := meth) (locs := locs) (As := as'.map (sd_v ad vz)) (rest := rest.map (sd_v ad vz)) (g := F0 m pc ls (((Value.ref k :: as').reverse ++ rest).map (sd_v ad vz))) hS hM (cwV ((ip_mI i).2.2.1 - 1) hts hG rfl rfl rfl ⟨rfl, hMH.1, hMH.2, by rw [a9, if_neg (by decide)]⟩ hR) (b := ad k) ⟨hblind, hrcv, fun U hU hW => by have := hin.2 U hU hW; rw [List.map_cons, hk2] at this; exact this⟩ rfl (by rw [List.length_map]; have := a10 (by decide); simp only [List.length_cons] at hlen; omega) hl.1 (by simp [List.map_append, List.map_reverse, hk2]) hW8 hd hf
        rw [List.map_cons, hk2]
        exact this
    · rcases a3 with ⟨host, -, a3⟩ | a3
      · have := va_runSN (l := l) (e := e) (below := below) (meth := meth) (locs := locs) (As := as.map (sd_v ad vz)) (rest := rest.map (sd_v ad vz)) (g := F0 m pc ls ((as.reverse ++ rest).map (sd_v ad vz))) hS hM ⟨va_cnB (ip_mI i).2.2.1 hts hgood rfl rfl rfl (hV.2.1 _ a3) (hts _ a6) ⟨hMH.1, hMH.2, by rw [a9, if_pos rfl]⟩ hR, hts _ (a4 rfl), trivial⟩ ⟨hblind, hin.2⟩ rfl (by rw [List.length_map]; exact hlen) hl.1 (by simp [List.map_append, List.map_reverse]) hW8 hd hf
        exact this
      · have hG : GoodIn ip_good (va_wsS (ip_own j) idx (ip_mB i).1 (sd_ws i)) := by
          intro w hw
          unfold va_wsS at hw
          rcases List.mem_append.mp hw with hw | hw
          · simp only [List.mem_cons, List.not_mem_nil, or_false] at hw
            rcases hw with rfl | rfl | rfl
            · exact ⟨a3, Or.inl rfl⟩
            · exact ⟨a4 rfl, Or.inl rfl⟩
            · exact ⟨a6, Or.inl rfl⟩
          · exact hgood w hw
        have := va_runS (l := l) (e := e) (below := below) (meth := meth) (locs := locs) (As := as.map (sd_v ad vz)) (rest := rest.map (sd_v ad vz)) (g := F0 m pc ls ((as.reverse ++ rest).map (sd_v ad vz))) hS hM (va_cwS (ip_mI i).2.2.1 hts hG rfl rfl rfl ⟨hMH.1, hMH.2, by rw [a9, if_pos rfl]⟩ hR) ⟨hblind, hin.2⟩ rfl (by rw [List.length_map]; exact hlen) hl.1 (by simp [List.map_append, List.map_reverse]) hW8 hd hf
        exact this
    · have hk2 : sd_v ad vz (.ref k) = .ref (ad k) := sd_v_ref hne
      obtain ⟨b1, b2⟩ := a8 rfl
      have hn2 : (as'.map (sd_v ad vz)).length = (ip_mI i).2.2.1 - 1 := by
        rw [List.length_map]
        have := a10 (by decide)
        simp only [List.length_cons] at hlen
        omega
      have hPc : PreS s H (sd_Pre D dA vz ad M (.ref k :: as') H.size) (.ref (ad k) :: as'.map (sd_v ad vz)) := ⟨hblind, fun U hU hW => by have := hin.2 U hU hW; rw [List.map_cons, hk2] at this; exact this⟩
      have hws : sd_ws i = Jvm.Cond.code (ip_mB i).1 (ip_mB i).2.1 (ip_mB i).2.2.1 none :: ip_good := by unfold sd_ws; rw [b2]
      rcases a3 with ⟨host, -, a3⟩ | a3
      · have := va_runIN (l := l) (e := e) (below := below) (meth := meth) (locs := locs) (As := as'.map (sd_v ad vz)) (rest := rest.map (sd_v ad vz)) (b := ad k) (g := F0 m pc ls (((Value.ref k :: as').reverse ++ rest).map (sd_v ad vz))) hS hM ⟨va_cnB ((ip_mI i).2.2.1 - 1) hts hgood hws rfl rfl (hV.2.1 _ a3) (hts _ a6) ⟨hMH.1, hMH.2, by rw [a9, if_neg (by decide)]⟩ hR, b1, hts _ (a5 (by decide))⟩ hPc rfl hn2 hl.1 (by simp [List.map_append, List.map_reverse, hk2]) hW8 hd hf
        rw [List.map_cons, hk2]
        exact this
      · have := va_runI (l := l) (e := e) (below := below) (meth := meth) (locs := locs) (As := as'.map (sd_v ad vz)) (rest := rest.map (sd_v ad vz)) (b := ad k) (g := F0 m pc ls (((Value.ref k :: as').reverse ++ rest).map (sd_v ad vz))) hS hM (cwI ((ip_mI i).2.2.1 - 1) hts hgood hws rfl rfl (hts _ a6) (hts _ a3) (hts _ (a5 (by decide))) b1 ⟨hMH.1, hMH.2, by rw [a9, if_neg (by decide)]⟩ hR) hPc rfl hn2 hl.1 (by simp [List.map_append, List.map_reverse, hk2]) hW8 hd hf
        rw [List.map_cons, hk2]
        exact this
  · cases h
end SDK
section SDZ
variable {p : Program} {l : Launch} {e : Env} {R : Room} {s : State} {m : MethodId} {args : Array Value} {below : List Frame} {meth : Method} {c : Code} {H : Heap} {locs : List Loc} {cells slots : Nat} {Q : State → Prop} {cc : ByteArray} {pc : Nat} {ls : Array Slot} {rest : List Value}
theorem sd_aload {w : Value} (hw : w = .null ∨ ∃ a, w = .ref a) (hx : p.tables.exec = Jvm.exec) (hb : c.code = cc) {k : Fin 4} (hdg : decode cc pc = .ok (.aload_n k, 1)) (hl : ls[k.val]? = some (.val w))
    (kk : W p l e R s m args below meth c H locs cells slots Q (F0 m (pc + 1) ls (w :: rest))) : W p l e R s m args below meth c H locs cells slots Q (F0 m pc ls rest) := by
  rcases hw with rfl | ⟨a, rfl⟩
  · exact lv_aload_nN hx hb hdg rfl hl kk
  · exact lv_aload_n hx hb hdg rfl hl kk
theorem sd_astore {w : Value} (hw : w = .null ∨ ∃ a, w = .ref a) (hx : p.tables.exec = Jvm.exec) (hb : c.code = cc) {k : Fin 4} {nL : Nat} {lv : List (Nat × Value)} (hdg : decode cc pc = .ok (.astore_n k, 1)) (h : lv_has ls nL lv) (hn : k.val < nL)
    (kk : ∀ ls' : Array Slot, lv_has ls' nL ((k.val, w) :: lv.filter (fun q => !(q.1 == k.val) && !(q.1 + 1 == k.val && q.2.category == 2))) → W p l e R s m args below meth c H locs cells slots Q (F0 m (pc + 1) ls' rest)) : W p l e R s m args below meth c H locs cells slots Q (F0 m pc ls (w :: rest)) := by
  rcases hw with rfl | ⟨a, rfl⟩
  · exact lv_astore_nN hx hb hdg rfl h hn rfl kk
  · exact lv_astore_n hx hb hdg rfl h hn rfl kk
end SDZ
theorem sd_isR {ad : Nat → Nat} {vz : Value} (hz : vz = .null ∨ ∃ a, vz = .ref a) (a : Nat) : sd_v ad vz (.ref a) = .null ∨ ∃ b, sd_v ad vz (.ref a) = .ref b := by
  show (if a = ip_EX + 50 then vz else Value.ref (ad a)) = Value.null ∨ ∃ b, (if a = ip_EX + 50 then vz else Value.ref (ad a)) = Value.ref b
  split
  · exact hz
  · exact Or.inr ⟨_, rfl⟩
theorem sd_take {S as : List Value} {n : Nat} (h : (S.take n).reverse = as) : S = as.reverse ++ S.drop n := by
  rw [← h, List.reverse_reverse, List.take_append_drop]
theorem sd_tkl {S as : List Value} {n : Nat} (hn : ¬ S.length < n) (h : (S.take n).reverse = as) : as.length = n := by
  rw [← h, List.length_reverse, List.length_take]
  omega
theorem sd_sw {pc t : Nat} {d lo hi : Int} {offs : Array Int} {v : Int32} (h : ip_sw pc d lo hi offs v = some t) : ((v.toInt < lo ∨ hi < v.toInt) ∧ (pc : Int) + d = (t : Int)) ∨ (¬ (v.toInt < lo ∨ hi < v.toInt) ∧ ∃ o, offs[(v.toInt - lo).toNat]? = some o ∧ (pc : Int) + o = (t : Int)) := by
  by_cases ho : v.toInt < lo ∨ hi < v.toInt
  · simp only [ip_sw, if_pos ho] at h
    by_cases hn : (pc : Int) + d < 0
    · rw [if_pos hn] at h
      cases h
    · rw [if_neg hn] at h
      have := Option.some.inj h
      exact Or.inl ⟨ho, by omega⟩
  · simp only [ip_sw, if_neg ho] at h
    cases hof : offs[(v.toInt - lo).toNat]? with
    | none =>
      rw [hof] at h
      simp at h
    | some o =>
      rw [hof] at h
      dsimp only at h
      by_cases hn : (pc : Int) + o < 0
      · rw [if_pos hn] at h
        cases h
      · rw [if_neg hn] at h
        have := Option.some.inj h
        exact Or.inr ⟨ho, o, rfl, by omega⟩
theorem sd_vEX {ad : Nat → Nat} {vz : Value} : sd_v ad vz (.ref (ip_EX + 50)) = vz := by simp [sd_v]
theorem sd_ln {ins : Instr} {len : Nat} (h : ip_isw ins = true ∨ len = ip_ln ins) (hn : ip_isw ins = false) : len = ip_ln ins := by
  rcases h with h | h
  · rw [hn] at h; cases h
  · exact h
set_option maxHeartbeats 4000000 in
/-- THE MACHINE DOES WHAT THE INTERPRETER SAYS -/
theorem sd_sound (l : Launch) (D : va_G) (dA : Nat → ClassId) (vz : Value) : ∀ n, sd_Snd l D dA vz n := by
  intro n
  induction n with
  | zero =>
    intro top j pc L S M cs res h
    cases h
  | succ n IH =>
    intro top j pc L S M cs res h p e R s m args below meth c A Q ad H locs ls sz0 hC hV hT hA hl hP hH
    rw [ip_run] at h
    cases hq : ip_fetch j pc with
    | none => rw [hq] at h; cases h
    | some q =>
      rw [hq] at h
      simp only [Option.bind_some] at h
      obtain ⟨ins, len, aux⟩ := q
      obtain ⟨hdec, hlen, hlk⟩ := sd_dec hq
      dsimp only at h hdec hlen hlk
      have hz := hV.2.2.2.1
      obtain ⟨hx, hb, hml, hown, hts, -⟩ := id hC
      -- on at the next place, with these locals, stack and world
      have go : ∀ (pc' : Nat) (L' S' : List Value) (M' : ip_M) (ls' : Array Slot) (H' : Heap) (locs' : List Loc), ip_run top n j pc' L' S' M' cs = some res → lv_has ls' (ip_mB j).2.2.1 (sd_al ad vz L') → sd_P D dA ad A s H' locs' sz0 M' → W p l e R s m args below meth c H' locs' cs.1 cs.2 Q (F0 m pc' ls' (S'.map (sd_v ad vz))) :=
        fun pc' L' S' M' ls' H' locs' q1 q2 q3 => IH top j pc' L' S' M' cs res q1 p e R s m args below meth c A Q ad H' locs' ls' sz0 hC hV hT hA q2 q3 hH
      have goN : ∀ (pc' : Nat) (S' : List Value) (M' : ip_M) (cs' : Nat × Nat), ip_run top n j pc' L S' M' cs' = some res → (ip_mI j).2.2.2.2.2.1 ≠ 0 → sd_Go p l e R s m args below meth c D dA vz A Q ls j pc' sz0 M ad L S' M' cs' :=
        fun pc' S' M' cs' q1 q0 ad' H1 locs1 q2 q3 q4 => IH top j pc' L S' M' cs' res q1 p e R s m args below meth c A Q ad' H1 locs1 ls sz0 hC (hV.ads q2) (hT.ads q2) hA q3 q4 (hH.step q2 hP.2.2.2.1 (fun z => absurd z q0))
      have stk : ∀ S', ip_st j aux S ins = some S' → ip_run top n j (pc + len) L S' M cs = some res → W p l e R s m args below meth c H locs cs.1 cs.2 Q (F0 m pc ls (S.map (sd_v ad vz))) :=
        fun S' h1 h2 => sd_stk hC hV hdec hlen hlk h1 (go _ _ _ _ _ _ _ h2 hl hP)
      have ends : ip_ends j cs = true → ∀ (v : Option Value), res = (v, M) → (∀ st', S.map (sd_v ad vz) = st' → sd_rt j pc v st' ad vz) → W p l e R s m args below meth c H locs cs.1 cs.2 Q (F0 m pc ls (S.map (sd_v ad vz))) := fun he v hv hr => by
        simp only [ip_ends, Bool.and_eq_true, decide_eq_true_eq] at he
        subst hv
        exact W.widen he.1 he.2 (hH ad H locs pc ls _ sd_ag.rf (fun _ => rfl) hP (hr _ rfl))
      cases ins with
      | aload_n k =>
        have := sd_ln hlen rfl; subst this
        obtain ⟨v, h1, h2⟩ := Option.bind_eq_some_iff.mp h
        unfold ip_ldA at h1
        split at h1
        · rename_i a ha
          cases h1
          exact sd_aload (sd_isR hz a) hx hb hdec (sd_ld hl ha rfl) (go _ _ _ _ _ _ _ h2 hl hP)
        · cases h1
      | iload_n k =>
        have := sd_ln hlen rfl; subst this
        obtain ⟨v, h1, h2⟩ := Option.bind_eq_some_iff.mp h
        unfold ip_ldI at h1
        split at h1
        · rename_i a ha
          cases h1
          exact lv_iload_n hx hb hdec rfl (sd_ld hl ha rfl) (go _ _ _ _ _ _ _ h2 hl hP)
        · cases h1
      | iload k =>
        have := sd_ln hlen rfl; subst this
        obtain ⟨v, h1, h2⟩ := Option.bind_eq_some_iff.mp h
        unfold ip_ldI at h1
        split at h1
        · rename_i a ha
          cases h1
          exact lv_iload hx hb hdec (sd_ld hl ha rfl) (go _ _ _ _ _ _ _ h2 hl hP)
        · cases h1
      | lload_n k =>
        have := sd_ln hlen rfl; subst this
        obtain ⟨v, h1, h2⟩ := Option.bind_eq_some_iff.mp h
        unfold ip_ldL at h1
        split at h1
        · rename_i a ha
          cases h1
          exact lv_lload_n hx hb hdec rfl (sd_ld hl ha rfl) (go _ _ _ _ _ _ _ h2 hl hP)
        · cases h1
      | lload k =>
        have := sd_ln hlen rfl; subst this
        obtain ⟨v, h1, h2⟩ := Option.bind_eq_some_iff.mp h
        unfold ip_ldL at h1
        split at h1
        · rename_i a ha
          cases h1
          exact lv_lload hx hb hdec (sd_ld hl ha rfl) (go _ _ _ _ _ _ _ h2 hl hP)
        · cases h1
      | istore_n k =>
        have := sd_ln hlen rfl; subst this
        simp only [ip_ex] at h
        simp only [ip_lk, decide_eq_true_eq] at hlk
        split at h
        · exact lv_istore_n hx hb hdec rfl hl hlk rfl fun ls' hl' => go _ _ _ _ _ _ _ h (sd_st1 hz rfl hl') hP
        · cases h
      | istore k =>
        have := sd_ln hlen rfl; subst this
        simp only [ip_ex] at h
        simp only [ip_lk, decide_eq_true_eq] at hlk
        split at h
        · exact lv_istore hx hb hdec hl hlk rfl fun ls' hl' => go _ _ _ _ _ _ _ h (sd_st1 hz rfl hl') hP
        · cases h
      | astore_n k =>
        have := sd_ln hlen rfl; subst this
        simp only [ip_ex] at h
        simp only [ip_lk, decide_eq_true_eq] at hlk
        split at h
        · exact sd_astore (sd_isR hz _) hx hb hdec hl hlk fun ls' hl' => go _ _ _ _ _ _ _ h (sd_st1 hz rfl hl') hP
        · cases h
      | lstore_n k =>
        have := sd_ln hlen rfl; subst this
        simp only [ip_ex] at h
        simp only [ip_lk, decide_eq_true_eq] at hlk
        split at h
        · exact lv_lstore_n hx hb hdec rfl hl hlk rfl fun ls' hl' => go _ _ _ _ _ _ _ h (sd_st2 hz rfl hl') hP
        · cases h
      | lstore k =>
        have := sd_ln hlen rfl; subst this
        simp only [ip_ex] at h
        simp only [ip_lk, decide_eq_true_eq] at hlk
        split at h
        · exact lv_lstore hx hb hdec hl hlk rfl fun ls' hl' => go _ _ _ _ _ _ _ h (sd_st2 hz rfl hl') hP
        · cases h
      | iinc k n =>
        have := sd_ln hlen rfl; subst this
        simp only [ip_ex] at h
        simp only [ip_lk, decide_eq_true_eq] at hlk
        split at h
        · rename_i v hv
          obtain ⟨ix, hix⟩ := List.getElem?_of_mem (sd_al_mem (ad := ad) (vz := vz) hv rfl)
          exact lv_iinc hx hb hdec hl hix rfl hlk rfl fun ls' hl' => go _ _ _ _ _ _ _ h (sd_st1 hz rfl hl') hP
        · cases h
      | goto off =>
        have := sd_ln hlen rfl; subst this
        simp only [ip_lk, decide_eq_true_eq] at hlk
        exact lv_goto hx hb hdec hlk (go _ _ _ _ _ _ _ h hl hP)
      | if_icmp cd off =>
        have := sd_ln hlen rfl; subst this
        simp only [ip_ex] at h
        simp only [ip_lk, decide_eq_true_eq] at hlk
        split at h
        · rename_i y v r
          unfold ip_if at h
          have ht : ip_cmp v y cd → W p l e R s m args below meth c H locs cs.1 cs.2 Q (F0 m aux ls (r.map (sd_v ad vz))) := fun hc => go _ _ _ _ _ _ _ (by rw [if_pos hc] at h; exact h) hl hP
          have hf : ¬ ip_cmp v y cd → W p l e R s m args below meth c H locs cs.1 cs.2 Q (F0 m (pc + 3) ls (r.map (sd_v ad vz))) := fun hc => go _ _ _ _ _ _ _ (by rw [if_neg hc] at h; exact h) hl hP
          cases cd with
          | eq => exact lv_icmp_eq hx hb hdec hlk ht hf
          | ne => exact lv_icmp_ne hx hb hdec hlk ht (fun hc => hf (fun z => z hc))
          | lt => exact lv_icmp_lt hx hb hdec hlk ht hf
          | ge => exact lv_icmp_ge hx hb hdec hlk ht hf
          | gt => exact lv_icmp_gt hx hb hdec hlk ht hf
          | le => exact lv_icmp_le hx hb hdec hlk ht hf
        · cases h
      | ifCond cd off =>
        have := sd_ln hlen rfl; subst this
        simp only [ip_ex] at h
        simp only [ip_lk, decide_eq_true_eq] at hlk
        split at h
        · rename_i v r
          unfold ip_if at h
          have ht : ip_cmp v 0 cd → W p l e R s m args below meth c H locs cs.1 cs.2 Q (F0 m aux ls (r.map (sd_v ad vz))) := fun hc => go _ _ _ _ _ _ _ (by rw [if_pos hc] at h; exact h) hl hP
          have hf : ¬ ip_cmp v 0 cd → W p l e R s m args below meth c H locs cs.1 cs.2 Q (F0 m (pc + 3) ls (r.map (sd_v ad vz))) := fun hc => go _ _ _ _ _ _ _ (by rw [if_neg hc] at h; exact h) hl hP
          cases cd with
          | eq => exact lv_if_eq hx hb hdec hlk ht hf
          | ne => exact lv_if_ne hx hb hdec hlk ht (fun hc => hf (fun z => z hc))
          | lt => exact lv_if_lt hx hb hdec hlk ht hf
          | ge => exact lv_if_ge hx hb hdec hlk ht hf
          | gt => exact lv_if_gt hx hb hdec hlk ht hf
          | le => exact lv_if_le hx hb hdec hlk ht hf
        · cases h
      | tableswitch d lo hi offs =>
        simp only [ip_ex] at h
        split at h
        · rename_i v r
          obtain ⟨t, h1, h2⟩ := Option.bind_eq_some_iff.mp h
          have k := go _ _ _ _ _ _ _ h2 hl hP
          rcases sd_sw h1 with ⟨ho, e1⟩ | ⟨ho, o, e1, e2⟩
          · exact lv_tableOut hx hb hdec ho e1 k
          · exact lv_tableIn hx hb hdec (fun z => ho (Or.inl z)) (fun z => ho (Or.inr z)) e1 e2 k
        · cases h
      | getfield idx =>
        have := sd_ln hlen rfl; subst this
        simp only [ip_ex] at h
        split at h
        · rename_i k r
          split at h
          · rename_i ha
            obtain ⟨v, h1, h2⟩ := Option.bind_eq_some_iff.mp h
            exact sd_getf hC hV hP hdec ha hlk h1 (go _ _ _ _ _ _ _ h2 hl hP)
          · rename_i ha
            split at h
            · rename_i hk
              exact sd_getS hC hV hP hdec ha hlk hk.2.1 hk.2.2.1 (go _ _ _ _ _ _ _ h hl hP)
            · cases h
        · cases h
      | putfield idx =>
        have := sd_ln hlen rfl; subst this
        simp only [ip_ex] at h
        split at h
        · rename_i v k r
          split at h
          · rename_i ha
            obtain ⟨M', h1, h2⟩ := Option.bind_eq_some_iff.mp h
            exact sd_putf hC hV hP hdec hlk h1 fun H1 locs1 hP1 => go _ _ _ _ _ _ _ h2 hl hP1
          · cases h
        · cases h
      | getstatic idx =>
        have := sd_ln hlen rfl; subst this
        simp only [ip_ex] at h
        split at h
        · rename_i ha
          subst ha
          exact sd_gets hC hV hP hdec hlk (go _ _ _ _ _ _ _ h hl hP)
        · rename_i ha0
          split at h
          · rename_i ha
            subst ha
            have k := go _ _ _ _ _ _ _ h hl hP
            rw [List.map_cons, sd_vEX] at k
            exact sd_gets hC hV hP hdec hlk k
          · cases h
      | iaload =>
        have := sd_ln hlen rfl; subst this
        simp only [ip_ex] at h
        split at h
        · obtain ⟨v, h1, h2⟩ := Option.bind_eq_some_iff.mp h
          exact sd_ial hC hV hT hP hdec h1 (go _ _ _ _ _ _ _ h2 hl hP)
        · cases h
      | baload =>
        have := sd_ln hlen rfl; subst this
        simp only [ip_ex] at h
        split at h
        · obtain ⟨v, h1, h2⟩ := Option.bind_eq_some_iff.mp h
          exact sd_bal hC hV hP hdec h1 (go _ _ _ _ _ _ _ h2 hl hP)
        · cases h
      | aaload =>
        have := sd_ln hlen rfl; subst this
        simp only [ip_ex] at h
        split at h
        · obtain ⟨v, h1, h2⟩ := Option.bind_eq_some_iff.mp h
          exact sd_aal hC hV hP hdec h1 (go _ _ _ _ _ _ _ h2 hl hP)
        · cases h
      | iastore =>
        have := sd_ln hlen rfl; subst this
        simp only [ip_ex] at h
        split at h
        · split at h
          · rename_i hi
            exact sd_ias hC hV hP hdec hi fun H1 locs1 hP1 => go _ _ _ _ _ _ _ h hl hP1
          · cases h
        · cases h
      | bastore =>
        have := sd_ln hlen rfl; subst this
        simp only [ip_ex] at h
        split at h
        · obtain ⟨M', h1, h2⟩ := Option.bind_eq_some_iff.mp h
          exact sd_bas hC hV hP hdec h1 fun H1 locs1 hP1 => go _ _ _ _ _ _ _ h2 hl hP1
        · cases h
      | arraylength =>
        have := sd_ln hlen rfl; subst this
        simp only [ip_ex] at h
        split at h
        · obtain ⟨v, h1, h2⟩ := Option.bind_eq_some_iff.mp h
          exact sd_len hC hV hT hP hdec h1 (go _ _ _ _ _ _ _ h2 hl hP)
        · cases h
      | new idx =>
        have := sd_ln hlen rfl; subst this
        obtain ⟨q, h1, h2⟩ := Option.bind_eq_some_iff.mp h
        have hne : (ip_mI j).2.2.2.2.2.1 ≠ 0 := by
          intro z
          unfold ip_newO at h1
          split at h1
          · rename_i hc
            simp only [Bool.and_eq_true, decide_eq_true_eq] at hc
            omega
          · cases h1
        exact sd_new hC hV hA hl hP hdec hlk h1 (goN _ _ _ _ h2 hne)
      | newarray t =>
        have := sd_ln hlen rfl; subst this
        simp only [ip_ex] at h
        split at h
        · split at h
          · cases h
          · rename_i hn
            obtain ⟨q, h1, h2⟩ := Option.bind_eq_some_iff.mp h
            have hne : (ip_mI j).2.2.2.2.2.1 ≠ 0 := by
              intro z
              unfold ip_newA at h1
              split at h1
              · rename_i hc
                simp only [Bool.and_eq_true, decide_eq_true_eq] at hc
                omega
              · cases h1
            exact sd_newa hC hV hA hl hP hdec hn h1 (goN _ _ _ _ h2 hne)
        · cases h
      | multianewarray idx dm =>
        have := sd_ln hlen rfl; subst this
        match dm, hdec, hlk, h with
        | 0, _, _, h => cases h
        | 1, _, _, h => cases h
        | 2, hdec, hlk, h =>
          simp only [ip_ex] at h
          split at h
          · split at h
            · cases h
            · rename_i hn
              obtain ⟨q, h1, h2⟩ := Option.bind_eq_some_iff.mp h
              have hne : (ip_mI j).2.2.2.2.2.1 ≠ 0 := by
                intro z
                unfold ip_newM at h1
                split at h1
                · rename_i hc
                  simp only [Bool.and_eq_true, decide_eq_true_eq] at hc
                  omega
                · cases h1
              exact sd_newm hC hV hA hl hP hdec hlk (fun z => hn (Or.inl z)) (fun z => hn (Or.inr z)) h1 (goN _ _ _ _ h2 hne)
          · cases h
        | dm + 3, _, _, h => cases h
      | invokevirtual idx =>
        have := sd_ln hlen rfl; subst this
        simp only [ip_ex] at h
        split at h
        · cases h
        · rename_i hn
          split at h
          · rename_i k as hS
            split at h
            · rename_i hr
              rw [show S.map (sd_v ad vz) = ((Value.ref k :: as).reverse ++ S.drop (ip_mI aux).2.2.1).map (sd_v ad vz) by rw [← sd_take hS]]
              exact sd_call IH hC hV hT hA hl hP hH hlk (sd_tkl hn hS) (Or.inl ⟨rfl, hdec, k, as, rfl, hr⟩) h
            · cases h
          · cases h
      | invokestatic idx =>
        have := sd_ln hlen rfl; subst this
        simp only [ip_ex] at h
        simp only [ip_lk] at hlk
        split at h
        · rename_i ha
          rw [if_pos ha] at hlk
          obtain ⟨q, h1, h2⟩ := Option.bind_eq_some_iff.mp h
          exact sd_copy hC hV hl.1 hP hdec hlk h1 fun H1 locs1 hP1 => go _ _ _ _ _ _ _ h2 hl hP1
        · rename_i ha
          rw [if_neg ha] at hlk
          split at h
          · rename_i ha2
            rw [if_pos ha2] at hlk
            split at h
            · rename_i y v r
              split at h
              · rename_i hc
                obtain ⟨en, hen, h1⟩ := List.any_eq_true.mp hlk
                simp only [decide_eq_true_eq] at h1
                obtain ⟨e1, e2, e3⟩ := h1
                have h2 := List.all_eq_true.mp ip_XLok en hen
                simp only [decide_eq_true_eq] at h2
                rw [e1, e2, e3] at h2
                obtain ⟨c1, c2, c3⟩ := hc
                simp only [ip_ends, Bool.and_eq_true, decide_eq_true_eq] at c3
                obtain ⟨-, -, -, -, -, -, hfr, hlo, hce, hsl⟩ := id hC
                have k := go _ _ _ _ _ _ _ h hl hP
                obtain ⟨w1, w2, w3, w4, w5⟩ := ip_w_mth
                rcases ha2 with ha2 | ha2
                · subst ha2
                  rw [if_pos rfl] at h2
                  have hm := ip_good_mem (List.mem_of_getElem? h2) rfl
                  rw [if_pos rfl] at k
                  exact va_mmax hx hb (hml.trans hl.1.symm) hown (hts _ hm) (hts _ (ip_good_mem w1 rfl)) (hts _ (ip_good_mem w3 rfl)) (hts _ (ip_good_mem w4 rfl)) (by rw [hfr]; exact c1) (by rw [sd_cat hz, hlo]; exact c2) (by rw [hce]; exact c3.1) (by rw [hsl]; exact c3.2) hdec k
                · subst ha2
                  rw [if_neg (by decide)] at h2
                  have hm := ip_good_mem (List.mem_of_getElem? h2) rfl
                  rw [if_neg (by decide)] at k
                  exact va_mmin hx hb (hml.trans hl.1.symm) hown (hts _ hm) (hts _ (ip_good_mem w2 rfl)) (hts _ (ip_good_mem w3 rfl)) (hts _ (ip_good_mem w5 rfl)) (by rw [hfr]; exact c1) (by rw [sd_cat hz, hlo]; exact c2) (by rw [hce]; exact c3.1) (by rw [hsl]; exact c3.2) hdec k
              · cases h
            · cases h
          · rename_i ha2
            rw [if_neg ha2] at hlk
            split at h
            · cases h
            · rename_i hn
              rw [show S.map (sd_v ad vz) = (((S.take (ip_mI aux).2.2.1).reverse).reverse ++ S.drop (ip_mI aux).2.2.1).map (sd_v ad vz) by rw [← sd_take rfl]]
              exact sd_call IH hC hV hT hA hl hP hH hlk (sd_tkl hn rfl) (Or.inr (Or.inl ⟨rfl, hdec⟩)) h
      | invokespecial idx =>
        have := sd_ln hlen rfl; subst this
        simp only [ip_ex] at h
        simp only [ip_lk] at hlk
        split at h
        · rename_i ha
          rw [if_pos ha] at hlk
          split at h
          · rename_i k r
            split at h
            · rename_i hc
              obtain ⟨en, hen, h1⟩ := List.any_eq_true.mp hlk
              simp only [decide_eq_true_eq] at h1
              obtain ⟨e1, e2⟩ := h1
              have h2 := List.all_eq_true.mp ip_OLok en hen
              simp only [decide_eq_true_eq] at h2
              have hm := ip_good_mem (List.mem_of_getElem? h2) rfl
              rw [e1, e2] at hm
              obtain ⟨-, -, -, -, -, -, hfr, hlo, hce, hsl⟩ := id hC
              have kk := go _ _ _ _ _ _ _ h hl hP
              rw [List.map_cons, sd_v_ref hc.2.2]
              exact W.objInit hx hb hown (hts _ hm) (hts _ (ip_good_mem ip_w_obj.1 rfl)) (hts _ (ip_good_mem ip_w_obj.2 rfl)) rfl (by rw [hml]; exact hl.1) rfl hdec (by rw [hfr]; exact hc.1) (by rw [sd_cat hz, hlo]; have := hc.2.1; simpa using this) kk
            · cases h
          · cases h
        · rename_i ha
          rw [if_neg ha] at hlk
          split at h
          · cases h
          · rename_i hn
            split at h
            · rename_i k as hS
              split at h
              · rename_i hk
                rw [show S.map (sd_v ad vz) = ((Value.ref k :: as).reverse ++ S.drop (ip_mI aux).2.2.1).map (sd_v ad vz) by rw [← sd_take hS]]
                exact sd_call IH hC hV hT hA hl hP hH hlk (sd_tkl hn hS) (Or.inr (Or.inr ⟨rfl, hdec, k, as, rfl, hk⟩)) h
              · cases h
            · cases h
      | return_ =>
        simp only [ip_ex] at h
        split at h
        · rename_i hc
          obtain ⟨c1, c2, c3⟩ := hc
          have hS := List.length_eq_zero_iff.mp c1
          subst hS
          exact ends c3 none (Option.some.inj h).symm fun st' hst => Or.inl ⟨by have := sd_ln hlen rfl; rw [this] at hdec; exact hdec, rfl, hst.symm, c2⟩
        · cases h
      | ireturn =>
        simp only [ip_ex] at h
        split at h
        · rename_i v
          split at h
          · rename_i ty hty
            split at h
            · rename_i hc
              exact ends hc.2 _ (Option.some.inj h).symm fun st' hst => Or.inr (Or.inl ⟨by have := sd_ln hlen rfl; rw [this] at hdec; exact hdec, v, ty, rfl, hst.symm, hty, hc.1⟩)
            · cases h
          · cases h
        · cases h
      | lreturn =>
        simp only [ip_ex] at h
        split at h
        · rename_i v
          split at h
          · rename_i hc
            exact ends hc.2 _ (Option.some.inj h).symm fun st' hst => Or.inr (Or.inr (Or.inl ⟨by have := sd_ln hlen rfl; rw [this] at hdec; exact hdec, v, rfl, hst.symm, hc.1⟩))
          · cases h
        · cases h
      | areturn =>
        simp only [ip_ex] at h
        split at h
        · rename_i v
          split at h
          · rename_i nm hty
            split at h
            · rename_i hc
              exact ends hc _ (Option.some.inj h).symm fun st' hst => Or.inr (Or.inr (Or.inr ⟨by have := sd_ln hlen rfl; rw [this] at hdec; exact hdec, v, _, rfl, hst.symm, hty, Or.inl ⟨_, rfl⟩⟩))
            · cases h
          · rename_i nm hty
            split at h
            · rename_i hc
              exact ends hc _ (Option.some.inj h).symm fun st' hst => Or.inr (Or.inr (Or.inr ⟨by have := sd_ln hlen rfl; rw [this] at hdec; exact hdec, v, _, rfl, hst.symm, hty, Or.inr ⟨_, rfl⟩⟩))
            · cases h
          · cases h
        · cases h
      | _ =>
        simp only [ip_ex] at h
        obtain ⟨S', h1, h2⟩ := Option.bind_eq_some_iff.mp h
        exact stk S' h1 h2
