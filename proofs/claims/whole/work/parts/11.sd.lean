/-! ===== the machine does what the interpreter says: the whole run ===== -/
def sd_rt (j pc : Nat) (r : Option Value) (st : List Value) (ad : Nat → Nat) (vz : Value) : Prop :=
  (decode (ip_mB j).2.1 pc = .ok (.return_, 1) ∧ r = none ∧ st = [] ∧ (ip_mB j).2.2.2 = none) ∨
  (decode (ip_mB j).2.1 pc = .ok (.ireturn, 1) ∧ ∃ (x : Int32) (ty : FieldType), r = some (.int x) ∧ st = [.int x] ∧ (ip_mB j).2.2.2 = some ty ∧ narrow ty (.int x) = .int x) ∨
  (decode (ip_mB j).2.1 pc = .ok (.lreturn, 1) ∧ ∃ x : Int64, r = some (.long x) ∧ st = [.long x] ∧ (ip_mB j).2.2.2 = some .long) ∨
  (decode (ip_mB j).2.1 pc = .ok (.areturn, 1) ∧ ∃ (a : Nat) (ty : FieldType), r = some (.ref a) ∧ st = [sd_v ad vz (.ref a)] ∧ (ip_mB j).2.2.2 = some ty ∧ ((∃ n, ty = .object n) ∨ ∃ t, ty = .array t))
def sd_P (D : va_G) (dA : Nat → ClassId) (ad : Nat → Nat) (A : Nat → Prop) (s : State) (H : Heap) (locs : List Loc) (sz0 : Nat) (M : ip_M) : Prop :=
  va_P D vwCl (sd_w ad dA M) H ∧ va_D A (sd_w ad dA M) ∧ va_S A s.heap H locs ∧ sz0 ≤ M.1.length ∧ M.1.length ≤ ip_EX
def sd_H (p : Program) (l : Launch) (e : Env) (R : Room) (s : State) (m : MethodId) (args : Array Value) (below : List Frame) (meth : Method) (c : Code) (D : va_G) (dA : Nat → ClassId) (vz : Value) (A : Nat → Prop) (Q : State → Prop) (j sz0 : Nat) (ad : Nat → Nat) (res : ip_R) : Prop :=
  ∀ (ad' : Nat → Nat) (H' : Heap) (locs' : List Loc) (pc' : Nat) (ls' : Array Slot) (st' : List Value), sd_ag sz0 ad ad' → ((ip_mI j).2.2.2.2.2.1 = 0 → ad' = ad) → sd_P D dA ad' A s H' locs' sz0 res.2 → sd_rt j pc' res.1 st' ad' vz →
    W p l e R s m args below meth c H' locs' (ip_mI j).2.2.2.2.2.1 (ip_mI j).2.2.2.2.2.2 Q (F0 m pc' ls' st')
def sd_Snd (l : Launch) (D : va_G) (dA : Nat → ClassId) (vz : Value) (n : Nat) : Prop :=
  ∀ (top : ip_Top) (j pc : Nat) (L S : List Value) (M : ip_M) (cs : Nat × Nat) (res : ip_R), ip_run top n j pc L S M cs = some res →
  ∀ (p : Program) (e : Env) (R : Room) (s : State) (m : MethodId) (args : Array Value) (below : List Frame) (meth : Method) (c : Code) (A : Nat → Prop) (Q : State → Prop) (ad : Nat → Nat) (H : Heap) (locs : List Loc) (ls : Array Slot) (sz0 : Nat),
    sd_C p s m meth c args R j → sd_V D dA ad vz A s s.heap → sd_Tp top ad A s → (∀ q : Nat, s.heap.size ≤ q → A q) → lv_has ls (ip_mB j).2.2.1 (sd_al ad vz L) → sd_P D dA ad A s H locs sz0 M → sd_H p l e R s m args below meth c D dA vz A Q j sz0 ad res →
    W p l e R s m args below meth c H locs cs.1 cs.2 Q (F0 m pc ls (S.map (sd_v ad vz)))
theorem sd_H.step {p : Program} {l : Launch} {e : Env} {R : Room} {s : State} {m : MethodId} {args : Array Value} {below : List Frame} {meth : Method} {c : Code} {D : va_G} {dA : Nat → ClassId} {vz : Value} {A : Nat → Prop} {Q : State → Prop} {j sz0 n : Nat} {ad ad' : Nat → Nat} {res : ip_R}
    (h : sd_H p l e R s m args below meth c D dA vz A Q j sz0 ad res) (ha : sd_ag n ad ad') (hn : sz0 ≤ n) (hm : (ip_mI j).2.2.2.2.2.1 = 0 → ad' = ad) : sd_H p l e R s m args below meth c D dA vz A Q j sz0 ad' res :=
  fun ad2 H' locs' pc' ls' st' h1 h2 h3 h4 => h ad2 H' locs' pc' ls' st' ⟨fun k hk => (h1.1 k hk).trans (ha.1 k (by omega)), fun k hk => (h1.2 k hk).trans (ha.2 k hk)⟩ (fun z => (h2 z).trans (hm z)) h3 h4
/-- a method's contract: from its arguments and the world M to its answer and the world behind it -/
def sd_Pre (D : va_G) (dA : Nat → ClassId) (vz : Value) (ad : Nat → Nat) (M : ip_M) (as : List Value) (sz : Nat) : Array Value → State → Prop :=
  va_Pc (as.map (sd_v ad vz)) (fun U => U.heap.size = sz ∧ va_P D vwCl (sd_w ad dA M) U.heap ∧ va_D (fun _ => True) (sd_w ad dA M) ∧ sd_V D dA ad vz (va_A (sd_w ad dA M) sz) U U.heap)
def sd_Post (D : va_G) (dA : Nat → ClassId) (vz : Value) (ad : Nat → Nat) (M : ip_M) (sz mc : Nat) (res : ip_R) : Array Value → State → Outcome → State → Prop := fun _ st o t =>
  ∃ ad' : Nat → Nat, sd_ag M.1.length ad ad' ∧ (mc = 0 → ad' = ad) ∧ M.1.length ≤ res.2.1.length ∧ res.2.1.length ≤ ip_EX ∧ o = .returned (res.1.map (sd_v ad' vz)) ∧ va_P D vwCl (sd_w ad' dA res.2) t.heap ∧ va_D (va_A (sd_w ad dA M) sz) (sd_w ad' dA res.2) ∧ va_F (va_A (sd_w ad dA M) sz) st t
def sd_ws (i : Nat) : List Jvm.Cond := Jvm.Cond.code (ip_mB i).1 (ip_mB i).2.1 (ip_mB i).2.2.1 (ip_mB i).2.2.2 :: ip_good
def sd_rm (i : Nat) : Room := { frames := (ip_mI i).2.2.2.1, cells := (ip_mI i).2.2.2.2.2.1, slots := (ip_mI i).2.2.2.2.2.2, locals := (ip_mI i).2.2.2.2.1 }
theorem sd_met {l : Launch} {D : va_G} {dA : Nat → ClassId} {vz : Value} {n : Nat} (IH : sd_Snd l D dA vz n) {i : Nat} (hi : i < ip_mi.length) (h0 : 0 < i) {as : List Value} {M : ip_M} {res : ip_R} (h : ip_run none n i 0 (ip_loc (ip_mB i).2.2.1 as) [] M (0, 0) = some res)
    (ho : as.all ip_okv = true) (hl : (ip_arg as).length ≤ (ip_mB i).2.2.1) (hM : M.1.length ≤ ip_EX) (ad : Nat → Nat) (sz : Nat) :
    Met l (ip_mB i).1 (sd_ws i) (sd_rm i) (sd_Pre D dA vz ad M as sz) (sd_Post D dA vz ad M sz (ip_mI i).2.2.2.2.2.1 res) (ip_mI i).2.2.2.2.2.1 (ip_mI i).2.2.2.2.2.2 (va_A (sd_w ad dA M) sz) := by
  have hnm := ip_w_name1 i hi h0
  have hown2 := ip_w_name2 (ip_mI i).1 (ip_w_name3 i hi)
  refine Met.ofW (cc := (ip_mB i).2.1) (maxL := (ip_mB i).2.2.1) (ret := (ip_mB i).2.2.2) (by rw [hnm]; exact hown2.1) rfl ?_
  intro p e s m args below meth c s₁ B hml hv
  obtain ⟨rfl, hsz, hP, hD0, hV⟩ := hv
  have hts := atoms_spec (ws := sd_ws i) B.pre
  have hz := hV.2.2.2.1
  subst hsz
  have hown : s.vm.findClass (ip_own i) = some m.cls := by rw [← hnm]; exact findClass_of_methodNamed B.named
  have hC : sd_C p s m meth c ((as.map (sd_v ad vz)).toArray) (headSpec (sd_ws i) (sd_rm i)).room i :=
    ⟨B.exec, B.bytes, hml, hown, fun w hw => hts w (List.mem_cons_of_mem _ hw), fun q => by rw [← q]; exact (name_of_methodNamed B.named B.method).1, rfl, rfl, rfl, rfl⟩
  rw [lg_entry_eq]
  have hl0 := sd_entry (ad := ad) (n := (ip_mB i).2.2.1) hz ho hl
  generalize (lg_sl (as.map (sd_v ad vz)) ++ List.replicate ((ip_mB i).2.2.1 - (lg_sl (as.map (sd_v ad vz))).length) Slot.unset).toArray = ls at hl0 ⊢
  refine IH none i 0 _ [] M (0, 0) res h p e _ s m _ below meth c (va_A (sd_w ad dA M) s.heap.size) _ ad s.heap [] ls M.1.length hC hV trivial (fun q hq => Or.inr hq) hl0 ⟨hP, hD0.self, va_S.rf, Nat.le_refl _, hM⟩ ?_
  intro ad' H' locs' pc' ls' st' ha1 ha2 ⟨g1, g2, g3, g4, g5⟩ hrt
  have post : ∀ (r : Option Value) (t : State), r = res.1.map (sd_v ad' vz) → t.heap = H' → sd_Post D dA vz ad M s.heap.size (ip_mI i).2.2.2.2.2.1 res ((as.map (sd_v ad vz)).toArray) s (.returned r) t := fun r t hr ht =>
    ⟨ad', ha1, ha2, g4, g5, by rw [hr], by rw [ht]; exact g1, g2, g3.F ht⟩
  have hr := B.returns
  rcases hrt with ⟨hd, h1, rfl, h3⟩ | ⟨hd, x, ty, h1, rfl, h3, h4⟩ | ⟨hd, x, h1, rfl, h3⟩ | ⟨hd, a, ty, h1, rfl, h3, h4⟩
  · exact W.vret B.exec B.bytes (hr.trans h3) (fun t ht _ => post none t (by rw [h1]; rfl) ht) g3.2.2 hd B.notSynchronized
  · exact W.zret B.exec B.bytes (hr.trans h3) h4 (fun t ht _ => post _ t (by rw [h1]; rfl) ht) g3.2.2 hd B.notSynchronized
  · exact W.lret B.exec B.bytes (hr.trans h3) (fun t ht _ => post _ t (by rw [h1]; rfl) ht) g3.2.2 hd B.notSynchronized
  · refine W.aret B.exec B.bytes (hr.trans h3) h4 ?_ (fun t ht _ => post _ t (by rw [h1]; rfl) ht) g3.2.2 hd B.notSynchronized
    show (if a = ip_EX + 50 then vz else Value.ref (ad' a)) = Value.null ∨ ∃ b, (if a = ip_EX + 50 then vz else Value.ref (ad' a)) = Value.ref b
    split
    · exact hz
    · exact Or.inr ⟨_, rfl⟩
section SDC
variable {p : Program} {l : Launch} {e : Env} {R : Room} {s : State} {m : MethodId} {args : Array Value} {below : List Frame} {meth : Method} {c : Code} {H : Heap} {locs : List Loc} {cells slots : Nat} {Q : State → Prop}
variable {D : va_G} {dA : Nat → ClassId} {ad : Nat → Nat} {vz : Value} {A : Nat → Prop} {ls : Array Slot} {j pc len aux sz0 : Nat}
theorem sd_good {i : Nat} (hi : i < ip_mi.length) (h0 : 0 < i) : GoodIn ip_good (sd_ws i) := by
  intro w hw
  have hm : w ∈ ip_good := by
    rcases List.mem_cons.mp hw with rfl | h
    · exact ip_w_code i hi h0
    · exact h
  exact ⟨hm, good_of_word (List.mem_filter.mp hm).2⟩
theorem sd_blind {M : ip_M} {as : List Value} {sz : Nat} : FrameBlind (sd_Pre D dA vz ad M as sz) := by
  intro a U g mk q
  obtain ⟨q0, q1, qP, qD, qV⟩ := q
  refine ⟨q0, q1, qP, qD, ?_⟩
  exact qV.move (s := U) (U := U.calling g mk a) (State.WarmedH.refl U) (fun _ _ _ => rfl) (fun _ h => h)
/-- what the caller's surroundings give the callee's -/
theorem sd_into {M : ip_M} {as : List Value} (hV : sd_V D dA ad vz A s s.heap) (hA : ∀ q : Nat, s.heap.size ≤ q → A q) (hP : sd_P D dA ad A s H locs sz0 M) :
    (∀ q, va_A (sd_w ad dA M) H.size q → A q) ∧ ∀ U : State, U.heap = H → s.WarmedH U.vm → sd_Pre D dA vz ad M as H.size (as.map (sd_v ad vz)).toArray U := by
  obtain ⟨h1, h2, h3, h4, h5⟩ := hP
  have hF : ∀ q, va_A (sd_w ad dA M) H.size q → A q := fun q h => by
    rcases h with ⟨k, e, h⟩ | h
    · exact h2.2 k (q, e) h
    · exact hA q (Nat.le_trans h3.1 h)
  refine ⟨hF, fun U hU hW => ⟨rfl, by rw [hU], by rw [hU]; exact h1, h2.weaken (fun _ _ _ _ => trivial), ?_⟩⟩
  refine hV.move hW (fun a ha hn => ?_) hF
  rw [hU]
  exact h3.2.1 a ha hn
/-- behind a call -/
theorem sd_back {top : ip_Top} {n i : Nat} {as rest L : List Value} {M : ip_M} {res r1 : ip_R} {cs : Nat × Nat} (IH : sd_Snd l D dA vz n)
    (hC : sd_C p s m meth c args R j) (hV : sd_V D dA ad vz A s s.heap) (hT : sd_Tp top ad A s) (hA : ∀ q : Nat, s.heap.size ≤ q → A q) (hl : lv_has ls (ip_mB j).2.2.1 (sd_al ad vz L)) (hP : sd_P D dA ad A s H locs sz0 M) (hH : sd_H p l e R s m args below meth c D dA vz A Q j sz0 ad res)
    (hmc : (ip_mI j).2.2.2.2.2.1 = 0 → (ip_mI i).2.2.2.2.2.1 = 0) (hwf : (ip_mI i).2.2.2.2.2.1 = 0 ∨ ip_wf M L (as ++ rest) = true)
    {av : Array Value} (hr : va_Run p l e R s m args below meth c H locs cs.1 cs.2 (ip_mI i).2.2.2.2.2.1 (ip_mI i).2.2.2.2.2.2 (F0 m pc ls ((as.reverse ++ rest).map (sd_v ad vz))) (rest.map (sd_v ad vz)) (sd_Post D dA vz ad M H.size (ip_mI i).2.2.2.2.2.1 r1 av) (va_A (sd_w ad dA M) H.size))
    (hrun : ip_run top n j (pc + 3) L (r1.1.toList ++ rest) r1.2 (cs.1 + (ip_mI i).2.2.2.2.2.1, cs.2 + (ip_mI i).2.2.2.2.2.2) = some res) :
    W p l e R s m args below meth c H locs cs.1 cs.2 Q (F0 m pc ls ((as.reverse ++ rest).map (sd_v ad vz))) := by
  obtain ⟨hF, -⟩ := sd_into (as := as) hV hA hP
  obtain ⟨hP1, hP2, hP3, hP4, hP5⟩ := hP
  intro T hTH X
  obtain ⟨v, st₀, t, T', L2, h0, X', hL, e1, e2, ⟨ad', g1, g2, g3, g4, g5, g6, g7, g8⟩, st⟩ := hr T hTH X
  cases g5
  have hS1 : va_S A s.heap T'.heap (locs ++ L2) := by
    rw [e1]
    refine ⟨Nat.le_trans hP3.1 (by rw [← h0]; exact g8.1), fun q q1 q2 => ?_, fun q hq => ?_⟩
    · rw [g8.2 q (by rw [h0]; exact Nat.lt_of_lt_of_le q1 hP3.1) (fun z => q2 (hF q z)), h0]
      exact hP3.2.1 q q1 q2
    · rcases List.mem_append.mp hq with h | h
      · exact hP3.2.2 q h
      · exact hF _ (hL q h)
  have hwl : ∀ v ∈ L, sd_v ad' vz v = sd_v ad vz v := fun v hv => by
    rcases hwf with h | h
    · rw [g2 h]
    · simp only [ip_wf, Bool.and_eq_true] at h
      exact sd_v_ad (List.all_eq_true.mp h.1.2 v hv) g1
  have hwr : rest.map (sd_v ad' vz) = rest.map (sd_v ad vz) := by
    rcases hwf with h | h
    · rw [g2 h]
    · simp only [ip_wf, Bool.and_eq_true, List.all_append] at h
      exact sd_S_ad h.2.2 g1
  have hl' : lv_has ls (ip_mB j).2.2.1 (sd_al ad' vz L) := by
    refine ⟨hl.1, hl.2.1, fun q hq => ?_⟩
    obtain ⟨k, w, q1, q2, rfl⟩ := sd_al_of hq
    rw [hwl w (List.mem_of_getElem? q1)]
    exact sd_ld hl q1 q2
  have key := IH top j (pc + 3) L (r1.1.toList ++ rest) r1.2 _ res hrun p e R s m args below meth c A Q ad' T'.heap (locs ++ L2) ls sz0 hC (hV.ads g1) (hT.ads g1) hA hl' ⟨by rw [e1]; exact g6, g7.weaken (fun _ q _ h => hF q.1 h), hS1, Nat.le_trans hP4 g3, g4⟩ (hH.step g1 hP4 (fun z => g2 (hmc z)))
  obtain ⟨t2, a1, b1⟩ := key T' rfl X'
  refine ⟨t2, st t2 ?_, b1⟩
  have es : (r1.1.toList ++ rest).map (sd_v ad' vz) = (r1.1.map (sd_v ad' vz)).toList ++ rest.map (sd_v ad vz) := by
    rw [List.map_append, hwr]
    congr 1
    cases r1.1 <;> rfl
  rw [es] at a1
  exact a1
end SDC
