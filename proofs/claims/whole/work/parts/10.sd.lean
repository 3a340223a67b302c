/-! ===== the surroundings of a frame; what touches the stack alone ===== -/
def sd_t (dA : Nat → ClassId) : List (ClassId × FieldType) := [(dA 0, .int), (dA 1, .boolean), (dA 2, .byte), (dA 3, .array .int)]
def sd_V (D : va_G) (dA : Nat → ClassId) (ad : Nat → Nat) (vz : Value) (A : Nat → Prop) (U : State) (H : Heap) : Prop :=
  va_K D vwCl (sd_t dA) U ∧ (∀ w ∈ ip_nst, va_Nw w U) ∧ (Jvm.Cond.arrayOver (.array .int)).before #[] U = true ∧ (vz = .null ∨ ∃ a, vz = .ref a) ∧
  vk_S 5 ip_lenL ip_bytL (fun i => ad (ip_EX + 1 + i)) (fun i => ad (ip_EX + 11 + i)) A U H ∧
  (∀ i, i < 5 → vk_R "HandedSlips$Reader" (125 + 2 * i) (ip_strs.getD i "") (ad (ip_EX + 1 + i)) U) ∧
  va_Z "java/lang/String" "COMPACT_STRINGS" "Z" (.int 1) A U H ∧ va_Z "jdk/internal/util/Preconditions" "SIOOBE_FORMATTER" "Ljava/util/function/BiFunction;" vz A U H
theorem sd_AO_moved {u U : State} (hvm : u.vm.Alike U.vm) (h : (Jvm.Cond.arrayOver (.array .int)).before #[] u = true) : (Jvm.Cond.arrayOver (.array .int)).before #[] U = true := by
  have h' := h
  unfold Cond.before Cond.holds at h'
  simp only [Cond.value, beq_iff_eq] at h'
  cases hc : u.vm.findClass (FieldType.array .int).toString with
  | none => simp [hc] at h'
  | some comp =>
    simp only [hc, Option.bind_some, Option.bind_eq_some_iff, Option.map_eq_some_iff] at h'
    obtain ⟨c, hi, k, hk, hb⟩ := h'
    obtain ⟨k', hk', he⟩ := hvm.2.2 _ _ hk
    have hi2 : (U.vm.classes.findIdx? fun (x : Class) => match x.kind with | .array component _ => component == comp | _ => false) = some c := by
      have b1 := va_idx_bare U.vm comp
      have b2 := va_idx_bare u.vm comp
      first | rw [hvm.bare_eq] at b2 | rw [← hvm.bare_eq] at b2
      exact b1.symm.trans (b2.trans hi)
    have f1 : U.vm.findClass (FieldType.array .int).toString = some comp := by rw [hvm.findClass]; exact hc
    unfold Cond.before Cond.holds
    simp only [Cond.value]
    rw [f1, Option.bind_some]
    refine (congrArg (fun o : Option Nat => (o.bind (fun c => (U.vm.classes[c]?).map fun (k : Class) => match k.kind with | .array _ ty => decide (ty = FieldType.array .int) && decide (U.vm.findClass ("[" ++ (FieldType.array .int).toString) = some c) | _ => false) == some true)) hi2).trans ?_
    have hkk : k'.kind = k.kind := by rw [he]
    simp only [Option.bind_some, hk', Option.map_some, hkk, hvm.findClass]
    rw [beq_iff_eq]
    exact congrArg some hb
theorem sd_Nw {s U : State} (hW : s.WarmedH U.vm) (h : ∀ w ∈ ip_nst, va_Nw w s) : ∀ w ∈ ip_nst, va_Nw w U := by
  intro w hw
  have h1 := h w hw
  have h2 := (List.mem_filter.mp hw).2
  cases w <;> first | exact va_Nw.warmF hW h1 | exact va_Nw.warmM hW h1 | (simp [ip_isN] at h2)
theorem sd_V.move {D : va_G} {dA : Nat → ClassId} {ad : Nat → Nat} {vz : Value} {A B : Nat → Prop} {s U : State} {H H1 : Heap} (hW : s.WarmedH U.vm) (hH : ∀ a : Nat, a < H.size → ¬ A a → H1[a]? = H[a]?) (hAB : ∀ q, B q → A q) (h : sd_V D dA ad vz A s H) : sd_V D dA ad vz B U H1 := by
  obtain ⟨h1, h2, h3, h4, h5, h6, h7, h8⟩ := h
  exact ⟨h1.moved hW.alike, sd_Nw hW h2, sd_AO_moved hW.alike h3, h4, ((h5.moved hW.alike).kept hH).narrow hAB, fun i hi => (h6 i hi).warm hW, ((h7.moved hW.alike).kept hH).narrow hAB, ((h8.moved hW.alike).kept hH).narrow hAB⟩
theorem sd_V.ads {D : va_G} {dA : Nat → ClassId} {ad ad' : Nat → Nat} {vz : Value} {A : Nat → Prop} {U : State} {H : Heap} {n : Nat} (ha : sd_ag n ad ad') (h : sd_V D dA ad vz A U H) : sd_V D dA ad' vz A U H := by
  obtain ⟨h1, h2, h3, h4, h5, h6, h7, h8⟩ := h
  have e1 : (fun i => ad' (ip_EX + 1 + i)) = (fun i => ad (ip_EX + 1 + i)) := funext fun i => ha.2 _ (by omega)
  have e2 : (fun i => ad' (ip_EX + 11 + i)) = (fun i => ad (ip_EX + 11 + i)) := funext fun i => ha.2 _ (by omega)
  exact ⟨h1, h2, h3, h4, by rw [e1, e2]; exact h5, fun i hi => by rw [ha.2 _ (by omega)]; exact h6 i hi, h7, h8⟩
def sd_Tp (top : ip_Top) (ad : Nat → Nat) (A : Nat → Prop) (s : State) : Prop := match top with
  | none => True
  | some (L, xs) => va_X (ad ip_EX) L xs s s.heap ∧ ad ip_EX < s.heap.size ∧ ¬ A (ad ip_EX)
theorem sd_Tp.ads {top : ip_Top} {ad ad' : Nat → Nat} {A : Nat → Prop} {s : State} {n : Nat} (ha : sd_ag n ad ad') (h : sd_Tp top ad A s) : sd_Tp top ad' A s := by
  unfold sd_Tp at h ⊢
  split at h
  · trivial
  · rename_i L xs
    rw [ha.2 _ (Nat.le_refl _)]
    exact h
def sd_C (p : Program) (s : State) (m : MethodId) (meth : Method) (c : Code) (args : Array Value) (R : Room) (j : Nat) : Prop :=
  p.tables.exec = Jvm.exec ∧ c.code = (ip_mB j).2.1 ∧ c.maxLocals = (ip_mB j).2.2.1 ∧ s.vm.findClass (ip_own j) = some m.cls ∧ (∀ w ∈ ip_good, w.before args s = true) ∧ ((ip_mB j).1.name = "<init>" → meth.name = "<init>") ∧
  R.frames = (ip_mI j).2.2.2.1 ∧ R.locals = (ip_mI j).2.2.2.2.1 ∧ R.cells = (ip_mI j).2.2.2.2.2.1 ∧ R.slots = (ip_mI j).2.2.2.2.2.2
section SDW
variable {p : Program} {l : Launch} {e : Env} {R : Room} {s : State} {m : MethodId} {args : Array Value} {below : List Frame} {meth : Method} {c : Code} {H : Heap} {locs : List Loc} {cells slots : Nat} {Q : State → Prop}
variable {D : va_G} {dA : Nat → ClassId} {ad : Nat → Nat} {vz : Value} {A : Nat → Prop} {ls : Array Slot} {j pc len aux : Nat}
/-- the stack's own instructions -/
theorem sd_stk (hC : sd_C p s m meth c args R j) (hV : sd_V D dA ad vz A s s.heap) {ins : Instr} (hdec : decode (ip_mB j).2.1 pc = .ok (ins, len)) (hlen : ip_isw ins = true ∨ len = ip_ln ins) (hlk : ip_lk j pc aux ins = true) {S S' : List Value} (h : ip_st j aux S ins = some S')
    (k : W p l e R s m args below meth c H locs cells slots Q (F0 m (pc + len) ls (S'.map (sd_v ad vz)))) : W p l e R s m args below meth c H locs cells slots Q (F0 m pc ls (S.map (sd_v ad vz))) := by
  obtain ⟨hx, hb, hml, hown, hts, -⟩ := hC
  have hz := hV.2.2.2.1
  cases ins with
  | iconst n => cases h; cases hlen with | inl q => cases q | inr q => subst q; exact lv_iconst hx hb hdec rfl k
  | bipush n => cases h; cases hlen with | inl q => cases q | inr q => subst q; exact lv_bipush hx hb hdec rfl k
  | sipush n => cases h; cases hlen with | inl q => cases q | inr q => subst q; exact lv_sipush hx hb hdec rfl k
  | lconst n => cases h; cases hlen with | inl q => cases q | inr q => subst q; exact lv_lconst hx hb hdec rfl k
  | iadd =>
    cases hlen with | inl q => cases q | inr q => subst q; simp only [ip_st] at h; split at h <;> first | (cases h; exact lv_iadd hx hb hdec k) | cases h
  | isub =>
    cases hlen with | inl q => cases q | inr q => subst q; simp only [ip_st] at h; split at h <;> first | (cases h; exact lv_isub hx hb hdec k) | cases h
  | imul =>
    cases hlen with | inl q => cases q | inr q => subst q; simp only [ip_st] at h; split at h <;> first | (cases h; exact lv_imul hx hb hdec k) | cases h
  | idiv =>
    cases hlen with | inl q => cases q | inr q => subst q; simp only [ip_st] at h; split at h <;> first | (split at h <;> first | (cases h; rename_i hne; exact lv_idiv hx hb hdec hne k) | cases h) | cases h
  | irem =>
    cases hlen with | inl q => cases q | inr q => subst q; simp only [ip_st] at h; split at h <;> first | (split at h <;> first | (cases h; rename_i hne; exact lv_irem hx hb hdec hne k) | cases h) | cases h
  | iand =>
    cases hlen with | inl q => cases q | inr q => subst q; simp only [ip_st] at h; split at h <;> first | (cases h; exact lv_iand hx hb hdec k) | cases h
  | ior =>
    cases hlen with | inl q => cases q | inr q => subst q; simp only [ip_st] at h; split at h <;> first | (cases h; exact lv_ior hx hb hdec k) | cases h
  | ixor =>
    cases hlen with | inl q => cases q | inr q => subst q; simp only [ip_st] at h; split at h <;> first | (cases h; exact lv_ixor hx hb hdec k) | cases h
  | ishl =>
    cases hlen with | inl q => cases q | inr q => subst q; simp only [ip_st] at h; split at h <;> first | (cases h; exact lv_ishl hx hb hdec k) | cases h
  | ishr =>
    cases hlen with | inl q => cases q | inr q => subst q; simp only [ip_st] at h; split at h <;> first | (cases h; exact lv_ishr hx hb hdec k) | cases h
  | iushr =>
    cases hlen with | inl q => cases q | inr q => subst q; simp only [ip_st] at h; split at h <;> first | (cases h; exact lv_iushr hx hb hdec rfl k) | cases h
  | ladd =>
    cases hlen with | inl q => cases q | inr q => subst q; simp only [ip_st] at h; split at h <;> first | (cases h; exact lv_ladd hx hb hdec k) | cases h
  | lmul =>
    cases hlen with | inl q => cases q | inr q => subst q; simp only [ip_st] at h; split at h <;> first | (cases h; exact lv_lmul hx hb hdec k) | cases h
  | ldiv =>
    cases hlen with | inl q => cases q | inr q => subst q; simp only [ip_st] at h; split at h <;> first | (split at h <;> first | (cases h; rename_i hne; exact lv_ldiv hx hb hdec hne k) | cases h) | cases h
  | lrem =>
    cases hlen with | inl q => cases q | inr q => subst q; simp only [ip_st] at h; split at h <;> first | (split at h <;> first | (cases h; rename_i hne; exact lv_lrem hx hb hdec hne k) | cases h) | cases h
  | lcmp =>
    cases hlen with | inl q => cases q | inr q => subst q; simp only [ip_st] at h; split at h <;> first | (cases h; exact W.lcmp hx hb hdec k) | cases h
  | i2l =>
    cases hlen with | inl q => cases q | inr q => subst q; simp only [ip_st] at h; split at h <;> first | (cases h; exact lv_i2l hx hb hdec rfl k) | cases h
  | l2i =>
    cases hlen with | inl q => cases q | inr q => subst q; simp only [ip_st] at h; split at h <;> first | (cases h; exact lv_l2i hx hb hdec rfl k) | cases h
  | i2b =>
    cases hlen with | inl q => cases q | inr q => subst q; simp only [ip_st] at h; split at h <;> first | (cases h; exact lv_i2b hx hb hdec rfl k) | cases h
  | i2c =>
    cases hlen with | inl q => cases q | inr q => subst q; simp only [ip_st] at h; split at h <;> first | (cases h; exact lv_i2c hx hb hdec rfl k) | cases h
  | dup =>
    cases hlen with | inl q => cases q | inr q => subst q; simp only [ip_st] at h; split at h <;> first | (split at h <;> first | (cases h; rename_i hc; exact lv_dup hx hb hdec ((sd_v_cat hz _).trans hc) k) | cases h) | cases h
  | dup2 =>
    cases hlen with
    | inl q => cases q
    | inr q =>
      subst q
      simp only [ip_st] at h
      split at h
      · split at h
        · cases h
          rename_i hc
          exact lv_dup2_11 hx hb hdec ((sd_v_cat hz _).trans hc.1) ((sd_v_cat hz _).trans hc.2) k
        · split at h
          · cases h
            rename_i hc
            exact lv_dup2_2 hx hb hdec ((sd_v_cat hz _).trans hc) k
          · cases h
      · cases h
  | pop =>
    cases hlen with | inl q => cases q | inr q => subst q; simp only [ip_st] at h; split at h <;> first | (split at h <;> first | (cases h; rename_i hc; exact lv_pop hx hb hdec ((sd_v_cat hz _).trans hc) k) | cases h) | cases h
  | ldc idx =>
    cases hlen with
    | inl q => cases q
    | inr q =>
      subst q
      simp only [ip_st] at h
      simp only [ip_lk] at hlk
      split at h
      · rename_i h1000
        simp only [if_pos h1000, Bool.and_eq_true, beq_iff_eq, decide_eq_true_eq] at hlk
        split at h
        · cases h
          rename_i h5
          have hr := hV.2.2.2.2.2.1 (aux - 1000) (by omega)
          rw [← hlk.1, ← hlk.2] at hr
          rw [List.map_cons, sd_v_ref (by omega)] at k
          exact va_ldcS hx hb hown hr hdec k
        · cases h
      · rename_i h1000
        simp only [if_neg h1000, decide_eq_true_eq] at hlk
        cases hq : ip_KI[aux]? with
        | none => rw [hq] at h; cases h
        | some q =>
          rw [hq] at h hlk
          cases h
          simp only [Option.map_some, Option.some.injEq, Prod.mk.injEq] at hlk
          have hc := List.all_eq_true.mp ip_KIok q (List.mem_of_getElem? hq)
          simp only [decide_eq_true_eq] at hc
          have hm := ip_good_mem (List.mem_of_getElem? hc) rfl
          rw [hlk.1, hlk.2] at hm
          exact lv_ldc hx hb hown (hts _ hm) hdec k
  | ldc_w idx =>
    cases hlen with
    | inl q => cases q
    | inr q =>
      subst q
      simp only [ip_st] at h
      simp only [ip_lk, decide_eq_true_eq] at hlk
      cases hq : ip_KI[aux]? with
      | none => rw [hq] at h; cases h
      | some q =>
        rw [hq] at h hlk
        cases h
        simp only [Option.map_some, Option.some.injEq, Prod.mk.injEq] at hlk
        have hc := List.all_eq_true.mp ip_KIok q (List.mem_of_getElem? hq)
        simp only [decide_eq_true_eq] at hc
        have hm := ip_good_mem (List.mem_of_getElem? hc) rfl
        rw [hlk.1, hlk.2] at hm
        exact lv_ldcw hx hb hown (hts _ hm) hdec k
  | ldc2_w idx =>
    cases hlen with
    | inl q => cases q
    | inr q =>
      subst q
      simp only [ip_st] at h
      simp only [ip_lk, decide_eq_true_eq] at hlk
      cases hq : ip_KL[aux]? with
      | none => rw [hq] at h; cases h
      | some q =>
        rw [hq] at h hlk
        cases h
        simp only [Option.map_some, Option.some.injEq, Prod.mk.injEq] at hlk
        have hc := List.all_eq_true.mp ip_KLok q (List.mem_of_getElem? hq)
        simp only [decide_eq_true_eq] at hc
        have hm := ip_good_mem (List.mem_of_getElem? hc) rfl
        rw [hlk.1, hlk.2] at hm
        exact lv_ldc2 hx hb hown (hts _ hm) hdec k
  | _ => simp [ip_st] at h
end SDW
