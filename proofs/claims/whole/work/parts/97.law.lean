/-! THE CLAIM OUT OF ONE WALK OF THE LAW'S BODY. Your part is whole_start (and what it stands on); all else here is the same for every law, but numbers. -/
def R_law : String := "HandedSlipsLaw"
def lw_P (b : Addr) (xs : List Int32) (args : Array Value) (s : State) : Prop := args = #[.ref b] ∧ s.IntsAt b xs ∧ xs.length ≤ 2560 ∧ (Jvm.Cond.and given_1 narrow_1).before args s = true
def lw_Q (_ : Array Value) (s : State) (o : Outcome) (t : State) : Prop := o = .returned (some (.int 1)) ∧ Framed s o t [] 600000 7302250
def lw_Z (below : List Frame) (a : Array Value) (s : State) : State → Prop := fun t => ∃ o, t.status = .running ∧ Ended t below o ∧ lw_Q a s o t
/-- the law's own end, with 1 on the stack, nothing written that was there before, its room as the claim has it -/
theorem lw_ret {p : Program} {l : Launch} {e : Env} {s : State} {m : MethodId} {below : List Frame} {meth : Method} {c : Code} {b : Nat} (hx : p.tables.exec = Jvm.exec) (hb : c.code = code) (hr : meth.sig.returnType = ret) (hlocks : meth.locks = false) {pc : Nat} {H : Heap} {ls : Array Slot} (hdg : decode code pc = .ok (.ireturn, 1)) : W p l e room_1 s m #[Value.ref b] below meth c H [] 600000 7302250 (lw_Z below #[Value.ref b] s) (F0 m pc ls [.int 1]) := by
  intro T hT X
  obtain ⟨fs, hret, hrun, hended, hW, hframe⟩ := X.leave (v := some (.int 1)) (hlocks := hlocks) (fun h => by rw [hr] at h; cases h)
  have hmeth' : T.vm.method? m = some meth := X.method'
  refine ⟨T.setFrames fs, ?_, .returned (some (.int 1)), hrun, hended, rfl, ⟨_, rfl⟩, hW, hframe⟩
  jvm_step X.here [X.here.top, hx, hb, hdg, hmeth', hr, ret, narrow_b1]
  (try refine ⟨rfl, ?_⟩); (try refine ⟨rfl, ?_⟩)
  first | (intro acts; rw [hret _ acts rfl rfl rfl]) | rw [hret _ _ rfl rfl rfl]
  exact Steps.refl _
/-- what holds at the law's entry: the machine, the code, the tables' words (any of lw_tbl by 'hts w (by decide +kernel)'), the script of L ints xs at the cell b, what the Statement gives of the start (any of its parts by flat_of_before) -/
def lw_At (p : Program) (s : State) (m : MethodId) (meth : Method) (c : Code) (b L : Nat) (xs : Nat → Int32) : Prop :=
  p.tables.exec = Jvm.exec ∧ c.code = code ∧ meth.sig.returnType = ret ∧ c.maxLocals = 4 ∧ s.vm.findClass R_law = some m.cls ∧ (∀ w ∈ lw_tbl, w.before #[Value.ref b] s = true) ∧ va_X b L xs s s.heap ∧ b < s.heap.size ∧ meth.locks = false ∧ (Jvm.Cond.and given_1 narrow_1).before #[Value.ref b] s = true
/-! ===== the law's entry: what the machine gives there, and the run's end ===== -/
theorem le_inst : vwCl.all (fun r => decide (Jvm.Cond.instantiable r.1 r.2.2 ∈ lw_tbl)) = true := by decide +kernel
theorem le_cls {args : Array Value} {s : State} (hts : ∀ w ∈ lw_tbl, w.before args s = true) : ∃ (dC : Nat → ClassId) (dI : Nat → Nat → Nat), ∀ (k : Nat) (q : vw_C), vwCl[k]? = some q → u_Kn s q.1 q.2.1 q.2.2 (dC k) (dI k) := by
  have h : ∀ k : Nat, ∃ z : ClassId × (Nat → Nat), ∀ q : vw_C, vwCl[k]? = some q → u_Kn s q.1 q.2.1 q.2.2 z.1 z.2 := by
    intro k
    cases hk : vwCl[k]? with
    | none => exact ⟨(0, fun _ => 0), fun q h => by cases h⟩
    | some r =>
      have hm := List.all_eq_true.mp le_inst r (List.mem_of_getElem? hk)
      simp only [decide_eq_true_eq] at hm
      obtain ⟨c, i, hK⟩ := u_known (C := r.1) (T := r.2.1) (N := r.2.2) (n := r.2.2) hts (ip_cl_in k r hk) (hts _ hm)
      exact ⟨(c, i), fun q h => by cases h; exact hK⟩
  obtain ⟨f, hf⟩ := Classical.axiomOfChoice h
  exact ⟨fun k => (f k).1, fun k => (f k).2, hf⟩
theorem le_arr {args : Array Value} {s : State} (hts : ∀ w ∈ lw_tbl, w.before args s = true) : ∃ dA : Nat → ClassId, ∀ (k : Nat) (q : ClassId × FieldType), (sd_t dA)[k]? = some q → ArrOfT s q.1 q.2 ∧ va_RA s q.1 q.2 := by
  have one : ∀ ty : FieldType, (∀ C, ty ≠ .object C) → (Jvm.Cond.arrayClass ty).before args s = true → ∃ c : ClassId, ArrOfT s c ty ∧ va_RA s c ty := fun ty ho h => by
    obtain ⟨c, k, comp, h1, h2, h3⟩ := Cond.arrayClass_spec h
    refine ⟨c, fun N z => ⟨(fun q hq => by cases hq), k, h2, comp, h3⟩, ?_⟩
    cases ty <;> first | exact h1 | exact absurd rfl (ho _)
  obtain ⟨w1, w2, w3, w4⟩ := ip_w_arr
  obtain ⟨c0, h0⟩ := one .int (fun C h => by cases h) (hts _ w1)
  obtain ⟨c1, h1⟩ := one .boolean (fun C h => by cases h) (hts _ w2)
  obtain ⟨c2, h2⟩ := one .byte (fun C h => by cases h) (hts _ w3)
  obtain ⟨comp, c3, k3, g1, g2, g3, g4⟩ := Cond.arrayOver_specA (hts _ w4)
  have h3 : ArrOfT s c3 (.array .int) ∧ va_RA s c3 (.array .int) := ⟨fun N z => ⟨(fun q hq => by cases hq), k3, g2, comp, g3⟩, g4⟩
  refine ⟨fun t => match t with | 0 => c0 | 1 => c1 | 2 => c2 | _ => c3, fun k q hq => ?_⟩
  match k, hq with
  | 0, hq => cases hq; exact h0
  | 1, hq => cases hq; exact h1
  | 2, hq => cases hq; exact h2
  | 3, hq => cases hq; exact h3
  | k + 4, hq => simp [sd_t] at hq
theorem le_lenL : ∀ i, i < 5 → ip_lenL.getD i 0 < 2 ^ 31 := by decide
theorem le_5 {P : Nat → Prop} (h0 : P 0) (h1 : P 1) (h2 : P 2) (h3 : P 3) (h4 : P 4) : ∀ i, i < 5 → P i := by
  intro i hi
  match i, hi with
  | 0, _ => exact h0
  | 1, _ => exact h1
  | 2, _ => exact h2
  | 3, _ => exact h3
  | 4, _ => exact h4
theorem le_w0 : ∀ i, i < 5 → Jvm.Cond.exactly (.string "HandedSlips$Reader" (125 + 2 * i)) "java/lang/String" ∈ flatC (Jvm.Cond.and given_1 narrow_1) ∧ Jvm.Cond.eq (.field (.string "HandedSlips$Reader" (125 + 2 * i)) "java/lang/String" "coder" "B") (.int 0) ∈ flatC (Jvm.Cond.and given_1 narrow_1) ∧
    Jvm.Cond.arrayOf (.field (.string "HandedSlips$Reader" (125 + 2 * i)) "java/lang/String" "value" "[B") .byte ∈ flatC (Jvm.Cond.and given_1 narrow_1) ∧ Jvm.Cond.eq (.length (.field (.string "HandedSlips$Reader" (125 + 2 * i)) "java/lang/String" "value" "[B")) (.int (Int32.ofNat (ip_lenL.getD i 0))) ∈ flatC (Jvm.Cond.and given_1 narrow_1) := by decide +kernel
theorem le_w1 : ∀ i, i < 5 → ∀ j, j < ip_lenL.getD i 0 → Jvm.Cond.eq (.elem (.field (.string "HandedSlips$Reader" (125 + 2 * i)) "java/lang/String" "value" "[B") (.int (Int32.ofNat j))) (.int ((ip_bytL.getD i []).getD j 0)) ∈ flatC (Jvm.Cond.and given_1 narrow_1) := by decide +kernel
theorem le_w2 : ∀ i, i < 5 → ∀ j, j < 5 → i ≠ j → Jvm.Cond.not (Jvm.Cond.eq (.string "HandedSlips$Reader" (125 + 2 * i)) (.string "HandedSlips$Reader" (125 + 2 * j))) ∈ flatC (Jvm.Cond.and given_1 narrow_1) ∨ Jvm.Cond.not (Jvm.Cond.eq (.string "HandedSlips$Reader" (125 + 2 * j)) (.string "HandedSlips$Reader" (125 + 2 * i))) ∈ flatC (Jvm.Cond.and given_1 narrow_1) := by decide +kernel
theorem le_w3 : ∀ i, i < 5 → Jvm.Cond.stringRef "HandedSlips$Reader" (125 + 2 * i) (ip_strs.getD i "") ∈ lw_tbl := by decide +kernel
theorem le_w4 : Jvm.Cond.eq (.static "java/lang/String" "COMPACT_STRINGS" "Z") (.int 1) ∈ flatC (Jvm.Cond.and given_1 narrow_1) ∧ Jvm.Cond.isRef (.static "jdk/internal/util/Preconditions" "SIOOBE_FORMATTER" "Ljava/util/function/BiFunction;") ∈ flatC (Jvm.Cond.and given_1 narrow_1) := by decide +kernel
theorem le_w5 : Jvm.Cond.laysStatic "java/lang/String" "COMPACT_STRINGS" "Z" ∈ lw_tbl ∧ Jvm.Cond.laysStatic "jdk/internal/util/Preconditions" "SIOOBE_FORMATTER" "Ljava/util/function/BiFunction;" ∈ lw_tbl ∧ Jvm.Cond.initialized "java/lang/String" ∈ lw_tbl ∧ Jvm.Cond.initialized "jdk/internal/util/Preconditions" ∈ lw_tbl := by decide +kernel
def le_ad (b : Nat) (adK adV : Nat → Nat) : Nat → Nat := fun k => if k = ip_EX then b else if ip_EX + 11 ≤ k then adV (k - (ip_EX + 11)) else adK (k - (ip_EX + 1))
theorem le_ad1 (b : Nat) (adK adV : Nat → Nat) : ∀ i, i < 5 → le_ad b adK adV (ip_EX + 1 + i) = adK i := fun i hi => by
  unfold le_ad
  rw [if_neg (by omega), if_neg (by omega), show ip_EX + 1 + i - (ip_EX + 1) = i by omega]
theorem le_ad2 (b : Nat) (adK adV : Nat → Nat) : ∀ i, le_ad b adK adV (ip_EX + 11 + i) = adV i := fun i => by
  unfold le_ad
  rw [if_neg (by omega), if_pos (by omega), show ip_EX + 11 + i - (ip_EX + 11) = i by omega]
/-- the law's whole run in the interpreter gives the walk of its body -/
theorem le_start {p : Program} {e : Env} {s : State} {m : MethodId} {below : List Frame} {meth : Method} {c : Code} (l : Launch) {b L : Nat} {xs : Nat → Int32} (C0 : lw_At p s m meth c b L xs) {n : Nat} {M' : ip_M} (hrun : ip_run (some (L, xs)) n 0 0 [.ref ip_EX, .float 0, .float 0, .float 0] [] ([], fun _ _ => 0, fun _ _ => 0) (0, 0) = some (some (.int 1), M')) :
    W p l e room_1 s m #[Value.ref b] below meth c s.heap [] 0 0 (lw_Z below #[Value.ref b] s) (entryFrame m ([Value.ref b] : List Value).toArray 4) := by
  obtain ⟨hx, hb, hr, hml, hown, hts, hX, hbl, hlocks, hgv⟩ := id C0
  have hs := flat_of_before _ hgv
  have hA0 : ∀ a : Nat, a < s.heap.size → ¬ (fun q : Nat => s.heap.size ≤ q) a := fun a h => Nat.not_le.mpr h
  obtain ⟨dC, dI, hKc⟩ := le_cls hts
  obtain ⟨dA, hKa⟩ := le_arr hts
  obtain ⟨adK, adV, hS, hev⟩ := vk_Sof (args := #[Value.ref b]) (s := s) (N := 5) (tm := fun i => .string "HandedSlips$Reader" (125 + 2 * i)) (len := ip_lenL) (byt := ip_bytL) (A := fun q : Nat => s.heap.size ≤ q) le_lenL
    (fun i hi => hs _ (le_w0 i hi).1) (fun i hi => hs _ (le_w0 i hi).2.1) (fun i hi => hs _ (le_w0 i hi).2.2.1) (fun i hi => hs _ (le_w0 i hi).2.2.2) (fun i hi j hj => hs _ (le_w1 i hi j hj))
    (fun i j hi hj hij => (le_w2 i hi j hj hij).imp (hs _) (hs _)) hA0
  obtain ⟨vz, hvz, hvr⟩ := Cond.isRef_spec (hs _ le_w4.2)
  have hz : vz = .null ∨ ∃ a, vz = .ref a := by
    cases vz with
    | null => exact Or.inl rfl
    | ref a => exact Or.inr ⟨a, rfl⟩
    | _ => simp [Value.isRef] at hvr
  have hS' : vk_S 5 ip_lenL ip_bytL (fun i => le_ad b adK adV (ip_EX + 1 + i)) (fun i => le_ad b adK adV (ip_EX + 11 + i)) (fun q : Nat => s.heap.size ≤ q) s s.heap := by
    refine ⟨fun i hi => ?_, fun i j hi hj h => hS.2 i j hi hj (by dsimp only at h; rw [le_ad1 b adK adV i hi, le_ad1 b adK adV j hj] at h; exact h)⟩
    dsimp only
    rw [le_ad1 b adK adV i hi, le_ad2 b adK adV i]
    exact hS.1 i hi
  have hV : sd_V (dC, dI) dA (le_ad b adK adV) vz (fun q : Nat => s.heap.size ≤ q) s s.heap := by
    refine ⟨⟨hKc, hKa⟩, fun w hw => ?_, hts _ ip_w_arr.2.2.2, hz, hS', fun i hi => ?_, va_Zof (hts _ le_w5.1) (hts _ le_w5.2.2.1) (va_eqi (hs _ le_w4.1)) hA0, va_Zof (hts _ le_w5.2.1) (hts _ le_w5.2.2.2) hvz hA0⟩
    · have h2 := (List.mem_filter.mp hw).2
      have h1 := hts w (List.mem_filter.mp hw).1
      cases w <;> first | exact va_Nw.of rfl h1 | (simp [ip_isN] at h2)
    · rw [le_ad1 b adK adV i hi]
      exact vk_R.of (A := #[Value.ref b]) (hts _ (le_w3 i hi)) (hev i hi)
  have hbE : le_ad b adK adV ip_EX = b := by unfold le_ad; rw [if_pos rfl]
  have hC : sd_C p s m meth c #[Value.ref b] room_1 0 := ⟨hx, hb, hml, hown, fun w hw => hts w (List.mem_filter.mp hw).1, fun q => absurd q (by decide), rfl, rfl, rfl, rfl⟩
  have hT : sd_Tp (some (L, xs)) (le_ad b adK adV) (fun q : Nat => s.heap.size ≤ q) s := by
    show va_X (le_ad b adK adV ip_EX) L xs s s.heap ∧ le_ad b adK adV ip_EX < s.heap.size ∧ ¬ s.heap.size ≤ le_ad b adK adV ip_EX
    rw [hbE]
    exact ⟨hX, hbl, Nat.not_le.mpr hbl⟩
  rw [lg_entry_eq]
  have hl := sd_entry (ad := le_ad b adK adV) (vz := vz) (as := [.ref ip_EX]) (n := 4) hz rfl (by decide)
  have hm1 : ([.ref ip_EX] : List Value).map (sd_v (le_ad b adK adV) vz) = [Value.ref b] := by
    rw [List.map_cons, sd_v_ref (by decide), hbE]
    rfl
  rw [hm1] at hl
  generalize (lg_sl ([Value.ref b]) ++ List.replicate (4 - (lg_sl ([Value.ref b])).length) Slot.unset).toArray = ls at hl ⊢
  have hP : sd_P (dC, dI) dA (le_ad b adK adV) (fun q : Nat => s.heap.size ≤ q) s s.heap [] 0 ([], fun _ _ => 0, fun _ _ => 0) :=
    ⟨fun k q h => by simp [sd_w] at h, ⟨fun i j p q h => by simp [sd_w] at h, fun k q h => by simp [sd_w] at h⟩, va_S.rf, Nat.le_refl _, Nat.zero_le _⟩
  refine sd_sound l (dC, dI) dA vz n (some (L, xs)) 0 0 [.ref ip_EX, .float 0, .float 0, .float 0] [] ([], fun _ _ => 0, fun _ _ => 0) (0, 0) (some (.int 1), M') hrun p e room_1 s m #[Value.ref b] below meth c (fun q : Nat => s.heap.size ≤ q) (lw_Z below #[Value.ref b] s) (le_ad b adK adV) s.heap [] ls 0 hC hV hT (fun q h => h) hl hP ?_
  intro ad' H' locs' pc' ls' st' _ _ hP' hrt
  rcases hrt with ⟨hd, h1, -⟩ | ⟨hd, x, ty, h1, rfl, -⟩ | ⟨hd, x, h1, -⟩ | ⟨hd, a, ty, h1, -⟩
  · cases h1
  · cases h1
    exact va_forget (fun q hq => hP'.2.2.1.2.2 q hq) (lw_ret hx hb hr hlocks hd)
  · cases h1
  · cases h1
