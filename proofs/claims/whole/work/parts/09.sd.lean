/-! ===== the machine does what the interpreter says: lists, worlds, locals ===== -/
theorem sd_lookup {β : Type} : ∀ (l : List (Nat × β)) (k : Nat) (b : β), l.lookup k = some b → (k, b) ∈ l
  | [], k, b, h => by simp at h
  | (a, c) :: l, k, b, h => by
    by_cases e : k = a
    · subst e
      simp at h
      subst h
      exact List.mem_cons_self
    · have e2 : (k == a) = false := by simpa using e
      simp [List.lookup_cons, e2] at h
      exact List.mem_cons_of_mem _ (sd_lookup l k b h)
theorem sd_row {j pc : Nat} {q : Instr × Nat × Nat} (h : ip_fetch j pc = some q) : ip_chk j (pc, q.1, q.2.1, q.2.2) = true := by
  unfold ip_fetch at h
  rw [List.getD_eq_getElem?_getD] at h
  cases hl : ip_cT[j]? with
  | none =>
    rw [hl] at h
    cases h
  | some l =>
    rw [hl] at h
    have hm : (l, j) ∈ ip_cT.zipIdx := List.mem_zipIdx_iff_getElem?.mpr hl
    rw [ip_cT_z] at hm
    obtain ⟨q', hq', e⟩ := List.mem_map.mp hm
    cases q'
    cases e
    exact List.all_eq_true.mp (ip_dz _ hq') _ (sd_lookup _ pc q h)
theorem sd_dec {j pc : Nat} {q : Instr × Nat × Nat} (h : ip_fetch j pc = some q) : decode (ip_mB j).2.1 pc = .ok (q.1, q.2.1) ∧ (ip_isw q.1 = true ∨ q.2.1 = ip_ln q.1) ∧ ip_lk j pc q.2.2 q.1 = true := by
  have h1 := sd_row h
  simp only [ip_chk, Bool.and_eq_true, Bool.or_eq_true, decide_eq_true_eq] at h1
  exact ⟨h1.1.1, h1.1.2, h1.2⟩
def sd_v (ad : Nat → Nat) (vz : Value) : Value → Value
  | .ref a => if a = ip_EX + 50 then vz else .ref (ad a)
  | v => v
def sd_fv (ad : Nat → Nat) (F : ip_F) (G : ip_G) (k f : Nat) : Nat → Value
  | 0 => .int (F k f)
  | 1 => .long (G k f)
  | 2 => .null
  | d + 3 => .ref (ad d)
def sd_ro (ad : Nat → Nat) : Nat → Option Nat
  | 0 => none
  | d + 1 => some (ad d)
def sd_rw (ad : Nat → Nat) (l : List Nat) (i : Nat) : Option Nat := (l[i]?).bind (sd_ro ad)
def sd_e (ad : Nat → Nat) (dA : Nat → ClassId) (F : ip_F) (G : ip_G) (k : Nat) : ip_Sh → va_E
  | (1, t, n :: _) => .inl (dA t, n, .inl (F k))
  | (2, t, l) => .inl (dA t, l.length, .inr (.inr (.inr (.inr (sd_rw ad l)))))
  | (3, ci, l) => .inr (ci, l.mapIdx (fun f d => sd_fv ad F G k f d))
  | _ => .inr (99, [])
def sd_w (ad : Nat → Nat) (dA : Nat → ClassId) (M : ip_M) : va_W := M.1.mapIdx fun k q => (ad k, sd_e ad dA M.2.1 M.2.2 k q)
theorem sd_wk (ad : Nat → Nat) (dA : Nat → ClassId) (M : ip_M) (k : Nat) : (sd_w ad dA M)[k]? = (M.1[k]?).map fun q => (ad k, sd_e ad dA M.2.1 M.2.2 k q) := by
  simp [sd_w, List.getElem?_mapIdx]
theorem sd_wk' {ad : Nat → Nat} {dA : Nat → ClassId} {M : ip_M} {k : Nat} {q : ip_Sh} (h : M.1[k]? = some q) : (sd_w ad dA M)[k]? = some (ad k, sd_e ad dA M.2.1 M.2.2 k q) := by
  rw [sd_wk, h]; rfl
theorem sd_fv_congr {ad : Nat → Nat} {F F' : ip_F} {G G' : ip_G} {k : Nat} (hF : F' k = F k) (hG : G' k = G k) (f d : Nat) : sd_fv ad F' G' k f d = sd_fv ad F G k f d := by
  match d with
  | 0 => simp [sd_fv, hF]
  | 1 => simp [sd_fv, hG]
  | 2 => rfl
  | d + 3 => rfl
theorem sd_e_congr {ad : Nat → Nat} {dA : Nat → ClassId} {F F' : ip_F} {G G' : ip_G} {k : Nat} (hF : F' k = F k) (hG : G' k = G k) (q : ip_Sh) : sd_e ad dA F' G' k q = sd_e ad dA F G k q := by
  have h1 : (fun f d => sd_fv ad F' G' k f d) = (fun f d => sd_fv ad F G k f d) := funext fun f => funext fun d => sd_fv_congr hF hG f d
  obtain ⟨t, a, l⟩ := q
  unfold sd_e
  split <;> simp_all
theorem sd_set {ad : Nat → Nat} {dA : Nat → ClassId} {M : ip_M} {k : Nat} {q0 q' : ip_Sh} {F' : ip_F} {G' : ip_G} (h : M.1[k]? = some q0) (hF : ∀ a, a ≠ k → F' a = M.2.1 a) (hG : ∀ a, a ≠ k → G' a = M.2.2 a) :
    sd_w ad dA (M.1.set k q', F', G') = (sd_w ad dA M).set k (ad k, sd_e ad dA F' G' k q') := by
  have hl : k < M.1.length := (List.getElem?_eq_some_iff.mp h).1
  have hl2 : k < (sd_w ad dA M).length := by simpa [sd_w] using hl
  apply List.ext_getElem?
  intro i
  by_cases hi : i = k
  · subst hi
    have e2 : ((sd_w ad dA M).set i (ad i, sd_e ad dA F' G' i q'))[i]? = some (ad i, sd_e ad dA F' G' i q') := List.getElem?_set_self hl2
    rw [e2, sd_wk]
    have e1 : (M.1.set i q')[i]? = some q' := List.getElem?_set_self hl
    simp only [e1, Option.map_some]
  · have e2 : ((sd_w ad dA M).set k (ad k, sd_e ad dA F' G' k q'))[i]? = (sd_w ad dA M)[i]? := List.getElem?_set_ne (Ne.symm hi)
    rw [e2, sd_wk, sd_wk]
    have e1 : (M.1.set k q')[i]? = M.1[i]? := List.getElem?_set_ne (Ne.symm hi)
    simp only [e1]
    congr 1
    funext q
    rw [sd_e_congr (hF i hi) (hG i hi)]
theorem sd_set' {ad : Nat → Nat} {dA : Nat → ClassId} {M : ip_M} {k : Nat} {q0 : ip_Sh} {F' : ip_F} {G' : ip_G} (h : M.1[k]? = some q0) (hF : ∀ a, a ≠ k → F' a = M.2.1 a) (hG : ∀ a, a ≠ k → G' a = M.2.2 a) :
    sd_w ad dA (M.1, F', G') = (sd_w ad dA M).set k (ad k, sd_e ad dA F' G' k q0) := by
  rw [← sd_set (q' := q0) h hF hG]
  congr 1
  have hl : k < M.1.length := (List.getElem?_eq_some_iff.mp h).1
  rw [show M.1.set k q0 = M.1 from ?_]
  apply List.ext_getElem?
  intro i
  by_cases hi : i = k
  · subst hi
    rw [List.getElem?_set_self hl, h]
  · rw [List.getElem?_set_ne (Ne.symm hi)]
/-- addresses that agree on the cells there are, and on what lies outside -/
def sd_ag (n : Nat) (ad ad' : Nat → Nat) : Prop := (∀ k, k < n → ad' k = ad k) ∧ ∀ k, ip_EX ≤ k → ad' k = ad k
theorem sd_ag.rf {n : Nat} {ad : Nat → Nat} : sd_ag n ad ad := ⟨fun _ _ => rfl, fun _ _ => rfl⟩
theorem sd_ag.tr {n n' : Nat} {a b c : Nat → Nat} (h : sd_ag n a b) (h' : sd_ag n' b c) (hn : n ≤ n') : sd_ag n a c := ⟨fun k hk => (h'.1 k (by omega)).trans (h.1 k hk), fun k hk => (h'.2 k hk).trans (h.2 k hk)⟩
theorem sd_e_ad {ad ad' : Nat → Nat} {dA : Nat → ClassId} {F : ip_F} {G : ip_G} {k n : Nat} {q : ip_Sh} (hq : ip_wfs n q = true) (ha : ∀ i, i < n → ad' i = ad i) : sd_e ad' dA F G k q = sd_e ad dA F G k q := by
  match q, hq with
  | (0, a, l), _ => rfl
  | (1, a, []), _ => rfl
  | (1, a, n :: l), _ => rfl
  | (2, t, l), hq =>
    have h2 : ∀ d ∈ l, d ≤ n := by simpa [ip_wfs] using hq
    have : sd_rw ad' l = sd_rw ad l := by
      funext i
      unfold sd_rw
      cases hi : l[i]? with
      | none => rfl
      | some d =>
        have := h2 d (List.mem_of_getElem? hi)
        match d, this with
        | 0, _ => rfl
        | d + 1, h => simp [sd_ro, ha d (by omega)]
    show (Sum.inl (dA t, l.length, Sum.inr (Sum.inr (Sum.inr (Sum.inr (sd_rw ad' l))))) : va_E) = Sum.inl (dA t, l.length, Sum.inr (Sum.inr (Sum.inr (Sum.inr (sd_rw ad l)))))
    rw [this]
  | (3, ci, l), hq =>
    have h2 : ∀ d ∈ l, d < n + 3 := by simpa [ip_wfs] using hq
    show (Sum.inr (ci, l.mapIdx (fun f d => sd_fv ad' F G k f d)) : va_E) = Sum.inr (ci, l.mapIdx (fun f d => sd_fv ad F G k f d))
    congr 2
    apply List.ext_getElem?
    intro i
    rw [List.getElem?_mapIdx, List.getElem?_mapIdx]
    cases hi : l[i]? with
    | none => rfl
    | some d =>
      have := h2 d (List.mem_of_getElem? hi)
      match d, this with
      | 0, _ => rfl
      | 1, _ => rfl
      | 2, _ => rfl
      | d + 3, h => simp [sd_fv, ha d (by omega)]
  | (t + 4, a, l), _ => rfl
/-- new cells behind the old ones -/
theorem sd_app {ad ad' : Nat → Nat} {dA : Nat → ClassId} {M : ip_M} {F' : ip_F} {G' : ip_G} {qs : List ip_Sh} (hw : M.1.all (ip_wfs M.1.length) = true) (ha : ∀ i, i < M.1.length → ad' i = ad i) (hF : ∀ a, a < M.1.length → F' a = M.2.1 a) (hG : ∀ a, a < M.1.length → G' a = M.2.2 a) :
    sd_w ad' dA (M.1 ++ qs, F', G') = sd_w ad dA M ++ qs.mapIdx (fun i q => (ad' (M.1.length + i), sd_e ad' dA F' G' (M.1.length + i) q)) := by
  have hlen : (sd_w ad dA M).length = M.1.length := by simp [sd_w]
  apply List.ext_getElem?
  intro i
  by_cases hi : i < M.1.length
  · have e2 : (sd_w ad dA M ++ qs.mapIdx (fun i q => (ad' (M.1.length + i), sd_e ad' dA F' G' (M.1.length + i) q)))[i]? = (sd_w ad dA M)[i]? := List.getElem?_append_left (Nat.lt_of_lt_of_eq hi hlen.symm)
    have e1 : (M.1 ++ qs)[i]? = M.1[i]? := List.getElem?_append_left hi
    rw [e2, sd_wk, sd_wk]
    simp only [e1]
    cases hq : M.1[i]? with
    | none => rfl
    | some q =>
      have hq2 := List.all_eq_true.mp hw q (List.mem_of_getElem? hq)
      simp only [Option.map_some]
      rw [sd_e_congr (hF i hi) (hG i hi), sd_e_ad hq2 ha, ha i hi]
  · have hi2 : M.1.length ≤ i := Nat.le_of_not_lt hi
    have e2 : (sd_w ad dA M ++ qs.mapIdx (fun i q => (ad' (M.1.length + i), sd_e ad' dA F' G' (M.1.length + i) q)))[i]? = (qs.mapIdx (fun i q => (ad' (M.1.length + i), sd_e ad' dA F' G' (M.1.length + i) q)))[i - M.1.length]? := by
      rw [← hlen]
      exact List.getElem?_append_right (by rw [hlen]; exact hi2)
    have e1 : (M.1 ++ qs)[i]? = qs[i - M.1.length]? := List.getElem?_append_right hi2
    rw [e2, sd_wk, List.getElem?_mapIdx]
    simp only [e1]
    have e : M.1.length + (i - M.1.length) = i := by omega
    rw [e]
theorem sd_v_ad {ad ad' : Nat → Nat} {vz v : Value} {n : Nat} (hv : ip_wfv n v = true) (ha : sd_ag n ad ad') : sd_v ad' vz v = sd_v ad vz v := by
  cases v with
  | ref a =>
    simp only [ip_wfv, Bool.or_eq_true, decide_eq_true_eq] at hv
    have : ad' a = ad a := by
      rcases hv with h | h
      · exact ha.1 a h
      · exact ha.2 a h
    simp [sd_v, this]
  | _ => rfl
theorem sd_S_ad {ad ad' : Nat → Nat} {vz : Value} {n : Nat} {S : List Value} (hv : S.all (ip_wfv n) = true) (ha : sd_ag n ad ad') : S.map (sd_v ad' vz) = S.map (sd_v ad vz) :=
  List.map_congr_left fun v h => sd_v_ad (List.all_eq_true.mp hv v h) ha
theorem sd_v_ref {ad : Nat → Nat} {vz : Value} {k : Nat} (h : k ≠ ip_EX + 50) : sd_v ad vz (.ref k) = .ref (ad k) := by simp [sd_v, h]
theorem sd_v_cat {ad : Nat → Nat} {vz : Value} (hz : vz = .null ∨ ∃ a, vz = .ref a) (v : Value) : (sd_v ad vz v).category = v.category := by
  cases v with
  | ref a =>
    show (if a = ip_EX + 50 then vz else Value.ref (ad a)).category = 1
    split
    · rcases hz with rfl | ⟨b, rfl⟩ <;> rfl
    · rfl
  | _ => rfl
theorem sd_cat {ad : Nat → Nat} {vz : Value} (hz : vz = .null ∨ ∃ a, vz = .ref a) (S : List Value) : ((S.map (sd_v ad vz)).map fun v => v.category).sum = ip_cat S := by
  unfold ip_cat
  rw [List.map_map]
  congr 1
  apply List.map_congr_left
  intro v _
  exact sd_v_cat hz v
/-! locals -/
def sd_isF : Value → Bool
  | .float _ => true
  | _ => false
def sd_al (ad : Nat → Nat) (vz : Value) (L : List Value) : List (Nat × Value) := (L.mapIdx fun k v => (k, v)).filterMap fun q => if sd_isF q.2 then none else some (q.1, sd_v ad vz q.2)
theorem sd_al_mem {ad : Nat → Nat} {vz : Value} {L : List Value} {k : Nat} {v : Value} (h : L[k]? = some v) (hf : sd_isF v = false) : (k, sd_v ad vz v) ∈ sd_al ad vz L := by
  refine List.mem_filterMap.mpr ⟨(k, v), ?_, by simp [hf]⟩
  exact List.mem_of_getElem? (i := k) (by rw [List.getElem?_mapIdx, h]; rfl)
theorem sd_al_of {ad : Nat → Nat} {vz : Value} {L : List Value} {q : Nat × Value} (h : q ∈ sd_al ad vz L) : ∃ (k : Nat) (v : Value), L[k]? = some v ∧ sd_isF v = false ∧ q = (k, sd_v ad vz v) := by
  obtain ⟨⟨k, v⟩, h1, h2⟩ := List.mem_filterMap.mp h
  obtain ⟨i, hi⟩ := List.getElem?_of_mem h1
  rw [List.getElem?_mapIdx] at hi
  cases hL : L[i]? with
  | none => rw [hL] at hi; cases hi
  | some w =>
    rw [hL] at hi
    cases hi
    by_cases hf : sd_isF v = true
    · simp [hf] at h2
    · have hf : sd_isF v = false := by simpa using hf
      simp [hf] at h2
      exact ⟨_, v, hL, hf, h2.symm⟩
theorem sd_sto_get : ∀ (L : List Value) (i : Nat) (v : Value) (k : Nat), (ip_sto L i v)[k]? = if k = i then (L[k]?).map (fun _ => v) else if k + 1 = i then (L[k]?).map ip_unl else L[k]?
  | [], i, v, k => by simp [ip_sto]
  | a :: l, 0, v, k => by
    cases k with
    | zero => simp [ip_sto]
    | succ k => simp [ip_sto]
  | a :: l, 1, v, k => by
    cases k with
    | zero => simp [ip_sto]
    | succ k =>
      have h := sd_sto_get l 0 v k
      simp only [ip_sto, List.getElem?_cons_succ, h]
      cases k <;> simp
  | a :: l, i + 2, v, k => by
    cases k with
    | zero => simp [ip_sto]
    | succ k =>
      have h := sd_sto_get l (i + 1) v k
      simp only [ip_sto, List.getElem?_cons_succ, h]
      simp [Nat.add_right_cancel_iff]
theorem sd_unl {v : Value} (h : sd_isF (ip_unl v) = false) : ip_unl v = v ∧ v.category ≠ 2 ∧ sd_isF v = false := by
  cases v <;> simp_all [ip_unl, sd_isF, Value.category]
theorem sd_st1 {ad : Nat → Nat} {vz : Value} {L : List Value} {i nL : Nat} {v x : Value} {ls' : Array Slot} (hz : vz = .null ∨ ∃ a, vz = .ref a) (hx : x = sd_v ad vz v)
    (h : lv_has ls' nL ((i, x) :: (sd_al ad vz L).filter (fun q => !(q.1 == i) && !(q.1 + 1 == i && q.2.category == 2)))) : lv_has ls' nL (sd_al ad vz (ip_sto L i v)) := by
  refine ⟨h.1, h.2.1, fun q hq => ?_⟩
  obtain ⟨k, w, h1, h2, rfl⟩ := sd_al_of hq
  rw [sd_sto_get] at h1
  by_cases hk : k = i
  · subst hk
    simp only [if_pos rfl] at h1
    cases hL : L[k]? with
    | none => rw [hL] at h1; cases h1
    | some u =>
      rw [hL] at h1
      cases h1
      rw [← hx]
      exact h.2.2 (k, x) List.mem_cons_self
  · simp only [if_neg hk] at h1
    have go : L[k]? = some w → ¬ (k + 1 = i ∧ w.category = 2) → ls'[k]? = some (.val (sd_v ad vz w)) := fun e e2 => by
      refine h.2.2 (k, sd_v ad vz w) (List.mem_cons_of_mem _ (List.mem_filter.mpr ⟨sd_al_mem e h2, ?_⟩))
      simp only [sd_v_cat hz, Bool.and_eq_true, Bool.not_eq_true', beq_eq_false_iff_ne, Bool.and_eq_false_iff]
      refine ⟨hk, ?_⟩
      by_cases a : k + 1 = i
      · exact Or.inr fun c => e2 ⟨a, c⟩
      · exact Or.inl a
    by_cases hk2 : k + 1 = i
    · simp only [if_pos hk2] at h1
      cases hL : L[k]? with
      | none => rw [hL] at h1; cases h1
      | some u =>
        rw [hL] at h1
        simp only [Option.map_some, Option.some.injEq] at h1
        subst h1
        obtain ⟨e1, e2, e3⟩ := sd_unl h2
        rw [e1] at go ⊢
        exact go hL fun z => e2 z.2
    · simp only [if_neg hk2] at h1
      exact go h1 fun z => hk2 z.1
theorem sd_st2 {ad : Nat → Nat} {vz : Value} {L : List Value} {i nL : Nat} {v x : Value} {ls' : Array Slot} (hz : vz = .null ∨ ∃ a, vz = .ref a) (hx : x = sd_v ad vz v)
    (h : lv_has ls' nL ((i, x) :: (sd_al ad vz L).filter (fun q => !(q.1 == i) && (!(q.1 == i + 1) && !(q.1 + 1 == i && q.2.category == 2))))) : lv_has ls' nL (sd_al ad vz (ip_sto2 L i v)) := by
  refine ⟨h.1, h.2.1, fun q hq => ?_⟩
  obtain ⟨k, w, h1, h2, rfl⟩ := sd_al_of hq
  unfold ip_sto2 at h1
  by_cases hk1 : k = i + 1
  · subst hk1
    rw [List.getElem?_set] at h1
    simp only [if_true] at h1
    split at h1
    · cases h1; cases h2
    · cases h1
  · rw [List.getElem?_set_ne (Ne.symm hk1), sd_sto_get] at h1
    by_cases hk : k = i
    · subst hk
      simp only [if_pos rfl] at h1
      cases hL : L[k]? with
      | none => rw [hL] at h1; cases h1
      | some u =>
        rw [hL] at h1
        cases h1
        rw [← hx]
        exact h.2.2 (k, x) List.mem_cons_self
    · simp only [if_neg hk] at h1
      have go : L[k]? = some w → ¬ (k + 1 = i ∧ w.category = 2) → ls'[k]? = some (.val (sd_v ad vz w)) := fun e e2 => by
        refine h.2.2 (k, sd_v ad vz w) (List.mem_cons_of_mem _ (List.mem_filter.mpr ⟨sd_al_mem e h2, ?_⟩))
        simp only [sd_v_cat hz, Bool.and_eq_true, Bool.not_eq_true', beq_eq_false_iff_ne, Bool.and_eq_false_iff]
        refine ⟨hk, hk1, ?_⟩
        by_cases a : k + 1 = i
        · exact Or.inr fun c => e2 ⟨a, c⟩
        · exact Or.inl a
      by_cases hk2 : k + 1 = i
      · simp only [if_pos hk2] at h1
        cases hL : L[k]? with
        | none => rw [hL] at h1; cases h1
        | some u =>
          rw [hL] at h1
          simp only [Option.map_some, Option.some.injEq] at h1
          subst h1
          obtain ⟨e1, e2, e3⟩ := sd_unl h2
          rw [e1] at go ⊢
          exact go hL fun z => e2 z.2
      · simp only [if_neg hk2] at h1
        exact go h1 fun z => hk2 z.1
/-- a load -/
theorem sd_ld {ad : Nat → Nat} {vz : Value} {L : List Value} {k nL : Nat} {v : Value} {ls : Array Slot} (h : lv_has ls nL (sd_al ad vz L)) (hk : L[k]? = some v) (hf : sd_isF v = false) : ls[k]? = some (.val (sd_v ad vz v)) := h.2.2 _ (sd_al_mem hk hf)
theorem sd_arg_len (ad : Nat → Nat) (vz : Value) : ∀ (as : List Value), as.all ip_okv = true → (vz = .null ∨ ∃ a, vz = .ref a) → (lg_sl (as.map (sd_v ad vz))).length = (ip_arg as).length
  | [], _, _ => rfl
  | v :: r, h, hz => by
    simp only [List.all_cons, Bool.and_eq_true] at h
    have ih := sd_arg_len ad vz r h.2 hz
    have hc : ∀ w : Value, w.category ≠ 2 → (lg_sl (w :: r.map (sd_v ad vz))).length = (ip_arg r).length + 1 := fun w hw => by
      have e : lg_sl (w :: r.map (sd_v ad vz)) = (if w.category = 2 then [Slot.val w, Slot.second] else [Slot.val w]) ++ lg_sl (r.map (sd_v ad vz)) := rfl
      rw [e, if_neg hw, List.length_append, ih, List.length_singleton]
      omega
    cases v with
    | long x =>
      have e : lg_sl ((Value.long x :: r).map (sd_v ad vz)) = [Slot.val (Value.long x), Slot.second] ++ lg_sl (r.map (sd_v ad vz)) := rfl
      rw [e, List.length_append, ih]
      show 2 + (ip_arg r).length = (ip_arg r).length + 1 + 1
      omega
    | int x =>
      rw [List.map_cons, hc _ (by simp [sd_v, Value.category])]
      rfl
    | ref a =>
      rw [List.map_cons, hc _ (by rw [sd_v_cat hz]; simp [Value.category])]
      rfl
    | _ => simp [ip_okv] at h
theorem sd_arg_at (ad : Nat → Nat) (vz : Value) (hz : vz = .null ∨ ∃ a, vz = .ref a) : ∀ (as : List Value) (i k : Nat) (w : Value), as.all ip_okv = true → (ip_arg as)[k]? = some w → sd_isF w = false → (i + k, sd_v ad vz w) ∈ lv_args i (as.map (sd_v ad vz))
  | [], i, k, w, _, h, _ => by simp [ip_arg] at h
  | v :: r, i, k, w, ho, h, hf => by
    simp only [List.all_cons, Bool.and_eq_true] at ho
    have one : v.category ≠ 2 → ip_arg (v :: r) = v :: ip_arg r → (i + k, sd_v ad vz w) ∈ lv_args i ((v :: r).map (sd_v ad vz)) := fun hc e => by
      rw [e] at h
      rw [List.map_cons]
      unfold lv_args
      cases k with
      | zero =>
        simp only [List.getElem?_cons_zero, Option.some.injEq] at h
        subst h
        exact List.mem_cons_self
      | succ k =>
        rw [List.getElem?_cons_succ] at h
        rw [if_neg (by rw [sd_v_cat hz]; exact hc)]
        have := sd_arg_at ad vz hz r (i + 1) k w ho.2 h hf
        rw [show i + (k + 1) = i + 1 + k by omega]
        exact List.mem_cons_of_mem _ this
    cases v with
    | long x =>
      rw [List.map_cons]
      unfold lv_args
      simp only [ip_arg] at h
      match k, h with
      | 0, h =>
        simp only [List.getElem?_cons_zero, Option.some.injEq] at h
        subst h
        exact List.mem_cons_self
      | 1, h =>
        simp only [List.getElem?_cons_succ, List.getElem?_cons_zero, Option.some.injEq] at h
        subst h
        cases hf
      | k + 2, h =>
        rw [List.getElem?_cons_succ, List.getElem?_cons_succ] at h
        have := sd_arg_at ad vz hz r (i + 2) k w ho.2 h hf
        rw [show i + (k + 2) = i + 2 + k by omega]
        refine List.mem_cons_of_mem _ ?_
        rw [if_pos (by simp [sd_v, Value.category])]
        exact this
    | int x => exact one (by simp [Value.category]) rfl
    | ref a => exact one (by simp [Value.category]) rfl
    | _ => simp [ip_okv] at ho
theorem sd_entry {ad : Nat → Nat} {vz : Value} (hz : vz = .null ∨ ∃ a, vz = .ref a) {as : List Value} {n : Nat} (ho : as.all ip_okv = true) (hl : (ip_arg as).length ≤ n) :
    lv_has ((lg_sl (as.map (sd_v ad vz)) ++ List.replicate (n - (lg_sl (as.map (sd_v ad vz))).length) Slot.unset).toArray) n (sd_al ad vz (ip_loc n as)) := by
  have h := lv_entry (as.map (sd_v ad vz)) (n := n) (by rw [sd_arg_len ad vz as ho hz]; exact hl)
  refine ⟨h.1, h.2.1, fun q hq => ?_⟩
  obtain ⟨k, w, h1, h2, rfl⟩ := sd_al_of hq
  unfold ip_loc at h1
  by_cases hk : k < (ip_arg as).length
  · rw [List.getElem?_append_left hk] at h1
    have := sd_arg_at ad vz hz as 0 k w ho h1 h2
    rw [Nat.zero_add] at this
    exact h.2.2 _ this
  · rw [List.getElem?_append_right (by omega)] at h1
    have := List.eq_of_mem_replicate (List.mem_of_getElem? h1)
    subst this
    cases h2
