/-! ===== what a run keeps of memory's shape: no cell goes, none changes its kind ===== -/
abbrev KP9 (M M' : ip_M) : Prop := M.1.length ≤ M'.1.length ∧ ∀ (k : Nat) (q : ip_Sh), M.1[k]? = some q → ∃ l, M'.1[k]? = some (q.1, q.2.1, l)
theorem kp_rf (M : ip_M) : KP9 M M := ⟨Nat.le_refl _, fun k q h => ⟨q.2.2, h⟩⟩
theorem kp_tr {M M' M'' : ip_M} (h : KP9 M M') (h' : KP9 M' M'') : KP9 M M'' := by
  refine ⟨Nat.le_trans h.1 h'.1, fun k q e => ?_⟩
  obtain ⟨l, e1⟩ := h.2 k q e
  obtain ⟨l', e2⟩ := h'.2 k _ e1
  exact ⟨l', e2⟩
theorem kp_sh {M M' : ip_M} (h : M'.1 = M.1) : KP9 M M' := ⟨by rw [h]; exact Nat.le_refl _, fun k q e => ⟨q.2.2, by rw [h]; exact e⟩⟩
theorem kp_app {M M' : ip_M} {l : List ip_Sh} (h : M'.1 = M.1 ++ l) : KP9 M M' := by
  refine ⟨by rw [h, List.length_append]; omega, fun k q e => ⟨q.2.2, ?_⟩⟩
  rw [h, List.getElem?_append_left (List.getElem?_eq_some_iff.mp e).1]
  exact e
theorem kp_set {M M' : ip_M} {k ci : Nat} {l l' : List Nat} (e : M.1[k]? = some (3, ci, l)) (h : M'.1 = M.1.set k (3, ci, l')) : KP9 M M' := by
  refine ⟨by rw [h, List.length_set]; exact Nat.le_refl _, fun k' q e' => ?_⟩
  rw [h, List.getElem?_set]
  by_cases hk : k = k'
  · subst hk
    rw [e'] at e
    cases e
    rw [if_pos rfl, if_pos (List.getElem?_eq_some_iff.mp e').1]
    exact ⟨l', rfl⟩
  · rw [if_neg hk]
    exact ⟨q.2.2, e'⟩
theorem kp_pv {M M' : ip_M} {k ci f d : Nat} {l : List Nat} {ty : FieldType} {v : Value} (e : M.1[k]? = some (3, ci, l)) (h : ip_pv M k ci f l d ty v = some M') : KP9 M M' := by
  unfold ip_pv at h
  split at h
  · split at h
    · cases h
      exact kp_sh rfl
    · cases h
  · split at h
    · cases h
      exact kp_sh rfl
    · cases h
  · split at h
    · cases h
      exact kp_set e rfl
    · cases h
  · split at h
    · cases h
      exact kp_set e rfl
    · cases h
  · cases h
theorem kp_pf {M M' : ip_M} {k aux : Nat} {v : Value} (h : ip_pf M k aux v = some M') : KP9 M M' := by
  unfold ip_pf at h
  split at h
  · rename_i ci l e
    split at h
    · obtain ⟨d, -, h2⟩ := Option.bind_eq_some_iff.mp h
      exact kp_pv e h2
    · cases h
  · cases h
theorem kp_ex {top : ip_Top} {rec : Nat → List Value → List Value → ip_M → Nat × Nat → Option ip_R} {cal : Nat → List Value → ip_M → Option ip_R}
    (hr : ∀ pc L S M cs r, rec pc L S M cs = some r → KP9 M r.2) (hc : ∀ i L M r, cal i L M = some r → KP9 M r.2) {j pc len aux : Nat} {L S : List Value} {M : ip_M} {cs : Nat × Nat} {ins : Instr} {r : ip_R}
    (h : ip_ex top rec cal j pc len aux L S M cs ins = some r) : KP9 M r.2 := by
  have hcall : ∀ i as rest, ip_call rec cal j pc i L as rest M cs = some r → KP9 M r.2 := by
    intro i as rest h
    unfold ip_call at h
    split at h
    · obtain ⟨q, h1, h2⟩ := Option.bind_eq_some_iff.mp h
      exact kp_tr (hc _ _ _ _ h1) (hr _ _ _ _ _ _ h2)
    · cases h
  have hb : ∀ {α : Type} {o : Option α} {f : α → Nat} {g g' : α → List Value} {c : α → Nat × Nat}, (o.bind fun a => rec (f a) (g a) (g' a) M (c a)) = some r → KP9 M r.2 := by
    intro α o f g g' c h
    obtain ⟨q, -, h2⟩ := Option.bind_eq_some_iff.mp h
    exact hr _ _ _ _ _ _ h2
  cases ins with
  | invokevirtual idx =>
    simp only [ip_ex] at h
    split at h
    · cases h
    · split at h
      · split at h
        · exact hcall _ _ _ h
        · cases h
      · cases h
  | invokestatic idx =>
    simp only [ip_ex] at h
    split at h
    · obtain ⟨q, h1, h2⟩ := Option.bind_eq_some_iff.mp h
      refine kp_tr (kp_sh ?_) (hr _ _ _ _ _ _ h2)
      unfold ip_copy at h1
      split at h1
      · split at h1
        · split at h1
          · cases h1
            rfl
          · cases h1
        · cases h1
      · cases h1
    · split at h
      · split at h
        · split at h
          · exact hr _ _ _ _ _ _ h
          · cases h
        · cases h
      · split at h
        · cases h
        · exact hcall _ _ _ h
  | invokespecial idx =>
    simp only [ip_ex] at h
    split at h
    · split at h
      · split at h
        · exact hr _ _ _ _ _ _ h
        · cases h
      · cases h
    · split at h
      · cases h
      · split at h
        · split at h
          · exact hcall _ _ _ h
          · cases h
        · cases h
  | if_icmp cd off =>
    simp only [ip_ex] at h
    split at h
    · unfold ip_if at h
      split at h <;> exact hr _ _ _ _ _ _ h
    · cases h
  | ifCond cd off =>
    simp only [ip_ex] at h
    split at h
    · unfold ip_if at h
      split at h <;> exact hr _ _ _ _ _ _ h
    · cases h
  | goto off => exact hr _ _ _ _ _ _ h
  | multianewarray idx dm =>
    match dm, h with
    | 0, h => cases h
    | 1, h => cases h
    | 2, h =>
      simp only [ip_ex] at h
      split at h
      · split at h
        · cases h
        · obtain ⟨q, h1, h2⟩ := Option.bind_eq_some_iff.mp h
          refine kp_tr ?_ (hr _ _ _ _ _ _ h2)
          unfold ip_newM at h1
          split at h1
          · cases h1
            exact kp_app rfl
          · cases h1
      · cases h
    | dm + 3, h => cases h
  | newarray t =>
    simp only [ip_ex] at h
    split at h
    · split at h
      · cases h
      · obtain ⟨q, h1, h2⟩ := Option.bind_eq_some_iff.mp h
        refine kp_tr ?_ (hr _ _ _ _ _ _ h2)
        unfold ip_newA at h1
        split at h1
        · cases h1
          exact kp_app rfl
        · cases h1
    · cases h
  | new idx =>
    simp only [ip_ex] at h
    obtain ⟨q, h1, h2⟩ := Option.bind_eq_some_iff.mp h
    refine kp_tr ?_ (hr _ _ _ _ _ _ h2)
    unfold ip_newO at h1
    split at h1
    · cases h1
      exact kp_app rfl
    · cases h1
  | getfield idx =>
    simp only [ip_ex] at h
    split at h
    · split at h
      · exact hb h
      · split at h
        · exact hr _ _ _ _ _ _ h
        · cases h
    · cases h
  | putfield idx =>
    simp only [ip_ex] at h
    split at h
    · split at h
      · obtain ⟨q, h1, h2⟩ := Option.bind_eq_some_iff.mp h
        exact kp_tr (kp_pf h1) (hr _ _ _ _ _ _ h2)
      · cases h
    · cases h
  | getstatic idx =>
    simp only [ip_ex] at h
    split at h
    · exact hr _ _ _ _ _ _ h
    · split at h
      · exact hr _ _ _ _ _ _ h
      · cases h
  | iastore =>
    simp only [ip_ex] at h
    split at h
    · split at h
      · have := hr _ _ _ _ _ _ h
        exact kp_tr (kp_sh rfl) this
      · cases h
    · cases h
  | bastore =>
    simp only [ip_ex] at h
    split at h
    · obtain ⟨q, h1, h2⟩ := Option.bind_eq_some_iff.mp h
      refine kp_tr (kp_sh ?_) (hr _ _ _ _ _ _ h2)
      unfold ip_bas at h1
      split at h1
      · cases h1
        rfl
      · split at h1
        · cases h1
          rfl
        · cases h1
    · cases h
  | istore k =>
    simp only [ip_ex] at h
    split at h <;> first | exact hr _ _ _ _ _ _ h | cases h
  | istore_n k =>
    simp only [ip_ex] at h
    split at h <;> first | exact hr _ _ _ _ _ _ h | cases h
  | astore_n k =>
    simp only [ip_ex] at h
    split at h <;> first | exact hr _ _ _ _ _ _ h | cases h
  | lstore k =>
    simp only [ip_ex] at h
    split at h <;> first | exact hr _ _ _ _ _ _ h | cases h
  | lstore_n k =>
    simp only [ip_ex] at h
    split at h <;> first | exact hr _ _ _ _ _ _ h | cases h
  | iinc k n =>
    simp only [ip_ex] at h
    split at h <;> first | exact hr _ _ _ _ _ _ h | cases h
  | return_ =>
    simp only [ip_ex] at h
    split at h
    · cases h
      exact kp_rf _
    · cases h
  | ireturn =>
    simp only [ip_ex] at h
    split at h
    · split at h
      · split at h
        · cases h
          exact kp_rf _
        · cases h
      · cases h
    · cases h
  | lreturn =>
    simp only [ip_ex] at h
    split at h
    · split at h
      · cases h
        exact kp_rf _
      · cases h
    · cases h
  | areturn =>
    simp only [ip_ex] at h
    split at h
    · split at h
      · split at h
        · cases h
          exact kp_rf _
        · cases h
      · split at h
        · cases h
          exact kp_rf _
        · cases h
      · cases h
    · cases h
  | iaload =>
    simp only [ip_ex] at h
    split at h <;> first | exact hb h | cases h
  | baload =>
    simp only [ip_ex] at h
    split at h <;> first | exact hb h | cases h
  | aaload =>
    simp only [ip_ex] at h
    split at h <;> first | exact hb h | cases h
  | arraylength =>
    simp only [ip_ex] at h
    split at h <;> first | exact hb h | cases h
  | tableswitch d lo hi offs =>
    simp only [ip_ex] at h
    split at h <;> first | exact hb h | cases h
  | _ =>
    simp only [ip_ex] at h
    exact hb h
theorem kp_run : ∀ (n : Nat) (top : ip_Top) (j pc : Nat) (L S : List Value) (M : ip_M) (cs : Nat × Nat) (r : ip_R), ip_run top n j pc L S M cs = some r → KP9 M r.2 := by
  intro n
  induction n with
  | zero => intro top j pc L S M cs r h; cases h
  | succ n ih =>
    intro top j pc L S M cs r h
    rw [ip_run] at h
    obtain ⟨q, -, h2⟩ := Option.bind_eq_some_iff.mp h
    exact kp_ex (fun pc L S M cs r h => ih top j pc L S M cs r h) (fun i L M r h => ih none i 0 L [] M (0, 0) r h) h2
theorem wp_kp {j pc : Nat} {L S : List Value} {M : ip_M} {Q : Option Value → ip_M → Prop} (h : wp j pc L S M Q) : wp j pc L S M (fun v M' => Q v M' ∧ KP9 M M') := by
  obtain ⟨n, r, h1, h2⟩ := h
  exact ⟨n, r, h1, h2, kp_run _ _ _ _ _ _ _ _ _ h1⟩
