/-! ===== the rules of wp ===== -/
theorem wp_nx {j pc j' pc' : Nat} {L S L' S' : List Value} {M M' : ip_M} {Q : Option Value → ip_M → Prop} {k : Nat} (h : ∀ n, ip_run none (n + (k + 1)) j pc L S M (0, 0) = ip_run none n j' pc' L' S' M' (0, 0)) : wp j pc L S M Q ↔ wp j' pc' L' S' M' Q := by
  constructor
  · rintro ⟨n, r, h1, h2⟩
    refine ⟨n, r, ?_, h2⟩
    rw [← h]
    exact wp_mono (by omega) h1
  · rintro ⟨n, r, h1, h2⟩
    exact ⟨n + (k + 1), r, by rw [h]; exact h1, h2⟩
theorem wp_if {j pc pc1 pc2 : Nat} {L S S' : List Value} {M : ip_M} {Q : Option Value → ip_M → Prop} {x y : Int32} {c : Jvm.ClassFile.Cond} (h : ∀ n, ip_run none (n + 1) j pc L S M (0, 0) = ip_if x y c (ip_run none n j pc1 L S' M (0, 0)) (ip_run none n j pc2 L S' M (0, 0))) :
    wp j pc L S M Q ↔ (ip_cmp x y c ∧ wp j pc1 L S' M Q) ∨ (¬ ip_cmp x y c ∧ wp j pc2 L S' M Q) := by
  constructor
  · rintro ⟨n, r, h1, h2⟩
    cases n with
    | zero => cases h1
    | succ n =>
      rw [h] at h1
      unfold ip_if at h1
      split at h1
      · rename_i hc
        exact Or.inl ⟨hc, n, r, h1, h2⟩
      · rename_i hc
        exact Or.inr ⟨hc, n, r, h1, h2⟩
  · rintro (⟨hc, n, r, h1, h2⟩ | ⟨hc, n, r, h1, h2⟩)
    · exact ⟨n + 1, r, by rw [h, ip_if, if_pos hc]; exact h1, h2⟩
    · exact ⟨n + 1, r, by rw [h, ip_if, if_neg hc]; exact h1, h2⟩
theorem wp_bind {α : Type} {j pc : Nat} {L S : List Value} {M : ip_M} {Q : Option Value → ip_M → Prop} {o : Option α} {j' pc' : Nat} {L' : α → List Value} {S' : α → List Value} {M' : α → ip_M} (h : ∀ n, ip_run none (n + 1) j pc L S M (0, 0) = o.bind fun a => ip_run none n j' pc' (L' a) (S' a) (M' a) (0, 0)) :
    wp j pc L S M Q ↔ ∃ a, o = some a ∧ wp j' pc' (L' a) (S' a) (M' a) Q := by
  constructor
  · rintro ⟨n, r, h1, h2⟩
    cases n with
    | zero => cases h1
    | succ n =>
      rw [h] at h1
      obtain ⟨a, e1, e2⟩ := Option.bind_eq_some_iff.mp h1
      exact ⟨a, e1, n, r, e2, h2⟩
  · rintro ⟨a, e1, n, r, e2, h2⟩
    exact ⟨n + 1, r, by rw [h, e1]; exact e2, h2⟩
theorem wp_cond {c : Prop} [Decidable c] {j pc : Nat} {L S : List Value} {M : ip_M} {Q : Option Value → ip_M → Prop} {j' pc' : Nat} {L' S' : List Value} {M' : ip_M} (h : ∀ n, ip_run none (n + 1) j pc L S M (0, 0) = if c then ip_run none n j' pc' L' S' M' (0, 0) else none) :
    wp j pc L S M Q ↔ c ∧ wp j' pc' L' S' M' Q := by
  constructor
  · rintro ⟨n, r, h1, h2⟩
    cases n with
    | zero => cases h1
    | succ n =>
      rw [h] at h1
      split at h1
      · rename_i hc
        exact ⟨hc, n, r, h1, h2⟩
      · cases h1
  · rintro ⟨hc, n, r, h1, h2⟩
    exact ⟨n + 1, r, by rw [h, if_pos hc]; exact h1, h2⟩
/-- a division: none by 0 -/
theorem wp_ncond {c : Prop} [Decidable c] {j pc : Nat} {L S : List Value} {M : ip_M} {Q : Option Value → ip_M → Prop} {j' pc' : Nat} {L' S' : List Value} {M' : ip_M} (h : ∀ n, ip_run none (n + 1) j pc L S M (0, 0) = (if c then none else some S').bind fun S' => ip_run none n j' pc' L' S' M' (0, 0)) :
    wp j pc L S M Q ↔ ¬ c ∧ wp j' pc' L' S' M' Q := by
  constructor
  · rintro ⟨n, r, h1, h2⟩
    cases n with
    | zero => cases h1
    | succ n =>
      rw [h] at h1
      split at h1
      · cases h1
      · rename_i hc
        exact ⟨hc, n, r, h1, h2⟩
  · rintro ⟨hc, n, r, h1, h2⟩
    exact ⟨n + 1, r, by rw [h, if_neg hc]; exact h1, h2⟩
theorem wp_ret {j pc : Nat} {L S : List Value} {M : ip_M} {Q : Option Value → ip_M → Prop} {v : Option Value} (h : ∀ n, ip_run none (n + 1) j pc L S M (0, 0) = some (v, M)) : wp j pc L S M Q ↔ Q v M := by
  constructor
  · rintro ⟨n, r, h1, h2⟩
    cases n with
    | zero => cases h1
    | succ n =>
      rw [h] at h1
      cases h1
      exact h2
  · intro hq
    exact ⟨0 + 1, _, h 0, hq⟩
theorem wp_retc {c : Prop} [Decidable c] {j pc : Nat} {L S : List Value} {M : ip_M} {Q : Option Value → ip_M → Prop} {v : Option Value} (h : ∀ n, ip_run none (n + 1) j pc L S M (0, 0) = if c then some (v, M) else none) : wp j pc L S M Q ↔ c ∧ Q v M := by
  constructor
  · rintro ⟨n, r, h1, h2⟩
    cases n with
    | zero => cases h1
    | succ n =>
      rw [h] at h1
      split at h1
      · rename_i hc
        cases h1
        exact ⟨hc, h2⟩
      · cases h1
  · rintro ⟨hc, hq⟩
    exact ⟨0 + 1, _, by rw [h, if_pos hc], hq⟩
theorem wp_call {j pc i pc' : Nat} {L S Li rest : List Value} {M : ip_M} {Q : Option Value → ip_M → Prop} (h : ∀ n, ip_run none (n + 1) j pc L S M (0, 0) = (ip_run none n i 0 Li [] M (0, 0)).bind fun r => ip_run none n j pc' L (r.1.toList ++ rest) r.2 (0, 0)) :
    wp j pc L S M Q ↔ wp i 0 Li [] M (fun v M' => wp j pc' L (v.toList ++ rest) M' Q) := by
  constructor
  · rintro ⟨n, r, h1, h2⟩
    cases n with
    | zero => cases h1
    | succ n =>
      rw [h] at h1
      obtain ⟨a, e1, e2⟩ := Option.bind_eq_some_iff.mp h1
      exact ⟨n, a, e1, n, r, e2, h2⟩
  · rintro ⟨n, a, e1, n', r, e2, h2⟩
    refine ⟨max n n' + 1, r, ?_, h2⟩
    rw [h, wp_mono (Nat.le_max_left n n') e1]
    exact wp_mono (Nat.le_max_right n n') e2
theorem wp_callc {c : Prop} [Decidable c] {j pc i pc' : Nat} {L S Li rest : List Value} {M : ip_M} {Q : Option Value → ip_M → Prop} (h : ∀ n, ip_run none (n + 1) j pc L S M (0, 0) = if c then (ip_run none n i 0 Li [] M (0, 0)).bind fun r => ip_run none n j pc' L (r.1.toList ++ rest) r.2 (0, 0) else none) :
    wp j pc L S M Q ↔ c ∧ wp i 0 Li [] M (fun v M' => wp j pc' L (v.toList ++ rest) M' Q) := by
  constructor
  · rintro ⟨n, r, h1, h2⟩
    cases n with
    | zero => cases h1
    | succ n =>
      rw [h] at h1
      split at h1
      · rename_i hc
        obtain ⟨a, e1, e2⟩ := Option.bind_eq_some_iff.mp h1
        exact ⟨hc, n, a, e1, n, r, e2, h2⟩
      · cases h1
  · rintro ⟨hc, n, a, e1, n', r, e2, h2⟩
    refine ⟨max n n' + 1, r, ?_, h2⟩
    rw [h, if_pos hc, wp_mono (Nat.le_max_left n n') e1]
    exact wp_mono (Nat.le_max_right n n') e2
/-- a callee's answers, then on -/
theorem wp_seq {j pc : Nat} {L S : List Value} {M : ip_M} {P Q : Option Value → ip_M → Prop} (h : wp j pc L S M P) (hk : ∀ v M', P v M' → Q v M') : wp j pc L S M Q := by
  obtain ⟨n, r, h1, h2⟩ := h
  exact ⟨n, r, h1, hk _ _ h2⟩
