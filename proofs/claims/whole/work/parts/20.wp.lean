/-! ===== runs as predicates: wp j pc L S M Q: from place pc of method j the run ends, its answer and world having Q ===== -/
def wp (j pc : Nat) (L S : List Value) (M : ip_M) (Q : Option Value → ip_M → Prop) : Prop := ∃ (n : Nat) (r : ip_R), ip_run none n j pc L S M (0, 0) = some r ∧ Q r.1 r.2
theorem wp_bmono {α : Type} {o o' : Option α} {f g : α → Option ip_R} {r : ip_R} (ho : ∀ a, o = some a → o' = some a) (hfg : ∀ a r, f a = some r → g a = some r) (h : o.bind f = some r) : o'.bind g = some r := by
  obtain ⟨a, h1, h2⟩ := Option.bind_eq_some_iff.mp h
  rw [ho a h1]
  exact hfg a r h2
theorem wp_exmono {top : ip_Top} {rec rec' : Nat → List Value → List Value → ip_M → Nat × Nat → Option ip_R} {cal cal' : Nat → List Value → ip_M → Option ip_R}
    (hr : ∀ pc L S M cs r, rec pc L S M cs = some r → rec' pc L S M cs = some r) (hc : ∀ i L M r, cal i L M = some r → cal' i L M = some r) {j pc len aux : Nat} {L S : List Value} {M : ip_M} {cs : Nat × Nat} {ins : Instr} {r : ip_R}
    (h : ip_ex top rec cal j pc len aux L S M cs ins = some r) : ip_ex top rec' cal' j pc len aux L S M cs ins = some r := by
  have hcall : ∀ i as rest, ip_call rec cal j pc i L as rest M cs = some r → ip_call rec' cal' j pc i L as rest M cs = some r := by
    intro i as rest h
    unfold ip_call at h ⊢
    split at h
    · rename_i hcnd
      rw [if_pos hcnd]
      exact wp_bmono (hc _ _ _) (fun a r => hr _ _ _ _ _ _) h
    · cases h
  have hif : ∀ (x y : Int32) (c : Jvm.ClassFile.Cond) (a b a' b' : Option ip_R), (a = some r → a' = some r) → (b = some r → b' = some r) → ip_if x y c a b = some r → ip_if x y c a' b' = some r := by
    intro x y c a b a' b' ha hb h
    unfold ip_if at h ⊢
    split at h
    · rename_i hcnd
      rw [if_pos hcnd]
      exact ha h
    · rename_i hcnd
      rw [if_neg hcnd]
      exact hb h
  cases ins with
  | invokevirtual idx =>
    simp only [ip_ex] at h ⊢
    split at h
    · cases h
    · rename_i hn
      rw [if_neg hn]
      split at h
      · split at h
        · rename_i hcnd
          rw [if_pos hcnd]
          exact hcall _ _ _ h
        · cases h
      · cases h
  | invokestatic idx =>
    simp only [ip_ex] at h ⊢
    split at h
    · rename_i ha
      rw [if_pos ha]
      exact wp_bmono (fun _ z => z) (fun a r => hr _ _ _ _ _ _) h
    · rename_i ha
      rw [if_neg ha]
      split at h
      · rename_i ha2
        rw [if_pos ha2]
        split at h
        · split at h
          · rename_i hcnd
            rw [if_pos hcnd]
            exact hr _ _ _ _ _ _ h
          · cases h
        · cases h
      · rename_i ha2
        rw [if_neg ha2]
        split at h
        · cases h
        · rename_i hn
          rw [if_neg hn]
          exact hcall _ _ _ h
  | invokespecial idx =>
    simp only [ip_ex] at h ⊢
    split at h
    · rename_i ha
      rw [if_pos ha]
      split at h
      · split at h
        · rename_i hcnd
          rw [if_pos hcnd]
          exact hr _ _ _ _ _ _ h
        · cases h
      · cases h
    · rename_i ha
      rw [if_neg ha]
      split at h
      · cases h
      · rename_i hn
        rw [if_neg hn]
        split at h
        · split at h
          · rename_i hcnd
            rw [if_pos hcnd]
            exact hcall _ _ _ h
          · cases h
        · cases h
  | if_icmp cd off =>
    simp only [ip_ex] at h ⊢
    split at h
    · exact hif _ _ _ _ _ _ _ (hr _ _ _ _ _ _) (hr _ _ _ _ _ _) h
    · cases h
  | ifCond cd off =>
    simp only [ip_ex] at h ⊢
    split at h
    · exact hif _ _ _ _ _ _ _ (hr _ _ _ _ _ _) (hr _ _ _ _ _ _) h
    · cases h
  | goto off => exact hr _ _ _ _ _ _ h
  | multianewarray idx dm =>
    match dm, h with
    | 0, h => cases h
    | 1, h => cases h
    | 2, h =>
      simp only [ip_ex] at h ⊢
      split at h
      · split at h
        · cases h
        · rename_i hn
          rw [if_neg hn]
          exact wp_bmono (fun _ z => z) (fun a r => hr _ _ _ _ _ _) h
      · cases h
    | dm + 3, h => cases h
  | newarray t =>
    simp only [ip_ex] at h ⊢
    split at h
    · split at h
      · cases h
      · rename_i hn
        rw [if_neg hn]
        exact wp_bmono (fun _ z => z) (fun a r => hr _ _ _ _ _ _) h
    · cases h
  | getfield idx =>
    simp only [ip_ex] at h ⊢
    split at h
    · split at h
      · rename_i ha
        rw [if_pos ha]
        exact wp_bmono (fun _ z => z) (fun a r => hr _ _ _ _ _ _) h
      · rename_i ha
        rw [if_neg ha]
        split at h
        · rename_i hcnd
          rw [if_pos hcnd]
          exact hr _ _ _ _ _ _ h
        · cases h
    · cases h
  | putfield idx =>
    simp only [ip_ex] at h ⊢
    split at h
    · split at h
      · rename_i ha
        rw [if_pos ha]
        exact wp_bmono (fun _ z => z) (fun a r => hr _ _ _ _ _ _) h
      · cases h
    · cases h
  | getstatic idx =>
    simp only [ip_ex] at h ⊢
    split at h
    · rename_i ha
      rw [if_pos ha]
      exact hr _ _ _ _ _ _ h
    · rename_i ha
      rw [if_neg ha]
      split at h
      · rename_i ha2
        rw [if_pos ha2]
        exact hr _ _ _ _ _ _ h
      · cases h
  | iastore =>
    simp only [ip_ex] at h ⊢
    split at h
    · split at h
      · rename_i ha
        rw [if_pos ha]
        exact hr _ _ _ _ _ _ h
      · cases h
    · cases h
  | istore k =>
    simp only [ip_ex] at h ⊢
    split at h <;> first | exact hr _ _ _ _ _ _ h | cases h
  | istore_n k =>
    simp only [ip_ex] at h ⊢
    split at h <;> first | exact hr _ _ _ _ _ _ h | cases h
  | astore_n k =>
    simp only [ip_ex] at h ⊢
    split at h <;> first | exact hr _ _ _ _ _ _ h | cases h
  | lstore k =>
    simp only [ip_ex] at h ⊢
    split at h <;> first | exact hr _ _ _ _ _ _ h | cases h
  | lstore_n k =>
    simp only [ip_ex] at h ⊢
    split at h <;> first | exact hr _ _ _ _ _ _ h | cases h
  | iinc k n =>
    simp only [ip_ex] at h ⊢
    split at h <;> first | exact hr _ _ _ _ _ _ h | cases h
  | return_ => exact h
  | ireturn => exact h
  | lreturn => exact h
  | areturn => exact h
  | iaload =>
    simp only [ip_ex] at h ⊢
    split at h <;> first | exact wp_bmono (fun _ z => z) (fun a r => hr _ _ _ _ _ _) h | cases h
  | baload =>
    simp only [ip_ex] at h ⊢
    split at h <;> first | exact wp_bmono (fun _ z => z) (fun a r => hr _ _ _ _ _ _) h | cases h
  | aaload =>
    simp only [ip_ex] at h ⊢
    split at h <;> first | exact wp_bmono (fun _ z => z) (fun a r => hr _ _ _ _ _ _) h | cases h
  | bastore =>
    simp only [ip_ex] at h ⊢
    split at h <;> first | exact wp_bmono (fun _ z => z) (fun a r => hr _ _ _ _ _ _) h | cases h
  | arraylength =>
    simp only [ip_ex] at h ⊢
    split at h <;> first | exact wp_bmono (fun _ z => z) (fun a r => hr _ _ _ _ _ _) h | cases h
  | tableswitch d lo hi offs =>
    simp only [ip_ex] at h ⊢
    split at h <;> first | exact wp_bmono (fun _ z => z) (fun a r => hr _ _ _ _ _ _) h | cases h
  | _ =>
    simp only [ip_ex] at h ⊢
    exact wp_bmono (fun _ z => z) (fun a r => hr _ _ _ _ _ _) h
theorem wp_mono1 : ∀ (n : Nat) (top : ip_Top) (j pc : Nat) (L S : List Value) (M : ip_M) (cs : Nat × Nat) (r : ip_R), ip_run top n j pc L S M cs = some r → ip_run top (n + 1) j pc L S M cs = some r := by
  intro n
  induction n with
  | zero => intro top j pc L S M cs r h; cases h
  | succ n ih =>
    intro top j pc L S M cs r h
    rw [ip_run] at h ⊢
    cases hq : ip_fetch j pc with
    | none => rw [hq] at h; cases h
    | some q =>
      rw [hq] at h
      exact wp_exmono (fun pc L S M cs r h => ih top j pc L S M cs r h) (fun i L M r h => ih none i 0 L [] M (0, 0) r h) h
theorem wp_mono {n m : Nat} (hnm : n ≤ m) {top : ip_Top} {j pc : Nat} {L S : List Value} {M : ip_M} {cs : Nat × Nat} {r : ip_R} (h : ip_run top n j pc L S M cs = some r) : ip_run top m j pc L S M cs = some r := by
  induction hnm with
  | refl => exact h
  | step _ ih => exact wp_mono1 _ _ _ _ _ _ _ _ _ ih
