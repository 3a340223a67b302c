/-! ===== a tower as if new: the reference's side ===== -/
section SP
variable {t : Nat} {G : ip_G} {Q : Option Value → ip_M → Prop}
theorem sp149_32 {F0 : ip_F} {v : Int32} : ∀ d r F, r + d = 6 → (∀ i, i < r → F 195 i = 0 ∧ F 196 i = -1 ∧ F 197 i = -1 ∧ F 198 i = 0 ∧ F 199 i = 0) → (∀ b, (b < 195 ∨ 199 < b) → F b = F0 b) → (∀ F', (∀ i, i < 6 → F' 195 i = 0 ∧ F' 196 i = -1 ∧ F' 197 i = -1 ∧ F' 198 i = 0 ∧ F' 199 i = 0) → (∀ b, (b < 195 ∨ 199 < b) → F' b = F0 b) → Q none (hs t, F', G)) → wp 149 32 [.ref 193, .int v, .int (Int32.ofNat r)] [] (hs t, F, G) Q := by
  intro d
  induction d with
  | zero =>
    intro r F hr hF hfr h
    obtain rfl : r = 6 := by omega
    exact rg149_32 ⟨fun _ => h F hF hfr, fun q => absurd q (by decide)⟩
  | succ d ih =>
    intro r F hr hF hfr h
    have hv : vp_in (Int32.ofNat r) 6 := (nn_in (by omega)).mpr (by omega)
    refine rg149_32 ⟨fun q => ?_, fun _ => ⟨hv, hv, hv, hv, hv, ?_⟩⟩
    · (simp (disch := omega) only [nn_lit, nn_m1, nn_add, nn_mul, nn_rem, nn_sub, nn_addm1, nn_lt, nn_le, nn_eq, nn_clamp, nn_in, nn_nem1, nn_m1ne, nn_ltm1, nn_m1lt, nn_m1le, nn_lem1, bz_0, bz_n0, not_false_eq_true, not_true_eq_false, true_and, and_true, false_and, and_false, false_implies, true_implies, forall_const, Nat.reduceMul, Nat.reduceAdd, Nat.reduceSub] at q <;> try simp only [nn_bk] at q)
      omega
    · rw [nn_clamp (by omega), show Int32.ofNat r + 1 = Int32.ofNat (r + 1) from nn_add r 1]
      refine ih (r + 1) _ (by omega) (fun i hi => ?_) (fun b hb => by rw [u_n (by omega), u_n (by omega), u_n (by omega), u_n (by omega), u_n (by omega), hfr b hb]) h
      by_cases e : i = r
      · subst e
        refine ⟨?_, ?_, ?_, ?_, ?_⟩
        · rw [u_n (by decide), u_n (by decide), u_n (by decide), u_n (by decide), u_s, if_pos rfl]
        · rw [u_n (by decide), u_n (by decide), u_n (by decide), u_s, if_pos rfl]
        · rw [u_n (by decide), u_n (by decide), u_s, if_pos rfl]
        · rw [u_n (by decide), u_s, if_pos rfl]
        · rw [u_s, if_pos rfl]
      · obtain ⟨h1, h2, h3, h4, h5⟩ := hF i (by omega)
        refine ⟨?_, ?_, ?_, ?_, ?_⟩
        · rw [u_n (by decide), u_n (by decide), u_n (by decide), u_n (by decide), u_s, if_neg e, h1]
        · rw [u_n (by decide), u_n (by decide), u_n (by decide), u_s, if_neg e, u_n (by decide), h2]
        · rw [u_n (by decide), u_n (by decide), u_s, if_neg e, u_n (by decide), u_n (by decide), h3]
        · rw [u_n (by decide), u_s, if_neg e, u_n (by decide), u_n (by decide), u_n (by decide), h4]
        · rw [u_s, if_neg e, u_n (by decide), u_n (by decide), u_n (by decide), u_n (by decide), h5]
theorem sp149 {F : ip_F} {v : Int32} (h : ∀ F', F' 193 = ups (ups (ups (ups (ups (ups (F 193) 1 v) 2 0) 3 0) 4 0) 5 0) 22 0 → (∀ i, i < 6 → F' 195 i = 0 ∧ F' 196 i = -1 ∧ F' 197 i = -1 ∧ F' 198 i = 0 ∧ F' 199 i = 0) → (∀ b, b ≠ 193 → (b < 195 ∨ 199 < b) → F' b = F b) → Q none (hs t, F', G)) : wp 149 0 [.ref 193, .int v, .float 0] [] (hs t, F, G) Q := by
  refine rg149_0 (sp149_32 6 0 _ rfl (fun i hi => absurd hi (by omega)) (fun _ _ => rfl) (fun F' h1 h2 => h F' ?_ h1 (fun b hb hb2 => by rw [h2 b hb2, u_n hb, u_n hb, u_n hb, u_n hb, u_n hb, u_n hb])))
  rw [h2 193 (by decide), u_ups, u_ups, u_ups, u_ups, u_ups, u_ups]
end SP
