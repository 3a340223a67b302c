/-! ===== a tower begun and copied: the class's side ===== -/
section SP
variable {t : Nat} {G : ip_G} {Q : Option Value → ip_M → Prop} {k : Nat}
theorem sp89 {F : ip_F} {v : Int32} (hk : ok10 t k) (h : ∀ F', F' k 6 = v → (∀ i, i < 6 → F' (k + 1) i = 0) → (∀ i, i < 25 → F' (k + 3) i = if i < 12 then -1 else 0) → F' (k + 4) 1 = 0 → F' (k + 14) 1 = 0 → F' (k + 16) 1 = 0 → F' (k + 18) 1 = 0 → (∀ b, b < k ∨ k + 19 < b → F' b = F b) → Q none (hs t, F', G)) : wp 89 0 [.ref k, .int v] [] (hs t, F, G) Q := by
  obtain ⟨_, h1, h2, h4, h14, h16, h18⟩ := hk
  have hk : ok10 t k := ⟨by assumption, h1, h2, h4, h14, h16, h18⟩
  refine rg89_0 hk (sp243 h1 (by omega) (fun F1 a1 b1 => rg89_13 hk (sp62 h2 (fun F2 a2 b2 => rg89_20 hk (rg16_0 h4 (rg89_27 hk (rg49_0 h14 (rg89_34 hk (rg49_0 h16 (rg89_42 hk (rg49_0 h18 (rg89_50 hk ?_))))))))))))
  have b2' : ∀ b, b ≠ k + 3 → F2 b = F1 b := b2
  refine h _ ?_ (fun i hi => ?_) (fun i hi => ?_) ?_ ?_ ?_ ?_ (fun b hb => ?_)
  · rw [u_n (by omega), u_n (by omega), u_n (by omega), u_n (by omega), b2' k (by omega), b1 k (by omega), u_s, if_pos rfl]
  · rw [u_n (by omega), u_n (by omega), u_n (by omega), u_n (by omega), b2' _ (by omega), a1, if_pos (by omega)]
  · rw [u_n (by omega), u_n (by omega), u_n (by omega), u_n (by omega)]
    exact a2 i hi
  · rw [u_n (by omega), u_n (by omega), u_n (by omega), u_s, if_pos rfl]
  · rw [u_n (by omega), u_n (by omega), u_s, if_pos rfl]
  · rw [u_n (by omega), u_s, if_pos rfl]
  · rw [u_s, if_pos rfl]
  · rw [u_n (by omega), u_n (by omega), u_n (by omega), u_n (by omega), b2' b (by omega), b1 b (by omega), u_n (by omega)]
theorem sp90 {F : ip_F} {o : Nat} (hk : ok10 t k) (ho : ok10 t o) (hd : k + 19 < o ∨ o + 19 < k) (h : ∀ F', F' k 6 = F o 6 → (∀ i, i < 6 → F' (k + 1) i = F (o + 1) i) → (∀ i, i < 25 → F' (k + 3) i = F (o + 3) i) → F' (k + 4) 1 = F (o + 4) 1 → (∀ j, j < 8 → ∀ x, x < 25 → F' (k + 6 + j) x = F (o + 6 + j) x) → F' (k + 14) 1 = F (o + 14) 1 → (∀ x, x < 24 → F' (k + 15) x = F (o + 15) x) → F' (k + 16) 1 = F (o + 16) 1 → (∀ x, x < 24 → F' (k + 17) x = F (o + 17) x) → F' (k + 18) 1 = F (o + 18) 1 → (∀ x, x < 24 → F' (k + 19) x = F (o + 19) x) → (∀ b, b < k ∨ k + 19 < b → F' b = F b) → Q none (hs t, F', G)) : wp 90 0 [.ref k, .ref o] [] (hs t, F, G) Q := by
  obtain ⟨_, h1, h2, h4, h14, h16, h18⟩ := hk
  have hk : ok10 t k := ⟨by assumption, h1, h2, h4, h14, h16, h18⟩
  obtain ⟨_, o1, o2, o4, o14, o16, o18⟩ := ho
  have ho : ok10 t o := ⟨by assumption, o1, o2, o4, o14, o16, o18⟩
  refine rg90_0 hk ho (sp63 h2 o2 (fun F1 a1 b1 => rg90_34 hk ho (sp20 h4 o4 (by omega) (fun F2 a2 c2 b2 => rg90_45 hk ho (sp50 h14 o14 (by omega) (fun F3 a3 c3 b3 => rg90_56 hk ho (sp50 h16 o16 (by omega) (fun F4 a4 c4 b4 => rg90_67 hk ho (sp50 h18 o18 (by omega) (fun F5 a5 c5 b5 => rg90_78 hk ho ?_))))))))))
  have b1' : ∀ b, b ≠ k + 1 → b ≠ k + 3 → b ≠ k → F1 b = F b := fun b hb hb2 hb3 => by rw [b1 b hb2, ur_n hb, u_n hb3]
  have b2' : ∀ b, b ≠ k + 4 → (b < k + 6 ∨ k + 13 < b) → F2 b = F1 b := fun b hb hb2 => b2 b hb (by omega)
  have b3' : ∀ b, b ≠ k + 14 → b ≠ k + 15 → F3 b = F2 b := b3
  have b4' : ∀ b, b ≠ k + 16 → b ≠ k + 17 → F4 b = F3 b := b4
  have b5' : ∀ b, b ≠ k + 18 → b ≠ k + 19 → F5 b = F4 b := b5
  have lo : ∀ b, b ≠ k + 4 → (b < k + 6 ∨ k + 19 < b) → F5 b = F1 b := fun b hb hb2 => by rw [b5' b (by omega) (by omega), b4' b (by omega) (by omega), b3' b (by omega) (by omega), b2' b hb (by omega)]
  have oo : ∀ b, o ≤ b → b ≤ o + 19 → F1 b = F b := fun b hb hb2 => b1' b (by omega) (by omega) (by omega)
  have o2' : ∀ b, o ≤ b → b ≤ o + 19 → F2 b = F b := fun b hb hb2 => by rw [b2' b (by omega) (by omega), oo b hb hb2]
  have o3' : ∀ b, o ≤ b → b ≤ o + 19 → F3 b = F b := fun b hb hb2 => by rw [b3' b (by omega) (by omega), o2' b hb hb2]
  have o4' : ∀ b, o ≤ b → b ≤ o + 19 → F4 b = F b := fun b hb hb2 => by rw [b4' b (by omega) (by omega), o3' b hb hb2]
  refine h F5 ?_ (fun i hi => ?_) (fun i hi => ?_) ?_ (fun j hj x hx => ?_) ?_ (fun x hx => ?_) ?_ (fun x hx => ?_) ?_ (fun x hx => ?_) (fun b hb => ?_)
  · rw [lo k (by omega) (by omega), b1 k (by omega), ur_n (by omega), u_s, if_pos rfl]
  · rw [lo _ (by omega) (by omega), b1 (k + 1) (by omega), ur_s, cp_n i hi, u_n (by omega)]
  · rw [lo _ (by omega) (by omega)]
    refine (a1 i hi).trans ?_
    rw [ur_n (by omega), u_n (by omega)]
  · rw [b5' _ (by omega) (by omega), b4' _ (by omega) (by omega), b3' _ (by omega) (by omega), a2, oo _ (by omega) (by omega)]
  · rw [b5' _ (by omega) (by omega), b4' _ (by omega) (by omega), b3' _ (by omega) (by omega)]
    refine (c2 j hj x hx).trans ?_
    rw [oo _ (by omega) (by omega)]
  · rw [b5' _ (by omega) (by omega), b4' _ (by omega) (by omega), a3, o2' _ (by omega) (by omega)]
  · rw [b5' _ (by omega) (by omega), b4' _ (by omega) (by omega)]
    refine (c3 x hx).trans ?_
    rw [o2' _ (by omega) (by omega)]
  · rw [b5' _ (by omega) (by omega), a4, o3' _ (by omega) (by omega)]
  · rw [b5' _ (by omega) (by omega)]
    refine (c4 x hx).trans ?_
    rw [o3' _ (by omega) (by omega)]
  · rw [a5, o4' _ (by omega) (by omega)]
  · refine (c5 x hx).trans ?_
    rw [o4' _ (by omega) (by omega)]
  · rw [lo b (by omega) (by omega), b1' b (by omega) (by omega) (by omega)]
end SP
