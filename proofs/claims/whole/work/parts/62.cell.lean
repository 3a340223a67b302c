/-! ===== one cell of the reference's ropes set ===== -/
theorem mr_u196 {F : ip_F} {r : Nat} {x : Int32} (hr : r < 6) : mr9 (ip_u F 196 r x) = ups (mr9 F) r x := by
  funext i
  unfold ups
  by_cases e : i = r
  · subst e
    rw [if_pos rfl, mr_0 hr, u_s, if_pos rfl]
  · rw [if_neg e]
    unfold mr9
    rw [u_n (show 197 ≠ 196 by decide)]
    rw [u_n (show 198 ≠ 196 by decide)]
    rw [u_n (show 199 ≠ 196 by decide)]
    rw [u_n (show 193 ≠ 196 by decide)]
    by_cases e196 : i < 6
    · rw [if_pos e196, if_pos e196, u_s, if_neg (by omega)]
    rw [if_neg e196, if_neg e196]
theorem mr_u197 {F : ip_F} {r : Nat} {x : Int32} (hr : r < 6) : mr9 (ip_u F 197 r x) = ups (mr9 F) (6 + r) x := by
  funext i
  unfold ups
  by_cases e : i = 6 + r
  · subst e
    rw [if_pos rfl, mr_6 hr, u_s, if_pos rfl]
  · rw [if_neg e]
    unfold mr9
    rw [u_n (show 196 ≠ 197 by decide)]
    rw [u_n (show 198 ≠ 197 by decide)]
    rw [u_n (show 199 ≠ 197 by decide)]
    rw [u_n (show 193 ≠ 197 by decide)]
    by_cases e196 : i < 6
    · rw [if_pos e196, if_pos e196]
    rw [if_neg e196, if_neg e196]
    by_cases e197 : i < 12
    · rw [if_pos e197, if_pos e197, u_s, if_neg (by omega)]
    rw [if_neg e197, if_neg e197]
theorem mr_u198 {F : ip_F} {r : Nat} {x : Int32} (hr : r < 6) : mr9 (ip_u F 198 r x) = ups (mr9 F) (12 + r) x := by
  funext i
  unfold ups
  by_cases e : i = 12 + r
  · subst e
    rw [if_pos rfl, mr_12 hr, u_s, if_pos rfl]
  · rw [if_neg e]
    unfold mr9
    rw [u_n (show 196 ≠ 198 by decide)]
    rw [u_n (show 197 ≠ 198 by decide)]
    rw [u_n (show 199 ≠ 198 by decide)]
    rw [u_n (show 193 ≠ 198 by decide)]
    by_cases e196 : i < 6
    · rw [if_pos e196, if_pos e196]
    rw [if_neg e196, if_neg e196]
    by_cases e197 : i < 12
    · rw [if_pos e197, if_pos e197]
    rw [if_neg e197, if_neg e197]
    by_cases e198 : i < 18
    · rw [if_pos e198, if_pos e198, u_s, if_neg (by omega)]
    rw [if_neg e198, if_neg e198]
theorem mr_u199 {F : ip_F} {r : Nat} {x : Int32} (hr : r < 6) : mr9 (ip_u F 199 r x) = ups (mr9 F) (18 + r) x := by
  funext i
  unfold ups
  by_cases e : i = 18 + r
  · subst e
    rw [if_pos rfl, mr_18 hr, u_s, if_pos rfl]
  · rw [if_neg e]
    unfold mr9
    rw [u_n (show 196 ≠ 199 by decide)]
    rw [u_n (show 197 ≠ 199 by decide)]
    rw [u_n (show 198 ≠ 199 by decide)]
    rw [u_n (show 193 ≠ 199 by decide)]
    by_cases e196 : i < 6
    · rw [if_pos e196, if_pos e196]
    rw [if_neg e196, if_neg e196]
    by_cases e197 : i < 12
    · rw [if_pos e197, if_pos e197]
    rw [if_neg e197, if_neg e197]
    by_cases e198 : i < 18
    · rw [if_pos e198, if_pos e198]
    rw [if_neg e198, if_neg e198]
    by_cases e199 : i < 24
    · rw [if_pos e199, if_pos e199, u_s, if_neg (by omega)]
    rw [if_neg e199, if_neg e199]
