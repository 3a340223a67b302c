/-! ===== the rows that are rung: both sides ===== -/
/-- every bell has its place -/
abbrev PM9 (n : Nat) (f : Nat → Int32) : Prop := ∀ v, v < n → ∃ y, y < n ∧ f y = Int32.ofNat (v + 1)
theorem pm_agree {n : Nat} {f g : Nat → Int32} (h : ∀ x, x < n → f x = g x) (hf : PM9 n f) : PM9 n g := by
  intro v hv
  obtain ⟨y, h1, h2⟩ := hf v hv
  exact ⟨y, h1, by rw [← h y h1, h2]⟩
theorem pm_swp {n i : Nat} {f : Nat → Int32} (hi : i + 1 < n) (hf : PM9 n f) : PM9 n (swp i f) := by
  intro v hv
  obtain ⟨y, h1, h2⟩ := hf v hv
  by_cases e : y = i
  · refine ⟨i + 1, hi, ?_⟩
    unfold swp
    rw [if_neg (by omega), if_pos rfl, ← e, h2]
  · by_cases e2 : y = i + 1
    · refine ⟨i, by omega, ?_⟩
      unfold swp
      rw [if_pos rfl, ← e2, h2]
    · refine ⟨y, h1, ?_⟩
      unfold swp
      rw [if_neg e, if_neg e2, h2]
theorem pm_swL {n e : Nat} (he : e ≤ n) : ∀ d i (f : Nat → Int32), PM9 n f → PM9 n (swL d i e f)
  | 0, _, _, h => h
  | d + 1, i, f, h => by
    rw [swL]
    split
    · exact pm_swL he d (i + 2) _ (pm_swp (by omega) h)
    · exact h
theorem pm_mu {n : Nat} {c : Nat → Int32} (hn : 2 ≤ n) : ∀ k, PM9 n (mu9 n c k)
  | 0 => fun v hv => ⟨v, hv, rfl⟩
  | k + 1 => pm_swL (swE_le hn) _ _ _ (pm_mu hn k)
theorem pm_sl {n s q : Nat} {f : Nat → Int32} (hs : s < n) (hq : q < n) (hf : PM9 n f) : PM9 n (sl9 s q (f s) f) := by
  intro v hv
  obtain ⟨y, h1, h2⟩ := hf v hv
  unfold sl9 dn9 up9
  by_cases e : y = s
  · refine ⟨q, hq, ?_⟩
    rw [if_pos rfl, ← e, h2]
  · by_cases e1 : s < y ∧ y ≤ q
    · refine ⟨y - 1, by omega, ?_⟩
      rw [if_neg (by omega), if_neg (by omega), if_pos (by omega), show y - 1 + 1 = y by omega, h2]
    · by_cases e2 : q ≤ y ∧ y < s
      · refine ⟨y + 1, by omega, ?_⟩
        rw [if_neg (by omega), if_pos (by omega), if_neg (by omega), show y + 1 - 1 = y by omega, h2]
      · refine ⟨y, h1, ?_⟩
        rw [if_neg (by omega), if_neg (by omega), if_neg (by omega), h2]
theorem sp9_agree {n k : Nat} {b : Int32} {f g : Nat → Int32} (h4 : 4 ≤ n) (hn : n ≤ 6) (hk : k ≤ 5) (he : ∃ y, y < n ∧ f y = b) (h : ∀ x, x < n → f x = g x) : ∀ x, x < n → sp9 n b k f x = sp9 n b k g x := by
  obtain ⟨y, h1, h2⟩ := he
  have hp := (fp_in n 0 (by omega) ⟨y, by omega, h1, h2⟩).1
  have e := fp_agree (b := b) h n 0 (by omega)
  unfold sp9
  rw [← e]
  exact sl_agree hp (qt_lt hk hp h4 hn) h
theorem pm_sp9 {n k v : Nat} {f : Nat → Int32} (h4 : 4 ≤ n) (hn : n ≤ 6) (hk : k ≤ 5) (hv : v < n) (hf : PM9 n f) : PM9 n (sp9 n (Int32.ofNat (v + 1)) k f) := by
  obtain ⟨y, h1, h2⟩ := hf v hv
  have hp := fp_in n 0 (by omega) ⟨y, by omega, h1, h2⟩
  have := pm_sl (f := f) hp.1 (qt_lt hk hp.1 h4 hn) hf
  rw [hp.2] at this
  exact this
/-- the row k behind the slips of ropes 0 .. r - 1: c the ropes' cells, m who slips, mk who makes it -/
def rgF (n : Nat) (c : Nat → Int32) (m : Nat) (mk : Nat → Int32) (k : Nat) (f : Nat → Int32) : Nat → (Nat → Int32)
  | 0 => f
  | r + 1 => if m.testBit r = true ∧ c (6 + r) = Int32.ofNat k then sp9 n (mk r) (c r).toNatClampNeg (rgF n c m mk k f r) else rgF n c m mk k f r
/-- where a slip stands, its kind is one of six -/
abbrev KW9 (n : Nat) (c : Nat → Int32) : Prop := ∀ r, r < n → ¬ c (6 + r) = -1 → kd9 (c r)
theorem kw_le {n : Nat} {c : Nat → Int32} {r k : Nat} (hk : KW9 n c) (hr : r < n) (hk12 : k < 12) (h : c (6 + r) = Int32.ofNat k) : (c r).toNatClampNeg ≤ 5 ∧ c r = Int32.ofNat (c r).toNatClampNeg := by
  obtain ⟨j, h1, h2⟩ := hk r hr (by rw [h]; exact nn_nem1 (by omega))
  rw [h2, nn_clamp (by omega)]
  exact ⟨h1, rfl⟩
abbrev MK9 (n : Nat) (mk : Nat → Int32) : Prop := ∀ r, r < n → ∃ v, v < n ∧ mk r = Int32.ofNat (v + 1)
theorem rgF_pm {n m k : Nat} {c mk f : Nat → Int32} (h4 : 4 ≤ n) (hn : n ≤ 6) (hk12 : k < 12) (hk : KW9 n c) (hm : MK9 n mk) (hf : PM9 n f) : ∀ r, r ≤ n → PM9 n (rgF n c m mk k f r)
  | 0, _ => hf
  | r + 1, hr => by
    rw [rgF]
    split
    · rename_i h
      obtain ⟨v, h1, h2⟩ := hm r (by omega)
      rw [h2]
      exact pm_sp9 h4 hn (kw_le hk (by omega) hk12 h.2).1 h1 (rgF_pm h4 hn hk12 hk hm hf r (by omega))
    · exact rgF_pm h4 hn hk12 hk hm hf r (by omega)
theorem rgF_agree {n m k : Nat} {c mk f g : Nat → Int32} (h4 : 4 ≤ n) (hn : n ≤ 6) (hk12 : k < 12) (hk : KW9 n c) (hm : MK9 n mk) (hf : PM9 n f) (h : ∀ x, x < n → f x = g x) : ∀ r, r ≤ n → ∀ x, x < n → rgF n c m mk k f r x = rgF n c m mk k g r x
  | 0, _ => h
  | r + 1, hr => by
    intro x hx
    rw [rgF, rgF]
    split
    · rename_i h9
      obtain ⟨v, h1, h2⟩ := hm r (by omega)
      refine sp9_agree h4 hn (kw_le hk (by omega) hk12 h9.2).1 ?_ (rgF_agree h4 hn hk12 hk hm hf h r (by omega)) x hx
      rw [h2]
      exact rgF_pm h4 hn hk12 hk hm hf r (by omega) v h1
    · exact rgF_agree h4 hn hk12 hk hm hf h r (by omega) x hx
/-- the rung row k -/
def ru9 (n : Nat) (ch c : Nat → Int32) (m : Nat) (mk : Nat → Int32) (k : Nat) : Nat → Int32 := rgF n c m mk k (mu9 n ch k) n
def mk0 (r : Nat) : Int32 := Int32.ofNat (r + 1)
theorem mk_0 {n : Nat} : MK9 n mk0 := fun r hr => ⟨r, hr, rfl⟩
section SP
variable {t : Nat} {G : ip_G} {Q : Option Value → ip_M → Prop} {n : Nat}
abbrev nmr (x : Nat) : Prop := x ≠ 117 ∧ (x < 104 ∨ 115 < x)
theorem sp25_30 {o m k : Nat} {c mk f : Nat → Int32} (ho : ok7 t o) (ho2 : nmr (o + 1)) (h4 : 4 ≤ n) (hn : n ≤ 6) (hk12 : k < 12) (hm64 : m < 64) (hk : KW9 n c) (hm : MK9 n mk) (hf : PM9 n f) : ∀ d r F, r + d = n → F 89 5 = Int32.ofNat n → F (o + 1) = c → (∀ x, x < n → F 118 x = mk x) → (∀ x, x < n → F (104 + k) x = rgF n c m mk k f r x) → (∀ F' v, (∀ x, x < n → F' (104 + k) x = rgF n c m mk k f n x) → (∀ x, x ≠ 104 + k → F' x = F x) → wp 25 2 [.ref 89, .ref o, .int (Int32.ofNat m), .int (Int32.ofNat (k + 1)), v] [] (hs t, ip_u F' 117 k (nm9 (rgF n c m mk k f n) n), G) Q) → wp 25 30 [.ref 89, .ref o, .int (Int32.ofNat m), .int (Int32.ofNat k), .int (Int32.ofNat r)] [] (hs t, F, G) Q := by
  intro d
  induction d with
  | zero =>
    intro r F hr hb hc hmk hrow h
    obtain rfl : r = n := by omega
    refine rg25_30 ho ⟨fun _ => ⟨?_, ?_⟩, fun q => ?_⟩
    · (simp (disch := omega) only [nn_lit, nn_m1, nn_add, nn_mul, nn_rem, nn_sub, nn_addm1, nn_lt, nn_le, nn_eq, nn_clamp, nn_in, nn_nem1, nn_m1ne, nn_ltm1, nn_m1lt, nn_m1le, nn_lem1, bz_0, bz_n0, not_false_eq_true, not_true_eq_false, true_and, and_true, false_and, and_false, false_implies, true_implies, forall_const, Nat.reduceMul, Nat.reduceAdd, Nat.reduceSub] <;> try simp only [nn_bk])
      omega
    · (simp (disch := omega) only [nn_lit, nn_m1, nn_add, nn_mul, nn_rem, nn_sub, nn_addm1, nn_lt, nn_le, nn_eq, nn_clamp, nn_in, nn_nem1, nn_m1ne, nn_ltm1, nn_m1lt, nn_m1le, nn_lem1, bz_0, bz_n0, not_false_eq_true, not_true_eq_false, true_and, and_true, false_and, and_false, false_implies, true_implies, forall_const, Nat.reduceMul, Nat.reduceAdd, Nat.reduceSub] <;> try simp only [nn_bk])
      refine sp28 (hs_r104 t k hk12) hn hb (rg25_103 ho ⟨?_, ?_⟩)
      · (simp (disch := omega) only [nn_lit, nn_m1, nn_add, nn_mul, nn_rem, nn_sub, nn_addm1, nn_lt, nn_le, nn_eq, nn_clamp, nn_in, nn_nem1, nn_m1ne, nn_ltm1, nn_m1lt, nn_m1le, nn_lem1, bz_0, bz_n0, not_false_eq_true, not_true_eq_false, true_and, and_true, false_and, and_false, false_implies, true_implies, forall_const, Nat.reduceMul, Nat.reduceAdd, Nat.reduceSub] <;> try simp only [nn_bk])
        omega
      · (simp (disch := omega) only [nn_lit, nn_m1, nn_add, nn_mul, nn_rem, nn_sub, nn_addm1, nn_lt, nn_le, nn_eq, nn_clamp, nn_in, nn_nem1, nn_m1ne, nn_ltm1, nn_m1lt, nn_m1le, nn_lem1, bz_0, bz_n0, not_false_eq_true, not_true_eq_false, true_and, and_true, false_and, and_false, false_implies, true_implies, forall_const, Nat.reduceMul, Nat.reduceAdd, Nat.reduceSub] <;> try simp only [nn_bk])
        rw [nm_agree _ hrow]
        exact h F _ hrow (fun _ _ => rfl)
    · rw [hb] at q
      (simp (disch := omega) only [nn_lit, nn_m1, nn_add, nn_mul, nn_rem, nn_sub, nn_addm1, nn_lt, nn_le, nn_eq, nn_clamp, nn_in, nn_nem1, nn_m1ne, nn_ltm1, nn_m1lt, nn_m1le, nn_lem1, bz_0, bz_n0, not_false_eq_true, not_true_eq_false, true_and, and_true, false_and, and_false, false_implies, true_implies, forall_const, Nat.reduceMul, Nat.reduceAdd, Nat.reduceSub] at q <;> try simp only [nn_bk] at q)
      omega
  | succ d ih =>
    intro r F hr hb hc hmk hrow h
    have hbit := bt_has ⟨m, hm64⟩ ⟨r, by omega⟩
    have next : ∀ F', (∀ x, x < n → F' (104 + k) x = rgF n c m mk k f (r + 1) x) → (∀ x, x ≠ 104 + k → F' x = F x) → wp 25 82 [.ref 89, .ref o, .int (Int32.ofNat m), .int (Int32.ofNat k), .int (Int32.ofNat r)] [] (hs t, F', G) Q := by
      intro F' h1 h2
      refine rg25_82 ho ?_
      rw [show Int32.ofNat r + 1 = Int32.ofNat (r + 1) from nn_add r 1]
      refine ih (r + 1) F' (by omega) (by rw [h2 89 (by omega), hb]) (by rw [h2 _ (by have := ho2.2; omega), hc]) (fun x hx => by rw [h2 118 (by omega)]; exact hmk x hx) h1 (fun F'' v h3 h5 => h F'' v h3 (fun x hx => by rw [h5 x hx, h2 x hx]))
    refine rg25_30 ho ⟨fun q => ?_, fun _ => ⟨fun e => next F ?_ (fun _ _ => rfl), fun e => ?_⟩⟩
    · rw [hb] at q
      (simp (disch := omega) only [nn_lit, nn_m1, nn_add, nn_mul, nn_rem, nn_sub, nn_addm1, nn_lt, nn_le, nn_eq, nn_clamp, nn_in, nn_nem1, nn_m1ne, nn_ltm1, nn_m1lt, nn_m1le, nn_lem1, bz_0, bz_n0, not_false_eq_true, not_true_eq_false, true_and, and_true, false_and, and_false, false_implies, true_implies, forall_const, Nat.reduceMul, Nat.reduceAdd, Nat.reduceSub] at q <;> try simp only [nn_bk] at q)
      omega
    · intro x hx
      rw [rgF, if_neg (fun q => e (hbit.mpr q.1))]
      exact hrow x hx
    · have e1 := hbit.mp e
      refine sp67 ho (by omega) (rg25_55 ho ⟨fun e2 => next F ?_ (fun _ _ => rfl), fun e2 => ⟨?_, ?_, ?_⟩⟩)
      · intro x hx
        rw [hc] at e2
        rw [rgF, if_neg (fun q => e2 q.2)]
        exact hrow x hx
      · (simp (disch := omega) only [nn_lit, nn_m1, nn_add, nn_mul, nn_rem, nn_sub, nn_addm1, nn_lt, nn_le, nn_eq, nn_clamp, nn_in, nn_nem1, nn_m1ne, nn_ltm1, nn_m1lt, nn_m1le, nn_lem1, bz_0, bz_n0, not_false_eq_true, not_true_eq_false, true_and, and_true, false_and, and_false, false_implies, true_implies, forall_const, Nat.reduceMul, Nat.reduceAdd, Nat.reduceSub] <;> try simp only [nn_bk])
        omega
      · (simp (disch := omega) only [nn_lit, nn_m1, nn_add, nn_mul, nn_rem, nn_sub, nn_addm1, nn_lt, nn_le, nn_eq, nn_clamp, nn_in, nn_nem1, nn_m1ne, nn_ltm1, nn_m1lt, nn_m1le, nn_lem1, bz_0, bz_n0, not_false_eq_true, not_true_eq_false, true_and, and_true, false_and, and_false, false_implies, true_implies, forall_const, Nat.reduceMul, Nat.reduceAdd, Nat.reduceSub] <;> try simp only [nn_bk])
        omega
      · rw [hc] at e2
        obtain ⟨hk5, hke⟩ := kw_le hk (by omega) hk12 e2
        refine sp66 ho (by omega) (rg25_79 ho (by rw [nn_clamp (by omega)]; exact hs_r104 t k hk12) ?_)
        rw [nn_clamp (by omega), nn_clamp (by omega), hmk r (by omega), hc, hke]
        obtain ⟨v, hv1, hv2⟩ := hm r (by omega)
        refine sp26 (hs_r104 t k hk12) h4 hn hk5 hb ?_ (fun F' h1 h2 => next F' (fun x hx => ?_) h2)
        · rw [hv2]
          exact pm_agree (fun x hx => (hrow x hx).symm) (rgF_pm h4 hn hk12 hk hm hf r (by omega)) v hv1
        · rw [h1, rgF, if_pos ⟨e1, e2⟩]
          refine (sp9_agree h4 hn hk5 ?_ (fun x hx => (hrow x hx).symm) x hx).symm
          rw [hv2]
          exact rgF_pm h4 hn hk12 hk hm hf r (by omega) v hv1
end SP
