/-! ===== the law's loop: one command of the script after another (written by law.py) ===== -/
abbrev lwL (i : Nat) : List Value := [.ref ip_EX, .ref 0, .ref 193, .int (Int32.ofNat i)]
def lw_cs : Nat × Nat := (213, 4276)
def wl (L : Nat) (xs : Nat → Int32) (pc : Nat) (Lo S : List Value) (M : ip_M) (cs : Nat × Nat) : Prop := ∃ (n : Nat) (M' : ip_M), ip_run (some (L, xs)) n 0 pc Lo S M cs = some (some (.int 1), M')
theorem lw_len (t : Nat) {F : ip_F} {G : ip_G} : ((hs t, F, G) : ip_M).1.length ≤ 1000 := by
  rw [show ((hs t, F, G) : ip_M).1 = hs t from rfl, hs_len]
  decide
theorem lw_s0 (t : Nat) : ∃ l, (hs t)[0]? = some (3, 9, l) := ⟨_, rfl⟩
theorem lw_s1 (t : Nat) : ∃ l, (hs t)[193]? = some (3, 10, l) := ⟨_, rfl⟩
section LW
variable {L i : Nat} {xs : Nat → Int32} {pc pc' : Nat} {Lo Lo' S S' : List Value} {M M' : ip_M} {cs cs' : Nat × Nat} {t : Nat} {F : ip_F} {G : ip_G}
theorem wl_N (h : ∀ n, ip_run (some (L, xs)) (n + 1) 0 pc Lo S M cs = ip_run (some (L, xs)) n 0 pc' Lo' S' M' cs') (hk : wl L xs pc' Lo' S' M' cs') : wl L xs pc Lo S M cs := by
  obtain ⟨n, r, h1⟩ := hk
  exact ⟨n + 1, r, by rw [h]; exact h1⟩
theorem wl_C {m : Nat} {Li rest : List Value} (h : ∀ n, ip_run (some (L, xs)) (n + 1) 0 pc Lo S M cs = (ip_run none n m 0 Li [] M (0, 0)).bind fun r => ip_run (some (L, xs)) n 0 pc' Lo (r.1.toList ++ rest) r.2 cs') (hk : wp m 0 Li [] M (fun v M' => wl L xs pc' Lo (v.toList ++ rest) M' cs')) : wl L xs pc Lo S M cs := by
  obtain ⟨n, a, e1, n', r, e2⟩ := hk
  refine ⟨max n n' + 1, r, ?_⟩
  rw [h, wp_mono (Nat.le_max_left n n') e1]
  exact wp_mono (Nat.le_max_right n n') e2
theorem wl_ld1 (hf : ip_fetch 0 pc = some (.aload_n 1, 1, 0)) (hk : wl L xs (pc + 1) (lwL i) (.ref 0 :: S) M cs) : wl L xs pc (lwL i) S M cs := by
  refine wl_N (fun n => ?_) hk
  rw [ip_run, hf]
  rfl
theorem wl_ld2 (hf : ip_fetch 0 pc = some (.aload_n 2, 1, 0)) (hk : wl L xs (pc + 1) (lwL i) (.ref 193 :: S) M cs) : wl L xs pc (lwL i) S M cs := by
  refine wl_N (fun n => ?_) hk
  rw [ip_run, hf]
  rfl
theorem wl_x {pc : Nat} {k : Nat} (hf : ip_fetch 0 pc = some (.iaload, 1, 0)) (hk' : k < L) (hL : L ≤ 2560) (hM : M.1.length ≤ 1000) (hk : wl L xs (pc + 1) Lo (.int (xs k) :: S) M cs) : wl L xs pc Lo (.int (Int32.ofNat k) :: .ref ip_EX :: S) M cs := by
  refine wl_N (fun n => ?_) hk
  have e0 : M.1[ip_EX]? = none := List.getElem?_eq_none (Nat.le_trans hM (by decide))
  have e1 : ip_ial (some (L, xs)) M ip_EX (Int32.ofNat k) = some (.int (xs k)) := by
    have ia : ip_ia M 0 ip_EX (Int32.ofNat k) = false := by
      unfold ip_ia
      rw [e0]
    unfold ip_ial
    rw [ia, if_neg (by decide), if_pos rfl]
    simp only [Option.bind_some]
    rw [if_neg (fun q => (nn_in (a := k) (n := L) (by omega)).mpr hk' q), nn_clamp (by omega)]
  rw [ip_run, hf]
  simp only [Option.bind_some, ip_ex, e1]
theorem wl_ld0 (hf : ip_fetch 0 pc = some (.aload_n 0, 1, 0)) (hk : wl L xs (pc + 1) (lwL i) (.ref ip_EX :: S) M cs) : wl L xs pc (lwL i) S M cs := by
  refine wl_N (fun n => ?_) hk
  rw [ip_run, hf]
  rfl
theorem wl_ld3 (hf : ip_fetch 0 pc = some (.iload_n 3, 1, 0)) (hk : wl L xs (pc + 1) (lwL i) (.int (Int32.ofNat i) :: S) M cs) : wl L xs pc (lwL i) S M cs := by
  refine wl_N (fun n => ?_) hk
  rw [ip_run, hf]
  rfl
theorem wl_ic {a : Nat} (hf : ip_fetch 0 pc = some (.iconst (Int.ofNat a), 1, 0)) (hk : wl L xs (pc + 1) Lo (.int (Int32.ofNat a) :: S) M cs) : wl L xs pc Lo S M cs := by
  refine wl_N (fun n => ?_) hk
  rw [ip_run, hf]
  rfl
theorem wl_ia {a b : Nat} (hf : ip_fetch 0 pc = some (.iadd, 1, 0)) (hk : wl L xs (pc + 1) Lo (.int (Int32.ofNat (a + b)) :: S) M cs) : wl L xs pc Lo (.int (Int32.ofNat b) :: .int (Int32.ofNat a) :: S) M cs := by
  refine wl_N (fun n => ?_) hk
  rw [ip_run, hf]
  simp only [Option.bind_some, ip_ex, ip_st]
  rw [nn_add]
theorem wl_arg {a : Nat} (f0 : ip_fetch 0 pc = some (.aload_n 0, 1, 0)) (f1 : ip_fetch 0 (pc + 1) = some (.iload_n 3, 1, 0)) (f2 : ip_fetch 0 (pc + 1 + 1) = some (.iconst (Int.ofNat a), 1, 0)) (f3 : ip_fetch 0 (pc + 1 + 1 + 1) = some (.iadd, 1, 0)) (f4 : ip_fetch 0 (pc + 1 + 1 + 1 + 1) = some (.iaload, 1, 0)) (hin : i + a < L) (hL : L ≤ 2560) (hM : M.1.length ≤ 1000)
    (hk : wl L xs (pc + 1 + 1 + 1 + 1 + 1) (lwL i) (.int (xs (i + a)) :: S) M cs) : wl L xs pc (lwL i) S M cs := wl_ld0 f0 (wl_ld3 f1 (wl_ic f2 (wl_ia f3 (wl_x f4 hin hL hM hk))))
theorem wl_cv {m k ci idx : Nat} {as lf : List Value} {l : List Nat} (hf : ip_fetch 0 pc = some (.invokevirtual idx, 3, m)) (hs : M.1[k]? = some (3, ci, l)) (hci : (ip_mI m).2.1 = ci) (hS : (ip_mI m).2.2.1 = (as.length + 1)) (hok : as.all ip_okv = true) (hl : (ip_arg (.ref k :: as)).length ≤ (ip_mB m).2.2.1) (hmay : ip_may 0 m cs S = true) (hal : (ip_mI m).2.2.2.2.2.1 = 0 ∧ (ip_mI m).2.2.2.2.2.2 = 0) (hlf : ip_loc (ip_mB m).2.2.1 (.ref k :: as) = lf)
    (hk : wp m 0 lf [] M (fun v M' => wl L xs (pc + 3) Lo (v.toList ++ S) M' cs)) : wl L xs pc Lo (as.reverse ++ .ref k :: S) M cs := by
  refine wl_C (fun n9 => ?_) hk
  rw [ip_run, hf]
  have hlen : (as.reverse ++ Value.ref k :: S).length = as.length + 1 + S.length := by simp; omega
  have e0 : as.reverse ++ Value.ref k :: S = (as.reverse ++ [Value.ref k]) ++ S := by simp
  have e1 : (as.reverse ++ Value.ref k :: S).take (as.length + 1) = as.reverse ++ [.ref k] := by
    rw [e0, List.take_left' (by simp)]
  have e2 : (as.reverse ++ Value.ref k :: S).drop (as.length + 1) = S := by
    rw [e0, List.drop_left' (by simp)]
  simp only [Option.bind_some, ip_ex, hS]
  rw [if_neg (by rw [hlen]; omega), e1, e2]
  simp only [List.reverse_append, List.reverse_cons, List.reverse_nil, List.nil_append, List.singleton_append, List.reverse_reverse]
  have hr : ip_rcv M m k = true := by
    unfold ip_rcv
    rw [hs]
    simp [hci]
  rw [if_pos hr]
  unfold ip_call
  rw [if_pos (by simp [hmay, hok, hl, hal.1, ip_okv]), hlf, hal.1, hal.2]
  rfl
theorem wl_eq {z : Int32} {off : Int} (hf : ip_fetch 0 pc = some (.if_icmp .eq off, 3, 1099)) (hk : wl L xs 1099 Lo S M cs) : wl L xs pc Lo (.int z :: .int z :: S) M cs := by
  refine wl_N (fun n => ?_) hk
  rw [ip_run, hf]
  simp only [Option.bind_some, ip_ex, ip_if]
  rw [if_pos (show ip_cmp z z .eq from rfl)]
theorem wl_leq {z : Int64} {off : Int} (f0 : ip_fetch 0 pc = some (.lcmp, 1, 0)) (hf : ip_fetch 0 (pc + 1) = some (.ifCond .eq off, 3, 1099)) (hk : wl L xs 1099 Lo S M cs) : wl L xs pc Lo (.long z :: .long z :: S) M cs := by
  have h1 : wl L xs (pc + 1) Lo (.int (lg_cmp z z) :: S) M cs := by
    refine wl_N (fun n => ?_) hk
    rw [ip_run, hf]
    simp only [Option.bind_some, ip_ex, ip_if]
    rw [if_pos (show ip_cmp (lg_cmp z z) 0 .eq by simp [ip_cmp, lg_cmp])]
  refine wl_N (fun n => ?_) h1
  rw [ip_run, f0]
  rfl
theorem lc_midi {m : Nat} {lf : List Value} {v : Option Value} (h : wp m 0 lf [] M (ENi v)) : ∃ z, v = some (.int z) ∧ M.1.length ≤ 1000 ∧ wp m 0 lf [] M (fun v' M' => ∃ t F G, v' = some (.int z) ∧ M' = (hs t, F, G) ∧ INV t F G) := by
  obtain ⟨n, r, h1, z, t, F, G, rfl, e2, e3, hI⟩ := h
  refine ⟨z, rfl, ?_, n, r, h1, t, F, G, e2, e3, hI⟩
  have := (kp_run _ _ _ _ _ _ _ _ _ h1).1
  rw [e3] at this
  exact Nat.le_trans this (lw_len t)
theorem lc_midl {m : Nat} {lf : List Value} {v : Option Value} (h : wp m 0 lf [] M (ENl v)) : ∃ z, v = some (.long z) ∧ M.1.length ≤ 1000 ∧ wp m 0 lf [] M (fun v' M' => ∃ t F G, v' = some (.long z) ∧ M' = (hs t, F, G) ∧ INV t F G) := by
  obtain ⟨n, r, h1, z, t, F, G, rfl, e2, e3, hI⟩ := h
  refine ⟨z, rfl, ?_, n, r, h1, t, F, G, e2, e3, hI⟩
  have := (kp_run _ _ _ _ _ _ _ _ _ h1).1
  rw [e3] at this
  exact Nat.le_trans this (lw_len t)
theorem lc_0 (hL : L ≤ 2560) (hi : i + 5 ≤ L) (hI : INV t F G) (hk : ∀ t F G, INV t F G → wl L xs 1099 (lwL i) [] (hs t, F, G) lw_cs) : wl L xs 196 (lwL i) [] (hs t, F, G) lw_cs := by
  obtain ⟨f0, f1, f2, f3, f4⟩ : ip_fetch 0 196 = some (.aload_n 1, 1, 0) ∧ ip_fetch 0 197 = some (.aload_n 0, 1, 0) ∧ ip_fetch 0 198 = some (.iload_n 3, 1, 0) ∧ ip_fetch 0 199 = some (.iconst 1, 1, 0) ∧ ip_fetch 0 200 = some (.iadd, 1, 0) := by decide +kernel
  obtain ⟨f5, f6, f7, f8, f9⟩ : ip_fetch 0 201 = some (.iaload, 1, 0) ∧ ip_fetch 0 202 = some (.invokevirtual 13, 3, 92) ∧ ip_fetch 0 205 = some (.aload_n 2, 1, 0) ∧ ip_fetch 0 206 = some (.aload_n 0, 1, 0) ∧ ip_fetch 0 207 = some (.iload_n 3, 1, 0) := by decide +kernel
  obtain ⟨f10, f11, f12, f13, f14⟩ : ip_fetch 0 208 = some (.iconst 1, 1, 0) ∧ ip_fetch 0 209 = some (.iadd, 1, 0) ∧ ip_fetch 0 210 = some (.iaload, 1, 0) ∧ ip_fetch 0 211 = some (.invokevirtual 17, 3, 151) ∧ ip_fetch 0 214 = some (.if_icmp .eq 885, 3, 1099) := by decide +kernel
  obtain ⟨_, hs0⟩ := lw_s0 t
  refine wl_ld1 f0 ?_
  refine wl_arg (a := 1) f1 f2 f3 f4 f5 (by omega) hL (lw_len t) ?_
  refine wl_cv (as := [.int (xs (i + 1))]) (lf := [.ref 0, .int (xs (i + 1)), .float 0]) f6 hs0 rfl rfl rfl (Nat.le_of_ble_eq_true rfl) rfl ⟨rfl, rfl⟩ rfl ?_
  refine wp_seq (wp_kp (pr_tower hI)) ?_
  rintro v M ⟨h, kp⟩
  obtain ⟨z, rfl, hlen, h⟩ := lc_midi h
  obtain ⟨_, hs1⟩ := kp.2 193 _ (lw_s1 t).choose_spec
  refine wl_ld2 f7 ?_
  refine wl_arg (a := 1) f8 f9 f10 f11 f12 (by omega) hL hlen ?_
  refine wl_cv (as := [.int (xs (i + 1))]) (lf := [.ref 193, .int (xs (i + 1)), .float 0]) f13 hs1 rfl rfl rfl (Nat.le_of_ble_eq_true rfl) rfl ⟨rfl, rfl⟩ rfl ?_
  refine wp_seq h ?_
  rintro _ _ ⟨t', F', G', rfl, rfl, hI'⟩
  exact wl_eq f14 (hk _ _ _ hI')
theorem lc_1 (hL : L ≤ 2560) (hi : i + 5 ≤ L) (hI : INV t F G) (hk : ∀ t F G, INV t F G → wl L xs 1099 (lwL i) [] (hs t, F, G) lw_cs) : wl L xs 219 (lwL i) [] (hs t, F, G) lw_cs := by
  obtain ⟨f0, f1, f2, f3, f4⟩ : ip_fetch 0 219 = some (.aload_n 1, 1, 0) ∧ ip_fetch 0 220 = some (.aload_n 0, 1, 0) ∧ ip_fetch 0 221 = some (.iload_n 3, 1, 0) ∧ ip_fetch 0 222 = some (.iconst 1, 1, 0) ∧ ip_fetch 0 223 = some (.iadd, 1, 0) := by decide +kernel
  obtain ⟨f5, f6, f7, f8, f9⟩ : ip_fetch 0 224 = some (.iaload, 1, 0) ∧ ip_fetch 0 225 = some (.aload_n 0, 1, 0) ∧ ip_fetch 0 226 = some (.iload_n 3, 1, 0) ∧ ip_fetch 0 227 = some (.iconst 2, 1, 0) ∧ ip_fetch 0 228 = some (.iadd, 1, 0) := by decide +kernel
  obtain ⟨f10, f11, f12, f13, f14⟩ : ip_fetch 0 229 = some (.iaload, 1, 0) ∧ ip_fetch 0 230 = some (.invokevirtual 18, 3, 93) ∧ ip_fetch 0 233 = some (.aload_n 2, 1, 0) ∧ ip_fetch 0 234 = some (.aload_n 0, 1, 0) ∧ ip_fetch 0 235 = some (.iload_n 3, 1, 0) := by decide +kernel
  obtain ⟨f15, f16, f17, f18, f19⟩ : ip_fetch 0 236 = some (.iconst 1, 1, 0) ∧ ip_fetch 0 237 = some (.iadd, 1, 0) ∧ ip_fetch 0 238 = some (.iaload, 1, 0) ∧ ip_fetch 0 239 = some (.aload_n 0, 1, 0) ∧ ip_fetch 0 240 = some (.iload_n 3, 1, 0) := by decide +kernel
  obtain ⟨f20, f21, f22, f23, f24⟩ : ip_fetch 0 241 = some (.iconst 2, 1, 0) ∧ ip_fetch 0 242 = some (.iadd, 1, 0) ∧ ip_fetch 0 243 = some (.iaload, 1, 0) ∧ ip_fetch 0 244 = some (.invokevirtual 22, 3, 152) ∧ ip_fetch 0 247 = some (.if_icmp .eq 852, 3, 1099) := by decide +kernel
  obtain ⟨_, hs0⟩ := lw_s0 t
  refine wl_ld1 f0 ?_
  refine wl_arg (a := 1) f1 f2 f3 f4 f5 (by omega) hL (lw_len t) ?_
  refine wl_arg (a := 2) f6 f7 f8 f9 f10 (by omega) hL (lw_len t) ?_
  refine wl_cv (as := [.int (xs (i + 1)), .int (xs (i + 2))]) (lf := [.ref 0, .int (xs (i + 1)), .int (xs (i + 2)), .float 0]) f11 hs0 rfl rfl rfl (Nat.le_of_ble_eq_true rfl) rfl ⟨rfl, rfl⟩ rfl ?_
  refine wp_seq (wp_kp (pr_method hI)) ?_
  rintro v M ⟨h, kp⟩
  obtain ⟨z, rfl, hlen, h⟩ := lc_midi h
  obtain ⟨_, hs1⟩ := kp.2 193 _ (lw_s1 t).choose_spec
  refine wl_ld2 f12 ?_
  refine wl_arg (a := 1) f13 f14 f15 f16 f17 (by omega) hL hlen ?_
  refine wl_arg (a := 2) f18 f19 f20 f21 f22 (by omega) hL hlen ?_
  refine wl_cv (as := [.int (xs (i + 1)), .int (xs (i + 2))]) (lf := [.ref 193, .int (xs (i + 1)), .int (xs (i + 2)), .float 0]) f23 hs1 rfl rfl rfl (Nat.le_of_ble_eq_true rfl) rfl ⟨rfl, rfl⟩ rfl ?_
  refine wp_seq h ?_
  rintro _ _ ⟨t', F', G', rfl, rfl, hI'⟩
  exact wl_eq f24 (hk _ _ _ hI')
theorem lc_2 (hL : L ≤ 2560) (hi : i + 5 ≤ L) (hI : INV t F G) (hk : ∀ t F G, INV t F G → wl L xs 1099 (lwL i) [] (hs t, F, G) lw_cs) : wl L xs 252 (lwL i) [] (hs t, F, G) lw_cs := by
  obtain ⟨f0, f1, f2, f3, f4⟩ : ip_fetch 0 252 = some (.aload_n 1, 1, 0) ∧ ip_fetch 0 253 = some (.aload_n 0, 1, 0) ∧ ip_fetch 0 254 = some (.iload_n 3, 1, 0) ∧ ip_fetch 0 255 = some (.iconst 1, 1, 0) ∧ ip_fetch 0 256 = some (.iadd, 1, 0) := by decide +kernel
  obtain ⟨f5, f6, f7, f8, f9⟩ : ip_fetch 0 257 = some (.iaload, 1, 0) ∧ ip_fetch 0 258 = some (.invokevirtual 23, 3, 94) ∧ ip_fetch 0 261 = some (.aload_n 2, 1, 0) ∧ ip_fetch 0 262 = some (.aload_n 0, 1, 0) ∧ ip_fetch 0 263 = some (.iload_n 3, 1, 0) := by decide +kernel
  obtain ⟨f10, f11, f12, f13, f14⟩ : ip_fetch 0 264 = some (.iconst 1, 1, 0) ∧ ip_fetch 0 265 = some (.iadd, 1, 0) ∧ ip_fetch 0 266 = some (.iaload, 1, 0) ∧ ip_fetch 0 267 = some (.invokevirtual 26, 3, 153) ∧ ip_fetch 0 270 = some (.if_icmp .eq 829, 3, 1099) := by decide +kernel
  obtain ⟨_, hs0⟩ := lw_s0 t
  refine wl_ld1 f0 ?_
  refine wl_arg (a := 1) f1 f2 f3 f4 f5 (by omega) hL (lw_len t) ?_
  refine wl_cv (as := [.int (xs (i + 1))]) (lf := [.ref 0, .int (xs (i + 1))]) f6 hs0 rfl rfl rfl (Nat.le_of_ble_eq_true rfl) rfl ⟨rfl, rfl⟩ rfl ?_
  refine wp_seq (wp_kp (pr_type hI)) ?_
  rintro v M ⟨h, kp⟩
  obtain ⟨z, rfl, hlen, h⟩ := lc_midi h
  obtain ⟨_, hs1⟩ := kp.2 193 _ (lw_s1 t).choose_spec
  refine wl_ld2 f7 ?_
  refine wl_arg (a := 1) f8 f9 f10 f11 f12 (by omega) hL hlen ?_
  refine wl_cv (as := [.int (xs (i + 1))]) (lf := [.ref 193, .int (xs (i + 1))]) f13 hs1 rfl rfl rfl (Nat.le_of_ble_eq_true rfl) rfl ⟨rfl, rfl⟩ rfl ?_
  refine wp_seq h ?_
  rintro _ _ ⟨t', F', G', rfl, rfl, hI'⟩
  exact wl_eq f14 (hk _ _ _ hI')
theorem lc_3 (hL : L ≤ 2560) (hi : i + 5 ≤ L) (hI : INV t F G) (hk : ∀ t F G, INV t F G → wl L xs 1099 (lwL i) [] (hs t, F, G) lw_cs) : wl L xs 275 (lwL i) [] (hs t, F, G) lw_cs := by
  obtain ⟨f0, f1, f2, f3, f4⟩ : ip_fetch 0 275 = some (.aload_n 1, 1, 0) ∧ ip_fetch 0 276 = some (.invokevirtual 27, 3, 95) ∧ ip_fetch 0 279 = some (.aload_n 2, 1, 0) ∧ ip_fetch 0 280 = some (.invokevirtual 31, 3, 154) ∧ ip_fetch 0 283 = some (.if_icmp .eq 816, 3, 1099) := by decide +kernel
  obtain ⟨_, hs0⟩ := lw_s0 t
  refine wl_ld1 f0 ?_
  refine wl_cv (as := []) (lf := [.ref 0]) f1 hs0 rfl rfl rfl (Nat.le_of_ble_eq_true rfl) rfl ⟨rfl, rfl⟩ rfl ?_
  refine wp_seq (wp_kp (pr_clear hI)) ?_
  rintro v M ⟨h, kp⟩
  obtain ⟨z, rfl, hlen, h⟩ := lc_midi h
  obtain ⟨_, hs1⟩ := kp.2 193 _ (lw_s1 t).choose_spec
  refine wl_ld2 f2 ?_
  refine wl_cv (as := []) (lf := [.ref 193, .float 0]) f3 hs1 rfl rfl rfl (Nat.le_of_ble_eq_true rfl) rfl ⟨rfl, rfl⟩ rfl ?_
  refine wp_seq h ?_
  rintro _ _ ⟨t', F', G', rfl, rfl, hI'⟩
  exact wl_eq f4 (hk _ _ _ hI')
theorem lc_4 (hL : L ≤ 2560) (hi : i + 5 ≤ L) (hI : INV t F G) (hrd : ∀ t F G, INV t F G → wp 96 0 [.ref 0, .float 0] [] (hs t, F, G) (fun v M => wp 171 0 [.ref 193, .float 0] [] M (ENi v))) (hk : ∀ t F G, INV t F G → wl L xs 1099 (lwL i) [] (hs t, F, G) lw_cs) : wl L xs 288 (lwL i) [] (hs t, F, G) lw_cs := by
  obtain ⟨f0, f1, f2, f3, f4⟩ : ip_fetch 0 288 = some (.aload_n 1, 1, 0) ∧ ip_fetch 0 289 = some (.invokevirtual 32, 3, 96) ∧ ip_fetch 0 292 = some (.aload_n 2, 1, 0) ∧ ip_fetch 0 293 = some (.invokevirtual 35, 3, 171) ∧ ip_fetch 0 296 = some (.if_icmp .eq 803, 3, 1099) := by decide +kernel
  obtain ⟨_, hs0⟩ := lw_s0 t
  refine wl_ld1 f0 ?_
  refine wl_cv (as := []) (lf := [.ref 0, .float 0]) f1 hs0 rfl rfl rfl (Nat.le_of_ble_eq_true rfl) rfl ⟨rfl, rfl⟩ rfl ?_
  refine wp_seq (wp_kp (hrd _ _ _ hI)) ?_
  rintro v M ⟨h, kp⟩
  obtain ⟨z, rfl, hlen, h⟩ := lc_midi h
  obtain ⟨_, hs1⟩ := kp.2 193 _ (lw_s1 t).choose_spec
  refine wl_ld2 f2 ?_
  refine wl_cv (as := []) (lf := [.ref 193, .float 0]) f3 hs1 rfl rfl rfl (Nat.le_of_ble_eq_true rfl) rfl ⟨rfl, rfl⟩ rfl ?_
  refine wp_seq h ?_
  rintro _ _ ⟨t', F', G', rfl, rfl, hI'⟩
  exact wl_eq f4 (hk _ _ _ hI')
theorem lc_5 (hL : L ≤ 2560) (hi : i + 5 ≤ L) (hI : INV t F G) (hk : ∀ t F G, INV t F G → wl L xs 1099 (lwL i) [] (hs t, F, G) lw_cs) : wl L xs 301 (lwL i) [] (hs t, F, G) lw_cs := by
  obtain ⟨f0, f1, f2, f3, f4⟩ : ip_fetch 0 301 = some (.aload_n 1, 1, 0) ∧ ip_fetch 0 302 = some (.aload_n 0, 1, 0) ∧ ip_fetch 0 303 = some (.iload_n 3, 1, 0) ∧ ip_fetch 0 304 = some (.iconst 1, 1, 0) ∧ ip_fetch 0 305 = some (.iadd, 1, 0) := by decide +kernel
  obtain ⟨f5, f6, f7, f8, f9⟩ : ip_fetch 0 306 = some (.iaload, 1, 0) ∧ ip_fetch 0 307 = some (.aload_n 0, 1, 0) ∧ ip_fetch 0 308 = some (.iload_n 3, 1, 0) ∧ ip_fetch 0 309 = some (.iconst 2, 1, 0) ∧ ip_fetch 0 310 = some (.iadd, 1, 0) := by decide +kernel
  obtain ⟨f10, f11, f12, f13, f14⟩ : ip_fetch 0 311 = some (.iaload, 1, 0) ∧ ip_fetch 0 312 = some (.aload_n 0, 1, 0) ∧ ip_fetch 0 313 = some (.iload_n 3, 1, 0) ∧ ip_fetch 0 314 = some (.iconst 3, 1, 0) ∧ ip_fetch 0 315 = some (.iadd, 1, 0) := by decide +kernel
  obtain ⟨f15, f16, f17, f18, f19⟩ : ip_fetch 0 316 = some (.iaload, 1, 0) ∧ ip_fetch 0 317 = some (.invokevirtual 36, 3, 97) ∧ ip_fetch 0 320 = some (.aload_n 2, 1, 0) ∧ ip_fetch 0 321 = some (.aload_n 0, 1, 0) ∧ ip_fetch 0 322 = some (.iload_n 3, 1, 0) := by decide +kernel
  obtain ⟨f20, f21, f22, f23, f24⟩ : ip_fetch 0 323 = some (.iconst 1, 1, 0) ∧ ip_fetch 0 324 = some (.iadd, 1, 0) ∧ ip_fetch 0 325 = some (.iaload, 1, 0) ∧ ip_fetch 0 326 = some (.aload_n 0, 1, 0) ∧ ip_fetch 0 327 = some (.iload_n 3, 1, 0) := by decide +kernel
  obtain ⟨f25, f26, f27, f28, f29⟩ : ip_fetch 0 328 = some (.iconst 2, 1, 0) ∧ ip_fetch 0 329 = some (.iadd, 1, 0) ∧ ip_fetch 0 330 = some (.iaload, 1, 0) ∧ ip_fetch 0 331 = some (.aload_n 0, 1, 0) ∧ ip_fetch 0 332 = some (.iload_n 3, 1, 0) := by decide +kernel
  obtain ⟨f30, f31, f32, f33, f34⟩ : ip_fetch 0 333 = some (.iconst 3, 1, 0) ∧ ip_fetch 0 334 = some (.iadd, 1, 0) ∧ ip_fetch 0 335 = some (.iaload, 1, 0) ∧ ip_fetch 0 336 = some (.invokevirtual 40, 3, 191) ∧ ip_fetch 0 339 = some (.if_icmp .eq 760, 3, 1099) := by decide +kernel
  obtain ⟨_, hs0⟩ := lw_s0 t
  refine wl_ld1 f0 ?_
  refine wl_arg (a := 1) f1 f2 f3 f4 f5 (by omega) hL (lw_len t) ?_
  refine wl_arg (a := 2) f6 f7 f8 f9 f10 (by omega) hL (lw_len t) ?_
  refine wl_arg (a := 3) f11 f12 f13 f14 f15 (by omega) hL (lw_len t) ?_
  refine wl_cv (as := [.int (xs (i + 1)), .int (xs (i + 2)), .int (xs (i + 3))]) (lf := [.ref 0, .int (xs (i + 1)), .int (xs (i + 2)), .int (xs (i + 3)), .float 0]) f16 hs0 rfl rfl rfl (Nat.le_of_ble_eq_true rfl) rfl ⟨rfl, rfl⟩ rfl ?_
  refine wp_seq (wp_kp (pr_slips hI)) ?_
  rintro v M ⟨h, kp⟩
  obtain ⟨z, rfl, hlen, h⟩ := lc_midi h
  obtain ⟨_, hs1⟩ := kp.2 193 _ (lw_s1 t).choose_spec
  refine wl_ld2 f17 ?_
  refine wl_arg (a := 1) f18 f19 f20 f21 f22 (by omega) hL hlen ?_
  refine wl_arg (a := 2) f23 f24 f25 f26 f27 (by omega) hL hlen ?_
  refine wl_arg (a := 3) f28 f29 f30 f31 f32 (by omega) hL hlen ?_
  refine wl_cv (as := [.int (xs (i + 1)), .int (xs (i + 2)), .int (xs (i + 3))]) (lf := [.ref 193, .int (xs (i + 1)), .int (xs (i + 2)), .int (xs (i + 3)), .float 0]) f33 hs1 rfl rfl rfl (Nat.le_of_ble_eq_true rfl) rfl ⟨rfl, rfl⟩ rfl ?_
  refine wp_seq h ?_
  rintro _ _ ⟨t', F', G', rfl, rfl, hI'⟩
  exact wl_eq f34 (hk _ _ _ hI')
theorem lc_6 (hL : L ≤ 2560) (hi : i + 5 ≤ L) (hI : INV t F G) (hk : ∀ t F G, INV t F G → wl L xs 1099 (lwL i) [] (hs t, F, G) lw_cs) : wl L xs 344 (lwL i) [] (hs t, F, G) lw_cs := by
  obtain ⟨f0, f1, f2, f3, f4⟩ : ip_fetch 0 344 = some (.aload_n 1, 1, 0) ∧ ip_fetch 0 345 = some (.aload_n 0, 1, 0) ∧ ip_fetch 0 346 = some (.iload_n 3, 1, 0) ∧ ip_fetch 0 347 = some (.iconst 1, 1, 0) ∧ ip_fetch 0 348 = some (.iadd, 1, 0) := by decide +kernel
  obtain ⟨f5, f6, f7, f8, f9⟩ : ip_fetch 0 349 = some (.iaload, 1, 0) ∧ ip_fetch 0 350 = some (.invokevirtual 41, 3, 98) ∧ ip_fetch 0 353 = some (.aload_n 2, 1, 0) ∧ ip_fetch 0 354 = some (.aload_n 0, 1, 0) ∧ ip_fetch 0 355 = some (.iload_n 3, 1, 0) := by decide +kernel
  obtain ⟨f10, f11, f12, f13, f14⟩ : ip_fetch 0 356 = some (.iconst 1, 1, 0) ∧ ip_fetch 0 357 = some (.iadd, 1, 0) ∧ ip_fetch 0 358 = some (.iaload, 1, 0) ∧ ip_fetch 0 359 = some (.invokevirtual 44, 3, 192) ∧ ip_fetch 0 362 = some (.if_icmp .eq 737, 3, 1099) := by decide +kernel
  obtain ⟨_, hs0⟩ := lw_s0 t
  refine wl_ld1 f0 ?_
  refine wl_arg (a := 1) f1 f2 f3 f4 f5 (by omega) hL (lw_len t) ?_
  refine wl_cv (as := [.int (xs (i + 1))]) (lf := [.ref 0, .int (xs (i + 1)), .float 0]) f6 hs0 rfl rfl rfl (Nat.le_of_ble_eq_true rfl) rfl ⟨rfl, rfl⟩ rfl ?_
  refine wp_seq (wp_kp (pr_drops hI)) ?_
  rintro v M ⟨h, kp⟩
  obtain ⟨z, rfl, hlen, h⟩ := lc_midi h
  obtain ⟨_, hs1⟩ := kp.2 193 _ (lw_s1 t).choose_spec
  refine wl_ld2 f7 ?_
  refine wl_arg (a := 1) f8 f9 f10 f11 f12 (by omega) hL hlen ?_
  refine wl_cv (as := [.int (xs (i + 1))]) (lf := [.ref 193, .int (xs (i + 1)), .float 0]) f13 hs1 rfl rfl rfl (Nat.le_of_ble_eq_true rfl) rfl ⟨rfl, rfl⟩ rfl ?_
  refine wp_seq h ?_
  rintro _ _ ⟨t', F', G', rfl, rfl, hI'⟩
  exact wl_eq f14 (hk _ _ _ hI')
theorem lc_7 (hL : L ≤ 2560) (hi : i + 5 ≤ L) (hI : INV t F G) (hk : ∀ t F G, INV t F G → wl L xs 1099 (lwL i) [] (hs t, F, G) lw_cs) : wl L xs 367 (lwL i) [] (hs t, F, G) lw_cs := by
  obtain ⟨f0, f1, f2, f3, f4⟩ : ip_fetch 0 367 = some (.aload_n 1, 1, 0) ∧ ip_fetch 0 368 = some (.aload_n 0, 1, 0) ∧ ip_fetch 0 369 = some (.iload_n 3, 1, 0) ∧ ip_fetch 0 370 = some (.iconst 1, 1, 0) ∧ ip_fetch 0 371 = some (.iadd, 1, 0) := by decide +kernel
  obtain ⟨f5, f6, f7, f8, f9⟩ : ip_fetch 0 372 = some (.iaload, 1, 0) ∧ ip_fetch 0 373 = some (.aload_n 0, 1, 0) ∧ ip_fetch 0 374 = some (.iload_n 3, 1, 0) ∧ ip_fetch 0 375 = some (.iconst 2, 1, 0) ∧ ip_fetch 0 376 = some (.iadd, 1, 0) := by decide +kernel
  obtain ⟨f10, f11, f12, f13, f14⟩ : ip_fetch 0 377 = some (.iaload, 1, 0) ∧ ip_fetch 0 378 = some (.invokevirtual 45, 3, 99) ∧ ip_fetch 0 381 = some (.aload_n 2, 1, 0) ∧ ip_fetch 0 382 = some (.aload_n 0, 1, 0) ∧ ip_fetch 0 383 = some (.iload_n 3, 1, 0) := by decide +kernel
  obtain ⟨f15, f16, f17, f18, f19⟩ : ip_fetch 0 384 = some (.iconst 1, 1, 0) ∧ ip_fetch 0 385 = some (.iadd, 1, 0) ∧ ip_fetch 0 386 = some (.iaload, 1, 0) ∧ ip_fetch 0 387 = some (.aload_n 0, 1, 0) ∧ ip_fetch 0 388 = some (.iload_n 3, 1, 0) := by decide +kernel
  obtain ⟨f20, f21, f22, f23, f24⟩ : ip_fetch 0 389 = some (.iconst 2, 1, 0) ∧ ip_fetch 0 390 = some (.iadd, 1, 0) ∧ ip_fetch 0 391 = some (.iaload, 1, 0) ∧ ip_fetch 0 392 = some (.invokevirtual 48, 3, 193) ∧ ip_fetch 0 395 = some (.if_icmp .eq 704, 3, 1099) := by decide +kernel
  obtain ⟨_, hs0⟩ := lw_s0 t
  refine wl_ld1 f0 ?_
  refine wl_arg (a := 1) f1 f2 f3 f4 f5 (by omega) hL (lw_len t) ?_
  refine wl_arg (a := 2) f6 f7 f8 f9 f10 (by omega) hL (lw_len t) ?_
  refine wl_cv (as := [.int (xs (i + 1)), .int (xs (i + 2))]) (lf := [.ref 0, .int (xs (i + 1)), .int (xs (i + 2)), .float 0]) f11 hs0 rfl rfl rfl (Nat.le_of_ble_eq_true rfl) rfl ⟨rfl, rfl⟩ rfl ?_
  refine wp_seq (wp_kp (pr_hands hI)) ?_
  rintro v M ⟨h, kp⟩
  obtain ⟨z, rfl, hlen, h⟩ := lc_midi h
  obtain ⟨_, hs1⟩ := kp.2 193 _ (lw_s1 t).choose_spec
  refine wl_ld2 f12 ?_
  refine wl_arg (a := 1) f13 f14 f15 f16 f17 (by omega) hL hlen ?_
  refine wl_arg (a := 2) f18 f19 f20 f21 f22 (by omega) hL hlen ?_
  refine wl_cv (as := [.int (xs (i + 1)), .int (xs (i + 2))]) (lf := [.ref 193, .int (xs (i + 1)), .int (xs (i + 2)), .float 0]) f23 hs1 rfl rfl rfl (Nat.le_of_ble_eq_true rfl) rfl ⟨rfl, rfl⟩ rfl ?_
  refine wp_seq h ?_
  rintro _ _ ⟨t', F', G', rfl, rfl, hI'⟩
  exact wl_eq f24 (hk _ _ _ hI')
theorem lc_8 (hL : L ≤ 2560) (hi : i + 5 ≤ L) (hI : INV t F G) (hk : ∀ t F G, INV t F G → wl L xs 1099 (lwL i) [] (hs t, F, G) lw_cs) : wl L xs 400 (lwL i) [] (hs t, F, G) lw_cs := by
  obtain ⟨f0, f1, f2, f3, f4⟩ : ip_fetch 0 400 = some (.aload_n 1, 1, 0) ∧ ip_fetch 0 401 = some (.aload_n 0, 1, 0) ∧ ip_fetch 0 402 = some (.iload_n 3, 1, 0) ∧ ip_fetch 0 403 = some (.iconst 1, 1, 0) ∧ ip_fetch 0 404 = some (.iadd, 1, 0) := by decide +kernel
  obtain ⟨f5, f6, f7, f8, f9⟩ : ip_fetch 0 405 = some (.iaload, 1, 0) ∧ ip_fetch 0 406 = some (.invokevirtual 49, 3, 100) ∧ ip_fetch 0 409 = some (.aload_n 2, 1, 0) ∧ ip_fetch 0 410 = some (.aload_n 0, 1, 0) ∧ ip_fetch 0 411 = some (.iload_n 3, 1, 0) := by decide +kernel
  obtain ⟨f10, f11, f12, f13, f14⟩ : ip_fetch 0 412 = some (.iconst 1, 1, 0) ∧ ip_fetch 0 413 = some (.iadd, 1, 0) ∧ ip_fetch 0 414 = some (.iaload, 1, 0) ∧ ip_fetch 0 415 = some (.invokevirtual 52, 3, 194) ∧ ip_fetch 0 418 = some (.if_icmp .eq 681, 3, 1099) := by decide +kernel
  obtain ⟨_, hs0⟩ := lw_s0 t
  refine wl_ld1 f0 ?_
  refine wl_arg (a := 1) f1 f2 f3 f4 f5 (by omega) hL (lw_len t) ?_
  refine wl_cv (as := [.int (xs (i + 1))]) (lf := [.ref 0, .int (xs (i + 1))]) f6 hs0 rfl rfl rfl (Nat.le_of_ble_eq_true rfl) rfl ⟨rfl, rfl⟩ rfl ?_
  refine wp_seq (wp_kp (pr_year hI)) ?_
  rintro v M ⟨h, kp⟩
  obtain ⟨z, rfl, hlen, h⟩ := lc_midi h
  obtain ⟨_, hs1⟩ := kp.2 193 _ (lw_s1 t).choose_spec
  refine wl_ld2 f7 ?_
  refine wl_arg (a := 1) f8 f9 f10 f11 f12 (by omega) hL hlen ?_
  refine wl_cv (as := [.int (xs (i + 1))]) (lf := [.ref 193, .int (xs (i + 1)), .float 0]) f13 hs1 rfl rfl rfl (Nat.le_of_ble_eq_true rfl) rfl ⟨rfl, rfl⟩ rfl ?_
  refine wp_seq h ?_
  rintro _ _ ⟨t', F', G', rfl, rfl, hI'⟩
  exact wl_eq f14 (hk _ _ _ hI')
theorem lc_9 (hL : L ≤ 2560) (hi : i + 5 ≤ L) (hI : INV t F G) (hk : ∀ t F G, INV t F G → wl L xs 1099 (lwL i) [] (hs t, F, G) lw_cs) : wl L xs 423 (lwL i) [] (hs t, F, G) lw_cs := by
  obtain ⟨f0, f1, f2, f3, f4⟩ : ip_fetch 0 423 = some (.aload_n 1, 1, 0) ∧ ip_fetch 0 424 = some (.invokevirtual 53, 3, 101) ∧ ip_fetch 0 427 = some (.aload_n 2, 1, 0) ∧ ip_fetch 0 428 = some (.invokevirtual 56, 3, 195) ∧ ip_fetch 0 431 = some (.if_icmp .eq 668, 3, 1099) := by decide +kernel
  obtain ⟨_, hs0⟩ := lw_s0 t
  refine wl_ld1 f0 ?_
  refine wl_cv (as := []) (lf := [.ref 0]) f1 hs0 rfl rfl rfl (Nat.le_of_ble_eq_true rfl) rfl ⟨rfl, rfl⟩ rfl ?_
  refine wp_seq (wp_kp (pr_undo hI)) ?_
  rintro v M ⟨h, kp⟩
  obtain ⟨z, rfl, hlen, h⟩ := lc_midi h
  obtain ⟨_, hs1⟩ := kp.2 193 _ (lw_s1 t).choose_spec
  refine wl_ld2 f2 ?_
  refine wl_cv (as := []) (lf := [.ref 193]) f3 hs1 rfl rfl rfl (Nat.le_of_ble_eq_true rfl) rfl ⟨rfl, rfl⟩ rfl ?_
  refine wp_seq h ?_
  rintro _ _ ⟨t', F', G', rfl, rfl, hI'⟩
  exact wl_eq f4 (hk _ _ _ hI')
theorem lc_10 (hL : L ≤ 2560) (hi : i + 5 ≤ L) (hI : INV t F G) (hk : ∀ t F G, INV t F G → wl L xs 1099 (lwL i) [] (hs t, F, G) lw_cs) : wl L xs 436 (lwL i) [] (hs t, F, G) lw_cs := by
  obtain ⟨f0, f1, f2, f3, f4⟩ : ip_fetch 0 436 = some (.aload_n 1, 1, 0) ∧ ip_fetch 0 437 = some (.aload_n 0, 1, 0) ∧ ip_fetch 0 438 = some (.iload_n 3, 1, 0) ∧ ip_fetch 0 439 = some (.iconst 1, 1, 0) ∧ ip_fetch 0 440 = some (.iadd, 1, 0) := by decide +kernel
  obtain ⟨f5, f6, f7, f8, f9⟩ : ip_fetch 0 441 = some (.iaload, 1, 0) ∧ ip_fetch 0 442 = some (.aload_n 0, 1, 0) ∧ ip_fetch 0 443 = some (.iload_n 3, 1, 0) ∧ ip_fetch 0 444 = some (.iconst 2, 1, 0) ∧ ip_fetch 0 445 = some (.iadd, 1, 0) := by decide +kernel
  obtain ⟨f10, f11, f12, f13, f14⟩ : ip_fetch 0 446 = some (.iaload, 1, 0) ∧ ip_fetch 0 447 = some (.invokevirtual 57, 3, 102) ∧ ip_fetch 0 450 = some (.aload_n 2, 1, 0) ∧ ip_fetch 0 451 = some (.aload_n 0, 1, 0) ∧ ip_fetch 0 452 = some (.iload_n 3, 1, 0) := by decide +kernel
  obtain ⟨f15, f16, f17, f18, f19⟩ : ip_fetch 0 453 = some (.iconst 1, 1, 0) ∧ ip_fetch 0 454 = some (.iadd, 1, 0) ∧ ip_fetch 0 455 = some (.iaload, 1, 0) ∧ ip_fetch 0 456 = some (.aload_n 0, 1, 0) ∧ ip_fetch 0 457 = some (.iload_n 3, 1, 0) := by decide +kernel
  obtain ⟨f20, f21, f22, f23, f24⟩ : ip_fetch 0 458 = some (.iconst 2, 1, 0) ∧ ip_fetch 0 459 = some (.iadd, 1, 0) ∧ ip_fetch 0 460 = some (.iaload, 1, 0) ∧ ip_fetch 0 461 = some (.invokevirtual 60, 3, 197) ∧ ip_fetch 0 464 = some (.if_icmp .eq 635, 3, 1099) := by decide +kernel
  obtain ⟨_, hs0⟩ := lw_s0 t
  refine wl_ld1 f0 ?_
  refine wl_arg (a := 1) f1 f2 f3 f4 f5 (by omega) hL (lw_len t) ?_
  refine wl_arg (a := 2) f6 f7 f8 f9 f10 (by omega) hL (lw_len t) ?_
  refine wl_cv (as := [.int (xs (i + 1)), .int (xs (i + 2))]) (lf := [.ref 0, .int (xs (i + 1)), .int (xs (i + 2))]) f11 hs0 rfl rfl rfl (Nat.le_of_ble_eq_true rfl) rfl ⟨rfl, rfl⟩ rfl ?_
  refine wp_seq (wp_kp (pr_of hI)) ?_
  rintro v M ⟨h, kp⟩
  obtain ⟨z, rfl, hlen, h⟩ := lc_midi h
  obtain ⟨_, hs1⟩ := kp.2 193 _ (lw_s1 t).choose_spec
  refine wl_ld2 f12 ?_
  refine wl_arg (a := 1) f13 f14 f15 f16 f17 (by omega) hL hlen ?_
  refine wl_arg (a := 2) f18 f19 f20 f21 f22 (by omega) hL hlen ?_
  refine wl_cv (as := [.int (xs (i + 1)), .int (xs (i + 2))]) (lf := [.ref 193, .int (xs (i + 1)), .int (xs (i + 2))]) f23 hs1 rfl rfl rfl (Nat.le_of_ble_eq_true rfl) rfl ⟨rfl, rfl⟩ rfl ?_
  refine wp_seq h ?_
  rintro _ _ ⟨t', F', G', rfl, rfl, hI'⟩
  exact wl_eq f24 (hk _ _ _ hI')
theorem lc_11 (hL : L ≤ 2560) (hi : i + 5 ≤ L) (hI : INV t F G) (hk : ∀ t F G, INV t F G → wl L xs 1099 (lwL i) [] (hs t, F, G) lw_cs) : wl L xs 469 (lwL i) [] (hs t, F, G) lw_cs := by
  obtain ⟨f0, f1, f2, f3, f4⟩ : ip_fetch 0 469 = some (.aload_n 1, 1, 0) ∧ ip_fetch 0 470 = some (.aload_n 0, 1, 0) ∧ ip_fetch 0 471 = some (.iload_n 3, 1, 0) ∧ ip_fetch 0 472 = some (.iconst 1, 1, 0) ∧ ip_fetch 0 473 = some (.iadd, 1, 0) := by decide +kernel
  obtain ⟨f5, f6, f7, f8, f9⟩ : ip_fetch 0 474 = some (.iaload, 1, 0) ∧ ip_fetch 0 475 = some (.aload_n 0, 1, 0) ∧ ip_fetch 0 476 = some (.iload_n 3, 1, 0) ∧ ip_fetch 0 477 = some (.iconst 2, 1, 0) ∧ ip_fetch 0 478 = some (.iadd, 1, 0) := by decide +kernel
  obtain ⟨f10, f11, f12, f13, f14⟩ : ip_fetch 0 479 = some (.iaload, 1, 0) ∧ ip_fetch 0 480 = some (.invokevirtual 61, 3, 103) ∧ ip_fetch 0 483 = some (.aload_n 2, 1, 0) ∧ ip_fetch 0 484 = some (.aload_n 0, 1, 0) ∧ ip_fetch 0 485 = some (.iload_n 3, 1, 0) := by decide +kernel
  obtain ⟨f15, f16, f17, f18, f19⟩ : ip_fetch 0 486 = some (.iconst 1, 1, 0) ∧ ip_fetch 0 487 = some (.iadd, 1, 0) ∧ ip_fetch 0 488 = some (.iaload, 1, 0) ∧ ip_fetch 0 489 = some (.aload_n 0, 1, 0) ∧ ip_fetch 0 490 = some (.iload_n 3, 1, 0) := by decide +kernel
  obtain ⟨f20, f21, f22, f23, f24⟩ : ip_fetch 0 491 = some (.iconst 2, 1, 0) ∧ ip_fetch 0 492 = some (.iadd, 1, 0) ∧ ip_fetch 0 493 = some (.iaload, 1, 0) ∧ ip_fetch 0 494 = some (.invokevirtual 64, 3, 198) ∧ ip_fetch 0 497 = some (.if_icmp .eq 602, 3, 1099) := by decide +kernel
  obtain ⟨_, hs0⟩ := lw_s0 t
  refine wl_ld1 f0 ?_
  refine wl_arg (a := 1) f1 f2 f3 f4 f5 (by omega) hL (lw_len t) ?_
  refine wl_arg (a := 2) f6 f7 f8 f9 f10 (by omega) hL (lw_len t) ?_
  refine wl_cv (as := [.int (xs (i + 1)), .int (xs (i + 2))]) (lf := [.ref 0, .int (xs (i + 1)), .int (xs (i + 2)), .float 0]) f11 hs0 rfl rfl rfl (Nat.le_of_ble_eq_true rfl) rfl ⟨rfl, rfl⟩ rfl ?_
  refine wp_seq (wp_kp (pr_row hI)) ?_
  rintro v M ⟨h, kp⟩
  obtain ⟨z, rfl, hlen, h⟩ := lc_midi h
  obtain ⟨_, hs1⟩ := kp.2 193 _ (lw_s1 t).choose_spec
  refine wl_ld2 f12 ?_
  refine wl_arg (a := 1) f13 f14 f15 f16 f17 (by omega) hL hlen ?_
  refine wl_arg (a := 2) f18 f19 f20 f21 f22 (by omega) hL hlen ?_
  refine wl_cv (as := [.int (xs (i + 1)), .int (xs (i + 2))]) (lf := [.ref 193, .int (xs (i + 1)), .int (xs (i + 2))]) f23 hs1 rfl rfl rfl (Nat.le_of_ble_eq_true rfl) rfl ⟨rfl, rfl⟩ rfl ?_
  refine wp_seq h ?_
  rintro _ _ ⟨t', F', G', rfl, rfl, hI'⟩
  exact wl_eq f24 (hk _ _ _ hI')
theorem lc_12 (hL : L ≤ 2560) (hi : i + 5 ≤ L) (hI : INV t F G) (hk : ∀ t F G, INV t F G → wl L xs 1099 (lwL i) [] (hs t, F, G) lw_cs) : wl L xs 502 (lwL i) [] (hs t, F, G) lw_cs := by
  obtain ⟨f0, f1, f2, f3, f4⟩ : ip_fetch 0 502 = some (.aload_n 1, 1, 0) ∧ ip_fetch 0 503 = some (.aload_n 0, 1, 0) ∧ ip_fetch 0 504 = some (.iload_n 3, 1, 0) ∧ ip_fetch 0 505 = some (.iconst 1, 1, 0) ∧ ip_fetch 0 506 = some (.iadd, 1, 0) := by decide +kernel
  obtain ⟨f5, f6, f7, f8, f9⟩ : ip_fetch 0 507 = some (.iaload, 1, 0) ∧ ip_fetch 0 508 = some (.invokevirtual 65, 3, 104) ∧ ip_fetch 0 511 = some (.aload_n 2, 1, 0) ∧ ip_fetch 0 512 = some (.aload_n 0, 1, 0) ∧ ip_fetch 0 513 = some (.iload_n 3, 1, 0) := by decide +kernel
  obtain ⟨f10, f11, f12, f13, f14⟩ : ip_fetch 0 514 = some (.iconst 1, 1, 0) ∧ ip_fetch 0 515 = some (.iadd, 1, 0) ∧ ip_fetch 0 516 = some (.iaload, 1, 0) ∧ ip_fetch 0 517 = some (.invokevirtual 68, 3, 199) ∧ ip_fetch 0 520 = some (.if_icmp .eq 579, 3, 1099) := by decide +kernel
  obtain ⟨_, hs0⟩ := lw_s0 t
  refine wl_ld1 f0 ?_
  refine wl_arg (a := 1) f1 f2 f3 f4 f5 (by omega) hL (lw_len t) ?_
  refine wl_cv (as := [.int (xs (i + 1))]) (lf := [.ref 0, .int (xs (i + 1)), .float 0, .float 0]) f6 hs0 rfl rfl rfl (Nat.le_of_ble_eq_true rfl) rfl ⟨rfl, rfl⟩ rfl ?_
  refine wp_seq (wp_kp (pr_repeats hI)) ?_
  rintro v M ⟨h, kp⟩
  obtain ⟨z, rfl, hlen, h⟩ := lc_midi h
  obtain ⟨_, hs1⟩ := kp.2 193 _ (lw_s1 t).choose_spec
  refine wl_ld2 f7 ?_
  refine wl_arg (a := 1) f8 f9 f10 f11 f12 (by omega) hL hlen ?_
  refine wl_cv (as := [.int (xs (i + 1))]) (lf := [.ref 193, .int (xs (i + 1)), .float 0]) f13 hs1 rfl rfl rfl (Nat.le_of_ble_eq_true rfl) rfl ⟨rfl, rfl⟩ rfl ?_
  refine wp_seq h ?_
  rintro _ _ ⟨t', F', G', rfl, rfl, hI'⟩
  exact wl_eq f14 (hk _ _ _ hI')
theorem lc_13 (hL : L ≤ 2560) (hi : i + 5 ≤ L) (hI : INV t F G) (hk : ∀ t F G, INV t F G → wl L xs 1099 (lwL i) [] (hs t, F, G) lw_cs) : wl L xs 525 (lwL i) [] (hs t, F, G) lw_cs := by
  obtain ⟨f0, f1, f2, f3, f4⟩ : ip_fetch 0 525 = some (.aload_n 1, 1, 0) ∧ ip_fetch 0 526 = some (.aload_n 0, 1, 0) ∧ ip_fetch 0 527 = some (.iload_n 3, 1, 0) ∧ ip_fetch 0 528 = some (.iconst 1, 1, 0) ∧ ip_fetch 0 529 = some (.iadd, 1, 0) := by decide +kernel
  obtain ⟨f5, f6, f7, f8, f9⟩ : ip_fetch 0 530 = some (.iaload, 1, 0) ∧ ip_fetch 0 531 = some (.invokevirtual 69, 3, 105) ∧ ip_fetch 0 534 = some (.aload_n 2, 1, 0) ∧ ip_fetch 0 535 = some (.aload_n 0, 1, 0) ∧ ip_fetch 0 536 = some (.iload_n 3, 1, 0) := by decide +kernel
  obtain ⟨f10, f11, f12, f13, f14⟩ : ip_fetch 0 537 = some (.iconst 1, 1, 0) ∧ ip_fetch 0 538 = some (.iadd, 1, 0) ∧ ip_fetch 0 539 = some (.iaload, 1, 0) ∧ ip_fetch 0 540 = some (.invokevirtual 72, 3, 200) ∧ ip_fetch 0 543 = some (.if_icmp .eq 556, 3, 1099) := by decide +kernel
  obtain ⟨_, hs0⟩ := lw_s0 t
  refine wl_ld1 f0 ?_
  refine wl_arg (a := 1) f1 f2 f3 f4 f5 (by omega) hL (lw_len t) ?_
  refine wl_cv (as := [.int (xs (i + 1))]) (lf := [.ref 0, .int (xs (i + 1)), .float 0]) f6 hs0 rfl rfl rfl (Nat.le_of_ble_eq_true rfl) rfl ⟨rfl, rfl⟩ rfl ?_
  refine wp_seq (wp_kp (pr_clash hI)) ?_
  rintro v M ⟨h, kp⟩
  obtain ⟨z, rfl, hlen, h⟩ := lc_midi h
  obtain ⟨_, hs1⟩ := kp.2 193 _ (lw_s1 t).choose_spec
  refine wl_ld2 f7 ?_
  refine wl_arg (a := 1) f8 f9 f10 f11 f12 (by omega) hL hlen ?_
  refine wl_cv (as := [.int (xs (i + 1))]) (lf := [.ref 193, .int (xs (i + 1)), .float 0, .float 0, .float 0, .float 0, .float 0, .float 0]) f13 hs1 rfl rfl rfl (Nat.le_of_ble_eq_true rfl) rfl ⟨rfl, rfl⟩ rfl ?_
  refine wp_seq h ?_
  rintro _ _ ⟨t', F', G', rfl, rfl, hI'⟩
  exact wl_eq f14 (hk _ _ _ hI')
theorem lc_14 (hL : L ≤ 2560) (hi : i + 5 ≤ L) (hI : INV t F G) (hk : ∀ t F G, INV t F G → wl L xs 1099 (lwL i) [] (hs t, F, G) lw_cs) : wl L xs 548 (lwL i) [] (hs t, F, G) lw_cs := by
  obtain ⟨f0, f1, f2, f3, f4⟩ : ip_fetch 0 548 = some (.aload_n 1, 1, 0) ∧ ip_fetch 0 549 = some (.invokevirtual 73, 3, 106) ∧ ip_fetch 0 552 = some (.aload_n 2, 1, 0) ∧ ip_fetch 0 553 = some (.invokevirtual 76, 3, 201) ∧ ip_fetch 0 556 = some (.if_icmp .eq 543, 3, 1099) := by decide +kernel
  obtain ⟨_, hs0⟩ := lw_s0 t
  refine wl_ld1 f0 ?_
  refine wl_cv (as := []) (lf := [.ref 0]) f1 hs0 rfl rfl rfl (Nat.le_of_ble_eq_true rfl) rfl ⟨rfl, rfl⟩ rfl ?_
  refine wp_seq (wp_kp (pr_mend hI)) ?_
  rintro v M ⟨h, kp⟩
  obtain ⟨z, rfl, hlen, h⟩ := lc_midi h
  obtain ⟨_, hs1⟩ := kp.2 193 _ (lw_s1 t).choose_spec
  refine wl_ld2 f2 ?_
  refine wl_cv (as := []) (lf := [.ref 193, .float 0, .float 0, .float 0, .float 0, .float 0]) f3 hs1 rfl rfl rfl (Nat.le_of_ble_eq_true rfl) rfl ⟨rfl, rfl⟩ rfl ?_
  refine wp_seq h ?_
  rintro _ _ ⟨t', F', G', rfl, rfl, hI'⟩
  exact wl_eq f4 (hk _ _ _ hI')
theorem lc_15 (hL : L ≤ 2560) (hi : i + 5 ≤ L) (hI : INV t F G) (hk : ∀ t F G, INV t F G → wl L xs 1099 (lwL i) [] (hs t, F, G) lw_cs) : wl L xs 561 (lwL i) [] (hs t, F, G) lw_cs := by
  obtain ⟨f0, f1, f2, f3, f4⟩ : ip_fetch 0 561 = some (.aload_n 1, 1, 0) ∧ ip_fetch 0 562 = some (.invokevirtual 77, 3, 107) ∧ ip_fetch 0 565 = some (.aload_n 2, 1, 0) ∧ ip_fetch 0 566 = some (.invokevirtual 80, 3, 202) ∧ ip_fetch 0 569 = some (.if_icmp .eq 530, 3, 1099) := by decide +kernel
  obtain ⟨_, hs0⟩ := lw_s0 t
  refine wl_ld1 f0 ?_
  refine wl_cv (as := []) (lf := [.ref 0]) f1 hs0 rfl rfl rfl (Nat.le_of_ble_eq_true rfl) rfl ⟨rfl, rfl⟩ rfl ?_
  refine wp_seq (wp_kp (pr_compose hI)) ?_
  rintro v M ⟨h, kp⟩
  obtain ⟨z, rfl, hlen, h⟩ := lc_midi h
  obtain ⟨_, hs1⟩ := kp.2 193 _ (lw_s1 t).choose_spec
  refine wl_ld2 f2 ?_
  refine wl_cv (as := []) (lf := [.ref 193, .float 0, .float 0, .float 0, .float 0, .float 0]) f3 hs1 rfl rfl rfl (Nat.le_of_ble_eq_true rfl) rfl ⟨rfl, rfl⟩ rfl ?_
  refine wp_seq h ?_
  rintro _ _ ⟨t', F', G', rfl, rfl, hI'⟩
  exact wl_eq f4 (hk _ _ _ hI')
theorem lc_16 (hL : L ≤ 2560) (hi : i + 5 ≤ L) (hI : INV t F G) (hk : ∀ t F G, INV t F G → wl L xs 1099 (lwL i) [] (hs t, F, G) lw_cs) : wl L xs 574 (lwL i) [] (hs t, F, G) lw_cs := by
  obtain ⟨f0, f1, f2, f3, f4⟩ : ip_fetch 0 574 = some (.aload_n 1, 1, 0) ∧ ip_fetch 0 575 = some (.invokevirtual 81, 3, 108) ∧ ip_fetch 0 578 = some (.aload_n 2, 1, 0) ∧ ip_fetch 0 579 = some (.invokevirtual 84, 3, 203) ∧ ip_fetch 0 582 = some (.if_icmp .eq 517, 3, 1099) := by decide +kernel
  obtain ⟨_, hs0⟩ := lw_s0 t
  refine wl_ld1 f0 ?_
  refine wl_cv (as := []) (lf := [.ref 0]) f1 hs0 rfl rfl rfl (Nat.le_of_ble_eq_true rfl) rfl ⟨rfl, rfl⟩ rfl ?_
  refine wp_seq (wp_kp (pr_when hI)) ?_
  rintro v M ⟨h, kp⟩
  obtain ⟨z, rfl, hlen, h⟩ := lc_midi h
  obtain ⟨_, hs1⟩ := kp.2 193 _ (lw_s1 t).choose_spec
  refine wl_ld2 f2 ?_
  refine wl_cv (as := []) (lf := [.ref 193, .float 0, .float 0]) f3 hs1 rfl rfl rfl (Nat.le_of_ble_eq_true rfl) rfl ⟨rfl, rfl⟩ rfl ?_
  refine wp_seq h ?_
  rintro _ _ ⟨t', F', G', rfl, rfl, hI'⟩
  exact wl_eq f4 (hk _ _ _ hI')
theorem lc_17 (hL : L ≤ 2560) (hi : i + 5 ≤ L) (hI : INV t F G) (hk : ∀ t F G, INV t F G → wl L xs 1099 (lwL i) [] (hs t, F, G) lw_cs) : wl L xs 587 (lwL i) [] (hs t, F, G) lw_cs := by
  obtain ⟨f0, f1, f2, f3, f4⟩ : ip_fetch 0 587 = some (.aload_n 1, 1, 0) ∧ ip_fetch 0 588 = some (.invokevirtual 85, 3, 109) ∧ ip_fetch 0 591 = some (.aload_n 2, 1, 0) ∧ ip_fetch 0 592 = some (.invokevirtual 88, 3, 204) ∧ ip_fetch 0 595 = some (.if_icmp .eq 504, 3, 1099) := by decide +kernel
  obtain ⟨_, hs0⟩ := lw_s0 t
  refine wl_ld1 f0 ?_
  refine wl_cv (as := []) (lf := [.ref 0]) f1 hs0 rfl rfl rfl (Nat.le_of_ble_eq_true rfl) rfl ⟨rfl, rfl⟩ rfl ?_
  refine wp_seq (wp_kp (pr_clean hI)) ?_
  rintro v M ⟨h, kp⟩
  obtain ⟨z, rfl, hlen, h⟩ := lc_midi h
  obtain ⟨_, hs1⟩ := kp.2 193 _ (lw_s1 t).choose_spec
  refine wl_ld2 f2 ?_
  refine wl_cv (as := []) (lf := [.ref 193]) f3 hs1 rfl rfl rfl (Nat.le_of_ble_eq_true rfl) rfl ⟨rfl, rfl⟩ rfl ?_
  refine wp_seq h ?_
  rintro _ _ ⟨t', F', G', rfl, rfl, hI'⟩
  exact wl_eq f4 (hk _ _ _ hI')
theorem lc_18 (hL : L ≤ 2560) (hi : i + 5 ≤ L) (hI : INV t F G) (hk : ∀ t F G, INV t F G → wl L xs 1099 (lwL i) [] (hs t, F, G) lw_cs) : wl L xs 600 (lwL i) [] (hs t, F, G) lw_cs := by
  obtain ⟨f0, f1, f2, f3, f4⟩ : ip_fetch 0 600 = some (.aload_n 1, 1, 0) ∧ ip_fetch 0 601 = some (.aload_n 0, 1, 0) ∧ ip_fetch 0 602 = some (.iload_n 3, 1, 0) ∧ ip_fetch 0 603 = some (.iconst 1, 1, 0) ∧ ip_fetch 0 604 = some (.iadd, 1, 0) := by decide +kernel
  obtain ⟨f5, f6, f7, f8, f9⟩ : ip_fetch 0 605 = some (.iaload, 1, 0) ∧ ip_fetch 0 606 = some (.aload_n 0, 1, 0) ∧ ip_fetch 0 607 = some (.iload_n 3, 1, 0) ∧ ip_fetch 0 608 = some (.iconst 2, 1, 0) ∧ ip_fetch 0 609 = some (.iadd, 1, 0) := by decide +kernel
  obtain ⟨f10, f11, f12, f13, f14⟩ : ip_fetch 0 610 = some (.iaload, 1, 0) ∧ ip_fetch 0 611 = some (.invokevirtual 89, 3, 110) ∧ ip_fetch 0 614 = some (.aload_n 2, 1, 0) ∧ ip_fetch 0 615 = some (.aload_n 0, 1, 0) ∧ ip_fetch 0 616 = some (.iload_n 3, 1, 0) := by decide +kernel
  obtain ⟨f15, f16, f17, f18, f19⟩ : ip_fetch 0 617 = some (.iconst 1, 1, 0) ∧ ip_fetch 0 618 = some (.iadd, 1, 0) ∧ ip_fetch 0 619 = some (.iaload, 1, 0) ∧ ip_fetch 0 620 = some (.aload_n 0, 1, 0) ∧ ip_fetch 0 621 = some (.iload_n 3, 1, 0) := by decide +kernel
  obtain ⟨f20, f21, f22, f23, f24⟩ : ip_fetch 0 622 = some (.iconst 2, 1, 0) ∧ ip_fetch 0 623 = some (.iadd, 1, 0) ∧ ip_fetch 0 624 = some (.iaload, 1, 0) ∧ ip_fetch 0 625 = some (.invokevirtual 92, 3, 206) ∧ ip_fetch 0 628 = some (.if_icmp .eq 471, 3, 1099) := by decide +kernel
  obtain ⟨_, hs0⟩ := lw_s0 t
  refine wl_ld1 f0 ?_
  refine wl_arg (a := 1) f1 f2 f3 f4 f5 (by omega) hL (lw_len t) ?_
  refine wl_arg (a := 2) f6 f7 f8 f9 f10 (by omega) hL (lw_len t) ?_
  refine wl_cv (as := [.int (xs (i + 1)), .int (xs (i + 2))]) (lf := [.ref 0, .int (xs (i + 1)), .int (xs (i + 2))]) f11 hs0 rfl rfl rfl (Nat.le_of_ble_eq_true rfl) rfl ⟨rfl, rfl⟩ rfl ?_
  refine wp_seq (wp_kp (pr_heard hI)) ?_
  rintro v M ⟨h, kp⟩
  obtain ⟨z, rfl, hlen, h⟩ := lc_midi h
  obtain ⟨_, hs1⟩ := kp.2 193 _ (lw_s1 t).choose_spec
  refine wl_ld2 f12 ?_
  refine wl_arg (a := 1) f13 f14 f15 f16 f17 (by omega) hL hlen ?_
  refine wl_arg (a := 2) f18 f19 f20 f21 f22 (by omega) hL hlen ?_
  refine wl_cv (as := [.int (xs (i + 1)), .int (xs (i + 2))]) (lf := [.ref 193, .int (xs (i + 1)), .int (xs (i + 2))]) f23 hs1 rfl rfl rfl (Nat.le_of_ble_eq_true rfl) rfl ⟨rfl, rfl⟩ rfl ?_
  refine wp_seq h ?_
  rintro _ _ ⟨t', F', G', rfl, rfl, hI'⟩
  exact wl_eq f24 (hk _ _ _ hI')
theorem lc_19 (hL : L ≤ 2560) (hi : i + 5 ≤ L) (hI : INV t F G) (hk : ∀ t F G, INV t F G → wl L xs 1099 (lwL i) [] (hs t, F, G) lw_cs) : wl L xs 633 (lwL i) [] (hs t, F, G) lw_cs := by
  obtain ⟨f0, f1, f2, f3, f4⟩ : ip_fetch 0 633 = some (.aload_n 1, 1, 0) ∧ ip_fetch 0 634 = some (.aload_n 0, 1, 0) ∧ ip_fetch 0 635 = some (.iload_n 3, 1, 0) ∧ ip_fetch 0 636 = some (.iconst 1, 1, 0) ∧ ip_fetch 0 637 = some (.iadd, 1, 0) := by decide +kernel
  obtain ⟨f5, f6, f7, f8, f9⟩ : ip_fetch 0 638 = some (.iaload, 1, 0) ∧ ip_fetch 0 639 = some (.invokevirtual 93, 3, 111) ∧ ip_fetch 0 642 = some (.aload_n 2, 1, 0) ∧ ip_fetch 0 643 = some (.aload_n 0, 1, 0) ∧ ip_fetch 0 644 = some (.iload_n 3, 1, 0) := by decide +kernel
  obtain ⟨f10, f11, f12, f13, f14⟩ : ip_fetch 0 645 = some (.iconst 1, 1, 0) ∧ ip_fetch 0 646 = some (.iadd, 1, 0) ∧ ip_fetch 0 647 = some (.iaload, 1, 0) ∧ ip_fetch 0 648 = some (.invokevirtual 96, 3, 208) ∧ ip_fetch 0 651 = some (.if_icmp .eq 448, 3, 1099) := by decide +kernel
  obtain ⟨_, hs0⟩ := lw_s0 t
  refine wl_ld1 f0 ?_
  refine wl_arg (a := 1) f1 f2 f3 f4 f5 (by omega) hL (lw_len t) ?_
  refine wl_cv (as := [.int (xs (i + 1))]) (lf := [.ref 0, .int (xs (i + 1))]) f6 hs0 rfl rfl rfl (Nat.le_of_ble_eq_true rfl) rfl ⟨rfl, rfl⟩ rfl ?_
  refine wp_seq (wp_kp (pr_who hI)) ?_
  rintro v M ⟨h, kp⟩
  obtain ⟨z, rfl, hlen, h⟩ := lc_midi h
  obtain ⟨_, hs1⟩ := kp.2 193 _ (lw_s1 t).choose_spec
  refine wl_ld2 f7 ?_
  refine wl_arg (a := 1) f8 f9 f10 f11 f12 (by omega) hL hlen ?_
  refine wl_cv (as := [.int (xs (i + 1))]) (lf := [.ref 193, .int (xs (i + 1)), .float 0, .float 0, .float 0, .float 0, .float 0]) f13 hs1 rfl rfl rfl (Nat.le_of_ble_eq_true rfl) rfl ⟨rfl, rfl⟩ rfl ?_
  refine wp_seq h ?_
  rintro _ _ ⟨t', F', G', rfl, rfl, hI'⟩
  exact wl_eq f14 (hk _ _ _ hI')
theorem lc_20 (hL : L ≤ 2560) (hi : i + 5 ≤ L) (hI : INV t F G) (hk : ∀ t F G, INV t F G → wl L xs 1099 (lwL i) [] (hs t, F, G) lw_cs) : wl L xs 656 (lwL i) [] (hs t, F, G) lw_cs := by
  obtain ⟨f0, f1, f2, f3, f4⟩ : ip_fetch 0 656 = some (.aload_n 1, 1, 0) ∧ ip_fetch 0 657 = some (.invokevirtual 97, 3, 112) ∧ ip_fetch 0 660 = some (.aload_n 2, 1, 0) ∧ ip_fetch 0 661 = some (.invokevirtual 100, 3, 210) ∧ ip_fetch 0 664 = some (.if_icmp .eq 435, 3, 1099) := by decide +kernel
  obtain ⟨_, hs0⟩ := lw_s0 t
  refine wl_ld1 f0 ?_
  refine wl_cv (as := []) (lf := [.ref 0]) f1 hs0 rfl rfl rfl (Nat.le_of_ble_eq_true rfl) rfl ⟨rfl, rfl⟩ rfl ?_
  refine wp_seq (wp_kp (pr_tell hI)) ?_
  rintro v M ⟨h, kp⟩
  obtain ⟨z, rfl, hlen, h⟩ := lc_midi h
  obtain ⟨_, hs1⟩ := kp.2 193 _ (lw_s1 t).choose_spec
  refine wl_ld2 f2 ?_
  refine wl_cv (as := []) (lf := [.ref 193, .float 0, .float 0, .float 0, .float 0]) f3 hs1 rfl rfl rfl (Nat.le_of_ble_eq_true rfl) rfl ⟨rfl, rfl⟩ rfl ?_
  refine wp_seq h ?_
  rintro _ _ ⟨t', F', G', rfl, rfl, hI'⟩
  exact wl_eq f4 (hk _ _ _ hI')
theorem lc_21 (hL : L ≤ 2560) (hi : i + 5 ≤ L) (hI : INV t F G) (hk : ∀ t F G, INV t F G → wl L xs 1099 (lwL i) [] (hs t, F, G) lw_cs) : wl L xs 669 (lwL i) [] (hs t, F, G) lw_cs := by
  obtain ⟨f0, f1, f2, f3, f4⟩ : ip_fetch 0 669 = some (.aload_n 1, 1, 0) ∧ ip_fetch 0 670 = some (.aload_n 0, 1, 0) ∧ ip_fetch 0 671 = some (.iload_n 3, 1, 0) ∧ ip_fetch 0 672 = some (.iconst 1, 1, 0) ∧ ip_fetch 0 673 = some (.iadd, 1, 0) := by decide +kernel
  obtain ⟨f5, f6, f7, f8, f9⟩ : ip_fetch 0 674 = some (.iaload, 1, 0) ∧ ip_fetch 0 675 = some (.aload_n 0, 1, 0) ∧ ip_fetch 0 676 = some (.iload_n 3, 1, 0) ∧ ip_fetch 0 677 = some (.iconst 2, 1, 0) ∧ ip_fetch 0 678 = some (.iadd, 1, 0) := by decide +kernel
  obtain ⟨f10, f11, f12, f13, f14⟩ : ip_fetch 0 679 = some (.iaload, 1, 0) ∧ ip_fetch 0 680 = some (.aload_n 0, 1, 0) ∧ ip_fetch 0 681 = some (.iload_n 3, 1, 0) ∧ ip_fetch 0 682 = some (.iconst 3, 1, 0) ∧ ip_fetch 0 683 = some (.iadd, 1, 0) := by decide +kernel
  obtain ⟨f15, f16, f17, f18, f19⟩ : ip_fetch 0 684 = some (.iaload, 1, 0) ∧ ip_fetch 0 685 = some (.invokevirtual 101, 3, 113) ∧ ip_fetch 0 688 = some (.aload_n 2, 1, 0) ∧ ip_fetch 0 689 = some (.aload_n 0, 1, 0) ∧ ip_fetch 0 690 = some (.iload_n 3, 1, 0) := by decide +kernel
  obtain ⟨f20, f21, f22, f23, f24⟩ : ip_fetch 0 691 = some (.iconst 1, 1, 0) ∧ ip_fetch 0 692 = some (.iadd, 1, 0) ∧ ip_fetch 0 693 = some (.iaload, 1, 0) ∧ ip_fetch 0 694 = some (.aload_n 0, 1, 0) ∧ ip_fetch 0 695 = some (.iload_n 3, 1, 0) := by decide +kernel
  obtain ⟨f25, f26, f27, f28, f29⟩ : ip_fetch 0 696 = some (.iconst 2, 1, 0) ∧ ip_fetch 0 697 = some (.iadd, 1, 0) ∧ ip_fetch 0 698 = some (.iaload, 1, 0) ∧ ip_fetch 0 699 = some (.aload_n 0, 1, 0) ∧ ip_fetch 0 700 = some (.iload_n 3, 1, 0) := by decide +kernel
  obtain ⟨f30, f31, f32, f33, f34⟩ : ip_fetch 0 701 = some (.iconst 3, 1, 0) ∧ ip_fetch 0 702 = some (.iadd, 1, 0) ∧ ip_fetch 0 703 = some (.iaload, 1, 0) ∧ ip_fetch 0 704 = some (.invokevirtual 104, 3, 211) ∧ ip_fetch 0 707 = some (.if_icmp .eq 392, 3, 1099) := by decide +kernel
  obtain ⟨_, hs0⟩ := lw_s0 t
  refine wl_ld1 f0 ?_
  refine wl_arg (a := 1) f1 f2 f3 f4 f5 (by omega) hL (lw_len t) ?_
  refine wl_arg (a := 2) f6 f7 f8 f9 f10 (by omega) hL (lw_len t) ?_
  refine wl_arg (a := 3) f11 f12 f13 f14 f15 (by omega) hL (lw_len t) ?_
  refine wl_cv (as := [.int (xs (i + 1)), .int (xs (i + 2)), .int (xs (i + 3))]) (lf := [.ref 0, .int (xs (i + 1)), .int (xs (i + 2)), .int (xs (i + 3))]) f16 hs0 rfl rfl rfl (Nat.le_of_ble_eq_true rfl) rfl ⟨rfl, rfl⟩ rfl ?_
  refine wp_seq (wp_kp (pr_note hI)) ?_
  rintro v M ⟨h, kp⟩
  obtain ⟨z, rfl, hlen, h⟩ := lc_midi h
  obtain ⟨_, hs1⟩ := kp.2 193 _ (lw_s1 t).choose_spec
  refine wl_ld2 f17 ?_
  refine wl_arg (a := 1) f18 f19 f20 f21 f22 (by omega) hL hlen ?_
  refine wl_arg (a := 2) f23 f24 f25 f26 f27 (by omega) hL hlen ?_
  refine wl_arg (a := 3) f28 f29 f30 f31 f32 (by omega) hL hlen ?_
  refine wl_cv (as := [.int (xs (i + 1)), .int (xs (i + 2)), .int (xs (i + 3))]) (lf := [.ref 193, .int (xs (i + 1)), .int (xs (i + 2)), .int (xs (i + 3))]) f33 hs1 rfl rfl rfl (Nat.le_of_ble_eq_true rfl) rfl ⟨rfl, rfl⟩ rfl ?_
  refine wp_seq h ?_
  rintro _ _ ⟨t', F', G', rfl, rfl, hI'⟩
  exact wl_eq f34 (hk _ _ _ hI')
theorem lc_22 (hL : L ≤ 2560) (hi : i + 5 ≤ L) (hI : INV t F G) (hk : ∀ t F G, INV t F G → wl L xs 1099 (lwL i) [] (hs t, F, G) lw_cs) : wl L xs 712 (lwL i) [] (hs t, F, G) lw_cs := by
  obtain ⟨f0, f1, f2, f3, f4⟩ : ip_fetch 0 712 = some (.aload_n 1, 1, 0) ∧ ip_fetch 0 713 = some (.aload_n 0, 1, 0) ∧ ip_fetch 0 714 = some (.iload_n 3, 1, 0) ∧ ip_fetch 0 715 = some (.iconst 1, 1, 0) ∧ ip_fetch 0 716 = some (.iadd, 1, 0) := by decide +kernel
  obtain ⟨f5, f6, f7, f8, f9⟩ : ip_fetch 0 717 = some (.iaload, 1, 0) ∧ ip_fetch 0 718 = some (.aload_n 0, 1, 0) ∧ ip_fetch 0 719 = some (.iload_n 3, 1, 0) ∧ ip_fetch 0 720 = some (.iconst 2, 1, 0) ∧ ip_fetch 0 721 = some (.iadd, 1, 0) := by decide +kernel
  obtain ⟨f10, f11, f12, f13, f14⟩ : ip_fetch 0 722 = some (.iaload, 1, 0) ∧ ip_fetch 0 723 = some (.aload_n 0, 1, 0) ∧ ip_fetch 0 724 = some (.iload_n 3, 1, 0) ∧ ip_fetch 0 725 = some (.iconst 3, 1, 0) ∧ ip_fetch 0 726 = some (.iadd, 1, 0) := by decide +kernel
  obtain ⟨f15, f16, f17, f18, f19⟩ : ip_fetch 0 727 = some (.iaload, 1, 0) ∧ ip_fetch 0 728 = some (.aload_n 0, 1, 0) ∧ ip_fetch 0 729 = some (.iload_n 3, 1, 0) ∧ ip_fetch 0 730 = some (.iconst 4, 1, 0) ∧ ip_fetch 0 731 = some (.iadd, 1, 0) := by decide +kernel
  obtain ⟨f20, f21, f22, f23, f24⟩ : ip_fetch 0 732 = some (.iaload, 1, 0) ∧ ip_fetch 0 733 = some (.invokevirtual 105, 3, 114) ∧ ip_fetch 0 736 = some (.aload_n 2, 1, 0) ∧ ip_fetch 0 737 = some (.aload_n 0, 1, 0) ∧ ip_fetch 0 738 = some (.iload_n 3, 1, 0) := by decide +kernel
  obtain ⟨f25, f26, f27, f28, f29⟩ : ip_fetch 0 739 = some (.iconst 1, 1, 0) ∧ ip_fetch 0 740 = some (.iadd, 1, 0) ∧ ip_fetch 0 741 = some (.iaload, 1, 0) ∧ ip_fetch 0 742 = some (.aload_n 0, 1, 0) ∧ ip_fetch 0 743 = some (.iload_n 3, 1, 0) := by decide +kernel
  obtain ⟨f30, f31, f32, f33, f34⟩ : ip_fetch 0 744 = some (.iconst 2, 1, 0) ∧ ip_fetch 0 745 = some (.iadd, 1, 0) ∧ ip_fetch 0 746 = some (.iaload, 1, 0) ∧ ip_fetch 0 747 = some (.aload_n 0, 1, 0) ∧ ip_fetch 0 748 = some (.iload_n 3, 1, 0) := by decide +kernel
  obtain ⟨f35, f36, f37, f38, f39⟩ : ip_fetch 0 749 = some (.iconst 3, 1, 0) ∧ ip_fetch 0 750 = some (.iadd, 1, 0) ∧ ip_fetch 0 751 = some (.iaload, 1, 0) ∧ ip_fetch 0 752 = some (.aload_n 0, 1, 0) ∧ ip_fetch 0 753 = some (.iload_n 3, 1, 0) := by decide +kernel
  obtain ⟨f40, f41, f42, f43, f44⟩ : ip_fetch 0 754 = some (.iconst 4, 1, 0) ∧ ip_fetch 0 755 = some (.iadd, 1, 0) ∧ ip_fetch 0 756 = some (.iaload, 1, 0) ∧ ip_fetch 0 757 = some (.invokevirtual 109, 3, 212) ∧ ip_fetch 0 760 = some (.if_icmp .eq 339, 3, 1099) := by decide +kernel
  obtain ⟨_, hs0⟩ := lw_s0 t
  refine wl_ld1 f0 ?_
  refine wl_arg (a := 1) f1 f2 f3 f4 f5 (by omega) hL (lw_len t) ?_
  refine wl_arg (a := 2) f6 f7 f8 f9 f10 (by omega) hL (lw_len t) ?_
  refine wl_arg (a := 3) f11 f12 f13 f14 f15 (by omega) hL (lw_len t) ?_
  refine wl_arg (a := 4) f16 f17 f18 f19 f20 (by omega) hL (lw_len t) ?_
  refine wl_cv (as := [.int (xs (i + 1)), .int (xs (i + 2)), .int (xs (i + 3)), .int (xs (i + 4))]) (lf := [.ref 0, .int (xs (i + 1)), .int (xs (i + 2)), .int (xs (i + 3)), .int (xs (i + 4))]) f21 hs0 rfl rfl rfl (Nat.le_of_ble_eq_true rfl) rfl ⟨rfl, rfl⟩ rfl ?_
  refine wp_seq (wp_kp (pr_mark hI)) ?_
  rintro v M ⟨h, kp⟩
  obtain ⟨z, rfl, hlen, h⟩ := lc_midi h
  obtain ⟨_, hs1⟩ := kp.2 193 _ (lw_s1 t).choose_spec
  refine wl_ld2 f22 ?_
  refine wl_arg (a := 1) f23 f24 f25 f26 f27 (by omega) hL hlen ?_
  refine wl_arg (a := 2) f28 f29 f30 f31 f32 (by omega) hL hlen ?_
  refine wl_arg (a := 3) f33 f34 f35 f36 f37 (by omega) hL hlen ?_
  refine wl_arg (a := 4) f38 f39 f40 f41 f42 (by omega) hL hlen ?_
  refine wl_cv (as := [.int (xs (i + 1)), .int (xs (i + 2)), .int (xs (i + 3)), .int (xs (i + 4))]) (lf := [.ref 193, .int (xs (i + 1)), .int (xs (i + 2)), .int (xs (i + 3)), .int (xs (i + 4))]) f43 hs1 rfl rfl rfl (Nat.le_of_ble_eq_true rfl) rfl ⟨rfl, rfl⟩ rfl ?_
  refine wp_seq h ?_
  rintro _ _ ⟨t', F', G', rfl, rfl, hI'⟩
  exact wl_eq f44 (hk _ _ _ hI')
theorem lc_23 (hL : L ≤ 2560) (hi : i + 5 ≤ L) (hI : INV t F G) (hk : ∀ t F G, INV t F G → wl L xs 1099 (lwL i) [] (hs t, F, G) lw_cs) : wl L xs 765 (lwL i) [] (hs t, F, G) lw_cs := by
  obtain ⟨f0, f1, f2, f3, f4⟩ : ip_fetch 0 765 = some (.aload_n 1, 1, 0) ∧ ip_fetch 0 766 = some (.aload_n 0, 1, 0) ∧ ip_fetch 0 767 = some (.iload_n 3, 1, 0) ∧ ip_fetch 0 768 = some (.iconst 1, 1, 0) ∧ ip_fetch 0 769 = some (.iadd, 1, 0) := by decide +kernel
  obtain ⟨f5, f6, f7, f8, f9⟩ : ip_fetch 0 770 = some (.iaload, 1, 0) ∧ ip_fetch 0 771 = some (.invokevirtual 110, 3, 115) ∧ ip_fetch 0 774 = some (.aload_n 2, 1, 0) ∧ ip_fetch 0 775 = some (.aload_n 0, 1, 0) ∧ ip_fetch 0 776 = some (.iload_n 3, 1, 0) := by decide +kernel
  obtain ⟨f10, f11, f12, f13, f14⟩ : ip_fetch 0 777 = some (.iconst 1, 1, 0) ∧ ip_fetch 0 778 = some (.iadd, 1, 0) ∧ ip_fetch 0 779 = some (.iaload, 1, 0) ∧ ip_fetch 0 780 = some (.invokevirtual 113, 3, 213) ∧ ip_fetch 0 783 = some (.if_icmp .eq 316, 3, 1099) := by decide +kernel
  obtain ⟨_, hs0⟩ := lw_s0 t
  refine wl_ld1 f0 ?_
  refine wl_arg (a := 1) f1 f2 f3 f4 f5 (by omega) hL (lw_len t) ?_
  refine wl_cv (as := [.int (xs (i + 1))]) (lf := [.ref 0, .int (xs (i + 1)), .float 0]) f6 hs0 rfl rfl rfl (Nat.le_of_ble_eq_true rfl) rfl ⟨rfl, rfl⟩ rfl ?_
  refine wp_seq (wp_kp (pr_forget hI)) ?_
  rintro v M ⟨h, kp⟩
  obtain ⟨z, rfl, hlen, h⟩ := lc_midi h
  obtain ⟨_, hs1⟩ := kp.2 193 _ (lw_s1 t).choose_spec
  refine wl_ld2 f7 ?_
  refine wl_arg (a := 1) f8 f9 f10 f11 f12 (by omega) hL hlen ?_
  refine wl_cv (as := [.int (xs (i + 1))]) (lf := [.ref 193, .int (xs (i + 1)), .float 0]) f13 hs1 rfl rfl rfl (Nat.le_of_ble_eq_true rfl) rfl ⟨rfl, rfl⟩ rfl ?_
  refine wp_seq h ?_
  rintro _ _ ⟨t', F', G', rfl, rfl, hI'⟩
  exact wl_eq f14 (hk _ _ _ hI')
theorem lc_24 (hL : L ≤ 2560) (hi : i + 5 ≤ L) (hI : INV t F G) (hk : ∀ t F G, INV t F G → wl L xs 1099 (lwL i) [] (hs t, F, G) lw_cs) : wl L xs 788 (lwL i) [] (hs t, F, G) lw_cs := by
  obtain ⟨f0, f1, f2, f3, f4⟩ : ip_fetch 0 788 = some (.aload_n 1, 1, 0) ∧ ip_fetch 0 789 = some (.aload_n 0, 1, 0) ∧ ip_fetch 0 790 = some (.iload_n 3, 1, 0) ∧ ip_fetch 0 791 = some (.iconst 1, 1, 0) ∧ ip_fetch 0 792 = some (.iadd, 1, 0) := by decide +kernel
  obtain ⟨f5, f6, f7, f8, f9⟩ : ip_fetch 0 793 = some (.iaload, 1, 0) ∧ ip_fetch 0 794 = some (.invokevirtual 114, 3, 116) ∧ ip_fetch 0 797 = some (.aload_n 2, 1, 0) ∧ ip_fetch 0 798 = some (.aload_n 0, 1, 0) ∧ ip_fetch 0 799 = some (.iload_n 3, 1, 0) := by decide +kernel
  obtain ⟨f10, f11, f12, f13, f14⟩ : ip_fetch 0 800 = some (.iconst 1, 1, 0) ∧ ip_fetch 0 801 = some (.iadd, 1, 0) ∧ ip_fetch 0 802 = some (.iaload, 1, 0) ∧ ip_fetch 0 803 = some (.invokevirtual 117, 3, 216) ∧ ip_fetch 0 806 = some (.if_icmp .eq 293, 3, 1099) := by decide +kernel
  obtain ⟨_, hs0⟩ := lw_s0 t
  refine wl_ld1 f0 ?_
  refine wl_arg (a := 1) f1 f2 f3 f4 f5 (by omega) hL (lw_len t) ?_
  refine wl_cv (as := [.int (xs (i + 1))]) (lf := [.ref 0, .int (xs (i + 1))]) f6 hs0 rfl rfl rfl (Nat.le_of_ble_eq_true rfl) rfl ⟨rfl, rfl⟩ rfl ?_
  refine wp_seq (wp_kp (pr_is hI)) ?_
  rintro v M ⟨h, kp⟩
  obtain ⟨z, rfl, hlen, h⟩ := lc_midi h
  obtain ⟨_, hs1⟩ := kp.2 193 _ (lw_s1 t).choose_spec
  refine wl_ld2 f7 ?_
  refine wl_arg (a := 1) f8 f9 f10 f11 f12 (by omega) hL hlen ?_
  refine wl_cv (as := [.int (xs (i + 1))]) (lf := [.ref 193, .int (xs (i + 1))]) f13 hs1 rfl rfl rfl (Nat.le_of_ble_eq_true rfl) rfl ⟨rfl, rfl⟩ rfl ?_
  refine wp_seq h ?_
  rintro _ _ ⟨t', F', G', rfl, rfl, hI'⟩
  exact wl_eq f14 (hk _ _ _ hI')
theorem lc_25 (hL : L ≤ 2560) (hi : i + 5 ≤ L) (hI : INV t F G) (hk : ∀ t F G, INV t F G → wl L xs 1099 (lwL i) [] (hs t, F, G) lw_cs) : wl L xs 811 (lwL i) [] (hs t, F, G) lw_cs := by
  obtain ⟨f0, f1, f2, f3, f4⟩ : ip_fetch 0 811 = some (.aload_n 1, 1, 0) ∧ ip_fetch 0 812 = some (.aload_n 0, 1, 0) ∧ ip_fetch 0 813 = some (.iload_n 3, 1, 0) ∧ ip_fetch 0 814 = some (.iconst 1, 1, 0) ∧ ip_fetch 0 815 = some (.iadd, 1, 0) := by decide +kernel
  obtain ⟨f5, f6, f7, f8, f9⟩ : ip_fetch 0 816 = some (.iaload, 1, 0) ∧ ip_fetch 0 817 = some (.invokevirtual 118, 3, 117) ∧ ip_fetch 0 820 = some (.aload_n 2, 1, 0) ∧ ip_fetch 0 821 = some (.aload_n 0, 1, 0) ∧ ip_fetch 0 822 = some (.iload_n 3, 1, 0) := by decide +kernel
  obtain ⟨f10, f11, f12, f13, f14⟩ : ip_fetch 0 823 = some (.iconst 1, 1, 0) ∧ ip_fetch 0 824 = some (.iadd, 1, 0) ∧ ip_fetch 0 825 = some (.iaload, 1, 0) ∧ ip_fetch 0 826 = some (.invokevirtual 121, 3, 218) ∧ ip_fetch 0 829 = some (.if_icmp .eq 270, 3, 1099) := by decide +kernel
  obtain ⟨_, hs0⟩ := lw_s0 t
  refine wl_ld1 f0 ?_
  refine wl_arg (a := 1) f1 f2 f3 f4 f5 (by omega) hL (lw_len t) ?_
  refine wl_cv (as := [.int (xs (i + 1))]) (lf := [.ref 0, .int (xs (i + 1))]) f6 hs0 rfl rfl rfl (Nat.le_of_ble_eq_true rfl) rfl ⟨rfl, rfl⟩ rfl ?_
  refine wp_seq (wp_kp (pr_look hI)) ?_
  rintro v M ⟨h, kp⟩
  obtain ⟨z, rfl, hlen, h⟩ := lc_midi h
  obtain ⟨_, hs1⟩ := kp.2 193 _ (lw_s1 t).choose_spec
  refine wl_ld2 f7 ?_
  refine wl_arg (a := 1) f8 f9 f10 f11 f12 (by omega) hL hlen ?_
  refine wl_cv (as := [.int (xs (i + 1))]) (lf := [.ref 193, .int (xs (i + 1)), .float 0, .float 0, .float 0, .float 0, .float 0, .float 0, .float 0, .float 0]) f13 hs1 rfl rfl rfl (Nat.le_of_ble_eq_true rfl) rfl ⟨rfl, rfl⟩ rfl ?_
  refine wp_seq h ?_
  rintro _ _ ⟨t', F', G', rfl, rfl, hI'⟩
  exact wl_eq f14 (hk _ _ _ hI')
theorem lc_26 (hL : L ≤ 2560) (hi : i + 5 ≤ L) (hI : INV t F G) (hk : ∀ t F G, INV t F G → wl L xs 1099 (lwL i) [] (hs t, F, G) lw_cs) : wl L xs 834 (lwL i) [] (hs t, F, G) lw_cs := by
  obtain ⟨f0, f1, f2, f3, f4⟩ : ip_fetch 0 834 = some (.aload_n 1, 1, 0) ∧ ip_fetch 0 835 = some (.aload_n 0, 1, 0) ∧ ip_fetch 0 836 = some (.iload_n 3, 1, 0) ∧ ip_fetch 0 837 = some (.iconst 1, 1, 0) ∧ ip_fetch 0 838 = some (.iadd, 1, 0) := by decide +kernel
  obtain ⟨f5, f6, f7, f8, f9⟩ : ip_fetch 0 839 = some (.iaload, 1, 0) ∧ ip_fetch 0 840 = some (.invokevirtual 122, 3, 118) ∧ ip_fetch 0 843 = some (.aload_n 2, 1, 0) ∧ ip_fetch 0 844 = some (.aload_n 0, 1, 0) ∧ ip_fetch 0 845 = some (.iload_n 3, 1, 0) := by decide +kernel
  obtain ⟨f10, f11, f12, f13, f14⟩ : ip_fetch 0 846 = some (.iconst 1, 1, 0) ∧ ip_fetch 0 847 = some (.iadd, 1, 0) ∧ ip_fetch 0 848 = some (.iaload, 1, 0) ∧ ip_fetch 0 849 = some (.invokevirtual 125, 3, 217) ∧ ip_fetch 0 852 = some (.if_icmp .eq 247, 3, 1099) := by decide +kernel
  obtain ⟨_, hs0⟩ := lw_s0 t
  refine wl_ld1 f0 ?_
  refine wl_arg (a := 1) f1 f2 f3 f4 f5 (by omega) hL (lw_len t) ?_
  refine wl_cv (as := [.int (xs (i + 1))]) (lf := [.ref 0, .int (xs (i + 1))]) f6 hs0 rfl rfl rfl (Nat.le_of_ble_eq_true rfl) rfl ⟨rfl, rfl⟩ rfl ?_
  refine wp_seq (wp_kp (pr_kinds hI)) ?_
  rintro v M ⟨h, kp⟩
  obtain ⟨z, rfl, hlen, h⟩ := lc_midi h
  obtain ⟨_, hs1⟩ := kp.2 193 _ (lw_s1 t).choose_spec
  refine wl_ld2 f7 ?_
  refine wl_arg (a := 1) f8 f9 f10 f11 f12 (by omega) hL hlen ?_
  refine wl_cv (as := [.int (xs (i + 1))]) (lf := [.ref 193, .int (xs (i + 1))]) f13 hs1 rfl rfl rfl (Nat.le_of_ble_eq_true rfl) rfl ⟨rfl, rfl⟩ rfl ?_
  refine wp_seq h ?_
  rintro _ _ ⟨t', F', G', rfl, rfl, hI'⟩
  exact wl_eq f14 (hk _ _ _ hI')
theorem lc_27 (hL : L ≤ 2560) (hi : i + 5 ≤ L) (hI : INV t F G) (hk : ∀ t F G, INV t F G → wl L xs 1099 (lwL i) [] (hs t, F, G) lw_cs) : wl L xs 857 (lwL i) [] (hs t, F, G) lw_cs := by
  obtain ⟨f0, f1, f2, f3, f4⟩ : ip_fetch 0 857 = some (.aload_n 1, 1, 0) ∧ ip_fetch 0 858 = some (.aload_n 0, 1, 0) ∧ ip_fetch 0 859 = some (.iload_n 3, 1, 0) ∧ ip_fetch 0 860 = some (.iconst 1, 1, 0) ∧ ip_fetch 0 861 = some (.iadd, 1, 0) := by decide +kernel
  obtain ⟨f5, f6, f7, f8, f9⟩ : ip_fetch 0 862 = some (.iaload, 1, 0) ∧ ip_fetch 0 863 = some (.invokevirtual 126, 3, 119) ∧ ip_fetch 0 866 = some (.aload_n 2, 1, 0) ∧ ip_fetch 0 867 = some (.aload_n 0, 1, 0) ∧ ip_fetch 0 868 = some (.iload_n 3, 1, 0) := by decide +kernel
  obtain ⟨f10, f11, f12, f13, f14⟩ : ip_fetch 0 869 = some (.iconst 1, 1, 0) ∧ ip_fetch 0 870 = some (.iadd, 1, 0) ∧ ip_fetch 0 871 = some (.iaload, 1, 0) ∧ ip_fetch 0 872 = some (.invokevirtual 129, 3, 219) ∧ ip_fetch 0 875 = some (.if_icmp .eq 224, 3, 1099) := by decide +kernel
  obtain ⟨_, hs0⟩ := lw_s0 t
  refine wl_ld1 f0 ?_
  refine wl_arg (a := 1) f1 f2 f3 f4 f5 (by omega) hL (lw_len t) ?_
  refine wl_cv (as := [.int (xs (i + 1))]) (lf := [.ref 0, .int (xs (i + 1))]) f6 hs0 rfl rfl rfl (Nat.le_of_ble_eq_true rfl) rfl ⟨rfl, rfl⟩ rfl ?_
  refine wp_seq (wp_kp (pr_ask hI)) ?_
  rintro v M ⟨h, kp⟩
  obtain ⟨z, rfl, hlen, h⟩ := lc_midi h
  obtain ⟨_, hs1⟩ := kp.2 193 _ (lw_s1 t).choose_spec
  refine wl_ld2 f7 ?_
  refine wl_arg (a := 1) f8 f9 f10 f11 f12 (by omega) hL hlen ?_
  refine wl_cv (as := [.int (xs (i + 1))]) (lf := [.ref 193, .int (xs (i + 1)), .float 0, .float 0, .float 0, .float 0, .float 0, .float 0, .float 0]) f13 hs1 rfl rfl rfl (Nat.le_of_ble_eq_true rfl) rfl ⟨rfl, rfl⟩ rfl ?_
  refine wp_seq h ?_
  rintro _ _ ⟨t', F', G', rfl, rfl, hI'⟩
  exact wl_eq f14 (hk _ _ _ hI')
theorem lc_28 (hL : L ≤ 2560) (hi : i + 5 ≤ L) (hI : INV t F G) (hk : ∀ t F G, INV t F G → wl L xs 1099 (lwL i) [] (hs t, F, G) lw_cs) : wl L xs 880 (lwL i) [] (hs t, F, G) lw_cs := by
  obtain ⟨f0, f1, f2, f3, f4⟩ : ip_fetch 0 880 = some (.aload_n 1, 1, 0) ∧ ip_fetch 0 881 = some (.aload_n 0, 1, 0) ∧ ip_fetch 0 882 = some (.iload_n 3, 1, 0) ∧ ip_fetch 0 883 = some (.iconst 1, 1, 0) ∧ ip_fetch 0 884 = some (.iadd, 1, 0) := by decide +kernel
  obtain ⟨f5, f6, f7, f8, f9⟩ : ip_fetch 0 885 = some (.iaload, 1, 0) ∧ ip_fetch 0 886 = some (.aload_n 0, 1, 0) ∧ ip_fetch 0 887 = some (.iload_n 3, 1, 0) ∧ ip_fetch 0 888 = some (.iconst 2, 1, 0) ∧ ip_fetch 0 889 = some (.iadd, 1, 0) := by decide +kernel
  obtain ⟨f10, f11, f12, f13, f14⟩ : ip_fetch 0 890 = some (.iaload, 1, 0) ∧ ip_fetch 0 891 = some (.invokevirtual 130, 3, 120) ∧ ip_fetch 0 894 = some (.aload_n 2, 1, 0) ∧ ip_fetch 0 895 = some (.aload_n 0, 1, 0) ∧ ip_fetch 0 896 = some (.iload_n 3, 1, 0) := by decide +kernel
  obtain ⟨f15, f16, f17, f18, f19⟩ : ip_fetch 0 897 = some (.iconst 1, 1, 0) ∧ ip_fetch 0 898 = some (.iadd, 1, 0) ∧ ip_fetch 0 899 = some (.iaload, 1, 0) ∧ ip_fetch 0 900 = some (.aload_n 0, 1, 0) ∧ ip_fetch 0 901 = some (.iload_n 3, 1, 0) := by decide +kernel
  obtain ⟨f20, f21, f22, f23, f24⟩ : ip_fetch 0 902 = some (.iconst 2, 1, 0) ∧ ip_fetch 0 903 = some (.iadd, 1, 0) ∧ ip_fetch 0 904 = some (.iaload, 1, 0) ∧ ip_fetch 0 905 = some (.invokevirtual 133, 3, 222) ∧ ip_fetch 0 908 = some (.if_icmp .eq 191, 3, 1099) := by decide +kernel
  obtain ⟨_, hs0⟩ := lw_s0 t
  refine wl_ld1 f0 ?_
  refine wl_arg (a := 1) f1 f2 f3 f4 f5 (by omega) hL (lw_len t) ?_
  refine wl_arg (a := 2) f6 f7 f8 f9 f10 (by omega) hL (lw_len t) ?_
  refine wl_cv (as := [.int (xs (i + 1)), .int (xs (i + 2))]) (lf := [.ref 0, .int (xs (i + 1)), .int (xs (i + 2))]) f11 hs0 rfl rfl rfl (Nat.le_of_ble_eq_true rfl) rfl ⟨rfl, rfl⟩ rfl ?_
  refine wp_seq (wp_kp (pr_lends hI)) ?_
  rintro v M ⟨h, kp⟩
  obtain ⟨z, rfl, hlen, h⟩ := lc_midi h
  obtain ⟨_, hs1⟩ := kp.2 193 _ (lw_s1 t).choose_spec
  refine wl_ld2 f12 ?_
  refine wl_arg (a := 1) f13 f14 f15 f16 f17 (by omega) hL hlen ?_
  refine wl_arg (a := 2) f18 f19 f20 f21 f22 (by omega) hL hlen ?_
  refine wl_cv (as := [.int (xs (i + 1)), .int (xs (i + 2))]) (lf := [.ref 193, .int (xs (i + 1)), .int (xs (i + 2)), .float 0, .float 0, .float 0]) f23 hs1 rfl rfl rfl (Nat.le_of_ble_eq_true rfl) rfl ⟨rfl, rfl⟩ rfl ?_
  refine wp_seq h ?_
  rintro _ _ ⟨t', F', G', rfl, rfl, hI'⟩
  exact wl_eq f24 (hk _ _ _ hI')
theorem lc_29 (hL : L ≤ 2560) (hi : i + 5 ≤ L) (hI : INV t F G) (hk : ∀ t F G, INV t F G → wl L xs 1099 (lwL i) [] (hs t, F, G) lw_cs) : wl L xs 913 (lwL i) [] (hs t, F, G) lw_cs := by
  obtain ⟨f0, f1, f2, f3, f4⟩ : ip_fetch 0 913 = some (.aload_n 1, 1, 0) ∧ ip_fetch 0 914 = some (.aload_n 0, 1, 0) ∧ ip_fetch 0 915 = some (.iload_n 3, 1, 0) ∧ ip_fetch 0 916 = some (.iconst 1, 1, 0) ∧ ip_fetch 0 917 = some (.iadd, 1, 0) := by decide +kernel
  obtain ⟨f5, f6, f7, f8, f9⟩ : ip_fetch 0 918 = some (.iaload, 1, 0) ∧ ip_fetch 0 919 = some (.invokevirtual 134, 3, 121) ∧ ip_fetch 0 922 = some (.aload_n 2, 1, 0) ∧ ip_fetch 0 923 = some (.aload_n 0, 1, 0) ∧ ip_fetch 0 924 = some (.iload_n 3, 1, 0) := by decide +kernel
  obtain ⟨f10, f11, f12, f13, f14⟩ : ip_fetch 0 925 = some (.iconst 1, 1, 0) ∧ ip_fetch 0 926 = some (.iadd, 1, 0) ∧ ip_fetch 0 927 = some (.iaload, 1, 0) ∧ ip_fetch 0 928 = some (.invokevirtual 137, 3, 224) ∧ ip_fetch 0 931 = some (.if_icmp .eq 168, 3, 1099) := by decide +kernel
  obtain ⟨_, hs0⟩ := lw_s0 t
  refine wl_ld1 f0 ?_
  refine wl_arg (a := 1) f1 f2 f3 f4 f5 (by omega) hL (lw_len t) ?_
  refine wl_cv (as := [.int (xs (i + 1))]) (lf := [.ref 0, .int (xs (i + 1)), .float 0, .float 0, .float 0, .float 0, .float 0, .float 0]) f6 hs0 rfl rfl rfl (Nat.le_of_ble_eq_true rfl) rfl ⟨rfl, rfl⟩ rfl ?_
  refine wp_seq (wp_kp (pr_odds hI)) ?_
  rintro v M ⟨h, kp⟩
  obtain ⟨z, rfl, hlen, h⟩ := lc_midi h
  obtain ⟨_, hs1⟩ := kp.2 193 _ (lw_s1 t).choose_spec
  refine wl_ld2 f7 ?_
  refine wl_arg (a := 1) f8 f9 f10 f11 f12 (by omega) hL hlen ?_
  refine wl_cv (as := [.int (xs (i + 1))]) (lf := [.ref 193, .int (xs (i + 1)), .float 0, .float 0, .float 0, .float 0, .float 0, .float 0, .float 0, .float 0, .float 0]) f13 hs1 rfl rfl rfl (Nat.le_of_ble_eq_true rfl) rfl ⟨rfl, rfl⟩ rfl ?_
  refine wp_seq h ?_
  rintro _ _ ⟨t', F', G', rfl, rfl, hI'⟩
  exact wl_eq f14 (hk _ _ _ hI')
theorem lc_30 (hL : L ≤ 2560) (hi : i + 5 ≤ L) (hI : INV t F G) (hk : ∀ t F G, INV t F G → wl L xs 1099 (lwL i) [] (hs t, F, G) lw_cs) : wl L xs 936 (lwL i) [] (hs t, F, G) lw_cs := by
  obtain ⟨f0, f1, f2, f3, f4⟩ : ip_fetch 0 936 = some (.aload_n 1, 1, 0) ∧ ip_fetch 0 937 = some (.aload_n 0, 1, 0) ∧ ip_fetch 0 938 = some (.iload_n 3, 1, 0) ∧ ip_fetch 0 939 = some (.iconst 1, 1, 0) ∧ ip_fetch 0 940 = some (.iadd, 1, 0) := by decide +kernel
  obtain ⟨f5, f6, f7, f8, f9⟩ : ip_fetch 0 941 = some (.iaload, 1, 0) ∧ ip_fetch 0 942 = some (.aload_n 0, 1, 0) ∧ ip_fetch 0 943 = some (.iload_n 3, 1, 0) ∧ ip_fetch 0 944 = some (.iconst 2, 1, 0) ∧ ip_fetch 0 945 = some (.iadd, 1, 0) := by decide +kernel
  obtain ⟨f10, f11, f12, f13, f14⟩ : ip_fetch 0 946 = some (.iaload, 1, 0) ∧ ip_fetch 0 947 = some (.invokevirtual 138, 3, 122) ∧ ip_fetch 0 950 = some (.aload_n 2, 1, 0) ∧ ip_fetch 0 951 = some (.aload_n 0, 1, 0) ∧ ip_fetch 0 952 = some (.iload_n 3, 1, 0) := by decide +kernel
  obtain ⟨f15, f16, f17, f18, f19⟩ : ip_fetch 0 953 = some (.iconst 1, 1, 0) ∧ ip_fetch 0 954 = some (.iadd, 1, 0) ∧ ip_fetch 0 955 = some (.iaload, 1, 0) ∧ ip_fetch 0 956 = some (.aload_n 0, 1, 0) ∧ ip_fetch 0 957 = some (.iload_n 3, 1, 0) := by decide +kernel
  obtain ⟨f20, f21, f22, f23, f24⟩ : ip_fetch 0 958 = some (.iconst 2, 1, 0) ∧ ip_fetch 0 959 = some (.iadd, 1, 0) ∧ ip_fetch 0 960 = some (.iaload, 1, 0) ∧ ip_fetch 0 961 = some (.invokevirtual 141, 3, 225) ∧ ip_fetch 0 964 = some (.if_icmp .eq 135, 3, 1099) := by decide +kernel
  obtain ⟨_, hs0⟩ := lw_s0 t
  refine wl_ld1 f0 ?_
  refine wl_arg (a := 1) f1 f2 f3 f4 f5 (by omega) hL (lw_len t) ?_
  refine wl_arg (a := 2) f6 f7 f8 f9 f10 (by omega) hL (lw_len t) ?_
  refine wl_cv (as := [.int (xs (i + 1)), .int (xs (i + 2))]) (lf := [.ref 0, .int (xs (i + 1)), .int (xs (i + 2))]) f11 hs0 rfl rfl rfl (Nat.le_of_ble_eq_true rfl) rfl ⟨rfl, rfl⟩ rfl ?_
  refine wp_seq (wp_kp (pr_weddings hI)) ?_
  rintro v M ⟨h, kp⟩
  obtain ⟨z, rfl, hlen, h⟩ := lc_midi h
  obtain ⟨_, hs1⟩ := kp.2 193 _ (lw_s1 t).choose_spec
  refine wl_ld2 f12 ?_
  refine wl_arg (a := 1) f13 f14 f15 f16 f17 (by omega) hL hlen ?_
  refine wl_arg (a := 2) f18 f19 f20 f21 f22 (by omega) hL hlen ?_
  refine wl_cv (as := [.int (xs (i + 1)), .int (xs (i + 2))]) (lf := [.ref 193, .int (xs (i + 1)), .int (xs (i + 2)), .float 0, .float 0, .float 0, .float 0, .float 0]) f23 hs1 rfl rfl rfl (Nat.le_of_ble_eq_true rfl) rfl ⟨rfl, rfl⟩ rfl ?_
  refine wp_seq h ?_
  rintro _ _ ⟨t', F', G', rfl, rfl, hI'⟩
  exact wl_eq f24 (hk _ _ _ hI')
theorem lc_31 (hL : L ≤ 2560) (hi : i + 5 ≤ L) (hI : INV t F G) (hk : ∀ t F G, INV t F G → wl L xs 1099 (lwL i) [] (hs t, F, G) lw_cs) : wl L xs 969 (lwL i) [] (hs t, F, G) lw_cs := by
  obtain ⟨f0, f1, f2, f3, f4⟩ : ip_fetch 0 969 = some (.aload_n 1, 1, 0) ∧ ip_fetch 0 970 = some (.aload_n 0, 1, 0) ∧ ip_fetch 0 971 = some (.iload_n 3, 1, 0) ∧ ip_fetch 0 972 = some (.iconst 1, 1, 0) ∧ ip_fetch 0 973 = some (.iadd, 1, 0) := by decide +kernel
  obtain ⟨f5, f6, f7, f8, f9⟩ : ip_fetch 0 974 = some (.iaload, 1, 0) ∧ ip_fetch 0 975 = some (.invokevirtual 142, 3, 123) ∧ ip_fetch 0 978 = some (.aload_n 2, 1, 0) ∧ ip_fetch 0 979 = some (.aload_n 0, 1, 0) ∧ ip_fetch 0 980 = some (.iload_n 3, 1, 0) := by decide +kernel
  obtain ⟨f10, f11, f12, f13, f14⟩ : ip_fetch 0 981 = some (.iconst 1, 1, 0) ∧ ip_fetch 0 982 = some (.iadd, 1, 0) ∧ ip_fetch 0 983 = some (.iaload, 1, 0) ∧ ip_fetch 0 984 = some (.invokevirtual 146, 3, 226) ∧ ip_fetch 0 987 = some (.lcmp, 1, 0) := by decide +kernel
  obtain f15 : ip_fetch 0 988 = some (.ifCond .eq 111, 3, 1099) := by decide +kernel
  obtain ⟨_, hs0⟩ := lw_s0 t
  refine wl_ld1 f0 ?_
  refine wl_arg (a := 1) f1 f2 f3 f4 f5 (by omega) hL (lw_len t) ?_
  refine wl_cv (as := [.int (xs (i + 1))]) (lf := [.ref 0, .int (xs (i + 1))]) f6 hs0 rfl rfl rfl (Nat.le_of_ble_eq_true rfl) rfl ⟨rfl, rfl⟩ rfl ?_
  refine wp_seq (wp_kp (pr_part hI)) ?_
  rintro v M ⟨h, kp⟩
  obtain ⟨z, rfl, hlen, h⟩ := lc_midl h
  obtain ⟨_, hs1⟩ := kp.2 193 _ (lw_s1 t).choose_spec
  refine wl_ld2 f7 ?_
  refine wl_arg (a := 1) f8 f9 f10 f11 f12 (by omega) hL hlen ?_
  refine wl_cv (as := [.int (xs (i + 1))]) (lf := [.ref 193, .int (xs (i + 1))]) f13 hs1 rfl rfl rfl (Nat.le_of_ble_eq_true rfl) rfl ⟨rfl, rfl⟩ rfl ?_
  refine wp_seq h ?_
  rintro _ _ ⟨t', F', G', rfl, rfl, hI'⟩
  exact wl_leq f14 f15 (hk _ _ _ hI')
theorem lc_32 (hL : L ≤ 2560) (hi : i + 5 ≤ L) (hI : INV t F G) (hk : ∀ t F G, INV t F G → wl L xs 1099 (lwL i) [] (hs t, F, G) lw_cs) : wl L xs 993 (lwL i) [] (hs t, F, G) lw_cs := by
  obtain ⟨f0, f1, f2, f3, f4⟩ : ip_fetch 0 993 = some (.aload_n 1, 1, 0) ∧ ip_fetch 0 994 = some (.aload_n 0, 1, 0) ∧ ip_fetch 0 995 = some (.iload_n 3, 1, 0) ∧ ip_fetch 0 996 = some (.iconst 1, 1, 0) ∧ ip_fetch 0 997 = some (.iadd, 1, 0) := by decide +kernel
  obtain ⟨f5, f6, f7, f8, f9⟩ : ip_fetch 0 998 = some (.iaload, 1, 0) ∧ ip_fetch 0 999 = some (.invokevirtual 147, 3, 124) ∧ ip_fetch 0 1002 = some (.aload_n 2, 1, 0) ∧ ip_fetch 0 1003 = some (.aload_n 0, 1, 0) ∧ ip_fetch 0 1004 = some (.iload_n 3, 1, 0) := by decide +kernel
  obtain ⟨f10, f11, f12, f13, f14⟩ : ip_fetch 0 1005 = some (.iconst 1, 1, 0) ∧ ip_fetch 0 1006 = some (.iadd, 1, 0) ∧ ip_fetch 0 1007 = some (.iaload, 1, 0) ∧ ip_fetch 0 1008 = some (.invokevirtual 150, 3, 229) ∧ ip_fetch 0 1011 = some (.if_icmp .eq 88, 3, 1099) := by decide +kernel
  obtain ⟨_, hs0⟩ := lw_s0 t
  refine wl_ld1 f0 ?_
  refine wl_arg (a := 1) f1 f2 f3 f4 f5 (by omega) hL (lw_len t) ?_
  refine wl_cv (as := [.int (xs (i + 1))]) (lf := [.ref 0, .int (xs (i + 1))]) f6 hs0 rfl rfl rfl (Nat.le_of_ble_eq_true rfl) rfl ⟨rfl, rfl⟩ rfl ?_
  refine wp_seq (wp_kp (pr_image hI)) ?_
  rintro v M ⟨h, kp⟩
  obtain ⟨z, rfl, hlen, h⟩ := lc_midi h
  obtain ⟨_, hs1⟩ := kp.2 193 _ (lw_s1 t).choose_spec
  refine wl_ld2 f7 ?_
  refine wl_arg (a := 1) f8 f9 f10 f11 f12 (by omega) hL hlen ?_
  refine wl_cv (as := [.int (xs (i + 1))]) (lf := [.ref 193, .int (xs (i + 1))]) f13 hs1 rfl rfl rfl (Nat.le_of_ble_eq_true rfl) rfl ⟨rfl, rfl⟩ rfl ?_
  refine wp_seq h ?_
  rintro _ _ ⟨t', F', G', rfl, rfl, hI'⟩
  exact wl_eq f14 (hk _ _ _ hI')
theorem lc_33 (hL : L ≤ 2560) (hi : i + 5 ≤ L) (hI : INV t F G) (hk : ∀ t F G, INV t F G → wl L xs 1099 (lwL i) [] (hs t, F, G) lw_cs) : wl L xs 1016 (lwL i) [] (hs t, F, G) lw_cs := by
  obtain ⟨f0, f1, f2, f3, f4⟩ : ip_fetch 0 1016 = some (.aload_n 1, 1, 0) ∧ ip_fetch 0 1017 = some (.aload_n 0, 1, 0) ∧ ip_fetch 0 1018 = some (.iload_n 3, 1, 0) ∧ ip_fetch 0 1019 = some (.iconst 1, 1, 0) ∧ ip_fetch 0 1020 = some (.iadd, 1, 0) := by decide +kernel
  obtain ⟨f5, f6, f7, f8, f9⟩ : ip_fetch 0 1021 = some (.iaload, 1, 0) ∧ ip_fetch 0 1022 = some (.invokevirtual 151, 3, 125) ∧ ip_fetch 0 1025 = some (.aload_n 2, 1, 0) ∧ ip_fetch 0 1026 = some (.aload_n 0, 1, 0) ∧ ip_fetch 0 1027 = some (.iload_n 3, 1, 0) := by decide +kernel
  obtain ⟨f10, f11, f12, f13, f14⟩ : ip_fetch 0 1028 = some (.iconst 1, 1, 0) ∧ ip_fetch 0 1029 = some (.iadd, 1, 0) ∧ ip_fetch 0 1030 = some (.iaload, 1, 0) ∧ ip_fetch 0 1031 = some (.invokevirtual 154, 3, 230) ∧ ip_fetch 0 1034 = some (.if_icmp .eq 65, 3, 1099) := by decide +kernel
  obtain ⟨_, hs0⟩ := lw_s0 t
  refine wl_ld1 f0 ?_
  refine wl_arg (a := 1) f1 f2 f3 f4 f5 (by omega) hL (lw_len t) ?_
  refine wl_cv (as := [.int (xs (i + 1))]) (lf := [.ref 0, .int (xs (i + 1))]) f6 hs0 rfl rfl rfl (Nat.le_of_ble_eq_true rfl) rfl ⟨rfl, rfl⟩ rfl ?_
  refine wp_seq (wp_kp (pr_from hI)) ?_
  rintro v M ⟨h, kp⟩
  obtain ⟨z, rfl, hlen, h⟩ := lc_midi h
  obtain ⟨_, hs1⟩ := kp.2 193 _ (lw_s1 t).choose_spec
  refine wl_ld2 f7 ?_
  refine wl_arg (a := 1) f8 f9 f10 f11 f12 (by omega) hL hlen ?_
  refine wl_cv (as := [.int (xs (i + 1))]) (lf := [.ref 193, .int (xs (i + 1))]) f13 hs1 rfl rfl rfl (Nat.le_of_ble_eq_true rfl) rfl ⟨rfl, rfl⟩ rfl ?_
  refine wp_seq h ?_
  rintro _ _ ⟨t', F', G', rfl, rfl, hI'⟩
  exact wl_eq f14 (hk _ _ _ hI')
theorem lc_34 (hL : L ≤ 2560) (hi : i + 5 ≤ L) (hI : INV t F G) (hk : ∀ t F G, INV t F G → wl L xs 1099 (lwL i) [] (hs t, F, G) lw_cs) : wl L xs 1039 (lwL i) [] (hs t, F, G) lw_cs := by
  obtain ⟨f0, f1, f2, f3, f4⟩ : ip_fetch 0 1039 = some (.aload_n 1, 1, 0) ∧ ip_fetch 0 1040 = some (.aload_n 0, 1, 0) ∧ ip_fetch 0 1041 = some (.iload_n 3, 1, 0) ∧ ip_fetch 0 1042 = some (.iconst 1, 1, 0) ∧ ip_fetch 0 1043 = some (.iadd, 1, 0) := by decide +kernel
  obtain ⟨f5, f6, f7, f8, f9⟩ : ip_fetch 0 1044 = some (.iaload, 1, 0) ∧ ip_fetch 0 1045 = some (.invokevirtual 155, 3, 126) ∧ ip_fetch 0 1048 = some (.aload_n 2, 1, 0) ∧ ip_fetch 0 1049 = some (.aload_n 0, 1, 0) ∧ ip_fetch 0 1050 = some (.iload_n 3, 1, 0) := by decide +kernel
  obtain ⟨f10, f11, f12, f13, f14⟩ : ip_fetch 0 1051 = some (.iconst 1, 1, 0) ∧ ip_fetch 0 1052 = some (.iadd, 1, 0) ∧ ip_fetch 0 1053 = some (.iaload, 1, 0) ∧ ip_fetch 0 1054 = some (.invokevirtual 158, 3, 231) ∧ ip_fetch 0 1057 = some (.if_icmp .eq 42, 3, 1099) := by decide +kernel
  obtain ⟨_, hs0⟩ := lw_s0 t
  refine wl_ld1 f0 ?_
  refine wl_arg (a := 1) f1 f2 f3 f4 f5 (by omega) hL (lw_len t) ?_
  refine wl_cv (as := [.int (xs (i + 1))]) (lf := [.ref 0, .int (xs (i + 1))]) f6 hs0 rfl rfl rfl (Nat.le_of_ble_eq_true rfl) rfl ⟨rfl, rfl⟩ rfl ?_
  refine wp_seq (wp_kp (pr_status hI)) ?_
  rintro v M ⟨h, kp⟩
  obtain ⟨z, rfl, hlen, h⟩ := lc_midi h
  obtain ⟨_, hs1⟩ := kp.2 193 _ (lw_s1 t).choose_spec
  refine wl_ld2 f7 ?_
  refine wl_arg (a := 1) f8 f9 f10 f11 f12 (by omega) hL hlen ?_
  refine wl_cv (as := [.int (xs (i + 1))]) (lf := [.ref 193, .int (xs (i + 1))]) f13 hs1 rfl rfl rfl (Nat.le_of_ble_eq_true rfl) rfl ⟨rfl, rfl⟩ rfl ?_
  refine wp_seq h ?_
  rintro _ _ ⟨t', F', G', rfl, rfl, hI'⟩
  exact wl_eq f14 (hk _ _ _ hI')
theorem lc_35 (hL : L ≤ 2560) (hi : i + 5 ≤ L) (hI : INV t F G) (hk : ∀ t F G, INV t F G → wl L xs 1099 (lwL i) [] (hs t, F, G) lw_cs) : wl L xs 1062 (lwL i) [] (hs t, F, G) lw_cs := by
  obtain ⟨f0, f1, f2, f3, f4⟩ : ip_fetch 0 1062 = some (.aload_n 1, 1, 0) ∧ ip_fetch 0 1063 = some (.aload_n 0, 1, 0) ∧ ip_fetch 0 1064 = some (.iload_n 3, 1, 0) ∧ ip_fetch 0 1065 = some (.iconst 1, 1, 0) ∧ ip_fetch 0 1066 = some (.iadd, 1, 0) := by decide +kernel
  obtain ⟨f5, f6, f7, f8, f9⟩ : ip_fetch 0 1067 = some (.iaload, 1, 0) ∧ ip_fetch 0 1068 = some (.invokevirtual 159, 3, 127) ∧ ip_fetch 0 1071 = some (.aload_n 2, 1, 0) ∧ ip_fetch 0 1072 = some (.aload_n 0, 1, 0) ∧ ip_fetch 0 1073 = some (.iload_n 3, 1, 0) := by decide +kernel
  obtain ⟨f10, f11, f12, f13, f14⟩ : ip_fetch 0 1074 = some (.iconst 1, 1, 0) ∧ ip_fetch 0 1075 = some (.iadd, 1, 0) ∧ ip_fetch 0 1076 = some (.iaload, 1, 0) ∧ ip_fetch 0 1077 = some (.invokevirtual 162, 3, 233) ∧ ip_fetch 0 1080 = some (.if_icmp .eq 19, 3, 1099) := by decide +kernel
  obtain ⟨_, hs0⟩ := lw_s0 t
  refine wl_ld1 f0 ?_
  refine wl_arg (a := 1) f1 f2 f3 f4 f5 (by omega) hL (lw_len t) ?_
  refine wl_cv (as := [.int (xs (i + 1))]) (lf := [.ref 0, .int (xs (i + 1))]) f6 hs0 rfl rfl rfl (Nat.le_of_ble_eq_true rfl) rfl ⟨rfl, rfl⟩ rfl ?_
  refine wp_seq (wp_kp (pr_count hI)) ?_
  rintro v M ⟨h, kp⟩
  obtain ⟨z, rfl, hlen, h⟩ := lc_midi h
  obtain ⟨_, hs1⟩ := kp.2 193 _ (lw_s1 t).choose_spec
  refine wl_ld2 f7 ?_
  refine wl_arg (a := 1) f8 f9 f10 f11 f12 (by omega) hL hlen ?_
  refine wl_cv (as := [.int (xs (i + 1))]) (lf := [.ref 193, .int (xs (i + 1))]) f13 hs1 rfl rfl rfl (Nat.le_of_ble_eq_true rfl) rfl ⟨rfl, rfl⟩ rfl ?_
  refine wp_seq h ?_
  rintro _ _ ⟨t', F', G', rfl, rfl, hI'⟩
  exact wl_eq f14 (hk _ _ _ hI')
theorem lc_36 (hL : L ≤ 2560) (hi : i + 5 ≤ L) (hI : INV t F G) (hk : ∀ t F G, INV t F G → wl L xs 1099 (lwL i) [] (hs t, F, G) lw_cs) : wl L xs 1085 (lwL i) [] (hs t, F, G) lw_cs := by
  obtain ⟨f0, f1, f2, f3, f4⟩ : ip_fetch 0 1085 = some (.aload_n 1, 1, 0) ∧ ip_fetch 0 1086 = some (.invokevirtual 163, 3, 128) ∧ ip_fetch 0 1089 = some (.aload_n 2, 1, 0) ∧ ip_fetch 0 1090 = some (.invokevirtual 167, 3, 235) ∧ ip_fetch 0 1093 = some (.lcmp, 1, 0) := by decide +kernel
  obtain f5 : ip_fetch 0 1094 = some (.ifCond .eq 5, 3, 1099) := by decide +kernel
  obtain ⟨_, hs0⟩ := lw_s0 t
  refine wl_ld1 f0 ?_
  refine wl_cv (as := []) (lf := [.ref 0, .float 0, .float 0, .float 0, .float 0]) f1 hs0 rfl rfl rfl (Nat.le_of_ble_eq_true rfl) rfl ⟨rfl, rfl⟩ rfl ?_
  refine wp_seq (wp_kp (pr_digest hI)) ?_
  rintro v M ⟨h, kp⟩
  obtain ⟨z, rfl, hlen, h⟩ := lc_midl h
  obtain ⟨_, hs1⟩ := kp.2 193 _ (lw_s1 t).choose_spec
  refine wl_ld2 f2 ?_
  refine wl_cv (as := []) (lf := [.ref 193, .float 0, .float 0]) f3 hs1 rfl rfl rfl (Nat.le_of_ble_eq_true rfl) rfl ⟨rfl, rfl⟩ rfl ?_
  refine wp_seq h ?_
  rintro _ _ ⟨t', F', G', rfl, rfl, hI'⟩
  exact wl_leq f4 f5 (hk _ _ _ hI')
end LW
