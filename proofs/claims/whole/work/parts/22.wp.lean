/-! ===== the rules of wp, one an instruction that asks something ===== -/
section WPR
variable {j pc pc' : Nat} {L S S' : List Value} {sh : List ip_Sh} {F : ip_F} {G : ip_G} {Q : Option Value → ip_M → Prop}
theorem wp_N {j pc j' pc' : Nat} {L S L' S' : List Value} {M M' : ip_M} {Q : Option Value → ip_M → Prop} (k : Nat) (h : ∀ n, ip_run none (n + (k + 1)) j pc L S M (0, 0) = ip_run none n j' pc' L' S' M' (0, 0)) (hk : wp j' pc' L' S' M' Q) : wp j pc L S M Q := (wp_nx h).2 hk
theorem wp_I {M : ip_M} {pc1 pc2 : Nat} {x y : Int32} (c : Jvm.ClassFile.Cond) (h : ∀ n, ip_run none (n + 1) j pc L S M (0, 0) = ip_if x y c (ip_run none n j pc1 L S' M (0, 0)) (ip_run none n j pc2 L S' M (0, 0)))
    (h1 : ip_cmp x y c → wp j pc1 L S' M Q) (h2 : ¬ ip_cmp x y c → wp j pc2 L S' M Q) : wp j pc L S M Q := by
  rw [wp_if h]
  by_cases hc : ip_cmp x y c
  · exact Or.inl ⟨hc, h1 hc⟩
  · exact Or.inr ⟨hc, h2 hc⟩
theorem wp_join {pc : Nat} {M : ip_M} {a b : Int32} {c : Prop} [Decidable c] (h : wp j pc L (.int (if c then a else b) :: S) M Q) : (c → wp j pc L (.int a :: S) M Q) ∧ (¬ c → wp j pc L (.int b :: S) M Q) := by
  constructor
  · intro hc
    rw [if_pos hc] at h
    exact h
  · intro hc
    rw [if_neg hc] at h
    exact h
theorem ip_ia_of {t k n : Nat} {l : List Nat} {i : Int32} (hs : sh[k]? = some (1, t, n :: l)) (hin : vp_in i n) : ip_ia (sh, F, G) t k i = true := by
  unfold ip_ia
  rw [show ((sh, F, G) : ip_M).1[k]? = some (1, t, n :: l) from hs]
  simp only [decide_true, Bool.true_and, Bool.not_eq_true', decide_eq_false_iff_not]
  exact hin
theorem wp_ial {k n m : Nat} {l : List Nat} {i : Int32} (hf : ip_fetch j pc = some (.iaload, 1, 0)) (hs : sh[k]? = some (1, 0, n :: l)) (hm : i.toNatClampNeg = m) (hin : vp_in i n) (h : wp j (pc + 1) L (.int (F k m) :: S) (sh, F, G) Q) : wp j pc L (.int i :: .ref k :: S) (sh, F, G) Q := by
  refine wp_N 0 (fun n9 => ?_) h
  rw [ip_run, hf]
  simp only [Option.bind_some, ip_ex, ip_ial, ip_ia_of (F := F) (G := G) hs hin, if_true, hm]
theorem wp_bal {k n m t : Nat} {l : List Nat} {i : Int32} (hf : ip_fetch j pc = some (.baload, 1, 0)) (hs : sh[k]? = some (1, t, n :: l)) (ht : t = 1 ∨ t = 2) (hm : i.toNatClampNeg = m) (hin : vp_in i n) (h : wp j (pc + 1) L (.int (F k m) :: S) (sh, F, G) Q) : wp j pc L (.int i :: .ref k :: S) (sh, F, G) Q := by
  refine wp_N 0 (fun n9 => ?_) h
  rw [ip_run, hf]
  have h1 : (ip_ia (sh, F, G) 1 k i || ip_ia (sh, F, G) 2 k i) = true := by
    rcases ht with rfl | rfl
    · rw [ip_ia_of (F := F) (G := G) hs hin]
      rfl
    · rw [ip_ia_of (F := F) (G := G) hs hin, Bool.or_true]
  simp only [Option.bind_some, ip_ex, ip_bal, h1, if_true, hm]
theorem wp_ias {k n m : Nat} {l : List Nat} {i x : Int32} (hf : ip_fetch j pc = some (.iastore, 1, 0)) (hs : sh[k]? = some (1, 0, n :: l)) (hm : i.toNatClampNeg = m) (hin : vp_in i n) (h : wp j (pc + 1) L S (sh, ip_u F k m x, G) Q) : wp j pc L (.int x :: .int i :: .ref k :: S) (sh, F, G) Q := by
  refine wp_N 0 (fun n9 => ?_) h
  rw [ip_run, hf]
  simp only [Option.bind_some, ip_ex, ip_ia_of (F := F) (G := G) hs hin, if_true, hm]
theorem wp_bas1 {k n m : Nat} {l : List Nat} {i x : Int32} (hf : ip_fetch j pc = some (.bastore, 1, 0)) (hs : sh[k]? = some (1, 1, n :: l)) (hm : i.toNatClampNeg = m) (hin : vp_in i n) (h : wp j (pc + 1) L S (sh, ip_u F k m (vp_nar .boolean x), G) Q) : wp j pc L (.int x :: .int i :: .ref k :: S) (sh, F, G) Q := by
  refine wp_N 0 (fun n9 => ?_) h
  rw [ip_run, hf]
  simp only [Option.bind_some, ip_ex, ip_bas, ip_ia_of (F := F) (G := G) hs hin, if_true, hm]
theorem wp_bas2 {k n m : Nat} {l : List Nat} {i x : Int32} (hf : ip_fetch j pc = some (.bastore, 1, 0)) (hs : sh[k]? = some (1, 2, n :: l)) (hm : i.toNatClampNeg = m) (hin : vp_in i n) (h : wp j (pc + 1) L S (sh, ip_u F k m (vp_nar .byte x), G) Q) : wp j pc L (.int x :: .int i :: .ref k :: S) (sh, F, G) Q := by
  refine wp_N 0 (fun n9 => ?_) h
  rw [ip_run, hf]
  have h1 : ip_ia (sh, F, G) 1 k i = false := by
    unfold ip_ia
    rw [show ((sh, F, G) : ip_M).1[k]? = some (1, 2, n :: l) from hs]
    rfl
  simp only [Option.bind_some, ip_ex, ip_bas, h1, ip_ia_of (F := F) (G := G) hs hin, if_true, if_neg Bool.false_ne_true, hm]
/-- a row out of a grid whose rows lie one behind another, from cell b on -/
theorem wp_aal {k n b m : Nat} {l : List Nat} {i : Int32} (hf : ip_fetch j pc = some (.aaload, 1, 0)) (hs : sh[k]? = some (2, 3, l)) (hl : ∀ i, i < n → l[i]? = some (b + i + 1)) (hb : b + n < ip_EX) (hm : i.toNatClampNeg = m) (hin : vp_in i n) (h : wp j (pc + 1) L (.ref (b + m) :: S) (sh, F, G) Q) : wp j pc L (.int i :: .ref k :: S) (sh, F, G) Q := by
  refine wp_N 0 (fun n9 => ?_) h
  have hlt : i.toNatClampNeg < n := Nat.not_le.mp fun q => hin (Or.inr q)
  have h0 : ¬ i < 0 := fun q => hin (Or.inl q)
  rw [ip_run, hf]
  have : ip_aa (sh, F, G) k i = some (.ref (b + m)) := by
    unfold ip_aa
    rw [show ((sh, F, G) : ip_M).1[k]? = some (2, 3, l) from hs]
    simp only [if_neg h0]
    rw [hl _ hlt, hm]
    simp only [Option.bind_some]
    rw [if_pos (by omega)]
  simp only [Option.bind_some, ip_ex, this]
theorem wp_len {k t n : Nat} {l : List Nat} (hf : ip_fetch j pc = some (.arraylength, 1, 0)) (hs : sh[k]? = some (1, t, n :: l)) (ht : t < 3) (h : wp j (pc + 1) L (.int (Int32.ofNat n) :: S) (sh, F, G) Q) : wp j pc L (.ref k :: S) (sh, F, G) Q := by
  refine wp_N 0 (fun n9 => ?_) h
  rw [ip_run, hf]
  have : ip_len none (sh, F, G) k = some (Int32.ofNat n) := by
    unfold ip_len
    rw [show ((sh, F, G) : ip_M).1[k]? = some (1, t, n :: l) from hs]
    simp only [if_pos ht]
  simp only [Option.bind_some, ip_ex]
  rw [this]
  rfl
theorem ip_gf_of {k ci f d aux : Nat} {l : List Nat} (hs : sh[k]? = some (3, ci, l)) (ha : aux / 64 = ci) (hf' : aux % 64 = f) (hd : l[f]? = some d) : ip_gf (sh, F, G) k aux = ip_fd F G k f d := by
  unfold ip_gf
  rw [show ((sh, F, G) : ip_M).1[k]? = some (3, ci, l) from hs]
  subst hf'
  simp only [ha, if_true, hd, Option.bind_some]
theorem wp_getI {k ci f aux idx : Nat} {l : List Nat} (hf : ip_fetch j pc = some (.getfield idx, 3, aux)) (hs : sh[k]? = some (3, ci, l)) (ha : aux / 64 = ci) (hf' : aux % 64 = f) (hd : l[f]? = some 0) (hx : aux < 100000) (h : wp j (pc + 3) L (.int (F k f) :: S) (sh, F, G) Q) : wp j pc L (.ref k :: S) (sh, F, G) Q := by
  refine wp_N 0 (fun n9 => ?_) h
  rw [ip_run, hf]
  simp only [Option.bind_some, ip_ex, if_pos hx, ip_gf_of (F := F) (G := G) hs ha hf' hd, ip_fd]
theorem wp_getR {k ci f aux idx r : Nat} {l : List Nat} (hf : ip_fetch j pc = some (.getfield idx, 3, aux)) (hs : sh[k]? = some (3, ci, l)) (ha : aux / 64 = ci) (hf' : aux % 64 = f) (hd : l[f]? = some (r + 3)) (hr : r < ip_EX) (hx : aux < 100000) (h : wp j (pc + 3) L (.ref r :: S) (sh, F, G) Q) : wp j pc L (.ref k :: S) (sh, F, G) Q := by
  refine wp_N 0 (fun n9 => ?_) h
  rw [ip_run, hf]
  simp only [Option.bind_some, ip_ex, if_pos hx, ip_gf_of (F := F) (G := G) hs ha hf' hd, ip_fd, if_pos hr]
theorem wp_putI {k ci f aux idx : Nat} {l : List Nat} {x : Int32} (hf : ip_fetch j pc = some (.putfield idx, 3, aux)) (hs : sh[k]? = some (3, ci, l)) (ha : aux / 64 = ci) (hf' : aux % 64 = f) (hd : l[f]? = some 0) (ht : ip_ty ci f = .int) (hx : aux < 100000) (h : wp j (pc + 3) L S (sh, ip_u F k f x, G) Q) : wp j pc L (.int x :: .ref k :: S) (sh, F, G) Q := by
  refine wp_N 0 (fun n9 => ?_) h
  rw [ip_run, hf]
  have : ip_pf (sh, F, G) k aux (.int x) = some (sh, ip_u F k f x, G) := by
    unfold ip_pf
    rw [show ((sh, F, G) : ip_M).1[k]? = some (3, ci, l) from hs]
    subst hf'
    simp only [ha, if_true, hd, Option.bind_some, ht, ip_pv]
  simp only [Option.bind_some, ip_ex, if_pos hx, this]
theorem wp_cpy {a d n0 n1 idx sp' dp' n' : Nat} {l0 l1 : List Nat} {sp dp n : Int32} (hf : ip_fetch j pc = some (.invokestatic idx, 3, 9998)) (h0 : sh[a]? = some (1, 0, n0 :: l0)) (h1 : sh[d]? = some (1, 0, n1 :: l1)) (hm : 1 ≤ (ip_mI j).2.2.2.1 ∧ ip_cat S + 18 ≤ (ip_mI j).2.2.2.2.1) (hn : ¬ (sp < 0 ∨ dp < 0 ∨ n < 0)) (e1 : sp.toNatClampNeg = sp') (e2 : dp.toNatClampNeg = dp') (e3 : n.toNatClampNeg = n') (hc : sp' + n' ≤ n0) (hd : dp' + n' ≤ n1)
    (h : wp j (pc + 3) L S (sh, ip_ur F d (va_cpy (F a) (F d) sp' dp' n'), G) Q) : wp j pc L (.int n :: .int dp :: .ref d :: .int sp :: .ref a :: S) (sh, F, G) Q := by
  refine wp_N 0 (fun n9 => ?_) h
  rw [ip_run, hf]
  have : ip_copy j (.int n :: .int dp :: .ref d :: .int sp :: .ref a :: S) (sh, F, G) = some (S, (sh, ip_ur F d (va_cpy (F a) (F d) sp' dp' n'), G)) := by
    unfold ip_copy
    simp only
    rw [h0, h1]
    simp only
    rw [if_pos ⟨hn, by rw [e1, e3]; exact hc, by rw [e2, e3]; exact hd, hm.1, hm.2⟩, e1, e2, e3]
  simp only [Option.bind_some, ip_ex, if_true, this]
theorem wp_C {M : ip_M} {i : Nat} {Li rest : List Value} (h : ∀ n, ip_run none (n + 1) j pc L S M (0, 0) = (ip_run none n i 0 Li [] M (0, 0)).bind fun r => ip_run none n j pc' L (r.1.toList ++ rest) r.2 (0, 0)) (hk : wp i 0 Li [] M (fun v M' => wp j pc' L (v.toList ++ rest) M' Q)) : wp j pc L S M Q := (wp_call h).2 hk
/-- a call of a method on an object that isn't told by a number -/
theorem wp_CV {i k ci idx : Nat} {as lf : List Value} {l : List Nat} (hf : ip_fetch j pc = some (.invokevirtual idx, 3, i)) (hs : sh[k]? = some (3, ci, l)) (hci : (ip_mI i).2.1 = ci) (hS : (ip_mI i).2.2.1 = (as.length + 1)) (hok : as.all ip_okv = true) (hl : (ip_arg (.ref k :: as)).length ≤ (ip_mB i).2.2.1) (hmay : ip_may j i (0, 0) S = true) (hal : (ip_mI i).2.2.2.2.2.1 = 0 ∧ (ip_mI i).2.2.2.2.2.2 = 0) (hlf : ip_loc (ip_mB i).2.2.1 (.ref k :: as) = lf)
    (hk : wp i 0 lf [] (sh, F, G) (fun v M' => wp j (pc + 3) L (v.toList ++ S) M' Q)) : wp j pc L (as.reverse ++ .ref k :: S) (sh, F, G) Q := by
  refine wp_C (fun n9 => ?_) hk
  rw [ip_run, hf]
  have hlen : (as.reverse ++ Value.ref k :: S).length = as.length + 1 + S.length := by simp; omega
  have e0 : as.reverse ++ Value.ref k :: S = (as.reverse ++ [Value.ref k]) ++ S := by simp
  have e1 : (as.reverse ++ Value.ref k :: S).take (as.length + 1) = as.reverse ++ [.ref k] := by
    rw [e0, List.take_left' (by simp)]
  have e2 : (as.reverse ++ Value.ref k :: S).drop (as.length + 1) = S := by
    rw [e0, List.drop_left' (by simp)]
  simp only [Option.bind_some, ip_ex, hS]
  rw [if_neg (by rw [hlen]; omega), e1, e2]
  simp only [List.reverse_append, List.reverse_cons, List.reverse_nil, List.nil_append, List.singleton_append, List.reverse_reverse]
  have hr : ip_rcv (sh, F, G) i k = true := by
    unfold ip_rcv
    rw [show ((sh, F, G) : ip_M).1[k]? = some (3, ci, l) from hs]
    simp [hci]
  rw [if_pos hr]
  unfold ip_call
  rw [if_pos (by simp [hmay, hok, hl, hal.1, ip_okv]), hlf, hal.1, hal.2]
theorem wp_RI {M : ip_M} {v : Int32} (hf : ip_fetch j pc = some (.ireturn, 1, 0)) (hr : (ip_mB j).2.2.2 = some .int) (h : Q (some (.int v)) M) : wp j pc L [.int v] M Q := by
  refine (wp_ret (fun n9 => ?_)).2 h
  rw [ip_run, hf]
  simp only [Option.bind_some, ip_ex, hr]
  rw [if_pos ⟨rfl, by simp [ip_ends]⟩]
theorem wp_RZ {M : ip_M} {v : Int32} (hf : ip_fetch j pc = some (.ireturn, 1, 0)) (hr : (ip_mB j).2.2.2 = some .boolean) (hv : v &&& 1 = v) (h : Q (some (.int v)) M) : wp j pc L [.int v] M Q := by
  refine (wp_ret (fun n9 => ?_)).2 h
  rw [ip_run, hf]
  simp only [Option.bind_some, ip_ex, hr]
  rw [if_pos ⟨by simp only [narrow, hv], by simp [ip_ends]⟩]
theorem wp_RV {M : ip_M} (hf : ip_fetch j pc = some (.return_, 1, 0)) (hr : (ip_mB j).2.2.2 = none) (h : Q none M) : wp j pc L [] M Q := by
  refine (wp_ret (fun n9 => ?_)).2 h
  rw [ip_run, hf]
  simp only [Option.bind_some, ip_ex, hr]
  rw [if_pos (by simp [ip_ends])]
theorem wp_RL {M : ip_M} {v : Int64} (hf : ip_fetch j pc = some (.lreturn, 1, 0)) (hr : (ip_mB j).2.2.2 = some .long) (h : Q (some (.long v)) M) : wp j pc L [.long v] M Q := by
  refine (wp_ret (fun n9 => ?_)).2 h
  rw [ip_run, hf]
  simp only [Option.bind_some, ip_ex, hr]
  rw [if_pos (by simp [ip_ends])]
theorem wp_RA {M : ip_M} {v : Nat} {nm : String} (hf : ip_fetch j pc = some (.areturn, 1, 0)) (hr : (ip_mB j).2.2.2 = some (.object nm)) (h : Q (some (.ref v)) M) : wp j pc L [.ref v] M Q := by
  refine (wp_ret (fun n9 => ?_)).2 h
  rw [ip_run, hf]
  simp only [Option.bind_some, ip_ex, hr]
  rw [if_pos (by simp [ip_ends])]
theorem wp_D {M : ip_M} {S' : List Value} {k : Nat} {d : Int64} (hd : ¬ d = 0) (h : ∀ n, ip_run none (n + 1) j pc L S M (0, 0) = (if d = 0 then none else some S').bind fun S' => ip_run none n j pc' L S' M (0, 0)) (hk : wp j pc' L S' M Q) : wp j pc L S M Q := by
  refine wp_N 0 (fun n9 => ?_) hk
  rw [h, if_neg hd]
  rfl
/-- a switch: where it goes, from where its number lies -/
theorem wp_S {M : ip_M} {x : Int32} {d lo hi : Int} {offs : Array Int} {t : Nat} (h : ∀ n, ip_run none (n + 1) j pc L S M (0, 0) = (ip_sw pc d lo hi offs x).bind fun t => ip_run none n j t L S' M (0, 0)) (ht : ip_sw pc d lo hi offs x = some t) (hk : wp j t L S' M Q) : wp j pc L S M Q := by
  refine wp_N 0 (fun n9 => ?_) hk
  rw [h, ht]
  rfl
theorem wp_Sd {pc : Nat} {d lo hi : Int} {offs : Array Int} {x : Int32} {t : Nat} (hx : x.toInt < lo ∨ hi < x.toInt) (ht : (pc : Int) + d = (t : Int)) : ip_sw pc d lo hi offs x = some t := by
  simp only [ip_sw, if_pos hx]
  rw [if_neg (by omega)]
  congr 1
  omega
end WPR
theorem vp_lt {i : Int32} {n : Nat} (h : vp_in i n) : i.toNatClampNeg < n := Nat.not_le.mp fun q => h (Or.inr q)
theorem in_out {x : Int32} {n : Nat} (h : ∀ i, i < n → ¬ x = Int32.ofInt i) (hn : n < 1000) : x.toInt < 0 ∨ (n : Int) ≤ x.toInt := by
  rcases Int.lt_or_le x.toInt 0 with h0 | h0
  · exact Or.inl h0
  · rcases Int.lt_or_le x.toInt n with h1 | h1
    · exfalso
      refine h x.toInt.toNat (by omega) ?_
      rw [Int.toNat_of_nonneg h0, Int32.ofInt_toInt]
    · exact Or.inr h1
