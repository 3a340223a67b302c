/-! A PURE INTERPRETER of the claim's methods: a memory of cells by number (shape, ints, longs), locals and stack as lists of values whose references are cell numbers; what it runs is the table ip_cT. Part 06 shows that the machine does what it says. -/
abbrev ip_Sh : Type := Nat × Nat × List Nat
abbrev ip_F : Type := Nat → Nat → Int32
abbrev ip_G : Type := Nat → Nat → Int64
abbrev ip_M : Type := List ip_Sh × ip_F × ip_G
abbrev ip_R : Type := Option Value × ip_M
abbrev ip_Top : Type := Option (Nat × (Nat → Int32))
/-- numbers from here on are references to what no method writes: the script, String constants, their bytes, a formatter -/
def ip_EX : Nat := 1000000
def ip_unl : Value → Value
  | .long _ => .float 0
  | .double _ => .float 0
  | v => v
def ip_sto : List Value → Nat → Value → List Value
  | [], _, _ => []
  | _ :: l, 0, v => v :: l
  | a :: l, 1, v => ip_unl a :: ip_sto l 0 v
  | a :: l, i + 2, v => a :: ip_sto l (i + 1) v
def ip_sto2 (L : List Value) (i : Nat) (v : Value) : List Value := (ip_sto L i v).set (i + 1) (.float 0)
def ip_mI (j : Nat) : Nat × Nat × Nat × Nat × Nat × Nat × Nat := ip_mn.getD j (0, 0, 0, 0, 0, 0, 0)
def ip_mB (j : Nat) : MethodName × ByteArray × Nat × Option FieldType := ip_mi.getD j (x, code, 4, ret)
def ip_fetch (j pc : Nat) : Option (Instr × Nat × Nat) := (ip_cT.getD j []).lookup pc
def ip_cat (S : List Value) : Nat := (S.map fun v => v.category).sum
def ip_arg : List Value → List Value
  | [] => []
  | .long x :: r => .long x :: .float 0 :: ip_arg r
  | v :: r => v :: ip_arg r
def ip_okv : Value → Bool
  | .int _ => true
  | .long _ => true
  | .ref _ => true
  | _ => false
def ip_loc (mL : Nat) (as : List Value) : List Value := ip_arg as ++ List.replicate (mL - (ip_arg as).length) (.float 0)
def ip_u (F : ip_F) (k f : Nat) (v : Int32) : ip_F := fun a b => if a = k ∧ b = f then v else F a b
def ip_ul (G : ip_G) (k f : Nat) (v : Int64) : ip_G := fun a b => if a = k ∧ b = f then v else G a b
def ip_ur {α : Type} (F : Nat → Nat → α) (k : Nat) (g : Nat → α) : Nat → Nat → α := fun a => if a = k then g else F a
def ip_fd (F : ip_F) (G : ip_G) (k f : Nat) : Nat → Option Value
  | 0 => some (.int (F k f))
  | 1 => some (.long (G k f))
  | 2 => none
  | d + 3 => if d < ip_EX then some (.ref d) else none
def ip_gf (M : ip_M) (k aux : Nat) : Option Value := match M.1[k]? with
  | some (3, ci, l) => if ci = aux / 64 then (l[aux % 64]?).bind (ip_fd M.2.1 M.2.2 k (aux % 64)) else none
  | _ => none
def ip_pv (M : ip_M) (k ci f : Nat) (l : List Nat) (d : Nat) : FieldType → Value → Option ip_M
  | .int, .int x => if d = 0 then some (M.1, ip_u M.2.1 k f x, M.2.2) else none
  | .long, .long x => if d = 1 then some (M.1, M.2.1, ip_ul M.2.2 k f x) else none
  | .object _, .ref r => if 2 ≤ d ∧ r < M.1.length then some (M.1.set k (3, ci, l.set f (r + 3)), M.2.1, M.2.2) else none
  | .array _, .ref r => if 2 ≤ d ∧ r < M.1.length then some (M.1.set k (3, ci, l.set f (r + 3)), M.2.1, M.2.2) else none
  | _, _ => none
def ip_pf (M : ip_M) (k aux : Nat) (v : Value) : Option ip_M := match M.1[k]? with
  | some (3, ci, l) => if ci = aux / 64 then (l[aux % 64]?).bind fun d => ip_pv M k ci (aux % 64) l d (ip_ty ci (aux % 64)) v else none
  | _ => none
/-- is k an array of numbers of type t, and i a place in it -/
def ip_ia (M : ip_M) (t k : Nat) (i : Int32) : Bool := match M.1[k]? with
  | some (1, t', n :: _) => decide (t' = t) && !(decide (i < 0 ∨ n ≤ i.toNatClampNeg))
  | _ => false
def ip_bytL : List (List Int32) := [[116, 111, 119, 101, 114], [109, 101, 116, 104, 111, 100], [115, 108, 105, 112], [114, 105, 110, 103, 101, 114], [121, 101, 97, 114, 115]]
def ip_lenL : List Nat := [5, 6, 4, 6, 5]
def ip_len (top : ip_Top) (M : ip_M) (k : Nat) : Option Int32 := match M.1[k]? with
  | some (1, t, n :: _) => if t < 3 then some (Int32.ofNat n) else none
  | some (2, 3, l) => some (Int32.ofNat l.length)
  | some _ => none
  | none => if k = ip_EX then top.map (fun q => Int32.ofNat q.1) else if ip_EX + 11 ≤ k ∧ k < ip_EX + 16 then some (Int32.ofNat (ip_lenL.getD (k - (ip_EX + 11)) 0)) else none
def ip_aa (M : ip_M) (k : Nat) (i : Int32) : Option Value := match M.1[k]? with
  | some (2, 3, l) => if i < 0 then none else (l[i.toNatClampNeg]?).bind fun d => match d with
    | 0 => none
    | d + 1 => if d < ip_EX then some (.ref d) else none
  | _ => none
def ip_ial (top : ip_Top) (M : ip_M) (k : Nat) (i : Int32) : Option Value := if ip_ia M 0 k i then some (.int (M.2.1 k i.toNatClampNeg)) else
  if k = ip_EX then top.bind fun q => if i < 0 ∨ q.1 ≤ i.toNatClampNeg then none else some (.int (q.2 i.toNatClampNeg)) else none
def ip_bal (M : ip_M) (k : Nat) (i : Int32) : Option Value := if ip_ia M 1 k i || ip_ia M 2 k i then some (.int (M.2.1 k i.toNatClampNeg)) else
  if ip_EX + 11 ≤ k ∧ k < ip_EX + 16 then (if i < 0 ∨ ip_lenL.getD (k - (ip_EX + 11)) 0 ≤ i.toNatClampNeg then none else some (.int ((ip_bytL.getD (k - (ip_EX + 11)) []).getD i.toNatClampNeg 0))) else none
def ip_bas (M : ip_M) (k : Nat) (i x : Int32) : Option ip_M := if ip_ia M 1 k i then some (M.1, ip_u M.2.1 k i.toNatClampNeg (vp_nar .boolean x), M.2.2) else if ip_ia M 2 k i then some (M.1, ip_u M.2.1 k i.toNatClampNeg (vp_nar .byte x), M.2.2) else none
def ip_wfv (n : Nat) : Value → Bool
  | .ref a => decide (a < n) || decide (ip_EX ≤ a)
  | _ => true
def ip_wfs (n : Nat) (q : ip_Sh) : Bool := if q.1 = 2 then q.2.2.all (fun d => decide (d ≤ n)) else if q.1 = 3 then q.2.2.all (fun d => decide (d < n + 3)) else true
def ip_wf (M : ip_M) (L S : List Value) : Bool := decide (M.1.length < ip_EX) && M.1.all (ip_wfs M.1.length) && L.all (ip_wfv M.1.length) && S.all (ip_wfv M.1.length)
def ip_dfl (ci : Nat) : List Nat := match vwCl[ci]? with
  | some r => (List.range r.2.2).map fun k => match ip_ty ci k with
    | .int => 0
    | .long => 1
    | _ => 2
  | none => []
def ip_atyp : ArrayType → Nat
  | .int => 0
  | .boolean => 1
  | .byte => 2
  | _ => 9
/-- what touches the stack alone -/
def ip_st (j aux : Nat) (S : List Value) : Instr → Option (List Value)
  | .iconst n => some (.int (Int32.ofInt n) :: S)
  | .bipush n => some (.int (Int8.ofInt n).toInt32 :: S)
  | .sipush n => some (.int (Int16.ofInt n).toInt32 :: S)
  | .lconst n => some (.long (Int64.ofNat (n : Nat)) :: S)
  | .ldc _ => if 1000 ≤ aux then (if aux < 1005 then some (.ref (ip_EX + 1 + (aux - 1000)) :: S) else none) else (ip_KI[aux]?).map fun q => .int q.2.2.1 :: S
  | .ldc_w _ => (ip_KI[aux]?).map fun q => .int q.2.2.1 :: S
  | .ldc2_w _ => (ip_KL[aux]?).map fun q => .long q.2.2.1 :: S
  | .iadd => match S with
    | .int y :: .int x :: r => some (.int (x + y) :: r)
    | _ => none
  | .isub => match S with
    | .int y :: .int x :: r => some (.int (x - y) :: r)
    | _ => none
  | .imul => match S with
    | .int y :: .int x :: r => some (.int (x * y) :: r)
    | _ => none
  | .idiv => match S with
    | .int y :: .int x :: r => if y = 0 then none else some (.int (x / y) :: r)
    | _ => none
  | .irem => match S with
    | .int y :: .int x :: r => if y = 0 then none else some (.int (x - x / y * y) :: r)
    | _ => none
  | .iand => match S with
    | .int y :: .int x :: r => some (.int (x &&& y) :: r)
    | _ => none
  | .ior => match S with
    | .int y :: .int x :: r => some (.int (x ||| y) :: r)
    | _ => none
  | .ixor => match S with
    | .int y :: .int x :: r => some (.int (x ^^^ y) :: r)
    | _ => none
  | .ishl => match S with
    | .int y :: .int x :: r => some (.int (x <<< (y &&& 31)) :: r)
    | _ => none
  | .ishr => match S with
    | .int y :: .int x :: r => some (.int (x >>> (y &&& 31)) :: r)
    | _ => none
  | .iushr => match S with
    | .int y :: .int x :: r => some (.int (x.toUInt32 >>> (y.toUInt32 &&& Int32.toUInt32 31)).toInt32 :: r)
    | _ => none
  | .ladd => match S with
    | .long y :: .long x :: r => some (.long (x + y) :: r)
    | _ => none
  | .lmul => match S with
    | .long y :: .long x :: r => some (.long (x * y) :: r)
    | _ => none
  | .ldiv => match S with
    | .long y :: .long x :: r => if y = 0 then none else some (.long (x / y) :: r)
    | _ => none
  | .lrem => match S with
    | .long y :: .long x :: r => if y = 0 then none else some (.long (x - x / y * y) :: r)
    | _ => none
  | .lcmp => match S with
    | .long y :: .long x :: r => some (.int (lg_cmp x y) :: r)
    | _ => none
  | .i2l => match S with
    | .int x :: r => some (.long x.toInt64 :: r)
    | _ => none
  | .l2i => match S with
    | .long x :: r => some (.int x.toInt32 :: r)
    | _ => none
  | .i2b => match S with
    | .int x :: r => some (.int x.toInt8.toInt32 :: r)
    | _ => none
  | .i2c => match S with
    | .int x :: r => some (.int (x.toUInt32 % 65536).toInt32 :: r)
    | _ => none
  | .dup => match S with
    | v :: r => if v.category = 1 then some (v :: v :: r) else none
    | _ => none
  | .dup2 => match S with
    | v :: w :: r => if v.category = 1 ∧ w.category = 1 then some (v :: w :: v :: w :: r) else if v.category = 2 then some (v :: v :: w :: r) else none
    | _ => none
  | .pop => match S with
    | v :: r => if v.category = 1 then some r else none
    | _ => none
  | _ => none
def ip_ldI (L : List Value) (i : Nat) : Option Value := match L[i]? with
  | some (.int v) => some (.int v)
  | _ => none
def ip_ldL (L : List Value) (i : Nat) : Option Value := match L[i]? with
  | some (.long v) => some (.long v)
  | _ => none
def ip_ldA (L : List Value) (i : Nat) : Option Value := match L[i]? with
  | some (.ref v) => some (.ref v)
  | _ => none
def ip_cmp (x y : Int32) : Jvm.ClassFile.Cond → Prop
  | .eq => x = y
  | .ne => ¬ x = y
  | .lt => x < y
  | .ge => y ≤ x
  | .gt => y < x
  | .le => x ≤ y
def ip_dcmp (x y : Int32) : (c : Jvm.ClassFile.Cond) → Decidable (ip_cmp x y c)
  | .eq => inferInstanceAs (Decidable (x = y))
  | .ne => inferInstanceAs (Decidable (¬ x = y))
  | .lt => inferInstanceAs (Decidable (x < y))
  | .ge => inferInstanceAs (Decidable (y ≤ x))
  | .gt => inferInstanceAs (Decidable (y < x))
  | .le => inferInstanceAs (Decidable (x ≤ y))
def ip_if {α : Type} (x y : Int32) (c : Jvm.ClassFile.Cond) (a b : α) : α := @ite α (ip_cmp x y c) (ip_dcmp x y c) a b
/-- a switch's way, as far as it lies ahead -/
def ip_sw (pc : Nat) (d lo hi : Int) (offs : Array Int) (v : Int32) : Option Nat :=
  let t : Int := if v.toInt < lo ∨ hi < v.toInt then (pc : Int) + d else match offs[(v.toInt - lo).toNat]? with
    | some o => (pc : Int) + o
    | none => -1
  if t < 0 then none else some t.toNat
/-- may j call i with rest below: its room -/
def ip_may (j i : Nat) (cs : Nat × Nat) (rest : List Value) : Bool := match ip_mI j, ip_mI i with
  | (_, _, _, fr, lo, mc, ms), (_, _, _, fr', lo', mc', ms') => decide (fr' + 1 ≤ fr) && decide (8 + ((ip_mB i).2.2.1 + 11) + lo' ≤ lo) && decide (cs.1 + mc' ≤ mc) && decide (cs.2 + ms' ≤ ms) && decide (ip_cat rest ≤ 8)
/-- is what stands at k a receiver of method i -/
def ip_rcv (M : ip_M) (i k : Nat) : Bool := match M.1[k]? with
  | some (3, ci, _) => decide (ci = (ip_mI i).2.1)
  | some _ => false
  | none => decide ((ip_mI i).2.1 = 98 ∧ ip_EX + 1 ≤ k ∧ k < ip_EX + 6)
/-- a call: i's answer is put on what lies below -/
def ip_call (rec : Nat → List Value → List Value → ip_M → Nat × Nat → Option ip_R) (cal : Nat → List Value → ip_M → Option ip_R) (j pc i : Nat) (L as rest : List Value) (M : ip_M) (cs : Nat × Nat) : Option ip_R :=
  if (ip_may j i cs rest && as.all ip_okv && decide ((ip_arg as).length ≤ (ip_mB i).2.2.1)) && (decide ((ip_mI i).2.2.2.2.2.1 = 0) || ip_wf M L (as ++ rest)) then
    (cal i (ip_loc (ip_mB i).2.2.1 as) M).bind fun r => rec (pc + 3) L (r.1.toList ++ rest) r.2 (cs.1 + (ip_mI i).2.2.2.2.2.1, cs.2 + (ip_mI i).2.2.2.2.2.2)
  else none
def ip_copy (j : Nat) (S : List Value) (M : ip_M) : Option (List Value × ip_M) := match S with
  | .int n :: .int dp :: .ref d :: .int sp :: .ref a :: rest => match M.1[a]?, M.1[d]? with
    | some (1, 0, n0 :: _), some (1, 0, n1 :: _) => if ¬ (sp < 0 ∨ dp < 0 ∨ n < 0) ∧ sp.toNatClampNeg + n.toNatClampNeg ≤ n0 ∧ dp.toNatClampNeg + n.toNatClampNeg ≤ n1 ∧ 1 ≤ (ip_mI j).2.2.2.1 ∧ ip_cat rest + 18 ≤ (ip_mI j).2.2.2.2.1 then
        some (rest, (M.1, ip_ur M.2.1 d (va_cpy (M.2.1 a) (M.2.1 d) sp.toNatClampNeg dp.toNatClampNeg n.toNatClampNeg), M.2.2)) else none
    | _, _ => none
  | _ => none
def ip_newO (j ci : Nat) (L S : List Value) (M : ip_M) (cs : Nat × Nat) : Option (ip_M × (Nat × Nat)) :=
  if ip_wf M L S && decide (cs.1 + 1 ≤ (ip_mI j).2.2.2.2.2.1) && decide (cs.2 + (ip_dfl ci).length ≤ (ip_mI j).2.2.2.2.2.2) && decide (ci < vwCl.length) then
    some ((M.1 ++ [(3, ci, ip_dfl ci)], ip_ur M.2.1 M.1.length (fun _ => 0), ip_ur M.2.2 M.1.length (fun _ => 0)), (cs.1 + 1, cs.2 + (ip_dfl ci).length)) else none
def ip_newA (j t n : Nat) (L S : List Value) (M : ip_M) (cs : Nat × Nat) : Option (ip_M × (Nat × Nat)) :=
  if ip_wf M L S && decide (cs.1 + 1 ≤ (ip_mI j).2.2.2.2.2.1) && decide (cs.2 + n ≤ (ip_mI j).2.2.2.2.2.2) && decide (n ≤ 1000) && decide (t < 3) then
    some ((M.1 ++ [(1, t, [n])], ip_ur M.2.1 M.1.length (fun _ => 0), M.2.2), (cs.1 + 1, cs.2 + n)) else none
def ip_newM (j n k : Nat) (L S : List Value) (M : ip_M) (cs : Nat × Nat) : Option (ip_M × (Nat × Nat)) :=
  if ip_wf M L S && decide (cs.1 + 1 + n ≤ (ip_mI j).2.2.2.2.2.1) && decide (cs.2 + n + n * k ≤ (ip_mI j).2.2.2.2.2.2) && decide (n ≤ 1000) && decide (k ≤ 1000) && decide (M.1.length + 1 + n < ip_EX) then
    some ((M.1 ++ ((2, 3, (List.range n).map fun i => M.1.length + 2 + i) :: List.replicate n (1, 0, [k])), (fun a b => if M.1.length ≤ a then 0 else M.2.1 a b), M.2.2), (cs.1 + 1 + n, cs.2 + n + n * k)) else none
def ip_ends (j : Nat) (cs : Nat × Nat) : Bool := decide (cs.1 ≤ (ip_mI j).2.2.2.2.2.1) && decide (cs.2 ≤ (ip_mI j).2.2.2.2.2.2)
def ip_ex (top : ip_Top) (rec : Nat → List Value → List Value → ip_M → Nat × Nat → Option ip_R) (cal : Nat → List Value → ip_M → Option ip_R) (j pc len aux : Nat) (L S : List Value) (M : ip_M) (cs : Nat × Nat) : Instr → Option ip_R
  | .aload_n k => (ip_ldA L k).bind fun v => rec (pc + len) L (v :: S) M cs
  | .iload_n k => (ip_ldI L k).bind fun v => rec (pc + len) L (v :: S) M cs
  | .iload k => (ip_ldI L k).bind fun v => rec (pc + len) L (v :: S) M cs
  | .lload_n k => (ip_ldL L k).bind fun v => rec (pc + len) L (v :: S) M cs
  | .lload k => (ip_ldL L k).bind fun v => rec (pc + len) L (v :: S) M cs
  | .istore_n k => match S with
    | .int v :: r => rec (pc + len) (ip_sto L k (.int v)) r M cs
    | _ => none
  | .istore k => match S with
    | .int v :: r => rec (pc + len) (ip_sto L k (.int v)) r M cs
    | _ => none
  | .astore_n k => match S with
    | .ref v :: r => rec (pc + len) (ip_sto L k (.ref v)) r M cs
    | _ => none
  | .lstore_n k => match S with
    | .long v :: r => rec (pc + len) (ip_sto2 L k (.long v)) r M cs
    | _ => none
  | .lstore k => match S with
    | .long v :: r => rec (pc + len) (ip_sto2 L k (.long v)) r M cs
    | _ => none
  | .iinc k n => match L[k]? with
    | some (.int v) => rec (pc + len) (ip_sto L k (.int (v + Int32.ofInt n))) S M cs
    | _ => none
  | .goto _ => rec aux L S M cs
  | .if_icmp c _ => match S with
    | .int y :: .int v :: r => ip_if v y c (rec aux L r M cs) (rec (pc + len) L r M cs)
    | _ => none
  | .ifCond c _ => match S with
    | .int v :: r => ip_if v 0 c (rec aux L r M cs) (rec (pc + len) L r M cs)
    | _ => none
  | .tableswitch d lo hi offs => match S with
    | .int v :: r => (ip_sw pc d lo hi offs v).bind fun t => rec t L r M cs
    | _ => none
  | .getfield _ => match S with
    | .ref k :: r => if aux < 100000 then (ip_gf M k aux).bind fun v => rec (pc + len) L (v :: r) M cs
      else if M.1.length ≤ k ∧ ip_EX + 1 ≤ k ∧ k < ip_EX + 6 ∧ aux < 100002 then rec (pc + len) L ((if aux = 100000 then .ref (k + 10) else .int 0) :: r) M cs else none
    | _ => none
  | .putfield _ => match S with
    | v :: .ref k :: r => if aux < 100000 then (ip_pf M k aux v).bind fun M' => rec (pc + len) L r M' cs else none
    | _ => none
  | .getstatic _ => if aux = 0 then rec (pc + len) L (.int 1 :: S) M cs else if aux = 1 then rec (pc + len) L (.ref (ip_EX + 50) :: S) M cs else none
  | .iaload => match S with
    | .int i :: .ref k :: r => (ip_ial top M k i).bind fun v => rec (pc + len) L (v :: r) M cs
    | _ => none
  | .baload => match S with
    | .int i :: .ref k :: r => (ip_bal M k i).bind fun v => rec (pc + len) L (v :: r) M cs
    | _ => none
  | .aaload => match S with
    | .int i :: .ref k :: r => (ip_aa M k i).bind fun v => rec (pc + len) L (v :: r) M cs
    | _ => none
  | .iastore => match S with
    | .int v :: .int i :: .ref k :: r => if ip_ia M 0 k i then rec (pc + len) L r (M.1, ip_u M.2.1 k i.toNatClampNeg v, M.2.2) cs else none
    | _ => none
  | .bastore => match S with
    | .int v :: .int i :: .ref k :: r => (ip_bas M k i v).bind fun M' => rec (pc + len) L r M' cs
    | _ => none
  | .arraylength => match S with
    | .ref k :: r => (ip_len top M k).bind fun v => rec (pc + len) L (.int v :: r) M cs
    | _ => none
  | .new _ => (ip_newO j aux L S M cs).bind fun q => rec (pc + len) L (.ref M.1.length :: S) q.1 q.2
  | .newarray t => match S with
    | .int n :: r => if n < 0 then none else (ip_newA j (ip_atyp t) n.toNatClampNeg L r M cs).bind fun q => rec (pc + len) L (.ref M.1.length :: r) q.1 q.2
    | _ => none
  | .multianewarray _ 2 => match S with
    | .int k :: .int n :: r => if n < 0 ∨ k < 0 then none else (ip_newM j n.toNatClampNeg k.toNatClampNeg L r M cs).bind fun q => rec (pc + len) L (.ref M.1.length :: r) q.1 q.2
    | _ => none
  | .invokevirtual _ => if S.length < (ip_mI aux).2.2.1 then none else match (S.take (ip_mI aux).2.2.1).reverse with
    | .ref k :: as => if ip_rcv M aux k then ip_call rec cal j pc aux L (.ref k :: as) (S.drop (ip_mI aux).2.2.1) M cs else none
    | _ => none
  | .invokestatic _ => if aux = 9998 then (ip_copy j S M).bind fun q => rec (pc + len) L q.1 q.2 cs
    else if aux = 9997 ∨ aux = 9996 then (match S with
      | .int y :: .int x :: r => if 1 ≤ (ip_mI j).2.2.2.1 ∧ ip_cat r + 13 ≤ (ip_mI j).2.2.2.2.1 ∧ ip_ends j cs = true then rec (pc + len) L (.int (if aux = 9997 then (if x < y then y else x) else (if y < x then y else x)) :: r) M cs else none
      | _ => none)
    else if S.length < (ip_mI aux).2.2.1 then none else ip_call rec cal j pc aux L (S.take (ip_mI aux).2.2.1).reverse (S.drop (ip_mI aux).2.2.1) M cs
  | .invokespecial _ => if aux = 9999 then (match S with
      | .ref k :: r => if 1 ≤ (ip_mI j).2.2.2.1 ∧ ip_cat r + 12 ≤ (ip_mI j).2.2.2.2.1 ∧ k ≠ ip_EX + 50 then rec (pc + len) L r M cs else none
      | _ => none)
    else if S.length < (ip_mI aux).2.2.1 then none else match (S.take (ip_mI aux).2.2.1).reverse with
    | .ref k :: as => if k ≠ ip_EX + 50 then ip_call rec cal j pc aux L (.ref k :: as) (S.drop (ip_mI aux).2.2.1) M cs else none
    | _ => none
  | .return_ => if S.length = 0 ∧ (ip_mB j).2.2.2 = none ∧ ip_ends j cs = true then some (none, M) else none
  | .ireturn => match S with
    | [.int v] => match (ip_mB j).2.2.2 with
      | some ty => if narrow ty (.int v) = .int v ∧ ip_ends j cs = true then some (some (.int v), M) else none
      | none => none
    | _ => none
  | .lreturn => match S with
    | [.long v] => if (ip_mB j).2.2.2 = some .long ∧ ip_ends j cs = true then some (some (.long v), M) else none
    | _ => none
  | .areturn => match S with
    | [.ref v] => match (ip_mB j).2.2.2 with
      | some (.object _) => if ip_ends j cs = true then some (some (.ref v), M) else none
      | some (.array _) => if ip_ends j cs = true then some (some (.ref v), M) else none
      | _ => none
    | _ => none
  | ins => (ip_st j aux S ins).bind fun S' => rec (pc + len) L S' M cs
def ip_run : ip_Top → Nat → Nat → Nat → List Value → List Value → ip_M → Nat × Nat → Option ip_R
  | _, 0, _, _, _, _, _, _ => none
  | top, n + 1, j, pc, L, S, M, cs => (ip_fetch j pc).bind fun q => ip_ex top (fun pc' L' S' M' cs' => ip_run top n j pc' L' S' M' cs') (fun i L' M' => ip_run none n i 0 L' [] M' (0, 0)) j pc q.2.1 q.2.2 L S M cs q.1
