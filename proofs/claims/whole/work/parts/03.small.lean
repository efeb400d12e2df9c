/-! ===== part 03: the small machine: bytecode over cells that are numbered ===== -/
/-- a cell's shape: 0 an int array, 1 a long array, 2 a boolean array, 10 + c an object of class c; its length (how many fields); the references in its fields -/
abbrev I_Sh : Type := Nat × Nat × List (Option Nat)
/-- the shapes; what ints (booleans) stand in the cells; what longs; the script -/
abbrev I_St : Type := List I_Sh × (Nat → Nat → Int32) × (Nat → Nat → Int64) × (Nat × (Nat → Int32))
abbrev I_Cf : Type := Nat × List (Option Value) × List Value × I_St
abbrev I_Out : Type := I_Cf ⊕ ((Nat × List Value × I_Cf) ⊕ Option Value)
def i_row {α : Type} (f : Nat → α) (q : Nat) (g : α) : Nat → α := fun a => if a = q then g else f a
def i_upI (f : Nat → Nat → Int32) (q k : Nat) (v : Int32) : Nat → Nat → Int32 := i_row f q (upd (f q) k v)
def i_upL (f : Nat → Nat → Int64) (q k : Nat) (v : Int64) : Nat → Nat → Int64 := i_row f q (vp_updL (f q) k v)
def i_get (lv : List (Option Value)) (i : Nat) : Option Value := (lv[i]?).getD none
def i_clr (lv : List (Option Value)) (k : Nat) : List (Option Value) := match i_get lv k with
  | some (.long _) => lv.set k none
  | some (.double _) => lv.set k none
  | _ => lv
def i_st1 (lv : List (Option Value)) (i : Nat) (v : Value) : List (Option Value) := match i with
  | 0 => lv.set 0 (some v)
  | k + 1 => (i_clr lv k).set (k + 1) (some v)
def i_st2 (lv : List (Option Value)) (i : Nat) (v : Value) : List (Option Value) := (i_st1 lv i v).set (i + 1) none
/-- arrays outside: the script, the class's tables, the bytes of the one text -/
def i_ext (X : Nat × (Nat → Int32)) (q : Nat) : Option (Nat × Nat × (Nat → Int32)) :=
  if q = 100 then some (0, X.1, X.2)
  else if q = 101 then some (0, 7, fun j => ([9, 99, 9, 9, 1, 99, 9] : List Int32).getD j 0)
  else if q = 102 then some (0, 32, fun j => ([1, 10, 11, 2, 20, 0, 0, 0, 0, 30, 0, 0, 0, 41, 40, 0, 0, 0, 50, 0, 0, 0, 0, 60, 70, 0, 0, 0, 0, 80, 0, 81] : List Int32).getD j 0)
  else if q = 103 then some (0, 8, fun j => ([-1, 0, 0, 2, 1, 3, 0, 4] : List Int32).getD j 0)
  else if q = 104 then some (3, 7, fun j => ([100, 103, 113, 122, 115, 119, 102] : List Int32).getD j 0)
  else none
def i_arr (S : I_St) (q : Nat) : Option (Nat × Nat × (Nat → Int32)) := match S.1[q]? with
  | some (t, n, _) => if t = 0 then some (0, n, S.2.1 q) else if t = 2 then some (2, n, S.2.1 q) else none
  | none => i_ext S.2.2.2 q
def i_isC (S : I_St) (q ci : Nat) : Bool := match S.1[q]? with
  | some (t, _, _) => decide (t = 10 + ci)
  | none => decide (q = 105) && decide (ci = 90)
def i_clsOf (j : Nat) : Nat := match i_mt j with
  | some e => e.2.2.2.2.2
  | none => 98
def i_nth (ci : Nat) : Nat := match i_cls[ci]? with
  | some q => q.2.2
  | none => 0
def i_isR (ci k : Nat) : Bool := decide (((i_kd[ci]?).getD [])[k]? = some 1)
def i_rem (x y : Int32) : Int32 := x - x / y * y
def i_ushr (x y : Int32) : Int32 := (x.toUInt32 >>> (y.toUInt32 &&& Int32.toUInt32 31)).toInt32
def i_sw (x : Int32) (d : Nat) : List (Int32 × Nat) → Nat
  | [] => d
  | (k, t) :: r => if x = k then t else i_sw x d r
def i_n (pc : Nat) (lv : List (Option Value)) (stk : List Value) (S : I_St) : Option I_Out := some (.inl (pc, lv, stk, S))
def i_bin (f : Int32 → Int32 → Int32) (pc : Nat) (lv : List (Option Value)) (stk : List Value) (S : I_St) : Option I_Out := match stk with
  | .int y :: .int x :: rest => i_n (pc + 1) lv (.int (f x y) :: rest) S
  | _ => none
def i_binL (f : Int64 → Int64 → Int64) (pc : Nat) (lv : List (Option Value)) (stk : List Value) (S : I_St) : Option I_Out := match stk with
  | .long y :: .long x :: rest => i_n (pc + 1) lv (.long (f x y) :: rest) S
  | _ => none
def i_ld (i len : Nat) (kind : Nat) (pc : Nat) (lv : List (Option Value)) (stk : List Value) (S : I_St) : Option I_Out := match kind, i_get lv i with
  | 0, some (.int x) => i_n (pc + len) lv (.int x :: stk) S
  | 1, some (.long x) => i_n (pc + len) lv (.long x :: stk) S
  | 2, some (.ref x) => i_n (pc + len) lv (.ref x :: stk) S
  | _, _ => none
def i_sto (i len : Nat) (kind : Nat) (pc : Nat) (lv : List (Option Value)) (stk : List Value) (S : I_St) : Option I_Out := match kind, stk with
  | 0, .int x :: rest => if i < lv.length then i_n (pc + len) (i_st1 lv i (.int x)) rest S else none
  | 1, .long x :: rest => if i + 1 < lv.length then i_n (pc + len) (i_st2 lv i (.long x)) rest S else none
  | 2, .ref x :: rest => if i < lv.length then i_n (pc + len) (i_st1 lv i (.ref x)) rest S else none
  | _, _ => none
def i_br (cnd : ClassFile.Cond) (x y : Int32) (t n : Nat) : Nat := match cnd with
  | .eq => if x = y then t else n
  | .ne => if x = y then n else t
  | .lt => if x < y then t else n
  | .ge => if x < y then n else t
  | .gt => if y < x then t else n
  | .le => if y < x then n else t
def i_gf (r : List Nat) (pc : Nat) (lv : List (Option Value)) (stk : List Value) (S : I_St) : Option I_Out := match r, stk with
  | [ci, k, kind, _, _], .ref q :: rest => match S.1[q]? with
    | some (t, _, refs) =>
      if t = 10 + ci then
        if kind = 1 then match refs[k]? with
          | some (some a) => i_n (pc + 3) lv (.ref a :: rest) S
          | _ => none
        else if kind = 3 then none else i_n (pc + 3) lv (.int (S.2.1 q k) :: rest) S
      else none
    | none => if q = 105 ∧ kind = 3 then (if k = 0 then i_n (pc + 3) lv (.int 0 :: rest) S else i_n (pc + 3) lv (.ref 104 :: rest) S) else none
  | _, _ => none
def i_pf (r : List Nat) (pc : Nat) (lv : List (Option Value)) (stk : List Value) (S : I_St) : Option I_Out := match r, stk with
  | [ci, k, kind, _, _], .int x :: .ref q :: rest => match S.1[q]? with
    | some (t, _, _) =>
      if t = 10 + ci then
        if kind = 0 then i_n (pc + 3) lv rest (S.1, i_upI S.2.1 q k x, S.2.2)
        else if kind = 2 ∧ (x = 0 ∨ x = 1) then i_n (pc + 3) lv rest (S.1, i_upI S.2.1 q k x, S.2.2)
        else none
      else none
    | none => none
  | [ci, k, kind, _, _], .ref a :: .ref q :: rest => match S.1[q]? with
    | some (t, n, refs) =>
      if t = 10 + ci ∧ kind = 1 ∧ a < 100 ∧ k < refs.length then i_n (pc + 3) lv rest (S.1.set q (t, n, refs.set k (some a)), S.2)
      else none
    | none => none
  | _, _ => none
def i_ald (tag : Nat) (pc : Nat) (lv : List (Option Value)) (stk : List Value) (S : I_St) : Option I_Out := match stk with
  | .int i :: .ref q :: rest => match i_arr S q with
    | some (t, n, f) => if t = tag ∨ (tag = 2 ∧ t = 3) then (if i < 0 ∨ n ≤ i.toNatClampNeg then none else i_n (pc + 1) lv (.int (f i.toNatClampNeg) :: rest) S) else none
    | none => none
  | _ => none
def i_lald (pc : Nat) (lv : List (Option Value)) (stk : List Value) (S : I_St) : Option I_Out := match stk with
  | .int i :: .ref q :: rest => match S.1[q]? with
    | some (t, n, _) => if t = 1 then (if i < 0 ∨ n ≤ i.toNatClampNeg then none else i_n (pc + 1) lv (.long (S.2.2.1 q i.toNatClampNeg) :: rest) S) else none
    | none => none
  | _ => none
def i_ast (tag : Nat) (pc : Nat) (lv : List (Option Value)) (stk : List Value) (S : I_St) : Option I_Out := match stk with
  | .int x :: .int i :: .ref q :: rest => match S.1[q]? with
    | some (t, n, _) => if t = tag ∧ (tag = 0 ∨ x = 0 ∨ x = 1) then (if i < 0 ∨ n ≤ i.toNatClampNeg then none else i_n (pc + 1) lv rest (S.1, i_upI S.2.1 q i.toNatClampNeg x, S.2.2)) else none
    | none => none
  | _ => none
def i_last (pc : Nat) (lv : List (Option Value)) (stk : List Value) (S : I_St) : Option I_Out := match stk with
  | .long x :: .int i :: .ref q :: rest => match S.1[q]? with
    | some (t, n, _) => if t = 1 then (if i < 0 ∨ n ≤ i.toNatClampNeg then none else i_n (pc + 1) lv rest (S.1, S.2.1, i_upL S.2.2.1 q i.toNatClampNeg x, S.2.2.2)) else none
    | none => none
  | _ => none
def i_alen (pc : Nat) (lv : List (Option Value)) (stk : List Value) (S : I_St) : Option I_Out := match stk with
  | .ref q :: rest => match S.1[q]? with
    | some (t, n, _) => if t < 3 then i_n (pc + 1) lv (.int (Int32.ofNat n) :: rest) S else none
    | none => match i_ext S.2.2.2 q with
      | some (_, n, _) => i_n (pc + 1) lv (.int (Int32.ofNat n) :: rest) S
      | none => none
  | _ => none
def i_cpy (pc : Nat) (lv : List (Option Value)) (stk : List Value) (S : I_St) : Option I_Out := match stk with
  | .int n :: .int dp :: .ref d :: .int sp :: .ref a :: rest => match S.1[a]?, S.1[d]? with
    | some (t0, n0, _), some (t1, n1, _) =>
      if ¬ sp < 0 ∧ ¬ dp < 0 ∧ ¬ n < 0 ∧ sp.toNatClampNeg + n.toNatClampNeg ≤ n0 ∧ dp.toNatClampNeg + n.toNatClampNeg ≤ n1 ∧ (rest.map fun v => v.category).sum ≤ 8 then
        if t0 = 0 ∧ t1 = 0 then i_n (pc + 3) lv rest (S.1, i_row S.2.1 d (va_cpy (S.2.1 a) (S.2.1 d) sp.toNatClampNeg dp.toNatClampNeg n.toNatClampNeg), S.2.2)
        else if t0 = 1 ∧ t1 = 1 then i_n (pc + 3) lv rest (S.1, S.2.1, i_row S.2.2.1 d (va_cpy (S.2.2.1 a) (S.2.2.1 d) sp.toNatClampNeg dp.toNatClampNeg n.toNatClampNeg), S.2.2.2)
        else none
      else none
    | _, _ => none
  | _ => none
def i_new (r : List Nat) (pc : Nat) (lv : List (Option Value)) (stk : List Value) (S : I_St) : Option I_Out := match r with
  | [ci, _, _, _] => if S.1.length < 100 then i_n (pc + 3) lv (.ref S.1.length :: stk) (S.1 ++ [(10 + ci, i_nth ci, List.replicate (i_nth ci) none)], i_row S.2.1 S.1.length (fun _ => 0), S.2.2) else none
  | _ => none
def i_newa (r : List Nat) (pc : Nat) (lv : List (Option Value)) (stk : List Value) (S : I_St) : Option I_Out := match r, stk with
  | [tag, _], .int n :: rest => if S.1.length < 100 ∧ ¬ n < 0 ∧ n.toNatClampNeg ≤ 60000000 then i_n (pc + 2) lv (.ref S.1.length :: rest) (S.1 ++ [(tag, n.toNatClampNeg, [])], i_row S.2.1 S.1.length (fun _ => 0), i_row S.2.2.1 S.1.length (fun _ => 0), S.2.2.2) else none
  | _, _ => none
def i_cl (j : Nat) (args : List Value) (pc : Nat) (lv : List (Option Value)) (rest : List Value) (S : I_St) : Option I_Out :=
  if (rest.map fun v => v.category).sum ≤ 8 then some (.inr (.inl (j, args, (pc + 3, lv, rest, S)))) else none
def i_inv (r : List Nat) (pc : Nat) (lv : List (Option Value)) (stk : List Value) (S : I_St) : Option I_Out := match r with
  | [j, na, _, _, _, _, _, _] => match stk.drop na with
    | .ref q :: rest => if i_isC S q (i_clsOf j) = true then i_cl j (.ref q :: (stk.take na).reverse) pc lv rest S else none
    | _ => none
  | _ => none
def i_ins (r : List Nat) (pc : Nat) (lv : List (Option Value)) (stk : List Value) (S : I_St) : Option I_Out := match r with
  | [_, _, _, _] => match stk with
    | .ref _ :: rest => if (rest.map fun v => v.category).sum ≤ 8 then i_n (pc + 3) lv rest S else none
    | _ => none
  | [j, na, _, _, _, _, _, _] => match stk.drop na with
    | .ref q :: rest => i_cl j (.ref q :: (stk.take na).reverse) pc lv rest S
    | _ => none
  | _ => none
/-- Math.max 1, min 2, abs 3 -/
def i_math (k : Nat) (pc : Nat) (lv : List (Option Value)) (stk : List Value) (S : I_St) : Option I_Out := match stk with
  | .int y :: rest => if (rest.map fun v => v.category).sum ≤ 8 then (
      if k = 3 then i_n (pc + 3) lv (.int (if 0 ≤ y then y else 0 - y) :: rest) S
      else match rest with
        | .int x :: rest2 => if k = 1 then i_n (pc + 3) lv (.int (if x < y then y else x) :: rest2) S else if k = 2 then i_n (pc + 3) lv (.int (if y < x then y else x) :: rest2) S else none
        | _ => none) else none
  | _ => none
def i_invS (r : List Nat) (pc : Nat) (lv : List (Option Value)) (stk : List Value) (S : I_St) : Option I_Out := match r with
  | [_, _, _, _, _] => i_cpy pc lv stk S
  | [k, _, _, _, _, _] => i_math k pc lv stk S
  | [j, na, _, _, _, _, _, _] => if na ≤ stk.length then i_cl j (stk.take na).reverse pc lv (stk.drop na) S else none
  | _ => none
def i_ret (v : Option Value) : Option I_Out := some (.inr (.inr v))
def i_iret (r : List Nat) (stk : List Value) : Option I_Out := match r, stk with
  | [k], [.int x] => if k = 1 ∨ (k = 2 ∧ (x = 0 ∨ x = 1)) ∨ (k = 4 ∧ x = 0) then i_ret (some (.int x)) else none
  | _, _ => none
def i_un (stk : List Value) (f : Int32 → Value) (pc : Nat) (lv : List (Option Value)) (S : I_St) : Option I_Out := match stk with
  | .int x :: rest => i_n (pc + 1) lv (f x :: rest) S
  | _ => none
def i_unL (stk : List Value) (f : Int64 → Value) (pc : Nat) (lv : List (Option Value)) (S : I_St) : Option I_Out := match stk with
  | .long x :: rest => i_n (pc + 1) lv (f x :: rest) S
  | _ => none
def i_do (ins : Instr) (c : Value) (r : List Nat) (sw : List (Int32 × Nat)) (pc : Nat) (lv : List (Option Value)) (stk : List Value) (S : I_St) : Option I_Out := match ins with
  | .iconst _ => i_n (pc + 1) lv (c :: stk) S
  | .bipush _ => i_n (pc + 2) lv (c :: stk) S
  | .sipush _ => i_n (pc + 3) lv (c :: stk) S
  | .lconst _ => i_n (pc + 1) lv (c :: stk) S
  | .ldc _ => match r with
    | [_, _] => i_n (pc + 2) lv (c :: stk) S
    | _ => none
  | .ldc_w _ => match r with
    | [_, _] => i_n (pc + 3) lv (c :: stk) S
    | _ => none
  | .ldc2_w _ => match r with
    | [_] => i_n (pc + 3) lv (c :: stk) S
    | _ => none
  | .getstatic _ => match r with
    | [_, _] => i_n (pc + 3) lv (c :: stk) S
    | _ => none
  | .iload i => i_ld i 2 0 pc lv stk S
  | .iload_n i => i_ld i.val 1 0 pc lv stk S
  | .lload i => i_ld i 2 1 pc lv stk S
  | .lload_n i => i_ld i.val 1 1 pc lv stk S
  | .aload i => i_ld i 2 2 pc lv stk S
  | .aload_n i => i_ld i.val 1 2 pc lv stk S
  | .istore i => i_sto i 2 0 pc lv stk S
  | .istore_n i => i_sto i.val 1 0 pc lv stk S
  | .lstore i => i_sto i 2 1 pc lv stk S
  | .lstore_n i => i_sto i.val 1 1 pc lv stk S
  | .astore i => i_sto i 2 2 pc lv stk S
  | .astore_n i => i_sto i.val 1 2 pc lv stk S
  | .iinc i _ => match i_get lv i, c with
    | some (.int x), .int d => if i < lv.length then i_n (pc + 3) (i_st1 lv i (.int (x + d))) stk S else none
    | _, _ => none
  | .iadd => i_bin (fun x y => x + y) pc lv stk S
  | .isub => i_bin (fun x y => x - y) pc lv stk S
  | .imul => i_bin (fun x y => x * y) pc lv stk S
  | .iand => i_bin (fun x y => x &&& y) pc lv stk S
  | .ior => i_bin (fun x y => x ||| y) pc lv stk S
  | .ixor => i_bin (fun x y => x ^^^ y) pc lv stk S
  | .ishl => i_bin (fun x y => x <<< (y &&& 31)) pc lv stk S
  | .ishr => i_bin (fun x y => x >>> (y &&& 31)) pc lv stk S
  | .iushr => i_bin i_ushr pc lv stk S
  | .idiv => match stk with
    | .int y :: .int x :: rest => if y = 0 then none else i_n (pc + 1) lv (.int (x / y) :: rest) S
    | _ => none
  | .irem => match stk with
    | .int y :: .int x :: rest => if y = 0 then none else i_n (pc + 1) lv (.int (i_rem x y) :: rest) S
    | _ => none
  | .ineg => i_un stk (fun x => .int (-x)) pc lv S
  | .i2l => i_un stk (fun x => .long x.toInt64) pc lv S
  | .i2b => i_un stk (fun x => .int x.toInt8.toInt32) pc lv S
  | .i2s => i_un stk (fun x => .int x.toInt16.toInt32) pc lv S
  | .i2c => i_un stk (fun x => .int (x.toUInt32 % 65536).toInt32) pc lv S
  | .l2i => i_unL stk (fun x => .int x.toInt32) pc lv S
  | .lneg => i_unL stk (fun x => .long (-x)) pc lv S
  | .ladd => i_binL (fun x y => x + y) pc lv stk S
  | .lsub => i_binL (fun x y => x - y) pc lv stk S
  | .lmul => i_binL (fun x y => x * y) pc lv stk S
  | .land => i_binL (fun x y => x &&& y) pc lv stk S
  | .lor => i_binL (fun x y => x ||| y) pc lv stk S
  | .lshl => match stk with
    | .int y :: .long x :: rest => i_n (pc + 1) lv (.long (x <<< (y.toInt64 &&& 63)) :: rest) S
    | _ => none
  | .lcmp => match stk with
    | .long y :: .long x :: rest => i_n (pc + 1) lv (.int (lg_cmp x y) :: rest) S
    | _ => none
  | .dup => match stk with
    | v :: rest => if v.category = 1 then i_n (pc + 1) lv (v :: v :: rest) S else none
    | _ => none
  | .dup2 => match stk with
    | v :: w :: rest => if v.category = 1 ∧ w.category = 1 then i_n (pc + 1) lv (v :: w :: v :: w :: rest) S else none
    | _ => none
  | .pop => match stk with
    | v :: rest => if v.category = 1 then i_n (pc + 1) lv rest S else none
    | _ => none
  | .ifCond cnd _ => match r, stk with
    | [t], .int x :: rest => i_n (i_br cnd x 0 t (pc + 3)) lv rest S
    | _, _ => none
  | .if_icmp cnd _ => match r, stk with
    | [t], .int y :: .int x :: rest => i_n (i_br cnd x y t (pc + 3)) lv rest S
    | _, _ => none
  | .goto _ => match r with
    | [t] => i_n t lv stk S
    | _ => none
  | .tableswitch _ _ _ _ => match r, stk with
    | [d], .int x :: rest => i_n (i_sw x d sw) lv rest S
    | _, _ => none
  | .lookupswitch _ _ => match r, stk with
    | [d], .int x :: rest => i_n (i_sw x d sw) lv rest S
    | _, _ => none
  | .getfield _ => i_gf r pc lv stk S
  | .putfield _ => i_pf r pc lv stk S
  | .iaload => i_ald 0 pc lv stk S
  | .baload => i_ald 2 pc lv stk S
  | .laload => i_lald pc lv stk S
  | .iastore => i_ast 0 pc lv stk S
  | .bastore => i_ast 2 pc lv stk S
  | .lastore => i_last pc lv stk S
  | .arraylength => i_alen pc lv stk S
  | .new _ => i_new r pc lv stk S
  | .newarray _ => i_newa r pc lv stk S
  | .invokevirtual _ => i_inv r pc lv stk S
  | .invokespecial _ => i_ins r pc lv stk S
  | .invokestatic _ => i_invS r pc lv stk S
  | .ireturn => i_iret r stk
  | .lreturn => match stk with
    | [.long x] => i_ret (some (.long x))
    | _ => none
  | .return_ => match stk with
    | [] => i_ret none
    | _ => none
  | _ => none
def i_stp (code : List I_En) (cf : I_Cf) : Option I_Out := match code.lookup cf.1 with
  | none => none
  | some e => i_do e.1 e.2.2.1 e.2.2.2.1 e.2.2.2.2 cf.1 cf.2.1 cf.2.2.1 cf.2.2.2
/-- the answer of a call comes onto the stack -/
def i_res (cf : I_Cf) (v : Option Value) (S : I_St) : I_Cf := (cf.1, cf.2.1, v.toList ++ cf.2.2.1, S)
/-- n steps of a method's code from cf end it with r, S; calls by E -/
def I_Rn (E : Nat → List Value → I_St → Option Value → I_St → Prop) (code : List I_En) : Nat → I_Cf → Option Value → I_St → Prop
  | 0, _, _, _ => False
  | n + 1, cf, r, S' => match i_stp code cf with
    | none => False
    | some (.inl cf') => I_Rn E code n cf' r S'
    | some (.inr (.inl (k, args, cf'))) => ∃ (v : Option Value) (S1 : I_St), E k args cf'.2.2.2 v S1 ∧ I_Rn E code n (i_res cf' v S1) r S'
    | some (.inr (.inr v)) => r = v ∧ S' = cf.2.2.2
def i_slots : List Value → List (Option Value)
  | [] => []
  | v :: vs => if v.category = 2 then some v :: none :: i_slots vs else some v :: i_slots vs
def i_entry (args : List Value) (n : Nat) : List (Option Value) := i_slots args ++ List.replicate (n - (i_slots args).length) none
/-- method j, called with args in S, answers r and leaves S'; at most d frames deep -/
def I_Ex : Nat → Nat → List Value → I_St → Option Value → I_St → Prop
  | 0, _, _, _, _, _ => False
  | d + 1, j, args, S, r, S' => match i_mt j with
    | none => False
    | some e => (i_slots args).length ≤ e.2.2.1 ∧ ∃ n : Nat, I_Rn (I_Ex d) e.2.2.2.2.1 n (0, i_entry args e.2.2.1, [], S) r S'
