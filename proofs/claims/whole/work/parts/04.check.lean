/-! ===== part 04: the decoded code is the bytes' code, its links are the tables' words ===== -/
def i_word (p : Nat) : Option Jvm.Cond := match p / 1000 with
  | 0 => (k2_sels lw_privs)[p % 1000]?
  | 1 => tables_1_1[p % 1000]?
  | 2 => tables_1_2[p % 1000]?
  | 3 => tables_1_3[p % 1000]?
  | 4 => tables_1_4[p % 1000]?
  | 5 => tables_1_5[p % 1000]?
  | 6 => tables_1_6[p % 1000]?
  | 7 => tables_1_7[p % 1000]?
  | 8 => tables_1_8[p % 1000]?
  | _ => none
theorem i_word_in {p : Nat} {w : Jvm.Cond} (h : i_word p = some w) : w ∈ lw_tbl := by
  have key : w ∈ k2_sels lw_privs ∨ w ∈ tables_1_1 ∨ w ∈ tables_1_2 ∨ w ∈ tables_1_3 ∨ w ∈ tables_1_4 ∨ w ∈ tables_1_5 ∨ w ∈ tables_1_6 ∨ w ∈ tables_1_7 ∨ w ∈ tables_1_8 := by
    unfold i_word at h
    split at h
    · exact Or.inl (List.mem_of_getElem? h)
    · exact Or.inr (Or.inl (List.mem_of_getElem? h))
    · exact Or.inr (Or.inr (Or.inl (List.mem_of_getElem? h)))
    · exact Or.inr (Or.inr (Or.inr (Or.inl (List.mem_of_getElem? h))))
    · exact Or.inr (Or.inr (Or.inr (Or.inr (Or.inl (List.mem_of_getElem? h)))))
    · exact Or.inr (Or.inr (Or.inr (Or.inr (Or.inr (Or.inl (List.mem_of_getElem? h))))))
    · exact Or.inr (Or.inr (Or.inr (Or.inr (Or.inr (Or.inr (Or.inl (List.mem_of_getElem? h)))))))
    · exact Or.inr (Or.inr (Or.inr (Or.inr (Or.inr (Or.inr (Or.inr (Or.inl (List.mem_of_getElem? h))))))))
    · exact Or.inr (Or.inr (Or.inr (Or.inr (Or.inr (Or.inr (Or.inr (Or.inr (List.mem_of_getElem? h))))))))
    · cases h
  unfold lw_tbl tables_1
  simp only [List.mem_append]
  rcases key with h | h | h | h | h | h | h | h | h
  · exact Or.inl h
  · exact Or.inr (Or.inl h)
  · exact Or.inr (Or.inr (Or.inl h))
  · exact Or.inr (Or.inr (Or.inr (Or.inl h)))
  · exact Or.inr (Or.inr (Or.inr (Or.inr (Or.inl h))))
  · exact Or.inr (Or.inr (Or.inr (Or.inr (Or.inr (Or.inl h)))))
  · exact Or.inr (Or.inr (Or.inr (Or.inr (Or.inr (Or.inr (Or.inl h))))))
  · exact Or.inr (Or.inr (Or.inr (Or.inr (Or.inr (Or.inr (Or.inr (Or.inl h)))))))
  · exact Or.inr (Or.inr (Or.inr (Or.inr (Or.inr (Or.inr (Or.inr (Or.inr h)))))))
def i_isNest : Jvm.Cond → Bool
  | .fieldLinkNest _ _ _ _ _ _ => true
  | .methodLinkNest _ _ _ _ => true
  | _ => false
/-- the words that a method's contract may ask for; those of nest mates, which are carried beside them -/
def i_W0 : List Jvm.Cond := lw_tbl.filter goodWord
def i_NW : List Jvm.Cond := lw_tbl.filter i_isNest
def i_has (p : Nat) (w : Jvm.Cond) : Bool := decide (i_word p = some w) && goodWord w
def i_hasN (p : Nat) (w : Jvm.Cond) : Bool := decide (i_word p = some w)
theorem i_has_in {p : Nat} {w : Jvm.Cond} (h : i_has p w = true) : w ∈ i_W0 := by
  unfold i_has at h
  simp only [Bool.and_eq_true, decide_eq_true_eq] at h
  exact List.mem_filter.mpr ⟨i_word_in h.1, h.2⟩
theorem i_hasN_in {p : Nat} {w : Jvm.Cond} (h : i_hasN p w = true) (hn : i_isNest w = true) : w ∈ i_NW := by
  unfold i_hasN at h
  simp only [decide_eq_true_eq] at h
  exact List.mem_filter.mpr ⟨i_word_in h, hn⟩
def i_tyOf (ci k : Nat) : FieldType := match i_tys[ci]? with
  | some t => t k
  | none => .int
/-- a field's link, through the class itself or as a nest mate -/
def i_okF (own : String) (idx : Nat) (r : List Nat) : Bool := match r with
  | [ci, k, kind, nest, p] => match i_cls[ci]? with
    | some (C, Tb, N) => decide (k < N) && decide ((Tb k).1 = C) && (if nest = 0 then i_has p (.fieldLink own idx C (Tb k).2.1 (Tb k).2.2.1) else i_hasN p (.fieldLinkNest own idx C (Tb k).2.1 (Tb k).2.2.1 "BellGround")) && decide (((i_kd[ci]?).getD [])[k]? = some kind)
    | none => decide (kind = 3) && decide (ci = 90) && (if k = 0 then i_has p (.fieldLink own idx "java/lang/String" "coder" "B") else i_has p (.fieldLink own idx "java/lang/String" "value" "[B"))
  | _ => true
def i_okP (own nm : String) (r : List Nat) : Bool := match r with
  | [ci, k, kind, nest, _] => match i_cls[ci]? with
    | some (C, Tb, _) => (if (Tb k).2.2.2 = true then decide (nest = 0) && decide (nm = "<init>") && decide (own = C) else true) && (if kind = 0 then decide (i_tyOf ci k = .int) else if kind = 2 then decide (i_tyOf ci k = .boolean) else match i_tyOf ci k with
      | .object _ => true
      | .array _ => true
      | _ => false)
    | none => false
  | _ => true
def i_okC (own : String) (idx : Nat) (how : Nat) (r : List Nat) : Bool := match r with
  | [j, na, nest, p1, p2, p3, p4, p5] => match i_mt j with
    | some (y, bytes, maxL, ret, _, ci) =>
      (if nest = 0 then i_has p1 (.methodLink own idx y) else i_hasN p1 (.methodLinkNest own idx y "BellGround")) &&
      (if how = 1 then i_has p2 (.static y) else i_has p2 (.instanceMethod y)) &&
      (if how = 0 then i_has p3 (.selects y.cls y y) && (if ci = 90 then decide (y.cls = "java/lang/String") else match i_cls[ci]? with
        | some q => decide (q.1 = y.cls)
        | none => false) else true) &&
      (if how = 2 then decide (y.name = "<init>") && decide (ret = none) else true) &&
      i_has p4 (.initialized y.cls) && i_has p5 (.code y bytes maxL ret) && decide (maxL ≤ 30) &&
      decide (y.cls ≠ "java/lang/invoke/MethodHandle") && decide (y.cls ≠ "java/lang/invoke/VarHandle") && decide ((parseMethodDescriptor y.desc).map (fun d => d.parameters.length) = some na)
    | none => false
  | _ => true
def i_len : Instr → Nat
  | .bipush _ => 2
  | .ldc _ => 2
  | .iload _ => 2
  | .lload _ => 2
  | .aload _ => 2
  | .istore _ => 2
  | .lstore _ => 2
  | .astore _ => 2
  | .newarray _ => 2
  | .sipush _ => 3
  | .ldc_w _ => 3
  | .ldc2_w _ => 3
  | .getstatic _ => 3
  | .getfield _ => 3
  | .putfield _ => 3
  | .iinc _ _ => 3
  | .ifCond _ _ => 3
  | .if_icmp _ _ => 3
  | .goto _ => 3
  | .new _ => 3
  | .invokevirtual _ => 3
  | .invokespecial _ => 3
  | .invokestatic _ => 3
  | .tableswitch _ _ _ _ => 0
  | .lookupswitch _ _ => 0
  | _ => 1
def i_okR (own nm : String) (pc : Nat) (ins : Instr) (c : Value) (r : List Nat) (sw : List (Int32 × Nat)) (ret : Option FieldType) : Bool := match ins with
  | .iconst n => decide (c = .int (Int32.ofInt n))
  | .bipush n => decide (c = .int (Int8.ofInt n).toInt32)
  | .sipush n => decide (c = .int (Int16.ofInt n).toInt32)
  | .lconst n => decide (c = .long (Int64.ofNat (n : Nat)))
  | .iinc _ n => decide (c = .int (Int32.ofInt n))
  | .ldc idx => match r, c with
    | [0, p], .int v => i_has p (.constant own idx v)
    | [1, _], .ref q => decide (own = "BellGround$Tape") && decide (idx = 54) && decide (q = 105)
    | [], _ => true
    | _, _ => false
  | .ldc_w idx => match r, c with
    | [0, p], .int v => i_has p (.constant own idx v)
    | [], _ => true
    | _, _ => false
  | .ldc2_w idx => match r, c with
    | [p], .long v => i_has p (.constantLong own idx v)
    | [], _ => true
    | _, _ => false
  | .getstatic idx => match r, c with
    | [1, p], .ref q => decide (q = 101) && i_has p (.fieldLink own idx "BellGround" "MOST_OF" "[I")
    | [2, p], .ref q => decide (q = 102) && i_has p (.fieldLink own idx "BellGround$Bodies" "OWN" "[I")
    | [3, p], .ref q => decide (q = 103) && i_has p (.fieldLink own idx "BellGround$Bodies" "ABOVE" "[I")
    | [9, p], .int v => decide (v = 1) && i_has p (.fieldLink own idx "java/lang/String" "COMPACT_STRINGS" "Z")
    | [], _ => true
    | _, _ => false
  | .ifCond _ off => match r with
    | [t] => decide ((pc : Int) + off = (t : Int))
    | _ => true
  | .if_icmp _ off => match r with
    | [t] => decide ((pc : Int) + off = (t : Int))
    | _ => true
  | .goto off => match r with
    | [t] => decide ((pc : Int) + off = (t : Int))
    | _ => true
  | .tableswitch dflt lo hi offs => match r with
    | [d] => decide ((pc : Int) + dflt = (d : Int)) && decide (lo ≤ hi) && decide (-1000 < lo) && decide (hi < 1000) && decide (sw = (List.range (hi - lo + 1).toNat).map (fun i : Nat => (Int32.ofInt (lo + (i : Int)), ((pc : Int) + (offs[i]?).getD 0).toNat))) && decide (offs.size = (hi - lo + 1).toNat) && offs.toList.all (fun o => decide (0 ≤ (pc : Int) + o))
    | _ => true
  | .lookupswitch dflt ps => match r with
    | [d] => decide ((pc : Int) + dflt = (d : Int)) && (ps.toList.zip (ps.toList.drop 1)).all (fun (a, next) => a.1 < next.1) && decide (sw = ps.toList.map (fun q => (Int32.ofInt q.1, ((pc : Int) + q.2).toNat))) && ps.toList.all (fun q => decide (0 ≤ (pc : Int) + q.2) && decide (-1000 < q.1) && decide (q.1 < 1000))
    | _ => true
  | .getfield idx => i_okF own idx r
  | .putfield idx => i_okF own idx r && i_okP own nm r
  | .new idx => match r with
    | [ci, p1, p2, p3] => match i_cls[ci]? with
      | some (C, _, N) => i_has p1 (.classLink own idx C) && i_has p2 (.instantiable C N) && i_has p3 (.initialized C)
      | none => false
    | _ => true
  | .newarray ty => match r with
    | [tag, p] => i_has p (.arrayClass (newarray.typeOf ty)) && (match tag with
      | 0 => decide (ty = .int)
      | 1 => decide (ty = .long)
      | 2 => decide (ty = .boolean)
      | _ => false)
    | _ => true
  | .invokevirtual idx => i_okC own idx 0 r
  | .invokestatic idx => match r with
    | [_, p1, p2, p3, p4] => i_has p1 (.methodLink own idx arraycopyName) && i_has p2 (.native arraycopyName) && i_has p3 (.static arraycopyName) && i_has p4 (.initialized "java/lang/System")
    | [k, p1, p2, p3, p4, _] => i_has p3 (.initialized "java/lang/Math") && (match k with
      | 1 => i_has p1 (.methodLink own idx Lib.Math.max.name) && i_has p2 (.static Lib.Math.max.name) && i_has p4 (.code Lib.Math.max.name Lib.Math.max.code 2 (some .int))
      | 2 => i_has p1 (.methodLink own idx Lib.Math.min.name) && i_has p2 (.static Lib.Math.min.name) && i_has p4 (.code Lib.Math.min.name Lib.Math.min.code 2 (some .int))
      | 3 => i_has p1 (.methodLink own idx Lib.Math.abs.name) && i_has p2 (.static Lib.Math.abs.name) && i_has p4 (.code Lib.Math.abs.name Lib.Math.abs.code 1 (some .int))
      | _ => false)
    | _ => i_okC own idx 1 r
  | .invokespecial idx => match r with
    | [_, p1, p2, p3] => i_has p1 (.methodLink own idx objectInit) && i_has p2 (.instanceMethod objectInit) && i_has p3 (.code objectInit object_method_1_code 1 none)
    | _ => i_okC own idx 2 r
  | .ireturn => match r with
    | [1] => decide (ret = some .int)
    | [2] => decide (ret = some .boolean)
    | [4] => decide (ret = some .byte)
    | _ => false
  | .lreturn => decide (ret = some .long)
  | .return_ => decide (ret = none)
  | _ => true
def i_okE (own nm : String) (bytes : ByteArray) (ret : Option FieldType) (e : I_En) : Bool :=
  decide (decode bytes e.1 = .ok (e.2.1, e.2.2.1)) && (decide (i_len e.2.1 = 0) || decide (e.2.2.1 = i_len e.2.1)) && i_okR own nm e.1 e.2.1 e.2.2.2.1 e.2.2.2.2.1 e.2.2.2.2.2 ret
def i_okM (e : I_Row) : Bool := e.2.2.2.2.1.all (i_okE e.1.cls e.1.name e.2.1 e.2.2.2.1) && plainName e.1.cls && decide (e.2.2.1 ≤ 30)
