/-! ===== part 91: the world at the law's entry ===== -/
/-! THE CLAIM OUT OF ONE WALK OF THE LAW'S BODY. Your part is whole_start (and what it stands on); all else here is the same for every law, but numbers. -/
def R_law : String := "BellGroundLaw"
def lw_P (b : Addr) (xs : List Int32) (args : Array Value) (s : State) : Prop := args = #[.ref b] ∧ s.IntsAt b xs ∧ xs.length ≤ 3072 ∧ (Jvm.Cond.and given_1 narrow_1).before args s = true
def lw_Q (_ : Array Value) (s : State) (o : Outcome) (t : State) : Prop := o = .returned (some (.int 1)) ∧ Framed s o t [] 600000 7302250
def lw_Z (below : List Frame) (a : Array Value) (s : State) : State → Prop := fun t => ∃ o, t.status = .running ∧ Ended t below o ∧ lw_Q a s o t
/-- the law's own end, with 1 on the stack, nothing written that was there before, its room as the claim has it -/
theorem lw_ret {p : Program} {l : Launch} {e : Env} {s : State} {m : MethodId} {below : List Frame} {meth : Method} {c : Code} {b : Nat} (hx : p.tables.exec = Jvm.exec) (hb : c.code = code) (hr : meth.sig.returnType = ret) (hlocks : meth.locks = false) {pc : Nat} {H : Heap} {ls : Array Slot} (hdg : decode code pc = .ok (.ireturn, 1)) : W p l e room_1 s m #[Value.ref b] below meth c H [] 600000 7302250 (lw_Z below #[Value.ref b] s) (F0 m pc ls [.int 1]) := by
  intro T hT X
  obtain ⟨fs, hret, hrun, hended, hW, hframe⟩ := X.leave (v := some (.int 1)) (hlocks := hlocks) (fun h => by rw [hr] at h; cases h)
  have hmeth' : T.vm.method? m = some meth := X.method'
  refine ⟨T.setFrames fs, ?_, .returned (some (.int 1)), hrun, hended, rfl, ⟨_, rfl⟩, hW, hframe⟩
  jvm_step X.here [X.here.top, hx, hb, hdg, hmeth', hr, ret, narrow_b1]
  (try refine ⟨rfl, ?_⟩); (try refine ⟨rfl, ?_⟩)
  first | (intro acts; rw [hret _ acts rfl rfl rfl]) | rw [hret _ _ rfl rfl rfl]
  exact Steps.refl _
/-- what holds at the law's entry: the machine, the code, the tables' words (any of lw_tbl by 'hts w (by decide +kernel)'), the script of L ints xs at the cell b, what the Statement gives of the start (any of its parts by flat_of_before) -/
def lw_At (p : Program) (s : State) (m : MethodId) (meth : Method) (c : Code) (b L : Nat) (xs : Nat → Int32) : Prop :=
  p.tables.exec = Jvm.exec ∧ c.code = code ∧ meth.sig.returnType = ret ∧ c.maxLocals = 4 ∧ s.vm.findClass R_law = some m.cls ∧ (∀ w ∈ lw_tbl, w.before #[Value.ref b] s = true) ∧ va_X b L xs s s.heap ∧ b < s.heap.size ∧ meth.locks = false ∧ (Jvm.Cond.and given_1 narrow_1).before #[Value.ref b] s = true
theorem inst_w : ∀ (k : Nat) (q : vw_C), i_cls[k]? = some q → ∃ p, i_word p = some (Jvm.Cond.instantiable q.1 q.2.2) := by
  intro k q h
  match k, h with
  | 0, h => cases h; exact ⟨2105, by decide +kernel⟩
  | 1, h => cases h; exact ⟨1148, by decide +kernel⟩
  | 2, h => cases h; exact ⟨2055, by decide +kernel⟩
  | 3, h => cases h; exact ⟨1192, by decide +kernel⟩
  | 4, h => cases h; exact ⟨1032, by decide +kernel⟩
  | 5, h => cases h; exact ⟨1120, by decide +kernel⟩
  | 6, h => cases h; exact ⟨2035, by decide +kernel⟩
  | 7, h => cases h; exact ⟨1219, by decide +kernel⟩
  | 8, h => cases h; exact ⟨2131, by decide +kernel⟩
  | 9, h => cases h; exact ⟨1092, by decide +kernel⟩
  | 10, h => cases h; exact ⟨2086, by decide +kernel⟩
  | 11, h => cases h; exact ⟨1024, by decide +kernel⟩
  | 12, h => cases h; exact ⟨5200, by decide +kernel⟩
  | n + 13, h => simp [i_cls] at h
theorem cls_world {s : State} {args : Array Value} (hts : ∀ w ∈ lw_tbl, w.before args s = true) : ∃ D : va_G, ∀ (k : Nat) (q : vw_C), i_cls[k]? = some q → u_Kn s q.1 q.2.1 q.2.2 (D.1 k) (D.2 k) := by
  have h0 : ∀ k : Nat, ∃ c : ClassId × (Nat → Nat), ∀ q : vw_C, i_cls[k]? = some q → u_Kn s q.1 q.2.1 q.2.2 c.1 c.2 := by
    intro k
    cases h : i_cls[k]? with
    | none => exact ⟨(0, fun _ => 0), fun q hq => by cases hq⟩
    | some q =>
      obtain ⟨C, Tb, N⟩ := q
      obtain ⟨p, hp⟩ := inst_w k _ h
      obtain ⟨c, iS, hK⟩ := u_known (ws := i_W0) (C := C) (T := Tb) (N := N) (fun w hw => hts w (List.mem_filter.mp hw).1) (i_lays h) (hts _ (i_word_in hp))
      exact ⟨(c, iS), fun q hq => by cases hq; exact hK⟩
  obtain ⟨f, hf⟩ := Classical.axiomOfChoice h0
  exact ⟨(fun k => (f k).1, fun k => (f k).2), fun k q hq => hf k q hq⟩
theorem arr_world {s : State} {args : Array Value} {ty : FieldType} (h : (Jvm.Cond.arrayClass ty).before args s = true) : ∃ cA : ClassId, ArrOfT s cA ty ∧ s.vm.findClass ("[" ++ ty.toString) = some cA := by
  obtain ⟨cA, kA, comp, h1, h2, h3⟩ := Cond.arrayClass_spec h
  exact ⟨cA, fun n z => ⟨fun k h => (by cases h), kA, h2, comp, h3⟩, h1⟩
def f_nar : List Jvm.Cond := flatC (Jvm.Cond.and given_1 narrow_1)
def tx_M : Jvm.Term := .static "BellGround" "MOST_OF" "[I"
def tx_O : Jvm.Term := .static "BellGround$Bodies" "OWN" "[I"
def tx_V : Jvm.Term := .static "BellGround$Bodies" "ABOVE" "[I"
def tx_S : Jvm.Term := .string "BellGround$Tape" 54
def tx_Y : Jvm.Term := .field tx_S "java/lang/String" "value" "[B"
def l_M : List Int32 := [9, 99, 9, 9, 1, 99, 9]
def l_O : List Int32 := [1, 10, 11, 2, 20, 0, 0, 0, 0, 30, 0, 0, 0, 41, 40, 0, 0, 0, 50, 0, 0, 0, 0, 60, 70, 0, 0, 0, 0, 80, 0, 81]
def l_V : List Int32 := [-1, 0, 0, 2, 1, 3, 0, 4]
def l_Y : List Int32 := [100, 103, 113, 122, 115, 119, 102]
theorem n_M : (Jvm.Cond.arrayOf tx_M .int ∈ f_nar ∧ Jvm.Cond.eq (.length tx_M) (.int (Int32.ofNat 7)) ∈ f_nar) ∧ ∀ j, j < 7 → Jvm.Cond.eq (.elem tx_M (.int (Int32.ofNat j))) (.int (l_M.getD j 0)) ∈ f_nar := by decide +kernel
theorem n_O : (Jvm.Cond.arrayOf tx_O .int ∈ f_nar ∧ Jvm.Cond.eq (.length tx_O) (.int (Int32.ofNat 32)) ∈ f_nar) ∧ ∀ j, j < 32 → Jvm.Cond.eq (.elem tx_O (.int (Int32.ofNat j))) (.int (l_O.getD j 0)) ∈ f_nar := by decide +kernel
theorem n_V : (Jvm.Cond.arrayOf tx_V .int ∈ f_nar ∧ Jvm.Cond.eq (.length tx_V) (.int (Int32.ofNat 8)) ∈ f_nar) ∧ ∀ j, j < 8 → Jvm.Cond.eq (.elem tx_V (.int (Int32.ofNat j))) (.int (l_V.getD j 0)) ∈ f_nar := by decide +kernel
theorem n_Y : (Jvm.Cond.arrayOf tx_Y .byte ∈ f_nar ∧ Jvm.Cond.eq (.length tx_Y) (.int (Int32.ofNat 7)) ∈ f_nar) ∧ ∀ j, j < 7 → Jvm.Cond.eq (.elem tx_Y (.int (Int32.ofNat j))) (.int (l_Y.getD j 0)) ∈ f_nar := by decide +kernel
theorem n_S : Jvm.Cond.exactly tx_S "java/lang/String" ∈ f_nar ∧ Jvm.Cond.eq (.field tx_S "java/lang/String" "coder" "B") (.int 0) ∈ f_nar ∧ Jvm.Cond.eq (.static "java/lang/String" "COMPACT_STRINGS" "Z") (.int 1) ∈ f_nar := by decide +kernel
theorem wd_all : i_word 1090 = some (.arrayClass .int) ∧ i_word 2153 = some (.arrayClass .long) ∧ i_word 6138 = some (.arrayClass .boolean) ∧ i_word 3110 = some (.stringRef "BellGround$Tape" 54 "dgqzswf") ∧ i_word 3030 = some (.laysStatic "BellGround" "MOST_OF" "[I") ∧ i_word 5111 = some (.laysStatic "BellGround$Bodies" "OWN" "[I") ∧ i_word 5113 = some (.laysStatic "BellGround$Bodies" "ABOVE" "[I") ∧ i_word 3124 = some (.laysStatic "java/lang/String" "COMPACT_STRINGS" "Z") ∧ i_word 1001 = some (.initialized "BellGround") ∧ i_word 1012 = some (.initialized "BellGround$Bodies") ∧ i_word 1016 = some (.initialized "java/lang/String") := by decide +kernel
theorem world_0 {p : Program} {s : State} {m : MethodId} {meth : Method} {c : Code} {b L : Nat} {xs : Nat → Int32} (C0 : lw_At p s m meth c b L xs) : ∃ (D : va_G) (G : I_G), G.1 = s.heap.size ∧ G.2.1 100 = b ∧ i_K D G s ∧ i_E G (L, xs) s s.heap := by
  obtain ⟨hx, hb, hr, hml, hown, hts, hX, hbl, hlocks, hgv⟩ := C0
  have hs : ∀ w ∈ f_nar, w.before #[Value.ref b] s = true := flat_of_before _ hgv
  have W : ∀ {p : Nat} {w : Jvm.Cond}, i_word p = some w → w.before #[Value.ref b] s = true := fun h => hts _ (i_word_in h)
  have hA : ∀ a : Nat, a < s.heap.size → ¬ (fun a : Nat => s.heap.size ≤ a) a := fun a h => Nat.not_le.mpr h
  obtain ⟨w1, w2, w3, w4, w5, w6, w7, w8, w9, w10, w11⟩ := wd_all
  obtain ⟨D, hD⟩ := cls_world hts
  obtain ⟨cI, aI, bI⟩ := arr_world (W w1)
  obtain ⟨cL, aL, bL⟩ := arr_world (W w2)
  obtain ⟨cB, aB, bB⟩ := arr_world (W w3)
  obtain ⟨tM, eM, TM⟩ := va_Tof (args := #[Value.ref b]) (tm := tx_M) (ty := .int) (N := 7) (f := fun j => .int (l_M.getD j 0)) (A := fun a : Nat => s.heap.size ≤ a) (by decide) (hs _ n_M.1.1) (va_eqt (hs _ n_M.1.2)) (fun j hj => va_eqt (hs _ (n_M.2 j hj))) hA
  obtain ⟨tO, eO, TO⟩ := va_Tof (args := #[Value.ref b]) (tm := tx_O) (ty := .int) (N := 32) (f := fun j => .int (l_O.getD j 0)) (A := fun a : Nat => s.heap.size ≤ a) (by decide) (hs _ n_O.1.1) (va_eqt (hs _ n_O.1.2)) (fun j hj => va_eqt (hs _ (n_O.2 j hj))) hA
  obtain ⟨tV, eV, TV⟩ := va_Tof (args := #[Value.ref b]) (tm := tx_V) (ty := .int) (N := 8) (f := fun j => .int (l_V.getD j 0)) (A := fun a : Nat => s.heap.size ≤ a) (by decide) (hs _ n_V.1.1) (va_eqt (hs _ n_V.1.2)) (fun j hj => va_eqt (hs _ (n_V.2 j hj))) hA
  obtain ⟨tY, eY, TY⟩ := va_Tof (args := #[Value.ref b]) (tm := tx_Y) (ty := .byte) (N := 7) (f := fun j => .int (l_Y.getD j 0)) (A := fun a : Nat => s.heap.size ≤ a) (by decide) (hs _ n_Y.1.1) (va_eqt (hs _ n_Y.1.2)) (fun j hj => va_eqt (hs _ (n_Y.2 j hj))) hA
  obtain ⟨tS, cS, cA, kA, eS, _⟩ := Cond.exactly_spec (args := #[Value.ref b]) (first := s) (o := none) (s := s) (idx := []) (t := tx_S) (cls := "java/lang/String") (hs _ n_S.1)
  refine ⟨D, (s.heap.size, fun k => if k = 100 then b else if k = 101 then tM else if k = 102 then tO else if k = 103 then tV else if k = 104 then tY else tS, cI, cL, cB), rfl, rfl, ⟨⟨hD, fun k q hk => ?_⟩, fun w hw => ?_, ?_⟩, ?_, ?_, ?_, ?_, ?_, ?_, ?_, ?_⟩
  · match k, hk with
    | 0, hk => cases hk; exact ⟨aI, bI⟩
    | 1, hk => cases hk; exact ⟨aL, bL⟩
    | 2, hk => cases hk; exact ⟨aB, bB⟩
    | n + 3, hk => simp at hk
  · have h1 := hts w (List.mem_filter.mp hw).1
    rcases i_nest (List.mem_filter.mp hw).2 with ⟨a, i, d, n, e, f, rfl⟩ | ⟨a, i, d, n, rfl⟩
    · exact va_tabs rfl rfl h1
    · exact va_tabs rfl rfl h1
  · exact vk_R.of (W w4) eS
  · intro q t n f hq
    unfold i_ext at hq
    split at hq
    · rename_i e
      subst e
      cases hq
      obtain ⟨scr, h1, h2, h3, h4, h5⟩ := hX
      exact ⟨scr, h1, h2, h3, Nat.le_of_eq h4.symm, congrArg Nat.toInt32 h4, h5, hA b hbl⟩
    split at hq
    · rename_i e
      subst e
      cases hq
      exact TM
    split at hq
    · rename_i e
      subst e
      cases hq
      exact TO
    split at hq
    · rename_i e
      subst e
      cases hq
      exact TV
    split at hq
    · rename_i e
      subst e
      cases hq
      exact TY
    · cases hq
  · exact va_Zref (W w5) (W w9) eM hA
  · exact va_Zref (W w6) (W w10) eO hA
  · exact va_Zref (W w7) (W w10) eV hA
  · exact va_Zof (W w8) (W w11) (va_eqi (hs _ n_S.2.2)) hA
  · exact va_Oof (hs _ n_S.1) eS hA
  · exact vk_OFof eS (va_eqt (hs _ n_S.2.1)) hA
  · exact vk_OFof eS eY hA
