/-! ===== part 11: one step: System.arraycopy, Math; every instruction ===== -/
section ISIM5
variable {p : Program} {l : Launch} {e : Env} {R : Room} {s : State} {m : MethodId} {args : Array Value} {below : List Frame} {meth : Method} {c : Code} {H : Heap} {locs : List Loc} {cells slots : Nat} {Q : State → Prop}
variable {cc : ByteArray} {D : va_G} {G : I_G} {own nm : String} {nL : Nat} {ret : Option FieldType} {X : Nat × (Nat → Int32)} {pc : Nat} {ls : Array Slot} {lv : List (Option Value)} {stk : List Value} {S : I_St} {cf : I_Cf}
theorem i_nn {z : Int32} (hz : ¬ z < 0) : z.toInt = (z.toNatClampNeg : Int) := by
  have hz0 : (0 : Int) ≤ z.toInt := by
    have := Int32.not_lt.mp hz
    simpa using Int32.le_iff_toInt_le.mp this
  show z.toInt = ((z.toInt.toNat : Nat) : Int)
  omega
theorem i_copyI (hexec : p.tables.exec = Jvm.exec) (hb : c.code = cc) (hml : c.maxLocals = ls.size) {index : Nat} (hown : s.vm.findClass own = some m.cls) (hlink : (Cond.methodLink own index arraycopyName).before args s = true) (hnat : (Cond.native arraycopyName).before args s = true) (hstat : (Cond.static arraycopyName).before args s = true) (hini : (Cond.initialized "java/lang/System").before args s = true)
    {a0 a1 : Nat} {cA : ClassId} {n0 n1 : Nat} {f g : Nat → Int32} {ty : FieldType} (hA : ArrOfT s cA ty) (hc0 : H[a0]? = some (vp_cell cA (n0, .inl f))) (hc1 : H[a1]? = some (vp_cell cA (n1, .inl g))) (hprim : refKind ty = false)
    {sp dp n : Int32} (h1 : ¬ sp < 0) (h2 : ¬ dp < 0) (h3 : ¬ n < 0) (h4 : sp.toNatClampNeg + n.toNatClampNeg ≤ n0) (h5 : dp.toNatClampNeg + n.toNatClampNeg ≤ n1) (hfit : ∀ i, i < n.toNatClampNeg → fits ty (.int (f (sp.toNatClampNeg + i))) = true)
    {rest : List Value} (hframes : 1 ≤ R.frames) (hlocals : (rest.map fun v => v.category).sum + (nativeFrameWords "java/lang/System" "arraycopy" 5 + 11) ≤ R.locals) (hdg : decode cc pc = .ok (.invokestatic index, 3))
    (kk : ∀ (H1 : Heap) (L : List Loc), H1[a1]? = some (vp_cell cA (n1, .inl (va_cpy f g sp.toNatClampNeg dp.toNatClampNeg n.toNatClampNeg))) → H1.size = H.size → (∀ q : Nat, q ≠ a1 → H1[q]? = H[q]?) → (∀ q ∈ L, q.base = a1) → W p l e R s m args below meth c H1 (locs ++ L) cells slots Q (F0 m (pc + 3) ls rest)) : W p l e R s m args below meth c H locs cells slots Q (F0 m pc ls (.int n :: .int dp :: .ref a1 :: .int sp :: .ref a0 :: rest)) := by
  intro T hT X
  obtain ⟨-, k0, hk0, cm0, hkk0⟩ := hA n0 (fun j => .int (f j))
  obtain ⟨-, k1, hk1, cm1, hkk1⟩ := hA n1 (fun j => .int (g j))
  obtain ⟨vm', X', step⟩ := X.arraycopy hexec hown hlink hnat hstat hini (src := a0) (dst := a1) (cs := vp_cell cA (n0, .inl f)) (cd := vp_cell cA (n1, .inl g)) (srcPos := sp) (destPos := dp) (n := n) (by rw [hT]; exact hc0) (by rw [hT]; exact hc1)
    (fun _ h => by cases h) (fun _ h => by cases h) (fun h => by cases h) (fun h => by cases h) hk0 hk1 hkk0 hkk1 (by simp [hprim]) h1 h2 h3
    (by rw [i_nn h1, i_nn h3]; show ¬ _ > ((arrV cA n0 (fun j => .int (f j))).slots.size : Int); rw [arrV_size]; omega)
    (by rw [i_nn h2, i_nn h3]; show ¬ _ > ((arrV cA n1 (fun j => .int (g j))).slots.size : Int); rw [arrV_size]; omega)
    (fun vm₁ _ i hi => by
      have e : (vp_cell cA (n0, .inl f)).slots.getD (sp.toNatClampNeg + i) .null = .int (f (sp.toNatClampNeg + i)) := by
        show (arrV cA n0 (fun j => .int (f j))).slots.getD _ _ = _
        rw [Array.getD_eq_getD_getElem?, arrV_read _ _ (by omega)]
        rfl
      refine ⟨?_, ?_⟩
      · rw [e]
        exact hfit i hi
      · rw [e]
        exact trivial)
    (g := F0 m pc ls (.int n :: .int dp :: .ref a1 :: .int sp :: .ref a0 :: rest)) rfl (by rw [hml]) (rest := rest) rfl (by rw [hb]; exact hdg) hframes (by show 2 * 0 + _ + _ ≤ _; omega)
  have e1 : copied (vp_cell cA (n0, .inl f)) (vp_cell cA (n1, .inl g)) sp dp n = vp_cell cA (n1, .inl (va_cpy f g sp.toNatClampNeg dp.toNatClampNeg n.toNatClampNeg)) := va_copied (fun z => .int z) cA cA f g h4
  rw [e1] at X' step
  have hl : a1 < H.size := (Array.getElem?_eq_some_iff.mp hc1).1
  have hheap : ((T.setVm vm').setCell a1 (vp_cell cA (n1, .inl (va_cpy f g sp.toNatClampNeg dp.toNatClampNeg n.toNatClampNeg)))).heap = H.setIfInBounds a1 (vp_cell cA (n1, .inl (va_cpy f g sp.toNatClampNeg dp.toNatClampNeg n.toNatClampNeg))) := by rw [← hT]; rfl
  obtain ⟨t, b1, b2⟩ := kk _ _ (show (H.setIfInBounds a1 _)[a1]? = some _ by simp [Array.getElem?_setIfInBounds, hl]) (by simp) (fun q hq => by simp [Array.getElem?_setIfInBounds, Ne.symm hq]) (fun q hq => by
      obtain ⟨z, -, hz⟩ := List.mem_map.mp hq
      rw [← hz]) _ hheap X'
  exact ⟨t, step t b1, b2⟩
theorem i_copyL (hexec : p.tables.exec = Jvm.exec) (hb : c.code = cc) (hml : c.maxLocals = ls.size) {index : Nat} (hown : s.vm.findClass own = some m.cls) (hlink : (Cond.methodLink own index arraycopyName).before args s = true) (hnat : (Cond.native arraycopyName).before args s = true) (hstat : (Cond.static arraycopyName).before args s = true) (hini : (Cond.initialized "java/lang/System").before args s = true)
    {a0 a1 : Nat} {cA : ClassId} {n0 n1 : Nat} {f g : Nat → Int64} {ty : FieldType} (hA : ArrOfT s cA ty) (hc0 : H[a0]? = some (vp_cell cA (n0, .inr (.inl f)))) (hc1 : H[a1]? = some (vp_cell cA (n1, .inr (.inl g)))) (hprim : refKind ty = false)
    {sp dp n : Int32} (h1 : ¬ sp < 0) (h2 : ¬ dp < 0) (h3 : ¬ n < 0) (h4 : sp.toNatClampNeg + n.toNatClampNeg ≤ n0) (h5 : dp.toNatClampNeg + n.toNatClampNeg ≤ n1) (hfit : ∀ i, i < n.toNatClampNeg → fits ty (.long (f (sp.toNatClampNeg + i))) = true)
    {rest : List Value} (hframes : 1 ≤ R.frames) (hlocals : (rest.map fun v => v.category).sum + (nativeFrameWords "java/lang/System" "arraycopy" 5 + 11) ≤ R.locals) (hdg : decode cc pc = .ok (.invokestatic index, 3))
    (kk : ∀ (H1 : Heap) (L : List Loc), H1[a1]? = some (vp_cell cA (n1, .inr (.inl (va_cpy f g sp.toNatClampNeg dp.toNatClampNeg n.toNatClampNeg)))) → H1.size = H.size → (∀ q : Nat, q ≠ a1 → H1[q]? = H[q]?) → (∀ q ∈ L, q.base = a1) → W p l e R s m args below meth c H1 (locs ++ L) cells slots Q (F0 m (pc + 3) ls rest)) : W p l e R s m args below meth c H locs cells slots Q (F0 m pc ls (.int n :: .int dp :: .ref a1 :: .int sp :: .ref a0 :: rest)) := by
  intro T hT X
  obtain ⟨-, k0, hk0, cm0, hkk0⟩ := hA n0 (fun j => .long (f j))
  obtain ⟨-, k1, hk1, cm1, hkk1⟩ := hA n1 (fun j => .long (g j))
  obtain ⟨vm', X', step⟩ := X.arraycopy hexec hown hlink hnat hstat hini (src := a0) (dst := a1) (cs := vp_cell cA (n0, .inr (.inl f))) (cd := vp_cell cA (n1, .inr (.inl g))) (srcPos := sp) (destPos := dp) (n := n) (by rw [hT]; exact hc0) (by rw [hT]; exact hc1)
    (fun _ h => by cases h) (fun _ h => by cases h) (fun h => by cases h) (fun h => by cases h) hk0 hk1 hkk0 hkk1 (by simp [hprim]) h1 h2 h3
    (by rw [i_nn h1, i_nn h3]; show ¬ _ > ((arrV cA n0 (fun j => .long (f j))).slots.size : Int); rw [arrV_size]; omega)
    (by rw [i_nn h2, i_nn h3]; show ¬ _ > ((arrV cA n1 (fun j => .long (g j))).slots.size : Int); rw [arrV_size]; omega)
    (fun vm₁ _ i hi => by
      have e : (vp_cell cA (n0, .inr (.inl f))).slots.getD (sp.toNatClampNeg + i) .null = .long (f (sp.toNatClampNeg + i)) := by
        show (arrV cA n0 (fun j => .long (f j))).slots.getD _ _ = _
        rw [Array.getD_eq_getD_getElem?, arrV_read _ _ (by omega)]
        rfl
      refine ⟨?_, ?_⟩
      · rw [e]
        exact hfit i hi
      · rw [e]
        exact trivial)
    (g := F0 m pc ls (.int n :: .int dp :: .ref a1 :: .int sp :: .ref a0 :: rest)) rfl (by rw [hml]) (rest := rest) rfl (by rw [hb]; exact hdg) hframes (by show 2 * 0 + _ + _ ≤ _; omega)
  have e1 : copied (vp_cell cA (n0, .inr (.inl f))) (vp_cell cA (n1, .inr (.inl g))) sp dp n = vp_cell cA (n1, .inr (.inl (va_cpy f g sp.toNatClampNeg dp.toNatClampNeg n.toNatClampNeg))) := va_copied (fun z => .long z) cA cA f g h4
  rw [e1] at X' step
  have hl : a1 < H.size := (Array.getElem?_eq_some_iff.mp hc1).1
  have hheap : ((T.setVm vm').setCell a1 (vp_cell cA (n1, .inr (.inl (va_cpy f g sp.toNatClampNeg dp.toNatClampNeg n.toNatClampNeg))))).heap = H.setIfInBounds a1 (vp_cell cA (n1, .inr (.inl (va_cpy f g sp.toNatClampNeg dp.toNatClampNeg n.toNatClampNeg)))) := by rw [← hT]; rfl
  obtain ⟨t, b1, b2⟩ := kk _ _ (show (H.setIfInBounds a1 _)[a1]? = some _ by simp [Array.getElem?_setIfInBounds, hl]) (by simp) (fun q hq => by simp [Array.getElem?_setIfInBounds, Ne.symm hq]) (fun q hq => by
      obtain ⟨z, -, hz⟩ := List.mem_map.mp hq
      rw [← hz]) _ hheap X'
  exact ⟨t, step t b1, b2⟩
theorem i_S_upd {H1 : Heap} {L : List Loc} {a : Nat} (hS : va_S (i_A G) s.heap H locs) (ha : i_A G a) (z : H1.size = H.size) (oq : ∀ q : Nat, q ≠ a → H1[q]? = H[q]?) (hL : ∀ q ∈ L, q.base = a) : va_S (i_A G) s.heap H1 (locs ++ L) := by
  refine ⟨by rw [z]; exact hS.1, fun q h1 h2 => ?_, fun q hq => ?_⟩
  · rw [oq q (fun e => h2 (by rw [e]; exact ha))]
    exact hS.2.1 q h1 h2
  · rcases List.mem_append.mp hq with h | h
    · exact hS.2.2 q h
    · rw [hL q h]; exact ha
theorem i_s_cpy {idx p1 p2 p3 p4 k0 : Nat} (F : i_Fr p s m args meth c cc D G own nm nL ret S.2.2.2) (hL : i_L G ls nL lv) (hP : i_P D G S H) (hS : va_S (i_A G) s.heap H locs) (hRf : 1 ≤ R.frames) (hRl : 40 ≤ R.locals)
    (hok : (i_has p1 (.methodLink own idx arraycopyName) && i_has p2 (.native arraycopyName) && i_has p3 (.static arraycopyName) && i_has p4 (.initialized "java/lang/System")) = true) (hdg : decode cc pc = .ok (.invokestatic idx, 3))
    (h : i_cpy pc lv stk S = some (.inl cf)) (kk : i_KK p l e R s m args below meth c cells slots Q D G nL S cf) : W p l e R s m args below meth c H locs cells slots Q (F0 m pc ls (stk.map (i_cv G))) := by
  obtain ⟨hx, hb, hr, hlk, hml, hown, hnm, hts, hK, hE, hG⟩ := F
  simp only [Bool.and_eq_true] at hok
  obtain ⟨⟨⟨w1, w2⟩, w3⟩, w4⟩ := hok
  unfold i_cpy at h
  split at h
  · rename_i n dp d sp a rest
    cases hqa : S.1[a]? with
    | none => rw [hqa] at h; cases h
    | some sa =>
      cases hqd : S.1[d]? with
      | none => rw [hqa, hqd] at h; cases h
      | some sd =>
        obtain ⟨t0, n0, refs0⟩ := sa
        obtain ⟨t1, n1, refs1⟩ := sd
        rw [hqa, hqd] at h
        dsimp only at h
        split at h
        · rename_i hc
          obtain ⟨h1, h2, h3, h4, h5, h6⟩ := hc
          have hea := i_ws_some (G := G) hqa
          have hed := i_ws_some (G := G) hqd
          have hrest : ((rest.map (i_cv G)).map fun v => v.category).sum + (nativeFrameWords "java/lang/System" "arraycopy" 5 + 11) ≤ R.locals := by
            rw [i_cv_sum]
            have : nativeFrameWords "java/lang/System" "arraycopy" 5 ≤ 7 := by decide
            omega
          show W p l e R s m args below meth c H locs cells slots Q (F0 m pc ls (.int n :: .int dp :: Value.ref (i_ad G d) :: .int sp :: Value.ref (i_ad G a) :: rest.map (i_cv G)))
          rw [i_ad_lt hP hqa, i_ad_lt hP hqd]
          split at h
          · rename_i ht
            cases h
            rw [i_cell_0 ht.1] at hea
            rw [i_cell_0 ht.2] at hed
            refine i_copyI hx hb (by rw [hml, hL.2.1]) hown (hts _ (i_has_in w1)) (hts _ (i_has_in w2)) (hts _ (i_has_in w3)) (hts _ (i_has_in w4)) ((hK.1.2 0 _ rfl).1) (hP.1 a _ hea) (hP.1 d _ hed) rfl h1 h2 h3 h4 h5 (fun _ _ => rfl) hRf hrest hdg (fun H1 L e1 z oq hL1 => ?_)
            refine kk ls H1 _ cells slots rfl rfl hL (i_P_set (S' := (S.1, i_row S.2.1 d (va_cpy (S.2.1 a) (S.2.1 d) sp.toNatClampNeg dp.toNatClampNeg n.toNatClampNeg), S.2.2)) hP hqd (i_set_same hqd) (fun i hi => i_row_ne hi) (fun _ _ => rfl) (hP.2.2.2 d _ hqd) ?_ z oq) (i_S_upd hS (Nat.le_add_right _ _) z oq hL1)
            show va_at D i_cls (G.1 + d, i_cell G (i_row S.2.1 d _ d) (S.2.2.1 d) (t1, n1, refs1)) H1
            rw [i_row_eq, i_cell_0 ht.2]
            exact e1
          · split at h
            · rename_i ht
              cases h
              rw [i_cell_1 ht.1] at hea
              rw [i_cell_1 ht.2] at hed
              refine i_copyL hx hb (by rw [hml, hL.2.1]) hown (hts _ (i_has_in w1)) (hts _ (i_has_in w2)) (hts _ (i_has_in w3)) (hts _ (i_has_in w4)) ((hK.1.2 1 _ rfl).1) (hP.1 a _ hea) (hP.1 d _ hed) rfl h1 h2 h3 h4 h5 (fun _ _ => rfl) hRf hrest hdg (fun H1 L e1 z oq hL1 => ?_)
              refine kk ls H1 _ cells slots rfl rfl hL (i_P_set (S' := (S.1, S.2.1, i_row S.2.2.1 d (va_cpy (S.2.2.1 a) (S.2.2.1 d) sp.toNatClampNeg dp.toNatClampNeg n.toNatClampNeg), S.2.2.2)) hP hqd (i_set_same hqd) (fun _ _ => rfl) (fun i hi => i_row_ne hi) (hP.2.2.2 d _ hqd) ?_ z oq) (i_S_upd hS (Nat.le_add_right _ _) z oq hL1)
              show va_at D i_cls (G.1 + d, i_cell G (S.2.1 d) (i_row S.2.2.1 d _ d) (t1, n1, refs1)) H1
              rw [i_row_eq, i_cell_1 ht.2]
              exact e1
            · cases h
        · cases h
  · cases h
end ISIM5
