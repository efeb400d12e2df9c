/-! ===== part 07: one step of the small machine is a step of the machine ===== -/
def i_lp : List (List Nat) := [[2119, 2121, 2123, 2125, 2127], [1172, 1174, 1176, 1178, 1180, 1182, 1184, 1186, 1188], [2072, 2074, 2076, 2078, 2080, 2082], [1209, 1211, 1213, 1215], [1069, 1071, 1073, 1075, 1077, 1079, 1081, 1083, 1085, 1087], [1132, 1134, 1136, 1138, 1140, 1142, 1144], [2045, 2047, 2049, 2051], [2005, 2007, 2009, 2011, 2013, 2015, 2017, 2019, 2021, 2023, 2025, 2027, 2029, 2031], [2144, 2146, 2148, 2150], [1106, 1108, 1110, 1112, 1114, 1116], [2097, 2099, 2101], [2169, 2171, 2173, 2175, 2177, 2179, 2181, 2183, 2185, 2187, 2189, 2191, 2193, 2195, 2197], [6025, 6027, 6029, 6031, 6033, 6035, 6037, 6039, 6041, 6043, 6045, 6047, 6049, 6051, 6053, 6055, 6057, 6059, 6061, 6063, 6065, 6067, 6069, 6071, 6073, 6075, 6077, 6079, 6081, 6083, 6085, 6087, 6089, 6091, 6093, 6095, 6097, 6099, 6101, 6103, 6105, 6107, 6109, 6111, 6113, 6115, 6117, 6119, 6121, 6123, 6125, 6127, 6129, 6131, 6133, 6135]]
def i_layok : Bool := (List.range i_cls.length).all fun ci => match i_cls[ci]? with
  | some (C, Tb, N) => (List.range N).all fun k => i_has (((i_lp[ci]?).getD [])[k]?.getD 0) (u_lay C Tb k)
  | none => true
set_option maxRecDepth 100000 in
theorem i_layok_true : i_layok = true := by decide +kernel
theorem i_lays {ci : Nat} {C : String} {Tb : u_T} {N : Nat} (h : i_cls[ci]? = some (C, Tb, N)) : ∀ w ∈ u_ws C Tb N, w ∈ i_W0 := by
  intro w hw
  obtain ⟨k, hk, rfl⟩ := List.mem_map.mp hw
  have hl : ci < i_cls.length := (List.getElem?_eq_some_iff.mp h).1
  have h1 := List.all_eq_true.mp i_layok_true ci (List.mem_range.mpr hl)
  rw [h] at h1
  exact i_has_in (List.all_eq_true.mp h1 k hk)
theorem i_clsT {ci : Nat} {C : String} {Tb : u_T} {N : Nat} (h : i_cls[ci]? = some (C, Tb, N)) : (∀ k, k < N → parseFieldDescriptor (Tb k).2.2.1 = some (i_tyOf ci k)) ∧ (∀ a, a < N → ∀ b, b < N → a ≠ b → (Tb a).2.1 ≠ (Tb b).2.1) := by
  match ci, h with
  | 0, h => cases h; exact ⟨tyX0_ok, nmX0⟩
  | 1, h => cases h; exact ⟨tyX1_ok, nmX1⟩
  | 2, h => cases h; exact ⟨tyX2_ok, nmX2⟩
  | 3, h => cases h; exact ⟨tyX3_ok, nmX3⟩
  | 4, h => cases h; exact ⟨tyX4_ok, nmX4⟩
  | 5, h => cases h; exact ⟨tyX5_ok, nmX5⟩
  | 6, h => cases h; exact ⟨tyX6_ok, nmX6⟩
  | 7, h => cases h; exact ⟨tyX7_ok, nmX7⟩
  | 8, h => cases h; exact ⟨tyX8_ok, nmX8⟩
  | 9, h => cases h; exact ⟨tyX9_ok, nmX9⟩
  | 10, h => cases h; exact ⟨tyX10_ok, nmX10⟩
  | 11, h => cases h; exact ⟨tyX11_ok, nmX11⟩
  | 12, h => cases h; exact ⟨tyX12_ok, nmX12⟩
  | n + 13, h => simp [i_cls] at h
theorem i_nth_of {ci : Nat} {C : String} {Tb : u_T} {N : Nat} (h : i_cls[ci]? = some (C, Tb, N)) : i_nth ci = N := by
  unfold i_nth; rw [h]
theorem i_cell_obj {G : I_G} {row : Nat → Int32} {rowL : Nat → Int64} {sh : I_Sh} {ci : Nat} (h : sh.1 = 10 + ci) : i_cell G row rowL sh = .inr (ci, (List.range sh.2.1).map (i_fld G ci row sh.2.2)) := by
  unfold i_cell
  rw [if_neg (by omega), if_neg (by omega), if_neg (by omega), h, show 10 + ci - 10 = ci by omega]
theorem i_cell_0 {G : I_G} {row : Nat → Int32} {rowL : Nat → Int64} {sh : I_Sh} (h : sh.1 = 0) : i_cell G row rowL sh = .inl (G.2.2.1, sh.2.1, .inl row) := by
  unfold i_cell; rw [if_pos h]
theorem i_cell_1 {G : I_G} {row : Nat → Int32} {rowL : Nat → Int64} {sh : I_Sh} (h : sh.1 = 1) : i_cell G row rowL sh = .inl (G.2.2.2.1, sh.2.1, .inr (.inl rowL)) := by
  unfold i_cell; rw [if_neg (by omega), if_pos h]
theorem i_cell_2 {G : I_G} {row : Nat → Int32} {rowL : Nat → Int64} {sh : I_Sh} (h : sh.1 = 2) : i_cell G row rowL sh = .inl (G.2.2.2.2, sh.2.1, .inl row) := by
  unfold i_cell; rw [if_neg (by omega), if_neg (by omega), if_pos h]
def i_sl (S : I_St) : Nat := (S.1.map fun sh => sh.2.1).sum
theorem i_upI_ne {f : Nat → Nat → Int32} {q k i : Nat} {v : Int32} (h : i ≠ q) : i_upI f q k v i = f i := by
  unfold i_upI i_row; rw [if_neg h]
theorem i_upI_eq {f : Nat → Nat → Int32} {q k : Nat} {v : Int32} : i_upI f q k v q = upd (f q) k v := by
  unfold i_upI i_row; rw [if_pos rfl]
theorem i_upL_ne {f : Nat → Nat → Int64} {q k i : Nat} {v : Int64} (h : i ≠ q) : i_upL f q k v i = f i := by
  unfold i_upL i_row; rw [if_neg h]
theorem i_upL_eq {f : Nat → Nat → Int64} {q k : Nat} {v : Int64} : i_upL f q k v q = vp_updL (f q) k v := by
  unfold i_upL i_row; rw [if_pos rfl]
theorem i_row_ne {α : Type} {f : Nat → α} {q i : Nat} {g : α} (h : i ≠ q) : i_row f q g i = f i := by
  unfold i_row; rw [if_neg h]
theorem i_row_eq {α : Type} {f : Nat → α} {q : Nat} {g : α} : i_row f q g q = g := by
  unfold i_row; rw [if_pos rfl]
/-- a frame of a method of ours, from its start on -/
def i_Fr (p : Program) (s : State) (m : MethodId) (args : Array Value) (meth : Method) (c : Code) (cc : ByteArray) (D : va_G) (G : I_G) (own nm : String) (nL : Nat) (ret : Option FieldType) (X : Nat × (Nat → Int32)) : Prop :=
  p.tables.exec = Jvm.exec ∧ c.code = cc ∧ meth.sig.returnType = ret ∧ meth.locks = false ∧ c.maxLocals = nL ∧ s.vm.findClass own = some m.cls ∧ meth.name = nm ∧ (∀ w ∈ i_W0, w.before args s = true) ∧ i_K D G s ∧ i_E G X s s.heap ∧ G.1 ≤ s.heap.size
/-- the goal behind a step -/
def i_KK (p : Program) (l : Launch) (e : Env) (R : Room) (s : State) (m : MethodId) (args : Array Value) (below : List Frame) (meth : Method) (c : Code) (cells slots : Nat) (Q : State → Prop) (D : va_G) (G : I_G) (nL : Nat) (S : I_St) (cf : I_Cf) : Prop :=
  ∀ (ls' : Array Slot) (H' : Heap) (locs' : List Loc) (cells' slots' : Nat), cells' + S.1.length = cells + cf.2.2.2.1.length → slots' + i_sl S = slots + i_sl cf.2.2.2 → i_L G ls' nL cf.2.1 → i_P D G cf.2.2.2 H' → va_S (i_A G) s.heap H' locs' →
    W p l e R s m args below meth c H' locs' cells' slots' Q (F0 m cf.1 ls' (cf.2.2.1.map (i_cv G)))
section ISIM
variable {p : Program} {l : Launch} {e : Env} {R : Room} {s : State} {m : MethodId} {args : Array Value} {below : List Frame} {meth : Method} {c : Code} {H : Heap} {locs : List Loc} {cells slots : Nat} {Q : State → Prop}
variable {cc : ByteArray} {D : va_G} {G : I_G} {own nm : String} {nL : Nat} {ret : Option FieldType} {X : Nat × (Nat → Int32)} {pc : Nat} {ls : Array Slot} {lv : List (Option Value)} {stk : List Value} {S : I_St} {cf : I_Cf}
/-- a step that leaves cells and locals -/
theorem i_pure {pc' : Nat} {stk' : List Value} (hL : i_L G ls nL lv) (hP : i_P D G S H) (hS : va_S (i_A G) s.heap H locs) (kk : i_KK p l e R s m args below meth c cells slots Q D G nL S (pc', lv, stk', S)) : W p l e R s m args below meth c H locs cells slots Q (F0 m pc' ls (stk'.map (i_cv G))) :=
  kk ls H locs cells slots rfl rfl hL hP hS
/-- a field is written -/
theorem i_putcore {Ts : List Jvm.Cond} (hts : ∀ w ∈ Ts, w.before args s = true) (hP : i_P D G S H) (hS : va_S (i_A G) s.heap H locs) (hK : i_K D G s) {C : String} {Tb : u_T} {N ci k q : Nat} {sh : I_Sh} (hc : i_cls[ci]? = some (C, Tb, N)) (hin : ∀ w ∈ u_ws C Tb N, w ∈ Ts) (hk : k < N) (hq : S.1[q]? = some sh) (hsh : sh.1 = 10 + ci) {v : Value} {S' : I_St} {sh' : I_Sh}
    (h1 : S'.1 = S.1.set q sh') (h2 : ∀ i, i ≠ q → S'.2.1 i = S.2.1 i) (h3 : ∀ i, i ≠ q → S'.2.2.1 i = S.2.2.1 i) (hs1 : sh'.1 = 10 + ci) (hs2 : sh'.2.1 = sh.2.1) (hs3 : sh'.2.2.length = sh.2.2.length)
    (hf : ∀ j, j < N → i_fld G ci (S'.2.1 q) sh'.2.2 j = if j = k then i_cv G v else i_fld G ci (S.2.1 q) sh.2.2 j) (hn : narrow (i_tyOf ci k) (i_cv G v) = i_cv G v) (hfit : fits (i_tyOf ci k) (i_cv G v) = true) {rest : List Value} {pc' : Nat}
    (row : ∀ (cf' : Nat) (kf : Class) (fi : Nat) (f : Field) (cell : Cell), s.fieldFound? (Tb k).1 (Tb k).2.1 (Tb k).2.2.1 = some (cf', kf, fi, f) → f.isStatic = false → H[G.1 + q]? = some cell → cell.vm = .none → f.slot < cell.slots.size → narrow f.type (i_cv G v) = i_cv G v → s.fitsSlot cell.cls cell.vm f.slot (i_cv G v) = true → ((Tb k).2.2.2 = false → k2_Sd s f cell.cls (i_cv G v)) →
      (∀ H' : Heap, H'[G.1 + q]? = some (cell.setSlot f.slot (i_cv G v)) → H'.size = H.size → (∀ x, x ≠ G.1 + q → H'[x]? = H[x]?) → W p l e R s m args below meth c H' (locs ++ [⟨G.1 + q, f.slot⟩]) cells slots Q (F0 m pc' ls (rest.map (i_cv G)))) → W p l e R s m args below meth c H locs cells slots Q (F0 m pc ls (i_cv G v :: .ref (G.1 + q) :: rest.map (i_cv G))))
    (hL : i_L G ls nL lv) (hlen : S'.1.length = S.1.length) (hsl : i_sl S' = i_sl S) (kk : i_KK p l e R s m args below meth c cells slots Q D G nL S (pc', lv, rest, S')) : W p l e R s m args below meth c H locs cells slots Q (F0 m pc ls (i_cv G v :: .ref (G.1 + q) :: rest.map (i_cv G))) := by
  have hT := i_clsT hc
  have hap := va_apart (own := "") hts hin (i_tyOf ci) hT.1 hT.2 hK.1 hc
  have he := i_ws_some (G := G) hq
  rw [i_cell_obj hsh] at he
  have hwf := hP.2.2.2 q sh hq
  have hN : sh.2.1 = N := by
    rcases hwf with h | h | h | ⟨ci', h, h', -⟩
    · omega
    · omega
    · omega
    · rw [h', show ci' = ci by omega, i_nth_of hc]
  obtain ⟨r, g1, cell, q1, q2, q3, q4⟩ := hP.1 q _ he
  have hr : r = (C, Tb, N) := Option.some.inj (g1.symm.trans hc)
  subst hr
  obtain ⟨hSl, hfc, kC, hkC, hkind⟩ := hK.1.1 ci _ hc
  obtain ⟨cf', kf, fi, f, hi, hsl2⟩ := hSl k hk
  have hst := (u_facts hfc hkC (u_lays hts hin hk) hi).1
  have hfit2 := u_fits hfc hkC hkind (u_lays hts hin hk) hi (hT.1 k hk) hn hfit
  refine row cf' kf fi f cell hi hst q1 q3 (by rw [hsl2]; exact k2_hasslot (q4 k hk)) hfit2.1 (by rw [q2, q3]; exact hfit2.2) (fun hfin => ?_) (fun H' e1 e2 e3 => ?_)
  · have hlay := hts _ (hin _ (u_in_lay hk))
    unfold u_lay at hlay
    rw [if_neg (by rw [hfin]; decide)] at hlay
    rw [q2]
    exact u_store hfc hkC hkind hlay hi (hT.1 k hk) hn hfit
  · refine kk ls H' _ cells slots (by show _ = _ + S'.1.length; rw [hlen]) (by show _ = _ + i_sl S'; rw [hsl]) hL ?_ (hS.put e2 e3 (Nat.le_add_right _ _))
    refine i_P_set hP hq h1 h2 h3 (Or.inr (Or.inr (Or.inr ⟨ci, hs1, by rw [hs2, hN, i_nth_of hc], ?_⟩))) ?_ e2 e3
    · rcases hwf with h | h | h | ⟨ci', h, h', h''⟩
      · omega
      · omega
      · omega
      · rw [hs3, h'', show ci' = ci by omega]
    · rw [i_cell_obj hs1, hs2, hN]
      refine ⟨_, hc, t_OB.to (V := updV (vp_V ((List.range sh.2.1).map (i_fld G ci (S.2.1 q) sh.2.2))) k (i_cv G v)) ⟨_, e1, q2, q3, by rw [hsl2]; exact t_set q4 hap hk (i_cv G v)⟩ (fun j hj => ?_)⟩
      unfold updV vp_V
      rw [List.getD_eq_getElem?_getD, List.getD_eq_getElem?_getD, List.getElem?_map, List.getElem?_map, hN, List.getElem?_range hj]
      show _ = i_fld G ci (S'.2.1 q) sh'.2.2 j
      rw [hf j hj]
      by_cases hjk : j = k
      · rw [if_pos hjk, if_pos hjk]
      · rw [if_neg hjk, if_neg hjk]; rfl
end ISIM
