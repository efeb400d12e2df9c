/-! ===== part 10: one step: arrays, new cells ===== -/
def i_kdok : Bool := (List.range i_cls.length).all fun ci => (List.range (i_nth ci)).all fun k => if i_isR ci k = true then (match i_tyOf ci k with
  | .object _ => true
  | .array _ => true
  | _ => false) else decide (i_tyOf ci k = .int) || decide (i_tyOf ci k = .boolean)
theorem i_kdok_true : i_kdok = true := by decide +kernel
theorem i_kdty {ci k : Nat} {C : String} {Tb : u_T} {N : Nat} (h : i_cls[ci]? = some (C, Tb, N)) (hk : k < N) : (i_isR ci k = true → (∃ z, i_tyOf ci k = .object z) ∨ ∃ z, i_tyOf ci k = .array z) ∧ (i_isR ci k = false → i_tyOf ci k = .int ∨ i_tyOf ci k = .boolean) := by
  have hl : ci < i_cls.length := (List.getElem?_eq_some_iff.mp h).1
  have h1 := List.all_eq_true.mp (List.all_eq_true.mp i_kdok_true ci (List.mem_range.mpr hl)) k (List.mem_range.mpr (by rw [i_nth_of h]; exact hk))
  refine ⟨fun hR => ?_, fun hR => ?_⟩
  · rw [if_pos hR] at h1
    split at h1
    · exact Or.inl ⟨_, by assumption⟩
    · exact Or.inr ⟨_, by assumption⟩
    · cases h1
  · rw [if_neg (by rw [hR]; decide), Bool.or_eq_true] at h1
    exact h1.imp of_decide_eq_true of_decide_eq_true
section ISIM4
variable {p : Program} {l : Launch} {e : Env} {R : Room} {s : State} {m : MethodId} {args : Array Value} {below : List Frame} {meth : Method} {c : Code} {H : Heap} {locs : List Loc} {cells slots : Nat} {Q : State → Prop}
variable {cc : ByteArray} {D : va_G} {G : I_G} {own nm : String} {nL : Nat} {ret : Option FieldType} {X : Nat × (Nat → Int32)} {pc : Nat} {ls : Array Slot} {lv : List (Option Value)} {stk : List Value} {S : I_St} {cf : I_Cf}
theorem i_arr_cases {q t n : Nat} {f : Nat → Int32} (h : i_arr S q = some (t, n, f)) : (∃ refs, S.1[q]? = some (t, n, refs) ∧ (t = 0 ∨ t = 2) ∧ f = S.2.1 q) ∨ (S.1[q]? = none ∧ i_ext S.2.2.2 q = some (t, n, f)) := by
  unfold i_arr at h
  cases hq : S.1[q]? with
  | none => rw [hq] at h; exact Or.inr ⟨rfl, h⟩
  | some sh =>
    obtain ⟨t', n', refs⟩ := sh
    rw [hq] at h
    dsimp only at h
    split at h
    · rename_i h0
      cases h
      exact Or.inl ⟨refs, by rw [h0], Or.inl rfl, rfl⟩
    · split at h
      · rename_i h2
        cases h
        exact Or.inl ⟨refs, by rw [h2], Or.inr rfl, rfl⟩
      · cases h
theorem i_s_ald {tag : Nat} (F : i_Fr p s m args meth c cc D G own nm nL ret S.2.2.2) (hL : i_L G ls nL lv) (hP : i_P D G S H) (hS : va_S (i_A G) s.heap H locs) (hdg : (tag = 0 ∧ decode cc pc = .ok (.iaload, 1)) ∨ (tag = 2 ∧ decode cc pc = .ok (.baload, 1)))
    (h : i_ald tag pc lv stk S = some (.inl cf)) (kk : i_KK p l e R s m args below meth c cells slots Q D G nL S cf) : W p l e R s m args below meth c H locs cells slots Q (F0 m pc ls (stk.map (i_cv G))) := by
  obtain ⟨hx, hb, hr, hlk, hml, hown, hnm, hts, hK, hE, hG⟩ := F
  unfold i_ald at h
  split at h
  · rename_i i q rest
    cases ha : i_arr S q with
    | none => rw [ha] at h; cases h
    | some y =>
      obtain ⟨t, n, f⟩ := y
      rw [ha] at h
      dsimp only at h
      split at h
      · rename_i ht
        split at h
        · cases h
        · rename_i hin
          cases h
          have k2 : W p l e R s m args below meth c H locs cells slots Q (F0 m (pc + 1) ls (.int (f i.toNatClampNeg) :: rest.map (i_cv G))) := i_pure (stk' := .int (f i.toNatClampNeg) :: rest) hL hP hS kk
          show W p l e R s m args below meth c H locs cells slots Q (F0 m pc ls (.int i :: Value.ref (i_ad G q) :: rest.map (i_cv G)))
          rcases i_arr_cases ha with ⟨refs, hq, ht2, rfl⟩ | ⟨hq, hex⟩
          · have he := i_ws_some (G := G) hq
            rw [i_ad_lt hP hq]
            rcases ht2 with rfl | rfl
            · rw [i_cell_0 rfl] at he
              rcases hdg with ⟨h0, hdg⟩ | ⟨h0, hdg⟩
              · exact va_iald hx hb hK.1 hP.1 q 0 he rfl hin hdg k2
              · omega
            · rw [i_cell_2 rfl] at he
              rcases hdg with ⟨h0, hdg⟩ | ⟨h0, hdg⟩
              · omega
              · exact va_zald hx hb hK.1 hP.1 q 2 he rfl hin hdg k2
          · have hT := hE.1 q t n f hex
            rw [i_ad_ext (i_ext_ge hex)]
            rcases hdg with ⟨h0, hdg⟩ | ⟨h0, hdg⟩
            · have ht0 : t = 0 := by omega
              rw [if_pos ht0] at hT
              exact va_ti hx hb hT hS hin rfl hdg k2
            · have ht0 : t = 2 ∨ t = 3 := by omega
              rw [if_neg (by omega)] at hT
              exact va_tb hx hb hT hS hin rfl hdg k2
      · cases h
  · cases h
theorem i_s_lald (F : i_Fr p s m args meth c cc D G own nm nL ret S.2.2.2) (hL : i_L G ls nL lv) (hP : i_P D G S H) (hS : va_S (i_A G) s.heap H locs) (hdg : decode cc pc = .ok (.laload, 1))
    (h : i_lald pc lv stk S = some (.inl cf)) (kk : i_KK p l e R s m args below meth c cells slots Q D G nL S cf) : W p l e R s m args below meth c H locs cells slots Q (F0 m pc ls (stk.map (i_cv G))) := by
  obtain ⟨hx, hb, hr, hlk, hml, hown, hnm, hts, hK, hE, hG⟩ := F
  unfold i_lald at h
  split at h
  · rename_i i q rest
    cases hq : S.1[q]? with
    | none => rw [hq] at h; cases h
    | some sh =>
      obtain ⟨t, n, refs⟩ := sh
      rw [hq] at h
      dsimp only at h
      split at h
      · rename_i ht
        split at h
        · cases h
        · rename_i hin
          cases h
          have he := i_ws_some (G := G) hq
          rw [i_cell_1 ht] at he
          show W p l e R s m args below meth c H locs cells slots Q (F0 m pc ls (.int i :: Value.ref (i_ad G q) :: rest.map (i_cv G)))
          rw [i_ad_lt hP hq]
          exact va_lald hx hb hK.1 hP.1 q 1 he rfl hin hdg (i_pure (stk' := .long (S.2.2.1 q i.toNatClampNeg) :: rest) hL hP hS kk)
      · cases h
  · cases h
theorem i_s_ast {tag : Nat} (F : i_Fr p s m args meth c cc D G own nm nL ret S.2.2.2) (hL : i_L G ls nL lv) (hP : i_P D G S H) (hS : va_S (i_A G) s.heap H locs) (hdg : (tag = 0 ∧ decode cc pc = .ok (.iastore, 1)) ∨ (tag = 2 ∧ decode cc pc = .ok (.bastore, 1)))
    (h : i_ast tag pc lv stk S = some (.inl cf)) (kk : i_KK p l e R s m args below meth c cells slots Q D G nL S cf) : W p l e R s m args below meth c H locs cells slots Q (F0 m pc ls (stk.map (i_cv G))) := by
  obtain ⟨hx, hb, hr, hlk, hml, hown, hnm, hts, hK, hE, hG⟩ := F
  unfold i_ast at h
  split at h
  · rename_i x i q rest
    cases hq : S.1[q]? with
    | none => rw [hq] at h; cases h
    | some sh =>
      obtain ⟨t, n, refs⟩ := sh
      rw [hq] at h
      dsimp only at h
      split at h
      · rename_i ht
        split at h
        · cases h
        · rename_i hin
          cases h
          have he := i_ws_some (G := G) hq
          show W p l e R s m args below meth c H locs cells slots Q (F0 m pc ls (.int x :: .int i :: Value.ref (i_ad G q) :: rest.map (i_cv G)))
          rw [i_ad_lt hP hq]
          have fin : ∀ (H1 : Heap), va_at D i_cls (G.1 + q, i_cell G (i_upI S.2.1 q i.toNatClampNeg x q) (S.2.2.1 q) (t, n, refs)) H1 → H1.size = H.size → (∀ y : Nat, y ≠ G.1 + q → H1[y]? = H[y]?) → W p l e R s m args below meth c H1 (locs ++ [⟨G.1 + q, i.toNatClampNeg⟩]) cells slots Q (F0 m (pc + 1) ls (rest.map (i_cv G))) := by
            intro H1 hat z oq
            exact kk ls H1 _ cells slots rfl rfl hL (i_P_set (S' := (S.1, i_upI S.2.1 q i.toNatClampNeg x, S.2.2)) hP hq (i_set_same hq) (fun i hi => i_upI_ne hi) (fun _ _ => rfl) (hP.2.2.2 q _ hq) hat z oq) (hS.put z oq (Nat.le_add_right _ _))
          rcases hdg with ⟨h0, hdg⟩ | ⟨h0, hdg⟩
          · have ht0 : t = 0 := by omega
            rw [i_cell_0 ht0] at he
            refine W.iast hx hb (hP.1 q _ he) ((hK.1.2 0 _ rfl).1 n (fun j => .int (S.2.1 q j))) (fun q => by cases q) (by show ¬ (i < 0 ∨ (arrV _ _ _).slots.size ≤ _); rw [arrV_size]; exact hin) rfl rfl hdg fun H1 e z oq => fin H1 ?_ z oq
            rw [i_cell_0 ht0, i_upI_eq]
            show H1[G.1 + q]? = some (vp_cell _ _)
            rw [e, vp_cell_i, vp_cell_i, arrV_store]
            congr 2
            funext y
            by_cases hy : y = i.toNatClampNeg
            · subst hy
              simp [updV, upd]
            · simp [updV, upd, hy]
          · have ht0 : t = 2 := by omega
            rw [i_cell_2 ht0] at he
            refine W.zast hx hb (hP.1 q _ he) ((hK.1.2 2 _ rfl).1 n (fun j => .int (S.2.1 q j))) (fun q => by cases q) (by show ¬ (i < 0 ∨ (arrV _ _ _).slots.size ≤ _); rw [arrV_size]; exact hin) rfl rfl hdg fun H1 e z oq => fin H1 ?_ z oq
            rw [i_cell_2 ht0, i_upI_eq]
            show H1[G.1 + q]? = some (vp_cell _ _)
            rw [(i_bool_nf (ht.2.resolve_left (by omega))).1] at e
            rw [e, vp_cell_i, vp_cell_i, arrV_store]
            congr 2
            funext y
            by_cases hy : y = i.toNatClampNeg
            · subst hy
              simp [updV, upd]
            · simp [updV, upd, hy]
      · cases h
  · cases h
theorem i_s_last (F : i_Fr p s m args meth c cc D G own nm nL ret S.2.2.2) (hL : i_L G ls nL lv) (hP : i_P D G S H) (hS : va_S (i_A G) s.heap H locs) (hdg : decode cc pc = .ok (.lastore, 1))
    (h : i_last pc lv stk S = some (.inl cf)) (kk : i_KK p l e R s m args below meth c cells slots Q D G nL S cf) : W p l e R s m args below meth c H locs cells slots Q (F0 m pc ls (stk.map (i_cv G))) := by
  obtain ⟨hx, hb, hr, hlk, hml, hown, hnm, hts, hK, hE, hG⟩ := F
  unfold i_last at h
  split at h
  · rename_i x i q rest
    cases hq : S.1[q]? with
    | none => rw [hq] at h; cases h
    | some sh =>
      obtain ⟨t, n, refs⟩ := sh
      rw [hq] at h
      dsimp only at h
      split at h
      · rename_i ht
        split at h
        · cases h
        · rename_i hin
          cases h
          have he := i_ws_some (G := G) hq
          show W p l e R s m args below meth c H locs cells slots Q (F0 m pc ls (.long x :: .int i :: Value.ref (i_ad G q) :: rest.map (i_cv G)))
          rw [i_ad_lt hP hq]
          rw [i_cell_1 ht] at he
          refine W.last hx hb (hP.1 q _ he) ((hK.1.2 1 _ rfl).1 n (fun j => .long (S.2.2.1 q j))) (fun q => by cases q) (by show ¬ (i < 0 ∨ (arrV _ _ _).slots.size ≤ _); rw [arrV_size]; exact hin) rfl rfl hdg fun H1 e z oq => ?_
          refine kk ls H1 _ cells slots rfl rfl hL (i_P_set (S' := (S.1, S.2.1, i_upL S.2.2.1 q i.toNatClampNeg x, S.2.2.2)) hP hq (i_set_same hq) (fun _ _ => rfl) (fun i hi => i_upL_ne hi) (hP.2.2.2 q _ hq) ?_ z oq) (hS.put z oq (Nat.le_add_right _ _))
          show va_at D i_cls (G.1 + q, i_cell G (S.2.1 q) (i_upL S.2.2.1 q i.toNatClampNeg x q) (t, n, refs)) H1
          rw [i_cell_1 ht, i_upL_eq]
          show H1[G.1 + q]? = some (vp_cell _ _)
          rw [e, vp_cell_l, vp_cell_l, arrV_store]
          congr 2
          funext y
          by_cases hy : y = i.toNatClampNeg
          · subst hy
            simp [updV, vp_updL]
          · simp [updV, vp_updL, hy]
      · cases h
  · cases h
theorem i_s_alen (F : i_Fr p s m args meth c cc D G own nm nL ret S.2.2.2) (hL : i_L G ls nL lv) (hP : i_P D G S H) (hS : va_S (i_A G) s.heap H locs) (hdg : decode cc pc = .ok (.arraylength, 1))
    (h : i_alen pc lv stk S = some (.inl cf)) (kk : i_KK p l e R s m args below meth c cells slots Q D G nL S cf) : W p l e R s m args below meth c H locs cells slots Q (F0 m pc ls (stk.map (i_cv G))) := by
  obtain ⟨hx, hb, hr, hlk, hml, hown, hnm, hts, hK, hE, hG⟩ := F
  unfold i_alen at h
  split at h
  · rename_i q rest
    cases hq : S.1[q]? with
    | none =>
      rw [hq] at h
      dsimp only at h
      cases hex : i_ext S.2.2.2 q with
      | none => rw [hex] at h; cases h
      | some y =>
        obtain ⟨t, n, f⟩ := y
        rw [hex] at h
        cases h
        show W p l e R s m args below meth c H locs cells slots Q (F0 m pc ls (Value.ref (i_ad G q) :: rest.map (i_cv G)))
        rw [i_ad_ext (i_ext_ge hex)]
        exact va_tlen hx hb (hE.1 q t n f hex) hS rfl hdg (i_pure (stk' := .int (Int32.ofNat n) :: rest) hL hP hS kk)
    | some sh =>
      obtain ⟨t, n, refs⟩ := sh
      rw [hq] at h
      dsimp only at h
      split at h
      · rename_i ht
        cases h
        have he := i_ws_some (G := G) hq
        show W p l e R s m args below meth c H locs cells slots Q (F0 m pc ls (Value.ref (i_ad G q) :: rest.map (i_cv G)))
        rw [i_ad_lt hP hq]
        have k2 : W p l e R s m args below meth c H locs cells slots Q (F0 m (pc + 1) ls (.int (Int32.ofNat n) :: rest.map (i_cv G))) := i_pure (stk' := .int (Int32.ofNat n) :: rest) hL hP hS kk
        rcases (show t = 0 ∨ t = 1 ∨ t = 2 by omega) with rfl | rfl | rfl
        · rw [i_cell_0 rfl] at he
          exact va_alen hx hb hK.1 hP.1 q 0 he rfl rfl hdg k2
        · rw [i_cell_1 rfl] at he
          exact va_alen hx hb hK.1 hP.1 q 1 he rfl rfl hdg k2
        · rw [i_cell_2 rfl] at he
          exact va_alen hx hb hK.1 hP.1 q 2 he rfl rfl hdg k2
      · cases h
  · cases h
theorem i_s_new {idx : Nat} {r : List Nat} (F : i_Fr p s m args meth c cc D G own nm nL ret S.2.2.2) (hL : i_L G ls nL lv) (hP : i_P D G S H) (hS : va_S (i_A G) s.heap H locs)
    (hok : (match r with
    | [ci, p1, p2, p3] => match i_cls[ci]? with
      | some (C, _, N) => i_has p1 (.classLink own idx C) && i_has p2 (.instantiable C N) && i_has p3 (.initialized C)
      | none => false
    | _ => true) = true) (hdg : decode cc pc = .ok (.new idx, 3))
    (h : i_new r pc lv stk S = some (.inl cf)) (hr1 : cells + cf.2.2.2.1.length ≤ R.cells + S.1.length) (hr2 : slots + i_sl cf.2.2.2 ≤ R.slots + i_sl S) (kk : i_KK p l e R s m args below meth c cells slots Q D G nL S cf) : W p l e R s m args below meth c H locs cells slots Q (F0 m pc ls (stk.map (i_cv G))) := by
  obtain ⟨hx, hb, hr, hlk, hml, hown, hnm, hts, hK, hE, hG⟩ := F
  unfold i_new at h
  split at h
  · rename_i ci p1 p2 p3
    dsimp only at hok
    cases hc : i_cls[ci]? with
    | none => rw [hc] at hok; cases hok
    | some y =>
      obtain ⟨C, Tb, N⟩ := y
      rw [hc] at hok
      simp only [Bool.and_eq_true] at hok
      split at h
      · rename_i hl
        cases h
        rw [i_nth_of hc] at hr1 hr2 kk
        simp only [List.length_append, List.length_singleton] at hr1
        simp only [i_sl, List.map_append, List.sum_append, List.map_cons, List.map_nil, List.sum_cons, List.sum_nil] at hr2
        have hT := i_clsT hc
        have hKn := hK.1.1 ci _ hc
        refine W.newcK hx hb hown (hts _ (i_has_in hok.1.1)) (hts _ (i_has_in hok.1.2)) (hts _ (i_has_in hok.2)) rfl hdg (by omega) (by omega) hKn.2.1 hP.2.1 fun H1 kC hkC e1 z1 o1 => ?_
        have hat : va_at D i_cls (G.1 + S.1.length, .inr (ci, (List.range N).map (i_fld G ci (fun _ => 0) (List.replicate N none)))) H1 := by
          refine ⟨_, hc, (u_born (i_tyOf ci) hts (i_lays hc) hKn hkC e1 hT.1).to fun j hj => ?_⟩
          unfold vp_V
          rw [List.getD_eq_getElem?_getD, List.getElem?_map, List.getElem?_range hj]
          show _ = i_fld G ci (fun _ => 0) (List.replicate N none) j
          unfold i_fld
          rw [List.getElem?_replicate, if_pos hj]
          have ht := i_kdty hc hj
          by_cases hR : i_isR ci j = true
          · rw [if_pos hR]
            rcases ht.1 hR with ⟨z, hz⟩ | ⟨z, hz⟩ <;> rw [hz] <;> rfl
          · rw [if_neg hR]
            rcases ht.2 (by simpa using hR) with hz | hz <;> rw [hz] <;> rfl
        have hk := kk ls H1 locs (cells + 1) (slots + N) (by show _ = _ + (S.1 ++ [_]).length; rw [List.length_append]; show _ = _ + (S.1.length + 1); omega) (by
          show slots + N + i_sl S = slots + ((S.1 ++ [(10 + ci, N, List.replicate N none)]).map fun sh : I_Sh => sh.2.1).sum
          rw [List.map_append, List.sum_append]
          show slots + N + (S.1.map fun sh => sh.2.1).sum = slots + ((S.1.map fun sh => sh.2.1).sum + (N + 0))
          omega) hL (i_P_push (S' := (S.1 ++ [(10 + ci, N, List.replicate N none)], i_row S.2.1 S.1.length (fun _ => 0), S.2.2)) hP hl rfl (fun i hi => i_row_ne (by omega)) (fun _ _ => rfl) (Or.inr (Or.inr (Or.inr ⟨ci, rfl, (i_nth_of hc).symm, by rw [i_nth_of hc]; exact List.length_replicate⟩))) (by
            show va_at D i_cls (G.1 + S.1.length, i_cell G (i_row S.2.1 S.1.length (fun _ => 0) S.1.length) _ (10 + ci, N, List.replicate N none)) H1
            rw [i_row_eq, i_cell_obj rfl]
            exact hat) (by rw [z1, hP.2.1]) (fun x hx2 => o1 x (by rw [← hP.2.1]; exact hx2))) ⟨by rw [z1]; have := hS.1; rw [hP.2.1] at this; omega, fun x h1 h2 => by
              rw [o1 x (by have := hS.1; rw [hP.2.1] at this; omega)]; exact hS.2.1 x h1 h2, hS.2.2⟩
        have e9 : i_ad G S.1.length = G.1 + S.1.length := by unfold i_ad; rw [if_pos hl]
        rw [show ((Value.ref S.1.length :: stk).map (i_cv G)) = Value.ref (G.1 + S.1.length) :: stk.map (i_cv G) by rw [← e9]; rfl] at hk
        exact hk
      · cases h
  · cases h
theorem i_s_newa {aty : ArrayType} {r : List Nat} (F : i_Fr p s m args meth c cc D G own nm nL ret S.2.2.2) (hL : i_L G ls nL lv) (hP : i_P D G S H) (hS : va_S (i_A G) s.heap H locs)
    (hok : (match r with
    | [tag, p] => i_has p (.arrayClass (newarray.typeOf aty)) && (match tag with
      | 0 => decide (aty = .int)
      | 1 => decide (aty = .long)
      | 2 => decide (aty = .boolean)
      | _ => false)
    | _ => true) = true) (hdg : decode cc pc = .ok (.newarray aty, 2))
    (h : i_newa r pc lv stk S = some (.inl cf)) (hr1 : cells + cf.2.2.2.1.length ≤ R.cells + S.1.length) (hr2 : slots + i_sl cf.2.2.2 ≤ R.slots + i_sl S) (kk : i_KK p l e R s m args below meth c cells slots Q D G nL S cf) : W p l e R s m args below meth c H locs cells slots Q (F0 m pc ls (stk.map (i_cv G))) := by
  obtain ⟨hx, hb, hr, hlk, hml, hown, hnm, hts, hK, hE, hG⟩ := F
  unfold i_newa at h
  split at h
  · rename_i tag pw n rest
    rw [Bool.and_eq_true] at hok
    split at h
    · rename_i hl
      obtain ⟨hl, hn, hbig⟩ := hl
      cases h
      simp only [List.length_append, List.length_singleton] at hr1
      simp only [i_sl, List.map_append, List.sum_append, List.map_cons, List.map_nil, List.sum_cons, List.sum_nil] at hr2
      have htag : (tag = 0 ∧ aty = .int) ∨ (tag = 1 ∧ aty = .long) ∨ (tag = 2 ∧ aty = .boolean) := by
        have h2 := hok.2
        split at h2
        · exact Or.inl ⟨rfl, of_decide_eq_true h2⟩
        · exact Or.inr (Or.inl ⟨rfl, of_decide_eq_true h2⟩)
        · exact Or.inr (Or.inr ⟨rfl, of_decide_eq_true h2⟩)
        · cases h2
      have hbytes : n.toNatClampNeg * componentBytes (newarray.typeOf aty) ≤ 536870912 := by
        have : componentBytes (newarray.typeOf aty) ≤ 8 := by rcases htag with ⟨-, rfl⟩ | ⟨-, rfl⟩ | ⟨-, rfl⟩ <;> decide
        calc _ ≤ 60000000 * 8 := Nat.mul_le_mul hbig this
          _ ≤ _ := by decide
      refine va_newaK hx hb (hts _ (i_has_in hok.1)) rfl hdg rfl hn rfl hbytes (by omega) (by omega) hP.2.1 fun H1 cA e1 z1 o1 hAr hNm => ?_
      have hat : va_at D i_cls (G.1 + S.1.length, i_cell G (fun _ => 0) (fun _ => 0) (tag, n.toNatClampNeg, [])) H1 := by
        rcases htag with ⟨rfl, rfl⟩ | ⟨rfl, rfl⟩ | ⟨rfl, rfl⟩
        · rw [i_cell_0 rfl]
          have ec : cA = G.2.2.1 := Option.some.inj (hNm.symm.trans (hK.1.2 0 _ rfl).2)
          rw [ec] at e1
          exact e1
        · rw [i_cell_1 rfl]
          have ec : cA = G.2.2.2.1 := Option.some.inj (hNm.symm.trans (hK.1.2 1 _ rfl).2)
          rw [ec] at e1
          exact e1
        · rw [i_cell_2 rfl]
          have ec : cA = G.2.2.2.2 := Option.some.inj (hNm.symm.trans (hK.1.2 2 _ rfl).2)
          rw [ec] at e1
          exact e1
      have hk := kk ls H1 locs (cells + 1) (slots + n.toNatClampNeg) (by show _ = _ + (S.1 ++ [_]).length; rw [List.length_append]; show _ = _ + (S.1.length + 1); omega) (by
        show slots + n.toNatClampNeg + i_sl S = slots + ((S.1 ++ [(tag, n.toNatClampNeg, [])]).map fun sh : I_Sh => sh.2.1).sum
        rw [List.map_append, List.sum_append]
        show slots + n.toNatClampNeg + (S.1.map fun sh => sh.2.1).sum = slots + ((S.1.map fun sh => sh.2.1).sum + (n.toNatClampNeg + 0))
        omega) hL (i_P_push (S' := (S.1 ++ [(tag, n.toNatClampNeg, [])], i_row S.2.1 S.1.length (fun _ => 0), i_row S.2.2.1 S.1.length (fun _ => 0), S.2.2.2)) hP hl rfl (fun i hi => i_row_ne (by omega)) (fun i hi => i_row_ne (by omega)) (by
          rcases htag with ⟨rfl, -⟩ | ⟨rfl, -⟩ | ⟨rfl, -⟩
          · exact Or.inl rfl
          · exact Or.inr (Or.inl rfl)
          · exact Or.inr (Or.inr (Or.inl rfl))) (by
          show va_at D i_cls (G.1 + S.1.length, i_cell G (i_row S.2.1 S.1.length (fun _ => 0) S.1.length) (i_row S.2.2.1 S.1.length (fun _ => 0) S.1.length) (tag, n.toNatClampNeg, [])) H1
          rw [i_row_eq, i_row_eq]
          exact hat) (by rw [z1, hP.2.1]) (fun x hx2 => o1 x (by rw [← hP.2.1]; exact hx2))) ⟨by rw [z1]; have := hS.1; rw [hP.2.1] at this; omega, fun x h1 h2 => by
            rw [o1 x (by have := hS.1; rw [hP.2.1] at this; omega)]; exact hS.2.1 x h1 h2, hS.2.2⟩
      have e9 : i_ad G S.1.length = G.1 + S.1.length := by unfold i_ad; rw [if_pos hl]
      rw [show ((Value.ref S.1.length :: rest).map (i_cv G)) = Value.ref (G.1 + S.1.length) :: rest.map (i_cv G) by rw [← e9]; rfl] at hk
      exact hk
    · cases h
  · cases h
end ISIM4
