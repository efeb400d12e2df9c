/-! ===== part 09: one step: fields, arrays, new cells ===== -/
theorem i_kd3 : i_kd.all (fun l => l.all (fun k => decide (k ≠ 3))) = true := by decide +kernel
theorem i_kd_ne3 {ci k : Nat} (h : ((i_kd[ci]?).getD [])[k]? = some 3) : False := by
  cases hx : i_kd[ci]? with
  | none => rw [hx] at h; simp at h
  | some l2 =>
    rw [hx] at h
    have h1 := List.all_eq_true.mp i_kd3 l2 (List.mem_of_getElem? hx)
    have h2 := List.all_eq_true.mp h1 3 (List.mem_of_getElem? h)
    exact absurd rfl (of_decide_eq_true h2)
theorem i_sum_set {l2 : List I_Sh} {q : Nat} {sh sh' : I_Sh} (h : l2[q]? = some sh) (e : sh'.2.1 = sh.2.1) : ((l2.set q sh').map fun z => z.2.1).sum = (l2.map fun z => z.2.1).sum := by
  rw [List.map_set]
  congr 1
  apply List.ext_getElem?
  intro i
  rw [List.getElem?_set]
  by_cases hi : q = i
  · subst hi
    rw [if_pos rfl, if_pos (by rw [List.length_map]; exact (List.getElem?_eq_some_iff.mp h).1), List.getElem?_map, h, e]
    rfl
  · rw [if_neg hi]
theorem i_ext_ge {X : Nat × (Nat → Int32)} {q : Nat} {y : Nat × Nat × (Nat → Int32)} (h : i_ext X q = some y) : 100 ≤ q := by
  unfold i_ext at h
  split at h
  · omega
  split at h
  · omega
  split at h
  · omega
  split at h
  · omega
  split at h
  · omega
  · cases h
theorem i_ad_ext {G : I_G} {q : Nat} (h : 100 ≤ q) : i_ad G q = G.2.1 q := by
  unfold i_ad; rw [if_neg (by omega)]
theorem i_objN {S : I_St} (hw : i_wf S) {q ci : Nat} {sh : I_Sh} (hq : S.1[q]? = some sh) (ht : sh.1 = 10 + ci) : sh.2.1 = i_nth ci ∧ sh.2.2.length = i_nth ci := by
  rcases hw q sh hq with h | h | h | ⟨ci', h, h', h''⟩
  · omega
  · omega
  · omega
  · have e : ci' = ci := by omega
    rw [← e]; exact ⟨h', h''⟩
section ISIM3
variable {p : Program} {l : Launch} {e : Env} {R : Room} {s : State} {m : MethodId} {args : Array Value} {below : List Frame} {meth : Method} {c : Code} {H : Heap} {locs : List Loc} {cells slots : Nat} {Q : State → Prop}
variable {cc : ByteArray} {D : va_G} {G : I_G} {own nm : String} {nL : Nat} {ret : Option FieldType} {X : Nat × (Nat → Int32)} {pc : Nat} {ls : Array Slot} {lv : List (Option Value)} {stk : List Value} {S : I_St} {cf : I_Cf}
theorem i_s_gf {idx : Nat} {r : List Nat} (F : i_Fr p s m args meth c cc D G own nm nL ret S.2.2.2) (hL : i_L G ls nL lv) (hP : i_P D G S H) (hS : va_S (i_A G) s.heap H locs) (hok : i_okF own idx r = true) (hdg : decode cc pc = .ok (.getfield idx, 3))
    (h : i_gf r pc lv stk S = some (.inl cf)) (kk : i_KK p l e R s m args below meth c cells slots Q D G nL S cf) : W p l e R s m args below meth c H locs cells slots Q (F0 m pc ls (stk.map (i_cv G))) := by
  obtain ⟨hx, hb, hr, hlk, hml, hown, hnm, hts, hK, hE, hG⟩ := F
  unfold i_gf at h
  split at h
  · rename_i ci k kind nest wp q rest
    unfold i_okF at hok
    dsimp only at hok
    cases hq : S.1[q]? with
    | some sh =>
      rw [hq] at h
      obtain ⟨t, n, refs⟩ := sh
      dsimp only at h
      by_cases ht : t = 10 + ci
      · rw [if_pos ht] at h
        cases hc : i_cls[ci]? with
        | some y =>
          obtain ⟨C, Tb, N⟩ := y
          rw [hc] at hok
          simp only [Bool.and_eq_true, decide_eq_true_eq] at hok
          obtain ⟨⟨⟨hk, hC⟩, hw⟩, hkd⟩ := hok
          have hN : n = N := ((i_objN hP.2.2.2 hq ht).1).trans (i_nth_of hc)
          have he := i_ws_some (G := G) hq
          rw [i_cell_obj ht] at he
          have hv : ((List.range n).map (i_fld G ci (S.2.1 q) refs))[k]? = some (i_fld G ci (S.2.1 q) refs k) := by
            rw [List.getElem?_map, List.getElem?_range (by omega)]; rfl
          have key : W p l e R s m args below meth c H locs cells slots Q (F0 m (pc + 3) ls (i_fld G ci (S.2.1 q) refs k :: rest.map (i_cv G))) → W p l e R s m args below meth c H locs cells slots Q (F0 m pc ls ((Value.ref q :: rest).map (i_cv G))) := by
            intro k2
            show W p l e R s m args below meth c H locs cells slots Q (F0 m pc ls (Value.ref (i_ad G q) :: rest.map (i_cv G)))
            rw [i_ad_lt hP hq]
            by_cases hn : nest = 0
            · rw [if_pos hn] at hw
              exact va_get (ref := C) hx hb hts (i_lays hc) hown hK.1 hP.1 q he hc k hk (hts _ (i_has_in hw)) (fun x hx2 => by rw [← hC]; exact hx2) hv hdg k2
            · rw [if_neg hn] at hw
              exact va_getN (ref := C) hx hb hts (i_lays hc) hown hK.1 hP.1 q he hc k hk (va_Nw.use rfl (hK.2.1 _ (i_hasN_in hw rfl))) (fun x hx2 => by rw [← hC]; exact hx2) hv hdg k2
          by_cases h1 : kind = 1
          · rw [if_pos h1] at h
            split at h
            · rename_i a ha
              cases h
              refine key ?_
              have e1 : i_fld G ci (S.2.1 q) refs k = i_cv G (.ref a) := by
                unfold i_fld i_isR
                rw [hkd, h1, decide_eq_true rfl, if_pos rfl, ha]
                rfl
              rw [e1]
              exact i_pure hL hP hS kk
            · cases h
          · rw [if_neg h1] at h
            split at h
            · cases h
            · cases h
              refine key ?_
              have e1 : i_fld G ci (S.2.1 q) refs k = i_cv G (.int (S.2.1 q k)) := by
                unfold i_fld i_isR
                rw [hkd, decide_eq_false (fun z => h1 (Option.some.inj z)), if_neg (by decide)]
                rfl
              rw [e1]
              exact i_pure hL hP hS kk
        | none =>
          rw [hc] at hok
          simp only [Bool.and_eq_true, decide_eq_true_eq] at hok
          obtain ⟨⟨h3, -⟩, -⟩ := hok
          rw [if_neg (by omega), if_pos h3] at h
          cases h
      · rw [if_neg ht] at h
        cases h
    | none =>
      rw [hq] at h
      dsimp only at h
      by_cases h5 : q = 105 ∧ kind = 3
      · rw [if_pos h5] at h
        obtain ⟨rfl, rfl⟩ := h5
        cases hc : i_cls[ci]? with
        | some y =>
          obtain ⟨C, Tb, N⟩ := y
          rw [hc] at hok
          simp only [Bool.and_eq_true, decide_eq_true_eq] at hok
          exact (i_kd_ne3 hok.2).elim
        | none =>
          rw [hc] at hok
          simp only [Bool.and_eq_true, decide_eq_true_eq] at hok
          obtain ⟨⟨-, -⟩, hw⟩ := hok
          have ea : i_ad G 105 = G.2.1 105 := i_ad_ext (by decide)
          by_cases hk : k = 0
          · rw [if_pos hk] at h hw
            cases h
            show W p l e R s m args below meth c H locs cells slots Q (F0 m pc ls (Value.ref (i_ad G 105) :: rest.map (i_cv G)))
            rw [ea]
            exact vk_getf hx hb hE.2.2.2.2.2.2.1 hS hown (hts _ (i_has_in hw)) (fun _ h9 => h9) hdg (i_pure (stk' := .int 0 :: rest) hL hP hS kk)
          · rw [if_neg hk] at h hw
            cases h
            show W p l e R s m args below meth c H locs cells slots Q (F0 m pc ls (Value.ref (i_ad G 105) :: rest.map (i_cv G)))
            rw [ea]
            have e4 : i_ad G 104 = G.2.1 104 := i_ad_ext (by decide)
            refine vk_getf hx hb hE.2.2.2.2.2.2.2 hS hown (hts _ (i_has_in hw)) (fun _ h9 => h9) hdg ?_
            rw [← e4]
            exact i_pure (stk' := .ref 104 :: rest) hL hP hS kk
      · rw [if_neg h5] at h
        cases h
  · cases h
/-- putfield: the three ways to a field -/
theorem i_putrow {idx : Nat} {C : String} {Tb : u_T} {N ci k : Nat} (F : i_Fr p s m args meth c cc D G own nm nL ret S.2.2.2) (hc : i_cls[ci]? = some (C, Tb, N)) (hk : k < N) (hC : (Tb k).1 = C) {nest wp : Nat} (hw : (if nest = 0 then i_has wp (.fieldLink own idx C (Tb k).2.1 (Tb k).2.2.1) else i_hasN wp (.fieldLinkNest own idx C (Tb k).2.1 (Tb k).2.2.1 "BellGround")) = true)
    (hfin : (if (Tb k).2.2.2 = true then decide (nest = 0) && decide (nm = "<init>") && decide (own = C) else true) = true) (hdg : decode cc pc = .ok (.putfield idx, 3)) {q : Nat} {v : Value} {st : List Value}
    {cf' : Nat} {kf : Class} {fi : Nat} {f : Field} {cell : Cell} (hi : s.fieldFound? (Tb k).1 (Tb k).2.1 (Tb k).2.2.1 = some (cf', kf, fi, f)) (hst : f.isStatic = false) (hcell : H[q]? = some cell) (hvm : cell.vm = .none) (hlt : f.slot < cell.slots.size) (hn : narrow f.type v = v) (hfit : s.fitsSlot cell.cls cell.vm f.slot v = true) (hsd : (Tb k).2.2.2 = false → k2_Sd s f cell.cls v)
    (k2 : ∀ H' : Heap, H'[q]? = some (cell.setSlot f.slot v) → H'.size = H.size → (∀ x, x ≠ q → H'[x]? = H[x]?) → W p l e R s m args below meth c H' (locs ++ [⟨q, f.slot⟩]) cells slots Q (F0 m (pc + 3) ls st)) : W p l e R s m args below meth c H locs cells slots Q (F0 m pc ls (v :: .ref q :: st)) := by
  obtain ⟨hx, hb, hr, hlk, hml, hown, hnm, hts, hK, hE, hG⟩ := F
  cases hf : (Tb k).2.2.2 with
  | true =>
    rw [if_pos hf] at hfin
    simp only [Bool.and_eq_true, decide_eq_true_eq] at hfin
    obtain ⟨⟨h0, h1⟩, h2⟩ := hfin
    rw [if_pos h0] at hw
    have hlay := hts _ (i_lays hc _ (u_in_lay hk))
    unfold u_lay at hlay
    rw [if_pos hf] at hlay
    have hcf : m.cls = cf' := by
      obtain ⟨_, _, c', _, _, _, -, -, hf', -, -, -, hown2, -⟩ := Cond.laysFinal_spec hlay
      have e1 : c' = cf' := by have := hi.symm.trans hf'; simp at this; exact this.1.symm
      rw [hC, ← h2] at hown2
      rw [← e1]; exact Option.some.inj (hown.symm.trans hown2)
    refine W.putFinK hx hb hown (hts _ (i_has_in hw)) (by rw [← hC]; exact hi) hst hcf (hnm.trans h1) ⟨hn, ?_⟩ hcell hvm hlt rfl rfl hdg k2
    rw [← hvm]; exact hfit
  | false =>
    by_cases h0 : nest = 0
    · rw [if_pos h0] at hw
      exact W.putK hx hb (f := f) ⟨hown, hts _ (i_has_in hw), ⟨_, _, _, by rw [← hC]; exact hi⟩, hst⟩ (hsd hf) hcell hvm hlt rfl rfl hdg k2
    · rw [if_neg h0] at hw
      exact va_WputK hx hb (f := f) hown (va_Nw.use rfl (hK.2.1 _ (i_hasN_in hw rfl))) (by rw [← hC]; exact hi) hst (hsd hf) hcell hvm hlt rfl rfl hdg k2
theorem i_bool_nf {x : Int32} (h : x = 0 ∨ x = 1) : narrow .boolean (.int x) = .int x ∧ fits .boolean (.int x) = true := by
  rcases h with rfl | rfl <;> exact ⟨by decide +kernel, by decide +kernel⟩
theorem i_s_pf {idx : Nat} {r : List Nat} (F : i_Fr p s m args meth c cc D G own nm nL ret S.2.2.2) (hL : i_L G ls nL lv) (hP : i_P D G S H) (hS : va_S (i_A G) s.heap H locs) (hok : i_okF own idx r = true) (hok2 : i_okP own nm r = true) (hdg : decode cc pc = .ok (.putfield idx, 3))
    (h : i_pf r pc lv stk S = some (.inl cf)) (kk : i_KK p l e R s m args below meth c cells slots Q D G nL S cf) : W p l e R s m args below meth c H locs cells slots Q (F0 m pc ls (stk.map (i_cv G))) := by
  have F' := F
  obtain ⟨hx, hb, hr, hlk, hml, hown, hnm, hts, hK, hE, hG⟩ := F'
  unfold i_pf at h
  split at h
  · rename_i ci k kind nest wp x q rest
    unfold i_okF at hok
    unfold i_okP at hok2
    dsimp only at hok hok2
    cases hq : S.1[q]? with
    | none => rw [hq] at h; cases h
    | some sh =>
      rw [hq] at h
      obtain ⟨t, n, refs⟩ := sh
      dsimp only at h
      by_cases ht : t = 10 + ci
      · rw [if_pos ht] at h
        cases hc : i_cls[ci]? with
        | none => rw [hc] at hok2; cases hok2
        | some y =>
          obtain ⟨C, Tb, N⟩ := y
          rw [hc] at hok hok2
          simp only [Bool.and_eq_true, decide_eq_true_eq] at hok
          obtain ⟨⟨⟨hk, hC⟩, hw⟩, hkd⟩ := hok
          rw [Bool.and_eq_true] at hok2
          obtain ⟨hfin, hty⟩ := hok2
          have main : (kind = 0 ∨ kind = 2 ∧ (x = 0 ∨ x = 1)) → i_KK p l e R s m args below meth c cells slots Q D G nL S (pc + 3, lv, rest, (S.1, i_upI S.2.1 q k x, S.2.2)) → W p l e R s m args below meth c H locs cells slots Q (F0 m pc ls ((Value.int x :: Value.ref q :: rest).map (i_cv G))) := by
            intro hkind kk
            have hnR : i_isR ci k = false := by
              unfold i_isR
              rw [hkd]
              exact decide_eq_false (fun z => by have := Option.some.inj z; omega)
            show W p l e R s m args below meth c H locs cells slots Q (F0 m pc ls (i_cv G (Value.int x) :: Value.ref (i_ad G q) :: rest.map (i_cv G)))
            rw [i_ad_lt hP hq]
            have hnf : narrow (i_tyOf ci k) (i_cv G (.int x)) = i_cv G (.int x) ∧ fits (i_tyOf ci k) (i_cv G (.int x)) = true := by
              rcases hkind with h0 | ⟨h2, hx01⟩
              · rw [if_pos h0] at hty
                rw [of_decide_eq_true hty]
                exact ⟨rfl, rfl⟩
              · rw [if_neg (by omega), if_pos h2] at hty
                rw [of_decide_eq_true hty]
                exact i_bool_nf hx01
            refine i_putcore (v := .int x) (S' := (S.1, i_upI S.2.1 q k x, S.2.2)) (sh' := (t, n, refs)) (pc' := pc + 3) hts hP hS hK hc (i_lays hc) hk hq ht (i_set_same hq) (fun i hi => i_upI_ne hi) (fun _ _ => rfl) ht rfl rfl (fun j hj => ?_) hnf.1 hnf.2 (fun cf' kf fi f cell hi hst hcell hvm hlt hn hfit hsd k2 => i_putrow F hc hk hC hw hfin hdg hi hst hcell hvm hlt hn hfit hsd k2) hL rfl rfl kk
            show i_fld G ci (i_upI S.2.1 q k x q) refs j = _
            rw [i_upI_eq]
            by_cases hjk : j = k
            · rw [if_pos hjk, hjk]
              unfold i_fld
              rw [hnR, if_neg (by decide)]
              unfold upd
              rw [if_pos rfl]
              rfl
            · rw [if_neg hjk]
              unfold i_fld upd
              rw [if_neg hjk]
          by_cases h0 : kind = 0
          · rw [if_pos h0] at h
            cases h
            exact main (Or.inl h0) kk
          · rw [if_neg h0] at h
            split at h
            · rename_i h2
              cases h
              exact main (Or.inr h2) kk
            · cases h
      · rw [if_neg ht] at h
        cases h
  · rename_i ci k kind nest wp a q rest
    unfold i_okF at hok
    unfold i_okP at hok2
    dsimp only at hok hok2
    cases hq : S.1[q]? with
    | none => rw [hq] at h; cases h
    | some sh =>
      rw [hq] at h
      obtain ⟨t, n, refs⟩ := sh
      dsimp only at h
      split at h
      · rename_i h4
        obtain ⟨ht, h1, ha, hkl⟩ := h4
        cases h
        cases hc : i_cls[ci]? with
        | none => rw [hc] at hok2; cases hok2
        | some y =>
          obtain ⟨C, Tb, N⟩ := y
          rw [hc] at hok hok2
          simp only [Bool.and_eq_true, decide_eq_true_eq] at hok
          obtain ⟨⟨⟨hk, hC⟩, hw⟩, hkd⟩ := hok
          rw [Bool.and_eq_true] at hok2
          obtain ⟨hfin, hty⟩ := hok2
          have hR : i_isR ci k = true := by
            unfold i_isR
            rw [hkd, h1]
            exact decide_eq_true rfl
          rw [if_neg (by omega), if_neg (by omega)] at hty
          have hnf : narrow (i_tyOf ci k) (i_cv G (.ref a)) = i_cv G (.ref a) ∧ fits (i_tyOf ci k) (i_cv G (.ref a)) = true := by
            split at hty
            · rename_i e1; rw [e1]; exact ⟨rfl, rfl⟩
            · rename_i e1; rw [e1]; exact ⟨rfl, rfl⟩
            · cases hty
          show W p l e R s m args below meth c H locs cells slots Q (F0 m pc ls (i_cv G (Value.ref a) :: Value.ref (i_ad G q) :: rest.map (i_cv G)))
          rw [i_ad_lt hP hq]
          refine i_putcore (v := .ref a) (S' := (S.1.set q (t, n, refs.set k (some a)), S.2)) (sh' := (t, n, refs.set k (some a))) (pc' := pc + 3) hts hP hS hK hc (i_lays hc) hk hq ht rfl (fun i hi => rfl) (fun _ _ => rfl) ht rfl (by simp) (fun j hj => ?_) hnf.1 hnf.2 (fun cf' kf fi f cell hi hst hcell hvm hlt hn hfit hsd k2 => i_putrow F hc hk hC hw hfin hdg hi hst hcell hvm hlt hn hfit hsd k2) hL (by simp) (i_sum_set (sh' := (t, n, refs.set k (some a))) hq rfl) kk
          by_cases hjk : j = k
          · rw [if_pos hjk, hjk]
            unfold i_fld
            rw [hR, if_pos rfl, List.getElem?_set_self hkl]
            rfl
          · rw [if_neg hjk]
            unfold i_fld
            rw [List.getElem?_set_ne (Ne.symm hjk)]
      · cases h
  · cases h
end ISIM3
