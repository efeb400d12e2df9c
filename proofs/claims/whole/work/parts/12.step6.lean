/-! ===== part 12: every instruction that is no call and no return ===== -/
section ISIM6
variable {p : Program} {l : Launch} {e : Env} {R : Room} {s : State} {m : MethodId} {args : Array Value} {below : List Frame} {meth : Method} {c : Code} {H : Heap} {locs : List Loc} {cells slots : Nat} {Q : State → Prop}
variable {cc : ByteArray} {D : va_G} {G : I_G} {own nm : String} {nL : Nat} {ret : Option FieldType} {X : Nat × (Nat → Int32)} {pc : Nat} {ls : Array Slot} {lv : List (Option Value)} {stk : List Value} {S : I_St} {cf : I_Cf}
theorem i_cat_int {v : Value} {x : Int32} (h : v = .int x) : i_cv G v = v := by subst h; rfl
theorem i_cat_long {v : Value} {x : Int64} (h : v = .long x) : i_cv G v = v := by subst h; rfl
theorem i_s_math {idx k p1 p2 p3 p4 : Nat} (F : i_Fr p s m args meth c cc D G own nm nL ret S.2.2.2) (hL : i_L G ls nL lv) (hP : i_P D G S H) (hS : va_S (i_A G) s.heap H locs) (hRf : 1 ≤ R.frames) (hRl : 40 ≤ R.locals)
    (hok : (i_has p3 (.initialized "java/lang/Math") && (match k with
        | 1 => i_has p1 (.methodLink own idx Lib.Math.max.name) && i_has p2 (.static Lib.Math.max.name) && i_has p4 (.code Lib.Math.max.name Lib.Math.max.code 2 (some .int))
        | 2 => i_has p1 (.methodLink own idx Lib.Math.min.name) && i_has p2 (.static Lib.Math.min.name) && i_has p4 (.code Lib.Math.min.name Lib.Math.min.code 2 (some .int))
        | 3 => i_has p1 (.methodLink own idx Lib.Math.abs.name) && i_has p2 (.static Lib.Math.abs.name) && i_has p4 (.code Lib.Math.abs.name Lib.Math.abs.code 1 (some .int))
        | _ => false)) = true) (hdg : decode cc pc = .ok (.invokestatic idx, 3))
    (h : i_math k pc lv stk S = some (.inl cf)) (hr1 : cells + cf.2.2.2.1.length ≤ R.cells + S.1.length) (hr2 : slots + i_sl cf.2.2.2 ≤ R.slots + i_sl S) (hm1 : S.1.length ≤ cf.2.2.2.1.length) (hm2 : i_sl S ≤ i_sl cf.2.2.2) (kk : i_KK p l e R s m args below meth c cells slots Q D G nL S cf) : W p l e R s m args below meth c H locs cells slots Q (F0 m pc ls (stk.map (i_cv G))) := by
  obtain ⟨hx, hb, hr, hlk, hml, hown, hnm, hts, hK, hE, hG⟩ := F
  rw [Bool.and_eq_true] at hok
  obtain ⟨hini, hR3⟩ := hok
  have hcr : cells ≤ R.cells := by omega
  have hsr : slots ≤ R.slots := by omega
  have hmls : c.maxLocals = ls.size := by rw [hml, hL.2.1]
  cases stk with
  | nil => cases h
  | cons v rest =>
    cases v with
    | int y =>
      unfold i_math at h
      dsimp only at h
      by_cases hsum : (rest.map fun v => v.category).sum ≤ 8
      · rw [if_pos hsum] at h
        have hq : ((rest.map (i_cv G)).map fun v => v.category).sum + 13 ≤ R.locals := by rw [i_cv_sum]; omega
        by_cases hk : k = 3
        · rw [if_pos hk] at h
          subst hk
          cases h
          simp only [Bool.and_eq_true] at hR3
          exact va_mabs hx hb hmls hown (hts _ (i_has_in hR3.1.1)) (hts _ (i_has_in hR3.1.2)) (hts _ (i_has_in hini)) (hts _ (i_has_in hR3.2)) hRf hq hcr hsr hdg (i_pure (stk' := .int _ :: rest) hL hP hS kk)
        · rw [if_neg hk] at h
          cases rest with
          | nil => cases h
          | cons w rest2 =>
            have hq2 : ((rest2.map (i_cv G)).map fun v => v.category).sum + 13 ≤ R.locals := by
              rw [i_cv_sum]
              have : ((w :: rest2).map fun v => v.category).sum = w.category + (rest2.map fun v => v.category).sum := rfl
              omega
            cases w with
            | int x =>
              dsimp only at h
              by_cases hk1 : k = 1
              · rw [if_pos hk1] at h
                subst hk1
                cases h
                simp only [Bool.and_eq_true] at hR3
                exact va_mmax hx hb hmls hown (hts _ (i_has_in hR3.1.1)) (hts _ (i_has_in hR3.1.2)) (hts _ (i_has_in hini)) (hts _ (i_has_in hR3.2)) hRf hq2 hcr hsr hdg (i_pure (stk' := .int _ :: rest2) hL hP hS kk)
              · rw [if_neg hk1] at h
                by_cases hk2 : k = 2
                · rw [if_pos hk2] at h
                  subst hk2
                  cases h
                  simp only [Bool.and_eq_true] at hR3
                  exact va_mmin hx hb hmls hown (hts _ (i_has_in hR3.1.1)) (hts _ (i_has_in hR3.1.2)) (hts _ (i_has_in hini)) (hts _ (i_has_in hR3.2)) hRf hq2 hcr hsr hdg (i_pure (stk' := .int _ :: rest2) hL hP hS kk)
                · rw [if_neg hk2] at h
                  cases h
            | _ => cases h
      · rw [if_neg hsum] at h
        cases h
    | _ => cases h
set_option maxHeartbeats 4000000 in
theorem i_step {ins : Instr} {len : Nat} {cst : Value} {r : List Nat} {sw : List (Int32 × Nat)} (F : i_Fr p s m args meth c cc D G own nm nL ret S.2.2.2) (hL : i_L G ls nL lv) (hP : i_P D G S H) (hS : va_S (i_A G) s.heap H locs) (hRf : 1 ≤ R.frames) (hRl : 40 ≤ R.locals)
    (hok : i_okE own nm cc ret (pc, ins, len, cst, r, sw) = true) (h : i_do ins cst r sw pc lv stk S = some (.inl cf)) (hr1 : cells + cf.2.2.2.1.length ≤ R.cells + S.1.length) (hr2 : slots + i_sl cf.2.2.2 ≤ R.slots + i_sl S) (hm1 : S.1.length ≤ cf.2.2.2.1.length) (hm2 : i_sl S ≤ i_sl cf.2.2.2)
    (kk : i_KK p l e R s m args below meth c cells slots Q D G nL S cf) : W p l e R s m args below meth c H locs cells slots Q (F0 m pc ls (stk.map (i_cv G))) := by
  have F' := F
  obtain ⟨hx, hb, hr, hlk, hml, hown, hnm, hts, hK, hE, hG⟩ := F'
  simp only [i_okE, Bool.and_eq_true, Bool.or_eq_true, decide_eq_true_eq] at hok
  obtain ⟨⟨hdg, hlen⟩, hR⟩ := hok
  cases ins
  case iconst n =>
    rcases hlen with h0 | rfl
    · exact absurd h0 (by simp [i_len])
    have hc := of_decide_eq_true hR
    cases h
    exact lv_iconst hx hb hdg rfl (by rw [hc] at kk; exact i_pure hL hP hS kk)
  case bipush n =>
    rcases hlen with h0 | rfl
    · exact absurd h0 (by simp [i_len])
    have hc := of_decide_eq_true hR
    cases h
    exact lv_bipush hx hb hdg rfl (by rw [hc] at kk; exact i_pure hL hP hS kk)
  case sipush n =>
    rcases hlen with h0 | rfl
    · exact absurd h0 (by simp [i_len])
    have hc := of_decide_eq_true hR
    cases h
    exact lv_sipush hx hb hdg rfl (by rw [hc] at kk; exact i_pure hL hP hS kk)
  case lconst n =>
    rcases hlen with h0 | rfl
    · exact absurd h0 (by simp [i_len])
    have hc := of_decide_eq_true hR
    cases h
    exact lv_lconst hx hb hdg rfl (by rw [hc] at kk; exact i_pure hL hP hS kk)
  case ldc idx =>
    rcases hlen with h0 | rfl
    · exact absurd h0 (by simp [i_len])
    unfold i_okR at hR
    dsimp only at hR
    split at hR
    · cases h
      exact lv_ldc hx hb hown (hts _ (i_has_in hR)) hdg (i_pure hL hP hS kk)
    · simp only [Bool.and_eq_true, decide_eq_true_eq] at hR
      obtain ⟨⟨h1, rfl⟩, rfl⟩ := hR
      cases h
      rw [h1] at hown
      refine va_ldcS hx hb hown hK.2.2 hdg ?_
      have e5 : i_ad G 105 = G.2.1 105 := i_ad_ext (by decide)
      rw [← e5]
      exact i_pure (stk' := .ref 105 :: stk) hL hP hS kk
    · cases h
    · cases hR
  case ldc_w idx =>
    rcases hlen with h0 | rfl
    · exact absurd h0 (by simp [i_len])
    unfold i_okR at hR
    dsimp only at hR
    split at hR
    · cases h
      exact lv_ldcw hx hb hown (hts _ (i_has_in hR)) hdg (i_pure hL hP hS kk)
    · cases h
    · cases hR
  case ldc2_w idx =>
    rcases hlen with h0 | rfl
    · exact absurd h0 (by simp [i_len])
    unfold i_okR at hR
    dsimp only at hR
    split at hR
    · cases h
      exact lv_ldc2 hx hb hown (hts _ (i_has_in hR)) hdg (i_pure hL hP hS kk)
    · cases h
    · cases hR
  case getstatic idx =>
    rcases hlen with h0 | rfl
    · exact absurd h0 (by simp [i_len])
    have e1 : i_ad G 101 = G.2.1 101 := i_ad_ext (by decide)
    have e2 : i_ad G 102 = G.2.1 102 := i_ad_ext (by decide)
    have e3 : i_ad G 103 = G.2.1 103 := i_ad_ext (by decide)
    unfold i_okR at hR
    dsimp only at hR
    split at hR
    · simp only [Bool.and_eq_true, decide_eq_true_eq] at hR
      obtain ⟨rfl, hw⟩ := hR
      cases h
      refine va_gets hx hb hE.2.1 hS hown (hts _ (i_has_in hw)) (fun _ h9 => h9) hdg ?_
      rw [← e1]
      exact i_pure (stk' := .ref 101 :: stk) hL hP hS kk
    · simp only [Bool.and_eq_true, decide_eq_true_eq] at hR
      obtain ⟨rfl, hw⟩ := hR
      cases h
      refine va_gets hx hb hE.2.2.1 hS hown (hts _ (i_has_in hw)) (fun _ h9 => h9) hdg ?_
      rw [← e2]
      exact i_pure (stk' := .ref 102 :: stk) hL hP hS kk
    · simp only [Bool.and_eq_true, decide_eq_true_eq] at hR
      obtain ⟨rfl, hw⟩ := hR
      cases h
      refine va_gets hx hb hE.2.2.2.1 hS hown (hts _ (i_has_in hw)) (fun _ h9 => h9) hdg ?_
      rw [← e3]
      exact i_pure (stk' := .ref 103 :: stk) hL hP hS kk
    · simp only [Bool.and_eq_true, decide_eq_true_eq] at hR
      obtain ⟨rfl, hw⟩ := hR
      cases h
      exact va_gets hx hb hE.2.2.2.2.1 hS hown (hts _ (i_has_in hw)) (fun _ h9 => h9) hdg (i_pure (stk' := .int 1 :: stk) hL hP hS kk)
    · cases h
    · cases hR
  case iload i =>
    rcases hlen with h0 | rfl
    · exact absurd h0 (by simp [i_len])
    exact i_s_ld hL hP hS h kk (fun _ x hl k => lv_iload hx hb hdg hl k) (fun z => by cases z) (fun z => by cases z)
  case iload_n i =>
    rcases hlen with h0 | rfl
    · exact absurd h0 (by simp [i_len])
    exact i_s_ld hL hP hS h kk (fun _ x hl k => lv_iload_n hx hb hdg rfl hl k) (fun z => by cases z) (fun z => by cases z)
  case lload i =>
    rcases hlen with h0 | rfl
    · exact absurd h0 (by simp [i_len])
    exact i_s_ld hL hP hS h kk (fun z => by cases z) (fun _ x hl k => lv_lload hx hb hdg hl k) (fun z => by cases z)
  case lload_n i =>
    rcases hlen with h0 | rfl
    · exact absurd h0 (by simp [i_len])
    exact i_s_ld hL hP hS h kk (fun z => by cases z) (fun _ x hl k => lv_lload_n hx hb hdg rfl hl k) (fun z => by cases z)
  case aload i =>
    rcases hlen with h0 | rfl
    · exact absurd h0 (by simp [i_len])
    exact i_s_ld hL hP hS h kk (fun z => by cases z) (fun z => by cases z) (fun _ x hl k => lv_aload hx hb hdg hl k)
  case aload_n i =>
    rcases hlen with h0 | rfl
    · exact absurd h0 (by simp [i_len])
    exact i_s_ld hL hP hS h kk (fun z => by cases z) (fun z => by cases z) (fun _ x hl k => lv_aload_n hx hb hdg rfl hl k)
  case istore i =>
    rcases hlen with h0 | rfl
    · exact absurd h0 (by simp [i_len])
    exact i_s_sto hL hP hS h kk (fun _ x st hi k => lv_istore hx hb hdg hL.has hi rfl k) (fun z => by cases z) (fun z => by cases z)
  case istore_n i =>
    rcases hlen with h0 | rfl
    · exact absurd h0 (by simp [i_len])
    exact i_s_sto hL hP hS h kk (fun _ x st hi k => lv_istore_n hx hb hdg rfl hL.has hi rfl k) (fun z => by cases z) (fun z => by cases z)
  case lstore i =>
    rcases hlen with h0 | rfl
    · exact absurd h0 (by simp [i_len])
    exact i_s_sto hL hP hS h kk (fun z => by cases z) (fun _ x st hi k => lv_lstore hx hb hdg hL.has hi rfl k) (fun z => by cases z)
  case lstore_n i =>
    rcases hlen with h0 | rfl
    · exact absurd h0 (by simp [i_len])
    exact i_s_sto hL hP hS h kk (fun z => by cases z) (fun _ x st hi k => lv_lstore_n hx hb hdg rfl hL.has hi rfl k) (fun z => by cases z)
  case astore i =>
    rcases hlen with h0 | rfl
    · exact absurd h0 (by simp [i_len])
    exact i_s_sto hL hP hS h kk (fun z => by cases z) (fun z => by cases z) (fun _ x st hi k => lv_astore hx hb hdg hL.has hi rfl k)
  case astore_n i =>
    rcases hlen with h0 | rfl
    · exact absurd h0 (by simp [i_len])
    exact i_s_sto hL hP hS h kk (fun z => by cases z) (fun z => by cases z) (fun _ x st hi k => lv_astore_n hx hb hdg rfl hL.has hi rfl k)
  case iinc i n =>
    rcases hlen with h0 | rfl
    · exact absurd h0 (by simp [i_len])
    have hc := of_decide_eq_true hR
    subst hc
    unfold i_do at h
    dsimp only at h
    split at h
    · rename_i x d hg hd
      cases hd
      split at h
      · rename_i hi
        cases h
        obtain ⟨k, hk⟩ := List.getElem?_of_mem (i_as_mem (G := G) (q := (i, .int x)).mpr ⟨.int x, i_get_some hg, rfl⟩)
        exact lv_iinc hx hb hdg hL.has hk rfl (by rw [← hL.1]; exact hi) rfl (fun ls' h' => kk ls' H locs cells slots rfl rfl (i_L_st1 (v := .int _) hL h') hP hS)
      · cases h
    · cases h
  case iadd =>
    rcases hlen with h0 | rfl
    · exact absurd h0 (by simp [i_len])
    exact i_s_bin hL hP hS h kk (fun x y st k => lv_iadd hx hb hdg k)
  case isub =>
    rcases hlen with h0 | rfl
    · exact absurd h0 (by simp [i_len])
    exact i_s_bin hL hP hS h kk (fun x y st k => lv_isub hx hb hdg k)
  case imul =>
    rcases hlen with h0 | rfl
    · exact absurd h0 (by simp [i_len])
    exact i_s_bin hL hP hS h kk (fun x y st k => lv_imul hx hb hdg k)
  case iand =>
    rcases hlen with h0 | rfl
    · exact absurd h0 (by simp [i_len])
    exact i_s_bin hL hP hS h kk (fun x y st k => lv_iand hx hb hdg k)
  case ior =>
    rcases hlen with h0 | rfl
    · exact absurd h0 (by simp [i_len])
    exact i_s_bin hL hP hS h kk (fun x y st k => lv_ior hx hb hdg k)
  case ixor =>
    rcases hlen with h0 | rfl
    · exact absurd h0 (by simp [i_len])
    exact i_s_bin hL hP hS h kk (fun x y st k => lv_ixor hx hb hdg k)
  case ishl =>
    rcases hlen with h0 | rfl
    · exact absurd h0 (by simp [i_len])
    exact i_s_bin hL hP hS h kk (fun x y st k => lv_ishl hx hb hdg k)
  case ishr =>
    rcases hlen with h0 | rfl
    · exact absurd h0 (by simp [i_len])
    exact i_s_bin hL hP hS h kk (fun x y st k => lv_ishr hx hb hdg k)
  case iushr =>
    rcases hlen with h0 | rfl
    · exact absurd h0 (by simp [i_len])
    exact i_s_bin hL hP hS h kk (fun x y st k => lv_iushr hx hb hdg rfl k)
  case idiv =>
    rcases hlen with h0 | rfl
    · exact absurd h0 (by simp [i_len])
    unfold i_do at h
    dsimp only at h
    split at h
    · split at h
      · cases h
      · rename_i hne
        cases h
        exact lv_idiv hx hb hdg hne (i_pure (stk' := .int _ :: _) hL hP hS kk)
    · cases h
  case irem =>
    rcases hlen with h0 | rfl
    · exact absurd h0 (by simp [i_len])
    unfold i_do at h
    dsimp only at h
    split at h
    · split at h
      · cases h
      · rename_i hne
        cases h
        exact lv_irem hx hb hdg hne (i_pure (stk' := .int (i_rem _ _) :: _) hL hP hS kk)
    · cases h
  case ineg =>
    rcases hlen with h0 | rfl
    · exact absurd h0 (by simp [i_len])
    exact i_s_un (fun _ => rfl) hL hP hS h kk (fun x st k => lv_ineg hx hb hdg k)
  case i2l =>
    rcases hlen with h0 | rfl
    · exact absurd h0 (by simp [i_len])
    exact i_s_un (fun _ => rfl) hL hP hS h kk (fun x st k => lv_i2l hx hb hdg rfl k)
  case i2b =>
    rcases hlen with h0 | rfl
    · exact absurd h0 (by simp [i_len])
    exact i_s_un (fun _ => rfl) hL hP hS h kk (fun x st k => lv_i2b hx hb hdg rfl k)
  case i2s =>
    rcases hlen with h0 | rfl
    · exact absurd h0 (by simp [i_len])
    exact i_s_un (fun _ => rfl) hL hP hS h kk (fun x st k => lv_i2s hx hb hdg rfl k)
  case i2c =>
    rcases hlen with h0 | rfl
    · exact absurd h0 (by simp [i_len])
    exact i_s_un (fun _ => rfl) hL hP hS h kk (fun x st k => lv_i2c hx hb hdg rfl k)
  case l2i =>
    rcases hlen with h0 | rfl
    · exact absurd h0 (by simp [i_len])
    exact i_s_unL (fun _ => rfl) hL hP hS h kk (fun x st k => lv_l2i hx hb hdg rfl k)
  case lneg =>
    rcases hlen with h0 | rfl
    · exact absurd h0 (by simp [i_len])
    exact i_s_unL (fun _ => rfl) hL hP hS h kk (fun x st k => lv_lneg hx hb hdg k)
  case ladd =>
    rcases hlen with h0 | rfl
    · exact absurd h0 (by simp [i_len])
    exact i_s_binL hL hP hS h kk (fun x y st k => lv_ladd hx hb hdg k)
  case lsub =>
    rcases hlen with h0 | rfl
    · exact absurd h0 (by simp [i_len])
    exact i_s_binL hL hP hS h kk (fun x y st k => lv_lsub hx hb hdg k)
  case lmul =>
    rcases hlen with h0 | rfl
    · exact absurd h0 (by simp [i_len])
    exact i_s_binL hL hP hS h kk (fun x y st k => lv_lmul hx hb hdg k)
  case land =>
    rcases hlen with h0 | rfl
    · exact absurd h0 (by simp [i_len])
    exact i_s_binL hL hP hS h kk (fun x y st k => lv_land hx hb hdg k)
  case lor =>
    rcases hlen with h0 | rfl
    · exact absurd h0 (by simp [i_len])
    exact i_s_binL hL hP hS h kk (fun x y st k => lv_lor hx hb hdg k)
  case lshl =>
    rcases hlen with h0 | rfl
    · exact absurd h0 (by simp [i_len])
    unfold i_do at h
    dsimp only at h
    split at h
    · cases h
      exact lv_lshl hx hb hdg rfl (i_pure (stk' := .long _ :: _) hL hP hS kk)
    · cases h
  case lcmp =>
    rcases hlen with h0 | rfl
    · exact absurd h0 (by simp [i_len])
    unfold i_do at h
    dsimp only at h
    split at h
    · cases h
      exact W.lcmp hx hb hdg (i_pure (stk' := .int _ :: _) hL hP hS kk)
    · cases h
  case dup =>
    rcases hlen with h0 | rfl
    · exact absurd h0 (by simp [i_len])
    unfold i_do at h
    dsimp only at h
    split at h
    · split at h
      · rename_i hc
        cases h
        exact lv_dup hx hb hdg (by rw [i_cv_cat]; exact hc) (i_pure (stk' := _ :: _ :: _) hL hP hS kk)
      · cases h
    · cases h
  case dup2 =>
    rcases hlen with h0 | rfl
    · exact absurd h0 (by simp [i_len])
    unfold i_do at h
    dsimp only at h
    split at h
    · split at h
      · rename_i hc
        cases h
        exact lv_dup2_11 hx hb hdg (by rw [i_cv_cat]; exact hc.1) (by rw [i_cv_cat]; exact hc.2) (i_pure (stk' := _ :: _ :: _ :: _ :: _) hL hP hS kk)
      · cases h
    · cases h
  case pop =>
    rcases hlen with h0 | rfl
    · exact absurd h0 (by simp [i_len])
    unfold i_do at h
    dsimp only at h
    split at h
    · split at h
      · rename_i hc
        cases h
        exact lv_pop hx hb hdg (by rw [i_cv_cat]; exact hc) (i_pure hL hP hS kk)
      · cases h
    · cases h
  case ifCond cnd off =>
    rcases hlen with h0 | rfl
    · exact absurd h0 (by simp [i_len])
    unfold i_do at h
    dsimp only at h
    split at h
    · cases h
      exact i_s_if hx hb hdg (of_decide_eq_true hR) (i_pure hL hP hS kk)
    · cases h
  case if_icmp cnd off =>
    rcases hlen with h0 | rfl
    · exact absurd h0 (by simp [i_len])
    unfold i_do at h
    dsimp only at h
    split at h
    · cases h
      exact i_s_icmp hx hb hdg (of_decide_eq_true hR) (i_pure hL hP hS kk)
    · cases h
  case goto off =>
    rcases hlen with h0 | rfl
    · exact absurd h0 (by simp [i_len])
    unfold i_do at h
    dsimp only at h
    split at h
    · cases h
      exact lv_goto hx hb hdg (of_decide_eq_true hR) (i_pure hL hP hS kk)
    · cases h
  case tableswitch dflt lo hi offs =>
    unfold i_do at h
    dsimp only at h
    split at h
    · cases h
      unfold i_okR at hR
      simp only [Bool.and_eq_true, decide_eq_true_eq] at hR
      obtain ⟨⟨⟨⟨⟨⟨g1, g2⟩, g3⟩, g4⟩, g5⟩, g6⟩, g7⟩ := hR
      exact i_s_table hx hb hdg g1 g2 g3 g4 g5 g6 g7 (i_pure hL hP hS kk)
    · cases h
  case lookupswitch dflt ps =>
    unfold i_do at h
    dsimp only at h
    split at h
    · rename_i d x rest
      cases h
      unfold i_okR at hR
      simp only [Bool.and_eq_true, decide_eq_true_eq] at hR
      obtain ⟨⟨⟨g1, g2⟩, g3⟩, g4⟩ := hR
      refine lv_lookup hx hb hdg g2 rfl (i_sw_look x d pc dflt g1 ps.toList (fun q hq => ?_)) ?_
      · have := List.all_eq_true.mp g4 q hq
        simp only [Bool.and_eq_true, decide_eq_true_eq] at this
        exact ⟨this.1.1, this.1.2, this.2⟩
      · rw [← g3]
        exact i_pure hL hP hS kk
    · cases h
  case getfield idx =>
    rcases hlen with h0 | rfl
    · exact absurd h0 (by simp [i_len])
    exact i_s_gf F hL hP hS hR hdg h kk
  case putfield idx =>
    rcases hlen with h0 | rfl
    · exact absurd h0 (by simp [i_len])
    have hR2 : (i_okF own idx r && i_okP own nm r) = true := hR
    rw [Bool.and_eq_true] at hR2
    exact i_s_pf F hL hP hS hR2.1 hR2.2 hdg h kk
  case iaload =>
    rcases hlen with h0 | rfl
    · exact absurd h0 (by simp [i_len])
    exact i_s_ald F hL hP hS (Or.inl ⟨rfl, hdg⟩) h kk
  case baload =>
    rcases hlen with h0 | rfl
    · exact absurd h0 (by simp [i_len])
    exact i_s_ald F hL hP hS (Or.inr ⟨rfl, hdg⟩) h kk
  case laload =>
    rcases hlen with h0 | rfl
    · exact absurd h0 (by simp [i_len])
    exact i_s_lald F hL hP hS hdg h kk
  case iastore =>
    rcases hlen with h0 | rfl
    · exact absurd h0 (by simp [i_len])
    exact i_s_ast F hL hP hS (Or.inl ⟨rfl, hdg⟩) h kk
  case bastore =>
    rcases hlen with h0 | rfl
    · exact absurd h0 (by simp [i_len])
    exact i_s_ast F hL hP hS (Or.inr ⟨rfl, hdg⟩) h kk
  case lastore =>
    rcases hlen with h0 | rfl
    · exact absurd h0 (by simp [i_len])
    exact i_s_last F hL hP hS hdg h kk
  case arraylength =>
    rcases hlen with h0 | rfl
    · exact absurd h0 (by simp [i_len])
    exact i_s_alen F hL hP hS hdg h kk
  case new idx =>
    rcases hlen with h0 | rfl
    · exact absurd h0 (by simp [i_len])
    exact i_s_new F hL hP hS hR hdg h hr1 hr2 kk
  case newarray aty =>
    rcases hlen with h0 | rfl
    · exact absurd h0 (by simp [i_len])
    exact i_s_newa F hL hP hS hR hdg h hr1 hr2 kk
  case invokevirtual idx =>
    unfold i_do i_inv i_cl at h
    dsimp only at h
    split at h
    · split at h
      · split at h
        · split at h
          · cases h
          · cases h
        · cases h
      · cases h
    · cases h
  case invokespecial idx =>
    rcases hlen with h0 | rfl
    · exact absurd h0 (by simp [i_len])
    unfold i_do i_ins at h
    dsimp only at h
    split at h
    · rename_i k0 p1 p2 p3
      split at h
      · rename_i a rest
        split at h
        · rename_i hsum
          cases h
          have hR2 : (i_has p1 (.methodLink own idx objectInit) && i_has p2 (.instanceMethod objectInit) && i_has p3 (.code objectInit object_method_1_code 1 none)) = true := hR
          simp only [Bool.and_eq_true] at hR2
          refine W.objInit hx hb hown (hts _ (i_has_in hR2.1.1)) (hts _ (i_has_in hR2.1.2)) (hts _ (i_has_in hR2.2)) (g := F0 m pc ls _) (rest := rest.map (i_cv G)) rfl (by rw [hml]; exact hL.2.1) rfl hdg hRf ?_ (i_pure hL hP hS kk)
          rw [i_cv_sum]
          show 2 * 0 + _ + 12 ≤ _
          omega
        · cases h
      · cases h
    · split at h
      · unfold i_cl at h
        split at h <;> cases h
      · cases h
    · cases h
  case invokestatic idx =>
    rcases hlen with h0 | rfl
    · exact absurd h0 (by simp [i_len])
    unfold i_do i_invS at h
    dsimp only at h
    split at h
    · rename_i k0 p1 p2 p3 p4
      exact i_s_cpy (k0 := k0) F hL hP hS hRf hRl hR hdg h kk
    · exact i_s_math F hL hP hS hRf hRl hR hdg h hr1 hr2 hm1 hm2 kk
    · split at h
      · unfold i_cl at h
        split at h <;> cases h
      · cases h
    · cases h
  case ireturn =>
    unfold i_do i_iret i_ret at h
    dsimp only at h
    split at h
    · split at h <;> cases h
    · cases h
  case lreturn =>
    unfold i_do i_ret at h
    dsimp only at h
    split at h <;> cases h
  case return_ =>
    unfold i_do i_ret at h
    dsimp only at h
    split at h <;> cases h
  all_goals (exact absurd h (by unfold i_do; simp))
end ISIM6
