/-! ===== part 08: one step, by the kind of its instruction ===== -/
section ISIM2
variable {p : Program} {l : Launch} {e : Env} {R : Room} {s : State} {m : MethodId} {args : Array Value} {below : List Frame} {meth : Method} {c : Code} {H : Heap} {locs : List Loc} {cells slots : Nat} {Q : State → Prop}
variable {cc : ByteArray} {D : va_G} {G : I_G} {own nm : String} {nL : Nat} {ret : Option FieldType} {X : Nat × (Nat → Int32)} {pc : Nat} {ls : Array Slot} {lv : List (Option Value)} {stk : List Value} {S : I_St} {cf : I_Cf}
theorem i_s_ld {i len kind : Nat} (hL : i_L G ls nL lv) (hP : i_P D G S H) (hS : va_S (i_A G) s.heap H locs)
    (h : i_ld i len kind pc lv stk S = some (.inl cf)) (kk : i_KK p l e R s m args below meth c cells slots Q D G nL S cf)
    (row0 : kind = 0 → ∀ x : Int32, ls[i]? = some (.val (.int x)) → W p l e R s m args below meth c H locs cells slots Q (F0 m (pc + len) ls (.int x :: stk.map (i_cv G))) → W p l e R s m args below meth c H locs cells slots Q (F0 m pc ls (stk.map (i_cv G))))
    (row1 : kind = 1 → ∀ x : Int64, ls[i]? = some (.val (.long x)) → W p l e R s m args below meth c H locs cells slots Q (F0 m (pc + len) ls (.long x :: stk.map (i_cv G))) → W p l e R s m args below meth c H locs cells slots Q (F0 m pc ls (stk.map (i_cv G))))
    (row2 : kind = 2 → ∀ x : Nat, ls[i]? = some (.val (.ref x)) → W p l e R s m args below meth c H locs cells slots Q (F0 m (pc + len) ls (.ref x :: stk.map (i_cv G))) → W p l e R s m args below meth c H locs cells slots Q (F0 m pc ls (stk.map (i_cv G)))) :
    W p l e R s m args below meth c H locs cells slots Q (F0 m pc ls (stk.map (i_cv G))) := by
  unfold i_ld at h
  split at h
  · rename_i x hg
    cases h
    exact row0 rfl x (hL.2.2.2 _ _ (i_get_some hg)) (i_pure hL hP hS kk)
  · rename_i x hg
    cases h
    exact row1 rfl x (hL.2.2.2 _ _ (i_get_some hg)) (i_pure hL hP hS kk)
  · rename_i x hg
    cases h
    exact row2 rfl _ (hL.2.2.2 _ _ (i_get_some hg)) (i_pure hL hP hS kk)
  · cases h
theorem i_s_sto {i len kind : Nat} (hL : i_L G ls nL lv) (hP : i_P D G S H) (hS : va_S (i_A G) s.heap H locs)
    (h : i_sto i len kind pc lv stk S = some (.inl cf)) (kk : i_KK p l e R s m args below meth c cells slots Q D G nL S cf)
    (row0 : kind = 0 → ∀ (x : Int32) (st : List Value), i < nL → (∀ ls' : Array Slot, lv_has ls' nL ((i, .int x) :: (i_as G lv).filter (fun q => !(q.1 == i) && !(q.1 + 1 == i && q.2.category == 2))) → W p l e R s m args below meth c H locs cells slots Q (F0 m (pc + len) ls' st)) → W p l e R s m args below meth c H locs cells slots Q (F0 m pc ls (.int x :: st)))
    (row1 : kind = 1 → ∀ (x : Int64) (st : List Value), i + 1 < nL → (∀ ls' : Array Slot, lv_has ls' nL ((i, .long x) :: (i_as G lv).filter (fun q => !(q.1 == i) && (!(q.1 == i + 1) && !(q.1 + 1 == i && q.2.category == 2)))) → W p l e R s m args below meth c H locs cells slots Q (F0 m (pc + len) ls' st)) → W p l e R s m args below meth c H locs cells slots Q (F0 m pc ls (.long x :: st)))
    (row2 : kind = 2 → ∀ (x : Nat) (st : List Value), i < nL → (∀ ls' : Array Slot, lv_has ls' nL ((i, .ref x) :: (i_as G lv).filter (fun q => !(q.1 == i) && !(q.1 + 1 == i && q.2.category == 2))) → W p l e R s m args below meth c H locs cells slots Q (F0 m (pc + len) ls' st)) → W p l e R s m args below meth c H locs cells slots Q (F0 m pc ls (.ref x :: st))) :
    W p l e R s m args below meth c H locs cells slots Q (F0 m pc ls (stk.map (i_cv G))) := by
  unfold i_sto at h
  split at h
  · split at h
    · rename_i hi
      cases h
      exact row0 rfl _ _ (by rw [← hL.1]; exact hi) (fun ls' h' => kk ls' H locs cells slots rfl rfl (i_L_st1 (v := .int _) hL h') hP hS)
    · cases h
  · split at h
    · rename_i hi
      cases h
      exact row1 rfl _ _ (by rw [← hL.1]; exact hi) (fun ls' h' => kk ls' H locs cells slots rfl rfl (i_L_st2 (v := .long _) hL h') hP hS)
    · cases h
  · split at h
    · rename_i hi
      cases h
      exact row2 rfl _ _ (by rw [← hL.1]; exact hi) (fun ls' h' => kk ls' H locs cells slots rfl rfl (i_L_st1 (v := .ref _) hL h') hP hS)
    · cases h
  · cases h
theorem i_s_bin {f : Int32 → Int32 → Int32} (hL : i_L G ls nL lv) (hP : i_P D G S H) (hS : va_S (i_A G) s.heap H locs)
    (h : i_bin f pc lv stk S = some (.inl cf)) (kk : i_KK p l e R s m args below meth c cells slots Q D G nL S cf)
    (row : ∀ (x y : Int32) (st : List Value), W p l e R s m args below meth c H locs cells slots Q (F0 m (pc + 1) ls (.int (f x y) :: st)) → W p l e R s m args below meth c H locs cells slots Q (F0 m pc ls (.int y :: .int x :: st))) :
    W p l e R s m args below meth c H locs cells slots Q (F0 m pc ls (stk.map (i_cv G))) := by
  unfold i_bin at h
  split at h
  · cases h
    exact row _ _ _ (i_pure hL hP hS kk)
  · cases h
theorem i_s_binL {f : Int64 → Int64 → Int64} (hL : i_L G ls nL lv) (hP : i_P D G S H) (hS : va_S (i_A G) s.heap H locs)
    (h : i_binL f pc lv stk S = some (.inl cf)) (kk : i_KK p l e R s m args below meth c cells slots Q D G nL S cf)
    (row : ∀ (x y : Int64) (st : List Value), W p l e R s m args below meth c H locs cells slots Q (F0 m (pc + 1) ls (.long (f x y) :: st)) → W p l e R s m args below meth c H locs cells slots Q (F0 m pc ls (.long y :: .long x :: st))) :
    W p l e R s m args below meth c H locs cells slots Q (F0 m pc ls (stk.map (i_cv G))) := by
  unfold i_binL at h
  split at h
  · cases h
    exact row _ _ _ (i_pure hL hP hS kk)
  · cases h
theorem i_s_un {f : Int32 → Value} (hf : ∀ x, i_cv G (f x) = f x) (hL : i_L G ls nL lv) (hP : i_P D G S H) (hS : va_S (i_A G) s.heap H locs)
    (h : i_un stk f pc lv S = some (.inl cf)) (kk : i_KK p l e R s m args below meth c cells slots Q D G nL S cf)
    (row : ∀ (x : Int32) (st : List Value), W p l e R s m args below meth c H locs cells slots Q (F0 m (pc + 1) ls (f x :: st)) → W p l e R s m args below meth c H locs cells slots Q (F0 m pc ls (.int x :: st))) :
    W p l e R s m args below meth c H locs cells slots Q (F0 m pc ls (stk.map (i_cv G))) := by
  unfold i_un at h
  split at h
  · cases h
    refine row _ _ ?_
    rw [← hf]
    exact i_pure hL hP hS kk
  · cases h
theorem i_s_unL {f : Int64 → Value} (hf : ∀ x, i_cv G (f x) = f x) (hL : i_L G ls nL lv) (hP : i_P D G S H) (hS : va_S (i_A G) s.heap H locs)
    (h : i_unL stk f pc lv S = some (.inl cf)) (kk : i_KK p l e R s m args below meth c cells slots Q D G nL S cf)
    (row : ∀ (x : Int64) (st : List Value), W p l e R s m args below meth c H locs cells slots Q (F0 m (pc + 1) ls (f x :: st)) → W p l e R s m args below meth c H locs cells slots Q (F0 m pc ls (.long x :: st))) :
    W p l e R s m args below meth c H locs cells slots Q (F0 m pc ls (stk.map (i_cv G))) := by
  unfold i_unL at h
  split at h
  · cases h
    refine row _ _ ?_
    rw [← hf]
    exact i_pure hL hP hS kk
  · cases h
theorem i_s_if {cnd : ClassFile.Cond} {off : Int} {t : Nat} {x : Int32} {st : List Value} (hx : p.tables.exec = Jvm.exec) (hb : c.code = cc) (hdg : decode cc pc = .ok (.ifCond cnd off, 3)) (ht : (pc : Int) + off = (t : Int))
    (k : W p l e R s m args below meth c H locs cells slots Q (F0 m (i_br cnd x 0 t (pc + 3)) ls st)) : W p l e R s m args below meth c H locs cells slots Q (F0 m pc ls (.int x :: st)) := by
  cases cnd <;> unfold i_br at k <;> dsimp only at k
  · exact lv_if_eq hx hb hdg ht (fun q => by rw [if_pos q] at k; exact k) (fun q => by rw [if_neg q] at k; exact k)
  · exact lv_if_ne hx hb hdg ht (fun q => by rw [if_neg q] at k; exact k) (fun q => by rw [if_pos q] at k; exact k)
  · exact lv_if_lt hx hb hdg ht (fun q => by rw [if_pos q] at k; exact k) (fun q => by rw [if_neg q] at k; exact k)
  · exact lv_if_ge hx hb hdg ht (fun q => by rw [if_neg (Int32.not_lt.mpr q)] at k; exact k) (fun q => by rw [if_pos (Int32.not_le.mp q)] at k; exact k)
  · exact lv_if_gt hx hb hdg ht (fun q => by rw [if_pos q] at k; exact k) (fun q => by rw [if_neg q] at k; exact k)
  · exact lv_if_le hx hb hdg ht (fun q => by rw [if_neg (Int32.not_lt.mpr q)] at k; exact k) (fun q => by rw [if_pos (Int32.not_le.mp q)] at k; exact k)
theorem i_s_icmp {cnd : ClassFile.Cond} {off : Int} {t : Nat} {x y : Int32} {st : List Value} (hx : p.tables.exec = Jvm.exec) (hb : c.code = cc) (hdg : decode cc pc = .ok (.if_icmp cnd off, 3)) (ht : (pc : Int) + off = (t : Int))
    (k : W p l e R s m args below meth c H locs cells slots Q (F0 m (i_br cnd x y t (pc + 3)) ls st)) : W p l e R s m args below meth c H locs cells slots Q (F0 m pc ls (.int y :: .int x :: st)) := by
  cases cnd <;> unfold i_br at k <;> dsimp only at k
  · exact lv_icmp_eq hx hb hdg ht (fun q => by rw [if_pos q] at k; exact k) (fun q => by rw [if_neg q] at k; exact k)
  · exact lv_icmp_ne hx hb hdg ht (fun q => by rw [if_neg q] at k; exact k) (fun q => by rw [if_pos q] at k; exact k)
  · exact lv_icmp_lt hx hb hdg ht (fun q => by rw [if_pos q] at k; exact k) (fun q => by rw [if_neg q] at k; exact k)
  · exact lv_icmp_ge hx hb hdg ht (fun q => by rw [if_neg (Int32.not_lt.mpr q)] at k; exact k) (fun q => by rw [if_pos (Int32.not_le.mp q)] at k; exact k)
  · exact lv_icmp_gt hx hb hdg ht (fun q => by rw [if_pos q] at k; exact k) (fun q => by rw [if_neg q] at k; exact k)
  · exact lv_icmp_le hx hb hdg ht (fun q => by rw [if_neg (Int32.not_lt.mpr q)] at k; exact k) (fun q => by rw [if_pos (Int32.not_le.mp q)] at k; exact k)
theorem i_ofInt {a : Int} (h1 : -1000 < a) (h2 : a < 1000) : (Int32.ofInt a).toInt = a := Int32.toInt_ofInt_of_le (by omega) (by omega)
theorem i_sw_range (x : Int32) (d : Nat) (g : Int → Nat) : ∀ (n : Nat) (lo : Int), -1000 < lo → lo + n < 1001 →
    i_sw x d ((List.range n).map (fun i : Nat => (Int32.ofInt (lo + (i : Int)), g (i : Int)))) = if lo ≤ x.toInt ∧ x.toInt < lo + n then g (x.toInt - lo) else d := by
  intro n
  induction n generalizing g with
  | zero =>
    intro lo _ _
    show d = _
    rw [if_neg (by omega)]
  | succ n ih =>
    intro lo h1 h2
    rw [List.range_succ_eq_map, List.map_cons, List.map_map]
    show (if x = Int32.ofInt (lo + ((0 : Nat) : Int)) then g ((0 : Nat) : Int) else i_sw x d _) = _
    by_cases hx : x = Int32.ofInt (lo + ((0 : Nat) : Int))
    · rw [if_pos hx]
      have : x.toInt = lo := by rw [hx, i_ofInt (by omega) (by omega)]; omega
      rw [if_pos (by omega), this]
      congr 1
      omega
    · rw [if_neg hx]
      have hne : x.toInt ≠ lo := fun q => hx (Int32.toInt_inj.mp (by rw [i_ofInt (by omega) (by omega), q]; omega))
      have h3 := ih (fun i => g (i + 1)) (lo + 1) (by omega) (by omega)
      have e : (List.map ((fun i : Nat => (Int32.ofInt (lo + (i : Int)), g (i : Int))) ∘ Nat.succ) (List.range n)) = (List.range n).map (fun i : Nat => (Int32.ofInt (lo + 1 + (i : Int)), g ((i : Int) + 1))) := by
        apply List.map_congr_left
        intro i _
        show (Int32.ofInt (lo + ((i + 1 : Nat) : Int)), g ((i + 1 : Nat) : Int)) = _
        rw [show lo + ((i + 1 : Nat) : Int) = lo + 1 + (i : Int) by omega, show ((i + 1 : Nat) : Int) = (i : Int) + 1 by omega]
      rw [e, h3]
      by_cases hc : lo + 1 ≤ x.toInt ∧ x.toInt < lo + 1 + n
      · rw [if_pos hc, if_pos (by omega)]
        congr 1
        omega
      · rw [if_neg hc, if_neg (by omega)]
theorem i_s_table {dflt lo hi : Int} {offs : Array Int} {len d : Nat} {sw : List (Int32 × Nat)} {x : Int32} {st : List Value} (hx : p.tables.exec = Jvm.exec) (hb : c.code = cc) (hdg : decode cc pc = .ok (.tableswitch dflt lo hi offs, len)) (hd : (pc : Int) + dflt = (d : Int)) (h1 : lo ≤ hi) (h2 : -1000 < lo) (h3 : hi < 1000)
    (hsw : sw = (List.range (hi - lo + 1).toNat).map (fun i : Nat => (Int32.ofInt (lo + (i : Int)), ((pc : Int) + (offs[i]?).getD 0).toNat))) (hsz : offs.size = (hi - lo + 1).toNat) (hoff : offs.toList.all (fun o => decide (0 ≤ (pc : Int) + o)) = true)
    (k : W p l e R s m args below meth c H locs cells slots Q (F0 m (i_sw x d sw) ls st)) : W p l e R s m args below meth c H locs cells slots Q (F0 m pc ls (.int x :: st)) := by
  have hn : ((hi - lo + 1).toNat : Int) = hi - lo + 1 := by omega
  have e := i_sw_range x d (fun i => ((pc : Int) + (offs[i.toNat]?).getD 0).toNat) (hi - lo + 1).toNat lo h2 (by omega)
  have e2 : i_sw x d sw = if lo ≤ x.toInt ∧ x.toInt < lo + ((hi - lo + 1).toNat : Int) then ((pc : Int) + (offs[(x.toInt - lo).toNat]?).getD 0).toNat else d := by
    rw [hsw, ← e]
    rfl
  rw [e2] at k
  by_cases hin : lo ≤ x.toInt ∧ x.toInt < lo + ((hi - lo + 1).toNat : Int)
  · rw [if_pos hin] at k
    have hlt : (x.toInt - lo).toNat < offs.size := by omega
    have hget : offs[(x.toInt - lo).toNat]? = some offs[(x.toInt - lo).toNat] := Array.getElem?_eq_getElem hlt
    have hpos : 0 ≤ (pc : Int) + offs[(x.toInt - lo).toNat] := of_decide_eq_true (List.all_eq_true.mp hoff _ (Array.getElem_mem_toList hlt))
    rw [hget] at k
    refine lv_tableIn hx hb hdg (by omega) (by omega) hget ?_ k
    show _ = ((((pc : Int) + offs[(x.toInt - lo).toNat]).toNat : Nat) : Int)
    omega
  · rw [if_neg hin] at k
    exact lv_tableOut hx hb hdg (by omega) hd k
theorem i_sw_look (x : Int32) (d pc : Nat) (dflt : Int) (hd : (pc : Int) + dflt = (d : Int)) : ∀ ps : List (Int × Int), (∀ q ∈ ps, 0 ≤ (pc : Int) + q.2 ∧ -1000 < q.1 ∧ q.1 < 1000) →
    (pc : Int) + Op.lookupswitch.offset ps dflt x.toInt = ((i_sw x d (ps.map (fun q => (Int32.ofInt q.1, ((pc : Int) + q.2).toNat))) : Nat) : Int)
  | [], _ => hd
  | q :: ps, h => by
    have hq := h q List.mem_cons_self
    rw [List.map_cons]
    show _ = (((if x = Int32.ofInt q.1 then ((pc : Int) + q.2).toNat else i_sw x d _) : Nat) : Int)
    by_cases hx : x = Int32.ofInt q.1
    · rw [if_pos hx]
      have ex : x.toInt = q.1 := by rw [hx, i_ofInt hq.2.1 hq.2.2]
      obtain ⟨a, o⟩ := q
      rw [Op.lookupswitch.offset_cons, if_pos ex.symm]
      simp only at hq ⊢
      omega
    · rw [if_neg hx, ← i_sw_look x d pc dflt hd ps (fun r hr => h r (List.mem_cons_of_mem _ hr))]
      obtain ⟨a, o⟩ := q
      rw [Op.lookupswitch.offset_cons, if_neg]
      intro e
      exact hx (Int32.toInt_inj.mp (by rw [i_ofInt hq.2.1 hq.2.2]; exact e.symm))
end ISIM2
