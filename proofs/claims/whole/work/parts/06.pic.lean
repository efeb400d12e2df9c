/-! ===== part 06: a state of the small machine as a picture of the heap ===== -/
/-- where the cells begin; where the things outside lie; the classes of int, long, boolean arrays -/
abbrev I_G : Type := Nat × (Nat → Nat) × ClassId × ClassId × ClassId
def i_ad (G : I_G) (k : Nat) : Nat := if k < 100 then G.1 + k else G.2.1 k
def i_cv (G : I_G) : Value → Value
  | .ref k => .ref (i_ad G k)
  | v => v
theorem i_cv_cat (G : I_G) (v : Value) : (i_cv G v).category = v.category := by cases v <;> rfl
theorem i_cv_sum (G : I_G) (st : List Value) : ((st.map (i_cv G)).map fun v => v.category).sum = (st.map fun v => v.category).sum := by
  rw [List.map_map]
  congr 1
  exact List.map_congr_left (fun v _ => i_cv_cat G v)
def i_fld (G : I_G) (ci : Nat) (row : Nat → Int32) (refs : List (Option Nat)) (k : Nat) : Value :=
  if i_isR ci k = true then (match refs[k]? with
    | some (some a) => .ref (i_ad G a)
    | _ => .null) else .int (row k)
def i_cell (G : I_G) (row : Nat → Int32) (rowL : Nat → Int64) (sh : I_Sh) : va_E :=
  if sh.1 = 0 then .inl (G.2.2.1, sh.2.1, .inl row)
  else if sh.1 = 1 then .inl (G.2.2.2.1, sh.2.1, .inr (.inl rowL))
  else if sh.1 = 2 then .inl (G.2.2.2.2, sh.2.1, .inl row)
  else .inr (sh.1 - 10, (List.range sh.2.1).map (i_fld G (sh.1 - 10) row sh.2.2))
def i_ws (G : I_G) (S : I_St) : va_W := S.1.mapIdx (fun q sh => (G.1 + q, i_cell G (S.2.1 q) (S.2.2.1 q) sh))
def i_A (G : I_G) : Nat → Prop := fun a => G.1 ≤ a
/-- the shapes are shapes -/
def i_wf1 (sh : I_Sh) : Prop := sh.1 = 0 ∨ sh.1 = 1 ∨ sh.1 = 2 ∨ ∃ ci, sh.1 = 10 + ci ∧ sh.2.1 = i_nth ci ∧ sh.2.2.length = i_nth ci
def i_wf (S : I_St) : Prop := ∀ (q : Nat) (sh : I_Sh), S.1[q]? = some sh → i_wf1 sh
def i_P (D : va_G) (G : I_G) (S : I_St) (H : Heap) : Prop := va_P D i_cls (i_ws G S) H ∧ H.size = G.1 + S.1.length ∧ S.1.length ≤ 100 ∧ i_wf S
theorem i_ws_get (G : I_G) (S : I_St) (q : Nat) : (i_ws G S)[q]? = (S.1[q]?).map (fun sh => (G.1 + q, i_cell G (S.2.1 q) (S.2.2.1 q) sh)) := by
  simp [i_ws]
theorem i_ws_some {G : I_G} {S : I_St} {q : Nat} {sh : I_Sh} (h : S.1[q]? = some sh) : (i_ws G S)[q]? = some (G.1 + q, i_cell G (S.2.1 q) (S.2.2.1 q) sh) := by
  rw [i_ws_get, h]; rfl
theorem i_ws_D (G : I_G) (S : I_St) : va_D (i_A G) (i_ws G S) := by
  refine ⟨fun i j p q hi hj hpq => ?_, fun k q hk => ?_⟩
  · rw [i_ws_get] at hi hj
    cases h1 : S.1[i]? with
    | none => rw [h1] at hi; cases hi
    | some a =>
      cases h2 : S.1[j]? with
      | none => rw [h2] at hj; cases hj
      | some b =>
        rw [h1] at hi; rw [h2] at hj
        cases hi; cases hj
        exact Nat.add_left_cancel hpq
  · rw [i_ws_get] at hk
    cases h1 : S.1[k]? with
    | none => rw [h1] at hk; cases hk
    | some a =>
      rw [h1] at hk
      cases hk
      exact Nat.le_add_right _ _
theorem i_ad_lt {G : I_G} {D : va_G} {S : I_St} {H : Heap} (hP : i_P D G S H) {q : Nat} {sh : I_Sh} (h : S.1[q]? = some sh) : i_ad G q = G.1 + q := by
  have h1 : q < S.1.length := (List.getElem?_eq_some_iff.mp h).1
  have h2 := hP.2.2.1
  unfold i_ad
  rw [if_pos (by omega)]
theorem i_ws_set {G : I_G} {S S' : I_St} {q : Nat} {sh sh' : I_Sh} (h : S.1[q]? = some sh) (h1 : S'.1 = S.1.set q sh') (h2 : ∀ i, i ≠ q → S'.2.1 i = S.2.1 i) (h3 : ∀ i, i ≠ q → S'.2.2.1 i = S.2.2.1 i) : i_ws G S' = (i_ws G S).set q (G.1 + q, i_cell G (S'.2.1 q) (S'.2.2.1 q) sh') := by
  have hl : q < S.1.length := (List.getElem?_eq_some_iff.mp h).1
  apply List.ext_getElem?
  intro i
  rw [i_ws_get, h1, List.getElem?_set]
  by_cases hi : q = i
  · subst hi
    rw [if_pos rfl, if_pos hl, List.getElem?_set_self (by simp [i_ws, hl])]
    rfl
  · rw [if_neg hi, List.getElem?_set_ne hi, i_ws_get, h2 i (Ne.symm hi), h3 i (Ne.symm hi)]
theorem i_set_same {S : I_St} {q : Nat} {sh : I_Sh} (h : S.1[q]? = some sh) : S.1 = S.1.set q sh := by
  apply List.ext_getElem?
  intro i
  rw [List.getElem?_set]
  by_cases hi : q = i
  · subst hi
    rw [if_pos rfl, if_pos (List.getElem?_eq_some_iff.mp h).1, h]
  · rw [if_neg hi]
/-- one cell has changed -/
theorem i_P_set {D : va_G} {G : I_G} {S S' : I_St} {H H1 : Heap} {q : Nat} {sh sh' : I_Sh} (hP : i_P D G S H) (h : S.1[q]? = some sh) (h1 : S'.1 = S.1.set q sh') (h2 : ∀ i, i ≠ q → S'.2.1 i = S.2.1 i) (h3 : ∀ i, i ≠ q → S'.2.2.1 i = S.2.2.1 i) (hw : i_wf1 sh')
    (he : va_at D i_cls (G.1 + q, i_cell G (S'.2.1 q) (S'.2.2.1 q) sh') H1) (z : H1.size = H.size) (oq : ∀ x : Nat, x ≠ G.1 + q → H1[x]? = H[x]?) : i_P D G S' H1 := by
  obtain ⟨p1, p2, p3, p4⟩ := hP
  have hlen : S'.1.length = S.1.length := by rw [h1, List.length_set]
  refine ⟨?_, by rw [z, p2, hlen], by rw [hlen]; exact p3, fun k x hk => ?_⟩
  · rw [i_ws_set h h1 h2 h3]
    exact p1.set (i_ws_D G S) (i_ws_some h) he oq
  · rw [h1, List.getElem?_set] at hk
    by_cases hq : q = k
    · subst hq
      rw [if_pos rfl] at hk
      split at hk
      · cases hk; exact hw
      · cases hk
    · rw [if_neg hq] at hk
      exact p4 k x hk
/-- one cell has come -/
theorem i_P_push {D : va_G} {G : I_G} {S S' : I_St} {H H1 : Heap} {sh' : I_Sh} (hP : i_P D G S H) (hl : S.1.length < 100) (h1 : S'.1 = S.1 ++ [sh']) (h2 : ∀ i, i < S.1.length → S'.2.1 i = S.2.1 i) (h3 : ∀ i, i < S.1.length → S'.2.2.1 i = S.2.2.1 i) (hw : i_wf1 sh')
    (he : va_at D i_cls (G.1 + S.1.length, i_cell G (S'.2.1 S.1.length) (S'.2.2.1 S.1.length) sh') H1) (z : H1.size = H.size + 1) (oq : ∀ x : Nat, x < H.size → H1[x]? = H[x]?) : i_P D G S' H1 := by
  obtain ⟨p1, p2, p3, p4⟩ := hP
  have hlen : S'.1.length = S.1.length + 1 := by rw [h1]; simp
  refine ⟨?_, by rw [z, p2, hlen]; omega, by omega, fun k x hk => ?_⟩
  · intro k x hk
    rw [i_ws_get, h1] at hk
    by_cases hq : k < S.1.length
    · rw [List.getElem?_append_left hq, h2 k hq, h3 k hq, ← i_ws_get] at hk
      have hat := p1 k x hk
      exact hat.kept (oq _ hat.lt)
    · rw [List.getElem?_append_right (by omega)] at hk
      have hz : k - S.1.length = 0 := by
        rcases Nat.eq_zero_or_pos (k - S.1.length) with h | h
        · exact h
        · rw [List.getElem?_eq_none (by simp; omega)] at hk
          cases hk
      have hk2 : k = S.1.length := by omega
      rw [hz] at hk
      subst hk2
      cases hk
      exact he
  · rw [h1] at hk
    by_cases hq : k < S.1.length
    · rw [List.getElem?_append_left hq] at hk
      exact p4 k x hk
    · rw [List.getElem?_append_right (by omega)] at hk
      have hm := List.mem_of_getElem? hk
      rw [List.mem_singleton] at hm
      rw [hm]; exact hw
/-! locals -/
def i_L (G : I_G) (ls : Array Slot) (nL : Nat) (lv : List (Option Value)) : Prop := lv.length = nL ∧ ls.size = nL ∧ lv_wf ls ∧ ∀ (i : Nat) (v : Value), lv[i]? = some (some v) → ls[i]? = some (.val (i_cv G v))
theorem i_get_some {lv : List (Option Value)} {i : Nat} {v : Value} (h : i_get lv i = some v) : lv[i]? = some (some v) := by
  unfold i_get at h
  cases hx : lv[i]? with
  | none => rw [hx] at h; cases h
  | some o => rw [hx] at h; rw [show o = some v from h]
def i_as (G : I_G) (lv : List (Option Value)) : List (Nat × Value) := lv.zipIdx.filterMap (fun q => q.1.map (fun v => (q.2, i_cv G v)))
theorem i_as_mem {G : I_G} {lv : List (Option Value)} {q : Nat × Value} : q ∈ i_as G lv ↔ ∃ v, lv[q.1]? = some (some v) ∧ q.2 = i_cv G v := by
  unfold i_as
  rw [List.mem_filterMap]
  constructor
  · rintro ⟨⟨o, i⟩, hm, he⟩
    have hg := List.mk_mem_zipIdx_iff_getElem?.mp hm
    cases o with
    | none => cases he
    | some v =>
      cases he
      exact ⟨v, hg, rfl⟩
  · rintro ⟨v, h1, h2⟩
    refine ⟨(some v, q.1), List.mk_mem_zipIdx_iff_getElem?.mpr h1, ?_⟩
    show some (q.1, i_cv G v) = some q
    rw [← h2]
theorem i_L.has {G : I_G} {ls : Array Slot} {nL : Nat} {lv : List (Option Value)} (h : i_L G ls nL lv) : lv_has ls nL (i_as G lv) := by
  refine ⟨h.2.1, h.2.2.1, fun q hq => ?_⟩
  obtain ⟨v, h1, h2⟩ := i_as_mem.mp hq
  rw [h2]
  exact h.2.2.2 _ _ h1
theorem i_clr_get {lv : List (Option Value)} {k j : Nat} {w : Value} (h : (i_clr lv k)[j]? = some (some w)) : lv[j]? = some (some w) ∧ ¬ (j = k ∧ w.category = 2) := by
  have key : ∀ l2 : List (Option Value), l2 = lv.set k none → l2[j]? = some (some w) → lv[j]? = some (some w) ∧ ¬ (j = k ∧ w.category = 2) := by
    intro l2 h2 h
    rw [h2, List.getElem?_set] at h
    by_cases hj : k = j
    · rw [if_pos hj] at h
      split at h <;> cases h
    · rw [if_neg hj] at h
      exact ⟨h, fun q => hj q.1.symm⟩
  unfold i_clr at h
  split at h
  · exact key _ rfl h
  · exact key _ rfl h
  · rename_i h1 h2
    refine ⟨h, fun q => ?_⟩
    obtain ⟨q1, q2⟩ := q
    subst q1
    have hg : i_get lv j = some w := by unfold i_get; rw [h]; rfl
    cases w with
    | long x => exact h1 x hg
    | double x => exact h2 x hg
    | _ => simp [Value.category] at q2
theorem i_clr_len (lv : List (Option Value)) (k : Nat) : (i_clr lv k).length = lv.length := by
  unfold i_clr
  split <;> simp
theorem i_st1_len (lv : List (Option Value)) (i : Nat) (v : Value) : (i_st1 lv i v).length = lv.length := by
  unfold i_st1
  split
  · simp
  · simp [i_clr_len]
theorem i_st1_get {lv : List (Option Value)} {i j : Nat} {v w : Value} (h : (i_st1 lv i v)[j]? = some (some w)) : (j = i ∧ w = v) ∨ (j ≠ i ∧ lv[j]? = some (some w) ∧ ¬ (j + 1 = i ∧ w.category = 2)) := by
  unfold i_st1 at h
  split at h
  · rw [List.getElem?_set] at h
    by_cases hj : 0 = j
    · rw [if_pos hj] at h
      split at h
      · cases h; exact Or.inl ⟨hj.symm, rfl⟩
      · cases h
    · rw [if_neg hj] at h
      exact Or.inr ⟨fun q => hj q.symm, h, fun q => by omega⟩
  · rename_i k
    rw [List.getElem?_set] at h
    by_cases hj : k + 1 = j
    · rw [if_pos hj] at h
      split at h
      · cases h; exact Or.inl ⟨hj.symm, rfl⟩
      · cases h
    · rw [if_neg hj] at h
      obtain ⟨g1, g2⟩ := i_clr_get h
      exact Or.inr ⟨fun q => hj q.symm, g1, fun q => g2 ⟨by omega, q.2⟩⟩
theorem i_L_st1 {G : I_G} {ls ls' : Array Slot} {nL : Nat} {lv : List (Option Value)} {i : Nat} {v : Value} (h : i_L G ls nL lv) (h' : lv_has ls' nL ((i, i_cv G v) :: (i_as G lv).filter (fun q => !(q.1 == i) && !(q.1 + 1 == i && q.2.category == 2)))) : i_L G ls' nL (i_st1 lv i v) := by
  refine ⟨by rw [i_st1_len]; exact h.1, h'.1, h'.2.1, fun j w hw => ?_⟩
  refine h'.2.2 (j, i_cv G w) ?_
  rcases i_st1_get hw with ⟨rfl, rfl⟩ | ⟨h1, h2, h3⟩
  · exact List.mem_cons_self
  · refine List.mem_cons_of_mem _ (List.mem_filter.mpr ⟨i_as_mem.mpr ⟨w, h2, rfl⟩, ?_⟩)
    rw [i_cv_cat]
    simp only [Bool.and_eq_true, Bool.not_eq_true', beq_eq_false_iff_ne, ne_eq, Bool.and_eq_false_iff]
    refine ⟨h1, ?_⟩
    by_cases hj : j + 1 = i
    · exact Or.inr (fun q => h3 ⟨hj, q⟩)
    · exact Or.inl hj
theorem i_L_st2 {G : I_G} {ls ls' : Array Slot} {nL : Nat} {lv : List (Option Value)} {i : Nat} {v : Value} (h : i_L G ls nL lv) (h' : lv_has ls' nL ((i, i_cv G v) :: (i_as G lv).filter (fun q => !(q.1 == i) && (!(q.1 == i + 1) && !(q.1 + 1 == i && q.2.category == 2))))) : i_L G ls' nL (i_st2 lv i v) := by
  refine ⟨by unfold i_st2; rw [List.length_set, i_st1_len]; exact h.1, h'.1, h'.2.1, fun j w hw => ?_⟩
  refine h'.2.2 (j, i_cv G w) ?_
  unfold i_st2 at hw
  rw [List.getElem?_set] at hw
  by_cases hj : i + 1 = j
  · rw [if_pos hj] at hw
    split at hw <;> cases hw
  · rw [if_neg hj] at hw
    rcases i_st1_get hw with ⟨rfl, rfl⟩ | ⟨h1, h2, h3⟩
    · exact List.mem_cons_self
    · refine List.mem_cons_of_mem _ (List.mem_filter.mpr ⟨i_as_mem.mpr ⟨w, h2, rfl⟩, ?_⟩)
      rw [i_cv_cat]
      simp only [Bool.and_eq_true, Bool.not_eq_true', beq_eq_false_iff_ne, ne_eq, Bool.and_eq_false_iff]
      refine ⟨h1, fun q => hj q.symm, ?_⟩
      by_cases hj : j + 1 = i
      · exact Or.inr (fun q => h3 ⟨hj, q⟩)
      · exact Or.inl hj
/-! what stands outside, and what the tables say of the state -/
def i_K (D : va_G) (G : I_G) (U : State) : Prop := va_K D i_cls [(G.2.2.1, .int), (G.2.2.2.1, .long), (G.2.2.2.2, .boolean)] U ∧ (∀ w ∈ i_NW, va_Nw w U) ∧ vk_R "BellGround$Tape" 54 "dgqzswf" (G.2.1 105) U
def i_E (G : I_G) (X : Nat × (Nat → Int32)) (U : State) (H : Heap) : Prop :=
  (∀ (q t n : Nat) (f : Nat → Int32), i_ext X q = some (t, n, f) → va_T (if t = 0 then .int else .byte) (G.2.1 q) n (fun j => .int (f j)) (i_A G) U H) ∧
  va_Z "BellGround" "MOST_OF" "[I" (.ref (G.2.1 101)) (i_A G) U H ∧ va_Z "BellGround$Bodies" "OWN" "[I" (.ref (G.2.1 102)) (i_A G) U H ∧ va_Z "BellGround$Bodies" "ABOVE" "[I" (.ref (G.2.1 103)) (i_A G) U H ∧ va_Z "java/lang/String" "COMPACT_STRINGS" "Z" (.int 1) (i_A G) U H ∧
  va_O "java/lang/String" (G.2.1 105) (i_A G) U H ∧ va_OF "java/lang/String" "coder" "B" (.int 0) (G.2.1 105) (i_A G) U H ∧ va_OF "java/lang/String" "value" "[B" (.ref (G.2.1 104)) (G.2.1 105) (i_A G) U H
theorem i_E.moved {G : I_G} {X : Nat × (Nat → Int32)} {u U : State} {H : Heap} (hvm : u.vm.Alike U.vm) (h : i_E G X u H) : i_E G X U H :=
  ⟨fun q t n f hq => va_T.moved hvm (h.1 q t n f hq), va_Z.moved hvm h.2.1, va_Z.moved hvm h.2.2.1, va_Z.moved hvm h.2.2.2.1, va_Z.moved hvm h.2.2.2.2.1, va_O.moved hvm h.2.2.2.2.2.1, va_OF.moved hvm h.2.2.2.2.2.2.1, va_OF.moved hvm h.2.2.2.2.2.2.2⟩
theorem i_E.kept {G : I_G} {X : Nat × (Nat → Int32)} {U : State} {H H1 : Heap} (h : i_E G X U H) (hq : ∀ a : Nat, a < H.size → ¬ i_A G a → H1[a]? = H[a]?) : i_E G X U H1 :=
  ⟨fun q t n f e => va_T.kept (h.1 q t n f e) hq, va_Z.kept h.2.1 hq, va_Z.kept h.2.2.1 hq, va_Z.kept h.2.2.2.1 hq, va_Z.kept h.2.2.2.2.1 hq, va_O.kept h.2.2.2.2.2.1 hq, va_OF.kept h.2.2.2.2.2.2.1 hq, va_OF.kept h.2.2.2.2.2.2.2 hq⟩
theorem i_nest {w : Jvm.Cond} (h : i_isNest w = true) : (∃ a i b n d h', w = .fieldLinkNest a i b n d h') ∨ ∃ a i x h', w = .methodLinkNest a i x h' := by
  cases w <;> first | (simp [i_isNest] at h; done) | exact Or.inl ⟨_, _, _, _, _, _, rfl⟩ | exact Or.inr ⟨_, _, _, _, rfl⟩
theorem i_K.warm {D : va_G} {G : I_G} {s U : State} (hW : s.WarmedH U.vm) (h : i_K D G s) : i_K D G U := by
  refine ⟨va_K.moved hW.alike h.1, fun w hw => ?_, vk_R.warm hW h.2.2⟩
  have h1 := h.2.1 w hw
  rcases i_nest (List.mem_filter.mp hw).2 with ⟨a, i, b, n, d, h', rfl⟩ | ⟨a, i, x, h', rfl⟩
  · exact va_Nw.warmF hW h1
  · exact va_Nw.warmM hW h1
theorem i_K.same {D : va_G} {G : I_G} {u U : State} (hv : u.vm = U.vm) (h : i_K D G u) : i_K D G U := by
  refine ⟨va_K.moved (by rw [hv]; exact Vm.Alike.refl U.vm) h.1, fun w hw => ?_, vk_R.same hv.symm h.2.2⟩
  have h1 := h.2.1 w hw
  rcases i_nest (List.mem_filter.mp hw).2 with ⟨a, i, b, n, d, h', rfl⟩ | ⟨a, i, x, h', rfl⟩
  · exact va_Nw.same rfl hv h1
  · exact va_Nw.same rfl hv h1
