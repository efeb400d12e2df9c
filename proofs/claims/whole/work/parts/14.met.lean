/-! ===== part 14: what the small machine says of a method is the method's contract ===== -/
theorem i_lookup {β : Type} {pc : Nat} {e : β} : ∀ {code : List (Nat × β)}, code.lookup pc = some e → (pc, e) ∈ code
  | [], h => by cases h
  | (k, b) :: es, h => by
    rw [List.lookup_cons] at h
    split at h
    · rename_i hk
      cases h
      rw [eq_of_beq hk]
      exact List.mem_cons_self
    · exact List.mem_cons_of_mem _ (i_lookup h)
def i_RF (cc : ByteArray) (ret : Option FieldType) (pc : Nat) (stk : List Value) (v : Option Value) : Prop :=
  (∃ (x : Int32) (ty : FieldType), v = some (.int x) ∧ stk = [.int x] ∧ decode cc pc = .ok (.ireturn, 1) ∧ ret = some ty ∧ narrow ty (.int x) = .int x) ∨ (∃ x : Int64, v = some (.long x) ∧ stk = [.long x] ∧ decode cc pc = .ok (.lreturn, 1) ∧ ret = some .long) ∨ (v = none ∧ stk = [] ∧ decode cc pc = .ok (.return_, 1) ∧ ret = none)
section ISIM8
variable {p : Program} {l : Launch} {e : Env} {R : Room} {s : State} {m : MethodId} {args : Array Value} {below : List Frame} {meth : Method} {c : Code} {Q : State → Prop}
variable {cc : ByteArray} {D : va_G} {G : I_G} {own nm : String} {nL : Nat} {ret : Option FieldType} {X : Nat × (Nat → Int32)}
theorem i_run {d : Nat} {code : List I_En} (IH : ∀ (j : Nat) (as : List Value) (S : I_St) (r : Option Value) (S' : I_St), I_Ex d j as S r S' → i_MetAt l D G d j as S r S')
    (hcode : code.all (i_okE own nm cc ret) = true) (hRf : d + 1 ≤ R.frames) (hRl : 64 * d + 64 ≤ R.locals) (F : i_Fr p s m args meth c cc D G own nm nL ret X) {c0 s0 : Nat} {r : Option Value} {S' : I_St} (hrm : S'.1.length ≤ R.cells + c0) (hrs : i_sl S' ≤ R.slots + s0)
    (hret : ∀ (pc : Nat) (ls : Array Slot) (stk : List Value) (H : Heap) (locs : List Loc) (cells slots : Nat), i_RF cc ret pc stk r → i_P D G S' H → va_S (i_A G) s.heap H locs → cells + c0 = S'.1.length → slots + s0 = i_sl S' → W p l e R s m args below meth c H locs cells slots Q (F0 m pc ls (stk.map (i_cv G)))) :
    ∀ (n : Nat) (cf : I_Cf), I_Rn (I_Ex d) code n cf r S' → cf.2.2.2.2.2.2 = X → ∀ (ls : Array Slot) (H : Heap) (locs : List Loc) (cells slots : Nat), i_L G ls nL cf.2.1 → i_P D G cf.2.2.2 H → va_S (i_A G) s.heap H locs → cells + c0 = cf.2.2.2.1.length → slots + s0 = i_sl cf.2.2.2 →
      W p l e R s m args below meth c H locs cells slots Q (F0 m cf.1 ls (cf.2.2.1.map (i_cv G))) := by
  intro n
  induction n with
  | zero => intro cf h; exact h.elim
  | succ n ih =>
    intro cf h hX ls H locs cells slots hL hP hS hc hs
    obtain ⟨pc, lv, stk, S⟩ := cf
    have hle := i_Rn_le (fun k as S v S1 h1 => i_Ex_le d k as S v S1 h1) (n + 1) _ _ _ h
    dsimp only at hX hL hP hc hs hle ⊢
    subst hX
    unfold I_Rn at h
    have hmonO : i_okO S (i_stp code (pc, lv, stk, S)) := by
      unfold i_stp
      split
      · trivial
      · exact i_okO_do
    unfold i_stp at h hmonO
    dsimp only at h hmonO
    cases hlk : code.lookup pc with
    | none => rw [hlk] at h; exact h.elim
    | some q =>
      obtain ⟨ins, len, cst, rr, sw⟩ := q
      rw [hlk] at h hmonO
      dsimp only at h hmonO
      have hok : i_okE own nm cc ret (pc, ins, len, cst, rr, sw) = true := List.all_eq_true.mp hcode _ (i_lookup hlk)
      split at h
      · exact h.elim
      · rename_i cf' e1
        rw [e1] at hmonO
        have h2 := i_Rn_le (fun k as S v S1 h1 => i_Ex_le d k as S v S1 h1) n _ _ _ h
        refine i_step F hL hP hS (by omega) (by omega) hok e1 (by have := h2.1; omega) (by have := h2.2.1; omega) hmonO.1 hmonO.2.1 ?_
        intro ls' H' locs' cells' slots' hc' hs' hL' hP' hS'
        exact ih cf' h hmonO.2.2 ls' H' locs' cells' slots' hL' hP' hS' (by omega) (by omega)
      · rename_i k as cf' e1
        rw [e1] at hmonO
        obtain ⟨v, S1, hE1, h⟩ := h
        have h2 := i_Rn_le (fun k as S v S1 h1 => i_Ex_le d k as S v S1 h1) n _ _ _ h
        have e2 : cf'.2.2.2 = S := hmonO
        rw [e2] at hE1
        have h3 := i_Ex_le d _ _ _ _ _ hE1
        have hr1 : cells + S1.1.length ≤ R.cells + S.1.length := by
          have a1 : S1.1.length ≤ S'.1.length := h2.1
          omega
        have hr2 : slots + i_sl S1 ≤ R.slots + i_sl S := by
          have a1 : i_sl S1 ≤ i_sl S' := h2.2.1
          omega
        refine i_call IH F hL hP hS hRf hRl hok e1 hE1 hr1 hr2 ?_
        intro ls' H' locs' cells' slots' hc' hs' hL' hP' hS'
        exact ih (i_res cf' v S1) h h3.2.2 ls' H' locs' cells' slots' hL' hP' hS' (by omega) (by omega)
      · rename_i v e1
        obtain ⟨rfl, rfl⟩ := h
        exact hret pc ls stk H locs cells slots (i_retc hok e1) hP hS hc hs
end ISIM8
theorem i_slots_len (G : I_G) : ∀ as : List Value, (lg_sl (as.map (i_cv G))).length = (i_slots as).length
  | [] => rfl
  | v :: vs => by
    unfold i_slots lg_sl
    rw [List.map_cons, List.flatMap_cons, i_cv_cat, List.length_append]
    have ih := i_slots_len G vs
    unfold lg_sl at ih
    rw [ih]
    split <;> simp <;> omega
theorem i_slots_args (G : I_G) : ∀ (as : List Value) (k i : Nat) (v : Value), (i_slots as)[i]? = some (some v) → (k + i, i_cv G v) ∈ lv_args k (as.map (i_cv G))
  | [], k, i, v, h => by simp [i_slots] at h
  | w :: vs, k, i, v, h => by
    rw [List.map_cons]
    show _ ∈ (k, i_cv G w) :: lv_args (if (i_cv G w).category = 2 then k + 2 else k + 1) (vs.map (i_cv G))
    rw [i_cv_cat]
    unfold i_slots at h
    split at h
    · rename_i hc
      rw [if_pos hc]
      match i, h with
      | 0, h => cases h; exact List.mem_cons_self
      | 1, h => cases h
      | i + 2, h =>
        have := i_slots_args G vs (k + 2) i v h
        rw [show k + (i + 2) = k + 2 + i by omega]
        exact List.mem_cons_of_mem _ this
    · rename_i hc
      rw [if_neg hc]
      match i, h with
      | 0, h => cases h; exact List.mem_cons_self
      | i + 1, h =>
        have := i_slots_args G vs (k + 1) i v h
        rw [show k + (i + 1) = k + 1 + i by omega]
        exact List.mem_cons_of_mem _ this
theorem i_L_entry (G : I_G) (as : List Value) {n : Nat} (h : (i_slots as).length ≤ n) : i_L G ((lg_sl (as.map (i_cv G)) ++ List.replicate (n - (lg_sl (as.map (i_cv G))).length) Slot.unset).toArray) n (i_entry as n) := by
  have h1 := lv_entry (as.map (i_cv G)) (n := n) (by rw [i_slots_len]; exact h)
  refine ⟨by unfold i_entry; rw [List.length_append, List.length_replicate]; omega, h1.1, h1.2.1, fun i v hv => ?_⟩
  refine h1.2.2 (i, i_cv G v) ?_
  unfold i_entry at hv
  by_cases hi : i < (i_slots as).length
  · rw [List.getElem?_append_left hi] at hv
    have := i_slots_args G as 0 i v hv
    rwa [Nat.zero_add] at this
  · rw [List.getElem?_append_right (by omega), List.getElem?_replicate] at hv
    split at hv <;> cases hv
/-- THE SMALL MACHINE's word on a method is a contract of the method -/
theorem i_sim (l : Launch) (D : va_G) (G : I_G) : ∀ (d j : Nat) (as : List Value) (S : I_St) (r : Option Value) (S' : I_St), I_Ex d j as S r S' → i_MetAt l D G d j as S r S' := by
  intro d
  induction d with
  | zero => intro j as S r S' h; exact h.elim
  | succ d ih =>
    intro j as S r S' h row hrow
    have hm := i_ok hrow
    unfold I_Ex at h
    rw [hrow] at h
    obtain ⟨y, bytes, maxL, ret, code, ci⟩ := row
    obtain ⟨hlen, n, hRn⟩ := h
    have hle := i_Rn_le (fun k as S v S1 h1 => i_Ex_le d k as S v S1 h1) n _ _ _ hRn
    unfold i_okM at hm
    simp only [Bool.and_eq_true] at hm
    obtain ⟨⟨hcode, hplain⟩, -⟩ := hm
    refine Met.ofW (cc := bytes) (maxL := maxL) (ret := ret) hplain rfl ?_
    intro p e s m args below meth c s₁ B hml hv
    obtain ⟨rfl, hP, hK, hE⟩ := hv
    have hts := atoms_spec (ws := i_Ws (y, bytes, maxL, ret, code, ci)) B.pre
    rw [lg_entry_eq]
    have F : i_Fr p s m (as.map (i_cv G)).toArray meth c bytes D G y.cls y.name maxL ret S.2.2.2 := ⟨B.exec, B.bytes, B.returns, B.notSynchronized, hml, findClass_of_methodNamed B.named, (name_of_methodNamed B.named B.method).1, fun w hw => hts w (List.mem_cons_of_mem _ hw), hK, hE, by rw [hP.2.1]; exact Nat.le_add_right _ _⟩
    have hlocks := B.notSynchronized
    have hx := B.exec
    have hb := B.bytes
    have hr := B.returns
    refine i_run (R := i_room (d + 1) S S') (c0 := S.1.length) (s0 := i_sl S) (S' := S') (r := r) (fun j as S r S' => ih j as S r S') hcode (Nat.le_refl _) (by show _ ≤ 64 * (d + 1); omega) F (by show _ ≤ (S'.1.length - S.1.length) + _; have := hle.1; omega) (by show _ ≤ (i_sl S' - i_sl S) + _; have := hle.2.1; omega) ?_ n _ hRn rfl _ s.heap [] 0 0 (i_L_entry G as hlen) hP va_S.rf (Nat.zero_add _) (Nat.zero_add _)
    intro pc ls stk H locs cells slots hRF hP' hS' hc hs
    have ec : S'.1.length - S.1.length = cells := by omega
    have es : i_sl S' - i_sl S = slots := by omega
    rw [ec, es]
    rcases hRF with ⟨x, ty, rfl, rfl, hdg, e1, e2⟩ | ⟨x, rfl, rfl, hdg, e1⟩ | ⟨rfl, rfl, hdg, e1⟩
    · exact W.zret (v := x) hx hb (hr.trans e1) e2 (fun t ht hW => ⟨⟨x, (), rfl, rfl, by show i_P D G S' t.heap; rw [ht]; exact hP'⟩, hS'.F ht⟩) hS'.2.2 hdg hlocks
    · exact W.lret (v := x) hx hb (hr.trans e1) (fun t ht hW => ⟨⟨x, (), rfl, rfl, by show i_P D G S' t.heap; rw [ht]; exact hP'⟩, hS'.F ht⟩) hS'.2.2 hdg hlocks
    · exact W.vret hx hb (hr.trans e1) (fun t ht hW => ⟨⟨(), rfl, trivial, by show i_P D G S' t.heap; rw [ht]; exact hP'⟩, hS'.F ht⟩) hS'.2.2 hdg hlocks
