/-! ===== part 27: the constructors, run by the kernel ===== -/
def i_noX (stk : List Value) : Bool := stk.all (fun v => match v with
  | .ref q => decide (q < 100)
  | _ => true)
def i_sX (X : Nat × (Nat → Int32)) (S : I_St) : I_St := (S.1, S.2.1, S.2.2.1, X)
def i_cX (X : Nat × (Nat → Int32)) (cf : I_Cf) : I_Cf := (cf.1, cf.2.1, cf.2.2.1, i_sX X cf.2.2.2)
def i_oX (X : Nat × (Nat → Int32)) (o : Option I_Out) : Option I_Out := match o with
  | none => none
  | some (.inl c) => some (.inl (i_cX X c))
  | some (.inr (.inl q)) => some (.inr (.inl (q.1, q.2.1, i_cX X q.2.2)))
  | some (.inr (.inr v)) => some (.inr (.inr v))
section ISX
variable {X : Nat × (Nat → Int32)} {pc : Nat} {lv : List (Option Value)} {stk : List Value} {S : I_St}
theorem i_noX_hd {q : Nat} {rest : List Value} (h : i_noX (.ref q :: rest) = true) : q < 100 := by
  unfold i_noX at h
  rw [List.all_cons, Bool.and_eq_true] at h
  exact of_decide_eq_true h.1
theorem i_noX_tl {v : Value} {rest : List Value} (h : i_noX (v :: rest) = true) : i_noX rest = true := by
  unfold i_noX at h ⊢
  rw [List.all_cons, Bool.and_eq_true] at h
  exact h.2
theorem i_ext_lt {X : Nat × (Nat → Int32)} {q : Nat} (h : q < 100) : i_ext X q = none := by
  cases e : i_ext X q with
  | none => rfl
  | some y => exact absurd (i_ext_ge e) (by omega)
theorem i_arrX {q : Nat} (h : q < 100) : i_arr (i_sX X S) q = i_arr S q := by
  unfold i_arr i_sX
  dsimp only
  cases S.1[q]? with
  | none => rw [i_ext_lt h, i_ext_lt h]
  | some sh => rfl
theorem i_isCX {q ci : Nat} : i_isC (i_sX X S) q ci = i_isC S q ci := rfl
theorem i_xld {i len kind : Nat} : i_ld i len kind pc lv stk (i_sX X S) = i_oX X (i_ld i len kind pc lv stk S) := by
  unfold i_ld
  repeat' split
  all_goals rfl
theorem i_xsto {i len kind : Nat} : i_sto i len kind pc lv stk (i_sX X S) = i_oX X (i_sto i len kind pc lv stk S) := by
  unfold i_sto
  repeat' split
  all_goals rfl
theorem i_xbin {f : Int32 → Int32 → Int32} : i_bin f pc lv stk (i_sX X S) = i_oX X (i_bin f pc lv stk S) := by
  unfold i_bin
  repeat' split
  all_goals rfl
theorem i_xbinL {f : Int64 → Int64 → Int64} : i_binL f pc lv stk (i_sX X S) = i_oX X (i_binL f pc lv stk S) := by
  unfold i_binL
  repeat' split
  all_goals rfl
theorem i_xun {f : Int32 → Value} : i_un stk f pc lv (i_sX X S) = i_oX X (i_un stk f pc lv S) := by
  unfold i_un
  repeat' split
  all_goals rfl
theorem i_xunL {f : Int64 → Value} : i_unL stk f pc lv (i_sX X S) = i_oX X (i_unL stk f pc lv S) := by
  unfold i_unL
  repeat' split
  all_goals rfl
theorem i_xgf {r : List Nat} : i_gf r pc lv stk (i_sX X S) = i_oX X (i_gf r pc lv stk S) := by
  unfold i_gf
  rw [show (i_sX X S).1 = S.1 from rfl]
  repeat' split
  all_goals rfl
theorem i_xpf {r : List Nat} : i_pf r pc lv stk (i_sX X S) = i_oX X (i_pf r pc lv stk S) := by
  unfold i_pf
  rw [show (i_sX X S).1 = S.1 from rfl]
  repeat' split
  all_goals rfl
theorem i_xald {tag : Nat} (h : i_noX stk = true) : i_ald tag pc lv stk (i_sX X S) = i_oX X (i_ald tag pc lv stk S) := by
  unfold i_ald
  split
  · rw [i_arrX (i_noX_hd (i_noX_tl h))]
    repeat' split
    all_goals rfl
  · rfl
theorem i_xlald : i_lald pc lv stk (i_sX X S) = i_oX X (i_lald pc lv stk S) := by
  unfold i_lald
  rw [show (i_sX X S).1 = S.1 from rfl]
  repeat' split
  all_goals rfl
theorem i_xast {tag : Nat} : i_ast tag pc lv stk (i_sX X S) = i_oX X (i_ast tag pc lv stk S) := by
  unfold i_ast
  rw [show (i_sX X S).1 = S.1 from rfl]
  repeat' split
  all_goals rfl
theorem i_xlast : i_last pc lv stk (i_sX X S) = i_oX X (i_last pc lv stk S) := by
  unfold i_last
  rw [show (i_sX X S).1 = S.1 from rfl]
  repeat' split
  all_goals rfl
theorem i_xalen (h : i_noX stk = true) : i_alen pc lv stk (i_sX X S) = i_oX X (i_alen pc lv stk S) := by
  unfold i_alen
  rw [show (i_sX X S).1 = S.1 from rfl]
  split
  · rename_i q rest
    cases S.1[q]? with
    | none =>
      dsimp only
      rw [i_ext_lt (i_noX_hd h), i_ext_lt (i_noX_hd h)]
      rfl
    | some sh =>
      dsimp only
      split <;> rfl
  · rfl
theorem i_xcpy : i_cpy pc lv stk (i_sX X S) = i_oX X (i_cpy pc lv stk S) := by
  unfold i_cpy
  rw [show (i_sX X S).1 = S.1 from rfl]
  repeat' split
  all_goals rfl
theorem i_xmath {k : Nat} : i_math k pc lv stk (i_sX X S) = i_oX X (i_math k pc lv stk S) := by
  unfold i_math
  repeat' split
  all_goals rfl
theorem i_xnew {r : List Nat} : i_new r pc lv stk (i_sX X S) = i_oX X (i_new r pc lv stk S) := by
  unfold i_new
  rw [show (i_sX X S).1 = S.1 from rfl]
  repeat' split
  all_goals rfl
theorem i_xnewa {r : List Nat} : i_newa r pc lv stk (i_sX X S) = i_oX X (i_newa r pc lv stk S) := by
  unfold i_newa
  rw [show (i_sX X S).1 = S.1 from rfl]
  repeat' split
  all_goals rfl
theorem i_xcl {j : Nat} {as : List Value} : i_cl j as pc lv stk (i_sX X S) = i_oX X (i_cl j as pc lv stk S) := by
  unfold i_cl
  split <;> rfl
theorem i_xn {pc' : Nat} {stk' : List Value} : i_n pc' lv stk' (i_sX X S) = i_oX X (i_n pc' lv stk' S) := rfl
theorem i_xret {v : Option Value} : i_ret v = i_oX X (i_ret v) := rfl
theorem i_xinv {r : List Nat} : i_inv r pc lv stk (i_sX X S) = i_oX X (i_inv r pc lv stk S) := by
  rcases r with _ | ⟨j, _ | ⟨na, _ | ⟨a1, _ | ⟨a2, _ | ⟨a3, _ | ⟨a4, _ | ⟨a5, _ | ⟨a6, _ | ⟨a7, r⟩⟩⟩⟩⟩⟩⟩⟩⟩
  all_goals try rfl
  dsimp only [i_inv]
  cases List.drop na stk with
  | nil => rfl
  | cons v rest =>
    cases v
    all_goals try rfl
    rename_i q
    show (if i_isC S q (i_clsOf j) = true then _ else none) = i_oX X (if i_isC S q (i_clsOf j) = true then _ else none)
    by_cases hc : i_isC S q (i_clsOf j) = true
    · rw [if_pos hc, if_pos hc]
      exact i_xcl
    · rw [if_neg hc, if_neg hc]
      rfl
theorem i_xdo {ins : Instr} {c : Value} {r : List Nat} {sw : List (Int32 × Nat)} (h : i_noX stk = true) : i_do ins c r sw pc lv stk (i_sX X S) = i_oX X (i_do ins c r sw pc lv stk S) := by
  unfold i_do
  cases ins <;> dsimp only <;> first
    | rfl
    | exact i_xld
    | exact i_xsto
    | exact i_xbin
    | exact i_xbinL
    | exact i_xun
    | exact i_xunL
    | exact i_xgf
    | exact i_xpf
    | exact i_xald h
    | exact i_xlald
    | exact i_xast
    | exact i_xlast
    | exact i_xalen h
    | exact i_xnew
    | exact i_xnewa
    | exact i_xinv
    | (unfold i_ins
       repeat' split
       all_goals first | exact i_xcl | rfl)
    | (unfold i_invS
       repeat' split
       all_goals first | exact i_xcl | exact i_xcpy | exact i_xmath | rfl)
    | (unfold i_iret
       repeat' split
       all_goals first | exact i_xret | rfl)
    | (repeat' split
       all_goals first | exact i_xn | exact i_xret | rfl)
end ISX
theorem i_xstp {X : Nat × (Nat → Int32)} {code : List I_En} {cf : I_Cf} (h : i_noX cf.2.2.1 = true) : i_stp code (i_cX X cf) = i_oX X (i_stp code cf) := by
  unfold i_stp
  show (match code.lookup cf.1 with
    | none => none
    | some e => _) = _
  cases code.lookup cf.1 with
  | none => rfl
  | some e => exact i_xdo h
/-- a run that the kernel can make: the script is not looked at -/
def i_runC (call : Nat → List Value → I_St → Option (Option Value × I_St)) (code : List I_En) : Nat → I_Cf → Option (Option Value × I_St)
  | 0, _ => none
  | n + 1, cf => if i_noX cf.2.2.1 = true then (match i_stp code cf with
    | none => none
    | some (.inl cf') => i_runC call code n cf'
    | some (.inr (.inl q)) => match call q.1 q.2.1 q.2.2.2.2.2 with
      | none => none
      | some y => i_runC call code n (i_res q.2.2 y.1 y.2)
    | some (.inr (.inr v)) => some (v, cf.2.2.2)) else none
def i_execC (n : Nat) : Nat → Nat → List Value → I_St → Option (Option Value × I_St)
  | 0, _, _, _ => none
  | d + 1, j, as, S => match i_mt j with
    | none => none
    | some e => if (i_slots as).length ≤ e.2.2.1 then i_runC (i_execC n d) e.2.2.2.2.1 n (0, i_entry as e.2.2.1, [], S) else none
def i_segC (call : Nat → List Value → I_St → Option (Option Value × I_St)) (code : List I_En) : Nat → I_Cf → Option I_Cf
  | 0, cf => some cf
  | n + 1, cf => if i_noX cf.2.2.1 = true then (match i_stp code cf with
    | none => none
    | some (.inl cf') => i_segC call code n cf'
    | some (.inr (.inl q)) => match call q.1 q.2.1 q.2.2.2.2.2 with
      | none => none
      | some y => i_segC call code n (i_res q.2.2 y.1 y.2)
    | some (.inr (.inr _)) => none) else none
theorem i_runC_ok {X : Nat × (Nat → Int32)} {call : Nat → List Value → I_St → Option (Option Value × I_St)} {E : Nat → List Value → I_St → Option Value → I_St → Prop} (hc : ∀ j as S v S1, call j as S = some (v, S1) → E j as (i_sX X S) v (i_sX X S1)) {code : List I_En} : ∀ (n : Nat) (cf : I_Cf) (v : Option Value) (S' : I_St), i_runC call code n cf = some (v, S') → I_Rn E code n (i_cX X cf) v (i_sX X S') := by
  intro n
  induction n with
  | zero => intro cf v S' h; cases h
  | succ n ih =>
    intro cf v S' h
    unfold i_runC at h
    split at h
    · rename_i hn
      unfold I_Rn
      rw [i_xstp hn]
      split at h
      · cases h
      · rename_i cf' e1
        rw [e1]
        exact ih _ _ _ h
      · rename_i q e1
        rw [e1]
        split at h
        · cases h
        · rename_i y e2
          exact ⟨y.1, i_sX X y.2, hc _ _ _ _ _ e2, ih _ _ _ h⟩
      · rename_i v' e1
        rw [e1]
        cases h
        exact ⟨rfl, rfl⟩
    · cases h
theorem i_execC_ok {X : Nat × (Nat → Int32)} {n : Nat} : ∀ (d j : Nat) (as : List Value) (S : I_St) (v : Option Value) (S' : I_St), i_execC n d j as S = some (v, S') → I_Ex d j as (i_sX X S) v (i_sX X S') := by
  intro d
  induction d with
  | zero => intro j as S v S' h; cases h
  | succ d ih =>
    intro j as S v S' h
    unfold i_execC at h
    unfold I_Ex
    split at h
    · cases h
    · rename_i e e1
      rw [e1]
      split at h
      · rename_i hl
        exact ⟨hl, n, i_runC_ok (X := X) ih n _ _ _ h⟩
      · cases h
theorem i_segC_ok {X : Nat × (Nat → Int32)} {call : Nat → List Value → I_St → Option (Option Value × I_St)} {E : Nat → List Value → I_St → Option Value → I_St → Prop} (hc : ∀ j as S v S1, call j as S = some (v, S1) → E j as (i_sX X S) v (i_sX X S1)) {code : List I_En} {r : Option Value} {S' : I_St} : ∀ (n : Nat) (cf cf' : I_Cf), i_segC call code n cf = some cf' → I_RnE E code (i_cX X cf') r S' → I_RnE E code (i_cX X cf) r S' := by
  intro n
  induction n with
  | zero => intro cf cf' h h2; cases h; exact h2
  | succ n ih =>
    intro cf cf' h h2
    unfold i_segC at h
    split at h
    · rename_i hn
      have hx := i_xstp (X := X) (code := code) hn
      split at h
      · cases h
      · rename_i c1 e1
        rw [e1] at hx
        exact i_stp1 hx (ih _ _ h h2)
      · rename_i q e1
        rw [e1] at hx
        split at h
        · cases h
        · rename_i y e2
          exact i_rcall hx (hc _ _ _ _ _ e2) rfl (ih _ _ h h2)
      · cases h
    · cases h
/-- the law's first eight instructions, the two constructors with them -/
def i_cf0 : Option I_Cf := i_segC (i_execC 3000 5) i_c266 8 (0, [some (.ref 100), none, none, none], [], ([], (fun _ _ => 0), (fun _ _ => 0), (0, fun _ => 0)))
def i_M0 : I_M := match i_cf0 with
  | none => (fun _ _ => 0, fun _ _ => 0)
  | some cf => (cf.2.2.2.2.1, cf.2.2.2.2.2.1)
def i_cf0ok : Bool := match i_cf0 with
  | none => false
  | some cf => decide (cf.1 = 16) && decide (cf.2.1 = [some (.ref 100), some (.ref 0), some (.ref 50), none]) && decide (cf.2.2.1 = []) && decide (cf.2.2.2.1 = i_SH)
set_option maxRecDepth 100000 in
theorem i_cf0_true : i_cf0ok = true := by decide +kernel
