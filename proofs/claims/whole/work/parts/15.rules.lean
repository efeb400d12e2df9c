/-! ===== part 15: rules of the small machine's runs ===== -/
def I_RnE (E : Nat → List Value → I_St → Option Value → I_St → Prop) (code : List I_En) (cf : I_Cf) (r : Option Value) (S' : I_St) : Prop := ∃ n, I_Rn E code n cf r S'
/-- fewer locals -/
def i_sub : List (Option Value) → List (Option Value) → Prop
  | [], [] => True
  | none :: a, _ :: b => i_sub a b
  | some v :: a, o :: b => o = some v ∧ i_sub a b
  | _, _ => False
theorem i_sub_len : ∀ {a b : List (Option Value)}, i_sub a b → a.length = b.length
  | [], [], _ => rfl
  | none :: a, _ :: b, h => congrArg (· + 1) (i_sub_len (a := a) (b := b) h)
  | some v :: a, o :: b, h => congrArg (· + 1) (i_sub_len (a := a) (b := b) h.2)
  | [], _ :: _, h => h.elim
  | none :: _, [], h => h.elim
  | some _ :: _, [], h => h.elim
theorem i_sub_get : ∀ {a b : List (Option Value)} {i : Nat} {v : Value}, i_sub a b → i_get a i = some v → i_get b i = some v
  | [], [], _, _, _, h => h
  | none :: a, _ :: b, 0, v, _, h => by cases h
  | none :: a, o :: b, i + 1, v, h1, h => i_sub_get (a := a) (b := b) (i := i) h1 h
  | some w :: a, o :: b, 0, v, h1, h => by
    have e : some w = some v := h
    show o = some v
    rw [h1.1, e]
  | some w :: a, o :: b, i + 1, v, h1, h => i_sub_get (a := a) (b := b) (i := i) h1.2 h
  | [], _ :: _, _, _, h, _ => h.elim
  | none :: _, [], _, _, h, _ => h.elim
  | some _ :: _, [], _, _, h, _ => h.elim
theorem i_sub_set : ∀ {a b : List (Option Value)} (i : Nat) (o : Option Value), i_sub a b → i_sub (a.set i o) (b.set i o)
  | [], [], _, _, _ => trivial
  | none :: a, o2 :: b, 0, o, h => by
    cases o with
    | none => exact h
    | some v => exact ⟨rfl, h⟩
  | none :: a, o2 :: b, i + 1, o, h => i_sub_set (a := a) (b := b) i o h
  | some w :: a, o2 :: b, 0, o, h => by
    cases o with
    | none => exact h.2
    | some v => exact ⟨rfl, h.2⟩
  | some w :: a, o2 :: b, i + 1, o, h => ⟨h.1, i_sub_set (a := a) (b := b) i o h.2⟩
  | [], _ :: _, _, _, h => h.elim
  | none :: _, [], _, _, h => h.elim
  | some _ :: _, [], _, _, h => h.elim
theorem i_sub_none : ∀ {a b : List (Option Value)} (i : Nat), i_get a i = none → i_sub a b → i_sub a (b.set i none)
  | [], [], _, _, _ => trivial
  | none :: a, o2 :: b, 0, _, h => h
  | none :: a, o2 :: b, i + 1, h1, h => i_sub_none (a := a) (b := b) i h1 h
  | some w :: a, o2 :: b, 0, h1, _ => by cases h1
  | some w :: a, o2 :: b, i + 1, h1, h => ⟨h.1, i_sub_none (a := a) (b := b) i h1 h.2⟩
  | [], _ :: _, _, _, h => h.elim
  | none :: _, [], _, _, h => h.elim
  | some _ :: _, [], _, _, h => h.elim
theorem i_sub_clr {a b : List (Option Value)} (k : Nat) (h : i_sub a b) : i_sub (i_clr a k) (i_clr b k) := by
  cases ha : i_get a k with
  | some v =>
    have hb := i_sub_get h ha
    unfold i_clr
    rw [ha, hb]
    cases v with
    | long x => exact i_sub_set k none h
    | double x => exact i_sub_set k none h
    | _ => exact h
  | none =>
    have e : i_clr a k = a := by unfold i_clr; rw [ha]
    rw [e]
    unfold i_clr
    split
    · exact i_sub_none k ha h
    · exact i_sub_none k ha h
    · exact h
theorem i_sub_st1 {a b : List (Option Value)} (i : Nat) (v : Value) (h : i_sub a b) : i_sub (i_st1 a i v) (i_st1 b i v) := by
  unfold i_st1
  cases i with
  | zero => exact i_sub_set 0 (some v) h
  | succ k => exact i_sub_set (k + 1) (some v) (i_sub_clr k h)
theorem i_sub_st2 {a b : List (Option Value)} (i : Nat) (v : Value) (h : i_sub a b) : i_sub (i_st2 a i v) (i_st2 b i v) := i_sub_set (i + 1) none (i_sub_st1 i v h)
def i_relC (c' c : I_Cf) : Prop := c'.1 = c.1 ∧ i_sub c'.2.1 c.2.1 ∧ c'.2.2 = c.2.2
def i_rel (o' o : Option I_Out) : Prop := match o' with
  | none => True
  | some (.inl c') => ∃ c, o = some (.inl c) ∧ i_relC c' c
  | some (.inr (.inl q)) => ∃ c, o = some (.inr (.inl (q.1, q.2.1, c))) ∧ i_relC q.2.2 c
  | some (.inr (.inr v)) => o = some (.inr (.inr v))
section IFG
variable {pc : Nat} {a b : List (Option Value)} {stk : List Value} {S : I_St}
theorem i_rel_n (h : i_sub a b) : i_rel (i_n pc a stk S) (i_n pc b stk S) := ⟨_, rfl, rfl, h, rfl⟩
theorem i_rel_cl {j : Nat} {as : List Value} (h : i_sub a b) : i_rel (i_cl j as pc a stk S) (i_cl j as pc b stk S) := by
  unfold i_cl
  split
  · exact ⟨_, rfl, rfl, h, rfl⟩
  · trivial
theorem i_rel_ld {i len kind : Nat} (h : i_sub a b) : i_rel (i_ld i len kind pc a stk S) (i_ld i len kind pc b stk S) := by
  cases ha : i_get a i with
  | none =>
    unfold i_ld
    rw [ha]
    split
    · rename_i e; cases e
    · rename_i e; cases e
    · rename_i e; cases e
    · trivial
  | some v =>
    have hb := i_sub_get h ha
    unfold i_ld
    rw [ha, hb]
    split
    · exact i_rel_n h
    · exact i_rel_n h
    · exact i_rel_n h
    · trivial
theorem i_rel_sto {i len kind : Nat} (h : i_sub a b) : i_rel (i_sto i len kind pc a stk S) (i_sto i len kind pc b stk S) := by
  unfold i_sto
  rw [i_sub_len h]
  split
  · split
    · exact i_rel_n (i_sub_st1 i _ h)
    · trivial
  · split
    · exact i_rel_n (i_sub_st2 i _ h)
    · trivial
  · split
    · exact i_rel_n (i_sub_st1 i _ h)
    · trivial
  · trivial
theorem i_rel_bin {f : Int32 → Int32 → Int32} (h : i_sub a b) : i_rel (i_bin f pc a stk S) (i_bin f pc b stk S) := by
  unfold i_bin
  split <;> first | exact i_rel_n h | trivial
theorem i_rel_binL {f : Int64 → Int64 → Int64} (h : i_sub a b) : i_rel (i_binL f pc a stk S) (i_binL f pc b stk S) := by
  unfold i_binL
  split <;> first | exact i_rel_n h | trivial
theorem i_rel_un {f : Int32 → Value} (h : i_sub a b) : i_rel (i_un stk f pc a S) (i_un stk f pc b S) := by
  unfold i_un
  split <;> first | exact i_rel_n h | trivial
theorem i_rel_unL {f : Int64 → Value} (h : i_sub a b) : i_rel (i_unL stk f pc a S) (i_unL stk f pc b S) := by
  unfold i_unL
  split <;> first | exact i_rel_n h | trivial
theorem i_rel_gf {r : List Nat} (h : i_sub a b) : i_rel (i_gf r pc a stk S) (i_gf r pc b stk S) := by
  unfold i_gf
  repeat' split
  all_goals first | exact i_rel_n h | trivial
theorem i_rel_pf {r : List Nat} (h : i_sub a b) : i_rel (i_pf r pc a stk S) (i_pf r pc b stk S) := by
  unfold i_pf
  repeat' split
  all_goals first | exact i_rel_n h | trivial
theorem i_rel_ald {tag : Nat} (h : i_sub a b) : i_rel (i_ald tag pc a stk S) (i_ald tag pc b stk S) := by
  unfold i_ald
  repeat' split
  all_goals first | exact i_rel_n h | trivial
theorem i_rel_lald (h : i_sub a b) : i_rel (i_lald pc a stk S) (i_lald pc b stk S) := by
  unfold i_lald
  repeat' split
  all_goals first | exact i_rel_n h | trivial
theorem i_rel_ast {tag : Nat} (h : i_sub a b) : i_rel (i_ast tag pc a stk S) (i_ast tag pc b stk S) := by
  unfold i_ast
  repeat' split
  all_goals first | exact i_rel_n h | trivial
theorem i_rel_last (h : i_sub a b) : i_rel (i_last pc a stk S) (i_last pc b stk S) := by
  unfold i_last
  repeat' split
  all_goals first | exact i_rel_n h | trivial
theorem i_rel_alen (h : i_sub a b) : i_rel (i_alen pc a stk S) (i_alen pc b stk S) := by
  unfold i_alen
  repeat' split
  all_goals first | exact i_rel_n h | trivial
theorem i_rel_cpy (h : i_sub a b) : i_rel (i_cpy pc a stk S) (i_cpy pc b stk S) := by
  unfold i_cpy
  repeat' split
  all_goals first | exact i_rel_n h | trivial
theorem i_rel_math {k : Nat} (h : i_sub a b) : i_rel (i_math k pc a stk S) (i_math k pc b stk S) := by
  unfold i_math
  repeat' split
  all_goals first | exact i_rel_n h | trivial
theorem i_rel_new {r : List Nat} (h : i_sub a b) : i_rel (i_new r pc a stk S) (i_new r pc b stk S) := by
  unfold i_new
  repeat' split
  all_goals first | exact i_rel_n h | trivial
theorem i_rel_newa {r : List Nat} (h : i_sub a b) : i_rel (i_newa r pc a stk S) (i_newa r pc b stk S) := by
  unfold i_newa
  repeat' split
  all_goals first | exact i_rel_n h | trivial
theorem i_rel_ret {v : Option Value} : i_rel (i_ret v) (i_ret v) := rfl
theorem i_rel_do {ins : Instr} {c : Value} {r : List Nat} {sw : List (Int32 × Nat)} (h : i_sub a b) : i_rel (i_do ins c r sw pc a stk S) (i_do ins c r sw pc b stk S) := by
  unfold i_do
  cases ins <;> dsimp only <;> first
    | trivial
    | exact i_rel_n h
    | exact i_rel_ld h
    | exact i_rel_sto h
    | exact i_rel_bin h
    | exact i_rel_binL h
    | exact i_rel_un h
    | exact i_rel_unL h
    | exact i_rel_gf h
    | exact i_rel_pf h
    | exact i_rel_ald h
    | exact i_rel_lald h
    | exact i_rel_ast h
    | exact i_rel_last h
    | exact i_rel_alen h
    | exact i_rel_new h
    | exact i_rel_newa h
    | (unfold i_inv
       repeat' split
       all_goals first | exact i_rel_cl h | trivial)
    | (unfold i_ins
       repeat' split
       all_goals first | exact i_rel_cl h | exact i_rel_n h | trivial)
    | (unfold i_invS
       repeat' split
       all_goals first | exact i_rel_cl h | exact i_rel_cpy h | exact i_rel_math h | trivial)
    | (unfold i_iret
       repeat' split
       all_goals first | exact i_rel_ret | trivial)
    | (rename_i i n
       cases ha : i_get a i with
       | none => trivial
       | some v =>
         rw [i_sub_get h ha, i_sub_len h]
         repeat' split
         all_goals first | exact i_rel_n (i_sub_st1 i _ h) | trivial)
    | (repeat' split
       all_goals first | exact i_rel_n h | exact i_rel_ret | trivial)
end IFG
theorem i_Rn_sub {E : Nat → List Value → I_St → Option Value → I_St → Prop} {code : List I_En} : ∀ (n : Nat) (c' c : I_Cf) (r : Option Value) (S' : I_St), i_relC c' c → I_Rn E code n c' r S' → I_Rn E code n c r S' := by
  intro n
  induction n with
  | zero => intro c' c r S' _ h; exact h.elim
  | succ n ih =>
    intro c' c r S' hc h
    obtain ⟨pc, lv, stk, S⟩ := c
    obtain ⟨pc', lv', stk', S2⟩ := c'
    obtain ⟨e1, e2, e3⟩ := hc
    cases e1
    cases e3
    have hO : i_rel (i_stp code (pc, lv', stk, S)) (i_stp code (pc, lv, stk, S)) := by
      unfold i_stp
      dsimp only
      split
      · trivial
      · exact i_rel_do e2
    unfold I_Rn at h ⊢
    split at h
    · exact h.elim
    · rename_i cf' e4
      rw [e4] at hO
      obtain ⟨c2, h5, h6⟩ := hO
      rw [h5]
      exact ih _ _ _ _ h6 h
    · rename_i k as cf' e4
      rw [e4] at hO
      obtain ⟨c2, h5, h6⟩ := hO
      rw [h5]
      obtain ⟨v, S1, h7, h8⟩ := h
      have h6 : i_relC cf' c2 := h6
      have e9 : cf'.2.2 = c2.2.2 := h6.2.2
      refine ⟨v, S1, ?_, ih (i_res cf' v S1) (i_res c2 v S1) _ _ ⟨h6.1, h6.2.1, ?_⟩ h8⟩
      · rw [← e9]; exact h7
      · show (v.toList ++ cf'.2.2.1, S1) = (v.toList ++ c2.2.2.1, S1)
        rw [e9]
    · rename_i v e4
      rw [e4] at hO
      rw [show i_stp code (pc, lv, stk, S) = some (.inr (.inr v)) from hO]
      exact h
/-- locals may be forgotten -/
theorem i_fg {E : Nat → List Value → I_St → Option Value → I_St → Prop} {code : List I_En} {pc : Nat} {lv lv' : List (Option Value)} {stk : List Value} {S : I_St} {r : Option Value} {S' : I_St} (hs : i_sub lv' lv) (h : I_RnE E code (pc, lv', stk, S) r S') : I_RnE E code (pc, lv, stk, S) r S' := by
  obtain ⟨n, h⟩ := h
  exact ⟨n, i_Rn_sub n (pc, lv', stk, S) (pc, lv, stk, S) _ _ ⟨rfl, hs, rfl⟩ h⟩
def i_stps (code : List I_En) : Nat → I_Cf → Option I_Cf
  | 0, cf => some cf
  | n + 1, cf => match i_stp code cf with
    | some (.inl cf') => i_stps code n cf'
    | _ => none
section IRUL
variable {E : Nat → List Value → I_St → Option Value → I_St → Prop} {code : List I_En} {r : Option Value} {S' : I_St}
theorem i_stp1 {cf cf' : I_Cf} (h : i_stp code cf = some (.inl cf')) (h2 : I_RnE E code cf' r S') : I_RnE E code cf r S' := by
  obtain ⟨n, h2⟩ := h2
  refine ⟨n + 1, ?_⟩
  unfold I_Rn
  rw [h]
  exact h2
theorem i_rs : ∀ (k : Nat) {cf cf' : I_Cf}, i_stps code k cf = some cf' → I_RnE E code cf' r S' → I_RnE E code cf r S'
  | 0, cf, cf', h, h2 => by
    cases h
    exact h2
  | k + 1, cf, cf', h, h2 => by
    unfold i_stps at h
    split at h
    · rename_i c1 e1
      exact i_stp1 e1 (i_rs k h h2)
    · cases h
theorem i_rbT {c : Prop} [Decidable c] {t n : Nat} {cf : I_Cf} {lv : List (Option Value)} {stk : List Value} {S : I_St} (h : i_stp code cf = some (.inl (if c then t else n, lv, stk, S))) (hc : c) (h2 : I_RnE E code (t, lv, stk, S) r S') : I_RnE E code cf r S' := by
  rw [if_pos hc] at h
  exact i_stp1 h h2
theorem i_rbF {c : Prop} [Decidable c] {t n : Nat} {cf : I_Cf} {lv : List (Option Value)} {stk : List Value} {S : I_St} (h : i_stp code cf = some (.inl (if c then t else n, lv, stk, S))) (hc : ¬ c) (h2 : I_RnE E code (n, lv, stk, S) r S') : I_RnE E code cf r S' := by
  rw [if_neg hc] at h
  exact i_stp1 h h2
theorem i_rswT {x k : Int32} {d t : Nat} {l2 : List (Int32 × Nat)} {lv : List (Option Value)} {stk : List Value} {S : I_St} (hc : x = k) (h2 : I_RnE E code (t, lv, stk, S) r S') : I_RnE E code (i_sw x d ((k, t) :: l2), lv, stk, S) r S' := by
  show I_RnE E code (if x = k then t else i_sw x d l2, lv, stk, S) r S'
  rw [if_pos hc]
  exact h2
theorem i_rswF {x k : Int32} {d t : Nat} {l2 : List (Int32 × Nat)} {lv : List (Option Value)} {stk : List Value} {S : I_St} (hc : ¬ x = k) (h2 : I_RnE E code (i_sw x d l2, lv, stk, S) r S') : I_RnE E code (i_sw x d ((k, t) :: l2), lv, stk, S) r S' := by
  show I_RnE E code (if x = k then t else i_sw x d l2, lv, stk, S) r S'
  rw [if_neg hc]
  exact h2
theorem i_rret {cf : I_Cf} {v : Option Value} {S : I_St} (h : i_stp code cf = some (.inr (.inr v))) (hS : cf.2.2.2 = S) : I_RnE E code cf v S := by
  refine ⟨1, ?_⟩
  unfold I_Rn
  rw [h]
  exact ⟨rfl, hS.symm⟩
theorem i_rcall {cf cf1 cf' : I_Cf} {k : Nat} {as : List Value} {v : Option Value} {S1 : I_St} (h : i_stp code cf = some (.inr (.inl (k, as, cf1)))) (hE : E k as cf1.2.2.2 v S1) (he : i_res cf1 v S1 = cf') (h2 : I_RnE E code cf' r S') : I_RnE E code cf r S' := by
  obtain ⟨n, h2⟩ := h2
  refine ⟨n + 1, ?_⟩
  unfold I_Rn
  rw [h]
  exact ⟨v, S1, hE, by rw [he]; exact h2⟩
/-- a step that looks first -/
theorem i_rg {c : Prop} [Decidable c] {cf cf' : I_Cf} {o : Option I_Out} (h : i_stp code cf = o) (ho : o = if c then none else some (.inl cf')) (hc : ¬ c) (h2 : I_RnE E code cf' r S') : I_RnE E code cf r S' := by
  rw [ho, if_neg hc] at h
  exact i_stp1 h h2
end IRUL
/-- a call, from the run of its body -/
theorem i_ex {d j : Nat} {e : I_Row} {as : List Value} {S : I_St} {r : Option Value} {S' : I_St} (h : i_mt j = some e) (hl : (i_slots as).length ≤ e.2.2.1) {lv : List (Option Value)} (hlv : i_entry as e.2.2.1 = lv) (h2 : I_RnE (I_Ex d) e.2.2.2.2.1 (0, lv, [], S) r S') : I_Ex (d + 1) j as S r S' := by
  unfold I_Ex
  rw [h]
  subst hlv
  exact ⟨hl, h2⟩
theorem i_Rn_mono {E E' : Nat → List Value → I_St → Option Value → I_St → Prop} (hE : ∀ k as S v S1, E k as S v S1 → E' k as S v S1) {code : List I_En} : ∀ (n : Nat) (cf : I_Cf) (r : Option Value) (S' : I_St), I_Rn E code n cf r S' → I_Rn E' code n cf r S' := by
  intro n
  induction n with
  | zero => intro cf r S' h; exact h
  | succ n ih =>
    intro cf r S' h
    unfold I_Rn at h ⊢
    split at h
    · exact h.elim
    · exact ih _ _ _ h
    · obtain ⟨v, S1, h1, h2⟩ := h
      exact ⟨v, S1, hE _ _ _ _ _ h1, ih _ _ _ h2⟩
    · exact h
theorem i_Ex_up {d : Nat} : ∀ {j : Nat} {as : List Value} {S : I_St} {r : Option Value} {S' : I_St}, I_Ex d j as S r S' → I_Ex (d + 1) j as S r S' := by
  induction d with
  | zero => intro j as S r S' h; exact h.elim
  | succ d ih =>
    intro j as S r S' h
    unfold I_Ex at h ⊢
    split at h
    · exact h.elim
    · obtain ⟨h1, n, h2⟩ := h
      exact ⟨h1, n, i_Rn_mono (fun k as S v S1 => ih) n _ _ _ h2⟩
theorem i_Ex_mono {d d' j : Nat} {as : List Value} {S : I_St} {r : Option Value} {S' : I_St} (hd : d ≤ d') (h : I_Ex d j as S r S') : I_Ex d' j as S r S' := by
  obtain ⟨k, rfl⟩ := Nat.exists_eq_add_of_le hd
  induction k with
  | zero => exact h
  | succ k ih => exact i_Ex_up (ih (Nat.le_add_right _ _))
