/-! ===== part 13: calls, returns; a run of the small machine is a run of the machine ===== -/
def i_le (S S' : I_St) : Prop := S.1.length ≤ S'.1.length ∧ i_sl S ≤ i_sl S' ∧ S'.2.2.2 = S.2.2.2
theorem i_le_rf (S : I_St) : i_le S S := ⟨Nat.le_refl _, Nat.le_refl _, rfl⟩
theorem i_le_tr {A B C : I_St} (h : i_le A B) (h2 : i_le B C) : i_le A C := ⟨Nat.le_trans h.1 h2.1, Nat.le_trans h.2.1 h2.2.1, h2.2.2.trans h.2.2⟩
def i_okO (S : I_St) (o : Option I_Out) : Prop := match o with
  | none => True
  | some (.inl cf) => i_le S cf.2.2.2
  | some (.inr (.inl q)) => q.2.2.2.2.2 = S
  | some (.inr (.inr _)) => True
theorem i_okO_n {pc : Nat} {lv : List (Option Value)} {stk : List Value} {S : I_St} : i_okO S (i_n pc lv stk S) := i_le_rf S
theorem i_okO_ld {i len kind pc : Nat} {lv : List (Option Value)} {stk : List Value} {S : I_St} : i_okO S (i_ld i len kind pc lv stk S) := by
  unfold i_ld
  split <;> first | exact i_okO_n | trivial
theorem i_okO_sto {i len kind pc : Nat} {lv : List (Option Value)} {stk : List Value} {S : I_St} : i_okO S (i_sto i len kind pc lv stk S) := by
  unfold i_sto
  split
  · split <;> first | exact i_okO_n | trivial
  · split <;> first | exact i_okO_n | trivial
  · split <;> first | exact i_okO_n | trivial
  · trivial
theorem i_okO_bin {f : Int32 → Int32 → Int32} {pc : Nat} {lv : List (Option Value)} {stk : List Value} {S : I_St} : i_okO S (i_bin f pc lv stk S) := by
  unfold i_bin
  split <;> first | exact i_okO_n | trivial
theorem i_okO_binL {f : Int64 → Int64 → Int64} {pc : Nat} {lv : List (Option Value)} {stk : List Value} {S : I_St} : i_okO S (i_binL f pc lv stk S) := by
  unfold i_binL
  split <;> first | exact i_okO_n | trivial
theorem i_okO_un {f : Int32 → Value} {pc : Nat} {lv : List (Option Value)} {stk : List Value} {S : I_St} : i_okO S (i_un stk f pc lv S) := by
  unfold i_un
  split <;> first | exact i_okO_n | trivial
theorem i_okO_unL {f : Int64 → Value} {pc : Nat} {lv : List (Option Value)} {stk : List Value} {S : I_St} : i_okO S (i_unL stk f pc lv S) := by
  unfold i_unL
  split <;> first | exact i_okO_n | trivial
theorem i_okO_gf {r : List Nat} {pc : Nat} {lv : List (Option Value)} {stk : List Value} {S : I_St} : i_okO S (i_gf r pc lv stk S) := by
  unfold i_gf
  repeat' split
  all_goals first | exact i_okO_n | trivial
theorem i_okO_pf {r : List Nat} {pc : Nat} {lv : List (Option Value)} {stk : List Value} {S : I_St} : i_okO S (i_pf r pc lv stk S) := by
  unfold i_pf
  repeat' split
  all_goals first | trivial | exact ⟨Nat.le_refl _, Nat.le_refl _, rfl⟩ | skip
  rename_i t n refs hq hc
  refine ⟨?_, ?_, rfl⟩
  · show _ ≤ (S.1.set _ _).length
    rw [List.length_set]
    exact Nat.le_refl _
  · show i_sl S ≤ ((S.1.set _ _).map fun z : I_Sh => z.2.1).sum
    exact Nat.le_of_eq (i_sum_set hq (by rfl)).symm
theorem i_okO_ald {tag : Nat} {pc : Nat} {lv : List (Option Value)} {stk : List Value} {S : I_St} : i_okO S (i_ald tag pc lv stk S) := by
  unfold i_ald
  repeat' split
  all_goals first | exact i_okO_n | trivial
theorem i_okO_lald {pc : Nat} {lv : List (Option Value)} {stk : List Value} {S : I_St} : i_okO S (i_lald pc lv stk S) := by
  unfold i_lald
  repeat' split
  all_goals first | exact i_okO_n | trivial
theorem i_okO_ast {tag : Nat} {pc : Nat} {lv : List (Option Value)} {stk : List Value} {S : I_St} : i_okO S (i_ast tag pc lv stk S) := by
  unfold i_ast
  repeat' split
  all_goals first | trivial | exact ⟨Nat.le_refl _, Nat.le_refl _, rfl⟩
theorem i_okO_last {pc : Nat} {lv : List (Option Value)} {stk : List Value} {S : I_St} : i_okO S (i_last pc lv stk S) := by
  unfold i_last
  repeat' split
  all_goals first | trivial | exact ⟨Nat.le_refl _, Nat.le_refl _, rfl⟩
theorem i_okO_alen {pc : Nat} {lv : List (Option Value)} {stk : List Value} {S : I_St} : i_okO S (i_alen pc lv stk S) := by
  unfold i_alen
  repeat' split
  all_goals first | exact i_okO_n | trivial
theorem i_okO_cpy {pc : Nat} {lv : List (Option Value)} {stk : List Value} {S : I_St} : i_okO S (i_cpy pc lv stk S) := by
  unfold i_cpy
  repeat' split
  all_goals first | trivial | exact ⟨Nat.le_refl _, Nat.le_refl _, rfl⟩
theorem i_okO_math {k : Nat} {pc : Nat} {lv : List (Option Value)} {stk : List Value} {S : I_St} : i_okO S (i_math k pc lv stk S) := by
  unfold i_math
  repeat' split
  all_goals first | exact i_okO_n | trivial
theorem i_okO_new {r : List Nat} {pc : Nat} {lv : List (Option Value)} {stk : List Value} {S : I_St} : i_okO S (i_new r pc lv stk S) := by
  unfold i_new
  repeat' split
  all_goals first | trivial | skip
  refine ⟨?_, ?_, rfl⟩
  · show _ ≤ (S.1 ++ _).length
    simp
  · show i_sl S ≤ ((S.1 ++ _).map fun z : I_Sh => z.2.1).sum
    rw [List.map_append, List.sum_append]
    exact Nat.le_add_right _ _
theorem i_okO_newa {r : List Nat} {pc : Nat} {lv : List (Option Value)} {stk : List Value} {S : I_St} : i_okO S (i_newa r pc lv stk S) := by
  unfold i_newa
  repeat' split
  all_goals first | trivial | skip
  refine ⟨?_, ?_, rfl⟩
  · show _ ≤ (S.1 ++ _).length
    simp
  · show i_sl S ≤ ((S.1 ++ _).map fun z : I_Sh => z.2.1).sum
    rw [List.map_append, List.sum_append]
    exact Nat.le_add_right _ _
theorem i_okO_cl {j : Nat} {as : List Value} {pc : Nat} {lv : List (Option Value)} {stk : List Value} {S : I_St} : i_okO S (i_cl j as pc lv stk S) := by
  unfold i_cl
  split
  · rfl
  · trivial
theorem i_okO_do {ins : Instr} {c : Value} {r : List Nat} {sw : List (Int32 × Nat)} {pc : Nat} {lv : List (Option Value)} {stk : List Value} {S : I_St} : i_okO S (i_do ins c r sw pc lv stk S) := by
  unfold i_do
  cases ins <;> dsimp only <;> first
    | trivial
    | exact i_okO_n
    | exact i_okO_ld
    | exact i_okO_sto
    | exact i_okO_bin
    | exact i_okO_binL
    | exact i_okO_un
    | exact i_okO_unL
    | exact i_okO_gf
    | exact i_okO_pf
    | exact i_okO_ald
    | exact i_okO_lald
    | exact i_okO_ast
    | exact i_okO_last
    | exact i_okO_alen
    | exact i_okO_new
    | exact i_okO_newa
    | (repeat' split
       all_goals first | exact i_okO_n | trivial)
    | (unfold i_inv
       repeat' split
       all_goals first | exact i_okO_cl | trivial)
    | (unfold i_ins
       repeat' split
       all_goals first | exact i_okO_cl | exact i_okO_n | trivial)
    | (unfold i_invS
       repeat' split
       all_goals first | exact i_okO_cl | exact i_okO_cpy | exact i_okO_math | trivial)
    | (unfold i_iret
       repeat' split
       all_goals trivial)
theorem i_Rn_le {E : Nat → List Value → I_St → Option Value → I_St → Prop} (hE : ∀ k as S v S1, E k as S v S1 → i_le S S1) {code : List I_En} : ∀ (n : Nat) (cf : I_Cf) (r : Option Value) (S' : I_St), I_Rn E code n cf r S' → i_le cf.2.2.2 S' := by
  intro n
  induction n with
  | zero => intro cf r S' h; exact h.elim
  | succ n ih =>
    intro cf r S' h
    have hO : i_okO cf.2.2.2 (i_stp code cf) := by
      unfold i_stp
      split
      · trivial
      · exact i_okO_do
    unfold I_Rn at h
    split at h
    · exact h.elim
    · rename_i cf' e1
      rw [e1] at hO
      exact i_le_tr hO (ih _ _ _ h)
    · rename_i k as cf' e1
      rw [e1] at hO
      obtain ⟨v, S1, h1, h2⟩ := h
      have h3 := ih _ _ _ h2
      have e2 : cf'.2.2.2 = cf.2.2.2 := hO
      rw [← e2]
      exact i_le_tr (hE _ _ _ _ _ h1) h3
    · obtain ⟨-, rfl⟩ := h
      exact i_le_rf _
theorem i_Ex_le : ∀ (d j : Nat) (as : List Value) (S : I_St) (r : Option Value) (S' : I_St), I_Ex d j as S r S' → i_le S S' := by
  intro d
  induction d with
  | zero => intro j as S r S' h; exact h.elim
  | succ d ih =>
    intro j as S r S' h
    unfold I_Ex at h
    split at h
    · exact h.elim
    · obtain ⟨-, n, h⟩ := h
      exact i_Rn_le (fun k as S v S1 => ih k as S v S1) n _ _ _ h
/-! contracts -/
def i_room (d : Nat) (S S' : I_St) : Room := { frames := d, cells := S'.1.length - S.1.length, slots := i_sl S' - i_sl S, locals := 64 * d }
def i_Q (D : va_G) (G : I_G) (r : Option Value) (S' : I_St) : Array Value → State → Outcome → State → Prop := match r with
  | none => va_Qv (fun _ : Unit => True) (fun _ t => i_P D G S' t.heap) (i_A G)
  | some (.int v) => va_Qi (fun x (_ : Unit) => x = v) (fun _ t => i_P D G S' t.heap) (i_A G)
  | some (.long v) => va_Ql (fun x (_ : Unit) => x = v) (fun _ t => i_P D G S' t.heap) (i_A G)
  | some _ => fun _ _ _ _ => False
def i_B (D : va_G) (G : I_G) (S : I_St) : State → Prop := fun U => i_P D G S U.heap ∧ i_K D G U ∧ i_E G S.2.2.2 U U.heap
def i_Ws (e : I_Row) : List Jvm.Cond := .code e.1 e.2.1 e.2.2.1 e.2.2.2.1 :: i_W0
def i_MetAt (l : Launch) (D : va_G) (G : I_G) (d j : Nat) (as : List Value) (S : I_St) (r : Option Value) (S' : I_St) : Prop :=
  ∀ e : I_Row, i_mt j = some e → Met l e.1 (i_Ws e) (i_room d S S') (va_Pc (as.map (i_cv G)) (i_B D G S)) (i_Q D G r S') (S'.1.length - S.1.length) (i_sl S' - i_sl S) (i_A G)
theorem i_good {L : List Jvm.Cond} (h : ∀ w ∈ L, w ∈ i_W0) : GoodIn i_W0 L := fun w hw => ⟨h w hw, good_of_word (List.mem_filter.mp (h w hw)).2⟩
theorem i_blind {av : List Value} {D : va_G} {G : I_G} {S : I_St} : FrameBlind (va_Pc av (i_B D G S)) := fun a U g mk q => ⟨q.1, q.2.1, i_K.same (u := U) (U := U.calling g mk a) rfl q.2.2.1, i_E.moved (u := U) (U := U.calling g mk a) (Vm.Alike.refl U.vm) q.2.2.2⟩
theorem i_nc_n {pc : Nat} {lv : List (Option Value)} {stk : List Value} {S : I_St} {q : Nat × List Value × I_Cf} : ¬ i_n pc lv stk S = some (.inr (.inl q)) := by
  intro z; cases z
theorem i_nc_ld {i len kind pc : Nat} {lv : List (Option Value)} {stk : List Value} {S : I_St} {q : Nat × List Value × I_Cf} : ¬ i_ld i len kind pc lv stk S = some (.inr (.inl q)) := by
  unfold i_ld
  repeat' split
  all_goals (intro z; cases z)
theorem i_nc_sto {i len kind pc : Nat} {lv : List (Option Value)} {stk : List Value} {S : I_St} {q : Nat × List Value × I_Cf} : ¬ i_sto i len kind pc lv stk S = some (.inr (.inl q)) := by
  unfold i_sto
  repeat' split
  all_goals (intro z; cases z)
theorem i_nc_bin {f : Int32 → Int32 → Int32} {pc : Nat} {lv : List (Option Value)} {stk : List Value} {S : I_St} {q : Nat × List Value × I_Cf} : ¬ i_bin f pc lv stk S = some (.inr (.inl q)) := by
  unfold i_bin
  repeat' split
  all_goals (intro z; cases z)
theorem i_nc_binL {f : Int64 → Int64 → Int64} {pc : Nat} {lv : List (Option Value)} {stk : List Value} {S : I_St} {q : Nat × List Value × I_Cf} : ¬ i_binL f pc lv stk S = some (.inr (.inl q)) := by
  unfold i_binL
  repeat' split
  all_goals (intro z; cases z)
theorem i_nc_un {f : Int32 → Value} {pc : Nat} {lv : List (Option Value)} {stk : List Value} {S : I_St} {q : Nat × List Value × I_Cf} : ¬ i_un stk f pc lv S = some (.inr (.inl q)) := by
  unfold i_un
  repeat' split
  all_goals (intro z; cases z)
theorem i_nc_unL {f : Int64 → Value} {pc : Nat} {lv : List (Option Value)} {stk : List Value} {S : I_St} {q : Nat × List Value × I_Cf} : ¬ i_unL stk f pc lv S = some (.inr (.inl q)) := by
  unfold i_unL
  repeat' split
  all_goals (intro z; cases z)
theorem i_nc_gf {r : List Nat} {pc : Nat} {lv : List (Option Value)} {stk : List Value} {S : I_St} {q : Nat × List Value × I_Cf} : ¬ i_gf r pc lv stk S = some (.inr (.inl q)) := by
  unfold i_gf
  repeat' split
  all_goals (intro z; cases z)
theorem i_nc_pf {r : List Nat} {pc : Nat} {lv : List (Option Value)} {stk : List Value} {S : I_St} {q : Nat × List Value × I_Cf} : ¬ i_pf r pc lv stk S = some (.inr (.inl q)) := by
  unfold i_pf
  repeat' split
  all_goals (intro z; cases z)
theorem i_nc_ald {tag pc : Nat} {lv : List (Option Value)} {stk : List Value} {S : I_St} {q : Nat × List Value × I_Cf} : ¬ i_ald tag pc lv stk S = some (.inr (.inl q)) := by
  unfold i_ald
  repeat' split
  all_goals (intro z; cases z)
theorem i_nc_lald {pc : Nat} {lv : List (Option Value)} {stk : List Value} {S : I_St} {q : Nat × List Value × I_Cf} : ¬ i_lald pc lv stk S = some (.inr (.inl q)) := by
  unfold i_lald
  repeat' split
  all_goals (intro z; cases z)
theorem i_nc_ast {tag pc : Nat} {lv : List (Option Value)} {stk : List Value} {S : I_St} {q : Nat × List Value × I_Cf} : ¬ i_ast tag pc lv stk S = some (.inr (.inl q)) := by
  unfold i_ast
  repeat' split
  all_goals (intro z; cases z)
theorem i_nc_last {pc : Nat} {lv : List (Option Value)} {stk : List Value} {S : I_St} {q : Nat × List Value × I_Cf} : ¬ i_last pc lv stk S = some (.inr (.inl q)) := by
  unfold i_last
  repeat' split
  all_goals (intro z; cases z)
theorem i_nc_alen {pc : Nat} {lv : List (Option Value)} {stk : List Value} {S : I_St} {q : Nat × List Value × I_Cf} : ¬ i_alen pc lv stk S = some (.inr (.inl q)) := by
  unfold i_alen
  repeat' split
  all_goals (intro z; cases z)
theorem i_nc_new {r : List Nat} {pc : Nat} {lv : List (Option Value)} {stk : List Value} {S : I_St} {q : Nat × List Value × I_Cf} : ¬ i_new r pc lv stk S = some (.inr (.inl q)) := by
  unfold i_new
  repeat' split
  all_goals (intro z; cases z)
theorem i_nc_newa {r : List Nat} {pc : Nat} {lv : List (Option Value)} {stk : List Value} {S : I_St} {q : Nat × List Value × I_Cf} : ¬ i_newa r pc lv stk S = some (.inr (.inl q)) := by
  unfold i_newa
  repeat' split
  all_goals (intro z; cases z)
theorem i_nc_iret {r : List Nat} {stk : List Value} {q : Nat × List Value × I_Cf} : ¬ i_iret r stk = some (.inr (.inl q)) := by
  unfold i_iret
  repeat' split
  all_goals (intro z; cases z)
def i_nR (o : Option I_Out) : Prop := ∀ v, ¬ o = some (.inr (.inr v))
theorem i_nr {o : Option I_Out} {v : Option Value} (h : i_nR o) (h2 : o = some (.inr (.inr v))) : False := h v h2
theorem i_nr_n {pc : Nat} {lv : List (Option Value)} {stk : List Value} {S : I_St} : i_nR (i_n pc lv stk S) := by
  intro v z; cases z
theorem i_nr_cl {j : Nat} {as : List Value} {pc : Nat} {lv : List (Option Value)} {stk : List Value} {S : I_St} : i_nR (i_cl j as pc lv stk S) := by
  unfold i_cl
  split <;> (intro v z; cases z)
theorem i_nr_ld {i len kind pc : Nat} {lv : List (Option Value)} {stk : List Value} {S : I_St} : i_nR (i_ld i len kind pc lv stk S) := by
  unfold i_ld
  repeat' split
  all_goals (intro v z; cases z)
theorem i_nr_sto {i len kind pc : Nat} {lv : List (Option Value)} {stk : List Value} {S : I_St} : i_nR (i_sto i len kind pc lv stk S) := by
  unfold i_sto
  repeat' split
  all_goals (intro v z; cases z)
theorem i_nr_bin {f : Int32 → Int32 → Int32} {pc : Nat} {lv : List (Option Value)} {stk : List Value} {S : I_St} : i_nR (i_bin f pc lv stk S) := by
  unfold i_bin
  repeat' split
  all_goals (intro v z; cases z)
theorem i_nr_binL {f : Int64 → Int64 → Int64} {pc : Nat} {lv : List (Option Value)} {stk : List Value} {S : I_St} : i_nR (i_binL f pc lv stk S) := by
  unfold i_binL
  repeat' split
  all_goals (intro v z; cases z)
theorem i_nr_un {f : Int32 → Value} {pc : Nat} {lv : List (Option Value)} {stk : List Value} {S : I_St} : i_nR (i_un stk f pc lv S) := by
  unfold i_un
  repeat' split
  all_goals (intro v z; cases z)
theorem i_nr_unL {f : Int64 → Value} {pc : Nat} {lv : List (Option Value)} {stk : List Value} {S : I_St} : i_nR (i_unL stk f pc lv S) := by
  unfold i_unL
  repeat' split
  all_goals (intro v z; cases z)
theorem i_nr_gf {r : List Nat} {pc : Nat} {lv : List (Option Value)} {stk : List Value} {S : I_St} : i_nR (i_gf r pc lv stk S) := by
  unfold i_gf
  repeat' split
  all_goals (intro v z; cases z)
theorem i_nr_pf {r : List Nat} {pc : Nat} {lv : List (Option Value)} {stk : List Value} {S : I_St} : i_nR (i_pf r pc lv stk S) := by
  unfold i_pf
  repeat' split
  all_goals (intro v z; cases z)
theorem i_nr_ald {tag : Nat} {pc : Nat} {lv : List (Option Value)} {stk : List Value} {S : I_St} : i_nR (i_ald tag pc lv stk S) := by
  unfold i_ald
  repeat' split
  all_goals (intro v z; cases z)
theorem i_nr_lald {pc : Nat} {lv : List (Option Value)} {stk : List Value} {S : I_St} : i_nR (i_lald pc lv stk S) := by
  unfold i_lald
  repeat' split
  all_goals (intro v z; cases z)
theorem i_nr_ast {tag : Nat} {pc : Nat} {lv : List (Option Value)} {stk : List Value} {S : I_St} : i_nR (i_ast tag pc lv stk S) := by
  unfold i_ast
  repeat' split
  all_goals (intro v z; cases z)
theorem i_nr_last {pc : Nat} {lv : List (Option Value)} {stk : List Value} {S : I_St} : i_nR (i_last pc lv stk S) := by
  unfold i_last
  repeat' split
  all_goals (intro v z; cases z)
theorem i_nr_alen {pc : Nat} {lv : List (Option Value)} {stk : List Value} {S : I_St} : i_nR (i_alen pc lv stk S) := by
  unfold i_alen
  repeat' split
  all_goals (intro v z; cases z)
theorem i_nr_cpy {pc : Nat} {lv : List (Option Value)} {stk : List Value} {S : I_St} : i_nR (i_cpy pc lv stk S) := by
  unfold i_cpy
  repeat' split
  all_goals (intro v z; cases z)
theorem i_nr_math {k : Nat} {pc : Nat} {lv : List (Option Value)} {stk : List Value} {S : I_St} : i_nR (i_math k pc lv stk S) := by
  unfold i_math
  repeat' split
  all_goals (intro v z; cases z)
theorem i_nr_new {r : List Nat} {pc : Nat} {lv : List (Option Value)} {stk : List Value} {S : I_St} : i_nR (i_new r pc lv stk S) := by
  unfold i_new
  repeat' split
  all_goals (intro v z; cases z)
theorem i_nr_newa {r : List Nat} {pc : Nat} {lv : List (Option Value)} {stk : List Value} {S : I_St} : i_nR (i_newa r pc lv stk S) := by
  unfold i_newa
  repeat' split
  all_goals (intro v z; cases z)
theorem i_nr_inv {r : List Nat} {pc : Nat} {lv : List (Option Value)} {stk : List Value} {S : I_St} : i_nR (i_inv r pc lv stk S) := by
  unfold i_inv
  repeat' split
  all_goals first | exact i_nr_cl | exact i_nr_n | exact i_nr_cpy | exact i_nr_math | (intro v z; cases z)
theorem i_nr_ins {r : List Nat} {pc : Nat} {lv : List (Option Value)} {stk : List Value} {S : I_St} : i_nR (i_ins r pc lv stk S) := by
  unfold i_ins
  repeat' split
  all_goals first | exact i_nr_cl | exact i_nr_n | exact i_nr_cpy | exact i_nr_math | (intro v z; cases z)
theorem i_nr_invS {r : List Nat} {pc : Nat} {lv : List (Option Value)} {stk : List Value} {S : I_St} : i_nR (i_invS r pc lv stk S) := by
  unfold i_invS
  repeat' split
  all_goals first | exact i_nr_cl | exact i_nr_n | exact i_nr_cpy | exact i_nr_math | (intro v z; cases z)
section ISIM7
variable {p : Program} {l : Launch} {e : Env} {R : Room} {s : State} {m : MethodId} {args : Array Value} {below : List Frame} {meth : Method} {c : Code} {H : Heap} {locs : List Loc} {cells slots : Nat} {Q : State → Prop}
variable {cc : ByteArray} {D : va_G} {G : I_G} {own nm : String} {nL : Nat} {ret : Option FieldType} {X : Nat × (Nat → Int32)} {pc : Nat} {ls : Array Slot} {lv : List (Option Value)} {stk : List Value} {S : I_St} {cf : I_Cf}
theorem i_after {mc ms : Nat} {v : Option Value} {S1 : I_St} {st0 rest : List Value} {a : Array Value} (hr : va_Run p l e R s m args below meth c H locs cells slots mc ms (F0 m pc ls st0) (rest.map (i_cv G)) (i_Q D G v S1 a) (i_A G)) (hS : va_S (i_A G) s.heap H locs)
    (kk : ∀ (H1 : Heap) (locs1 : List Loc), i_P D G S1 H1 → va_S (i_A G) s.heap H1 locs1 → W p l e R s m args below meth c H1 locs1 (cells + mc) (slots + ms) Q (F0 m (pc + 3) ls ((v.toList ++ rest).map (i_cv G)))) : W p l e R s m args below meth c H locs cells slots Q (F0 m pc ls st0) := by
  cases v with
  | none => exact va_callv (a := a) hr hS (fun q _ h => h) (fun q h => h) (fun u t H1 locs1 ht hvm _ hB _ _ hS1 => kk H1 locs1 (by rw [← ht]; exact hB) hS1)
  | some w =>
    cases w with
    | int x => exact va_calli (a := a) hr hS (fun q _ h => h) (fun q h => h) (fun r u t H1 locs1 ht hvm hp hB _ _ hS1 => by cases hp; exact kk H1 locs1 (by rw [← ht]; exact hB) hS1)
    | long x => exact va_calll (a := a) hr hS (fun q _ h => h) (fun q h => h) (fun r u t H1 locs1 ht hvm hp hB _ _ hS1 => by cases hp; exact kk H1 locs1 (by rw [← ht]; exact hB) hS1)
    | _ =>
      intro T hT X
      obtain ⟨v, st₀, t, T', L, h0, X', hL, e1, e2, hq, st⟩ := hr T hT X
      exact hq.elim
theorem i_preU (hP : i_P D G S H) (hK : i_K D G s) (hE : i_E G S.2.2.2 s s.heap) (hS : va_S (i_A G) s.heap H locs) (av : List Value) : ∀ U : State, U.heap = H → s.WarmedH U.vm → va_Pc av (i_B D G S) av.toArray U := by
  intro U hU hW
  refine ⟨rfl, by rw [hU]; exact hP, hK.warm hW, ?_⟩
  rw [hU]
  exact (hE.moved hW.alike).kept hS.2.1
theorem i_take {α : Type} {l2 : List α} {n : Nat} {x : α} {r : List α} (h : l2.drop n = x :: r) : l2 = l2.take n ++ x :: r ∧ (l2.take n).length = n := by
  refine ⟨by rw [← h, List.take_append_drop], ?_⟩
  rw [List.length_take]
  have : (l2.drop n).length = r.length + 1 := by rw [h]; rfl
  rw [List.length_drop] at this
  omega
/-- a call -/
theorem i_call {d : Nat} {ins : Instr} {len : Nat} {cst : Value} {r : List Nat} {sw : List (Int32 × Nat)} (IH : ∀ (j : Nat) (as : List Value) (S : I_St) (r : Option Value) (S' : I_St), I_Ex d j as S r S' → i_MetAt l D G d j as S r S')
    (F : i_Fr p s m args meth c cc D G own nm nL ret S.2.2.2) (hL : i_L G ls nL lv) (hP : i_P D G S H) (hS : va_S (i_A G) s.heap H locs) (hRf : d + 1 ≤ R.frames) (hRl : 64 * d + 64 ≤ R.locals)
    (hok : i_okE own nm cc ret (pc, ins, len, cst, r, sw) = true) {k : Nat} {as : List Value} (h : i_do ins cst r sw pc lv stk S = some (.inr (.inl (k, as, cf)))) {v : Option Value} {S1 : I_St} (hE1 : I_Ex d k as S v S1)
    (hr1 : cells + S1.1.length ≤ R.cells + S.1.length) (hr2 : slots + i_sl S1 ≤ R.slots + i_sl S)
    (kk : i_KK p l e R s m args below meth c cells slots Q D G nL S (i_res cf v S1)) : W p l e R s m args below meth c H locs cells slots Q (F0 m pc ls (stk.map (i_cv G))) := by
  obtain ⟨hx, hb, hr, hlk, hml, hown, hnm, hts, hK, hE, hG⟩ := F
  have hle := i_Ex_le d k as S v S1 hE1
  have hf : cells + (S1.1.length - S.1.length) ≤ R.cells ∧ slots + (i_sl S1 - i_sl S) ≤ R.slots := ⟨by have := hle.1; omega, by have := hle.2.1; omega⟩
  have fin : ∀ {rest : List Value}, cf = (pc + 3, lv, rest, S) → ∀ (H1 : Heap) (locs1 : List Loc), i_P D G S1 H1 → va_S (i_A G) s.heap H1 locs1 → W p l e R s m args below meth c H1 locs1 (cells + (S1.1.length - S.1.length)) (slots + (i_sl S1 - i_sl S)) Q (F0 m (pc + 3) ls ((v.toList ++ rest).map (i_cv G))) := by
    intro rest hcf H1 locs1 hP1 hS1
    rw [hcf] at kk
    exact kk ls H1 locs1 _ _ (by show _ = cells + S1.1.length; have := hle.1; omega) (by show _ = slots + i_sl S1; have := hle.2.1; omega) hL hP1 hS1
  simp only [i_okE, Bool.and_eq_true, Bool.or_eq_true, decide_eq_true_eq] at hok
  obtain ⟨⟨hdg, hlen⟩, hR⟩ := hok
  have noO : ∀ {o : Option I_Out}, o = some (.inr (.inl (k, as, cf))) → (∀ q, o ≠ some (.inr (.inl q))) → False := fun h1 h2 => h2 _ h1
  cases ins
  case invokevirtual idx =>
    rcases hlen with h0 | rfl
    · exact absurd h0 (by simp [i_len])
    unfold i_do i_inv i_cl at h
    dsimp only at h
    split at h
    · rename_i j na nest p1 p2 p3 p4 p5
      split at h
      · rename_i q rest hdrop
        split at h
        · rename_i hisC
          split at h
          · rename_i hsum
            cases h
            have hR2 : i_okC own idx 0 [k, na, nest, p1, p2, p3, p4, p5] = true := hR
            unfold i_okC at hR2
            dsimp only at hR2
            cases hmt : i_mt k with
            | none => rw [hmt] at hR2; cases hR2
            | some row =>
              obtain ⟨y, bytes, maxL, rt, es, ci⟩ := row
              rw [hmt] at hR2
              simp only [Bool.and_eq_true, decide_eq_true_eq] at hR2
              obtain ⟨⟨⟨⟨⟨⟨⟨⟨⟨g1, g2⟩, g3x⟩, -⟩, g4⟩, g5⟩, g6⟩, g7⟩, g8⟩, g9⟩ := hR2
              rw [if_neg (by decide)] at g2
              rw [if_pos trivial, Bool.and_eq_true] at g3x
              obtain ⟨g3, g3c⟩ := g3x
              have hM := IH k _ S v S1 hE1 _ hmt
              obtain ⟨es1, es2⟩ := i_take hdrop
              have hcl : i_clsOf k = ci := by unfold i_clsOf; rw [hmt]
              have hrecv : ∃ cellB : Cell, H[i_ad G q]? = some cellB ∧ cellB.vm.isStatics = false ∧ s.vm.findClass y.cls = some cellB.cls := by
                rw [hcl] at hisC
                unfold i_isC at hisC
                cases hq : S.1[q]? with
                | some sh =>
                  obtain ⟨t, n, refs⟩ := sh
                  rw [hq] at hisC
                  have ht : t = 10 + ci := of_decide_eq_true hisC
                  have he := i_ws_some (G := G) hq
                  rw [i_cell_obj ht] at he
                  rw [i_ad_lt hP hq]
                  by_cases h90 : ci = 90
                  · exfalso
                    rcases hP.2.2.2 q _ hq with h | h | h | ⟨ci', h, h', -⟩
                    · simp only at h; omega
                    · simp only at h; omega
                    · simp only at h; omega
                    · obtain ⟨r9, h9, -⟩ := hP.1 q _ he
                      rw [h90] at h9
                      simp [i_cls] at h9
                  · rw [if_neg h90] at g3c
                    cases hc : i_cls[ci]? with
                    | none => rw [hc] at g3c; cases g3c
                    | some y2 =>
                      rw [hc] at g3c
                      rw [← of_decide_eq_true g3c]
                      exact va_recv hK.1 hP.1 hc he
                | none =>
                  rw [hq] at hisC
                  simp only [Bool.and_eq_true, decide_eq_true_eq] at hisC
                  obtain ⟨rfl, rfl⟩ := hisC
                  rw [if_pos rfl] at g3c
                  rw [i_ad_ext (by decide), of_decide_eq_true g3c]
                  obtain ⟨cell, h1, h2, h3, -⟩ := (hE.2.2.2.2.2.1).kept hS.2.1
                  exact ⟨cell, h1, h2, h3⟩
              have hst : stk.map (i_cv G) = (((stk.take na).reverse.map (i_cv G)).reverse) ++ .ref (i_ad G q) :: rest.map (i_cv G) := by
                rw [List.map_reverse, List.reverse_reverse]
                conv => lhs; rw [es1]
                rw [List.map_append]
                rfl
              have hn : ((stk.take na).reverse.map (i_cv G)).length = na := by rw [List.length_map, List.length_reverse, es2]
              have hsum2 : 2 * (F0 m pc ls (stk.map (i_cv G))).monitorRoom + ((rest.map (i_cv G)).map fun v => v.category).sum ≤ 8 := lv_room (by rw [i_cv_sum]; exact hsum)
              have hws : ∀ w ∈ i_Ws (y, bytes, maxL, rt, es, ci), w ∈ i_W0 := fun w hw => by
                rcases List.mem_cons.mp hw with rfl | hw
                · exact i_has_in g5
                · exact hw
              have hRm : (i_room d S S1).frames + 1 ≤ R.frames ∧ 8 + (maxL + 11) + (i_room d S S1).locals ≤ R.locals := ⟨hRf, by show 8 + (maxL + 11) + 64 * d ≤ _; omega⟩
              have hpre : PreV s H y.cls (i_ad G q) (va_Pc ((Value.ref q :: (stk.take na).reverse).map (i_cv G)) (i_B D G S)) ((stk.take na).reverse.map (i_cv G)) := ⟨i_blind, hrecv, i_preU hP hK hE hS ((Value.ref q :: (stk.take na).reverse).map (i_cv G))⟩
              by_cases hnest : nest = 0
              · rw [if_pos hnest] at g1
                refine i_after (va_runV (C := y.cls) (n := na) (rest := rest.map (i_cv G)) ⟨hx, hb, hml, hown, hts⟩ hM (cwV na hts (i_good (fun w hw => ?_)) rfl rfl rfl ⟨rfl, g7, g8, g9⟩ hRm) hpre rfl hn hL.2.1 hst hsum2 hdg hf) hS (fin rfl)
                unfold wsV at hw
                rcases List.mem_append.mp hw with hw | hw
                · rcases List.mem_cons.mp hw with rfl | hw
                  · exact i_has_in g1
                  rcases List.mem_cons.mp hw with rfl | hw
                  · exact i_has_in g2
                  rcases List.mem_cons.mp hw with rfl | hw
                  · exact i_has_in g3
                  rcases List.mem_cons.mp hw with rfl | hw
                  · exact i_has_in g4
                  cases hw
                · exact hws w hw
              · rw [if_neg hnest] at g1
                exact i_after (va_runVN (C := y.cls) (n := na) (rest := rest.map (i_cv G)) ⟨hx, hb, hml, hown, hts⟩ hM ⟨va_cnB na hts (i_good hws) rfl rfl rfl (hK.2.1 _ (i_hasN_in g1 rfl)) (hts _ (i_has_in g4)) ⟨g7, g8, g9⟩ hRm, hts _ (i_has_in g2), hts _ (i_has_in g3)⟩ hpre rfl hn hL.2.1 hst hsum2 hdg hf) hS (fin rfl)
          · cases h
        · cases h
      · cases h
    · cases h
  case invokespecial idx =>
    rcases hlen with h0 | rfl
    · exact absurd h0 (by simp [i_len])
    unfold i_do i_ins at h
    dsimp only at h
    split at h
    · split at h
      · split at h <;> cases h
      · cases h
    · rename_i j na nest p1 p2 p3 p4 p5
      split at h
      · rename_i q rest hdrop
        unfold i_cl at h
        split at h
        · rename_i hsum
          cases h
          have hR2 : i_okC own idx 2 [k, na, nest, p1, p2, p3, p4, p5] = true := hR
          unfold i_okC at hR2
          dsimp only at hR2
          cases hmt : i_mt k with
          | none => rw [hmt] at hR2; cases hR2
          | some row =>
            obtain ⟨y, bytes, maxL, rt, es, ci⟩ := row
            rw [hmt] at hR2
            simp only [Bool.and_eq_true, decide_eq_true_eq] at hR2
            obtain ⟨⟨⟨⟨⟨⟨⟨⟨⟨g1, g2⟩, -⟩, g3x⟩, g4⟩, g5⟩, g6⟩, g7⟩, g8⟩, g9⟩ := hR2
            rw [if_neg (by decide)] at g2
            rw [if_pos trivial, Bool.and_eq_true, decide_eq_true_eq, decide_eq_true_eq] at g3x
            obtain ⟨g3, g3r⟩ := g3x
            subst g3r
            have hM := IH k _ S v S1 hE1 _ hmt
            obtain ⟨es1, es2⟩ := i_take hdrop
            have hst : stk.map (i_cv G) = (((stk.take na).reverse.map (i_cv G)).reverse) ++ .ref (i_ad G q) :: rest.map (i_cv G) := by
              rw [List.map_reverse, List.reverse_reverse]
              conv => lhs; rw [es1]
              rw [List.map_append]
              rfl
            have hn : ((stk.take na).reverse.map (i_cv G)).length = na := by rw [List.length_map, List.length_reverse, es2]
            have hsum2 : 2 * (F0 m pc ls (stk.map (i_cv G))).monitorRoom + ((rest.map (i_cv G)).map fun v => v.category).sum ≤ 8 := lv_room (by rw [i_cv_sum]; exact hsum)
            have hws : ∀ w ∈ i_Ws (y, bytes, maxL, none, es, ci), w ∈ i_W0 := fun w hw => by
              rcases List.mem_cons.mp hw with rfl | hw
              · exact i_has_in g5
              · exact hw
            have hRm : (i_room d S S1).frames + 1 ≤ R.frames ∧ 8 + (maxL + 11) + (i_room d S S1).locals ≤ R.locals := ⟨hRf, by show 8 + (maxL + 11) + 64 * d ≤ _; omega⟩
            have hpre : PreS s H (va_Pc ((Value.ref q :: (stk.take na).reverse).map (i_cv G)) (i_B D G S)) (.ref (i_ad G q) :: (stk.take na).reverse.map (i_cv G)) := ⟨i_blind, i_preU hP hK hE hS ((Value.ref q :: (stk.take na).reverse).map (i_cv G))⟩
            by_cases hnest : nest = 0
            · rw [if_pos hnest] at g1
              exact i_after (va_runI (n := na) (rest := rest.map (i_cv G)) ⟨hx, hb, hml, hown, hts⟩ hM (cwI na hts (i_good hws) rfl rfl rfl (hts _ (i_has_in g4)) (hts _ (i_has_in g1)) (hts _ (i_has_in g2)) g3 ⟨g7, g8, g9⟩ hRm) hpre rfl hn hL.2.1 hst hsum2 hdg hf) hS (fin rfl)
            · rw [if_neg hnest] at g1
              exact i_after (va_runIN (n := na) (rest := rest.map (i_cv G)) ⟨hx, hb, hml, hown, hts⟩ hM ⟨va_cnB na hts (i_good hws) rfl rfl rfl (hK.2.1 _ (i_hasN_in g1 rfl)) (hts _ (i_has_in g4)) ⟨g7, g8, g9⟩ hRm, g3, hts _ (i_has_in g2)⟩ hpre rfl hn hL.2.1 hst hsum2 hdg hf) hS (fin rfl)
        · cases h
      · cases h
    · cases h
  case invokestatic idx =>
    rcases hlen with h0 | rfl
    · exact absurd h0 (by simp [i_len])
    unfold i_do i_invS at h
    dsimp only at h
    split at h
    · have hO := i_okO_cpy (pc := pc) (lv := lv) (stk := stk) (S := S)
      unfold i_cpy i_n at h
      repeat' split at h
      all_goals cases h
    · unfold i_math i_n at h
      repeat' split at h
      all_goals cases h
    · rename_i j na nest p1 p2 p3 p4 p5
      split at h
      · rename_i hna
        unfold i_cl at h
        split at h
        · rename_i hsum
          cases h
          have hR2 : i_okC own idx 1 [k, na, nest, p1, p2, p3, p4, p5] = true := hR
          unfold i_okC at hR2
          dsimp only at hR2
          cases hmt : i_mt k with
          | none => rw [hmt] at hR2; cases hR2
          | some row =>
            obtain ⟨y, bytes, maxL, rt, es, ci⟩ := row
            rw [hmt] at hR2
            simp only [Bool.and_eq_true, decide_eq_true_eq] at hR2
            obtain ⟨⟨⟨⟨⟨⟨⟨⟨⟨g1, g2⟩, -⟩, -⟩, g4⟩, g5⟩, g6⟩, g7⟩, g8⟩, g9⟩ := hR2
            rw [if_pos trivial] at g2
            have hM := IH k _ S v S1 hE1 _ hmt
            have hst : stk.map (i_cv G) = (((stk.take na).reverse.map (i_cv G)).reverse) ++ (stk.drop na).map (i_cv G) := by
              rw [List.map_reverse, List.reverse_reverse, ← List.map_append, List.take_append_drop]
            have hn : ((stk.take na).reverse.map (i_cv G)).length = na := by rw [List.length_map, List.length_reverse, List.length_take]; omega
            have hsum2 : 2 * (F0 m pc ls (stk.map (i_cv G))).monitorRoom + (((stk.drop na).map (i_cv G)).map fun v => v.category).sum ≤ 8 := lv_room (by rw [i_cv_sum]; exact hsum)
            have hws : ∀ w ∈ i_Ws (y, bytes, maxL, rt, es, ci), w ∈ i_W0 := fun w hw => by
              rcases List.mem_cons.mp hw with rfl | hw
              · exact i_has_in g5
              · exact hw
            have hRm : (i_room d S S1).frames + 1 ≤ R.frames ∧ 8 + (maxL + 11) + (i_room d S S1).locals ≤ R.locals := ⟨hRf, by show 8 + (maxL + 11) + 64 * d ≤ _; omega⟩
            have hpre : PreS s H (va_Pc ((stk.take na).reverse.map (i_cv G)) (i_B D G S)) ((stk.take na).reverse.map (i_cv G)) := ⟨i_blind, i_preU hP hK hE hS _⟩
            by_cases hnest : nest = 0
            · rw [if_pos hnest] at g1
              refine i_after (va_runS (n := na) (rest := (stk.drop na).map (i_cv G)) ⟨hx, hb, hml, hown, hts⟩ hM (va_cwS na hts (i_good (fun w hw => ?_)) rfl rfl rfl ⟨g7, g8, g9⟩ hRm) hpre rfl hn hL.2.1 hst hsum2 hdg hf) hS (fin rfl)
              unfold va_wsS at hw
              rcases List.mem_append.mp hw with hw | hw
              · rcases List.mem_cons.mp hw with rfl | hw
                · exact i_has_in g1
                rcases List.mem_cons.mp hw with rfl | hw
                · exact i_has_in g2
                rcases List.mem_cons.mp hw with rfl | hw
                · exact i_has_in g4
                cases hw
              · exact hws w hw
            · rw [if_neg hnest] at g1
              exact i_after (va_runSN (n := na) (rest := (stk.drop na).map (i_cv G)) ⟨hx, hb, hml, hown, hts⟩ hM ⟨va_cnB na hts (i_good hws) rfl rfl rfl (hK.2.1 _ (i_hasN_in g1 rfl)) (hts _ (i_has_in g4)) ⟨g7, g8, g9⟩ hRm, hts _ (i_has_in g2), trivial⟩ hpre rfl hn hL.2.1 hst hsum2 hdg hf) hS (fin rfl)
        · cases h
      · cases h
    · cases h
  all_goals (exact absurd h (by
    unfold i_do
    dsimp only
    first
      | exact i_nc_n
      | exact i_nc_ld
      | exact i_nc_sto
      | exact i_nc_bin
      | exact i_nc_binL
      | exact i_nc_un
      | exact i_nc_unL
      | exact i_nc_gf
      | exact i_nc_pf
      | exact i_nc_ald
      | exact i_nc_lald
      | exact i_nc_ast
      | exact i_nc_last
      | exact i_nc_alen
      | exact i_nc_new
      | exact i_nc_newa
      | exact i_nc_iret
      | (intro z; cases z; done)
      | (repeat' split
         all_goals (intro z; cases z))))
/-- what a return instruction is -/
theorem i_retc {ins : Instr} {len : Nat} {cst : Value} {r : List Nat} {sw : List (Int32 × Nat)} {v : Option Value} (hok : i_okE own nm cc ret (pc, ins, len, cst, r, sw) = true) (h : i_do ins cst r sw pc lv stk S = some (.inr (.inr v))) :
    (∃ (x : Int32) (ty : FieldType), v = some (.int x) ∧ stk = [.int x] ∧ decode cc pc = .ok (.ireturn, 1) ∧ ret = some ty ∧ narrow ty (.int x) = .int x) ∨ (∃ x : Int64, v = some (.long x) ∧ stk = [.long x] ∧ decode cc pc = .ok (.lreturn, 1) ∧ ret = some .long) ∨ (v = none ∧ stk = [] ∧ decode cc pc = .ok (.return_, 1) ∧ ret = none) := by
  simp only [i_okE, Bool.and_eq_true, Bool.or_eq_true, decide_eq_true_eq] at hok
  obtain ⟨⟨hdg, hlen⟩, hR⟩ := hok
  cases ins
  case ireturn =>
    rcases hlen with h0 | rfl
    · exact absurd h0 (by simp [i_len])
    unfold i_do i_iret at h
    dsimp only at h
    split at h
    · rename_i k x
      split at h
      · rename_i hk
        cases h
        unfold i_okR at hR
        dsimp only at hR
        refine Or.inl ⟨x, ?_⟩
        rcases hk with rfl | ⟨rfl, h01⟩ | ⟨rfl, h0⟩
        · exact ⟨.int, rfl, rfl, hdg, of_decide_eq_true hR, rfl⟩
        · exact ⟨.boolean, rfl, rfl, hdg, of_decide_eq_true hR, (i_bool_nf h01).1⟩
        · subst h0
          exact ⟨.byte, rfl, rfl, hdg, of_decide_eq_true hR, by decide +kernel⟩
      · cases h
    · cases h
  case lreturn =>
    rcases hlen with h0 | rfl
    · exact absurd h0 (by simp [i_len])
    unfold i_do at h
    dsimp only at h
    split at h
    · cases h
      exact Or.inr (Or.inl ⟨_, rfl, rfl, hdg, of_decide_eq_true hR⟩)
    · cases h
  case return_ =>
    rcases hlen with h0 | rfl
    · exact absurd h0 (by simp [i_len])
    unfold i_do at h
    dsimp only at h
    split at h
    · cases h
      exact Or.inr (Or.inr ⟨rfl, rfl, hdg, of_decide_eq_true hR⟩)
    · cases h
  all_goals (exfalso; first
    | (cases h; done)
    | exact i_nr (by unfold i_do; dsimp only; first
      | exact i_nr_n
      | exact i_nr_ld
      | exact i_nr_sto
      | exact i_nr_bin
      | exact i_nr_binL
      | exact i_nr_un
      | exact i_nr_unL
      | exact i_nr_gf
      | exact i_nr_pf
      | exact i_nr_ald
      | exact i_nr_lald
      | exact i_nr_ast
      | exact i_nr_last
      | exact i_nr_alen
      | exact i_nr_new
      | exact i_nr_newa
      | exact i_nr_inv
      | exact i_nr_ins
      | exact i_nr_invS
      | (repeat' split
         all_goals (intro q z; cases z))) h)
end ISIM7
