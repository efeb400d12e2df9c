/-! ===== part 36: whole rows; shelves ===== -/
def i_rw (M : I_M) (q : Nat) (f : Nat → Int32) : I_M := (fun q' => if q' = q then f else M.1 q', M.2)
def i_rwL (M : I_M) (q : Nat) (f : Nat → Int64) : I_M := (M.1, fun q' => if q' = q then f else M.2 q')
theorem T_eq {α : Type} {x : Option α} {a : α} (h : T x (fun r => r = a)) : x = some a := by
  obtain ⟨b, hb, rfl⟩ := h
  exact hb
theorem T_ex {α : Type} {x : Option α} {P : α → Prop} (h : T x P) : ∃ a, x = some a ∧ P a := h
section RW
variable {M : I_M} {q q' k : Nat} {v : Int32} {w : Int64} {f g : Nat → Int32} {F G : Nat → Int64}
theorem rw_s : (i_rw M q f).1 q = f := if_pos rfl
theorem rw_n (h : q' ≠ q) : (i_rw M q f).1 q' = M.1 q' := if_neg h
theorem rw_2 : (i_rw M q f).2 = M.2 := rfl
theorem rw_w : i_wI M q k v = i_rw M q (upd (M.1 q) k v) := by
  refine m_ext (fun a b => ?_) rfl
  rw [m_wI]
  unfold i_rw upd
  by_cases h : a = q
  · subst h
    simp
  · simp [h]
theorem rw_rw : i_rw (i_rw M q f) q g = i_rw M q g := by
  refine m_ext (fun a b => ?_) rfl
  unfold i_rw
  by_cases h : a = q <;> simp [h]
theorem rw_id : i_rw M q (M.1 q) = M := by
  refine m_ext (fun a b => ?_) rfl
  unfold i_rw
  by_cases h : a = q <;> simp [h]
theorem rwL_s : (i_rwL M q F).2 q = F := if_pos rfl
theorem rwL_n (h : q' ≠ q) : (i_rwL M q F).2 q' = M.2 q' := if_neg h
theorem rwL_1 : (i_rwL M q F).1 = M.1 := rfl
theorem rwL_w : i_wL M q k w = i_rwL M q (fun j => if j = k then w else M.2 q j) := by
  refine Prod.ext rfl (funext fun a => funext fun b => ?_)
  show (i_wL M q k w).2 a b = _
  rw [m_wL]
  unfold i_rwL
  by_cases h : a = q
  · subst h
    simp
  · simp [h]
theorem rwL_rwL : i_rwL (i_rwL M q F) q G = i_rwL M q G := by
  refine Prod.ext rfl (funext fun a => funext fun b => ?_)
  unfold i_rwL
  by_cases h : a = q <;> simp [h]
theorem rwL_id : i_rwL M q (M.2 q) = M := by
  refine Prod.ext rfl (funext fun a => funext fun b => ?_)
  unfold i_rwL
  by_cases h : a = q <;> simp [h]
end RW
theorem bo_zo {α : Type} {p : Prop} [Decidable p] {x : Option α} : i_zo (i_bo p) x = x := by
  refine zo_ok ?_
  unfold i_bo
  split
  · exact Or.inr rfl
  · exact Or.inl rfl
section EQS
variable {M : I_M} {c b nc : Int32}
theorem e_bisShelf : b_Shelves_isShelf c M = some (i_bo (0 ≤ c.toInt ∧ c.toInt < 6), M) := by
  unfold b_Shelves_isShelf
  have l6 : (6 : Int32).toInt = 6 := rfl
  simp only [a_lt, Int32.toInt_zero, l6]
  by_cases h1 : c.toInt < 0
  · rw [if_pos h1, bo_n (by omega)]
  · rw [if_neg h1]
    by_cases h2 : c.toInt < 6
    · rw [if_pos h2, bo_p (by omega)]
    · rw [if_neg h2, bo_n (by omega)]
theorem e_risShelf : r_isShelf c M = some (i_bo (0 ≤ c.toInt ∧ c.toInt < 6), M) := by
  unfold r_isShelf
  rw [r_within_e]
  dsimp only [Option.bind_some]
  rw [bo_zo, a_l, Int64.toInt_zero, show (5 : Int64).toInt = 5 from rfl]
  by_cases h1 : 0 ≤ c.toInt ∧ c.toInt < 6
  · rw [bo_p h1, bo_p (by omega)]
  · rw [bo_n h1, bo_n (by omega)]
theorem e_bhasB : b_Bodies_has b M = some (i_bo (0 ≤ b.toInt ∧ b.toInt < (M.1 38 1).toInt), M) := by
  unfold b_Bodies_has
  simp only [a_lt, Int32.toInt_zero]
  by_cases h1 : b.toInt < 0
  · rw [if_pos h1, bo_n (by omega)]
  · rw [if_neg h1]
    by_cases h2 : b.toInt < (M.1 38 1).toInt
    · rw [if_pos h2, bo_p (by omega)]
    · rw [if_neg h2, bo_n (by omega)]
theorem e_risBody (hw : 0 ≤ (M.1 50 46).toInt) : r_isBody b M = some (i_bo (0 ≤ b.toInt ∧ b.toInt < (M.1 50 46).toInt), M) := by
  unfold r_isBody
  rw [r_within_e]
  dsimp only [Option.bind_some]
  rw [bo_zo, a_l, a_l, a_s1 hw, Int64.toInt_zero]
  by_cases h1 : 0 ≤ b.toInt ∧ b.toInt ≤ (M.1 50 46).toInt - 1
  · rw [bo_p h1, bo_p (by omega)]
  · rw [bo_n h1, bo_n (by omega)]
theorem e_isKind : b_Bodies_isKind b M = some (i_bo (0 ≤ b.toInt ∧ b.toInt < 8), M) := by
  unfold b_Bodies_isKind
  have l8 : (8 : Int32).toInt = 8 := rfl
  simp only [a_lt, Int32.toInt_zero, l8]
  by_cases h1 : b.toInt < 0
  · rw [if_pos h1, bo_n (by omega)]
  · rw [if_neg h1]
    by_cases h2 : b.toInt < 8
    · rw [if_pos h2, bo_p (by omega)]
    · rw [if_neg h2, bo_n (by omega)]
end EQS
theorem fillL_e {M : I_M} {s e : Int32} {v : Int64} (h : 0 ≤ s.toInt) (h2 : s.toInt ≤ e.toInt) (h3 : e.toInt ≤ 360) : j_fillL_45 s e v M = some (i_rwL M 45 (fun j => if s.toInt.toNat ≤ j ∧ j < e.toInt.toNat then v else M.2 45 j)) := by
  unfold j_fillL_45 j_rangeCheck
  have l : (360 : Int32).toInt = 360 := rfl
  rw [if_neg (by rw [a_lt]; omega), if_neg (by rw [a_lt, Int32.toInt_zero]; omega), if_neg (by rw [a_lt]; omega)]
  dsimp only [Option.bind_some]
  refine T_eq (T_for (N := e.toInt.toNat) (f := j_fillL_45_L10 e v) (fun k M' => M' = i_rwL M 45 (fun j => if s.toInt.toNat ≤ j ∧ j < k then v else M.2 45 j)) (by omega) ?_ ?_ (a := s.toInt.toNat) (by unfold i_F; omega) (by omega) (by omega) ?_)
  · intro n k i M' h4 h50 h5 h6 h7
    unfold j_fillL_45_L10
    rw [if_pos (by rw [a_lt]; omega)]
    refine T_g (by omega) (by omega) (h7 _ ?_)
    rw [h6, rwL_w, rwL_rwL, rwL_s, a_k h4]
    congr 1
    funext j
    by_cases q : j = k
    · rw [if_pos q, if_pos (by omega)]
    · rw [if_neg q]
      by_cases q2 : s.toInt.toNat ≤ j ∧ j < k
      · rw [if_pos q2, if_pos (by omega)]
      · rw [if_neg q2, if_neg (by omega)]
  · intro n i M' h4 h5
    unfold j_fillL_45_L10
    rw [if_neg (by rw [a_lt]; omega)]
    exact T_some h5
  · rw [show (fun j => if s.toInt.toNat ≤ j ∧ j < s.toInt.toNat then v else M.2 45 j) = M.2 45 from funext fun j => if_neg (by omega), rwL_id]
/-- the shelf d alone -/
def N_sh1 (so le bo sh ma : Nat → Int32) (el it : Nat → Int64) (nb : Int) (d : Nat) : Prop := le d = ma d ∧ 0 ≤ (ma d).toInt ∧ (ma d).toInt ≤ 60 ∧ (∀ k : Nat, (k : Int) < (ma d).toInt → el (60 * d + k) = it (60 * d + k) ∧ i_hd (so d).toInt (it (60 * d + k))) ∧ (((so d).toInt = -1 ∧ (sh d).toInt = -1 ∧ (ma d).toInt = 0) ∨ ((so d).toInt = 5 ∧ sh d = bo d ∧ 0 ≤ (sh d).toInt ∧ (sh d).toInt < nb ∧ (ma d).toInt = 0) ∨ (0 ≤ (so d).toInt ∧ (so d).toInt ≤ 4 ∧ (sh d).toInt = 50 + (so d).toInt))
theorem N_shelf_set {so le bo sh ma so' le' bo' sh' ma' : Nat → Int32} {el it el' it' : Nat → Int64} {nb : Int} {d : Nat} (h : N_shelf so le bo sh ma el it nb)
    (h2 : ∀ e, e < 6 → e ≠ d → so' e = so e ∧ le' e = le e ∧ bo' e = bo e ∧ sh' e = sh e ∧ ma' e = ma e ∧ ∀ k, k < 60 → el' (60 * e + k) = el (60 * e + k) ∧ it' (60 * e + k) = it (60 * e + k))
    (h3 : N_sh1 so' le' bo' sh' ma' el' it' nb d) : N_shelf so' le' bo' sh' ma' el' it' nb := by
  intro e he
  by_cases q : e = d
  · subst q
    exact h3
  · obtain ⟨a1, a2, a3, a4, a5, a6⟩ := h2 e he q
    obtain ⟨b1, b2, b3, b4, b5⟩ := h e he
    rw [a1, a2, a3, a4, a5]
    refine ⟨b1, b2, b3, fun k hk => ?_, b5⟩
    rw [(a6 k (by omega)).1, (a6 k (by omega)).2]
    exact b4 k hk
theorem upd_s {f : Nat → Int32} {k : Nat} {v : Int32} : upd f k v k = v := if_pos rfl
theorem upd_n {f : Nat → Int32} {k j : Nat} {v : Int32} (h : j ≠ k) : upd f k v j = f j := if_neg h
def i_held (s : Int32) (v : Int64) : Int64 := if s = 0 then Int32.toInt64 (Int8.toInt32 (Int32.toInt8 (Int64.toInt32 v))) else if s = 1 then Int32.toInt64 (Int16.toInt32 (Int32.toInt16 (Int64.toInt32 v))) else if s = 2 then Int32.toInt64 (Int64.toInt32 v) else if s = 4 then (if lg_cmp v 0 = 0 then 0 else 1) else v
theorem held_b {s : Int32} {v : Int64} {M : I_M} : b_Shelves_held s v M = some (i_held s v, M) := by
  unfold b_Shelves_held i_held
  by_cases h0 : s = 0
  · simp only [if_pos h0]
  by_cases h1 : s = 1
  · simp only [if_neg h0, if_pos h1]
  by_cases h2 : s = 2
  · simp only [if_neg h0, if_neg h1, if_pos h2]
  by_cases h3 : s = 3
  · have h4 : s ≠ 4 := by rw [h3]; decide
    simp only [if_neg h0, if_neg h1, if_neg h2, if_pos h3, if_neg h4]
  by_cases h4 : s = 4
  · simp only [if_neg h0, if_neg h1, if_neg h2, if_neg h3, if_pos h4]
    split <;> rfl
  simp only [if_neg h0, if_neg h1, if_neg h2, if_neg h3, if_neg h4]
theorem held_r {s : Int32} {v : Int64} {M : I_M} : r_asSort s v M = some (i_held s v, M) := by
  unfold r_asSort i_held
  by_cases h0 : s = 0
  · simp only [if_pos h0]
  by_cases h1 : s = 1
  · simp only [if_neg h0, if_pos h1]
  by_cases h2 : s = 2
  · simp only [if_neg h0, if_neg h1, if_pos h2]
  by_cases h4 : s = 4
  · simp only [if_neg h0, if_neg h1, if_neg h2, if_pos h4]
    split <;> rfl
  simp only [if_neg h0, if_neg h1, if_neg h2, if_neg h4]
theorem held_0 {s : Int32} {v : Int64} : i_hd s.toInt (i_held s v) := by
  intro h
  have h0 : s = 0 := a_eq.mpr h
  unfold i_held
  rw [if_pos h0, a_l]
  have h1 := Int8.toInt_lt (Int32.toInt8 (Int64.toInt32 v))
  have h2 := Int8.le_toInt (Int32.toInt8 (Int64.toInt32 v))
  have h3 : (Int8.toInt32 (Int32.toInt8 (Int64.toInt32 v))).toInt = (Int32.toInt8 (Int64.toInt32 v)).toInt := Int8.toInt_toInt32 _
  rw [h3]
  omega
