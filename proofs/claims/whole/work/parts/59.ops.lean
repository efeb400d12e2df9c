/-! ===== part 59: taken, shift ===== -/
section OPS
variable {a b c d e : Int32}
variable {L : Int32 → Int32 → Int32 → (Nat → Int32) → (Nat → Int32) → Prop}
/-- is kind x the kind k, or under it? -/
def t_un (x k : Int32) : Prop := x = k ∨ (x = 1 ∧ k = 0) ∨ (x = 2 ∧ k = 0) ∨ (x = 3 ∧ (k = 2 ∨ k = 0)) ∨ (x = 4 ∧ (k = 1 ∨ k = 0)) ∨ (x = 5 ∧ (k = 3 ∨ k = 2 ∨ k = 0)) ∨ (x = 6 ∧ k = 0) ∨ (x = 7 ∧ (k = 4 ∨ k = 1 ∨ k = 0))
theorem un_st {M : I_M} {n : Nat} {k x u : Int32} (hx : 0 ≤ x.toInt) (hx8 : x.toInt < 8) (hu : u.toInt < 8) : b_Bodies_isUnder_L4 k (n + 1) x u M = if x = k then some (1, M) else b_Bodies_isUnder_L4 k n (i_x103 (Int32.toNatClampNeg x)) (u + 1) M := by
  have l8 : (8 : Int32).toInt = 8 := rfl
  rw [b_Bodies_isUnder_L4, if_pos (by rw [a_lt]; omega), e_isKind]
  dsimp only [Option.bind_some]
  rw [bo_p ⟨hx, hx8⟩, if_neg (by decide), g_ok hx (by omega)]
theorem un_no {M : I_M} {n : Nat} {k x u : Int32} (hx : x.toInt = -1) : b_Bodies_isUnder_L4 k (n + 1) x u M = some (0, M) := by
  rw [b_Bodies_isUnder_L4]
  by_cases q : u < 8
  · rw [if_pos q, e_isKind]
    dsimp only [Option.bind_some]
    rw [bo_n (by omega), if_pos rfl]
  · rw [if_neg q]
theorem tk_st {n : Nat} {x : Int32} {M : I_M} {k75 : Int32 → I_M → Option (Int32 × I_M)} : r_taken_L58 a b k75 (n + 1) x M = if x = b then k75 x M else if 0 < x then Option.bind (r_above x M) (fun q3 => r_taken_L58 a b k75 n q3.1 q3.2) else k75 x M := by
  rw [r_taken_L58]
/-- both go the same way up -/
theorem tk_all {M M' : I_M} {x k : Int32} {k75 : Int32 → I_M → Option (Int32 × I_M)} (hx : 0 ≤ x.toInt) (hx8 : x.toInt < 8) : (b_Bodies_isUnder x k M = some (1, M) ∧ r_taken_L58 a k k75 i_F x M' = k75 k M') ∨ (b_Bodies_isUnder x k M = some (0, M) ∧ ∃ y, y ≠ k ∧ r_taken_L58 a k k75 i_F x M' = k75 y M') := by
  have hc : x.toInt = 0 ∨ x.toInt = 1 ∨ x.toInt = 2 ∨ x.toInt = 3 ∨ x.toInt = 4 ∨ x.toInt = 5 ∨ x.toInt = 6 ∨ x.toInt = 7 := by omega
  have hF : i_F = 4990 + 1 + 1 + 1 + 1 + 1 + 1 + 1 + 1 + 1 + 1 := rfl
  have A : ∀ z : Int32, r_above z M' = some ((if z = 3 then 2 else if z = 4 then 1 else if z = 5 then 3 else if z = 7 then 4 else 0), M') := by
    intro z
    unfold r_above
    by_cases h3 : z = 3
    · rw [if_pos h3, if_pos h3]
    rw [if_neg h3, if_neg h3]
    by_cases h4 : z = 4
    · rw [if_pos h4, if_pos h4]
    rw [if_neg h4, if_neg h4]
    by_cases h5 : z = 5
    · rw [if_pos h5, if_pos h5]
    rw [if_neg h5, if_neg h5]
    by_cases h7 : z = 7
    · rw [if_pos h7, if_pos h7]
    rw [if_neg h7, if_neg h7]
  -- from the BELL on
  have S0 : ∀ (n m : Nat) (u : Int32), u.toInt < 7 → (b_Bodies_isUnder_L4 k (n + 1 + 1) 0 u M = some (1, M) ∧ r_taken_L58 a k k75 (m + 1) 0 M' = k75 k M') ∨ (b_Bodies_isUnder_L4 k (n + 1 + 1) 0 u M = some (0, M) ∧ ∃ y, y ≠ k ∧ r_taken_L58 a k k75 (m + 1) 0 M' = k75 y M') := by
    intro n m u hu
    rw [un_st (by decide) (by decide) (by omega), tk_st]
    by_cases q : (0 : Int32) = k
    · left
      rw [if_pos q, if_pos q, q]
      exact ⟨rfl, rfl⟩
    · right
      rw [if_neg q, if_neg q, if_neg (by decide), un_no (by decide)]
      exact ⟨rfl, 0, q, rfl⟩
  have ST : ∀ (n m : Nat) (x y u : Int32), 0 < x.toInt → x.toInt < 8 → u.toInt < 7 → i_x103 (Int32.toNatClampNeg x) = y → (if x = 3 then (2 : Int32) else if x = 4 then 1 else if x = 5 then 3 else if x = 7 then 4 else 0) = y →
      ((b_Bodies_isUnder_L4 k n y (u + 1) M = some (1, M) ∧ r_taken_L58 a k k75 m y M' = k75 k M') ∨ (b_Bodies_isUnder_L4 k n y (u + 1) M = some (0, M) ∧ ∃ y', y' ≠ k ∧ r_taken_L58 a k k75 m y M' = k75 y' M')) →
      ((b_Bodies_isUnder_L4 k (n + 1) x u M = some (1, M) ∧ r_taken_L58 a k k75 (m + 1) x M' = k75 k M') ∨ (b_Bodies_isUnder_L4 k (n + 1) x u M = some (0, M) ∧ ∃ y', y' ≠ k ∧ r_taken_L58 a k k75 (m + 1) x M' = k75 y' M')) := by
    intro n m x y u h1 h2 h3 h4 h5 h6
    rw [un_st (by omega) h2 (by omega), tk_st, A, h4]
    dsimp only [Option.bind_some]
    rw [h5]
    by_cases q : x = k
    · left
      rw [if_pos q, if_pos q, q]
      exact ⟨rfl, rfl⟩
    · rw [if_neg q, if_neg q, if_pos (by rw [a_lt, Int32.toInt_zero]; exact h1)]
      exact h6
  unfold b_Bodies_isUnder
  rw [hF]
  rcases hc with q | q | q | q | q | q | q | q
  · obtain rfl : x = 0 := a_eq.mpr q
    exact S0 _ _ _ (by decide)
  · obtain rfl : x = 1 := a_eq.mpr q
    exact ST _ _ 1 0 0 (by decide) (by decide) (by decide) rfl rfl (S0 _ _ _ (by decide))
  · obtain rfl : x = 2 := a_eq.mpr q
    exact ST _ _ 2 0 0 (by decide) (by decide) (by decide) rfl rfl (S0 _ _ _ (by decide))
  · obtain rfl : x = 3 := a_eq.mpr q
    exact ST _ _ 3 2 0 (by decide) (by decide) (by decide) rfl rfl (ST _ _ 2 0 1 (by decide) (by decide) (by decide) rfl rfl (S0 _ _ _ (by decide)))
  · obtain rfl : x = 4 := a_eq.mpr q
    exact ST _ _ 4 1 0 (by decide) (by decide) (by decide) rfl rfl (ST _ _ 1 0 1 (by decide) (by decide) (by decide) rfl rfl (S0 _ _ _ (by decide)))
  · obtain rfl : x = 5 := a_eq.mpr q
    exact ST _ _ 5 3 0 (by decide) (by decide) (by decide) rfl rfl (ST _ _ 3 2 1 (by decide) (by decide) (by decide) rfl rfl (ST _ _ 2 0 2 (by decide) (by decide) (by decide) rfl rfl (S0 _ _ _ (by decide))))
  · obtain rfl : x = 6 := a_eq.mpr q
    exact ST _ _ 6 0 0 (by decide) (by decide) (by decide) rfl rfl (S0 _ _ _ (by decide))
  · obtain rfl : x = 7 := a_eq.mpr q
    exact ST _ _ 7 4 0 (by decide) (by decide) (by decide) rfl rfl (ST _ _ 4 1 1 (by decide) (by decide) (by decide) rfl rfl (ST _ _ 1 0 2 (by decide) (by decide) (by decide) rfl rfl (S0 _ _ _ (by decide))))
theorem op_taken : OP L (b_taken a b) (r_taken a b) := by
  intro M h
  have hi := h
  obtain ⟨hLa, hMa, hBe, hFo, hTa, hLw, hHe, hIm, hCh, hVi, hBo, hRa, hSh⟩ := h
  have hw2 := hBo.2.2.1
  have hbo : (M.1 38 1).toInt = (M.1 50 46).toInt := congrArg Int32.toInt hBo.1
  have L7 : (7 : Int64).toInt = 7 := rfl
  unfold b_taken
  rw [e_bisShelf]
  dsimp only [Option.bind_some]
  by_cases ha : 0 ≤ a.toInt ∧ a.toInt < 6
  · rw [bo_p ha, if_neg (by decide), e_isKind]
    dsimp only [Option.bind_some]
    have R0 : r_taken a b M = if i_bo (0 ≤ b.toInt ∧ b.toInt < 8) = 0 then some (-1, M) else (if (M.1 70 (Int32.toNatClampNeg a)) < (0 : Int32) then some ((-11 : Int32), M) else (if (M.1 70 (Int32.toNatClampNeg a)) < (50 : Int32) then Option.bind (r_kindOf (M.1 70 (Int32.toNatClampNeg a)) M) (fun q14 => r_taken_L58 a b (fun l3_15 M15 => r_taken_B75 a b l3_15 M15) i_F q14.1 q14.2) else some ((-12 : Int32), M))) := by
      unfold r_taken
      rw [e_risShelf]
      dsimp only [Option.bind_some]
      rw [bo_p ha, if_neg (by decide), r_within_e, a_l, L7, Int64.toInt_zero]
      dsimp only [Option.bind_some]
      rw [g_ok ha.1 (by omega)]
      by_cases hb : 0 ≤ b.toInt ∧ b.toInt < 8
      · rw [bo_p hb, bo_p (by omega)]
      · rw [bo_n hb, bo_n (by omega)]
    by_cases hb : 0 ≤ b.toInt ∧ b.toInt < 8
    · rw [bo_p hb, if_neg (by decide)] at R0
      rw [bo_p hb, if_neg (by decide), g_ok ha.1 (by omega)]
      have f := shel_f hSh hw2 ha.1 ha.2
      have hb4 := fun k hk => hBo.2.2.2 k hk
      generalize hA : Int32.toNatClampNeg a = A at *
      have l1 := l_m1
      have l5 := l_5
      have l50 := l_50
      have l0 := Int32.toInt_zero
      rcases f with ⟨f1, f2, f3, g | g | g⟩
      · rw [if_pos (by rw [a_lt]; omega)] at R0
        rw [if_pos (by rw [a_eq]; omega)]
        refine T_some ?_
        dsimp only
        rw [R0]
        exact T_some ⟨rfl, hi⟩
      · have e44 : M.1 44 A = M.1 70 A := a_eq.mpr (by omega)
        have kb := hb4 (Int32.toNatClampNeg (M.1 70 A)) (by rw [a_n]; omega)
        rw [if_neg (by rw [a_lt]; omega), if_pos (by rw [a_lt]; omega)] at R0
        rw [if_neg (by rw [a_eq]; omega), if_pos (by rw [a_eq]; omega), e44, e_bhasB]
        dsimp only [Option.bind_some]
        rw [bo_p (by omega), if_neg (by decide), g_ok (by omega) (by omega)]
        refine T_let ?_
        unfold r_kindOf at R0
        rw [g_ok (by omega) (by omega)] at R0
        dsimp only [Option.bind_some] at R0
        rw [kb.1]
        have key := tk_all (a := a) (M := M) (M' := M) (x := M.1 68 (Int32.toNatClampNeg (M.1 70 A))) (k := b) (k75 := fun l3_15 M15 => r_taken_B75 a b l3_15 M15) kb.2.1 (by omega)
        rcases key with ⟨k1, k2⟩ | ⟨k1, y, k2, k3⟩
        · rw [k1]
          dsimp only [Option.bind_some]
          rw [if_neg (by decide)]
          refine T_some ?_
          dsimp only
          rw [R0, k2]
          unfold r_taken_B75 r_kindOf
          rw [if_pos rfl, hA, g_ok ha.1 (by omega), g_ok (by omega) (by omega)]
          exact T_some ⟨rfl, hi⟩
        · rw [k1]
          dsimp only [Option.bind_some]
          rw [if_pos rfl]
          refine T_some ?_
          dsimp only
          rw [R0, k3]
          unfold r_taken_B75
          rw [if_neg k2]
          exact T_some ⟨rfl, hi⟩
      · rw [if_neg (by rw [a_lt]; omega), if_neg (by rw [a_lt]; omega)] at R0
        rw [if_neg (by rw [a_eq]; omega), if_neg (by rw [a_eq]; omega)]
        refine T_some ?_
        dsimp only
        rw [R0]
        exact T_some ⟨rfl, hi⟩
    · rw [bo_n hb, if_pos rfl] at R0
      rw [bo_n hb, if_pos rfl]
      refine T_some ?_
      dsimp only
      rw [R0]
      exact T_some ⟨rfl, hi⟩
  · rw [bo_n ha, if_pos rfl]
    refine T_some ?_
    dsimp only
    unfold r_taken
    rw [e_risShelf]
    dsimp only [Option.bind_some]
    rw [bo_n ha, if_pos rfl]
    exact T_some ⟨rfl, hi⟩
end OPS
