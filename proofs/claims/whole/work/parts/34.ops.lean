/-! ===== part 34: trace, hearing ===== -/
section OPS3
variable {L : Int32 → Int32 → Int32 → (Nat → Int32) → (Nat → Int32) → Prop} {a b c d e : Int32}
theorem op_trace : OP L (b_trace a) (r_trace a) := by
  intro M h
  have hi := h
  obtain ⟨hLa, hMa, hBe, hFo, hTa, hLw, hHe, hIm, hCh, hVi, hBo, hRa, hSh⟩ := h
  have e2 := hRa.2.1
  have e5 : (M.1 38 3).toInt = (M.1 50 49).toInt := congrArg Int32.toInt hRa.1
  have e6 : (i_min (M.1 38 3) 24).toInt = min (M.1 38 3).toInt 24 := min_e
  unfold b_trace r_trace b_Bodies_traced
  have l1 : (24 : Int32).toInt = 24 := rfl
  all_goals repeat' (first | with_reducible refine T_some ?_ | with_reducible refine T_bind ?_ | with_reducible refine T_if (fun _ => ?_) (fun _ => ?_) | with_reducible refine T_g ?_ ?_ ?_ | with_reducible refine T_nz ?_ ?_ | with_reducible refine T_zo ?_ ?_)
  all_goals try simp only [m_wI, m_wI2, Nat.reduceEqDiff, false_and, and_false, if_false, reduceIte, and_self, true_and, and_true, not_true_eq_false, not_false_eq_true] at *
  all_goals try simp only [bo_0, bo_1] at *
  all_goals try simp only [a_lt, a_le, a_eq, a_l, a_llt, a_lgt, a_leqc, Int32.toInt_zero, Int64.toInt_zero, Int32.toInt_one, l1] at *
  all_goals first | omega | exact ⟨rfl, hi⟩ | exact ⟨trivial, hi⟩ | skip
  refine ⟨?_, hi⟩
  exact congrArg Int32.toInt (hRa.2.2 a.toInt.toNat (by omega)).symm
theorem op_hearing : OP L (b_hearing a b c) (r_hearing a b c) := by
  intro M h
  have hi := h
  obtain ⟨hLa, hMa, hBe, hFo, hTa, hLw, hHe, hIm, hCh, hVi, hBo, hRa, hSh⟩ := h
  have ⟨hc, hc2, hc3⟩ := N_land_ce hLa
  have e2 := hHe.2.1
  have e3 := hHe.2.2.1
  have e5 : (M.1 18 3).toInt = (M.1 50 24).toInt := congrArg Int32.toInt hHe.1
  have l4 : (3 : Int32).toInt = 3 := rfl
  have l5 : (2 : Int32).toInt = 2 := rfl
  have k0 : (3 * M.1 50 24).toInt = 3 * (M.1 50 24).toInt := by rw [a_mul] <;> rw [l4] <;> omega
  have k1 : (3 * M.1 50 24 + 1).toInt = 3 * (M.1 50 24).toInt + 1 := by rw [a_a1] <;> omega
  have k2 : (3 * M.1 50 24 + 2).toInt = 3 * (M.1 50 24).toInt + 2 := by rw [a_add] <;> rw [l5] <;> omega
  unfold b_hearing r_hearing b_Hearings_add_18
  have l1 : (99 : Int32).toInt = 99 := rfl
  have l2 : (10 : Int32).toInt = 10 := rfl
  have l3 : (99 : Int64).toInt = 99 := rfl
  have l4 : (3 : Int32).toInt = 3 := rfl
  have l5 : (2 : Int32).toInt = 2 := rfl
  have hb := hBe.2.1
  all_goals repeat' (first | with_reducible refine T_some ?_ | with_reducible refine T_bind ?_ | with_reducible refine T_if (fun _ => ?_) (fun _ => ?_) | with_reducible refine T_g ?_ ?_ ?_ | with_reducible refine T_nz ?_ ?_ | with_reducible refine T_zo ?_ ?_ | with_reducible refine T_ok r_within_e ?_ | with_reducible refine T_ok e_has ?_ | with_reducible refine T_ok e_strike ?_ | with_reducible refine T_ok e_bhas ?_ | with_reducible refine T_ok e_hhas ?_ | with_reducible refine T_ok e_isIn ?_ | with_reducible refine T_ok e_cells ?_ | with_reducible refine T_ok e_rcells ?_ | ((with_reducible refine T_ok (e_isNc ?_) ?_); (· exact hc)) | ((with_reducible refine T_ok (e_isCell ?_) ?_); (· exact hc)) | ((with_reducible refine T_ok (e_isBell ?_) ?_); (· exact hb)))
  all_goals try simp only [m_wI, m_wI2, Nat.reduceEqDiff, false_and, and_false, if_false, reduceIte, and_self, true_and, and_true, not_true_eq_false, not_false_eq_true] at *
  all_goals try simp only [bo_0, bo_1] at *
  all_goals try simp only [a_lt, a_le, a_eq, a_l, a_llt, a_lgt, a_leqc, Int32.toInt_zero, Int64.toInt_zero, Int32.toInt_one, l1, l2, l3] at *
  all_goals first | omega | exact ⟨rfl, hi⟩ | exact ⟨trivial, hi⟩ | skip
  obtain ⟨e1, _, _, e4⟩ := hHe
  refine ⟨by rw [e1], hLa, hMa, hBe, hFo, hTa, hLw, ?_, hIm, hCh, hVi, hBo, hRa, hSh⟩
  rw [e1]
  have e6 : (M.1 50 24 + 1).toInt = (M.1 50 24).toInt + 1 := a_a1 (by omega)
  obtain ⟨n, hn⟩ : ∃ n : Nat, n = (M.1 50 24).toInt.toNat := ⟨_, rfl⟩
  have n0 : (3 * M.1 50 24).toInt.toNat = 3 * n := by omega
  have n1 : (3 * M.1 50 24 + 1).toInt.toNat = 3 * n + 1 := by omega
  have n2 : (3 * M.1 50 24 + 2).toInt.toNat = 3 * n + 2 := by omega
  show N_hr (M.1 50 24 + 1) (M.1 50 24 + 1) (upd (M.1 19) (M.1 50 24).toInt.toNat a) (upd (M.1 20) (M.1 50 24).toInt.toNat b) (upd (M.1 21) (M.1 50 24).toInt.toNat c) (upd (upd (upd (M.1 61) (3 * M.1 50 24).toInt.toNat a) (3 * M.1 50 24 + 1).toInt.toNat b) (3 * M.1 50 24 + 2).toInt.toNat c) (i_ce (M.1 50 6) (M.1 50 7))
  rw [n0, n1, n2, ← hn]
  refine ⟨rfl, by omega, by omega, fun h hh => ?_⟩
  unfold upd
  by_cases q : h = n
  · rw [if_pos q, if_pos q, if_pos q, if_neg (by omega), if_neg (by omega), if_pos (by omega), if_neg (by omega), if_pos (by omega), if_pos (by omega)]
    exact ⟨rfl, rfl, rfl, by omega, by omega, by omega, by omega, by omega, by omega, by omega⟩
  · rw [if_neg q, if_neg q, if_neg q, if_neg (by omega), if_neg (by omega), if_neg (by omega), if_neg (by omega), if_neg (by omega), if_neg (by omega), if_neg (by omega), if_neg (by omega), if_neg (by omega)]
    exact e4 h (by omega)
end OPS3
