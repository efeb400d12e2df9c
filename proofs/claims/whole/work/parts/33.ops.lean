/-! ===== part 33: small calls, more ===== -/
section OPS2
variable {L : Int32 → Int32 → Int32 → (Nat → Int32) → (Nat → Int32) → Prop} {a b c d e : Int32}
theorem op_feed : OP L (b_feed a) (r_feed a) := by
  intro M h
  have hi := h
  obtain ⟨hLa, hMa, hBe, hFo, hTa, hLw, hHe, hIm, hCh, hVi, hBo, hRa, hSh⟩ := h
  have e2 := hTa.2.1
  have e3 := hTa.2.2.1
  have e5 : (M.1 6 1).toInt = (M.1 50 15).toInt := congrArg Int32.toInt hTa.1
  unfold b_feed r_feed b_Tape_add
  have l1 : (255 : Int32).toInt = 255 := rfl
  have l2 : (120 : Int32).toInt = 120 := rfl
  have l3 : (255 : Int64).toInt = 255 := rfl
  all_goals repeat' (first | with_reducible refine T_some ?_ | with_reducible refine T_bind ?_ | with_reducible refine T_if (fun _ => ?_) (fun _ => ?_) | with_reducible refine T_g ?_ ?_ ?_ | with_reducible refine T_nz ?_ ?_ | with_reducible refine T_zo ?_ ?_)
  all_goals try simp only [r_within_e]
  all_goals repeat' (first | with_reducible refine T_some ?_ | with_reducible refine T_bind ?_ | with_reducible refine T_if (fun _ => ?_) (fun _ => ?_) | with_reducible refine T_g ?_ ?_ ?_ | with_reducible refine T_nz ?_ ?_ | with_reducible refine T_zo ?_ ?_)
  all_goals try simp only [m_wI, m_wI2, Nat.reduceEqDiff, false_and, and_false, if_false, reduceIte, and_self, true_and, and_true, not_true_eq_false, not_false_eq_true] at *
  all_goals try simp only [bo_0, bo_1] at *
  all_goals try simp only [a_lt, a_le, a_eq, a_l, a_llt, a_lgt, a_leqc, Int32.toInt_zero, Int64.toInt_zero, Int32.toInt_one, l1, l2, l3] at *
  all_goals first | omega | exact ⟨rfl, hi⟩ | exact ⟨trivial, hi⟩ | skip
  obtain ⟨e1, _, _, e4⟩ := hTa
  refine ⟨by rw [e1], hLa, hMa, hBe, hFo, ?_, hLw, hHe, hIm, hCh, hVi, hBo, hRa, hSh⟩
  rw [e1]
  have e6 : (M.1 50 15 + 1).toInt = (M.1 50 15).toInt + 1 := a_a1 (by omega)
  refine (show N_tape (M.1 50 15 + 1) (M.1 50 15 + 1) (upd (M.1 7) (M.1 50 15).toInt.toNat a) (upd (M.1 58) (M.1 50 15).toInt.toNat a) from ⟨rfl, by omega, by omega, fun k hk => ?_⟩)
  have := e4 k hk
  unfold upd
  split
  · exact ⟨rfl, by omega, by omega⟩
  · exact this
theorem op_body : OP L (b_body a) (r_body a) := by
  intro M h
  have hi := h
  obtain ⟨hLa, hMa, hBe, hFo, hTa, hLw, hHe, hIm, hCh, hVi, hBo, hRa, hSh⟩ := h
  have e2 := hBo.2.1
  have e3 := hBo.2.2.1
  have e5 : (M.1 38 1).toInt = (M.1 50 46).toInt := congrArg Int32.toInt hBo.1
  unfold b_body r_body b_Bodies_add b_Bodies_isKind
  have l1 : (8 : Int32).toInt = 8 := rfl
  have l2 : (50 : Int32).toInt = 50 := rfl
  have l3 : (7 : Int64).toInt = 7 := rfl
  all_goals repeat' (first | with_reducible refine T_some ?_ | with_reducible refine T_bind ?_ | with_reducible refine T_if (fun _ => ?_) (fun _ => ?_) | with_reducible refine T_g ?_ ?_ ?_ | with_reducible refine T_nz ?_ ?_ | with_reducible refine T_zo ?_ ?_)
  all_goals try simp only [r_within_e]
  all_goals repeat' (first | with_reducible refine T_some ?_ | with_reducible refine T_bind ?_ | with_reducible refine T_if (fun _ => ?_) (fun _ => ?_) | with_reducible refine T_g ?_ ?_ ?_ | with_reducible refine T_nz ?_ ?_ | with_reducible refine T_zo ?_ ?_)
  all_goals try simp only [m_wI, m_wI2, Nat.reduceEqDiff, false_and, and_false, if_false, reduceIte, and_self, true_and, and_true, not_true_eq_false, not_false_eq_true] at *
  all_goals try simp only [bo_0, bo_1] at *
  all_goals try simp only [a_lt, a_le, a_eq, a_l, a_llt, a_lgt, a_leqc, Int32.toInt_zero, Int64.toInt_zero, Int32.toInt_one, l1, l2, l3] at *
  all_goals first | omega | exact ⟨rfl, hi⟩ | exact ⟨trivial, hi⟩ | skip
  obtain ⟨e1, _, _, e4⟩ := hBo
  have e6 : (M.1 50 46 + 1).toInt = (M.1 50 46).toInt + 1 := a_a1 (by omega)
  refine ⟨by rw [e1], hLa, hMa, hBe, hFo, hTa, hLw, hHe, hIm, hCh, hVi, ?_, hRa, ?_⟩
  · rw [e1]
    refine (show N_body (M.1 50 46 + 1) (M.1 50 46 + 1) (upd (M.1 39) (M.1 50 46).toInt.toNat a) (upd (M.1 68) (M.1 50 46).toInt.toNat a) from ⟨rfl, by omega, by omega, fun k hk => ?_⟩)
    have := e4 k hk
    unfold upd
    split
    · exact ⟨rfl, by omega, by omega⟩
    · exact this
  · refine (show N_shelf (M.1 42) (M.1 43) (M.1 44) (M.1 70) (M.1 71) (M.2 45) (M.2 72) (M.1 50 46 + 1).toInt from fun d hd => ?_)
    obtain ⟨f1, f2, f3, f4, f5⟩ := hSh d hd
    refine ⟨f1, f2, f3, f4, ?_⟩
    rcases f5 with g | g | g
    · exact Or.inl g
    · exact Or.inr (Or.inl ⟨g.1, g.2.1, g.2.2.1, by omega, g.2.2.2.2⟩)
    · exact Or.inr (Or.inr g)
end OPS2
