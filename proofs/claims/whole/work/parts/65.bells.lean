/-! ===== part 65: bells, the call ===== -/
section OPS
variable {a b c : Int32}
variable {L : Int32 → Int32 → Int32 → (Nat → Int32) → (Nat → Int32) → Prop}
theorem op_bells : OP L (b_bells a b c) (r_bells a b c) := by
  intro M h
  have hi := h
  obtain ⟨hLa, hMa, hBe, hFo, hTa, hLw, hHe, hIm, hCh, hVi, hBo, hRa, hSh⟩ := h
  have hw2 := hBo.2.2.1
  have l0 := Int32.toInt_zero
  have l1 : (1 : Int32).toInt = 1 := rfl
  have l6 := l_6
  have l50 := l_50
  have lm := l_m1
  have L1 : (1 : Int64).toInt = 1 := rfl
  have L6 : (6 : Int64).toInt = 6 := rfl
  have FIN : ∀ (v : Int32), r_bells a b c M = some (v, M) → T (some (v, M)) (fun r => T (r_bells a b c r.2) (fun s => s.1 = r.1 ∧ INV L s.2)) := by
    intro v hv
    refine T_some ?_
    dsimp only
    rw [hv]
    exact T_some ⟨rfl, hi⟩
  unfold b_bells
  rw [e_bisShelf]
  dsimp only [Option.bind_some]
  by_cases ha : 0 ≤ a.toInt ∧ a.toInt < 6
  · have R0 : ∀ M' : I_M, r_bells a b c M' = if i_bo (1 ≤ c.toInt ∧ c.toInt ≤ 6) = 0 then some ((-1 : Int32), M') else (if (M'.1 70 (Int32.toNatClampNeg a)) < (0 : Int32) then r_bells_B44 a b c M' else (if (M'.1 70 (Int32.toNatClampNeg a)) = (50 : Int32) then r_bells_B44 a b c M' else some ((-12 : Int32), M'))) := by
      intro M'
      unfold r_bells
      rw [e_risShelf]
      dsimp only [Option.bind_some]
      rw [bo_p ha, if_neg (by decide)]
      simp only [r_within_e, a_l, L1, L6, Option.bind_some, g_ok ha.1 (show a.toInt < ((6 : Nat) : Int) by omega)]
    have RM := R0 M
    rw [bo_p ha, if_neg (by decide)]
    by_cases p1 : 1 ≤ c.toInt ∧ c.toInt ≤ 6
    · rw [bo_p p1, if_neg (by decide)] at RM
      rw [if_neg (by rw [a_lt]; omega), if_neg (by rw [a_lt]; omega), g_ok ha.1 (by omega)]
      have f := shel_f hSh hw2 ha.1 ha.2
      -- nothing comes
      have B0 : ¬ (0 ≤ b.toInt ∧ b.toInt < (M.1 43 (Int32.toNatClampNeg a)).toInt) → b_bells_L55 a b c i_F 0 M = some (0, M) := by
        intro hp
        obtain ⟨F, eF⟩ : ∃ F, i_F = F + 1 := ⟨4999, rfl⟩
        rw [eF]
        unfold b_bells_L55 b_comesFrom
        rw [if_pos (by rw [a_lt]; omega), place_e ha.1 ha.2]
        dsimp only [Option.bind_some]
        rw [bo_n hp, if_pos rfl]
        dsimp only [Option.bind_some]
        rw [if_pos rfl]
      have R00 : r_bells_L69 a b c i_F 0 0 M = some (0, M) := by
        obtain ⟨F, eF⟩ : ∃ F, i_F = F + 1 := ⟨4999, rfl⟩
        rw [eF]
        unfold r_bells_L69
        rw [if_pos rfl]
      have B44n : ¬ (M.1 70 (Int32.toNatClampNeg a)).toInt = 50 ∨ b.toInt < 0 → r_bells_B44 a b c M = some (0, M) := by
        intro hq
        unfold r_bells_B44
        rw [g_ok ha.1 (by omega)]
        by_cases z : (M.1 70 (Int32.toNatClampNeg a)).toInt = 50
        · rcases hq with hq | hq
          · exact absurd z hq
          · rw [if_pos (by rw [a_eq]; omega), if_pos (by rw [a_lt]; omega)]
            exact R00
        · rw [if_neg (by rw [a_eq]; omega)]
          exact R00
      rcases f with ⟨f1, f2, f3, g | g | g⟩
      · rw [if_pos (by rw [a_eq]; omega), B0 (by omega)]
        rw [if_pos (by rw [a_lt]; omega), B44n (Or.inl (by omega))] at RM
        exact FIN _ RM
      · rw [if_neg (by rw [a_eq]; omega), if_neg (by rw [a_eq]; omega)]
        rw [if_neg (by rw [a_lt]; omega), if_neg (by rw [a_eq]; omega)] at RM
        exact FIN _ RM
      · rw [if_neg (by rw [a_eq]; omega)]
        by_cases z : (M.1 42 (Int32.toNatClampNeg a)).toInt = 0
        · rw [if_pos (by rw [a_eq]; omega)]
          by_cases zb : b.toInt < 0
          · rw [B0 (by omega)]
            rw [if_neg (by rw [a_lt]; omega), if_pos (by rw [a_eq]; omega), B44n (Or.inr zb)] at RM
            exact FIN _ RM
          · obtain ⟨nb, hnb⟩ : ∃ n : Nat, (M.1 50 8).toInt = n := ⟨(M.1 50 8).toInt.toNat, by have := hBe.2.1; omega⟩
            obtain ⟨I, hI⟩ : ∃ n : Nat, b.toInt = n := ⟨b.toInt.toNat, by omega⟩
            obtain ⟨n, hn⟩ : ∃ n : Nat, c.toInt = n := ⟨c.toInt.toNat, by omega⟩
            have hH : g_H M a b nb I := ⟨ha.1, ha.2, hI, hnb, z, by omega⟩
            refine T_mono (bl_b hi hH hn (by omega) n 0 i_F (by omega) (by unfold i_F; omega) (fun u hu => absurd hu (by omega))) (fun r hr => ?_)
            obtain ⟨J, j1, j2, j3, rfl⟩ := hr
            dsimp only
            obtain ⟨C, hC⟩ : ∃ C, C = g_C M (60 * Int32.toNatClampNeg a + I) J := ⟨_, rfl⟩
            have c70 : C.1 70 = M.1 70 := by rw [hC]; exact g_cAhi (Or.inl (by omega)) J
            rw [← hC, R0 C, bo_p p1, if_neg (by decide), c70, if_neg (by rw [a_lt]; omega), if_pos (by rw [a_eq]; omega)]
            unfold r_bells_B44
            rw [g_ok ha.1 (by omega), c70, if_pos (by rw [a_eq]; omega), if_neg (by rw [a_lt]; omega)]
            have R := bl_r hi hH hn (by omega) j1 j2 j3 J 0 i_F (by omega) (by unfold i_F; omega)
            rw [hC]
            refine T_mono R (fun r hr => ?_)
            rw [hr]
            exact ⟨rfl, (g_D hi hnb J (fun u hu => (j2 u hu).2)).1⟩
        · rw [if_neg (by rw [a_eq]; omega)]
          rw [if_neg (by rw [a_lt]; omega), if_neg (by rw [a_eq]; omega)] at RM
          exact FIN _ RM
    · rw [bo_n p1, if_pos rfl] at RM
      by_cases q : c.toInt < 1
      · rw [if_pos (by rw [a_lt]; omega)]
        exact FIN _ RM
      · rw [if_neg (by rw [a_lt]; omega), if_pos (by rw [a_lt]; omega)]
        exact FIN _ RM
  · rw [bo_n ha, if_pos rfl]
    refine FIN _ ?_
    unfold r_bells
    rw [e_risShelf]
    dsimp only [Option.bind_some]
    rw [bo_n ha, if_pos rfl]
end OPS
