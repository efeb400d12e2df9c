/-! ===== part 32: what is kept from call to call; the small calls ===== -/
/-- cells that no call looks at before it has written them -/
def i_sc (q k : Nat) : Bool := [8, 11, 12, 22, 23, 24, 25, 26, 27, 29, 30, 60, 62, 63, 64, 65].contains q || (q == 6 && [3, 4, 5].contains k) || (q == 9 && k == 6) || (q == 36 && [1, 2].contains k) || (q == 38 && k == 4) || (q == 50 && [18, 19, 20, 21, 22, 27, 28, 29, 30, 31, 33, 34, 37, 38, 40, 50, 51].contains k)
def i_vw (M : I_M) : I_M := (fun q k => if i_sc q k = true then 0 else M.1 q k, fun q k => if q = 73 then 0 else M.2 q k)
def INV (L : Int32 → Int32 → Int32 → (Nat → Int32) → (Nat → Int32) → Prop) (M : I_M) : Prop :=
  N_land (M.1 1 0) (M.1 1 1) (M.1 50 6) (M.1 50 7) (M.1 2) (M.1 3)
  ∧ N_may (M.1 4) (M.1 5) (M.1 16) (M.1 1 6) (M.1 1 7) (M.1 1 8) (M.1 1 9) (M.1 51)
  ∧ N_bell (M.1 13 6) (M.1 50 8) (M.1 14) (M.1 15) (M.1 17) (M.1 55) (M.1 56) (M.1 57) (i_ce (M.1 50 6) (M.1 50 7))
  ∧ N_found (M.1 13 7) (M.1 13 8) (M.1 50 12) (M.1 50 13)
  ∧ N_tape (M.1 6 1) (M.1 50 15) (M.1 7) (M.1 58)
  ∧ L (M.1 9 1) (M.1 50 17) (M.1 9 3) (M.1 10) (M.1 59)
  ∧ N_hr (M.1 18 3) (M.1 50 24) (M.1 19) (M.1 20) (M.1 21) (M.1 61) (i_ce (M.1 50 6) (M.1 50 7))
  ∧ N_img (M.1 0 14) (M.1 50 41) (M.1 0 12) (M.1 0 13) (M.1 50 43) (M.1 50 44) (M.1 46 3) (M.1 50 42) (M.1 47) (M.1 48) (M.1 49) (M.1 67) (i_ce (M.1 50 6) (M.1 50 7))
  ∧ N_chg (M.1 31 4) (M.1 31 5) (M.1 50 5) (M.1 50 4) (M.1 32) (M.1 33) (M.1 34) (M.1 35) (M.1 52) (M.1 53) (M.1 54) (i_ce (M.1 50 6) (M.1 50 7)) (M.1 50 8).toInt
  ∧ N_vill (M.1 37) (M.1 66)
  ∧ N_body (M.1 38 1) (M.1 50 46) (M.1 39) (M.1 68)
  ∧ N_ran (M.1 38 3) (M.1 50 49) (M.1 40) (M.1 69)
  ∧ N_shelf (M.1 42) (M.1 43) (M.1 44) (M.1 70) (M.1 71) (M.2 45) (M.2 72) (M.1 50 46).toInt
def OP {α : Type} (L : Int32 → Int32 → Int32 → (Nat → Int32) → (Nat → Int32) → Prop) (f g : I_M → Option (α × I_M)) : Prop := ∀ M, INV L M → T (f M) (fun r => T (g r.2) (fun s => s.1 = r.1 ∧ INV L s.2))
section OPS
variable {L : Int32 → Int32 → Int32 → (Nat → Int32) → (Nat → Int32) → Prop} {a b c d e : Int32}
theorem inv_vw {M : I_M} : INV L (i_vw M) = INV L M := rfl
theorem inv_of {M M1 : I_M} (h : INV L M) (hv : i_vw M1 = i_vw M) : INV L M1 := by
  rw [← inv_vw, hv, inv_vw]
  exact h
theorem N_land_ce {a b a' b' : Int32} {r c : Nat → Int32} (h : N_land a b a' b' r c) : 1 ≤ i_ce a' b' ∧ i_ce a' b' ≤ 25 ∧ i_ce a b = i_ce a' b' := by
  obtain ⟨rfl, rfl, h1, h2, h3, h4, _⟩ := h
  have := i_ce_ok h1 h2 h3 h4
  exact ⟨this.2.1, this.2.2, rfl⟩
theorem op_forget : OP L b_forget r_forget := by
  intro M h
  have hi := h
  obtain ⟨hLa, hMa, hBe, hFo, hTa, hLw, hHe, hIm, hCh, hVi, hBo, hRa, hSh⟩ := h
  obtain ⟨e1, e2, e3, e4⟩ := hHe
  unfold b_forget r_forget
  rw [e1]
  by_cases c1 : M.1 50 24 = 0
  · rw [if_pos c1]
    refine T_some ?_
    dsimp only
    rw [if_pos c1]
    exact T_some ⟨rfl, hi⟩
  · rw [if_neg c1]
    refine T_some ?_
    dsimp only
    refine T_ok (if_neg c1) ?_
    have c2 : (M.1 50 24 - 1).toInt = (M.1 50 24).toInt - 1 := a_s1 e2
    rw [a_eq, Int32.toInt_zero] at c1
    refine ⟨rfl, hLa, hMa, hBe, hFo, hTa, hLw, ?_, hIm, hCh, hVi, hBo, hRa, hSh⟩
    refine (show N_hr (M.1 50 24 - 1) (M.1 50 24 - 1) (M.1 19) (M.1 20) (M.1 21) (M.1 61) _ from ⟨rfl, by omega, by omega, fun h hh => ?_⟩)
    exact e4 h (by omega)
theorem op_tune : OP L (b_tune a b) (r_tune a b) := by
  intro M h
  have hi := h
  obtain ⟨hLa, hMa, hBe, hFo, hTa, hLw, hHe, hIm, hCh, hVi, hBo, hRa, hSh⟩ := h
  unfold b_tune r_tune
  have l1 : (6 : Int32).toInt = 6 := rfl
  have l2 : (9999 : Int32).toInt = 9999 := rfl
  have l3 : (5 : Int64).toInt = 5 := rfl
  have l4 : (9999 : Int64).toInt = 9999 := rfl
  all_goals repeat' (first | with_reducible refine T_some ?_ | with_reducible refine T_bind ?_ | with_reducible refine T_if (fun _ => ?_) (fun _ => ?_) | with_reducible refine T_g ?_ ?_ ?_ | with_reducible refine T_nz ?_ ?_ | with_reducible refine T_zo ?_ ?_)
  all_goals try simp only [r_within_e]
  all_goals repeat' (first | with_reducible refine T_some ?_ | with_reducible refine T_bind ?_ | with_reducible refine T_if (fun _ => ?_) (fun _ => ?_) | with_reducible refine T_g ?_ ?_ ?_ | with_reducible refine T_nz ?_ ?_ | with_reducible refine T_zo ?_ ?_)
  all_goals try simp only [bo_0, bo_1] at *
  all_goals try simp only [a_lt, a_le, a_eq, a_l, a_llt, a_lgt, a_leqc, Int32.toInt_zero, Int64.toInt_zero, Int32.toInt_one, l1, l2, l3, l4] at *
  all_goals first | omega | exact ⟨rfl, hi⟩ | exact ⟨trivial, hi⟩ | skip
  have hv := hVi a.toInt.toNat (by omega)
  refine ⟨?_, hLa, hMa, hBe, hFo, hTa, hLw, hHe, hIm, hCh, ?_, hBo, hRa, hSh⟩
  · exact congrArg Int32.toInt hv.1.symm
  · refine (show N_vill (upd (M.1 37) a.toInt.toNat b) (upd (M.1 66) a.toInt.toNat b) from fun v hv => ?_)
    have := hVi v hv
    unfold upd
    split
    · exact ⟨rfl, by omega, by omega⟩
    · exact this
end OPS
