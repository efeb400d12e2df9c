/-! ===== part 37: keep, row, put, element ===== -/
theorem a_60 {a : Int32} (h : 0 ≤ a.toInt) (h2 : a.toInt < 6) : (60 * a).toInt = 60 * a.toInt ∧ (a * 60).toInt = 60 * a.toInt := by
  have l : (60 : Int32).toInt = 60 := rfl
  constructor <;> rw [a_mul] <;> rw [l] <;> omega
theorem a_60p {a b : Int32} (h : 0 ≤ a.toInt) (h2 : a.toInt < 6) (h3 : -1000 ≤ b.toInt) (h4 : b.toInt ≤ 1000) : (60 * a + b).toInt = 60 * a.toInt + b.toInt ∧ (a * 60 + b).toInt = 60 * a.toInt + b.toInt := by
  have := a_60 h h2
  constructor <;> rw [a_add] <;> omega
theorem rw_ap {M : I_M} {q q' : Nat} {f : Nat → Int32} : (i_rw M q f).1 q' = if q' = q then f else M.1 q' := rfl
theorem hold_e {M : I_M} {d s n : Int32} (h : 0 ≤ d.toInt) (h2 : d.toInt < 6) (h3 : 0 ≤ n.toInt) (h4 : n.toInt ≤ 60) : b_Shelves_hold d s n M = some (i_rwL (i_rw (i_rw M 42 (upd (M.1 42) (Int32.toNatClampNeg d) s)) 43 (upd (M.1 43) (Int32.toNatClampNeg d) n)) 45 (fun j => if 60 * Int32.toNatClampNeg d ≤ j ∧ j < 60 * Int32.toNatClampNeg d + n.toInt.toNat then 0 else M.2 45 j)) := by
  have k0 := a_60 h h2
  have k1 := a_60p h h2 (b := n) (by omega) (by omega)
  unfold b_Shelves_hold
  rw [g_ok h (by omega), fillL_e (by omega) (by omega) (by omega)]
  dsimp only [Option.bind_some]
  rw [rw_w, rw_w, rw_n (by decide), show (d * 60).toInt.toNat = 60 * Int32.toNatClampNeg d from by rw [a_n]; omega, show (d * 60 + n).toInt.toNat = 60 * Int32.toNatClampNeg d + n.toInt.toNat from by rw [a_n]; omega, rw_2, rw_2]
theorem keep_sh {so le bo sh ma : Nat → Int32} {el it : Nat → Int64} {nb : Int} {d : Nat} {s b : Int32} (h : N_shelf so le bo sh ma el it nb) (hs : (s.toInt = -1 ∧ b.toInt = -1) ∨ (s.toInt = 5 ∧ 0 ≤ b.toInt ∧ b.toInt < nb)) : N_shelf (upd so d s) (upd le d 0) (upd bo d b) (upd sh d b) (upd ma d 0) (fun j => if 60 * d ≤ j ∧ j < 60 * d + (0 : Int32).toInt.toNat then 0 else el j) it nb := by
  have l0 : (0 : Int32).toInt = 0 := rfl
  refine N_shelf_set h (fun e he q => ⟨upd_n q, upd_n q, upd_n q, upd_n q, upd_n q, fun k hk => ⟨if_neg (by omega), rfl⟩⟩) ?_
  unfold N_sh1
  rw [upd_s, upd_s, upd_s, upd_s, upd_s]
  refine ⟨rfl, by omega, by omega, fun k hk => by omega, ?_⟩
  rcases hs with g | g
  · exact Or.inl ⟨g.1, g.2, l0⟩
  · exact Or.inr (Or.inl ⟨g.1, rfl, g.2.1, g.2.2, l0⟩)
theorem row_sh {so le bo sh ma : Nat → Int32} {el it : Nat → Int64} {nb : Int} {d : Nat} {s n w : Int32} (h : N_shelf so le bo sh ma el it nb) (hs : 0 ≤ s.toInt ∧ s.toInt ≤ 4 ∧ w.toInt = 50 + s.toInt) (hn : 0 ≤ n.toInt ∧ n.toInt ≤ 60) : N_shelf (upd so d s) (upd le d n) bo (upd sh d w) (upd ma d n) (fun j => if 60 * d ≤ j ∧ j < 60 * d + n.toInt.toNat then 0 else el j) (fun j => if 60 * d ≤ j ∧ j < 60 * d + 60 then 0 else it j) nb := by
  refine N_shelf_set h (fun e he q => ⟨upd_n q, upd_n q, rfl, upd_n q, upd_n q, fun k hk => ⟨if_neg (by omega), if_neg (by omega)⟩⟩) ?_
  unfold N_sh1
  rw [upd_s, upd_s, upd_s, upd_s]
  refine ⟨rfl, by omega, by omega, fun k hk => ?_, Or.inr (Or.inr hs)⟩
  dsimp only
  rw [if_pos (by omega), if_pos (by omega)]
  refine ⟨rfl, fun _ => ?_⟩
  rw [Int64.toInt_zero]
  omega
theorem rowL_e {M : I_M} {d : Int32} (h : 0 ≤ d.toInt) (h2 : d.toInt < 6) : r_row_L57 d i_F (60 * d) M = some (1, i_rwL M 72 (fun j => if 60 * Int32.toNatClampNeg d ≤ j ∧ j < 60 * Int32.toNatClampNeg d + 60 then 0 else M.2 72 j)) := by
  have k0 := a_60 h h2
  have l : (60 : Int32).toInt = 60 := rfl
  have k1 : (60 * d + 60).toInt = 60 * d.toInt + 60 := by rw [a_add] <;> omega
  have k2 : Int32.toNatClampNeg d = d.toInt.toNat := a_n d
  refine T_eq (T_for (N := 60 * Int32.toNatClampNeg d + 60) (f := r_row_L57 d) (fun k M' => M' = i_rwL M 72 (fun j => if 60 * Int32.toNatClampNeg d ≤ j ∧ j < k then 0 else M.2 72 j)) (by omega) ?_ ?_ (a := 60 * Int32.toNatClampNeg d) (by unfold i_F; omega) (by omega) (by omega) ?_)
  · intro n k i M' h4 h50 h5 h6 h7
    unfold r_row_L57
    rw [if_pos (by rw [a_lt]; omega)]
    refine T_g (by omega) (by omega) (h7 _ ?_)
    rw [h6, rwL_w, rwL_rwL, rwL_s, a_k h4]
    congr 1
    funext j
    by_cases q : j = k
    · rw [if_pos q, if_pos (by omega)]
    · rw [if_neg q]
      by_cases q2 : 60 * Int32.toNatClampNeg d ≤ j ∧ j < k
      · rw [if_pos q2, if_pos (by omega)]
      · rw [if_neg q2, if_neg (by omega)]
  · intro n i M' h4 h5
    unfold r_row_L57
    rw [if_neg (by rw [a_lt]; omega)]
    exact T_some (by rw [h5])
  · rw [show (fun j => if 60 * Int32.toNatClampNeg d ≤ j ∧ j < 60 * Int32.toNatClampNeg d then 0 else M.2 72 j) = M.2 72 from funext fun j => if_neg (by omega), rwL_id]
theorem shel_f {so le bo sh ma : Nat → Int32} {el it : Nat → Int64} {nb : Int} {a : Int32} (h : N_shelf so le bo sh ma el it nb) (hn : nb ≤ 50) : 0 ≤ a.toInt → a.toInt < 6 → (le (Int32.toNatClampNeg a)).toInt = (ma (Int32.toNatClampNeg a)).toInt ∧ 0 ≤ (ma (Int32.toNatClampNeg a)).toInt ∧ (ma (Int32.toNatClampNeg a)).toInt ≤ 60 ∧ (((so (Int32.toNatClampNeg a)).toInt = -1 ∧ (sh (Int32.toNatClampNeg a)).toInt = -1 ∧ (ma (Int32.toNatClampNeg a)).toInt = 0) ∨ ((so (Int32.toNatClampNeg a)).toInt = 5 ∧ (sh (Int32.toNatClampNeg a)).toInt = (bo (Int32.toNatClampNeg a)).toInt ∧ 0 ≤ (sh (Int32.toNatClampNeg a)).toInt ∧ (sh (Int32.toNatClampNeg a)).toInt < nb ∧ (ma (Int32.toNatClampNeg a)).toInt = 0 ∧ nb ≤ 50) ∨ (0 ≤ (so (Int32.toNatClampNeg a)).toInt ∧ (so (Int32.toNatClampNeg a)).toInt ≤ 4 ∧ (sh (Int32.toNatClampNeg a)).toInt = 50 + (so (Int32.toNatClampNeg a)).toInt)) := by
  intro h1 h2
  have := h (Int32.toNatClampNeg a) (by rw [a_n]; omega)
  obtain ⟨e1, e2, e3, e4, e5⟩ := this
  refine ⟨congrArg Int32.toInt e1, e2, e3, ?_⟩
  rcases e5 with g | g | g
  · exact Or.inl g
  · exact Or.inr (Or.inl ⟨g.1, congrArg Int32.toInt g.2.1, g.2.2.1, g.2.2.2.1, g.2.2.2.2, hn⟩)
  · exact Or.inr (Or.inr g)
section OPS
variable {L : Int32 → Int32 → Int32 → (Nat → Int32) → (Nat → Int32) → Prop} {a b c d e : Int32}
theorem op_keep : OP L (b_keep a b) (r_keep a b) := by
  intro M h
  have hi := h
  obtain ⟨hLa, hMa, hBe, hFo, hTa, hLw, hHe, hIm, hCh, hVi, hBo, hRa, hSh⟩ := h
  have hw := hBo.2.1
  have hb := hBe.2.1
  have ⟨hc, hc2, hc3⟩ := N_land_ce hLa
  have hw2 := hBo.2.2.1
  have e5 : (M.1 38 1).toInt = (M.1 50 46).toInt := congrArg Int32.toInt hBo.1
  unfold b_keep r_keep b_keep_B29 r_keep_B22 b_keep_B44
  all_goals repeat' (first | with_reducible refine T_some ?_ | with_reducible refine T_bind ?_ | with_reducible refine T_if (fun _ => ?_) (fun _ => ?_) | with_reducible refine T_g ?_ ?_ ?_ | with_reducible refine T_nz ?_ ?_ | with_reducible refine T_zo ?_ ?_ | with_reducible refine T_ok r_within_e ?_ | with_reducible refine T_ok e_has ?_ | with_reducible refine T_ok e_strike ?_ | with_reducible refine T_ok e_bhas ?_ | with_reducible refine T_ok e_hhas ?_ | with_reducible refine T_ok e_isIn ?_ | with_reducible refine T_ok e_cells ?_ | with_reducible refine T_ok e_rcells ?_ | with_reducible refine T_ok e_found ?_ | with_reducible refine T_ok e_bisShelf ?_ | with_reducible refine T_ok e_risShelf ?_ | with_reducible refine T_ok e_bhasB ?_ | with_reducible refine T_ok e_isKind ?_ | with_reducible refine T_cg ?_ ?_ ?_ ?_ ?_ ?_ | ((with_reducible refine T_ok (e_risBody ?_) ?_); (· exact hw)) | with_reducible refine T_ok held_b ?_ | with_reducible refine T_ok held_r ?_ | with_reducible refine T_ok (hold_e ?_ ?_ ?_ ?_) ?_ | with_reducible refine T_ok (rowL_e ?_ ?_) ?_ | ((with_reducible refine T_ok (e_isNc ?_) ?_); (· exact hc)) | ((with_reducible refine T_ok (e_isCell ?_) ?_); (· exact hc)) | ((with_reducible refine T_ok (e_isBell ?_) ?_); (· exact hb)))
  all_goals try simp only [m_wI, m_wI2, rwL_1, rw_2, rw_ap, Nat.reduceEqDiff, false_and, and_false, if_false, reduceIte, and_self, true_and, and_true, not_true_eq_false, not_false_eq_true] at *
  all_goals try simp only [bo_0, bo_1] at *
  all_goals try simp only [a_lt, a_le, a_eq, a_l, a_llt, a_lgt, a_leqc, Int32.toInt_zero, Int64.toInt_zero, Int32.toInt_one, Int32.reduceToInt, Int64.reduceToInt] at *
  all_goals first | omega | exact ⟨rfl, hi⟩ | exact ⟨trivial, hi⟩ | exact hi | skip
  · refine ⟨hLa, hMa, hBe, hFo, hTa, hLw, hHe, hIm, hCh, hVi, hBo, hRa, ?_⟩
    exact keep_sh hSh (Or.inl ⟨rfl, by omega⟩)
  · refine ⟨hLa, hMa, hBe, hFo, hTa, hLw, hHe, hIm, hCh, hVi, hBo, hRa, ?_⟩
    exact keep_sh hSh (Or.inr ⟨rfl, by omega, show b.toInt < (M.1 50 46).toInt by omega⟩)
theorem op_row : OP L (b_row a b c) (r_row a b c) := by
  intro M h
  have hi := h
  obtain ⟨hLa, hMa, hBe, hFo, hTa, hLw, hHe, hIm, hCh, hVi, hBo, hRa, hSh⟩ := h
  have hw := hBo.2.1
  have hb := hBe.2.1
  have ⟨hc, hc2, hc3⟩ := N_land_ce hLa
  unfold b_row r_row
  all_goals repeat' (first | with_reducible refine T_some ?_ | with_reducible refine T_bind ?_ | with_reducible refine T_if (fun _ => ?_) (fun _ => ?_) | with_reducible refine T_g ?_ ?_ ?_ | with_reducible refine T_nz ?_ ?_ | with_reducible refine T_zo ?_ ?_ | with_reducible refine T_ok r_within_e ?_ | with_reducible refine T_ok e_has ?_ | with_reducible refine T_ok e_strike ?_ | with_reducible refine T_ok e_bhas ?_ | with_reducible refine T_ok e_hhas ?_ | with_reducible refine T_ok e_isIn ?_ | with_reducible refine T_ok e_cells ?_ | with_reducible refine T_ok e_rcells ?_ | with_reducible refine T_ok e_found ?_ | with_reducible refine T_ok e_bisShelf ?_ | with_reducible refine T_ok e_risShelf ?_ | with_reducible refine T_ok e_bhasB ?_ | with_reducible refine T_ok e_isKind ?_ | with_reducible refine T_cg ?_ ?_ ?_ ?_ ?_ ?_ | ((with_reducible refine T_ok (e_risBody ?_) ?_); (· exact hw)) | with_reducible refine T_ok held_b ?_ | with_reducible refine T_ok held_r ?_ | with_reducible refine T_ok (hold_e ?_ ?_ ?_ ?_) ?_ | with_reducible refine T_ok (rowL_e ?_ ?_) ?_ | ((with_reducible refine T_ok (e_isNc ?_) ?_); (· exact hc)) | ((with_reducible refine T_ok (e_isCell ?_) ?_); (· exact hc)) | ((with_reducible refine T_ok (e_isBell ?_) ?_); (· exact hb)))
  all_goals try simp only [m_wI, m_wI2, rwL_1, rw_2, rw_ap, Nat.reduceEqDiff, false_and, and_false, if_false, reduceIte, and_self, true_and, and_true, not_true_eq_false, not_false_eq_true] at *
  all_goals try simp only [bo_0, bo_1] at *
  all_goals try simp only [a_lt, a_le, a_eq, a_l, a_llt, a_lgt, a_leqc, Int32.toInt_zero, Int64.toInt_zero, Int32.toInt_one, Int32.reduceToInt, Int64.reduceToInt] at *
  all_goals first | omega | exact ⟨rfl, hi⟩ | exact ⟨trivial, hi⟩ | exact hi | skip
  have e50 : (50 + b).toInt = 50 + b.toInt := by rw [a_add] <;> simp only [Int32.reduceToInt] <;> omega
  refine ⟨hLa, hMa, hBe, hFo, hTa, hLw, hHe, hIm, hCh, hVi, hBo, hRa, ?_⟩
  exact row_sh hSh (by omega) (by omega)
theorem l_m1 : (-1 : Int32).toInt = -1 := rfl
theorem l_5 : (5 : Int32).toInt = 5 := rfl
theorem l_6 : (6 : Int32).toInt = 6 := rfl
theorem l_50 : (50 : Int32).toInt = 50 := rfl
theorem refus {M : I_M} (hSh : N_shelf (M.1 42) (M.1 43) (M.1 44) (M.1 70) (M.1 71) (M.2 45) (M.2 72) (M.1 50 46).toInt) (hw : (M.1 50 46).toInt ≤ 50) : ∃ w, b_refusal a b M = some (w, M) ∧ (∀ M' : I_M, M'.1 = M.1 → r_refusal a b M' = some (w, M')) ∧ (w = 0 → 0 ≤ a.toInt ∧ a.toInt < 6 ∧ 0 ≤ b.toInt ∧ b.toInt < (M.1 71 (Int32.toNatClampNeg a)).toInt ∧ (M.1 71 (Int32.toNatClampNeg a)).toInt ≤ 60 ∧ 0 ≤ (M.1 42 (Int32.toNatClampNeg a)).toInt ∧ (M.1 42 (Int32.toNatClampNeg a)).toInt ≤ 4 ∧ (M.1 70 (Int32.toNatClampNeg a)).toInt = 50 + (M.1 42 (Int32.toNatClampNeg a)).toInt) := by
  unfold b_refusal r_refusal b_Shelves_hasPlace
  have l0 := Int32.toInt_zero
  have l1 := l_m1
  have l5 := l_5
  have l50 := l_50
  by_cases ha : 0 ≤ a.toInt ∧ a.toInt < 6
  · have f := shel_f hSh hw ha.1 ha.2
    generalize hA : Int32.toNatClampNeg a = A at *
    simp only [e_bisShelf, e_risShelf, Option.bind_some, bo_p ha, g_ok ha.1 (show a.toInt < (6 : Nat) by omega)]
    rcases f with ⟨f1, f2, f3, g | g | g⟩
    · refine ⟨-11, ?_, fun M' hM => ?_, fun h => absurd h (by decide)⟩
      · rw [if_neg (by decide), if_pos (by rw [a_eq]; omega)]
      · rw [hM, if_neg (by decide), if_pos (by rw [a_lt]; omega)]
    · refine ⟨-12, ?_, fun M' hM => ?_, fun h => absurd h (by decide)⟩
      · rw [if_neg (by decide), if_neg (by rw [a_eq]; omega), if_pos (by rw [a_eq]; omega)]
      · rw [hM, if_neg (by decide), if_neg (by rw [a_lt]; omega), if_pos (by rw [a_lt]; omega)]
    · by_cases hb : 0 ≤ b.toInt ∧ b.toInt < (M.1 71 A).toInt
      · refine ⟨0, ?_, fun M' hM => ?_, fun _ => ⟨ha.1, ha.2, hb.1, hb.2, f3, g⟩⟩
        · rw [if_neg (by decide), if_neg (by rw [a_eq]; omega), if_neg (by rw [a_eq]; omega), if_neg (by rw [a_lt]; omega), if_pos (by rw [a_lt]; omega)]
          rfl
        · rw [hM, if_neg (by decide), if_neg (by rw [a_lt]; omega), if_neg (by rw [a_lt]; omega), if_neg (by rw [a_lt]; omega), if_pos (by rw [a_lt]; omega)]
      · refine ⟨-13, ?_, fun M' hM => ?_, fun h => absurd h (by decide)⟩
        · rw [if_neg (by decide), if_neg (by rw [a_eq]; omega), if_neg (by rw [a_eq]; omega)]
          by_cases hb0 : b.toInt < 0
          · rw [if_pos (by rw [a_lt]; omega)]
            rfl
          · rw [if_neg (by rw [a_lt]; omega), if_neg (by rw [a_lt]; omega)]
            rfl
        · rw [hM, if_neg (by decide), if_neg (by rw [a_lt]; omega), if_neg (by rw [a_lt]; omega)]
          by_cases hb0 : b.toInt < 0
          · rw [if_pos (by rw [a_lt]; omega)]
          · rw [if_neg (by rw [a_lt]; omega), if_neg (by rw [a_lt]; omega)]
  · refine ⟨-1, ?_, fun M' hM => ?_, fun h => absurd h (by decide)⟩
    · simp only [e_bisShelf, Option.bind_some, bo_n ha, if_true]
    · simp only [e_risShelf, Option.bind_some, bo_n ha, if_true]
theorem op_element : OP L (b_element a b) (r_element a b) := by
  intro M h
  have hi := h
  obtain ⟨hLa, hMa, hBe, hFo, hTa, hLw, hHe, hIm, hCh, hVi, hBo, hRa, hSh⟩ := h
  have hw2 := hBo.2.2.1
  obtain ⟨w, h1, h2, h3⟩ := refus (a := a) (b := b) hSh hw2
  unfold b_element r_element b_Shelves_get
  rw [h1]
  dsimp only [Option.bind_some]
  have h2 := h2 M rfl
  by_cases hz : w = 0
  · obtain ⟨a1, a2, b1, b2, b3, s1, s2, s3⟩ := h3 hz
    have k := a_60p a1 a2 (b := b) (by omega) (by omega)
    rw [if_pos hz, g_ok (by omega) (by omega)]
    refine T_some ?_
    dsimp only
    rw [h2]
    dsimp only [Option.bind_some]
    rw [if_pos hz]
    refine T_g (by omega) (by omega) (T_some ⟨?_, hi⟩)
    have e := ((hSh a.toInt.toNat (by omega)).2.2.2.1 b.toInt.toNat (by rw [a_n] at b2; omega)).1
    show M.2 72 (Int32.toNatClampNeg (60 * a + b)) = M.2 45 (Int32.toNatClampNeg (a * 60 + b))
    rw [a_n, a_n, k.1, k.2, show (60 * a.toInt + b.toInt).toNat = 60 * a.toInt.toNat + b.toInt.toNat by omega]
    exact e.symm
  · rw [if_neg hz]
    refine T_some ?_
    dsimp only
    rw [h2]
    dsimp only [Option.bind_some]
    rw [if_neg hz]
    exact T_some ⟨rfl, hi⟩
theorem op_put {v : Int64} : OP L (b_put a b v) (r_put a b v) := by
  intro M h
  have hi := h
  obtain ⟨hLa, hMa, hBe, hFo, hTa, hLw, hHe, hIm, hCh, hVi, hBo, hRa, hSh⟩ := h
  have hw2 := hBo.2.2.1
  obtain ⟨w, h1, h2, h3⟩ := refus (a := a) (b := b) hSh hw2
  unfold b_put r_put b_Shelves_set
  rw [h1]
  dsimp only [Option.bind_some]
  by_cases hz : w = 0
  · subst hz
    obtain ⟨a1, a2, b1, b2, b3, s1, s2, s3⟩ := h3 rfl
    have k := a_60p a1 a2 (b := b) (by omega) (by omega)
    rw [if_pos rfl, g_ok (by omega) (by omega), held_b]
    dsimp only [Option.bind_some]
    rw [g_ok (by omega) (by omega)]
    refine T_some ?_
    dsimp only
    rw [h2 (i_wL M 45 (Int32.toNatClampNeg (a * 60 + b)) (i_held (M.1 42 (Int32.toNatClampNeg a)) v)) rfl]
    dsimp only [Option.bind_some]
    rw [if_pos rfl]
    refine T_g (by omega) (by omega) ?_
    rw [held_r]
    dsimp only [Option.bind_some]
    refine T_g (by omega) (by omega) ?_
    rw [if_pos rfl]
    have es : M.1 70 (Int32.toNatClampNeg a) - 50 = M.1 42 (Int32.toNatClampNeg a) := by
      rw [a_eq, a_sub] <;> rw [l_50] <;> omega
    refine T_some ⟨rfl, hLa, hMa, hBe, hFo, hTa, hLw, hHe, hIm, hCh, hVi, hBo, hRa, ?_⟩
    have k1 : Int32.toNatClampNeg (60 * a + b) = 60 * Int32.toNatClampNeg a + Int32.toNatClampNeg b := by rw [a_n, a_n, a_n, k.1]; omega
    have k2 : Int32.toNatClampNeg (a * 60 + b) = 60 * Int32.toNatClampNeg a + Int32.toNatClampNeg b := by rw [a_n, a_n, a_n, k.2]; omega
    rw [rwL_w, rwL_w, k1, k2]
    show N_shelf (M.1 42) (M.1 43) (M.1 44) (M.1 70) (M.1 71) (fun j => if j = 60 * Int32.toNatClampNeg a + Int32.toNatClampNeg b then i_held (M.1 42 (Int32.toNatClampNeg a)) v else M.2 45 j) (fun j => if j = 60 * Int32.toNatClampNeg a + Int32.toNatClampNeg b then i_held (M.1 70 (Int32.toNatClampNeg a) - 50) v else M.2 72 j) (M.1 50 46).toInt
    rw [es]
    have nb : Int32.toNatClampNeg b < 60 := by rw [a_n]; omega
    refine N_shelf_set hSh (d := Int32.toNatClampNeg a) (fun e he q => ⟨rfl, rfl, rfl, rfl, rfl, fun k hk => ⟨if_neg (by omega), if_neg (by omega)⟩⟩) ?_
    obtain ⟨f1, f2, f3, f4, f5⟩ := hSh (Int32.toNatClampNeg a) (by rw [a_n]; omega)
    refine ⟨f1, f2, f3, fun k hk => ?_, f5⟩
    dsimp only
    by_cases q : k = Int32.toNatClampNeg b
    · rw [if_pos (by omega), if_pos (by omega)]
      exact ⟨rfl, held_0⟩
    · rw [if_neg (by omega), if_neg (by omega)]
      exact f4 k hk
  · rw [if_neg hz]
    refine T_some ?_
    dsimp only
    rw [h2 M rfl]
    dsimp only [Option.bind_some]
    rw [if_neg hz, if_neg hz]
    exact T_some ⟨rfl, hi⟩
end OPS
