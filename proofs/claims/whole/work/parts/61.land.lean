/-! ===== part 61: land ===== -/
theorem fill4_e {M : I_M} {v : Int32} : j_fillI_4 v M = some (i_rw M 4 (fun j => if j < 25 then v else M.1 4 j)) := by
  have l25 : (25 : Int32).toInt = 25 := rfl
  unfold j_fillI_4
  refine T_eq (T_for (N := 25) (a := 0) (f := j_fillI_4_L5 v 25) (fun k M' => M' = i_rw M 4 (fun j => if j < k then v else M.1 4 j)) (by omega) ?_ ?_ (by unfold i_F; omega) (by omega) rfl ?_)
  · intro n k i M' h4 h50 h5 h6 h7
    subst h6
    unfold j_fillI_4_L5
    rw [if_pos (by rw [a_lt]; omega)]
    refine T_g (by omega) (by omega) (h7 _ ?_)
    rw [rw_w, rw_rw, rw_s, a_k h4]
    congr 1
    funext j
    unfold upd
    by_cases q : j = k
    · rw [if_pos q, if_pos (by omega)]
    · rw [if_neg q]
      dsimp only
      by_cases q2 : j < k
      · rw [if_pos q2, if_pos (by omega)]
      · rw [if_neg q2, if_neg (by omega)]
  · intro n i M' h4 h5
    unfold j_fillI_4_L5
    rw [if_neg (by rw [a_lt]; omega)]
    exact T_some h5
  · rw [show (fun j => if j < 0 then v else M.1 4 j) = M.1 4 from funext fun j => if_neg (by omega), rw_id]
theorem fill5_e {M : I_M} {v : Int32} : j_fillI_5 v M = some (i_rw M 5 (fun j => if j < 25 then v else M.1 5 j)) := by
  have l25 : (25 : Int32).toInt = 25 := rfl
  unfold j_fillI_5
  refine T_eq (T_for (N := 25) (a := 0) (f := j_fillI_5_L5 v 25) (fun k M' => M' = i_rw M 5 (fun j => if j < k then v else M.1 5 j)) (by omega) ?_ ?_ (by unfold i_F; omega) (by omega) rfl ?_)
  · intro n k i M' h4 h50 h5 h6 h7
    subst h6
    unfold j_fillI_5_L5
    rw [if_pos (by rw [a_lt]; omega)]
    refine T_g (by omega) (by omega) (h7 _ ?_)
    rw [rw_w, rw_rw, rw_s, a_k h4]
    congr 1
    funext j
    unfold upd
    by_cases q : j = k
    · rw [if_pos q, if_pos (by omega)]
    · rw [if_neg q]
      dsimp only
      by_cases q2 : j < k
      · rw [if_pos q2, if_pos (by omega)]
      · rw [if_neg q2, if_neg (by omega)]
  · intro n i M' h4 h5
    unfold j_fillI_5_L5
    rw [if_neg (by rw [a_lt]; omega)]
    exact T_some h5
  · rw [show (fun j => if j < 0 then v else M.1 5 j) = M.1 5 from funext fun j => if_neg (by omega), rw_id]
theorem lays_e {M : I_M} : r_laysLand M = some (i_rw M 51 (fun j => if j < 25 then 3 else if j < 50 then 10 else M.1 51 j)) := by
  have l25 : (25 : Int32).toInt = 25 := rfl
  unfold r_laysLand
  refine T_eq (T_for (N := 25) (a := 0) (f := r_laysLand_L2) (fun k M' => M' = i_rw M 51 (fun j => if j < k then 3 else if 25 ≤ j ∧ j < 25 + k then 10 else M.1 51 j)) (by omega) ?_ ?_ (by unfold i_F; omega) (by omega) rfl ?_)
  · intro n k i M' h4 h50 h5 h6 h7
    subst h6
    have k1 : (25 + i).toInt = 25 + i.toInt := by rw [a_add] <;> omega
    have k2 : Int32.toNatClampNeg (25 + i) = 25 + k := a_k (by omega)
    unfold r_laysLand_L2
    rw [if_pos (by rw [a_lt]; omega)]
    refine T_g (by omega) (by omega) (T_g (by omega) (by omega) (h7 _ ?_))
    rw [rw_w, rw_w, rw_rw, rw_rw, rw_s, rw_s, a_k h4, k2]
    congr 1
    funext j
    unfold upd
    by_cases q : j = 25 + k
    · rw [if_pos q, if_neg (by omega), if_pos (by omega)]
    · rw [if_neg q]
      by_cases q1 : j = k
      · rw [if_pos q1, if_pos (by omega)]
      · rw [if_neg q1]
        dsimp only
        by_cases q2 : j < k
        · rw [if_pos q2, if_pos (by omega)]
        · rw [if_neg q2, if_neg (show ¬ j < k + 1 by omega)]
          by_cases q3 : 25 ≤ j ∧ j < 25 + k
          · rw [if_pos q3, if_pos (by omega)]
          · rw [if_neg q3, if_neg (by omega)]
  · intro n i M' h4 h5
    unfold r_laysLand_L2
    rw [if_neg (by rw [a_lt]; omega)]
    refine T_some ?_
    rw [h5]
    congr 1
    funext j
    by_cases q : j < 25
    · rw [if_pos q, if_pos q]
    · rw [if_neg q, if_neg q]
      by_cases q2 : j < 50
      · rw [if_pos q2, if_pos (by omega)]
      · rw [if_neg q2, if_neg (by omega)]
  · rw [show (fun j => if j < 0 then 3 else if 25 ≤ j ∧ j < 25 + 0 then 10 else M.1 51 j) = M.1 51 from funext fun j => by rw [if_neg (by omega), if_neg (by omega)], rw_id]
/-- rows and columns of the first m cells are told -/
def l_rc (M0 : I_M) (C m : Nat) (M' : I_M) : Prop := ∃ f g : Nat → Int32, M' = i_rw (i_rw M0 2 f) 3 g ∧ ∀ j, j < m → (f j).toInt = ((j / C : Nat) : Int) ∧ (g j).toInt = ((j % C : Nat) : Int)
section LAY
variable {M0 : I_M} {C R : Nat}
theorem lay_in (hC : (M0.1 1 1).toInt = C) (h1 : 1 ≤ C) (h5 : C ≤ 5) {r : Nat} (hr : r < 5) {l3 l4 : Int32} {M : I_M} {k61 : Int32 → I_M → Option I_M} {P : I_M → Prop} (hl4 : l4.toInt = r) (hl3 : l3.toInt = ((r * C : Nat) : Int)) (h25 : r * C + C ≤ 25) (hM : l_rc M0 C (r * C) M)
    (hk : ∀ (u : Int32) M', u.toInt = ((r * C + C : Nat) : Int) → l_rc M0 C (r * C + C) M' → T (k61 u M') P) : T (b_Land_lay_L27 l4 k61 i_F l3 0 M) P := by
  obtain ⟨p, hp⟩ : ∃ p, p = r * C := ⟨_, rfl⟩
  rw [← hp] at hl3 h25 hM hk
  refine T_for (σ := Int32 × I_M) (N := C) (a := 0) (f := fun m i s => b_Land_lay_L27 l4 k61 m s.1 i s.2) (s := (l3, M)) (fun k s => s.1.toInt = ((p + k : Nat) : Int) ∧ l_rc M0 C (p + k) s.2) (by omega) ?_ ?_ (by unfold i_F; omega) (by omega) rfl ⟨hl3, hM⟩
  · intro m k i s g1 g2 g3 g4 g5
    obtain ⟨u, N⟩ := s
    obtain ⟨e1, f, g, rfl, e2⟩ := g4
    dsimp only at e1 ⊢
    unfold b_Land_lay_L27
    rw [show (i_rw (i_rw M0 2 f) 3 g).1 1 1 = M0.1 1 1 from rfl, if_pos (by rw [a_lt]; omega)]
    refine T_g (by omega) (by omega) (g5 (u + 1, _) ⟨?_, upd f (p + k) l4, upd g (p + k) i, ?_, fun j hj => ?_⟩)
    · show (u + 1).toInt = _
      rw [a_a1 (by omega)]
      omega
    · show i_wI (i_wI (i_rw (i_rw M0 2 f) 3 g) 2 (Int32.toNatClampNeg u) l4) 3 (Int32.toNatClampNeg u) i = _
      rw [a_k (n := p + k) (by omega), rw_w, rw_w, rw_cm (q := 3) (q' := 2) (by decide), rw_rw, rw_n (by decide), rw_s, rw_cm (q := 2) (q' := 3) (by decide), rw_rw, rw_s]
      rw [rw_cm (q := 3) (q' := 2) (by decide), rw_rw]
    · have hdm : (p + k) / C = r ∧ (p + k) % C = k := by
        rw [hp, Nat.add_comm, Nat.add_mul_div_right _ _ (by omega), Nat.add_mul_mod_self_right, Nat.div_eq_of_lt g3, Nat.mod_eq_of_lt g3, Nat.zero_add]
        exact ⟨rfl, rfl⟩
      by_cases q : j = p + k
      · rw [q, upd_s, upd_s, hdm.1, hdm.2]
        exact ⟨hl4, g1⟩
      · rw [upd_n q, upd_n q]
        exact e2 j (by omega)
  · intro m i s g1 g2
    obtain ⟨u, N⟩ := s
    obtain ⟨e1, f, g, rfl, e2⟩ := g2
    dsimp only at e1 ⊢
    unfold b_Land_lay_L27
    rw [show (i_rw (i_rw M0 2 f) 3 g).1 1 1 = M0.1 1 1 from rfl, if_neg (by rw [a_lt]; omega)]
    exact hk u _ e1 ⟨f, g, rfl, e2⟩
theorem lay_out (hC : (M0.1 1 1).toInt = C) (h1 : 1 ≤ C) (h5 : C ≤ 5) (hR : (M0.1 1 0).toInt = R) (hR5 : R ≤ 5) {k67 : I_M → Option I_M} {P : I_M → Prop} (hk : ∀ M', l_rc M0 C (R * C) M' → T (k67 M') P) : T (b_Land_lay_L15 k67 i_F 0 0 M0) P := by
  refine T_for (σ := Int32 × I_M) (N := R) (a := 0) (f := fun m i s => b_Land_lay_L15 k67 m s.1 i s.2) (s := (0, M0)) (fun k s => s.1.toInt = ((k * C : Nat) : Int) ∧ l_rc M0 C (k * C) s.2) (by omega) ?_ ?_ (by unfold i_F; omega) (by omega) rfl ⟨by simp, M0.1 2, M0.1 3, by rw [rw_id]; exact rw_id.symm, fun j hj => absurd hj (by omega)⟩
  · intro m k i s g1 g2 g3 g4 g5
    obtain ⟨u, N⟩ := s
    obtain ⟨e1, e2⟩ := g4
    dsimp only at e1 e2 ⊢
    have hN : N.1 1 0 = M0.1 1 0 := by obtain ⟨f, g, rfl, _⟩ := e2; rfl
    have hkC : k * C + C ≤ 25 := by
      have : (k + 1) * C ≤ 5 * 5 := Nat.mul_le_mul (by omega) h5
      rw [Nat.succ_mul] at this
      exact this
    unfold b_Land_lay_L15
    rw [hN, if_pos (by rw [a_lt]; omega)]
    refine lay_in hC h1 h5 (r := k) (by omega) g1 e1 hkC e2 (fun v M' hv hM => ?_)
    refine g5 (v, M') ?_
    dsimp only
    rw [Nat.succ_mul]
    exact ⟨hv, hM⟩
  · intro m i s g1 g2
    obtain ⟨u, N⟩ := s
    obtain ⟨e1, e2⟩ := g2
    dsimp only at e1 e2 ⊢
    have hN : N.1 1 0 = M0.1 1 0 := by obtain ⟨f, g, rfl, _⟩ := e2; rfl
    unfold b_Land_lay_L15
    rw [hN, if_neg (by rw [a_lt]; omega)]
    exact hk N e2
end LAY
section OPS
variable {a : Int32}
variable {L : Int32 → Int32 → Int32 → (Nat → Int32) → (Nat → Int32) → Prop}
theorem side_e {M : I_M} : b_isSide a M = some (i_bo (1 ≤ a.toInt ∧ a.toInt ≤ 5), M) := by
  unfold b_isSide
  have l1 : (1 : Int32).toInt = 1 := rfl
  have l5 := l_5
  by_cases h1 : a.toInt < 1
  · rw [if_pos (by rw [a_lt]; omega), bo_n (by omega)]
  rw [if_neg (by rw [a_lt]; omega)]
  by_cases h2 : 5 < a.toInt
  · rw [if_pos (by rw [a_lt]; omega), bo_n (by omega)]
  · rw [if_neg (by rw [a_lt]; omega), bo_p (by omega)]
theorem op_land : OP L (b_land a) (r_land a) := by
  intro M h
  have hi := h
  obtain ⟨hLa, hMa, hBe, hFo, hTa, hLw, hHe, hIm, hCh, hVi, hBo, hRa, hSh⟩ := h
  have l0 := Int32.toInt_zero
  have L1 : (1 : Int64).toInt = 1 := rfl
  have L5 : (5 : Int64).toInt = 5 := rfl
  unfold b_land
  have FIN : ∀ (v : Int32), r_land a M = some (v, M) → T (some (v, M)) (fun r => T (r_land a r.2) (fun s => s.1 = r.1 ∧ INV L s.2)) := by
    intro v hv
    refine T_some ?_
    dsimp only
    rw [hv]
    exact T_some ⟨rfl, hi⟩
  by_cases ha : a.toInt < 0
  · rw [if_pos (by rw [a_lt]; omega)]
    refine FIN _ ?_
    unfold r_land
    rw [if_pos (by rw [a_lt]; omega)]
  have R0 : ∀ M' : I_M, r_land a M' = (if i_bo (1 ≤ (a / 10).toInt ∧ (a / 10).toInt ≤ 5) = 0 then some ((-1 : Int32), M') else (if i_bo (1 ≤ (i_rem a 10).toInt ∧ (i_rem a 10).toInt ≤ 5) = 0 then some ((-1 : Int32), M') else (if (0 : Int32) < (M'.1 50 8) then some ((-5 : Int32), M') else Option.bind (r_laysLand (i_wI (i_wI M' 50 6 (a / (10 : Int32))) 50 7 (i_rem a (10 : Int32)))) (fun q7 => some ((((10 : Int32) * (M'.1 50 6)) + (M'.1 50 7)), (i_wI (i_wI (i_wI (i_wI q7 50 24 (0 : Int32)) 50 5 (0 : Int32)) 50 4 (0 : Int32)) 50 41 (0 : Int32))))))) := by
    intro M'
    unfold r_land
    rw [if_neg (by rw [a_lt]; omega)]
    simp only [r_within_e, a_l, L1, L5, Option.bind_some]
  rw [if_neg (by rw [a_lt]; omega), side_e]
  dsimp only [Option.bind_some]
  have RM := R0 M
  by_cases p1 : 1 ≤ (a / 10).toInt ∧ (a / 10).toInt ≤ 5
  · rw [bo_p p1, if_neg (by decide)] at RM
    rw [bo_p p1, if_neg (by decide), side_e]
    dsimp only [Option.bind_some]
    by_cases p2 : 1 ≤ (i_rem a 10).toInt ∧ (i_rem a 10).toInt ≤ 5
    · rw [bo_p p2, if_neg (by decide)] at RM
      rw [bo_p p2, if_neg (by decide)]
      obtain ⟨g1, g2, g3, g4, g5, g6⟩ := hBe
      rw [g1]
      by_cases p3 : 0 < M.1 50 8
      · rw [if_pos p3] at RM ⊢
        exact FIN _ RM
      · rw [if_neg p3]
        rw [a_lt] at p3
        have n0 : (M.1 50 8).toInt = 0 := by omega
        obtain ⟨R, hR⟩ : ∃ n : Nat, (a / 10).toInt = n := ⟨(a / 10).toInt.toNat, by omega⟩
        obtain ⟨C, hC⟩ : ∃ n : Nat, (i_rem a 10).toInt = n := ⟨(i_rem a 10).toInt.toNat, by omega⟩
        generalize hx : a / 10 = x at *
        generalize hy : i_rem a 10 = y at *
        unfold b_Land_lay b_Hearings_clear_18 b_Changes_clear
        refine T_bind ?_
        refine lay_out (M0 := i_wI (i_wI M 1 0 x) 1 1 y) (C := C) (R := R) hC (by omega) (by omega) hR (by omega) (fun M1 hM1 => ?_)
        rw [fill4_e]
        dsimp only [Option.bind_some]
        rw [fill5_e]
        dsimp only [Option.bind_some]
        refine T_some (T_some ?_)
        obtain ⟨f, g, rfl, hrc⟩ := hM1
        dsimp only
        rw [R0, bo_p p1, if_neg (by decide), bo_p p2, if_neg (by decide)]
        refine T_if (fun q => ?_) (fun _ => ?_)
        · have q : 0 < M.1 50 8 := q
          rw [a_lt] at q
          omega
        rw [lays_e]
        dsimp only [Option.bind_some]
        refine T_some ⟨?_, ?_⟩
        · show 10 * M.1 50 6 + M.1 50 7 = 10 * M.1 1 0 + M.1 1 1
          rw [hLa.1, hLa.2.1]
        have ek : ∀ k : Nat, (k : Int) < i_ce x y → (f k).toInt = k / y.toInt ∧ (g k).toInt = k % y.toInt := by
          intro k hk
          have ce := (i_ce_ok (a := x) (b := y) p1.1 p1.2 p2.1 p2.2).1
          rw [ce, hR, hC] at hk
          have hk2 : k < R * C := by
            have : ((R * C : Nat) : Int) = (R : Int) * (C : Int) := Int.natCast_mul R C
            omega
          have := hrc k hk2
          rw [hC]
          exact ⟨this.1.trans (Int.natCast_ediv k C), this.2.trans (Int.natCast_emod k C)⟩
        have hLa' : N_land x y x y f g := ⟨rfl, rfl, p1.1, p1.2, p2.1, p2.2, ek⟩
        obtain ⟨m1, m2, m3, m4⟩ := hMa
        have hMa' : N_may (fun j => if j < 25 then 3 else M.1 4 j) (fun j => if j < 25 then 10 else M.1 5 j) (M.1 16) (M.1 1 6) (M.1 1 7) (M.1 1 8) (M.1 1 9) (fun j => if j < 25 then 3 else if j < 50 then 10 else M.1 51 j) := by
          refine ⟨fun k hk => ?_, fun k hk => ?_, fun k hk => ?_, m4⟩
          · dsimp only
            rw [if_pos hk, if_pos hk]
            exact ⟨rfl, by decide, by decide⟩
          · dsimp only
            rw [if_pos hk, if_neg (by omega), if_pos (by omega)]
            exact ⟨rfl, by decide, by decide⟩
          · dsimp only
            rw [if_neg (by omega), if_neg (by omega)]
            exact m3 k hk
        have hBe' : N_bell (M.1 13 6) (M.1 50 8) (M.1 14) (M.1 15) (M.1 17) (M.1 55) (M.1 56) (M.1 57) (i_ce x y) := ⟨g1, g2, g3, g4, fun b hb => by omega, fun a b _ hb => by omega⟩
        have hHe' : N_hr 0 0 (M.1 19) (M.1 20) (M.1 21) (M.1 61) (i_ce x y) := ⟨rfl, by decide, by decide, fun h hh => by rw [l0] at hh; omega⟩
        have hIm' : N_img 0 0 (M.1 0 12) (M.1 0 13) (M.1 50 43) (M.1 50 44) (M.1 46 3) (M.1 50 42) (M.1 47) (M.1 48) (M.1 49) (M.1 67) (i_ce x y) := ⟨rfl, Or.inl rfl, fun h => absurd h (by decide)⟩
        have hCh' : N_chg 0 0 0 0 (M.1 32) (M.1 33) (M.1 34) (M.1 35) (M.1 52) (M.1 53) (M.1 54) (i_ce x y) (M.1 50 8).toInt := ⟨rfl, by decide, by decide, by decide, by decide, fun k hk => by rw [l0] at hk; omega⟩
        exact ⟨hLa', hMa', hBe', hFo, hTa, hLw, hHe', hIm', hCh', hVi, hBo, hRa, hSh⟩
    · rw [bo_n p2, if_pos rfl] at RM
      rw [bo_n p2, if_pos rfl]
      exact FIN _ RM
  · rw [bo_n p1, if_pos rfl] at RM
    rw [bo_n p1, if_pos rfl]
    exact FIN _ RM
end OPS
