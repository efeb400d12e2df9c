/-! ===== part 69: shows ===== -/
theorem bv_rg {M : I_M} {b : Nat} {n s l : Int32} : 0 ≤ (h_bv M b n s l).toInt ∧ (h_bv M b n s l).toInt ≤ 99 := by
  unfold h_bv h_loud
  split
  · have h := h_cl_rg (x := h_raw (M.1 50 17) (M.1 59) (M.1 51 56) (M.1 51 57) (h_far (M.1 50 7) s (M.1 55 b)) (h_far (M.1 50 7) (M.1 55 b) l) (i_abs (n - M.1 56 b)) (M.1 51 (50 + b)) (M.1 51 (Int32.toNatClampNeg (M.1 55 b))))
    have l2 : (2 : Int32).toInt = 2 := rfl
    rw [a_div h.1 (by omega), l2]
    omega
  · exact h_cl_rg
theorem hd_rg {M : I_M} {l : Int32} (h : 0 ≤ l.toInt) : 0 ≤ (h_hd M l).toInt ∧ (h_hd M l).toInt ≤ 99 := by
  have l99 : (99 : Int32).toInt = 99 := rfl
  unfold h_hd
  split
  · exact ⟨by decide, by decide⟩
  · rw [min_e, l99]
    omega
/-- does bell a show bell b? -/
def s_v (M : I_M) (a b : Nat) : Int32 := h_hd M (h_bv M b (M.1 56 a) (M.1 55 a) (M.1 55 b))
theorem sv_fh {M M' : I_M} (h : fh M M') {a b : Nat} : s_v M' a b = s_v M a b := by
  unfold s_v
  rw [hd_fh h, bv_fh h, fh_row h (q := 55) (fun _ => rfl), fh_row h (q := 56) (fun _ => rfl)]
section SH
variable {M : I_M} {a b : Int32}
theorem shows_b (h : INV L_law M) (ha : 0 ≤ a.toInt) (ha2 : a.toInt < (M.1 50 8).toInt) (hb : 0 ≤ b.toInt) (hb2 : b.toInt < (M.1 50 8).toInt) : T (b_Links_doesShow a b M) (fun r => r.1 = i_bo (s_v M (Int32.toNatClampNeg a) (Int32.toNatClampNeg b) ≠ 0) ∧ fh M r.2) := by
  have hi := h
  obtain ⟨hLa, hMa, hBe, hFo, hTa, hLw, hHe, hIm, hCh, hVi, hBo, hRa, hSh⟩ := h
  have ⟨hc, hc2, hc3⟩ := N_land_ce hLa
  obtain ⟨g1, g2, g3, g4, g5, g6⟩ := hBe
  have na : ((Int32.toNatClampNeg a : Nat) : Int) = a.toInt := by rw [a_n]; omega
  have nb : ((Int32.toNatClampNeg b : Nat) : Int) = b.toInt := by rw [a_n]; omega
  obtain ⟨q1, q2, q3⟩ := g4 (Int32.toNatClampNeg a) (by omega)
  obtain ⟨p1, p2, p3⟩ := g4 (Int32.toNatClampNeg b) (by omega)
  obtain ⟨r1, r2, r3, r4, r5, r6⟩ := g5 (Int32.toNatClampNeg a) (by omega)
  obtain ⟨s1, s2, s3, s4, s5, s6⟩ := g5 (Int32.toNatClampNeg b) (by omega)
  have l100 : (100 : Int32).toInt = 100 := rfl
  have e1 : (100 * M.1 56 (Int32.toNatClampNeg a)).toInt = 100 * (M.1 56 (Int32.toNatClampNeg a)).toInt := by rw [a_mul] <;> rw [l100] <;> omega
  have e2 : (100 * M.1 56 (Int32.toNatClampNeg a) + M.1 55 (Int32.toNatClampNeg a)).toInt = 100 * (M.1 56 (Int32.toNatClampNeg a)).toInt + (M.1 55 (Int32.toNatClampNeg a)).toInt := by rw [a_add] <;> omega
  unfold b_Links_doesShow
  rw [g_ok ha (by omega), q1, q2]
  refine T_let ?_
  obtain ⟨nc, hnc⟩ : ∃ nc, nc = 100 * M.1 56 (Int32.toNatClampNeg a) + M.1 55 (Int32.toNatClampNeg a) := ⟨_, rfl⟩
  rw [← hnc] at e2 ⊢
  obtain ⟨d1, d2⟩ := nc_rg (nc := nc) (by omega) (by omega)
  have en : nc / 100 = M.1 56 (Int32.toNatClampNeg a) := by rw [a_eq]; omega
  have ec : i_rem nc 100 = M.1 55 (Int32.toNatClampNeg a) := by rw [a_eq]; omega
  rw [g_ok hb (by omega), p1]
  refine T_bind (T_mono (hum_b hi hb hb2 (by omega) (by omega) (by omega) s1 s2) (fun q hq => ?_))
  rw [hd_b (fh_inv hi hq.2)]
  dsimp only [Option.bind_some]
  have ev : h_hd q.2 q.1 = s_v M (Int32.toNatClampNeg a) (Int32.toNatClampNeg b) := by
    rw [hd_fh hq.2, hq.1, en, ec]
    rfl
  rw [ev]
  by_cases z : s_v M (Int32.toNatClampNeg a) (Int32.toNatClampNeg b) = 0
  · rw [if_pos z]
    exact T_some ⟨(bo_n (fun h => h z)).symm, hq.2⟩
  · rw [if_neg z]
    exact T_some ⟨(bo_p z).symm, hq.2⟩
theorem shows_r (h : INV L_law M) (ha : 0 ≤ a.toInt) (ha2 : a.toInt < (M.1 50 8).toInt) (hb : 0 ≤ b.toInt) (hb2 : b.toInt < (M.1 50 8).toInt) : T (r_doesShow a b M) (fun r => r.1 = i_bo (a ≠ b ∧ s_v M (Int32.toNatClampNeg a) (Int32.toNatClampNeg b) ≠ 0) ∧ fh M r.2) := by
  have hi := h
  obtain ⟨hLa, hMa, hBe, hFo, hTa, hLw, hHe, hIm, hCh, hVi, hBo, hRa, hSh⟩ := h
  obtain ⟨g1, g2, g3, g4, g5, g6⟩ := hBe
  have na : ((Int32.toNatClampNeg a : Nat) : Int) = a.toInt := by rw [a_n]; omega
  have nb : ((Int32.toNatClampNeg b : Nat) : Int) = b.toInt := by rw [a_n]; omega
  obtain ⟨r1, r2, r3, r4, r5, r6⟩ := g5 (Int32.toNatClampNeg a) (by omega)
  obtain ⟨s1, s2, s3, s4, s5, s6⟩ := g5 (Int32.toNatClampNeg b) (by omega)
  unfold r_doesShow
  by_cases q : a = b
  · rw [if_pos q]
    exact T_some ⟨(bo_n (fun h => h.1 q)).symm, fh_refl⟩
  rw [if_neg q, g_ok ha (by omega), g_ok hb (by omega)]
  refine T_bind (T_mono (hum_rb hi hb hb2 r3 r4 r1 r2 s1 s2) (fun w hw => ?_))
  rw [hd_r]
  dsimp only [Option.bind_some]
  have ev : h_hd w.2 w.1 = s_v M (Int32.toNatClampNeg a) (Int32.toNatClampNeg b) := by
    rw [hd_fh hw.2, hw.1]
    rfl
  have rg : 0 ≤ (s_v M (Int32.toNatClampNeg a) (Int32.toNatClampNeg b)).toInt := (hd_rg bv_rg.1).1
  rw [ev]
  by_cases z : s_v M (Int32.toNatClampNeg a) (Int32.toNatClampNeg b) = 0
  · rw [if_neg (by rw [z]; decide)]
    exact T_some ⟨(bo_n (fun h => h.2 z)).symm, hw.2⟩
  · have : ¬ (s_v M (Int32.toNatClampNeg a) (Int32.toNatClampNeg b)).toInt = 0 := fun h => z (a_eq.mpr h)
    rw [if_pos (by rw [a_lt, Int32.toInt_zero]; omega)]
    exact T_some ⟨(bo_p ⟨q, z⟩).symm, hw.2⟩
end SH
section OPS
variable {a : Int32}
theorem op_shows : OP L_law (b_shows a) (r_shows a) := by
  intro M h
  have hi := h
  obtain ⟨hLa, hMa, hBe, hFo, hTa, hLw, hHe, hIm, hCh, hVi, hBo, hRa, hSh⟩ := h
  have hb0 := hBe.2.1
  have hb6 := hBe.2.2.1
  have e13 : (M.1 13 6).toInt = (M.1 50 8).toInt := congrArg Int32.toInt hBe.1
  have l0 := Int32.toInt_zero
  have FIN : ∀ (v : Int32), r_shows a M = some (v, M) → T (some (v, M)) (fun r => T (r_shows a r.2) (fun s => s.1 = r.1 ∧ INV L_law s.2)) := by
    intro v hv
    refine T_some ?_
    dsimp only
    rw [hv]
    exact T_some ⟨rfl, hi⟩
  unfold b_shows
  by_cases p0 : a.toInt < 0
  · rw [if_pos (by rw [a_lt]; omega)]
    refine FIN _ ?_
    unfold r_shows
    rw [if_pos (by rw [a_lt]; omega)]
  have R0 : ∀ M' : I_M, M'.1 50 8 = M.1 50 8 → r_shows a M' = (if i_bo (0 ≤ (a / 10).toInt ∧ (a / 10).toInt < (M.1 50 8).toInt) = 0 then some ((-1 : Int32), M') else (if i_bo (0 ≤ (i_rem a 10).toInt ∧ (i_rem a 10).toInt < (M.1 50 8).toInt) = 0 then some ((-1 : Int32), M') else (if (a / (10 : Int32)) = (i_rem a (10 : Int32)) then some ((-1 : Int32), M') else Option.bind (r_doesShow (a / (10 : Int32)) (i_rem a (10 : Int32)) M') (fun q7 => (if q7.1 = (0 : Int32) then some ((0 : Int32), q7.2) else some ((1 : Int32), q7.2)))))) := by
    intro M' h8
    unfold r_shows
    have hq : 0 ≤ (M'.1 50 8).toInt := by rw [h8]; exact hb0
    rw [if_neg (by rw [a_lt]; omega)]
    simp only [e_isBell hq, Option.bind_some, h8]
  have RM := R0 M rfl
  rw [if_neg (by rw [a_lt]; omega), e_bhas, e13]
  dsimp only [Option.bind_some]
  by_cases p1 : 0 ≤ (a / 10).toInt ∧ (a / 10).toInt < (M.1 50 8).toInt
  · rw [bo_p p1, if_neg (by decide)] at RM
    rw [bo_p p1, if_neg (by decide), e_bhas, e13]
    dsimp only [Option.bind_some]
    by_cases p2 : 0 ≤ (i_rem a 10).toInt ∧ (i_rem a 10).toInt < (M.1 50 8).toInt
    · rw [bo_p p2, if_neg (by decide)] at RM
      rw [bo_p p2, if_neg (by decide)]
      by_cases p3 : a / 10 = i_rem a 10
      · rw [if_pos p3] at RM ⊢
        exact FIN _ RM
      · rw [if_neg p3]
        refine T_bind (T_mono (shows_b hi p1.1 p1.2 p2.1 p2.2) (fun q hq => ?_))
        have e8 := hq.2.2 50 8 rfl
        have RR : ∀ v : Int32, v = i_bo (s_v M (Int32.toNatClampNeg (a / 10)) (Int32.toNatClampNeg (i_rem a 10)) ≠ 0) → T (r_shows a q.2) (fun s => s.1 = v ∧ INV L_law s.2) := by
          intro v hv
          rw [R0 q.2 e8, bo_p p1, if_neg (by decide), bo_p p2, if_neg (by decide), if_neg p3]
          refine T_bind (T_mono (shows_r (fh_inv hi hq.2) p1.1 (by rw [e8]; exact p1.2) p2.1 (by rw [e8]; exact p2.2)) (fun w hw => ?_))
          rw [hw.1, sv_fh hq.2]
          by_cases z : s_v M (Int32.toNatClampNeg (a / 10)) (Int32.toNatClampNeg (i_rem a 10)) ≠ 0
          · rw [bo_p ⟨p3, z⟩, if_neg (by decide)]
            rw [bo_p z] at hv
            exact T_some ⟨hv.symm, fh_inv hi (fh_trans hq.2 hw.2)⟩
          · rw [bo_n (fun h => z h.2), if_pos rfl]
            rw [bo_n z] at hv
            exact T_some ⟨hv.symm, fh_inv hi (fh_trans hq.2 hw.2)⟩
        by_cases z : q.1 = 0
        · rw [if_pos z]
          exact T_some (RR 0 (z.symm.trans hq.1))
        · rw [if_neg z]
          refine T_some (RR 1 ?_)
          by_cases y : s_v M (Int32.toNatClampNeg (a / 10)) (Int32.toNatClampNeg (i_rem a 10)) ≠ 0
          · exact (bo_p y).symm
          · rw [bo_n y] at hq
            exact absurd hq.1 z
    · rw [bo_n p2, if_pos rfl] at RM
      rw [bo_n p2, if_pos rfl]
      exact FIN _ RM
  · rw [bo_n p1, if_pos rfl] at RM
    rw [bo_n p1, if_pos rfl]
    exact FIN _ RM
end OPS
