/-! ===== part 54: hum, heard ===== -/
/-- how loud bell b hums -/
def h_bv (M : I_M) (b : Nat) (note st ls : Int32) : Int32 := if M.1 57 b = 1 then h_loud (M.1 50 17) (M.1 59) (M.1 51 56) (M.1 51 57) (h_far (M.1 50 7) st (M.1 55 b)) (h_far (M.1 50 7) (M.1 55 b) ls) (i_abs (note - M.1 56 b)) (M.1 51 (50 + b)) (M.1 51 (Int32.toNatClampNeg (M.1 55 b))) / 2 else h_loud (M.1 50 17) (M.1 59) (M.1 51 56) (M.1 51 57) (h_far (M.1 50 7) st (M.1 55 b)) (h_far (M.1 50 7) (M.1 55 b) ls) (i_abs (note - M.1 56 b)) (M.1 51 (50 + b)) (M.1 51 (Int32.toNatClampNeg (M.1 55 b)))
def h_fd (fb : Int32) (k : Nat) : Prop := ((fb >>> (Int32.ofNat k &&& 31)) &&& (1 : Int32)) = 1
theorem of_k {i : Int32} {k : Nat} (h : i.toInt = k) : i = Int32.ofNat k := by
  have := a_rg i
  rw [a_eq, a_on (by omega), h]
theorem bv_fh {M M' : I_M} (h : fh M M') {b : Nat} {note st ls : Int32} : h_bv M' b note st ls = h_bv M b note st ls := by
  unfold h_bv
  rw [fh_row h (q := 57) (fun _ => rfl), fh_row h (q := 55) (fun _ => rfl), fh_row h (q := 56) (fun _ => rfl), fh_row h (q := 59) (fun _ => rfl), fh_row h (q := 51) (fun _ => rfl), h.2 50 17 rfl, h.2 50 7 rfl]
theorem nc_rg {nc : Int32} (h : 0 ≤ nc.toInt) (h2 : nc.toInt < 1000) : (nc / 100).toInt = nc.toInt / 100 ∧ (i_rem nc 100).toInt = nc.toInt % 100 := by
  have l : (100 : Int32).toInt = 100 := rfl
  exact ⟨by rw [a_div h (by rw [l]; omega), l], by rw [a_rem h (by rw [l]; omega), l]⟩
section HB
variable {M : I_M} {b nc ls : Int32}
theorem hum_b (h : INV L_law M) (hb : 0 ≤ b.toInt) (hb2 : b.toInt < (M.1 50 8).toInt) (hn : 0 ≤ nc.toInt) (hn2 : nc.toInt < 1000) (hn3 : nc.toInt % 100 < i_ce (M.1 50 6) (M.1 50 7)) (hl : 0 ≤ ls.toInt) (hl2 : ls.toInt < i_ce (M.1 50 6) (M.1 50 7)) : T (b_Buried_humOf b nc ls M) (fun r => r.1 = h_bv M (Int32.toNatClampNeg b) (nc / 100) (i_rem nc 100) ls ∧ fh M r.2) := by
  have hi := HU_inv h
  obtain ⟨hLa, hMa, hBe, hFo, hTa, hLw, hHe, hIm, hCh, hVi, hBo, hRa, hSh⟩ := h
  have ⟨hc, hc2, hc3⟩ := N_land_ce hLa
  obtain ⟨g1, g2, g3, g4, g5, g6⟩ := hBe
  have kb : Int32.toNatClampNeg b = b.toInt.toNat := a_n b
  have hbn : Int32.toNatClampNeg b < 6 := by omega
  obtain ⟨q1, q2, q3⟩ := g4 _ hbn
  obtain ⟨r1, r2, r3, r4, r5, r6⟩ := g5 (Int32.toNatClampNeg b) (by omega)
  have qz := (hMa.2.2.1 _ hbn).1
  obtain ⟨n1, n2⟩ := nc_rg hn hn2
  unfold b_Buried_humOf
  refine T_g hb (by omega) ?_
  rw [q1, far_b hLa (by omega) (by omega) r1 r2]
  dsimp only [Option.bind_some]
  refine T_let ?_
  rw [q2, qz]
  refine T_bind (T_mono (loud_b hi (by rw [q1]; exact r1) (by rw [q1]; exact r2) hl hl2) (fun a ha => ?_))
  have e57 : a.2.1 17 (Int32.toNatClampNeg b) = M.1 57 (Int32.toNatClampNeg b) := by rw [ha.2.2 17 _ rfl, q3]
  rw [e57]
  have ev : a.1 = h_loud (M.1 50 17) (M.1 59) (M.1 51 56) (M.1 51 57) (h_far (M.1 50 7) (i_rem nc 100) (M.1 55 (Int32.toNatClampNeg b))) (h_far (M.1 50 7) (M.1 55 (Int32.toNatClampNeg b)) ls) (i_abs (nc / 100 - M.1 56 (Int32.toNatClampNeg b))) (M.1 51 (50 + Int32.toNatClampNeg b)) (M.1 51 (Int32.toNatClampNeg (M.1 55 (Int32.toNatClampNeg b)))) := by rw [ha.1, q1]
  unfold h_bv
  have l1 : (1 : Int32).toInt = 1 := rfl
  by_cases k : (M.1 57 (Int32.toNatClampNeg b)).toInt = 0
  · rw [if_pos (by rw [a_eq, Int32.toInt_zero]; exact k), if_neg (by rw [a_eq]; omega)]
    exact T_some ⟨ev, ha.2⟩
  · rw [if_neg (by rw [a_eq, Int32.toInt_zero]; exact k), if_pos (by rw [a_eq]; omega)]
    exact T_some ⟨by rw [ev], ha.2⟩
theorem hum_rb {note st : Int32} (h : INV L_law M) (hb : 0 ≤ b.toInt) (hb2 : b.toInt < (M.1 50 8).toInt) (hn : 0 ≤ note.toInt) (hn2 : note.toInt ≤ 9) (hs : 0 ≤ st.toInt) (hs2 : st.toInt < i_ce (M.1 50 6) (M.1 50 7)) (hl : 0 ≤ ls.toInt) (hl2 : ls.toInt < i_ce (M.1 50 6) (M.1 50 7)) : T (r_humOfBell b note st ls M) (fun r => r.1 = h_bv M (Int32.toNatClampNeg b) note st ls ∧ fh M r.2) := by
  have hi := HU_inv h
  obtain ⟨hLa, hMa, hBe, hFo, hTa, hLw, hHe, hIm, hCh, hVi, hBo, hRa, hSh⟩ := h
  obtain ⟨g1, g2, g3, g4, g5, g6⟩ := hBe
  have kb : Int32.toNatClampNeg b = b.toInt.toNat := a_n b
  obtain ⟨r1, r2, r3, r4, r5, r6⟩ := g5 (Int32.toNatClampNeg b) (by omega)
  have l50 : (50 : Int32).toInt = 50 := rfl
  have k1 : (50 + b).toInt = 50 + b.toInt := by rw [a_add] <;> omega
  have k2 : Int32.toNatClampNeg (50 + b) = 50 + Int32.toNatClampNeg b := by rw [a_n, a_n, k1]; omega
  unfold r_humOfBell
  refine T_g hb (by omega) (T_g (by omega) (by omega) ?_)
  rw [k2]
  refine T_bind (T_mono (hum_r hi r1 r2 hl hl2 hs hs2 r3 r4 hn hn2) (fun a ha => ?_))
  rw [ha.2.2 57 _ rfl]
  unfold h_bv
  by_cases k : M.1 57 (Int32.toNatClampNeg b) = 1
  · rw [if_pos k, if_pos k]
    exact T_some ⟨by rw [ha.1], ha.2⟩
  · rw [if_neg k, if_neg k]
    exact T_some ⟨ha.1, ha.2⟩
def h_hd (M : I_M) (l : Int32) : Int32 := if i_min l 99 < M.1 51 58 then 0 else i_min l 99
theorem hd_b (h : INV L_law M) {l : Int32} : b_Law_heardOf l M = some (h_hd M l, M) := by
  obtain ⟨hLa, hMa, hBe, hFo, hTa, hLw, hHe, hIm, hCh, hVi, hBo, hRa, hSh⟩ := h
  have := hMa.2.2.2.2.2.2.2.2.2.1
  unfold b_Law_heardOf h_hd
  rw [this]
  split <;> rfl
theorem hd_r {l : Int32} : r_heardOf l M = some (h_hd M l, M) := by
  have l99 : (99 : Int32).toInt = 99 := rfl
  unfold r_heardOf r_heardOf_B12 h_hd
  by_cases q : 99 < l
  · have e : i_min l 99 = 99 := by rw [a_lt] at q; rw [a_eq, min_e]; omega
    rw [if_pos q, e]
    split <;> rfl
  · have e : i_min l 99 = l := by rw [a_lt] at q; rw [a_eq, min_e]; omega
    rw [if_neg q, e]
    split <;> rfl
theorem hd_fh {M' : I_M} (h : fh M M') {l : Int32} : h_hd M' l = h_hd M l := by
  unfold h_hd
  rw [h.2 51 58 rfl]
/-- all that hum together -/
def h_sum (M : I_M) (note st ls : Int32) (n : Nat) : Int32 := i_it (fun b s => if ((M.1 50 12 >>> (Int32.ofNat b &&& 31)) &&& (1 : Int32)) = 1 then s else s + h_bv M b note st ls) n 0
def h_now (M : I_M) (note st ls : Int32) : Int32 := h_hd M (h_sum M note st ls (M.1 50 8).toInt.toNat)
theorem now_fh {M' : I_M} (h : fh M M') {note st ls : Int32} : h_now M' note st ls = h_now M note st ls := by
  unfold h_now h_sum
  rw [hd_fh h, h.2 50 8 rfl, h.2 50 12 rfl]
  congr 1
  refine it_congr _ (fun k _ s => ?_)
  rw [bv_fh h]
theorem now_b (h : INV L_law M) (hn : 0 ≤ nc.toInt) (hn2 : nc.toInt < 1000) (hn3 : nc.toInt % 100 < i_ce (M.1 50 6) (M.1 50 7)) (hl : 0 ≤ ls.toInt) (hl2 : ls.toInt < i_ce (M.1 50 6) (M.1 50 7)) : T (b_Buried_heardOfAll nc ls M) (fun r => r.1 = h_now M (nc / 100) (i_rem nc 100) ls ∧ fh M r.2) := by
  have g1 : M.1 13 6 = M.1 50 8 := h.2.2.1.1
  have g2 : 0 ≤ (M.1 50 8).toInt := h.2.2.1.2.1
  have g3 : (M.1 50 8).toInt ≤ 6 := h.2.2.1.2.2.1
  have g4 : M.1 13 7 = M.1 50 12 := h.2.2.2.1.1
  unfold b_Buried_heardOfAll
  refine T_for (σ := Int32 × I_M) (N := (M.1 50 8).toInt.toNat) (a := 0) (f := fun m i s => b_Buried_heardOfAll_L5 nc ls (fun l3_5 M5 => Option.bind (b_Law_heardOf l3_5 M5) (fun q6 => some (q6.1, q6.2))) m s.1 i s.2) (s := (0, M)) (fun k s => s.1 = h_sum M (nc / 100) (i_rem nc 100) ls k ∧ fh M s.2) (by omega) ?_ ?_ (by unfold i_F; omega) (by omega) rfl ⟨rfl, fh_refl⟩
  · intro m k i s h1 h2 h3 h4 h5
    obtain ⟨s1, s2⟩ := s
    obtain ⟨e1, e2⟩ := h4
    dsimp only at e1 e2 ⊢
    have ei : i = Int32.ofNat k := of_k h1
    have hs : h_sum M (nc / 100) (i_rem nc 100) ls (k + 1) = if ((M.1 50 12 >>> (Int32.ofNat k &&& 31)) &&& (1 : Int32)) = 1 then h_sum M (nc / 100) (i_rem nc 100) ls k else h_sum M (nc / 100) (i_rem nc 100) ls k + h_bv M k (nc / 100) (i_rem nc 100) ls := rfl
    unfold b_Buried_heardOfAll_L5
    rw [e2.2 13 6 rfl, g1, if_pos (by rw [a_lt]; omega), e_found]
    dsimp only [Option.bind_some]
    rw [e2.2 13 7 rfl, g4]
    by_cases hf : ((M.1 50 12 >>> (i &&& 31)) &&& (1 : Int32)) = 1
    · rw [bo_p hf, if_neg (by decide)]
      refine h5 (s1, s2) ⟨?_, e2⟩
      rw [hs, ← ei, if_pos hf]
      exact e1
    · rw [bo_n hf, if_pos rfl]
      have hi2 := fh_inv h e2
      have r50 : s2.1 50 8 = M.1 50 8 := e2.2 50 8 rfl
      have r506 : s2.1 50 6 = M.1 50 6 := e2.2 50 6 rfl
      have r507 : s2.1 50 7 = M.1 50 7 := e2.2 50 7 rfl
      refine T_bind (T_mono (hum_b hi2 (b := i) (by omega) (by rw [r50]; omega) hn hn2 (by rw [r506, r507]; exact hn3) hl (by rw [r506, r507]; exact hl2)) (fun a ha => ?_))
      refine h5 (s1 + a.1, a.2) ⟨?_, fh_trans e2 ha.2⟩
      dsimp only
      rw [hs, ← ei, if_neg hf, e1, ha.1, bv_fh e2, a_k h1]
  · intro m i s h1 h2
    obtain ⟨s1, s2⟩ := s
    obtain ⟨e1, e2⟩ := h2
    dsimp only at e1 e2 ⊢
    unfold b_Buried_heardOfAll_L5
    rw [e2.2 13 6 rfl, g1, if_neg (by rw [a_lt]; omega)]
    rw [hd_b (fh_inv h e2)]
    exact T_some ⟨by rw [hd_fh e2, e1]; rfl, e2⟩
theorem now_r (h : INV L_law M) (hn : 0 ≤ nc.toInt) (hn2 : nc.toInt < 1000) (hn3 : nc.toInt % 100 < i_ce (M.1 50 6) (M.1 50 7)) (hl : 0 ≤ ls.toInt) (hl2 : ls.toInt < i_ce (M.1 50 6) (M.1 50 7)) : T (r_heardNow nc ls M) (fun r => r.1 = h_now M (nc / 100) (i_rem nc 100) ls ∧ fh M r.2) := by
  have g2 : 0 ≤ (M.1 50 8).toInt := h.2.2.1.2.1
  have g3 : (M.1 50 8).toInt ≤ 6 := h.2.2.1.2.2.1
  obtain ⟨n1, n2⟩ := nc_rg hn hn2
  unfold r_heardNow
  refine T_for (σ := Int32 × I_M) (N := (M.1 50 8).toInt.toNat) (a := 0) (f := fun m i s => r_heardNow_L5 nc ls (fun l3_5 M5 => Option.bind (r_heardOf l3_5 M5) (fun q6 => some (q6.1, q6.2))) m s.1 i s.2) (s := (0, M)) (fun k s => s.1 = h_sum M (nc / 100) (i_rem nc 100) ls k ∧ fh M s.2) (by omega) ?_ ?_ (by unfold i_F; omega) (by omega) rfl ⟨rfl, fh_refl⟩
  · intro m k i s h1 h2 h3 h4 h5
    obtain ⟨s1, s2⟩ := s
    obtain ⟨e1, e2⟩ := h4
    dsimp only at e1 e2 ⊢
    have ei : i = Int32.ofNat k := of_k h1
    have hs : h_sum M (nc / 100) (i_rem nc 100) ls (k + 1) = if ((M.1 50 12 >>> (Int32.ofNat k &&& 31)) &&& (1 : Int32)) = 1 then h_sum M (nc / 100) (i_rem nc 100) ls k else h_sum M (nc / 100) (i_rem nc 100) ls k + h_bv M k (nc / 100) (i_rem nc 100) ls := rfl
    unfold r_heardNow_L5
    rw [e2.2 50 8 rfl, if_pos (by rw [a_lt]; omega), e_isIn]
    dsimp only [Option.bind_some]
    rw [e2.2 50 12 rfl]
    by_cases hf : ((M.1 50 12 >>> (i &&& 31)) &&& (1 : Int32)) = 1
    · rw [bo_p hf, if_neg (by decide)]
      refine h5 (s1 + 0, s2) ⟨?_, e2⟩
      dsimp only
      rw [hs, ← ei, if_pos hf, Int32.add_zero]
      exact e1
    · rw [bo_n hf, if_pos rfl]
      have hi2 := fh_inv h e2
      have r50 : s2.1 50 8 = M.1 50 8 := e2.2 50 8 rfl
      have r506 : s2.1 50 6 = M.1 50 6 := e2.2 50 6 rfl
      have r507 : s2.1 50 7 = M.1 50 7 := e2.2 50 7 rfl
      refine T_bind (T_mono (hum_rb hi2 (b := i) (by omega) (by rw [r50]; omega) (by omega) (by omega) (by omega) (by rw [r506, r507]; omega) hl (by rw [r506, r507]; exact hl2)) (fun a ha => ?_))
      refine h5 (s1 + a.1, a.2) ⟨?_, fh_trans e2 ha.2⟩
      dsimp only
      rw [hs, ← ei, if_neg hf, e1, ha.1, bv_fh e2, a_k h1]
  · intro m i s h1 h2
    obtain ⟨s1, s2⟩ := s
    obtain ⟨e1, e2⟩ := h2
    dsimp only at e1 e2 ⊢
    unfold r_heardNow_L5
    rw [e2.2 50 8 rfl, if_neg (by rw [a_lt]; omega)]
    rw [hd_r]
    exact T_some ⟨by rw [hd_fh e2, e1]; rfl, e2⟩
end HB
section OPS
variable {a b c : Int32}
theorem op_heard : OP L_law (b_heard a b) (r_heard a b) := by
  intro M h
  have hi := h
  obtain ⟨hLa, hMa, hBe, hFo, hTa, hLw, hHe, hIm, hCh, hVi, hBo, hRa, hSh⟩ := h
  have ⟨hc, hc2, hc3⟩ := N_land_ce hLa
  unfold b_heard
  rw [e_strike]
  dsimp only [Option.bind_some]
  have REF : ∀ {P : Int32 × I_M → Prop} {M' : I_M}, fh M M' → (∀ q, q = (if (0 ≤ a.toInt ∧ a.toInt < 1000 ∧ a.toInt % 100 < i_ce (M.1 50 6) (M.1 50 7)) ∧ (0 ≤ b.toInt ∧ b.toInt < i_ce (M.1 50 6) (M.1 50 7)) then h_now M (a / 100) (i_rem a 100) b else -1) → ∀ M'', fh M M'' → P (q, M'')) → T (r_heard a b M') P := by
    intro P M' hf hk
    have e6 := hf.2 50 6 rfl
    have e7 := hf.2 50 7 rfl
    unfold r_heard
    rw [e_isNc (by rw [e6, e7]; exact hc)]
    dsimp only [Option.bind_some]
    rw [e6, e7]
    by_cases p1 : 0 ≤ a.toInt ∧ a.toInt < 1000 ∧ a.toInt % 100 < i_ce (M.1 50 6) (M.1 50 7)
    · rw [bo_p p1, if_neg (by decide), e_isCell (by rw [e6, e7]; exact hc)]
      dsimp only [Option.bind_some]
      rw [e6, e7]
      by_cases p2 : 0 ≤ b.toInt ∧ b.toInt < i_ce (M.1 50 6) (M.1 50 7)
      · rw [bo_p p2, if_neg (by decide)]
        refine T_bind (T_mono (now_r (fh_inv hi hf) p1.1 p1.2.1 (by rw [e6, e7]; exact p1.2.2) p2.1 (by rw [e6, e7]; exact p2.2)) (fun q hq => T_some ?_))
        exact hk q.1 (by rw [hq.1, now_fh hf, if_pos ⟨p1, p2⟩]) q.2 (fh_trans hf hq.2)
      · rw [bo_n p2, if_pos rfl]
        exact T_some (hk _ (by rw [if_neg (fun h => p2 h.2)]) M' hf)
    · rw [bo_n p1, if_pos rfl]
      exact T_some (hk _ (by rw [if_neg (fun h => p1 h.1)]) M' hf)
  rw [hc3]
  by_cases p1 : 0 ≤ a.toInt ∧ a.toInt < 1000 ∧ a.toInt % 100 < i_ce (M.1 50 6) (M.1 50 7)
  · rw [bo_p p1, if_neg (by decide), e_has]
    dsimp only [Option.bind_some]
    rw [hc3]
    by_cases p2 : 0 ≤ b.toInt ∧ b.toInt < i_ce (M.1 50 6) (M.1 50 7)
    · rw [bo_p p2, if_neg (by decide)]
      refine T_bind (T_mono (now_b hi p1.1 p1.2.1 p1.2.2 p2.1 p2.2) (fun q hq => T_some ?_))
      exact REF hq.2 (fun q' hq' M'' hM => ⟨by dsimp only; rw [hq', if_pos ⟨p1, p2⟩, hq.1], fh_inv hi hM⟩)
    · rw [bo_n p2, if_pos rfl]
      refine T_some (REF fh_refl (fun q' hq' M'' hM => ⟨by dsimp only; rw [hq', if_neg (fun h => p2 h.2)], fh_inv hi hM⟩))
  · rw [bo_n p1, if_pos rfl]
    refine T_some (REF fh_refl (fun q' hq' M'' hM => ⟨by dsimp only; rw [hq', if_neg (fun h => p1 h.1)], fh_inv hi hM⟩))
theorem op_hum : OP L_law (b_hum a b c) (r_hum a b c) := by
  intro M h
  have hi := h
  obtain ⟨hLa, hMa, hBe, hFo, hTa, hLw, hHe, hIm, hCh, hVi, hBo, hRa, hSh⟩ := h
  have ⟨hc, hc2, hc3⟩ := N_land_ce hLa
  have hb0 := hBe.2.1
  have hb6 := hBe.2.2.1
  have e13 : (M.1 13 6).toInt = (M.1 50 8).toInt := congrArg Int32.toInt hBe.1
  unfold b_hum
  rw [e_bhas]
  dsimp only [Option.bind_some]
  rw [e13]
  have REF : ∀ {P : Int32 × I_M → Prop} {M' : I_M}, fh M M' → (∀ q, q = (if (0 ≤ a.toInt ∧ a.toInt < (M.1 50 8).toInt) ∧ (0 ≤ b.toInt ∧ b.toInt < 1000 ∧ b.toInt % 100 < i_ce (M.1 50 6) (M.1 50 7)) ∧ (0 ≤ c.toInt ∧ c.toInt < i_ce (M.1 50 6) (M.1 50 7)) then h_bv M (Int32.toNatClampNeg a) (b / 100) (i_rem b 100) c else -1) → ∀ M'', fh M M'' → P (q, M'')) → T (r_hum a b c M') P := by
    intro P M' hf hk
    have e6 := hf.2 50 6 rfl
    have e7 := hf.2 50 7 rfl
    have e8 := hf.2 50 8 rfl
    unfold r_hum
    rw [e_isBell (by rw [e8]; exact hb0)]
    dsimp only [Option.bind_some]
    rw [e8]
    by_cases p0 : 0 ≤ a.toInt ∧ a.toInt < (M.1 50 8).toInt
    · rw [bo_p p0, if_neg (by decide), e_isNc (by rw [e6, e7]; exact hc)]
      dsimp only [Option.bind_some]
      rw [e6, e7]
      by_cases p1 : 0 ≤ b.toInt ∧ b.toInt < 1000 ∧ b.toInt % 100 < i_ce (M.1 50 6) (M.1 50 7)
      · rw [bo_p p1, if_neg (by decide), e_isCell (by rw [e6, e7]; exact hc)]
        dsimp only [Option.bind_some]
        rw [e6, e7]
        obtain ⟨n1, n2⟩ := nc_rg p1.1 p1.2.1
        by_cases p2 : 0 ≤ c.toInt ∧ c.toInt < i_ce (M.1 50 6) (M.1 50 7)
        · rw [bo_p p2, if_neg (by decide)]
          refine T_bind (T_mono (hum_rb (fh_inv hi hf) p0.1 (by rw [e8]; exact p0.2) (by omega) (by omega) (by omega) (by rw [e6, e7]; omega) p2.1 (by rw [e6, e7]; exact p2.2)) (fun q hq => T_some ?_))
          exact hk q.1 (by rw [hq.1, bv_fh hf, if_pos ⟨p0, p1, p2⟩]) q.2 (fh_trans hf hq.2)
        · rw [bo_n p2, if_pos rfl]
          exact T_some (hk _ (by rw [if_neg (fun h => p2 h.2.2)]) M' hf)
      · rw [bo_n p1, if_pos rfl]
        exact T_some (hk _ (by rw [if_neg (fun h => p1 h.2.1)]) M' hf)
    · rw [bo_n p0, if_pos rfl]
      exact T_some (hk _ (by rw [if_neg (fun h => p0 h.1)]) M' hf)
  by_cases p0 : 0 ≤ a.toInt ∧ a.toInt < (M.1 50 8).toInt
  · rw [bo_p p0, if_neg (by decide), e_strike]
    dsimp only [Option.bind_some]
    rw [hc3]
    by_cases p1 : 0 ≤ b.toInt ∧ b.toInt < 1000 ∧ b.toInt % 100 < i_ce (M.1 50 6) (M.1 50 7)
    · rw [bo_p p1, if_neg (by decide), e_has]
      dsimp only [Option.bind_some]
      rw [hc3]
      by_cases p2 : 0 ≤ c.toInt ∧ c.toInt < i_ce (M.1 50 6) (M.1 50 7)
      · rw [bo_p p2, if_neg (by decide)]
        refine T_bind (T_mono (hum_b hi p0.1 p0.2 p1.1 p1.2.1 p1.2.2 p2.1 p2.2) (fun q hq => T_some ?_))
        exact REF hq.2 (fun q' hq' M'' hM => ⟨by dsimp only; rw [hq', if_pos ⟨p0, p1, p2⟩, hq.1], fh_inv hi hM⟩)
      · rw [bo_n p2, if_pos rfl]
        refine T_some (REF fh_refl (fun q' hq' M'' hM => ⟨by dsimp only; rw [hq', if_neg (fun h => p2 h.2.2)], fh_inv hi hM⟩))
    · rw [bo_n p1, if_pos rfl]
      refine T_some (REF fh_refl (fun q' hq' M'' hM => ⟨by dsimp only; rw [hq', if_neg (fun h => p1 h.2.1)], fh_inv hi hM⟩))
  · rw [bo_n p0, if_pos rfl]
    refine T_some (REF fh_refl (fun q' hq' M'' hM => ⟨by dsimp only; rw [hq', if_neg (fun h => p0 h.1)], fh_inv hi hM⟩))
end OPS
