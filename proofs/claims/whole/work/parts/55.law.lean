/-! ===== part 55: law ===== -/
theorem ah_congr {t t' : Nat → Int32} {n : Nat} (h : ∀ k, k < n → t k = t' k) : p_ah t n = p_ah t' n := by
  funext p
  unfold p_ah
  by_cases q : p < n
  · rw [if_pos q, if_pos q, h p q]
  · rw [if_neg q, if_neg q]
theorem law_cp {M : I_M} {l2 : Int32} {n : Nat} (hl : l2.toInt = n) (hn : n ≤ 120) : r_law_L37 l2 i_F 0 M = some (1, i_wI (i_rw M 59 (fun j => if j < n then M.1 58 j else M.1 59 j)) 50 17 l2) := by
  refine T_eq (T_for (N := n) (a := 0) (f := r_law_L37 l2) (fun k M' => M' = i_rw M 59 (fun j => if j < k then M.1 58 j else M.1 59 j)) (by omega) ?_ ?_ (by unfold i_F; omega) (by omega) rfl ?_)
  · intro m k i M' h1 h2 h3 h4 h5
    subst h4
    unfold r_law_L37
    rw [if_pos (by rw [a_lt]; omega)]
    refine T_g (by omega) (by omega) (h5 _ ?_)
    rw [rw_w, rw_rw, rw_s, rw_n (by decide), a_k h1]
    congr 1
    funext j
    unfold upd
    by_cases q : j = k
    · rw [if_pos q, if_pos (by omega), q]
    · rw [if_neg q]
      dsimp only
      by_cases q2 : j < k
      · rw [if_pos q2, if_pos (by omega)]
      · rw [if_neg q2, if_neg (by omega)]
  · intro m i M' h1 h2
    subst h2
    unfold r_law_L37
    rw [if_neg (by rw [a_lt]; omega)]
    exact T_some rfl
  · rw [show (fun j => if j < 0 then M.1 58 j else M.1 59 j) = M.1 59 from funext fun j => if_neg (by omega), rw_id]
theorem op_law : OP L_law b_law r_law := by
  intro M h
  have hi := h
  obtain ⟨hLa, hMa, hBe, hFo, hTa, hLw, hHe, hIm, hCh, hVi, hBo, hRa, hSh⟩ := h
  obtain ⟨t1, t2, t3, t4⟩ := hTa
  obtain ⟨n, hn⟩ : ∃ n : Nat, (M.1 50 15).toInt = n := ⟨(M.1 50 15).toInt.toNat, by omega⟩
  have hn6 : (M.1 6 1).toInt = n := by rw [t1]; exact hn
  have h120 : n ≤ 120 := by omega
  have hB7 : ∀ k, k < 120 → 0 ≤ (M.1 7 k).toInt ∧ (M.1 7 k).toInt ≤ 255 := fun k hk => by rw [(t4 k hk).1]; exact (t4 k hk).2
  have ea : p_ah (M.1 7) n = p_ah (M.1 58) n := ah_congr (fun k hk => (t4 k (by omega)).1)
  have ht := readText_e hn6 h120 hB7
  rw [ea] at ht
  have hpt : ∀ f, p_text (p_ah (M.1 58) n) n = Sum.inl f → f ≤ n := by
    intro f hf
    rw [hf] at ht
    obtain ⟨a, _, _, h2, _⟩ := ht
    exact h2
  unfold b_law
  refine T_bind (T_mono ht (fun a ha => ?_))
  obtain ⟨a1, A⟩ := a
  have tape0 : ∀ t t' : Nat → Int32, (∀ k, k < 120 → t k = t' k ∧ 0 ≤ (t' k).toInt ∧ (t' k).toInt ≤ 255) → N_tape 0 0 t t' := fun t t' h => ⟨rfl, by decide, by decide, h⟩
  cases hp : p_text (p_ah (M.1 58) n) n with
  | inl f =>
    rw [hp] at ha
    obtain ⟨e1, e2, r8, x, y, _, _, e3⟩ := ha
    dsimp only at e1 e3 ⊢
    subst e1
    have ef : (Int32.ofNat f).toInt = f := a_on (by omega)
    rw [if_neg (by rw [a_lt, Int32.toInt_zero]; omega)]
    unfold b_law_B33
    rw [if_neg (by rw [a_lt, Int32.toInt_zero]; omega)]
    refine T_some ?_
    subst e3
    dsimp only
    unfold r_law
    obtain ⟨C, hC⟩ : ∃ C, C = i_wI (i_rw (i_rw M 8 r8) 6 (upd (upd (upd (M.1 6) 3 x) 4 y) 5 (Int32.ofNat f))) 6 1 0 := ⟨_, rfl⟩
    rw [← hC]
    have c58 : C.1 58 = M.1 58 := by rw [hC]; rfl
    have c50 : C.1 50 = M.1 50 := by rw [hC]; rfl
    have hB : q_B (q_M C (-1) (C.1 50 15)) n (M.1 58) := by
      refine ⟨?_, h120, Or.inl ⟨rfl, ?_⟩⟩
      · show (C.1 50 15).toInt = n
        rw [c50]
        exact hn
      · show M.1 58 = C.1 58
        exact c58.symm
    have hw := workOut_e (M := C) hB
    rw [hp] at hw
    refine T_bind (T_mono hw (fun b hb => ?_))
    obtain ⟨_, hq⟩ := hb
    have hlt := qF_lt hq (by omega)
    rw [if_neg hlt]
    obtain ⟨x2, y2, _, _, e4⟩ := hq
    have e21 : b.2.1 50 21 = Int32.ofNat f := by rw [e4]; rfl
    rw [e21]
    refine T_some ⟨rfl, ?_⟩
    rw [e4]
    subst hC
    exact ⟨hLa, hMa, hBe, hFo, tape0 (M.1 7) (M.1 58) t4, hLw, hHe, hIm, hCh, hVi, hBo, hRa, hSh⟩
  | inr yv =>
    rw [hp] at ha
    obtain ⟨e1, e2, e3⟩ := ha
    dsimp only at e1 e2 e3 ⊢
    subst e1
    subst e3
    rw [if_pos (by decide)]
    have el : (Int32.ofNat yv.1.length).toInt = yv.1.length := a_on (by omega)
    unfold b_Law_become b_law_B33
    rw [pS_63]
    rw [cg_ok (by decide) (by decide) (by omega) (by rw [Int32.toInt_zero]; omega) (by rw [Int32.toInt_zero]; omega)]
    dsimp only [Option.bind_some]
    rw [if_pos (by decide)]
    refine T_some ?_
    unfold r_law
    obtain ⟨C, hC⟩ : ∃ C, C = i_wI (i_wI (i_wI (i_cI (p_S M n yv.1) 8 10 0 0 (Int32.ofNat yv.1.length)) 9 3 (Int32.ofNat yv.1.length)) 9 1 1) 6 1 0 := ⟨_, rfl⟩
    dsimp only
    rw [← hC]
    have c58 : C.1 58 = M.1 58 := by rw [hC]; rfl
    have c50 : C.1 50 = M.1 50 := by rw [hC]; rfl
    have hB : q_B (q_M C (-1) (C.1 50 15)) n (M.1 58) := by
      refine ⟨?_, h120, Or.inl ⟨rfl, ?_⟩⟩
      · show (C.1 50 15).toInt = n
        rw [c50]
        exact hn
      · show M.1 58 = C.1 58
        exact c58.symm
    have hw := workOut_e (M := C) hB
    rw [hp] at hw
    refine T_bind (T_mono hw (fun b hb => ?_))
    have hb : b = (p_val yv.2 (C.1 60), q_S (q_M C (-1) (C.1 50 15)) n 0) := hb
    subst hb
    dsimp only
    rw [qS_21, if_pos (by decide)]
    have e15 : (q_S (q_M C (-1) (C.1 50 15)) n 0).1 50 15 = M.1 50 15 := by
      show C.1 50 15 = M.1 50 15
      rw [c50]
    rw [e15, law_cp hn h120]
    refine T_some ⟨rfl, ?_⟩
    have code : ∀ j, j < yv.1.length → C.1 10 j = yv.1.getD j 0 := by
      intro j hj
      rw [hC, m_wI, m_wI, m_wI, if_neg (by omega), if_neg (by omega), if_neg (by omega), m_cI, if_pos ⟨rfl, by rw [Int32.toInt_zero]; omega, by rw [Int32.toInt_zero]; omega⟩]
      rw [show (0 : Int32).toInt.toNat + (j - (0 : Int32).toInt.toNat) = j by rw [Int32.toInt_zero]; omega]
      show yv.1.getD j (M.1 8 j) = yv.1.getD j 0
      rw [List.getD_eq_getElem?_getD, List.getD_eq_getElem?_getD, List.getElem?_eq_getElem hj]
      rfl
    have txt : p_text (p_ah (fun j => if j < n then M.1 58 j else C.1 59 j) n) n = Sum.inr yv := by
      rw [ah_congr (t' := M.1 58) (fun k hk => if_pos hk)]
      exact hp
    have law : L_law 1 (M.1 50 15) (Int32.ofNat yv.1.length) (C.1 10) (fun j => if j < n then C.1 58 j else C.1 59 j) := by
      refine Or.inr ⟨rfl, t2, t3, yv, ?_, el, by omega, code⟩
      rw [c58, hn]
      exact txt
    subst hC
    exact ⟨hLa, hMa, hBe, hFo, tape0 (M.1 7) (M.1 58) t4, law, hHe, hIm, hCh, hVi, hBo, hRa, hSh⟩
