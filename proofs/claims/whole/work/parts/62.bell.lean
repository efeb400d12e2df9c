/-! ===== part 62: bells buried ===== -/
def g_ok4 (ce : Int) (c n z k : Int32) : Prop := 0 ≤ c.toInt ∧ c.toInt < ce ∧ 0 ≤ n.toInt ∧ n.toInt ≤ 9 ∧ 0 ≤ z.toInt ∧ z.toInt ≤ 9 ∧ 0 ≤ k.toInt ∧ k.toInt ≤ 1
def g_cad (N : I_M) (c n z k : Int32) : I_M := i_wI (i_wI (i_wI (i_wI (i_wI N 14 (Int32.toNatClampNeg (N.1 13 6)) c) 15 (Int32.toNatClampNeg (N.1 13 6)) n) 16 (Int32.toNatClampNeg (N.1 13 6)) z) 17 (Int32.toNatClampNeg (N.1 13 6)) k) 13 6 ((N.1 13 6) + (1 : Int32))
def g_rad (N : I_M) (c n z k : Int32) : I_M := i_wI (i_wI (i_wI (i_wI (i_wI N 55 (Int32.toNatClampNeg (N.1 50 8)) c) 56 (Int32.toNatClampNeg (N.1 50 8)) n) 51 (Int32.toNatClampNeg ((50 : Int32) + (N.1 50 8))) z) 57 (Int32.toNatClampNeg (N.1 50 8)) k) 50 8 ((N.1 50 8) + (1 : Int32))
section BURY
variable {N : I_M} {c n z k : Int32} {m : Nat}
theorem bury_ok (hm : (N.1 13 6).toInt = m) (h6 : m < 6) (h : g_ok4 (i_ce (N.1 1 0) (N.1 1 1)) c n z k) (hb : ∀ b, b < m → N.1 14 b ≠ c) : b_Buried_bury c n z k N = some (N.1 13 6, g_cad N c n z k) := by
  obtain ⟨h1, h2, h3, h4, h5, h6', h7, h8⟩ := h
  obtain ⟨s, hs, e1, e2⟩ := inCell_e (c := c) hm (by omega)
  obtain ⟨s1, s2⟩ := s
  dsimp only at e1 e2
  subst e1
  have l0 := Int32.toInt_zero
  have l9 : (9 : Int32).toInt = 9 := rfl
  have l10 : (10 : Int32).toInt = 10 := rfl
  have l1 : (1 : Int32).toInt = 1 := rfl
  have l6 := l_6
  have e3 : s1 = -2 := by
    rcases e2 with e2 | ⟨b, hb1, _, hb2⟩
    · exact e2.1
    · exact absurd hb2 (hb b hb1)
  subst e3
  unfold b_Buried_bury
  rw [e_has]
  dsimp only [Option.bind_some]
  rw [bo_p ⟨h1, h2⟩, if_neg (by decide), hs]
  dsimp only [Option.bind_some]
  rw [if_pos rfl, if_neg (by rw [a_lt]; omega), if_pos (by rw [a_lt]; omega), if_neg (by rw [a_lt]; omega), if_neg (by rw [a_lt]; omega), if_neg (by rw [a_lt]; omega), if_neg (by rw [a_lt]; omega), if_pos (by rw [a_lt]; omega), g_ok (by omega) (by omega)]
  have e : s2.1 13 6 + 1 - 1 = s2.1 13 6 := by
    have k1 : (s2.1 13 6 + 1).toInt = (s2.1 13 6).toInt + 1 := a_a1 (by omega)
    rw [a_eq, a_s1 (by omega)]
    omega
  rw [e]
  rfl
theorem bury_no (hm : (N.1 13 6).toInt = m) (h6 : m ≤ 6) (h : ¬ (g_ok4 (i_ce (N.1 1 0) (N.1 1 1)) c n z k ∧ ∀ b, b < m → N.1 14 b ≠ c)) : b_Buried_bury c n z k N = some (-1, N) := by
  obtain ⟨s, hs, e1, e2⟩ := inCell_e (c := c) hm (by omega)
  obtain ⟨s1, s2⟩ := s
  dsimp only at e1 e2
  subst e1
  have l0 := Int32.toInt_zero
  have l9 : (9 : Int32).toInt = 9 := rfl
  have l10 : (10 : Int32).toInt = 10 := rfl
  have l1 : (1 : Int32).toInt = 1 := rfl
  have l2 : (-2 : Int32).toInt = -2 := rfl
  unfold b_Buried_bury
  rw [e_has]
  dsimp only [Option.bind_some]
  by_cases p1 : 0 ≤ c.toInt ∧ c.toInt < i_ce (s2.1 1 0) (s2.1 1 1)
  · rw [bo_p p1, if_neg (by decide), hs]
    dsimp only [Option.bind_some]
    rcases e2 with ⟨rfl, e2⟩ | ⟨b, hb1, rfl, hb2⟩
    · rw [if_pos rfl]
      by_cases q1 : n.toInt < 0
      · rw [if_pos (by rw [a_lt]; omega)]
      rw [if_neg (by rw [a_lt]; omega)]
      by_cases q2 : n.toInt < 10
      · rw [if_pos (by rw [a_lt]; omega)]
        by_cases q3 : z.toInt < 0
        · rw [if_pos (by rw [a_lt]; omega)]
        rw [if_neg (by rw [a_lt]; omega)]
        by_cases q4 : 9 < z.toInt
        · rw [if_pos (by rw [a_lt]; omega)]
        rw [if_neg (by rw [a_lt]; omega)]
        by_cases q5 : k.toInt < 0
        · rw [if_pos (by rw [a_lt]; omega)]
        rw [if_neg (by rw [a_lt]; omega)]
        by_cases q6 : 1 < k.toInt
        · rw [if_pos (by rw [a_lt]; omega)]
        · exact absurd ⟨⟨p1.1, p1.2, by omega, by omega, by omega, by omega, by omega, by omega⟩, e2⟩ h
      · rw [if_neg (by rw [a_lt]; omega)]
    · have : (Int32.ofNat b).toInt = b := a_on (by omega)
      rw [if_neg (by rw [a_eq]; omega)]
  · rw [bo_n p1, if_pos rfl]
theorem bury_full (hm : (N.1 13 6).toInt = 6) (h : g_ok4 (i_ce (N.1 1 0) (N.1 1 1)) c n z k) (hb : ∀ b, b < 6 → N.1 14 b ≠ c) : b_Buried_bury c n z k N = some (-3, N) := by
  obtain ⟨h1, h2, h3, h4, h5, h6', h7, h8⟩ := h
  obtain ⟨s, hs, e1, e2⟩ := inCell_e (c := c) (n := 6) hm (by omega)
  obtain ⟨s1, s2⟩ := s
  dsimp only at e1 e2
  subst e1
  have l0 := Int32.toInt_zero
  have l9 : (9 : Int32).toInt = 9 := rfl
  have l10 : (10 : Int32).toInt = 10 := rfl
  have l1 : (1 : Int32).toInt = 1 := rfl
  have l6 := l_6
  have e3 : s1 = -2 := by
    rcases e2 with e2 | ⟨b, hb1, _, hb2⟩
    · exact e2.1
    · exact absurd hb2 (hb b hb1)
  subst e3
  unfold b_Buried_bury
  rw [e_has]
  dsimp only [Option.bind_some]
  rw [bo_p ⟨h1, h2⟩, if_neg (by decide), hs]
  dsimp only [Option.bind_some]
  rw [if_pos rfl, if_neg (by rw [a_lt]; omega), if_pos (by rw [a_lt]; omega), if_neg (by rw [a_lt]; omega), if_neg (by rw [a_lt]; omega), if_neg (by rw [a_lt]; omega), if_neg (by rw [a_lt]; omega), if_neg (by rw [a_lt]; omega)]
theorem bare_e {x : Int64} (hm : (N.1 50 8).toInt = m) (h6 : m ≤ 6) (hc : 1 ≤ i_ce (N.1 50 6) (N.1 50 7)) : ((∀ b, b < m → (N.1 55 b).toInt ≠ x.toInt) ∧ 0 ≤ x.toInt ∧ x.toInt < i_ce (N.1 50 6) (N.1 50 7) → r_isBare x N = some (1, N)) ∧ (¬ ((∀ b, b < m → (N.1 55 b).toInt ≠ x.toInt) ∧ 0 ≤ x.toInt ∧ x.toInt < i_ce (N.1 50 6) (N.1 50 7)) → r_isBare x N = some (0, N)) := by
  have H : T (r_isBare x N) (fun s => s.2 = N ∧ ((s.1 = 0 ∧ ∃ b, b < m ∧ (N.1 55 b).toInt = x.toInt) ∨ ((∀ b, b < m → (N.1 55 b).toInt ≠ x.toInt) ∧ s.1 = i_bo (0 ≤ x.toInt ∧ x.toInt < i_ce (N.1 50 6) (N.1 50 7))))) := by
    unfold r_isBare
    refine T_for (N := m) (a := 0) (f := r_isBare_L2 x _) (fun k M' => M' = N ∧ ∀ j, j < k → (N.1 55 j).toInt ≠ x.toInt) (by omega) ?_ ?_ (by unfold i_F; omega) (by omega) rfl ⟨rfl, fun j hj => absurd hj (by omega)⟩
    · intro q k i M' h1 h2 h3 h4 h5
      obtain ⟨rfl, h4⟩ := h4
      unfold r_isBare_L2
      rw [if_pos (by rw [a_lt]; omega), g_ok (by omega) (by omega), a_k h1]
      refine T_if (fun g => T_some ⟨rfl, Or.inl ⟨rfl, k, h3, ?_⟩⟩) (fun g => h5 _ ⟨rfl, fun j hj => ?_⟩)
      · rw [a_leqc, a_l] at g
        exact g
      · by_cases w : j = k
        · rw [w]
          rw [a_leqc, a_l] at g
          exact g
        · exact h4 j (by omega)
    · intro q i M' h1 h2
      obtain ⟨rfl, h2⟩ := h2
      unfold r_isBare_L2
      rw [if_neg (by rw [a_lt]; omega), e_rcells]
      dsimp only [Option.bind_some]
      rw [r_within_e]
      dsimp only [Option.bind_some]
      rw [bo_zo]
      refine T_some ⟨rfl, Or.inr ⟨h2, ?_⟩⟩
      have e : ((M'.1 50 6 * M'.1 50 7) - (1 : Int32)).toInt = i_ce (M'.1 50 6) (M'.1 50 7) - 1 := a_s1 (by unfold i_ce at hc; omega)
      dsimp only
      rw [a_l, e, Int64.toInt_zero]
      by_cases w : 0 ≤ x.toInt ∧ x.toInt < i_ce (M'.1 50 6) (M'.1 50 7)
      · rw [bo_p w, bo_p (by omega)]
      · rw [bo_n w, bo_n (by omega)]
  obtain ⟨s, hs, e1, e2⟩ := H
  obtain ⟨s1, s2⟩ := s
  dsimp only at e1 e2
  subst e1
  rw [hs]
  constructor
  · intro h
    rcases e2 with ⟨_, b, hb, hb2⟩ | ⟨_, e2⟩
    · exact absurd hb2 (h.1 b hb)
    · rw [e2, bo_p h.2]
  · intro h
    rcases e2 with ⟨e2, _⟩ | ⟨e3, e2⟩
    · rw [e2]
    · rw [e2, bo_n (fun w => h ⟨e3, w⟩)]
theorem adds_e (hm : (N.1 50 8).toInt = m) (h6 : m < 6) : r_adds c n z k N = some (g_rad N c n z k) := by
  have l50 := l_50
  have e : (50 + N.1 50 8).toInt = 50 + (N.1 50 8).toInt := by rw [a_add] <;> omega
  unfold r_adds
  rw [g_ok (by omega) (by omega), g_ok (by omega) (by omega)]
  rfl
end BURY
/-- one bell more -/
theorem g_inv {L : Int32 → Int32 → Int32 → (Nat → Int32) → (Nat → Int32) → Prop} {M C : I_M} {c n z k : Int32} {m : Nat} (h : INV L M) (hm : (M.1 50 8).toInt = m) (h6 : m < 6) (ho : g_ok4 (i_ce (M.1 50 6) (M.1 50 7)) c n z k) (hb : ∀ b, b < m → M.1 55 b ≠ c) : INV L (g_rad (g_cad M c n z k) c n z k) := by
  obtain ⟨hLa, hMa, hBe, hFo, hTa, hLw, hHe, hIm, hCh, hVi, hBo, hRa, hSh⟩ := h
  obtain ⟨g1, g2, g3, g4, g5, g6⟩ := hBe
  obtain ⟨o1, o2, o3, o4, o5, o6, o7, o8⟩ := ho
  have l50 := l_50
  have e8 : Int32.toNatClampNeg (M.1 50 8) = m := a_k hm
  have e13 : Int32.toNatClampNeg (M.1 13 6) = m := by rw [g1]; exact e8
  have e50 : Int32.toNatClampNeg (50 + M.1 50 8) = 50 + m := a_k (by rw [a_add] <;> omega)
  have ep : (M.1 50 8 + 1).toInt = (m : Int) + 1 := by rw [a_a1 (by omega), hm]
  have U : ∀ (f g : Nat → Int32) (v : Int32) (b : Nat), f b = g b → upd f m v b = upd g m v b := by
    intro f g v b hfg
    unfold upd
    split
    · rfl
    · exact hfg
  have hBe' : N_bell (M.1 50 8 + 1) (M.1 50 8 + 1) (upd (M.1 14) m c) (upd (M.1 15) m n) (upd (M.1 17) m k) (upd (M.1 55) m c) (upd (M.1 56) m n) (upd (M.1 57) m k) (i_ce (M.1 50 6) (M.1 50 7)) := by
    refine ⟨rfl, by omega, by omega, fun b hb => ⟨U _ _ _ _ (g4 b hb).1, U _ _ _ _ (g4 b hb).2.1, U _ _ _ _ (g4 b hb).2.2⟩, fun b hb1 => ?_, fun a b hab hb1 => ?_⟩
    · by_cases q : b = m
      · rw [q, upd_s, upd_s, upd_s]
        exact ⟨o1, o2, o3, o4, o7, o8⟩
      · rw [upd_n q, upd_n q, upd_n q]
        exact g5 b (by omega)
    · by_cases q : b = m
      · rw [q, upd_s, upd_n (by omega)]
        exact hb a (by omega)
      · rw [upd_n q, upd_n (by omega)]
        exact g6 a b hab (by omega)
  obtain ⟨m1, m2, m3, m4⟩ := hMa
  have hMa' : N_may (M.1 4) (M.1 5) (upd (M.1 16) m z) (M.1 1 6) (M.1 1 7) (M.1 1 8) (M.1 1 9) (upd (M.1 51) (50 + m) z) := by
    refine ⟨fun x hx => ?_, fun x hx => ?_, fun x hx => ?_, ?_⟩
    · rw [upd_n (by omega)]
      exact m1 x hx
    · rw [upd_n (by omega)]
      exact m2 x hx
    · by_cases q : x = m
      · rw [q, upd_s, upd_s]
        exact ⟨rfl, o5, o6⟩
      · rw [upd_n q, upd_n (by omega)]
        exact m3 x hx
    · rw [upd_n (by omega), upd_n (by omega), upd_n (by omega), upd_n (by omega)]
      exact m4
  obtain ⟨c1, c2, c3, c4, c5, c6⟩ := hCh
  have hCh' : N_chg (M.1 31 4) (M.1 31 5) (M.1 50 5) (M.1 50 4) (M.1 32) (M.1 33) (M.1 34) (M.1 35) (M.1 52) (M.1 53) (M.1 54) (i_ce (M.1 50 6) (M.1 50 7)) (M.1 50 8 + 1).toInt := by
    refine ⟨c1, c2, c3, c4, c5, fun x hx => ?_⟩
    obtain ⟨d1, d2, d3, d4, d5, d6, d7, d8, d9⟩ := c6 x hx
    exact ⟨d1, d2, d3, d4, d5, d6, d7, fun q => by have := d8 q; omega, d9⟩
  have E : g_rad (g_cad M c n z k) c n z k = i_wI (i_wI (i_wI (i_wI (i_wI (i_wI (i_wI (i_wI (i_wI (i_wI M 14 m c) 15 m n) 16 m z) 17 m k) 13 6 (M.1 50 8 + 1)) 55 m c) 56 m n) 51 (50 + m) z) 57 m k) 50 8 (M.1 50 8 + 1) := by
    unfold g_rad g_cad
    rw [e13]
    show i_wI (i_wI (i_wI (i_wI (i_wI _ 55 (Int32.toNatClampNeg (M.1 50 8)) c) 56 (Int32.toNatClampNeg (M.1 50 8)) n) 51 (Int32.toNatClampNeg (50 + M.1 50 8)) z) 57 (Int32.toNatClampNeg (M.1 50 8)) k) 50 8 (M.1 50 8 + 1) = _
    rw [e8, e50, g1]
  rw [E]
  exact ⟨hLa, hMa', hBe', hFo, hTa, hLw, hHe, hIm, hCh', hVi, hBo, hRa, hSh⟩
section OPS
variable {a b : Int32}
variable {L : Int32 → Int32 → Int32 → (Nat → Int32) → (Nat → Int32) → Prop}
theorem op_bell : OP L (b_bell a b) (r_bell a b) := by
  intro M h
  have hi := h
  obtain ⟨hLa, hMa, hBe, hFo, hTa, hLw, hHe, hIm, hCh, hVi, hBo, hRa, hSh⟩ := h
  have ⟨hc, hc2, hc3⟩ := N_land_ce hLa
  have l0 := Int32.toInt_zero
  have l9 : (9 : Int32).toInt = 9 := rfl
  have l1 : (1 : Int32).toInt = 1 := rfl
  have l6 := l_6
  have l10 : (10 : Int32).toInt = 10 := rfl
  have l100 : (100 : Int32).toInt = 100 := rfl
  have l1000 : (1000 : Int32).toInt = 1000 := rfl
  have FIN : ∀ (v : Int32), r_bell a b M = some (v, M) → T (some (v, M)) (fun r => T (r_bell a b r.2) (fun s => s.1 = r.1 ∧ INV L s.2)) := by
    intro v hv
    refine T_some ?_
    dsimp only
    rw [hv]
    exact T_some ⟨rfl, hi⟩
  unfold b_bell
  by_cases p0 : b.toInt < 0
  · rw [if_pos (by rw [a_lt]; omega)]
    refine FIN _ ?_
    unfold r_bell
    rw [if_pos (by rw [a_lt]; omega)]
  rw [if_neg (by rw [a_lt]; omega)]
  have d1 : (b / 100).toInt = b.toInt / 100 := by rw [a_div (by omega) (by omega), l100]
  have d2 : (b / 10).toInt = b.toInt / 10 := by rw [a_div (by omega) (by omega), l10]
  have d3 : (i_rem (b / 10) 10).toInt = b.toInt / 10 % 10 := by rw [a_rem (by omega) (by omega), d2, l10]
  have d4 : (i_rem b 10).toInt = b.toInt % 10 := by rw [a_rem (by omega) (by omega), l10]
  have R0 : ∀ M' : I_M, r_bell a b M' = if (9 : Int32) < (b / (100 : Int32)) then some ((-1 : Int32), M') else (if (1 : Int32) < (i_rem b (10 : Int32)) then some ((-1 : Int32), M') else Option.bind (r_isBare (Int32.toInt64 a) M') (fun q4 => (if q4.1 = (0 : Int32) then some ((-1 : Int32), q4.2) else (if (q4.2.1 50 8) = (6 : Int32) then some ((-3 : Int32), q4.2) else Option.bind (r_adds a (b / (100 : Int32)) (i_rem (b / (10 : Int32)) (10 : Int32)) (i_rem b (10 : Int32)) q4.2) (fun q7 => some (((q7.1 50 8) - (1 : Int32)), q7)))))) := by
    intro M'
    unfold r_bell
    rw [if_neg (by rw [a_lt]; omega)]
  have RM := R0 M
  by_cases p1 : b.toInt < 1000
  · rw [if_neg (by rw [a_lt]; omega)] at RM
    rw [if_pos (by rw [a_lt]; omega)]
    obtain ⟨g1, g2, g3, g4, g5, g6⟩ := hBe
    obtain ⟨m, hm⟩ : ∃ m : Nat, (M.1 50 8).toInt = m := ⟨(M.1 50 8).toInt.toNat, by omega⟩
    have hm13 : (M.1 13 6).toInt = m := by rw [g1]; exact hm
    have BE := fun N : I_M => bare_e (N := N) (x := Int32.toInt64 a) (m := m)
    have cells : ∀ b', b' < m → (M.1 14 b' ≠ a ↔ (M.1 55 b').toInt ≠ (Int32.toInt64 a).toInt) := by
      intro b' hb'
      rw [(g4 b' (by omega)).1, a_l, Ne, a_eq]
    by_cases q1 : 1 < (i_rem b 10).toInt
    · rw [if_pos (by rw [a_lt]; omega)] at RM
      rw [bury_no hm13 (by omega) (fun h => by have := h.1.2.2.2.2.2.2.2; omega)]
      exact FIN _ RM
    rw [if_neg (by rw [a_lt]; omega)] at RM
    by_cases q2 : (∀ b', b' < m → (M.1 55 b').toInt ≠ (Int32.toInt64 a).toInt) ∧ 0 ≤ (Int32.toInt64 a).toInt ∧ (Int32.toInt64 a).toInt < i_ce (M.1 50 6) (M.1 50 7)
    · rw [(BE M hm (by omega) hc).1 q2] at RM
      dsimp only [Option.bind_some] at RM
      rw [if_neg (by decide)] at RM
      have ok4 : g_ok4 (i_ce (M.1 50 6) (M.1 50 7)) a (b / 100) (i_rem (b / 10) 10) (i_rem b 10) := by
        have := q2.2
        rw [a_l] at this
        exact ⟨this.1, this.2, by omega, by omega, by omega, by omega, by omega, by omega⟩
      have nb : ∀ b', b' < m → M.1 14 b' ≠ a := fun b' hb' => (cells b' hb').mpr (q2.1 b' hb')
      by_cases q3 : (M.1 50 8).toInt = 6
      · rw [if_pos (by rw [a_eq]; omega)] at RM
        rw [bury_full (by omega) (by rw [hc3]; exact ok4) (fun b' hb' => nb b' (by omega))]
        exact FIN _ RM
      · rw [bury_ok hm13 (by omega) (by rw [hc3]; exact ok4) nb]
        refine T_some ?_
        dsimp only
        obtain ⟨C, hC⟩ : ∃ C, C = g_cad M a (b / 100) (i_rem (b / 10) 10) (i_rem b 10) := ⟨_, rfl⟩
        rw [← hC]
        have c50 : C.1 50 = M.1 50 := by rw [hC]; rfl
        have c55 : C.1 55 = M.1 55 := by rw [hC]; rfl
        rw [R0 C, if_neg (by rw [a_lt]; omega), if_neg (by rw [a_lt]; omega), (BE C (by rw [c50]; exact hm) (by omega) (by rw [c50]; exact hc)).1 (by rw [c50, c55]; exact q2)]
        dsimp only [Option.bind_some]
        rw [if_neg (by decide), c50, if_neg (by rw [a_eq]; omega), adds_e (m := m) (by rw [c50]; exact hm) (by omega)]
        dsimp only [Option.bind_some]
        refine T_some ⟨?_, ?_⟩
        · show C.1 50 8 + 1 - 1 = M.1 13 6
          rw [c50, g1, a_eq, a_s1 (by rw [a_a1 (by omega)]; omega), a_a1 (by omega)]
          omega
        · rw [hC]
          exact g_inv (C := M) hi hm (by omega) ok4 (fun b' hb' => by rw [← (g4 b' (by omega)).1]; exact nb b' hb')
    · rw [(BE M hm (by omega) hc).2 q2] at RM
      dsimp only [Option.bind_some] at RM
      rw [if_pos rfl] at RM
      rw [bury_no hm13 (by omega) (fun h => q2 ⟨fun b' hb' => (cells b' hb').mp (h.2 b' hb'), by rw [a_l]; exact h.1.1, by rw [a_l, ← hc3]; exact h.1.2.1⟩)]
      exact FIN _ RM
  · rw [if_pos (by rw [a_lt]; omega)] at RM
    rw [if_neg (by rw [a_lt]; omega)]
    exact FIN _ RM
end OPS
