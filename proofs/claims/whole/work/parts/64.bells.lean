/-! ===== part 64: bells, the loops ===== -/
section OPS
variable {a b c : Int32}
variable {L : Int32 → Int32 → Int32 → (Nat → Int32) → (Nat → Int32) → Prop}
/-- the four at t is whole and comes -/
def g_W (M : I_M) (s nb I t : Nat) (len : Int) : Prop := ((I + 4 * t + 3 : Nat) : Int) < len ∧ g_V M s nb t
/-- what is known of a row of bytes -/
def g_H (M : I_M) (a b : Int32) (nb I : Nat) : Prop := 0 ≤ a.toInt ∧ a.toInt < 6 ∧ b.toInt = I ∧ (M.1 50 8).toInt = nb ∧ (M.1 42 (Int32.toNatClampNeg a)).toInt = 0 ∧ (M.1 70 (Int32.toNatClampNeg a)).toInt = 50
theorem bl_len {M : I_M} {nb I : Nat} (h : INV L M) (hH : g_H M a b nb I) : (M.1 43 (Int32.toNatClampNeg a)).toInt = (M.1 71 (Int32.toNatClampNeg a)).toInt ∧ 0 ≤ (M.1 71 (Int32.toNatClampNeg a)).toInt ∧ (M.1 71 (Int32.toNatClampNeg a)).toInt ≤ 60 ∧ nb ≤ 6 ∧ ∀ k : Nat, (k : Int) < (M.1 71 (Int32.toNatClampNeg a)).toInt → M.2 45 (60 * Int32.toNatClampNeg a + k) = M.2 72 (60 * Int32.toNatClampNeg a + k) ∧ -128 ≤ (M.2 72 (60 * Int32.toNatClampNeg a + k)).toInt ∧ (M.2 72 (60 * Int32.toNatClampNeg a + k)).toInt ≤ 127 := by
  obtain ⟨h1, h2, h3, h4, h5, h6⟩ := hH
  obtain ⟨hLa, hMa, hBe, hFo, hTa, hLw, hHe, hIm, hCh, hVi, hBo, hRa, hSh⟩ := h
  obtain ⟨s1, s2, s3, s4, s5⟩ := hSh (Int32.toNatClampNeg a) (by rw [a_n]; omega)
  have := hBe.2.2.1
  refine ⟨congrArg Int32.toInt s1, s2, s3, by omega, fun k hk => ?_⟩
  exact ⟨(s4 k hk).1, (s4 k hk).2 h5⟩
theorem bl_come {M : I_M} {nb I t : Nat} (h : INV L M) (hH : g_H M a b nb I) (ht : t < 6) (hV : ∀ u, u < t → g_V M (60 * Int32.toNatClampNeg a + I) nb u) :
    (g_W M (60 * Int32.toNatClampNeg a + I) nb I t (M.1 71 (Int32.toNatClampNeg a)).toInt → b_comesFrom a b (Int32.ofNat t) (g_C M (60 * Int32.toNatClampNeg a + I) t) = some (1, g_C M (60 * Int32.toNatClampNeg a + I) (t + 1))) ∧
    (¬ g_W M (60 * Int32.toNatClampNeg a + I) nb I t (M.1 71 (Int32.toNatClampNeg a)).toInt → b_comesFrom a b (Int32.ofNat t) (g_C M (60 * Int32.toNatClampNeg a + I) t) = some (0, g_C M (60 * Int32.toNatClampNeg a + I) t)) := by
  obtain ⟨e1, e2, e3, e4, e5⟩ := bl_len h hH
  obtain ⟨h1, h2, h3, h4, h5, h6⟩ := hH
  generalize hA : Int32.toNatClampNeg a = A at *
  have nA : (A : Int) = a.toInt := by rw [← hA, a_n]; omega
  generalize hs : 60 * A + I = s at *
  obtain ⟨D1, D2⟩ := g_D h h4 t hV
  have l3 : (3 : Int32).toInt = 3 := rfl
  have l2 : (2 : Int32).toInt = 2 := rfl
  have l4 : (4 : Int32).toInt = 4 := rfl
  have l0 := Int32.toInt_zero
  have et : (Int32.ofNat t).toInt = t := a_on (by omega)
  -- what the class's memory holds
  have c43 : (g_C M s t).1 43 = M.1 43 := g_cAhi (Or.inl (by omega)) t
  have c1 : (g_C M s t).1 1 = M.1 1 := g_cAhi (Or.inr (by omega)) t
  have cL : (g_C M s t).2 = M.2 := g_cA2 t
  have r13 : (g_R M s t (g_C M s t)).1 13 = (g_C M s t).1 13 := g_rAlo (by omega) t
  have r14 : (g_R M s t (g_C M s t)).1 14 = (g_C M s t).1 14 := g_rAlo (by omega) t
  have c13 : ((g_C M s t).1 13 6).toInt = ((nb + t : Nat) : Int) := by rw [← r13, D1.2.2.1.1]; exact D2
  have hce : i_ce ((g_C M s t).1 1 0) ((g_C M s t).1 1 1) = i_ce (M.1 50 6) (M.1 50 7) := by rw [c1]; exact (N_land_ce h.1).2.2
  have nb6 : nb + t ≤ 6 := by
    have := D1.2.2.1.2.2.1
    omega
  have c14 : ∀ b', b' < nb + t → (g_C M s t).1 14 b' = (g_R M s t (g_C M s t)).1 55 b' := by
    intro b' hb'
    rw [← r14]
    exact (D1.2.2.1.2.2.2.1 b' (by omega)).1
  have hlen : ((g_C M s t).1 43 A).toInt = (M.1 71 A).toInt := by rw [c43]; exact e1
  have Z : ∀ P : Prop, ¬ P → (P → b_comesFrom a b (Int32.ofNat t) (g_C M s t) = some (1, g_C M s (t + 1))) := fun P hp h => absurd h hp
  unfold b_comesFrom
  rw [place_e h1 h2, hA, hlen]
  dsimp only [Option.bind_some]
  by_cases p1 : (I : Int) < (M.1 71 A).toInt
  · have k1 : (4 * Int32.ofNat t).toInt = 4 * t := by rw [a_mul] <;> rw [l4, et] <;> omega
    have k2 : (b + 4 * Int32.ofNat t).toInt = ((I + 4 * t : Nat) : Int) := by rw [a_add] <;> omega
    have k3 : (b + 4 * Int32.ofNat t + 3).toInt = ((I + 4 * t + 3 : Nat) : Int) := by rw [a_add] <;> omega
    have k4 : (b + 4 * Int32.ofNat t + 2).toInt = ((I + 4 * t + 2 : Nat) : Int) := by rw [a_add] <;> omega
    have k5 : (b + 4 * Int32.ofNat t + 1).toInt = ((I + 4 * t + 1 : Nat) : Int) := by rw [a_a1 (by omega)]; omega
    rw [bo_p (by omega), if_neg (by decide), place_e h1 h2, hA, hlen, k3]
    dsimp only [Option.bind_some]
    by_cases p2 : ((I + 4 * t + 3 : Nat) : Int) < (M.1 71 A).toInt
    · rw [bo_p (by omega), if_neg (by decide)]
      have G : ∀ (x : Int32) (u : Nat), x.toInt = ((I + 4 * t + u : Nat) : Int) → u ≤ 3 → b_Shelves_get a x (g_C M s t) = some (M.2 72 (s + 4 * t + u), g_C M s t) := by
        intro x u hx hu
        have ka := a_60p h1 h2 (b := x) (by omega) (by omega)
        unfold b_Shelves_get
        rw [g_ok (by omega) (by omega), cL, a_k (n := 60 * A + (I + 4 * t + u)) (by omega), (e5 (I + 4 * t + u) (by omega)).1, show 60 * A + (I + 4 * t + u) = s + 4 * t + u by omega]
      rw [G _ 0 (by omega) (by omega)]
      dsimp only [Option.bind_some]
      rw [G _ 1 (by omega) (by omega)]
      dsimp only [Option.bind_some]
      rw [G _ 2 (by omega) (by omega)]
      dsimp only [Option.bind_some]
      rw [G _ 3 (by omega) (by omega)]
      dsimp only [Option.bind_some]
      show (g_W M s nb I t (M.1 71 A).toInt → Option.bind (b_Buried_bury (g_q M s 0 t) (g_q M s 1 t) (g_q M s 2 t) (g_q M s 3 t) (g_C M s t)) (fun q9 => if q9.1 < 0 then some ((0 : Int32), q9.2) else some ((1 : Int32), q9.2)) = some (1, g_C M s (t + 1))) ∧ (¬ g_W M s nb I t (M.1 71 A).toInt → Option.bind (b_Buried_bury (g_q M s 0 t) (g_q M s 1 t) (g_q M s 2 t) (g_q M s 3 t) (g_C M s t)) (fun q9 => if q9.1 < 0 then some ((0 : Int32), q9.2) else some ((1 : Int32), q9.2)) = some (0, g_C M s t))
      constructor
      · rintro ⟨_, v1, v2, v3⟩
        rw [bury_ok c13 v1 (by rw [hce]; exact v2) (fun b' hb' => by rw [c14 b' hb']; exact v3 b' hb')]
        dsimp only [Option.bind_some]
        rw [if_neg (by rw [a_lt]; omega)]
        rfl
      · intro hn
        by_cases w1 : g_ok4 (i_ce (M.1 50 6) (M.1 50 7)) (g_q M s 0 t) (g_q M s 1 t) (g_q M s 2 t) (g_q M s 3 t) ∧ ∀ b', b' < nb + t → (g_C M s t).1 14 b' ≠ g_q M s 0 t
        · by_cases w2 : nb + t < 6
          · exact absurd ⟨p2, w2, w1.1, fun b' hb' => by rw [← c14 b' hb']; exact w1.2 b' hb'⟩ hn
          · rw [bury_full (by omega) (by rw [hce]; exact w1.1) (fun b' hb' => w1.2 b' (by omega))]
            dsimp only [Option.bind_some]
            rw [if_pos (by decide)]
        · rw [bury_no c13 nb6 (by rw [hce]; exact w1)]
          dsimp only [Option.bind_some]
          rw [if_pos (by decide)]
    · rw [bo_n (by omega), if_pos rfl]
      exact ⟨fun h => absurd h.1 p2, fun _ => rfl⟩
  · rw [bo_n (by omega), if_pos rfl]
    exact ⟨fun h => by have := h.1; omega, fun _ => rfl⟩
theorem bl_b {M : I_M} {nb I n : Nat} (h : INV L M) (hH : g_H M a b nb I) (hn : c.toInt = n) (h6 : n ≤ 6) : ∀ (m t F : Nat), n = t + m → m < F → (∀ u, u < t → g_W M (60 * Int32.toNatClampNeg a + I) nb I u (M.1 71 (Int32.toNatClampNeg a)).toInt) →
    T (b_bells_L55 a b c F (Int32.ofNat t) (g_C M (60 * Int32.toNatClampNeg a + I) t)) (fun r => ∃ J, J ≤ n ∧ (∀ u, u < J → g_W M (60 * Int32.toNatClampNeg a + I) nb I u (M.1 71 (Int32.toNatClampNeg a)).toInt) ∧ (J = n ∨ ¬ g_W M (60 * Int32.toNatClampNeg a + I) nb I J (M.1 71 (Int32.toNatClampNeg a)).toInt) ∧ r = (Int32.ofNat J, g_C M (60 * Int32.toNatClampNeg a + I) J)) := by
  intro m
  induction m with
  | zero =>
    intro t F h1 h2 hV
    obtain ⟨F, rfl⟩ : ∃ k, F = k + 1 := ⟨F - 1, by omega⟩
    have et : (Int32.ofNat t).toInt = t := a_on (by omega)
    unfold b_bells_L55
    rw [if_neg (by rw [a_lt]; omega)]
    exact T_some ⟨t, by omega, hV, Or.inl (by omega), rfl⟩
  | succ m ih =>
    intro t F h1 h2 hV
    obtain ⟨F, rfl⟩ : ∃ k, F = k + 1 := ⟨F - 1, by omega⟩
    have et : (Int32.ofNat t).toInt = t := a_on (by omega)
    obtain ⟨k1, k2⟩ := bl_come (t := t) h hH (by omega) (fun u hu => (hV u hu).2)
    unfold b_bells_L55
    rw [if_pos (by rw [a_lt]; omega)]
    by_cases w : g_W M (60 * Int32.toNatClampNeg a + I) nb I t (M.1 71 (Int32.toNatClampNeg a)).toInt
    · rw [k1 w]
      dsimp only [Option.bind_some]
      rw [if_neg (by decide), of_add et (by omega)]
      refine ih (t + 1) F (by omega) (by omega) (fun u hu => ?_)
      by_cases q : u = t
      · rw [q]
        exact w
      · exact hV u (by omega)
    · rw [k2 w]
      dsimp only [Option.bind_some]
      rw [if_pos rfl]
      exact T_some ⟨t, by omega, hV, Or.inr w, rfl⟩
theorem bl_r {M : I_M} {nb I n J : Nat} (h : INV L M) (hH : g_H M a b nb I) (hn : c.toInt = n) (h6 : n ≤ 6) (hJ : J ≤ n) (hV : ∀ u, u < J → g_W M (60 * Int32.toNatClampNeg a + I) nb I u (M.1 71 (Int32.toNatClampNeg a)).toInt) (hE : J = n ∨ ¬ g_W M (60 * Int32.toNatClampNeg a + I) nb I J (M.1 71 (Int32.toNatClampNeg a)).toInt) : ∀ (m t F : Nat), J = t + m → m + 1 < F →
    T (r_bells_L69 a b c F (Int32.ofNat t) 1 (g_R M (60 * Int32.toNatClampNeg a + I) t (g_C M (60 * Int32.toNatClampNeg a + I) J))) (fun r => r = (Int32.ofNat J, g_R M (60 * Int32.toNatClampNeg a + I) J (g_C M (60 * Int32.toNatClampNeg a + I) J))) := by
  obtain ⟨e1, e2, e3, e4, e5⟩ := bl_len h hH
  obtain ⟨h1, h2, h3, h4, h5, h6'⟩ := hH
  generalize hA : Int32.toNatClampNeg a = A at *
  have nA : (A : Int) = a.toInt := by rw [← hA, a_n]; omega
  generalize hs : 60 * A + I = s at *
  have l3 : (3 : Int32).toInt = 3 := rfl
  have l2 : (2 : Int32).toInt = 2 := rfl
  have l4 : (4 : Int32).toInt = 4 := rfl
  have l6 := l_6
  have L9 : (9 : Int64).toInt = 9 := rfl
  have L1 : (1 : Int64).toInt = 1 := rfl
  have hce := (N_land_ce h.1).1
  -- one turn
  have TURN : ∀ (t F : Nat), t ≤ J → t < n → 1 ≤ F →
      (g_W M s nb I t (M.1 71 A).toInt → T (r_bells_L69 a b c F (Int32.ofNat (t + 1)) 1 (g_R M s (t + 1) (g_C M s J))) (fun r => r = (Int32.ofNat J, g_R M s J (g_C M s J))) → T (r_bells_L69 a b c (F + 1) (Int32.ofNat t) 1 (g_R M s t (g_C M s J))) (fun r => r = (Int32.ofNat J, g_R M s J (g_C M s J)))) ∧
      (¬ g_W M s nb I t (M.1 71 A).toInt → T (r_bells_L69 a b c (F + 1) (Int32.ofNat t) 1 (g_R M s t (g_C M s J))) (fun r => r = (Int32.ofNat t, g_R M s t (g_C M s J)))) := by
    intro t F ht htn hF
    obtain ⟨F, rfl⟩ : ∃ k, F = k + 1 := ⟨F - 1, by omega⟩
    obtain ⟨D1, D2⟩ := g_D h h4 t (fun u hu => (hV u (by omega)).2)
    have nb6 : nb + t ≤ 6 := by
      have := D1.2.2.1.2.2.1
      omega
    have et : (Int32.ofNat t).toInt = t := a_on (by omega)
    obtain ⟨X, hX⟩ : ∃ X, X = g_R M s t (g_C M s J) := ⟨_, rfl⟩
    rw [← hX]
    have xhi : ∀ q, 50 ≤ q → X.1 q = (g_R M s t (g_C M s t)).1 q := by
      intro q hq
      rw [hX]
      refine g_rAhi (fun q hq => ?_) t q hq
      exact (g_cAhi (Or.inl (by omega)) J).trans (g_cAhi (Or.inl (by omega)) t).symm
    have x71 : X.1 71 = M.1 71 := by
      have key : ∀ j Y, (g_rA (g_q M s 0) (g_q M s 1) (g_q M s 2) (g_q M s 3) j Y).1 71 = Y.1 71 := by
        intro j Y
        induction j with
        | zero => rfl
        | succ j ih =>
          funext y
          show (g_rad (g_rA _ _ _ _ j Y) _ _ _ _).1 71 y = _
          unfold g_rad
          simp only [m_wI]
          rw [if_neg (by omega), if_neg (by omega), if_neg (by omega), if_neg (by omega), if_neg (by omega), ih]
      rw [hX]
      exact (key t _).trans (g_cAhi (Or.inl (by omega)) J)
    have xL : X.2 = M.2 := by
      rw [hX]
      exact (g_rA2 t).trans (g_cA2 J)
    have x8 : (X.1 50 8).toInt = ((nb + t : Nat) : Int) := by
      rw [xhi 50 (by omega)]
      exact D2
    have x67 : i_ce (X.1 50 6) (X.1 50 7) = i_ce (M.1 50 6) (M.1 50 7) := by
      have key : ∀ q, (q = 6 ∨ q = 7) → ∀ j Y, (g_rA (g_q M s 0) (g_q M s 1) (g_q M s 2) (g_q M s 3) j Y).1 50 q = Y.1 50 q := by
        intro q hq j Y
        induction j with
        | zero => rfl
        | succ j ih =>
          show (g_rad (g_rA _ _ _ _ j Y) _ _ _ _).1 50 q = _
          unfold g_rad
          simp only [m_wI]
          rw [if_neg (by omega), if_neg (by omega), if_neg (by omega), if_neg (by omega), if_neg (by omega), ih]
      have c50 : (g_C M s J).1 50 = M.1 50 := g_cAhi (Or.inl (by omega)) J
      rw [hX]
      unfold g_R
      rw [key 6 (Or.inl rfl), key 7 (Or.inr rfl), c50]
    have k1 : (4 * Int32.ofNat t).toInt = 4 * t := by rw [a_mul] <;> rw [l4, et] <;> omega
    have m1 : (M.1 71 A - 4).toInt = (M.1 71 A).toInt - 4 := by rw [a_sub] <;> omega
    have m2 : (M.1 71 A - 4 - 4 * Int32.ofNat t).toInt = (M.1 71 A).toInt - 4 - 4 * t := by rw [a_sub] <;> omega
    -- a turn that ends it
    have STOP : T (r_bells_B111 (r_bells_L69 a b c (F + 1)) a b c (Int32.ofNat t) 0 X) (fun r => r = (Int32.ofNat t, X)) := by
      unfold r_bells_B111 r_bells_B205
      rw [if_pos rfl, if_pos rfl]
      unfold r_bells_L69
      rw [if_pos rfl]
      exact T_some rfl
    have STOP2 : ∀ l6, T (r_bells_B205 (r_bells_L69 a b c (F + 1)) a b c (Int32.ofNat t) l6 0 X) (fun r => r = (Int32.ofNat t, X)) := by
      intro l6
      unfold r_bells_B205
      rw [if_pos rfl]
      unfold r_bells_L69
      rw [if_pos rfl]
      exact T_some rfl
    have OPEN : ∀ {P : Int32 × I_M → Prop}, ((M.1 71 A).toInt - 4 - 4 * t < (I : Int) → T (r_bells_B111 (r_bells_L69 a b c (F + 1)) a b c (Int32.ofNat t) 0 X) P) → (¬ (M.1 71 A).toInt - 4 - 4 * t < (I : Int) → nb + t < 6 → T (r_bells_B111 (r_bells_L69 a b c (F + 1)) a b c (Int32.ofNat t) 1 X) P) → (¬ (M.1 71 A).toInt - 4 - 4 * t < (I : Int) → ¬ nb + t < 6 → T (r_bells_B111 (r_bells_L69 a b c (F + 1)) a b c (Int32.ofNat t) 0 X) P) → T (r_bells_L69 a b c (F + 1 + 1) (Int32.ofNat t) 1 X) P := by
      intro P o1 o2 o3
      rw [r_bells_L69, if_neg (by decide), if_pos (by rw [a_lt]; omega), g_ok h1 (by omega), hA, x71]
      by_cases w1 : (M.1 71 A).toInt - 4 - 4 * t < (I : Int)
      · rw [if_pos (by rw [a_lt]; omega)]
        exact o1 w1
      · rw [if_neg (by rw [a_lt]; omega)]
        by_cases w2 : nb + t < 6
        · rw [if_pos (by rw [a_lt]; omega)]
          exact o2 w1 w2
        · rw [if_neg (by rw [a_lt]; omega)]
          exact o3 w1 w2
    -- a four that lies there
    have FOUR : ¬ (M.1 71 A).toInt - 4 - 4 * t < (I : Int) → nb + t < 6 → ∀ {P : Int32 × I_M → Prop}, (¬ g_W M s nb I t (M.1 71 A).toInt → P (Int32.ofNat t, X)) → (g_W M s nb I t (M.1 71 A).toInt → T (r_bells_L69 a b c (F + 1) (Int32.ofNat (t + 1)) 1 (g_R M s (t + 1) (g_C M s J))) P) → T (r_bells_B111 (r_bells_L69 a b c (F + 1)) a b c (Int32.ofNat t) 1 X) P := by
      intro w1 w2 P hno hyes
      have ka := a_60p h1 h2 (b := b) (by omega) (by omega)
      have i0 : (60 * a + b + 4 * Int32.ofNat t).toInt = ((s + 4 * t : Nat) : Int) := by rw [a_add] <;> omega
      have i1 : (60 * a + b + 4 * Int32.ofNat t + 1).toInt = ((s + 4 * t + 1 : Nat) : Int) := by rw [a_a1 (by omega)]; omega
      have i2 : (60 * a + b + 4 * Int32.ofNat t + 2).toInt = ((s + 4 * t + 2 : Nat) : Int) := by rw [a_add] <;> omega
      have i3 : (60 * a + b + 4 * Int32.ofNat t + 3).toInt = ((s + 4 * t + 3 : Nat) : Int) := by rw [a_add] <;> omega
      have V : ∀ u, u ≤ 3 → (g_q M s u t).toInt = (M.2 72 (s + 4 * t + u)).toInt := by
        intro u hu
        have := (e5 (I + 4 * t + u) (by omega)).2
        rw [show 60 * A + (I + 4 * t + u) = s + 4 * t + u by omega] at this
        exact a_32 this.1 this.2
      have v0 := V 0 (by omega)
      have v1 := V 1 (by omega)
      have v2 := V 2 (by omega)
      have v3 := V 3 (by omega)
      have v0 : (g_q M s 0 t).toInt = (M.2 72 (s + 4 * t)).toInt := v0
      have hno' : ∀ l6, ¬ g_W M s nb I t (M.1 71 A).toInt → T (r_bells_B205 (r_bells_L69 a b c (F + 1)) a b c (Int32.ofNat t) l6 0 X) P := fun l6 hw => T_mono (STOP2 l6) (fun r hr => by rw [hr]; exact hno hw)
      unfold r_bells_B111
      rw [if_neg (by decide), g_ok (by omega) (by omega), a_k i0, xL]
      have BE := bare_e (N := X) (x := M.2 72 (s + 4 * t)) (m := nb + t) x8 nb6 (by rw [x67]; exact hce)
      rw [x67] at BE
      by_cases q1 : (∀ b', b' < nb + t → (X.1 55 b').toInt ≠ (M.2 72 (s + 4 * t)).toInt) ∧ 0 ≤ (M.2 72 (s + 4 * t)).toInt ∧ (M.2 72 (s + 4 * t)).toInt < i_ce (M.1 50 6) (M.1 50 7)
      · rw [BE.1 q1]
        dsimp only [Option.bind_some]
        rw [if_neg (by decide), g_ok (by omega) (by omega), a_k i1, xL, r_within_e, L9, Int64.toInt_zero]
        dsimp only [Option.bind_some]
        by_cases q2 : 0 ≤ (M.2 72 (s + 4 * t + 1)).toInt ∧ (M.2 72 (s + 4 * t + 1)).toInt ≤ 9
        · rw [bo_p q2, if_neg (by decide), g_ok (by omega) (by omega), a_k i2, xL, r_within_e, L9, Int64.toInt_zero]
          dsimp only [Option.bind_some]
          by_cases q3 : 0 ≤ (M.2 72 (s + 4 * t + 2)).toInt ∧ (M.2 72 (s + 4 * t + 2)).toInt ≤ 9
          · rw [bo_p q3, if_neg (by decide), g_ok (by omega) (by omega), a_k i3, xL, r_within_e, L1, Int64.toInt_zero]
            dsimp only [Option.bind_some]
            by_cases q4 : 0 ≤ (M.2 72 (s + 4 * t + 3)).toInt ∧ (M.2 72 (s + 4 * t + 3)).toInt ≤ 1
            · rw [bo_p q4, if_neg (by decide)]
              have hw : g_W M s nb I t (M.1 71 A).toInt := by
                refine ⟨by omega, w2, ⟨by omega, by omega, by omega, by omega, by omega, by omega, by omega, by omega⟩, fun b' hb' => ?_⟩
                rw [← xhi 55 (by omega), Ne, a_eq, v0]
                exact q1.1 b' hb'
              unfold r_bells_B205
              rw [if_neg (by decide), g_ok (by omega) (by omega), g_ok (by omega) (by omega), g_ok (by omega) (by omega), g_ok (by omega) (by omega), a_k i0, a_k i1, a_k i2, a_k i3, xL, adds_e x8 w2]
              dsimp only [Option.bind_some]
              rw [of_add et (by omega)]
              have e : g_R M s (t + 1) (g_C M s J) = g_rad X (g_q M s 0 t) (g_q M s 1 t) (g_q M s 2 t) (g_q M s 3 t) := by rw [hX]; rfl
              have hy := hyes hw
              rw [e] at hy
              exact hy
            · rw [bo_n q4, if_pos rfl]
              exact hno' _ (fun h => q4 (by have := h.2.2.1; unfold g_ok4 at this; omega))
          · rw [bo_n q3, if_pos rfl]
            exact hno' _ (fun h => q3 (by have := h.2.2.1; unfold g_ok4 at this; omega))
        · rw [bo_n q2, if_pos rfl]
          exact hno' _ (fun h => q2 (by have := h.2.2.1; unfold g_ok4 at this; omega))
      · rw [BE.2 q1]
        dsimp only [Option.bind_some]
        rw [if_pos rfl]
        refine hno' _ (fun h => q1 ?_)
        obtain ⟨_, _, u1, u2⟩ := h
        refine ⟨fun b' hb' => ?_, by have := u1.1; omega, by have := u1.2.1; omega⟩
        have := u2 b' hb'
        rw [← xhi 55 (by omega), Ne, a_eq, v0] at this
        exact this
    constructor
    · intro hw hk
      refine OPEN (fun w1 => ?_) (fun w1 w2 => FOUR w1 w2 (fun hn => absurd hw hn) (fun _ => hk)) (fun _ w2 => absurd hw.2.1 w2)
      have := hw.1
      omega
    · intro hw
      exact OPEN (fun w1 => STOP) (fun w1 w2 => FOUR w1 w2 (fun _ => rfl) (fun h => absurd h hw)) (fun _ _ => STOP)
  intro m
  induction m with
  | zero =>
    intro t F q1 q2
    have : t = J := by omega
    subst this
    obtain ⟨F, rfl⟩ : ∃ k, F = k + 1 + 1 := ⟨F - 2, by omega⟩
    have et : (Int32.ofNat t).toInt = t := a_on (by omega)
    by_cases g : t < n
    · rcases hE with hE | hE
      · omega
      · exact (TURN t (F + 1) (by omega) g (by omega)).2 hE
    · unfold r_bells_L69
      rw [if_neg (by decide), if_neg (by rw [a_lt]; omega)]
      exact T_some rfl
  | succ m ih =>
    intro t F q1 q2
    obtain ⟨F, rfl⟩ : ∃ k, F = k + 1 := ⟨F - 1, by omega⟩
    exact (TURN t F (by omega) (by omega) (by omega)).1 (hV t (by omega)) (ih (t + 1) F (by omega) (by omega))
end OPS
