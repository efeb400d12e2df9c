/-! ===== part 63: bells ===== -/
theorem g_cm {X : I_M} {c n z k c' n' z' k' : Int32} : g_rad (g_cad X c n z k) c' n' z' k' = g_cad (g_rad X c' n' z' k') c n z k := by
  refine m_ext (fun x y => ?_) rfl
  unfold g_rad g_cad
  show (i_wI (i_wI (i_wI (i_wI (i_wI (i_wI (i_wI (i_wI (i_wI (i_wI X 14 (Int32.toNatClampNeg (X.1 13 6)) c) 15 (Int32.toNatClampNeg (X.1 13 6)) n) 16 (Int32.toNatClampNeg (X.1 13 6)) z) 17 (Int32.toNatClampNeg (X.1 13 6)) k) 13 6 ((X.1 13 6) + (1 : Int32))) 55 (Int32.toNatClampNeg (X.1 50 8)) c') 56 (Int32.toNatClampNeg (X.1 50 8)) n') 51 (Int32.toNatClampNeg ((50 : Int32) + (X.1 50 8))) z') 57 (Int32.toNatClampNeg (X.1 50 8)) k') 50 8 ((X.1 50 8) + (1 : Int32))).1 x y = (i_wI (i_wI (i_wI (i_wI (i_wI (i_wI (i_wI (i_wI (i_wI (i_wI X 55 (Int32.toNatClampNeg (X.1 50 8)) c') 56 (Int32.toNatClampNeg (X.1 50 8)) n') 51 (Int32.toNatClampNeg ((50 : Int32) + (X.1 50 8))) z') 57 (Int32.toNatClampNeg (X.1 50 8)) k') 50 8 ((X.1 50 8) + (1 : Int32))) 14 (Int32.toNatClampNeg (X.1 13 6)) c) 15 (Int32.toNatClampNeg (X.1 13 6)) n) 16 (Int32.toNatClampNeg (X.1 13 6)) z) 17 (Int32.toNatClampNeg (X.1 13 6)) k) 13 6 ((X.1 13 6) + (1 : Int32))).1 x y
  simp only [m_wI]
  by_cases h13 : x = 13
  · subst h13; simp
  by_cases h14 : x = 14
  · subst h14; simp
  by_cases h15 : x = 15
  · subst h15; simp
  by_cases h16 : x = 16
  · subst h16; simp
  by_cases h17 : x = 17
  · subst h17; simp
  simp [h13, h14, h15, h16, h17]
def g_cA (c n z k : Nat → Int32) : Nat → I_M → I_M
  | 0, M => M
  | j + 1, M => g_cad (g_cA c n z k j M) (c j) (n j) (z j) (k j)
def g_rA (c n z k : Nat → Int32) : Nat → I_M → I_M
  | 0, M => M
  | j + 1, M => g_rad (g_rA c n z k j M) (c j) (n j) (z j) (k j)
section BLS
variable {c n z k : Nat → Int32} {M X Y : I_M}
theorem g_rAc : ∀ j (X : I_M) (c' n' z' k' : Int32), g_rA c n z k j (g_cad X c' n' z' k') = g_cad (g_rA c n z k j X) c' n' z' k' := by
  intro j
  induction j with
  | zero => exact fun _ _ _ _ _ => rfl
  | succ j ih =>
    intro X c' n' z' k'
    show g_rad (g_rA c n z k j (g_cad X c' n' z' k')) _ _ _ _ = g_cad (g_rad (g_rA c n z k j X) _ _ _ _) _ _ _ _
    rw [ih, g_cm]
theorem g_rlo {c' n' z' k' : Int32} {q : Nat} (hq : q < 50) : (g_rad X c' n' z' k').1 q = X.1 q := by
  funext y
  unfold g_rad
  simp only [m_wI]
  rw [if_neg (by omega), if_neg (by omega), if_neg (by omega), if_neg (by omega), if_neg (by omega)]
theorem g_chi {c' n' z' k' : Int32} {q : Nat} (hq : 18 ≤ q ∨ q < 13) : (g_cad X c' n' z' k').1 q = X.1 q := by
  funext y
  unfold g_cad
  simp only [m_wI]
  rw [if_neg (by omega), if_neg (by omega), if_neg (by omega), if_neg (by omega), if_neg (by omega)]
theorem g_rAlo {q : Nat} (hq : q < 50) : ∀ j, (g_rA c n z k j X).1 q = X.1 q := by
  intro j
  induction j with
  | zero => rfl
  | succ j ih => exact (g_rlo hq).trans ih
theorem g_cAhi {q : Nat} (hq : 18 ≤ q ∨ q < 13) : ∀ j, (g_cA c n z k j X).1 q = X.1 q := by
  intro j
  induction j with
  | zero => rfl
  | succ j ih => exact (g_chi hq).trans ih
theorem g_rA2 : ∀ j, (g_rA c n z k j X).2 = X.2 := by
  intro j
  induction j with
  | zero => rfl
  | succ j ih => exact ih
theorem g_cA2 : ∀ j, (g_cA c n z k j X).2 = X.2 := by
  intro j
  induction j with
  | zero => rfl
  | succ j ih => exact ih
theorem g_rAhi (h : ∀ q, 50 ≤ q → X.1 q = Y.1 q) : ∀ j q, 50 ≤ q → (g_rA c n z k j X).1 q = (g_rA c n z k j Y).1 q := by
  intro j
  induction j with
  | zero => exact h
  | succ j ih =>
    intro q hq
    funext y
    show (g_rad (g_rA c n z k j X) (c j) (n j) (z j) (k j)).1 q y = (g_rad (g_rA c n z k j Y) (c j) (n j) (z j) (k j)).1 q y
    unfold g_rad
    simp only [m_wI]
    rw [ih 50 (by omega), ih q hq]
end BLS
theorem a_32 {x : Int64} (h : -128 ≤ x.toInt) (h2 : x.toInt ≤ 127) : (Int64.toInt32 x).toInt = x.toInt := by
  rw [Int64.toInt_toInt32]
  exact a_bm (by omega) (by omega)
section OPS
variable {a b c : Int32}
variable {L : Int32 → Int32 → Int32 → (Nat → Int32) → (Nat → Int32) → Prop}
theorem place_e {M : I_M} (ha : 0 ≤ a.toInt) (ha2 : a.toInt < 6) : b_Shelves_hasPlace a b M = some (i_bo (0 ≤ b.toInt ∧ b.toInt < (M.1 43 (Int32.toNatClampNeg a)).toInt), M) := by
  unfold b_Shelves_hasPlace
  have l0 := Int32.toInt_zero
  by_cases h1 : b.toInt < 0
  · rw [if_pos (by rw [a_lt]; omega), bo_n (by omega)]
  rw [if_neg (by rw [a_lt]; omega), g_ok ha (by omega)]
  by_cases h2 : b.toInt < (M.1 43 (Int32.toNatClampNeg a)).toInt
  · rw [if_pos (by rw [a_lt]; omega), bo_p (by omega)]
  · rw [if_neg (by rw [a_lt]; omega), bo_n (by omega)]
def g_q (M : I_M) (s u : Nat) (t : Nat) : Int32 := Int64.toInt32 (M.2 72 (s + 4 * t + u))
def g_C (M : I_M) (s j : Nat) : I_M := g_cA (g_q M s 0) (g_q M s 1) (g_q M s 2) (g_q M s 3) j M
def g_R (M : I_M) (s j : Nat) (X : I_M) : I_M := g_rA (g_q M s 0) (g_q M s 1) (g_q M s 2) (g_q M s 3) j X
def g_V (M : I_M) (s nb t : Nat) : Prop := nb + t < 6 ∧ g_ok4 (i_ce (M.1 50 6) (M.1 50 7)) (g_q M s 0 t) (g_q M s 1 t) (g_q M s 2 t) (g_q M s 3 t) ∧ ∀ b, b < nb + t → (g_R M s t (g_C M s t)).1 55 b ≠ g_q M s 0 t
theorem g_D {M : I_M} (h : INV L M) {s nb : Nat} (hm : (M.1 50 8).toInt = nb) : ∀ j, (∀ t, t < j → g_V M s nb t) → INV L (g_R M s j (g_C M s j)) ∧ ((g_R M s j (g_C M s j)).1 50 8).toInt = ((nb + j : Nat) : Int) := by
  intro j
  induction j with
  | zero => exact fun _ => ⟨h, hm⟩
  | succ j ih =>
    intro hV
    obtain ⟨i1, i2⟩ := ih (fun t ht => hV t (by omega))
    obtain ⟨v1, v2, v3⟩ := hV j (by omega)
    have e : g_R M s (j + 1) (g_C M s (j + 1)) = g_rad (g_cad (g_R M s j (g_C M s j)) (g_q M s 0 j) (g_q M s 1 j) (g_q M s 2 j) (g_q M s 3 j)) (g_q M s 0 j) (g_q M s 1 j) (g_q M s 2 j) (g_q M s 3 j) := by
      show g_rad (g_rA _ _ _ _ j (g_cad (g_cA _ _ _ _ j M) _ _ _ _)) _ _ _ _ = _
      rw [g_rAc]
      rfl
    have e6 : ∀ q, (q = 6 ∨ q = 7) → (g_R M s j (g_C M s j)).1 50 q = M.1 50 q := by
      intro q hq
      clear e i1 i2 v1 v2 v3 hV ih
      have key : ∀ j X, (g_rA (g_q M s 0) (g_q M s 1) (g_q M s 2) (g_q M s 3) j X).1 50 q = X.1 50 q := by
        intro j X
        induction j with
        | zero => rfl
        | succ j ih =>
          show (g_rad (g_rA _ _ _ _ j X) _ _ _ _).1 50 q = _
          unfold g_rad
          simp only [m_wI]
          rw [if_neg (by omega), if_neg (by omega), if_neg (by omega), if_neg (by omega), if_neg (by omega)]
          exact ih
      unfold g_R
      rw [key]
      exact congrFun (g_cAhi (Or.inl (by omega)) j) q
    have hI := g_inv (C := M) i1 i2 v1 (by rw [e6 6 (Or.inl rfl), e6 7 (Or.inr rfl)]; exact v2) v3
    rw [e]
    refine ⟨hI, ?_⟩
    show ((g_R M s j (g_C M s j)).1 50 8 + 1).toInt = _
    rw [a_a1 (by omega), i2]
    omega
end OPS
