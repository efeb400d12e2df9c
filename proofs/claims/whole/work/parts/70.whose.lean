/-! ===== part 70: whose ===== -/
def w_d (x t : Int) : Int := if x - t < 0 then t - x else x - t
def w_D (M : I_M) (A : Nat) (t : Int) (i : Nat) : Int := w_d (M.2 72 (60 * A + i + 3)).toInt (t % 10) + w_d (M.2 72 (60 * A + i + 2)).toInt (t / 10 % 10) + w_d (M.2 72 (60 * A + i + 1)).toInt (t / 10 / 10 % 10) + w_d (M.2 72 (60 * A + i)).toInt (t / 10 / 10 / 10 % 10)
def w_st (v D : Int) (s : Int × Int) : Int × Int := if s.1 < 0 ∨ D < s.2 then (v, D) else s
def w_in (M : I_M) (A v m : Nat) (s : Int × Int) : Int × Int := i_it (fun i s => w_st v (w_D M A (M.1 66 v).toInt i) s) m s
def w_all (M : I_M) (A m n : Nat) : Int × Int := i_it (fun v s => w_in M A v m s) n (-2, -2)
/-- a row of bytes of len elements, and what the tunes are -/
def w_H (M : I_M) (a : Int32) (A len : Nat) : Prop := 0 ≤ a.toInt ∧ a.toInt < 6 ∧ Int32.toNatClampNeg a = A ∧ len ≤ 60 ∧ (M.1 43 A).toInt = len ∧ (M.1 71 A).toInt = len ∧ (∀ k, k < len → M.2 45 (60 * A + k) = M.2 72 (60 * A + k) ∧ -128 ≤ (M.2 72 (60 * A + k)).toInt ∧ (M.2 72 (60 * A + k)).toInt ≤ 127) ∧ ∀ v, v < 6 → M.1 37 v = M.1 66 v ∧ 0 ≤ (M.1 66 v).toInt ∧ (M.1 66 v).toInt ≤ 9999
section WH
variable {M M' : I_M} {a : Int32} {A len i : Nat} {t : Int32}
theorem w_d_rg {x u : Int} (h : -128 ≤ x) (h2 : x ≤ 127) (h3 : 0 ≤ u) (h4 : u ≤ 9) : 0 ≤ w_d x u ∧ w_d x u ≤ 137 := by
  unfold w_d
  split <;> omega
theorem w_D_rg (h : w_H M a A len) (hi : i + 4 ≤ len) {u : Int} (h3 : 0 ≤ u) : 0 ≤ w_D M A u i ∧ w_D M A u i ≤ 548 := by
  obtain ⟨_, _, _, _, _, _, h5, _⟩ := h
  have e0 := (h5 i (by omega)).2
  have e1 := (h5 (i + 1) (by omega)).2
  have e2 := (h5 (i + 2) (by omega)).2
  have e3 := (h5 (i + 3) (by omega)).2
  have f0 := w_d_rg (u := u / 10 / 10 / 10 % 10) e0.1 e0.2 (by omega) (by omega)
  have f1 := w_d_rg (u := u / 10 / 10 % 10) e1.1 e1.2 (by omega) (by omega)
  have f2 := w_d_rg (u := u / 10 % 10) e2.1 e2.2 (by omega) (by omega)
  have f3 := w_d_rg (u := u % 10) e3.1 e3.2 (by omega) (by omega)
  have g1 : 60 * A + (i + 1) = 60 * A + i + 1 := rfl
  have g2 : 60 * A + (i + 2) = 60 * A + i + 2 := rfl
  have g3 : 60 * A + (i + 3) = 60 * A + i + 3 := rfl
  rw [g1] at f1
  rw [g2] at f2
  rw [g3] at f3
  unfold w_D
  omega
theorem w_abs {x : Int64} {u : Int32} (h : -128 ≤ x.toInt) (h2 : x.toInt ≤ 127) (h3 : 0 ≤ u.toInt) (h4 : u.toInt ≤ 9) : (i_abs (Int64.toInt32 x - u)).toInt = w_d x.toInt u.toInt := by
  have e := a_32 h h2
  have e2 : (Int64.toInt32 x - u).toInt = x.toInt - u.toInt := by rw [a_sub, e] <;> omega
  rw [abs_e (by omega), e2]
  unfold w_d
  split <;> split <;> omega
theorem df_st {l4 l5 l6 l6' : Int32} {F k : Nat} {b : Int32} (h1 : 0 ≤ a.toInt) (h2 : a.toInt < 6) (hA : Int32.toNatClampNeg a = A) (hb : b.toInt = i) (hi : i ≤ 60) (hk : l6.toInt = k) (hk4 : k < 4) (h6 : l6 + -1 = l6') (hx : i + k < 60) : b_Villages_differences_L9 a b (F + 1) l4 l5 l6 M = b_Villages_differences_L9 a b F (l4 + i_abs (Int64.toInt32 (M.2 45 (60 * A + i + k)) - i_rem l5 10)) (l5 / 10) l6' M := by
  have e1 : (b + l6).toInt = ((i + k : Nat) : Int) := by rw [a_add] <;> omega
  have e2 := (a_60p h1 h2 (b := b + l6) (by omega) (by omega)).2
  have nA : (A : Int) = a.toInt := by rw [← hA, a_n]; omega
  rw [b_Villages_differences_L9, if_neg (by rw [a_lt, Int32.toInt_zero]; omega)]
  unfold b_Shelves_get
  rw [g_ok (by omega) (by omega), a_k (n := 60 * A + i + k) (by omega)]
  dsimp only [Option.bind_some]
  rw [h6]
  rfl
theorem w_b {b : Int32} (h : w_H M a A len) (hb : b.toInt = i) (hi : i + 4 ≤ len) (ht : 0 ≤ t.toInt) (ht2 : t.toInt ≤ 9999) (hL : M'.2 = M.2) : T (b_Villages_differences a b t M') (fun r => r.2 = M' ∧ r.1.toInt = w_D M A t.toInt i) := by
  obtain ⟨h1, h2, hA, h60, _, _, h5, _⟩ := h
  obtain ⟨F, eF, _⟩ : ∃ F, i_F = F + 1 + 1 + 1 + 1 + 1 ∧ 0 ≤ F := ⟨4995, rfl, by omega⟩
  unfold b_Villages_differences
  rw [eF, df_st (k := 3) (l6' := 2) h1 h2 hA hb (by omega) (by decide) (by omega) (by decide) (by omega), df_st (k := 2) (l6' := 1) h1 h2 hA hb (by omega) (by decide) (by omega) (by decide) (by omega), df_st (k := 1) (l6' := 0) h1 h2 hA hb (by omega) (by decide) (by omega) (by decide) (by omega), df_st (k := 0) (l6' := -1) h1 h2 hA hb (by omega) (by decide) (by omega) (by decide) (by omega)]
  unfold b_Villages_differences_L9
  rw [if_pos (by decide), hL]
  refine T_some ⟨rfl, ?_⟩
  have l10 : (10 : Int32).toInt = 10 := rfl
  have d1 : (t / 10).toInt = t.toInt / 10 := by rw [a_div ht (by omega), l10]
  have d2 : (t / 10 / 10).toInt = t.toInt / 10 / 10 := by rw [a_div (by omega) (by omega), d1, l10]
  have d3 : (t / 10 / 10 / 10).toInt = t.toInt / 10 / 10 / 10 := by rw [a_div (by omega) (by omega), d2, l10]
  have r0 : (i_rem t 10).toInt = t.toInt % 10 := by rw [a_rem ht (by omega), l10]
  have r1 : (i_rem (t / 10) 10).toInt = t.toInt / 10 % 10 := by rw [a_rem (by omega) (by omega), d1, l10]
  have r2 : (i_rem (t / 10 / 10) 10).toInt = t.toInt / 10 / 10 % 10 := by rw [a_rem (by omega) (by omega), d2, l10]
  have r3 : (i_rem (t / 10 / 10 / 10) 10).toInt = t.toInt / 10 / 10 / 10 % 10 := by rw [a_rem (by omega) (by omega), d3, l10]
  have X : ∀ k, k < 4 → M.2 45 (60 * A + i + k) = M.2 72 (60 * A + i + k) ∧ -128 ≤ (M.2 72 (60 * A + i + k)).toInt ∧ (M.2 72 (60 * A + i + k)).toInt ≤ 127 := by
    intro k hk
    have := h5 (i + k) (by omega)
    rw [show 60 * A + (i + k) = 60 * A + i + k by omega] at this
    exact this
  obtain ⟨x0, y0⟩ := X 0 (by omega)
  obtain ⟨x1, y1⟩ := X 1 (by omega)
  obtain ⟨x2, y2⟩ := X 2 (by omega)
  obtain ⟨x3, y3⟩ := X 3 (by omega)
  rw [x0, x1, x2, x3]
  have w3 := w_abs (x := M.2 72 (60 * A + i + 3)) (u := i_rem t 10) y3.1 y3.2 (by omega) (by omega)
  have w2 := w_abs (x := M.2 72 (60 * A + i + 2)) (u := i_rem (t / 10) 10) y2.1 y2.2 (by omega) (by omega)
  have w1 := w_abs (x := M.2 72 (60 * A + i + 1)) (u := i_rem (t / 10 / 10) 10) y1.1 y1.2 (by omega) (by omega)
  have w0 := w_abs (x := M.2 72 (60 * A + i + 0)) (u := i_rem (t / 10 / 10 / 10) 10) y0.1 y0.2 (by omega) (by omega)
  rw [r0] at w3
  rw [r1] at w2
  rw [r2] at w1
  rw [r3] at w0
  have q3 := w_d_rg (u := t.toInt % 10) y3.1 y3.2 (by omega) (by omega)
  have q2 := w_d_rg (u := t.toInt / 10 % 10) y2.1 y2.2 (by omega) (by omega)
  have q1 := w_d_rg (u := t.toInt / 10 / 10 % 10) y1.1 y1.2 (by omega) (by omega)
  have q0 := w_d_rg (u := t.toInt / 10 / 10 / 10 % 10) y0.1 y0.2 (by omega) (by omega)
  generalize i_abs (Int64.toInt32 (M.2 72 (60 * A + i + 3)) - i_rem t 10) = A3 at *
  generalize i_abs (Int64.toInt32 (M.2 72 (60 * A + i + 2)) - i_rem (t / 10) 10) = A2 at *
  generalize i_abs (Int64.toInt32 (M.2 72 (60 * A + i + 1)) - i_rem (t / 10 / 10) 10) = A1 at *
  generalize i_abs (Int64.toInt32 (M.2 72 (60 * A + i + 0)) - i_rem (t / 10 / 10 / 10) 10) = A0 at *
  have z : (0 + A3).toInt = A3.toInt := by rw [Int32.zero_add]
  have z2 : (0 + A3 + A2).toInt = A3.toInt + A2.toInt := by rw [a_add, z] <;> omega
  have z1 : (0 + A3 + A2 + A1).toInt = A3.toInt + A2.toInt + A1.toInt := by rw [a_add, z2] <;> omega
  have z0 : (0 + A3 + A2 + A1 + A0).toInt = A3.toInt + A2.toInt + A1.toInt + A0.toInt := by rw [a_add, z1] <;> omega
  show (0 + A3 + A2 + A1 + A0).toInt = w_D M A t.toInt i
  rw [z0, w3, w2, w1, w0]
  rfl
end WH
