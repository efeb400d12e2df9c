/-! ===== part 90: what holds behind the constructors ===== -/
/-- the first state, read off by the kernel -/
def q_z (M : I_M) : Bool :=
  (decide (M.1 1 0 = 5) && decide (M.1 1 1 = 5) && decide (M.1 50 6 = 5) && decide (M.1 50 7 = 5) && (List.range 25).all (fun k => decide ((M.1 2 k).toInt = k / 5) && decide ((M.1 3 k).toInt = k % 5)))
  && ((List.range 25).all (fun k => decide (M.1 4 k = 3) && decide (M.1 51 k = 3) && decide (M.1 5 k = 10) && decide (M.1 51 (25 + k) = 10)) && (List.range 6).all (fun k => decide (M.1 16 k = 0) && decide (M.1 51 (50 + k) = 0)) && decide (M.1 1 6 = 0) && decide (M.1 1 7 = 0) && decide (M.1 1 8 = 5) && decide (M.1 1 9 = 3) && decide (M.1 51 56 = 0) && decide (M.1 51 57 = 0) && decide (M.1 51 58 = 5) && decide (M.1 51 59 = 3))
  && (decide (M.1 13 6 = 0) && decide (M.1 50 8 = 0) && (List.range 6).all (fun b => decide (M.1 14 b = M.1 55 b) && decide (M.1 15 b = M.1 56 b) && decide (M.1 17 b = M.1 57 b)))
  && (decide (M.1 13 7 = 0) && decide (M.1 13 8 = M.1 50 13) && decide (M.1 50 12 = 0))
  && (decide (M.1 6 1 = 0) && decide (M.1 50 15 = 0) && (List.range 120).all (fun k => decide (M.1 7 k = 0) && decide (M.1 58 k = 0)))
  && (decide (M.1 9 1 = 0) && decide (M.1 50 17 = -1))
  && (decide (M.1 18 3 = 0) && decide (M.1 50 24 = 0))
  && (decide (M.1 0 14 = 0) && decide (M.1 50 41 = 0))
  && (decide (M.1 31 4 = 0) && decide (M.1 31 5 = 0) && decide (M.1 50 5 = 0) && decide (M.1 50 4 = 0))
  && (List.range 6).all (fun k => decide (M.1 37 k = 0) && decide (M.1 66 k = 0))
  && (decide (M.1 38 1 = 0) && decide (M.1 50 46 = 0) && (List.range 50).all (fun k => decide (M.1 39 k = 0) && decide (M.1 68 k = 0)))
  && (decide (M.1 38 3 = 0) && decide (M.1 50 49 = 0) && (List.range 24).all (fun k => decide (M.1 40 k = M.1 69 k)))
  && (List.range 6).all (fun k => decide (M.1 42 k = -1) && decide (M.1 70 k = -1) && decide (M.1 43 k = 0) && decide (M.1 71 k = 0))
set_option maxRecDepth 100000 in
theorem q_z0 : q_z i_M0 = true := by decide +kernel
theorem al_r {n : Nat} {p : Nat → Bool} (h : (List.range n).all p = true) {k : Nat} (hk : k < n) : p k = true := List.all_eq_true.mp h k (List.mem_range.mpr hk)
theorem inv_z {M : I_M} (h : q_z M = true) : INV L_law M := by
  unfold q_z at h
  simp only [Bool.and_eq_true, decide_eq_true_eq] at h
  obtain ⟨⟨⟨⟨⟨⟨⟨⟨⟨⟨⟨⟨⟨⟨⟨⟨a1, a2⟩, a3⟩, a4⟩, a5⟩, ⟨⟨⟨⟨⟨⟨⟨⟨⟨b1, b2⟩, b3⟩, b4⟩, b5⟩, b6⟩, b7⟩, b8⟩, b9⟩, b10⟩⟩, ⟨⟨c1, c2⟩, c3⟩⟩, ⟨⟨d1, d2⟩, d3⟩⟩, ⟨⟨e1, e2⟩, e3⟩⟩, ⟨f1, f2⟩⟩, ⟨g1, g2⟩⟩, ⟨h1, h2⟩⟩, ⟨⟨⟨i1, i2⟩, i3⟩, i4⟩⟩, j1⟩, ⟨⟨k1, k2⟩, k3⟩⟩, ⟨⟨m1, m2⟩, m3⟩⟩, n1⟩ := h
  have l0 := Int32.toInt_zero
  have l3 : (3 : Int32).toInt = 3 := rfl
  have l5 : (5 : Int32).toInt = 5 := rfl
  have l10 : (10 : Int32).toInt = 10 := rfl
  have lm : (-1 : Int32).toInt = -1 := rfl
  have ce : i_ce (M.1 50 6) (M.1 50 7) = 25 := by rw [a3, a4]; rfl
  refine ⟨?_, ?_, ?_, ?_, ?_, ?_, ?_, ?_, ?_, ?_, ?_, ?_, ?_⟩
  · refine ⟨by rw [a1, a3], by rw [a2, a4], by rw [a3]; decide, by rw [a3]; decide, by rw [a4]; decide, by rw [a4]; decide, fun k hk => ?_⟩
    rw [ce] at hk
    have := al_r a5 (k := k) (by omega)
    simp only [Bool.and_eq_true, decide_eq_true_eq] at this
    rw [a4, l5]
    exact this
  · refine ⟨fun k hk => ?_, fun k hk => ?_, fun k hk => ?_, by rw [b3, b7], by rw [b7, l0]; omega, by rw [b7, l0]; omega, by rw [b4, b8], by rw [b8, l0]; omega, by rw [b8, l0]; omega, by rw [b5, b9], by rw [b9, l5]; omega, by rw [b9, l5]; omega, by rw [b6, b10], by rw [b10, l3]; omega, by rw [b10, l3]; omega⟩
    · have := al_r b1 hk
      simp only [Bool.and_eq_true, decide_eq_true_eq] at this
      obtain ⟨⟨⟨x1, x2⟩, x3⟩, x4⟩ := this
      exact ⟨by rw [x1, x2], by rw [x2, l3]; omega, by rw [x2, l3]; omega⟩
    · have := al_r b1 hk
      simp only [Bool.and_eq_true, decide_eq_true_eq] at this
      obtain ⟨⟨⟨x1, x2⟩, x3⟩, x4⟩ := this
      exact ⟨by rw [x3, x4], by rw [x4, l10]; omega, by rw [x4, l10]; omega⟩
    · have := al_r b2 hk
      simp only [Bool.and_eq_true, decide_eq_true_eq] at this
      obtain ⟨x1, x2⟩ := this
      exact ⟨by rw [x1, x2], by rw [x2, l0]; omega, by rw [x2, l0]; omega⟩
  · refine ⟨by rw [c1, c2], by rw [c2, l0]; omega, by rw [c2, l0]; omega, fun b hb => ?_, fun b hb => ?_, fun a b _ hb => ?_⟩
    · have := al_r c3 hb
      simp only [Bool.and_eq_true, decide_eq_true_eq] at this
      exact ⟨this.1.1, this.1.2, this.2⟩
    · rw [c2, l0] at hb
      exact absurd hb (by omega)
    · rw [c2, l0] at hb
      exact absurd hb (by omega)
  · exact ⟨by rw [d1, d3], d2, by rw [d3, l0]; omega, by rw [d3, l0]; omega⟩
  · refine ⟨by rw [e1, e2], by rw [e2, l0]; omega, by rw [e2, l0]; omega, fun k hk => ?_⟩
    have := al_r e3 hk
    simp only [Bool.and_eq_true, decide_eq_true_eq] at this
    obtain ⟨x1, x2⟩ := this
    exact ⟨by rw [x1, x2], by rw [x2, l0]; omega, by rw [x2, l0]; omega⟩
  · exact Or.inl ⟨by rw [f1, l0], by rw [f2, lm]⟩
  · refine ⟨by rw [g1, g2], by rw [g2, l0]; omega, by rw [g2, l0]; omega, fun b hb => ?_⟩
    rw [g2, l0] at hb
    exact absurd hb (by omega)
  · refine ⟨by rw [h1, h2], Or.inl h2, fun hx => ?_⟩
    rw [h2] at hx
    exact absurd hx (by decide)
  · refine ⟨by rw [i1, i3], by rw [i3, l0]; omega, by rw [i3, i4]; omega, by rw [i4, l0]; omega, by rw [i2, i3, i4, l0]; omega, fun k hk => ?_⟩
    rw [i4, l0] at hk
    exact absurd hk (by omega)
  · intro v hv
    have := al_r j1 hv
    simp only [Bool.and_eq_true, decide_eq_true_eq] at this
    obtain ⟨x1, x2⟩ := this
    exact ⟨by rw [x1, x2], by rw [x2, l0]; omega, by rw [x2, l0]; omega⟩
  · refine ⟨by rw [k1, k2], by rw [k2, l0]; omega, by rw [k2, l0]; omega, fun b hb => ?_⟩
    have := al_r k3 hb
    simp only [Bool.and_eq_true, decide_eq_true_eq] at this
    obtain ⟨x1, x2⟩ := this
    exact ⟨by rw [x1, x2], by rw [x2, l0]; omega, by rw [x2, l0]; omega⟩
  · refine ⟨by rw [m1, m2], by rw [m2, l0]; omega, fun k hk => ?_⟩
    have := al_r m3 hk
    rw [decide_eq_true_eq] at this
    exact this
  · intro d hd
    have := al_r n1 hd
    simp only [Bool.and_eq_true, decide_eq_true_eq] at this
    obtain ⟨⟨⟨x1, x2⟩, x3⟩, x4⟩ := this
    refine ⟨by rw [x3, x4], by rw [x4, l0]; omega, by rw [x4, l0]; omega, fun k hk => ?_, Or.inl ⟨by rw [x1, lm], by rw [x2, lm], by rw [x4, l0]⟩⟩
    rw [x4, l0] at hk
    exact absurd hk (by omega)
theorem inv_0 : INV L_law i_M0 := inv_z q_z0
