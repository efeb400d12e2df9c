/-! ===== part 38: years ===== -/
def i_lcg (z : Int32) : Int32 := (z * (1103515245 : Int32)) + (12345 : Int32)
def i_lot (z : Int32) : Int32 := i_rem (i_ushr z (8 : Int32)) (12 : Int32)
def i_it {α : Type} (f : Nat → α → α) : Nat → α → α
  | 0, s => s
  | n + 1, s => f n (i_it f n s)
def y_b1 (w : Int32) (k : Nat) (p : Int32 × (Nat → Int32)) : Int32 × (Nat → Int32) := (i_lcg p.1, if i_lot (i_lcg p.1) < w then upd p.2 k (i_min (p.2 k + 1) 9) else if 10 < i_lot (i_lcg p.1) then upd p.2 k (i_max (p.2 k - 1) 0) else p.2)
def y_b2 (w : Int32) (k : Nat) (p : Int32 × (Nat → Int32)) : Int32 × (Nat → Int32) := (i_lcg p.1, if i_lot (i_lcg p.1) < w then upd p.2 k (i_min (p.2 k + 1) 9) else p.2)
def y_r1 (k : Nat) (p : Int32 × (Nat → Int32)) : Int32 × (Nat → Int32) := (i_lcg p.1, if i_lot (i_lcg p.1) < p.2 56 then (if p.2 (50 + k) < 9 then upd p.2 (50 + k) (p.2 (50 + k) + 1) else upd p.2 (50 + k) 9) else if 10 < i_lot (i_lcg p.1) then (if 0 < p.2 (50 + k) then upd p.2 (50 + k) (p.2 (50 + k) - 1) else upd p.2 (50 + k) 0) else p.2)
def y_r2 (k : Nat) (p : Int32 × (Nat → Int32)) : Int32 × (Nat → Int32) := (i_lcg p.1, if i_lot (i_lcg p.1) < p.2 56 then (if p.2 k < 9 then upd p.2 k (p.2 k + 1) else upd p.2 k (p.2 k + 0)) else upd p.2 k (p.2 k + 0))
theorem rw_cm {M : I_M} {q q' : Nat} {f g : Nat → Int32} (h : q ≠ q') : i_rw (i_rw M q f) q' g = i_rw (i_rw M q' g) q f := by
  refine m_ext (fun a b => ?_) rfl
  unfold i_rw
  by_cases h1 : a = q
  · by_cases h2 : a = q'
    · exact absurd (h1.symm.trans h2) h
    · simp [h1, h]
  · by_cases h2 : a = q' <;> simp [h1, h2, Ne.symm h]
theorem it_s {α : Type} {f : Nat → α → α} {n : Nat} {s : α} : i_it f (n + 1) s = f n (i_it f n s) := rfl
theorem it_0 {α : Type} {f : Nat → α → α} {s : α} : i_it f 0 s = s := rfl
theorem sink_e {M : I_M} {z : Int32} {n : Nat} (hn : (M.1 13 6).toInt = n) (h6 : n ≤ 6) : b_Buried_sink z M = some ((i_it (y_b1 (M.1 1 6)) n (z, M.1 16)).1, i_rw M 16 (i_it (y_b1 (M.1 1 6)) n (z, M.1 16)).2) := by
  unfold b_Buried_sink
  refine T_eq (T_for (σ := Int32 × I_M) (N := n) (a := 0) (f := fun m i s => b_Buried_sink_L4 m s.1 i s.2) (s := (z, M)) (fun k s => s = ((i_it (y_b1 (M.1 1 6)) k (z, M.1 16)).1, i_rw M 16 (i_it (y_b1 (M.1 1 6)) k (z, M.1 16)).2)) (by omega) ?_ ?_ (by unfold i_F; omega) (by omega) rfl ?_)
  · intro m k i s h1 h2 h3 h4 h5
    simp only [it_s] at h5
    generalize i_it (y_b1 (M.1 1 6)) k (z, M.1 16) = p at *
    subst h4
    dsimp only
    unfold b_Buried_sink_L4 b_drawn b_lotOf
    rw [rw_n (by decide), if_pos (by rw [a_lt]; omega)]
    dsimp only [Option.bind_some]
    have hk := a_k h1
    refine T_if (fun c1 => ?_) (fun c1 => T_if (fun c2 => ?_) (fun c2 => ?_))
    · refine T_g (by omega) (by omega) ?_
      rw [rw_w, rw_rw, rw_s, hk]
      refine h5 (i_lcg p.1, i_rw M 16 _) ?_
      unfold y_b1
      rw [if_pos (show i_lot (i_lcg p.1) < M.1 1 6 from c1)]
    · refine T_g (by omega) (by omega) ?_
      rw [rw_w, rw_rw, rw_s, hk]
      refine h5 (i_lcg p.1, i_rw M 16 _) ?_
      unfold y_b1
      rw [if_neg (show ¬ i_lot (i_lcg p.1) < M.1 1 6 from c1), if_pos (show 10 < i_lot (i_lcg p.1) from c2)]
    · refine h5 (i_lcg p.1, i_rw M 16 _) ?_
      unfold y_b1
      rw [if_neg (show ¬ i_lot (i_lcg p.1) < M.1 1 6 from c1), if_neg (show ¬ 10 < i_lot (i_lcg p.1) from c2)]
  · intro m i s h1 h2
    subst h2
    dsimp only
    unfold b_Buried_sink_L4
    rw [rw_n (by decide), if_neg (by rw [a_lt]; omega)]
    exact T_some rfl
  · rw [it_0, rw_id]
theorem soak_e {M : I_M} {z : Int32} {n : Nat} (hn : (M.1 1 0 * M.1 1 1).toInt = n) (h6 : n ≤ 25) : b_Land_soak z M = some ((i_it (y_b2 (M.1 1 6)) n (z, M.1 4)).1, i_rw M 4 (i_it (y_b2 (M.1 1 6)) n (z, M.1 4)).2) := by
  unfold b_Land_soak
  refine T_eq (T_for (σ := Int32 × I_M) (N := n) (a := 0) (f := fun m i s => b_Land_soak_L4 m s.1 i s.2) (s := (z, M)) (fun k s => s = ((i_it (y_b2 (M.1 1 6)) k (z, M.1 4)).1, i_rw M 4 (i_it (y_b2 (M.1 1 6)) k (z, M.1 4)).2)) (by omega) ?_ ?_ (by unfold i_F; omega) (by omega) rfl ?_)
  · intro m k i s h1 h2 h3 h4 h5
    simp only [it_s] at h5
    generalize i_it (y_b2 (M.1 1 6)) k (z, M.1 4) = p at *
    subst h4
    dsimp only
    unfold b_Land_soak_L4 b_drawn b_lotOf
    rw [e_cells]
    dsimp only [Option.bind_some]
    rw [rw_n (by decide), if_pos (by rw [a_lt]; omega)]
    have hk := a_k h1
    refine T_if (fun c1 => ?_) (fun c1 => ?_)
    · refine T_g (by omega) (by omega) ?_
      rw [rw_w, rw_rw, rw_s, hk]
      refine h5 (i_lcg p.1, i_rw M 4 _) ?_
      unfold y_b2
      rw [if_pos (show i_lot (i_lcg p.1) < M.1 1 6 from c1)]
    · refine h5 (i_lcg p.1, i_rw M 4 _) ?_
      unfold y_b2
      rw [if_neg (show ¬ i_lot (i_lcg p.1) < M.1 1 6 from c1)]
  · intro m i s h1 h2
    subst h2
    dsimp only
    unfold b_Land_soak_L4
    rw [e_cells]
    dsimp only [Option.bind_some]
    rw [rw_n (by decide), if_neg (by rw [a_lt]; omega)]
    exact T_some rfl
  · rw [it_0, rw_id]
/-- the reference's memory with z and may given anew -/
def y_st (M : I_M) (p : Int32 × (Nat → Int32)) : I_M := i_rw (i_rw M 50 (upd (M.1 50) 40 p.1)) 51 p.2
theorem y_st51 {M : I_M} {p : Int32 × (Nat → Int32)} : (y_st M p).1 51 = p.2 := rw_s
theorem y_st50 {M : I_M} {p : Int32 × (Nat → Int32)} : (y_st M p).1 50 = upd (M.1 50) 40 p.1 := (rw_n (by decide)).trans rw_s
theorem y_stw {M : I_M} {p : Int32 × (Nat → Int32)} {k : Nat} {v : Int32} : i_wI (y_st M p) 51 k v = y_st M (p.1, upd p.2 k v) := by
  rw [rw_w, y_st51]
  exact rw_rw
theorem y_stz {M : I_M} {p : Int32 × (Nat → Int32)} {v : Int32} : i_wI (y_st M p) 50 40 v = y_st M (v, p.2) := by
  rw [rw_w, y_st50]
  unfold y_st
  rw [rw_cm (q := 51) (q' := 50) (by decide), rw_rw]
  congr 2
  funext j
  unfold upd
  split <;> rfl
theorem y_st0 {M : I_M} : y_st M (M.1 50 40, M.1 51) = M := by
  unfold y_st
  have : upd (M.1 50) 40 (M.1 50 40) = M.1 50 := by
    funext j
    unfold upd
    split
    · rename_i h
      rw [h]
    · rfl
  rw [this, rw_id]
  exact rw_id
theorem draws_e {M : I_M} {p : Int32 × (Nat → Int32)} : r_draws (y_st M p) = some (i_lot (i_lcg p.1), y_st M (i_lcg p.1, p.2)) := by
  unfold r_draws
  rw [y_stz, y_st50, upd_s]
  rfl
theorem yr1_e {M : I_M} {p : Int32 × (Nat → Int32)} {n : Nat} {k94 : I_M → Option I_M} {P : I_M → Prop} (hn : (M.1 50 8).toInt = n) (h6 : n ≤ 6) (hk : T (k94 (y_st M (i_it y_r1 n p))) P) : T (r_yearGoes_L2 k94 i_F 0 (y_st M p)) P := by
  refine T_for (N := n) (a := 0) (f := r_yearGoes_L2 k94) (fun k s => s = y_st M (i_it y_r1 k p)) (by omega) ?_ ?_ (by unfold i_F; omega) (by omega) rfl rfl
  · intro m k i s h1 h2 h3 h4 h5
    simp only [it_s] at h5
    generalize i_it y_r1 k p = p at *
    subst h4
    have l50 : (50 : Int32).toInt = 50 := rfl
    have k1 : ((50 : Int32) + i).toInt = 50 + i.toInt := by rw [a_add] <;> omega
    have hk1 : Int32.toNatClampNeg (50 + i) = 50 + k := a_k (by omega)
    have e8 : (y_st M p).1 50 8 = M.1 50 8 := by rw [y_st50]; rfl
    unfold r_yearGoes_L2
    rw [e8, if_pos (by rw [a_lt]; omega), draws_e]
    dsimp only [Option.bind_some]
    refine T_g (by omega) (by omega) ?_
    rw [y_st51, hk1]
    dsimp only
    refine T_if (fun c1 => T_if (fun c2 => ?_) (fun c2 => ?_)) (fun c1 => T_if (fun c2 => T_if (fun c3 => ?_) (fun c3 => ?_)) (fun c2 => ?_))
    · refine h5 _ ?_
      unfold y_r1
      rw [if_pos c1, if_pos c2, y_stw]
    · refine h5 _ ?_
      unfold y_r1
      rw [if_pos c1, if_neg c2, y_stw]
    · refine h5 _ ?_
      unfold y_r1
      rw [if_neg c1, if_pos c2, if_pos c3, y_stw]
    · refine h5 _ ?_
      unfold y_r1
      rw [if_neg c1, if_pos c2, if_neg c3, y_stw]
    · refine h5 _ ?_
      unfold y_r1
      rw [if_neg c1, if_neg c2]
  · intro m i s h1 h2
    subst h2
    have e8 : (y_st M (i_it y_r1 n p)).1 50 8 = M.1 50 8 := by rw [y_st50]; rfl
    unfold r_yearGoes_L2
    rw [e8, if_neg (by rw [a_lt]; omega)]
    exact hk
theorem yr2_e {M : I_M} {p : Int32 × (Nat → Int32)} {n : Nat} {P : I_M → Prop} (hn : (M.1 50 6 * M.1 50 7).toInt = n) (h6 : n ≤ 25) (hk : P (y_st M (i_it y_r2 n p))) : T (r_yearGoes_L96 i_F 0 (y_st M p)) P := by
  have e6 : ∀ p, (y_st M p).1 50 6 = M.1 50 6 := fun p => by rw [y_st50]; rfl
  have e7 : ∀ p, (y_st M p).1 50 7 = M.1 50 7 := fun p => by rw [y_st50]; rfl
  refine T_for (N := n) (a := 0) (f := r_yearGoes_L96) (fun k s => s = y_st M (i_it y_r2 k p)) (by omega) ?_ ?_ (by unfold i_F; omega) (by omega) rfl rfl
  · intro m k i s h1 h2 h3 h4 h5
    simp only [it_s] at h5
    generalize i_it y_r2 k p = p at *
    subst h4
    have hk1 : Int32.toNatClampNeg i = k := a_k h1
    unfold r_yearGoes_L96
    rw [e_rcells, e6, e7]
    dsimp only [Option.bind_some]
    rw [if_pos (by rw [a_lt]; omega)]
    refine T_g (by omega) (by omega) ?_
    rw [draws_e]
    dsimp only [Option.bind_some]
    rw [y_st51, y_st51, hk1]
    dsimp only
    refine T_if (fun c1 => T_if (fun c2 => ?_) (fun c2 => ?_)) (fun c1 => ?_)
    · refine h5 _ ?_
      unfold y_r2
      rw [if_pos c1, if_pos c2, y_stw]
    · refine h5 _ ?_
      unfold y_r2
      rw [if_pos c1, if_neg c2, y_stw]
    · refine h5 _ ?_
      unfold y_r2
      rw [if_neg c1, y_stw]
  · intro m i s h1 h2
    subst h2
    unfold r_yearGoes_L96
    rw [e_rcells, e6, e7]
    dsimp only [Option.bind_some]
    rw [if_neg (by rw [a_lt]; omega)]
    exact T_some hk
def y_R (y0 : Nat → Int32) (w : Int32) (s d y : Nat → Int32) : Prop := (∀ k : Nat, k < 25 → s k = y k ∧ 0 ≤ (y k).toInt ∧ (y k).toInt ≤ 9) ∧ (∀ k : Nat, k < 6 → d k = y (50 + k) ∧ 0 ≤ (y (50 + k)).toInt ∧ (y (50 + k)).toInt ≤ 9) ∧ y 56 = w ∧ (∀ k : Nat, 25 ≤ k → k < 50 → y k = y0 k) ∧ ∀ k : Nat, 56 ≤ k → y k = y0 k
section YR
variable {y0 s d y : Nat → Int32} {w z v v' : Int32} {k n : Nat}
theorem y_up1 (h : y_R y0 w s d y) (hk : k < 6) (hv : v.toInt = v'.toInt) (h0 : 0 ≤ v'.toInt) (h9 : v'.toInt ≤ 9) : y_R y0 w s (upd d k v) (upd y (50 + k) v') := by
  obtain ⟨h1, h2, h3, h4, h5⟩ := h
  refine ⟨fun j hj => ?_, fun j hj => ?_, ?_, fun j a b => ?_, fun j a => ?_⟩
  · rw [upd_n (by omega)]
    exact h1 j hj
  · by_cases q : j = k
    · subst q
      rw [upd_s, upd_s]
      exact ⟨a_eq.mpr hv, h0, h9⟩
    · rw [upd_n q, upd_n (by omega)]
      exact h2 j hj
  · rw [upd_n (by omega)]
    exact h3
  · rw [upd_n (by omega)]
    exact h4 j a b
  · rw [upd_n (by omega)]
    exact h5 j a
theorem y_up2 (h : y_R y0 w s d y) (hk : k < 25) (hv : v.toInt = v'.toInt) (h0 : 0 ≤ v'.toInt) (h9 : v'.toInt ≤ 9) : y_R y0 w (upd s k v) d (upd y k v') := by
  obtain ⟨h1, h2, h3, h4, h5⟩ := h
  refine ⟨fun j hj => ?_, fun j hj => ?_, ?_, fun j a b => ?_, fun j a => ?_⟩
  · by_cases q : j = k
    · subst q
      rw [upd_s, upd_s]
      exact ⟨a_eq.mpr hv, h0, h9⟩
    · rw [upd_n q, upd_n q]
      exact h1 j hj
  · rw [upd_n (by omega)]
    exact h2 j hj
  · rw [upd_n (by omega)]
    exact h3
  · rw [upd_n (by omega)]
    exact h4 j a b
  · rw [upd_n (by omega)]
    exact h5 j a
theorem y_id1 (h : y_R y0 w s d y) (hk : k < 25) : y_R y0 w s d (upd y k (y k + 0)) := by
  have : upd y k (y k + 0) = y := by
    funext j
    unfold upd
    split
    · rename_i q
      rw [q, Int32.add_zero]
    · rfl
  rw [this]
  exact h
theorem y_1 (h : y_R y0 w s d y) (hk : k < 6) : (y_b1 w k (z, d)).1 = (y_r1 k (z, y)).1 ∧ y_R y0 w s (y_b1 w k (z, d)).2 (y_r1 k (z, y)).2 := by
  refine ⟨rfl, ?_⟩
  have h2 := h.2.1 k hk
  have l9 : (9 : Int32).toInt = 9 := rfl
  have l1 : (1 : Int32).toInt = 1 := rfl
  unfold y_b1 y_r1
  dsimp only
  simp only [h.2.2.1, h2.1]
  by_cases c1 : i_lot (i_lcg z) < w
  · rw [if_pos c1, if_pos c1]
    by_cases c2 : y (50 + k) < 9
    · rw [if_pos c2]
      rw [a_lt] at c2
      have e : (y (50 + k) + 1).toInt = (y (50 + k)).toInt + 1 := a_a1 (by omega)
      exact y_up1 h hk (by rw [min_e, e]; omega) (by omega) (by omega)
    · rw [if_neg c2]
      rw [a_lt] at c2
      have e : (y (50 + k) + 1).toInt = (y (50 + k)).toInt + 1 := a_a1 (by omega)
      exact y_up1 h hk (by rw [min_e, e]; omega) (by omega) (by omega)
  · rw [if_neg c1, if_neg c1]
    by_cases c2 : 10 < i_lot (i_lcg z)
    · rw [if_pos c2, if_pos c2]
      have e : (y (50 + k) - 1).toInt = (y (50 + k)).toInt - 1 := a_s1 (by omega)
      by_cases c3 : 0 < y (50 + k)
      · rw [if_pos c3]
        rw [a_lt, Int32.toInt_zero] at c3
        exact y_up1 h hk (by rw [max_e, e, Int32.toInt_zero]; omega) (by omega) (by omega)
      · rw [if_neg c3]
        rw [a_lt, Int32.toInt_zero] at c3
        exact y_up1 h hk (by rw [max_e, e, Int32.toInt_zero]; omega) (by rw [Int32.toInt_zero]; omega) (by rw [Int32.toInt_zero]; omega)
    · rw [if_neg c2, if_neg c2]
      exact h
theorem y_2 (h : y_R y0 w s d y) (hk : k < 25) : (y_b2 w k (z, s)).1 = (y_r2 k (z, y)).1 ∧ y_R y0 w (y_b2 w k (z, s)).2 d (y_r2 k (z, y)).2 := by
  refine ⟨rfl, ?_⟩
  have h2 := h.1 k hk
  have l9 : (9 : Int32).toInt = 9 := rfl
  have l1 : (1 : Int32).toInt = 1 := rfl
  unfold y_b2 y_r2
  dsimp only
  simp only [h.2.2.1, h2.1]
  by_cases c1 : i_lot (i_lcg z) < w
  · rw [if_pos c1, if_pos c1]
    have e : (y k + 1).toInt = (y k).toInt + 1 := a_a1 (by omega)
    by_cases c2 : y k < 9
    · rw [if_pos c2]
      rw [a_lt] at c2
      exact y_up2 h hk (by rw [min_e, e]; omega) (by omega) (by omega)
    · rw [if_neg c2]
      rw [a_lt] at c2
      exact y_up2 h hk (by rw [min_e, e, Int32.add_zero]; omega) (by rw [Int32.add_zero]; omega) (by rw [Int32.add_zero]; omega)
  · rw [if_neg c1, if_neg c1]
    exact y_id1 h hk
theorem y_1n (h : y_R y0 w s d y) : ∀ n, n ≤ 6 → (i_it (y_b1 w) n (z, d)).1 = (i_it y_r1 n (z, y)).1 ∧ y_R y0 w s (i_it (y_b1 w) n (z, d)).2 (i_it y_r1 n (z, y)).2 := by
  intro n
  induction n with
  | zero => exact fun _ => ⟨rfl, h⟩
  | succ n ih =>
    intro hn
    obtain ⟨a, b⟩ := ih (by omega)
    rw [it_s, it_s]
    generalize i_it (y_b1 w) n (z, d) = p at *
    generalize i_it y_r1 n (z, y) = q at *
    obtain ⟨p1, p2⟩ := p
    obtain ⟨q1, q2⟩ := q
    dsimp only at a b
    subst a
    exact y_1 b (by omega)
theorem y_2n (h : y_R y0 w s d y) : ∀ n, n ≤ 25 → (i_it (y_b2 w) n (z, s)).1 = (i_it y_r2 n (z, y)).1 ∧ y_R y0 w (i_it (y_b2 w) n (z, s)).2 d (i_it y_r2 n (z, y)).2 := by
  intro n
  induction n with
  | zero => exact fun _ => ⟨rfl, h⟩
  | succ n ih =>
    intro hn
    obtain ⟨a, b⟩ := ih (by omega)
    rw [it_s, it_s]
    generalize i_it (y_b2 w) n (z, s) = p at *
    generalize i_it y_r2 n (z, y) = q at *
    obtain ⟨p1, p2⟩ := p
    obtain ⟨q1, q2⟩ := q
    dsimp only at a b
    subst a
    exact y_2 b (by omega)
end YR
/-- a year: z, soils, depths -/
def y_B (w : Int32) (nb ce : Nat) (t : Int32 × (Nat → Int32) × (Nat → Int32)) : Int32 × (Nat → Int32) × (Nat → Int32) := ((i_it (y_b2 w) ce ((i_it (y_b1 w) nb (t.1, t.2.2)).1, t.2.1)).1, (i_it (y_b2 w) ce ((i_it (y_b1 w) nb (t.1, t.2.2)).1, t.2.1)).2, (i_it (y_b1 w) nb (t.1, t.2.2)).2)
def y_Rf (nb ce : Nat) (t : Int32 × (Nat → Int32)) : Int32 × (Nat → Int32) := i_it y_r2 ce (i_it y_r1 nb t)
theorem y_3 {y0 : Nat → Int32} {w : Int32} {nb ce : Nat} {t : Int32 × (Nat → Int32) × (Nat → Int32)} {u : Int32 × (Nat → Int32)} (h : y_R y0 w t.2.1 t.2.2 u.2) (h1 : t.1 = u.1) (hn : nb ≤ 6) (hc : ce ≤ 25) : (y_B w nb ce t).1 = (y_Rf nb ce u).1 ∧ y_R y0 w (y_B w nb ce t).2.1 (y_B w nb ce t).2.2 (y_Rf nb ce u).2 := by
  obtain ⟨z, s, d⟩ := t
  obtain ⟨z', y⟩ := u
  dsimp only at h h1
  subst h1
  have a := y_1n (z := z) h nb hn
  unfold y_B y_Rf
  dsimp only
  generalize i_it (y_b1 w) nb (z, d) = p at *
  generalize i_it y_r1 nb (z, y) = q at *
  obtain ⟨p1, p2⟩ := p
  obtain ⟨q1, q2⟩ := q
  obtain ⟨a1, a2⟩ := a
  dsimp only at a1 a2
  subst a1
  exact y_2n a2 ce hc
theorem y_4 {y0 : Nat → Int32} {w : Int32} {nb ce : Nat} {t : Int32 × (Nat → Int32) × (Nat → Int32)} {u : Int32 × (Nat → Int32)} (h : y_R y0 w t.2.1 t.2.2 u.2) (h1 : t.1 = u.1) (hn : nb ≤ 6) (hc : ce ≤ 25) (n : Nat) : (i_it (fun _ => y_B w nb ce) n t).1 = (i_it (fun _ => y_Rf nb ce) n u).1 ∧ y_R y0 w (i_it (fun _ => y_B w nb ce) n t).2.1 (i_it (fun _ => y_B w nb ce) n t).2.2 (i_it (fun _ => y_Rf nb ce) n u).2 := by
  induction n with
  | zero => exact ⟨h1, h⟩
  | succ n ih =>
    rw [it_s, it_s]
    exact y_3 ih.2 ih.1 hn hc
def y_bt (M : I_M) (t : (Nat → Int32) × (Nat → Int32)) : I_M := i_rw (i_rw M 4 t.1) 16 t.2
theorem y_bL {M : I_M} {l2 z : Int32} {n nb ce : Nat} {k48 : I_M → Option (Int32 × I_M)} {P : Int32 × I_M → Prop} (hl : l2.toInt = n) (h30 : n ≤ 30) (hn : (M.1 13 6).toInt = nb) (h6 : nb ≤ 6) (hc : (M.1 1 0 * M.1 1 1).toInt = ce) (h25 : ce ≤ 25)
    (hk : T (k48 (y_bt M (i_it (fun _ => y_B (M.1 1 6) nb ce) n (z, M.1 4, M.1 16)).2)) P) : T (b_years_L18 l2 k48 i_F z 0 M) P := by
  refine T_for (σ := Int32 × I_M) (N := n) (a := 0) (f := fun m i s => b_years_L18 l2 k48 m s.1 i s.2) (s := (z, M)) (fun k s => s = ((i_it (fun _ => y_B (M.1 1 6) nb ce) k (z, M.1 4, M.1 16)).1, y_bt M (i_it (fun _ => y_B (M.1 1 6) nb ce) k (z, M.1 4, M.1 16)).2)) (by omega) ?_ ?_ (by unfold i_F; omega) (by omega) rfl ?_
  · intro m k i s h1 h2 h3 h4 h5
    simp only [it_s] at h5
    generalize i_it (fun _ => y_B (M.1 1 6) nb ce) k (z, M.1 4, M.1 16) = p at *
    subst h4
    dsimp only
    unfold b_years_L18
    rw [if_pos (by rw [a_lt]; omega), sink_e (n := nb) (M := y_bt M p.2) hn h6]
    dsimp only [Option.bind_some]
    rw [soak_e (n := ce) (by rw [rw_n (by decide)]; exact hc) h25]
    dsimp only [Option.bind_some]
    have e : ∀ A B C D : Nat → Int32, i_rw (i_rw (i_rw (i_rw M 4 A) 16 B) 16 C) 4 D = i_rw (i_rw M 4 D) 16 C := by
      intro A B C D
      rw [rw_rw, rw_cm (q := 16) (q' := 4) (by decide), rw_rw]
    exact h5 (_, i_rw (i_rw (y_bt M p.2) 16 _) 4 _) (Prod.ext rfl (e p.2.1 p.2.2 _ _))
  · intro m i s h1 h2
    subst h2
    dsimp only
    unfold b_years_L18
    rw [if_neg (by rw [a_lt]; omega)]
    exact hk
  · rw [it_0]
    unfold y_bt
    dsimp only
    rw [rw_id]
    refine Prod.ext rfl (?_ : M = _)
    exact rw_id.symm
theorem y_rL {M : I_M} {l2 : Int32} {n nb ce : Nat} {p : Int32 × (Nat → Int32)} {k36 : I_M → Option (Int32 × I_M)} {P : Int32 × I_M → Prop} (hl : l2.toInt = n) (h30 : n ≤ 30) (hn : (M.1 50 8).toInt = nb) (h6 : nb ≤ 6) (hc : (M.1 50 6 * M.1 50 7).toInt = ce) (h25 : ce ≤ 25)
    (hk : T (k36 (y_st M (i_it (fun _ => y_Rf nb ce) n p))) P) : T (r_years_L21 l2 k36 i_F 0 (y_st M p)) P := by
  refine T_for (N := n) (a := 0) (f := r_years_L21 l2 k36) (fun k s => s = y_st M (i_it (fun _ => y_Rf nb ce) k p)) (by omega) ?_ ?_ (by unfold i_F; omega) (by omega) rfl rfl
  · intro m k i s h1 h2 h3 h4 h5
    simp only [it_s] at h5
    generalize i_it (fun _ => y_Rf nb ce) k p = p at *
    subst h4
    unfold r_years_L21
    rw [if_pos (by rw [a_lt]; omega)]
    refine T_bind ?_
    unfold r_yearGoes
    refine yr1_e hn h6 ?_
    refine yr2_e hc h25 ?_
    exact h5 _ rfl
  · intro m i s h1 h2
    subst h2
    unfold r_years_L21
    rw [if_neg (by rw [a_lt]; omega)]
    exact hk
theorem depths_b {M : I_M} {n : Nat} (hn : (M.1 13 6).toInt = n) (h6 : n ≤ 6) : b_Buried_depths M = some (i_it (fun k s => s + M.1 16 k) n 0, M) := by
  unfold b_Buried_depths
  refine T_eq (T_for (σ := Int32 × I_M) (N := n) (a := 0) (f := fun m i s => b_Buried_depths_L4 m s.1 i s.2) (s := (0, M)) (fun k s => s = (i_it (fun k s => s + M.1 16 k) k 0, M)) (by omega) ?_ ?_ (by unfold i_F; omega) (by omega) rfl rfl)
  · intro m k i s h1 h2 h3 h4 h5
    subst h4
    dsimp only
    unfold b_Buried_depths_L4
    rw [if_pos (by rw [a_lt]; omega), a_k h1]
    exact T_g (by omega) (by omega) (h5 (_, _) rfl)
  · intro m i s h1 h2
    subst h2
    dsimp only
    unfold b_Buried_depths_L4
    rw [if_neg (by rw [a_lt]; omega)]
    exact T_some rfl
theorem depths_r {M : I_M} {n : Nat} (hn : (M.1 50 8).toInt = n) (h6 : n ≤ 6) : r_years_L41 i_F 0 0 M = some (i_it (fun k s => s + M.1 51 (50 + k)) n 0, M) := by
  refine T_eq (T_for (σ := Int32 × I_M) (N := n) (a := 0) (f := fun m i s => r_years_L41 m s.1 i s.2) (s := (0, M)) (fun k s => s = (i_it (fun k s => s + M.1 51 (50 + k)) k 0, M)) (by omega) ?_ ?_ (by unfold i_F; omega) (by omega) rfl rfl)
  · intro m k i s h1 h2 h3 h4 h5
    subst h4
    dsimp only
    have l50 : (50 : Int32).toInt = 50 := rfl
    have k1 : ((50 : Int32) + i).toInt = 50 + i.toInt := by rw [a_add] <;> omega
    have hk1 : Int32.toNatClampNeg (50 + i) = 50 + k := a_k (by omega)
    unfold r_years_L41
    rw [if_pos (by rw [a_lt]; omega), hk1]
    exact T_g (by omega) (by omega) (h5 (_, _) rfl)
  · intro m i s h1 h2
    subst h2
    dsimp only
    unfold r_years_L41
    rw [if_neg (by rw [a_lt]; omega)]
    exact T_some rfl
theorem it_congr {α : Type} {f g : Nat → α → α} {s : α} : ∀ n, (∀ k, k < n → ∀ s, f k s = g k s) → i_it f n s = i_it g n s := by
  intro n
  induction n with
  | zero => exact fun _ => rfl
  | succ n ih =>
    intro h
    rw [it_s, it_s, ih (fun k hk => h k (by omega)), h n (by omega)]
section OPS
variable {L : Int32 → Int32 → Int32 → (Nat → Int32) → (Nat → Int32) → Prop} {a b : Int32}
theorem op_years : OP L (b_years a b) (r_years a b) := by
  intro M h
  have hi := h
  obtain ⟨hLa, hMa, hBe, hFo, hTa, hLw, hHe, hIm, hCh, hVi, hBo, hRa, hSh⟩ := h
  have ⟨hc, hc2, hc3⟩ := N_land_ce hLa
  have l1 : (1 : Int32).toInt = 1 := rfl
  have l30 : (30 : Int32).toInt = 30 := rfl
  have l1' : (1 : Int64).toInt = 1 := rfl
  have l30' : (30 : Int64).toInt = 30 := rfl
  by_cases hb : 1 ≤ b.toInt ∧ b.toInt ≤ 30
  · unfold b_years
    rw [if_neg (by rw [a_lt]; omega), if_neg (by rw [a_lt]; omega)]
    obtain ⟨nb, hnb⟩ : ∃ n : Nat, n = (M.1 50 8).toInt.toNat := ⟨_, rfl⟩
    obtain ⟨ce, hce⟩ : ∃ n : Nat, n = (i_ce (M.1 50 6) (M.1 50 7)).toNat := ⟨_, rfl⟩
    have e1 := hBe.2.1
    have e2 := hBe.2.2.1
    have e3 : (M.1 13 6).toInt = (M.1 50 8).toInt := congrArg Int32.toInt hBe.1
    have e4 : (M.1 1 0 * M.1 1 1).toInt = ce := by
      have : i_ce (M.1 1 0) (M.1 1 1) = ce := by omega
      exact this
    have e5 : (M.1 50 6 * M.1 50 7).toInt = ce := by
      have : i_ce (M.1 50 6) (M.1 50 7) = ce := by omega
      exact this
    refine y_bL (n := b.toInt.toNat) (nb := nb) (ce := ce) (by omega) (by omega) (by omega) (by omega) e4 (by omega) ?_
    have H := y_4 (y0 := M.1 51) (w := M.1 1 6) (nb := nb) (ce := ce) (t := (a, M.1 4, M.1 16)) (u := (a, M.1 51)) ⟨hMa.1, hMa.2.2.1, hMa.2.2.2.1.symm, fun _ _ _ => rfl, fun _ _ => rfl⟩ rfl (by omega) (by omega) b.toInt.toNat
    generalize i_it (fun _ => y_B (M.1 1 6) nb ce) b.toInt.toNat (a, M.1 4, M.1 16) = p at *
    obtain ⟨p1, s, d⟩ := p
    dsimp only at H ⊢
    rw [depths_b (M := y_bt M (s, d)) (n := nb) (show (M.1 13 6).toInt = nb by omega) (by omega)]
    refine T_some ?_
    dsimp only
    unfold r_years
    rw [r_within_e, a_l, l1', l30', bo_p hb]
    dsimp only [Option.bind_some]
    rw [if_neg (by decide)]
    have E : i_wI (y_bt M (s, d)) 50 40 a = y_st (y_bt M (s, d)) (a, M.1 51) := by
      rw [show y_bt M (s, d) = y_st (y_bt M (s, d)) (M.1 50 40, M.1 51) from y_st0.symm, y_stz]
      rw [show y_st (y_bt M (s, d)) (M.1 50 40, M.1 51) = y_bt M (s, d) from y_st0]
    rw [E]
    refine y_rL (n := b.toInt.toNat) (nb := nb) (ce := ce) (by omega) (by omega) (show (M.1 50 8).toInt = nb by omega) (by omega) e5 (by omega) ?_
    generalize i_it (fun _ => y_Rf nb ce) b.toInt.toNat (a, M.1 51) = q at *
    obtain ⟨q1, y⟩ := q
    dsimp only at H
    obtain ⟨H1, H2, H3, H4, H5, H6⟩ := H
    rw [depths_r (M := y_st (y_bt M (s, d)) (q1, y)) (n := nb) (show (M.1 50 8).toInt = nb by omega) (by omega)]
    refine T_some ⟨?_, hLa, ?_, hBe, hFo, hTa, hLw, hHe, hIm, hCh, hVi, hBo, hRa, hSh⟩
    · refine (it_congr nb (fun k hk z => ?_)).symm
      show z + d k = z + y (50 + k)
      rw [(H3 k (by omega)).1]
    · obtain ⟨g1, g2, g3, g4, g5, g6, g7, g8, g9, g10, g11, g12, g13, g14, g15⟩ := hMa
      refine (show N_may s (M.1 5) d (M.1 1 6) (M.1 1 7) (M.1 1 8) (M.1 1 9) y from ⟨H2, fun k hk => ?_, H3, H4.symm, ?_, ?_, ?_, ?_, ?_, ?_, ?_, ?_, ?_, ?_, ?_⟩)
      · rw [H5 (25 + k) (by omega) (by omega)]
        exact g2 k hk
      all_goals rw [H6 _ (by omega)]
      all_goals assumption
  · have hb2 : b.toInt < 1 ∨ 30 < b.toInt := by omega
    have e1 : b_years a b M = some (-1, M) := by
      unfold b_years
      rcases hb2 with h | h
      · rw [if_pos (by rw [a_lt]; omega)]
      · rw [if_neg (by rw [a_lt]; omega), if_pos (by rw [a_lt]; omega)]
    rw [e1]
    refine T_some ?_
    dsimp only
    unfold r_years
    rw [r_within_e, a_l, l1', l30', bo_n (by omega)]
    dsimp only [Option.bind_some]
    rw [if_pos rfl]
    exact T_some ⟨rfl, hi⟩
end OPS
