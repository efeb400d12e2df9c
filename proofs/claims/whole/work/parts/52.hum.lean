/-! ===== part 52: how loud a bell hums, for both ===== -/
def L_law (h th cl : Int32) (code text : Nat → Int32) : Prop :=
  (h.toInt = 0 ∧ th.toInt = -1) ∨ (h.toInt = 1 ∧ 0 ≤ th.toInt ∧ th.toInt ≤ 120 ∧ ∃ y, p_text (p_ah text th.toInt.toNat) th.toInt.toNat = Sum.inr y ∧ cl.toInt = y.1.length ∧ y.1.length ≤ 128 ∧ ∀ j, j < y.1.length → code j = y.1.getD j 0)
def h_env (d g q z s w f : Int32) (k : Nat) : Int32 := [d, g, q, z, s, w, f].getD k 0
def h_raw (th : Int32) (text : Nat → Int32) (w f d g q z s : Int32) : Int32 :=
  if th.toInt = -1 then ((((((((40 : Int32) + ((5 : Int32) * f)) - ((2 : Int32) * d)) - ((3 : Int32) * g)) - ((6 : Int32) * q)) - z) - s) - w)
  else match p_text (p_ah text th.toInt.toNat) th.toInt.toNat with
    | Sum.inl _ => 0
    | Sum.inr y => p_val y.2 (h_env d g q z s w f)
def h_cl (x : Int32) : Int32 := if x.toInt < 0 then 0 else if 99 < x.toInt then 99 else x
def h_loud (th : Int32) (text : Nat → Int32) (w f d g q z s : Int32) : Int32 := h_cl (h_raw th text w f d g q z s)
theorem h_cl_rg {x : Int32} : 0 ≤ (h_cl x).toInt ∧ (h_cl x).toInt ≤ 99 := by
  unfold h_cl
  split
  · decide
  · split
    · decide
    · omega
/-- the cells that working out a hum writes -/
def h_sc (q k : Nat) : Bool := q == 11 || q == 12 || q == 60 || (q == 9 && k == 6) || (q == 50 && (k == 18 || k == 19 || k == 20 || k == 21 || k == 22))
def fh (M M' : I_M) : Prop := M'.2 = M.2 ∧ ∀ q k, h_sc q k = false → M'.1 q k = M.1 q k
section FH
variable {M M' M'' : I_M} {q k : Nat} {v : Int32} {f : Nat → Int32}
theorem fh_refl : fh M M := ⟨rfl, fun _ _ _ => rfl⟩
theorem fh_trans (h : fh M M') (h2 : fh M' M'') : fh M M'' := ⟨h2.1.trans h.1, fun q k hq => (h2.2 q k hq).trans (h.2 q k hq)⟩
theorem fh_wI (h : fh M M') (hs : h_sc q k = true) : fh M (i_wI M' q k v) := by
  refine ⟨h.1, fun a b hab => ?_⟩
  rw [m_wI]
  by_cases c : a = q ∧ b = k
  · obtain ⟨rfl, rfl⟩ := c
    rw [hs] at hab
    exact absurd hab (by decide)
  · rw [if_neg c]
    exact h.2 a b hab
theorem fh_row (h : fh M M') (hs : ∀ k, h_sc q k = false) : M'.1 q = M.1 q := funext fun k => h.2 q k (hs k)
theorem fh_inv {L : Int32 → Int32 → Int32 → (Nat → Int32) → (Nat → Int32) → Prop} (hi : INV L M) (h : fh M M') : INV L M' := by
  refine inv_of hi ?_
  refine Prod.ext (funext fun q => funext fun k => ?_) ?_
  · show (if i_sc q k = true then 0 else M'.1 q k) = (if i_sc q k = true then 0 else M.1 q k)
    by_cases c : i_sc q k = true
    · rw [if_pos c, if_pos c]
    · rw [if_neg c, if_neg c]
      refine h.2 q k ?_
      by_cases d : h_sc q k = true
      · refine absurd ?_ c
        unfold h_sc at d
        unfold i_sc
        simp only [Bool.or_eq_true, Bool.and_eq_true, beq_iff_eq] at d
        rcases d with (((d | d) | d) | ⟨d, e⟩) | ⟨d, e⟩
        · subst d; simp
        · subst d; simp
        · subst d; simp
        · subst d e; simp
        · subst d
          rcases e with (((e | e) | e) | e) | e <;> subst e <;> simp
      · exact Bool.eq_false_iff.mpr d
  · show (fun q k => if q = 73 then 0 else M'.2 q k) = (fun q k => if q = 73 then 0 else M.2 q k)
    rw [h.1]
end FH
def h_far (cl a b : Int32) : Int32 := Int32.ofInt ((if a.toInt / cl.toInt - b.toInt / cl.toInt < 0 then -(a.toInt / cl.toInt - b.toInt / cl.toInt) else a.toInt / cl.toInt - b.toInt / cl.toInt) + (if a.toInt % cl.toInt - b.toInt % cl.toInt < 0 then -(a.toInt % cl.toInt - b.toInt % cl.toInt) else a.toInt % cl.toInt - b.toInt % cl.toInt))
section FAR
variable {M : I_M} {a b : Int32}
theorem rc_rg (h : N_land (M.1 1 0) (M.1 1 1) (M.1 50 6) (M.1 50 7) (M.1 2) (M.1 3)) (ha : 0 ≤ a.toInt) (ha2 : a.toInt < i_ce (M.1 50 6) (M.1 50 7)) : 0 ≤ a.toInt / (M.1 50 7).toInt ∧ a.toInt / (M.1 50 7).toInt < 25 ∧ 0 ≤ a.toInt % (M.1 50 7).toInt ∧ a.toInt % (M.1 50 7).toInt < 5 := by
  have hc := (N_land_ce h).2.1
  obtain ⟨_, _, h1, h2, h3, h4, _⟩ := h
  have e1 := Int.ediv_nonneg ha (by omega : (0 : Int) ≤ (M.1 50 7).toInt)
  have e2 := Int.ediv_le_self (M.1 50 7).toInt ha
  have e3 := Int.emod_nonneg a.toInt (by omega : (M.1 50 7).toInt ≠ 0)
  have e4 := Int.emod_lt_of_pos a.toInt (by omega : (0 : Int) < (M.1 50 7).toInt)
  omega
theorem far_rg (h : N_land (M.1 1 0) (M.1 1 1) (M.1 50 6) (M.1 50 7) (M.1 2) (M.1 3)) (ha : 0 ≤ a.toInt) (ha2 : a.toInt < i_ce (M.1 50 6) (M.1 50 7)) (hb : 0 ≤ b.toInt) (hb2 : b.toInt < i_ce (M.1 50 6) (M.1 50 7)) : (h_far (M.1 50 7) a b).toInt = (if a.toInt / (M.1 50 7).toInt - b.toInt / (M.1 50 7).toInt < 0 then -(a.toInt / (M.1 50 7).toInt - b.toInt / (M.1 50 7).toInt) else a.toInt / (M.1 50 7).toInt - b.toInt / (M.1 50 7).toInt) + (if a.toInt % (M.1 50 7).toInt - b.toInt % (M.1 50 7).toInt < 0 then -(a.toInt % (M.1 50 7).toInt - b.toInt % (M.1 50 7).toInt) else a.toInt % (M.1 50 7).toInt - b.toInt % (M.1 50 7).toInt) := by
  have ra := rc_rg h ha ha2
  have rb := rc_rg h hb hb2
  unfold h_far
  exact a_of (by omega) (by omega)
theorem far_b (h : N_land (M.1 1 0) (M.1 1 1) (M.1 50 6) (M.1 50 7) (M.1 2) (M.1 3)) (ha : 0 ≤ a.toInt) (ha2 : a.toInt < i_ce (M.1 50 6) (M.1 50 7)) (hb : 0 ≤ b.toInt) (hb2 : b.toInt < i_ce (M.1 50 6) (M.1 50 7)) : b_Land_far a b M = some (h_far (M.1 50 7) a b, M) := by
  have ra := rc_rg h ha ha2
  have rb := rc_rg h hb hb2
  have hf := far_rg h ha ha2 hb hb2
  have hc := (N_land_ce h).2.1
  obtain ⟨_, _, h1, h2, h3, h4, h5⟩ := h
  have pa := h5 (Int32.toNatClampNeg a) (by rw [a_n]; omega)
  have pb := h5 (Int32.toNatClampNeg b) (by rw [a_n]; omega)
  have na : ((Int32.toNatClampNeg a : Nat) : Int) = a.toInt := by rw [a_n]; omega
  have nb : ((Int32.toNatClampNeg b : Nat) : Int) = b.toInt := by rw [a_n]; omega
  rw [na] at pa
  rw [nb] at pb
  unfold b_Land_far
  rw [g_ok ha (by omega), g_ok hb (by omega)]
  have s1 : (M.1 2 (Int32.toNatClampNeg a) - M.1 2 (Int32.toNatClampNeg b)).toInt = a.toInt / (M.1 50 7).toInt - b.toInt / (M.1 50 7).toInt := by rw [a_sub, pa.1, pb.1] <;> omega
  have s2 : (M.1 3 (Int32.toNatClampNeg a) - M.1 3 (Int32.toNatClampNeg b)).toInt = a.toInt % (M.1 50 7).toInt - b.toInt % (M.1 50 7).toInt := by rw [a_sub, pa.2, pb.2] <;> omega
  have t1 := abs_e (x := M.1 2 (Int32.toNatClampNeg a) - M.1 2 (Int32.toNatClampNeg b)) (by omega)
  have t2 := abs_e (x := M.1 3 (Int32.toNatClampNeg a) - M.1 3 (Int32.toNatClampNeg b)) (by omega)
  congr 2
  rw [a_eq, hf, a_add] <;> omega
theorem far_r (h : N_land (M.1 1 0) (M.1 1 1) (M.1 50 6) (M.1 50 7) (M.1 2) (M.1 3)) (ha : 0 ≤ a.toInt) (ha2 : a.toInt < i_ce (M.1 50 6) (M.1 50 7)) (hb : 0 ≤ b.toInt) (hb2 : b.toInt < i_ce (M.1 50 6) (M.1 50 7)) : r_farOf a b M = some (h_far (M.1 50 7) a b, M) := by
  have ra := rc_rg h ha ha2
  have rb := rc_rg h hb hb2
  have hf := far_rg h ha ha2 hb hb2
  obtain ⟨_, _, h1, h2, h3, h4, h5⟩ := h
  have hne : M.1 50 7 ≠ 0 := fun q => by rw [q, Int32.toInt_zero] at h3; omega
  have d1 : (a / M.1 50 7).toInt = a.toInt / (M.1 50 7).toInt := a_div ha (by omega)
  have d2 : (b / M.1 50 7).toInt = b.toInt / (M.1 50 7).toInt := a_div hb (by omega)
  have d3 : (i_rem a (M.1 50 7)).toInt = a.toInt % (M.1 50 7).toInt := a_rem ha (by omega)
  have d4 : (i_rem b (M.1 50 7)).toInt = b.toInt % (M.1 50 7).toInt := a_rem hb (by omega)
  have s1 : (a / M.1 50 7 - b / M.1 50 7).toInt = a.toInt / (M.1 50 7).toInt - b.toInt / (M.1 50 7).toInt := by rw [a_sub, d1, d2] <;> omega
  have s2 : (i_rem a (M.1 50 7) - i_rem b (M.1 50 7)).toInt = a.toInt % (M.1 50 7).toInt - b.toInt % (M.1 50 7).toInt := by rw [a_sub, d3, d4] <;> omega
  have n1 : (-(a / M.1 50 7 - b / M.1 50 7)).toInt = -(a / M.1 50 7 - b / M.1 50 7).toInt := a_neg (by omega)
  have n2 : (-(i_rem a (M.1 50 7) - i_rem b (M.1 50 7))).toInt = -(i_rem a (M.1 50 7) - i_rem b (M.1 50 7)).toInt := a_neg (by omega)
  unfold r_farOf r_farOf_B39
  rw [nz_ok hne, nz_ok hne, nz_ok hne, nz_ok hne]
  have l0 := Int32.toInt_zero
  by_cases c1 : (a / M.1 50 7 - b / M.1 50 7).toInt < 0
  · rw [if_pos (by rw [a_lt]; omega)]
    by_cases c2 : (i_rem a (M.1 50 7) - i_rem b (M.1 50 7)).toInt < 0
    · rw [if_pos (by rw [a_lt]; omega)]
      congr 2
      rw [a_eq, hf, a_add] <;> omega
    · rw [if_neg (by rw [a_lt]; omega)]
      congr 2
      rw [a_eq, hf, a_add] <;> omega
  · rw [if_neg (by rw [a_lt]; omega)]
    by_cases c2 : (i_rem a (M.1 50 7) - i_rem b (M.1 50 7)).toInt < 0
    · rw [if_pos (by rw [a_lt]; omega)]
      congr 2
      rw [a_eq, hf, a_add] <;> omega
    · rw [if_neg (by rw [a_lt]; omega)]
      congr 2
      rw [a_eq, hf, a_add] <;> omega
end FAR
