/-! ===== part 40: mend ===== -/
def c_sh (f : Nat → Int32) (j : Nat) : Int32 := if j < 39 then f (j + 1) else f j
theorem cI_rw {M : I_M} {q : Nat} {m : Int32} (h : m = 39) : i_cI M q q 1 0 m = i_rw M q (c_sh (M.1 q)) := by
  subst h
  refine m_ext (fun x k => ?_) rfl
  rw [m_cI]
  unfold i_rw c_sh
  have l0 : (0 : Int32).toInt.toNat = 0 := rfl
  have l1 : (1 : Int32).toInt.toNat = 1 := rfl
  have l39 : (39 : Int32).toInt.toNat = 39 := rfl
  rw [l0, l1, l39]
  by_cases c : x = q
  · subst c
    by_cases c2 : k < 39
    · simp only [if_true, c2, Nat.zero_le, Nat.zero_add, true_and, Nat.sub_zero]
      rw [Nat.add_comm]
    · simp only [if_true, c2, Nat.zero_le, Nat.zero_add, true_and, if_false]
  · simp only [c, false_and, if_false]
section MND
variable {M : I_M} {n w v x : Int32}
theorem val_e {ce nb : Int} {wet frost ear guess : Int32} (h : N_may (M.1 4) (M.1 5) (M.1 16) (M.1 1 6) (M.1 1 7) (M.1 1 8) (M.1 1 9) (M.1 51)) (ho : c_ok n.toInt w.toInt ce nb) (hc : ce ≤ 25) (hb : nb ≤ 6) {at' : Nat} (ha : (at' : Int) = i_wh n.toInt w.toInt) : b_valueOf n w M = some (M.1 51 at', M) ∧ 0 ≤ (M.1 51 at').toInt ∧ (M.1 51 at').toInt ≤ i_mx w.toInt := by
  obtain ⟨h1, h2, h3, h4, h5, h6⟩ := ho
  obtain ⟨g1, g2, g3, g4, g5, g6, g7, g8, g9, g10, g11, g12, g13, g14, g15⟩ := h
  have hn : Int32.toNatClampNeg n = n.toInt.toNat := a_n n
  unfold i_wh at ha
  unfold i_mx b_valueOf
  have hw : w.toInt = 0 ∨ w.toInt = 1 ∨ w.toInt = 2 ∨ w.toInt = 3 ∨ w.toInt = 4 ∨ w.toInt = 5 ∨ w.toInt = 6 := by omega
  have E : ∀ {x y : Int32}, x = y → some (x, M) = some (y, M) := fun h => by rw [h]
  rcases hw with q | q | q | q | q | q | q
  all_goals simp only [a_eq, q, Int32.reduceToInt, Int.reduceEq, reduceIte, Int.reduceLE] at ha ⊢
  · rw [g_ok h3 (by omega), hn]
    have := g1 n.toInt.toNat (by omega)
    rw [show at' = n.toInt.toNat by omega]
    exact ⟨E this.1, this.2⟩
  · rw [g_ok h3 (by omega), hn]
    have := g2 n.toInt.toNat (by omega)
    rw [show at' = 25 + n.toInt.toNat by omega]
    exact ⟨E this.1, this.2⟩
  · rw [g_ok h3 (by omega), hn]
    have := g3 n.toInt.toNat (by omega)
    rw [show at' = 50 + n.toInt.toNat by omega]
    exact ⟨E this.1, this.2⟩
  · rw [show at' = 56 by omega]
    exact ⟨E g4, g5, g6⟩
  · rw [show at' = 57 by omega]
    exact ⟨E g7, g8, g9⟩
  · rw [show at' = 58 by omega]
    exact ⟨E g10, g11, g12⟩
  · rw [show at' = 59 by omega]
    exact ⟨E g13, g14, g15⟩
theorem x101_e (h : 0 ≤ w.toInt) (h2 : w.toInt ≤ 6) : (i_x101 (Int32.toNatClampNeg w)).toInt = i_mx w.toInt := by
  have hw : w.toInt = 0 ∨ w.toInt = 1 ∨ w.toInt = 2 ∨ w.toInt = 3 ∨ w.toInt = 4 ∨ w.toInt = 5 ∨ w.toInt = 6 := by omega
  rw [a_n]
  rcases hw with q | q | q | q | q | q | q <;> rw [q] <;> decide
/-- the changes with one more, where there is room for it -/
def c_add (M : I_M) (d : Nat) (n w x v : Int32) : I_M := i_rw (i_rw (i_rw (i_rw (i_rw M 32 (upd (M.1 32) d n)) 33 (upd (M.1 33) d w)) 34 (upd (M.1 34) d x)) 35 (upd (M.1 35) d v)) 31 (upd (upd (M.1 31) 5 0) 4 (Int32.ofNat (d + 1)))
theorem of_add {e : Int32} {d : Nat} (h : e.toInt = d) (hd : d < 1000) : e + 1 = Int32.ofNat (d + 1) := by
  rw [a_eq, a_a1 (by omega), a_on (by omega), h]
  rfl
theorem add_1 {d : Nat} (h : (M.1 31 4).toInt = d) (hd : d < 40) : b_Changes_add n w x v M = some (c_add M d n w x v) := by
  unfold b_Changes_add b_Changes_add_B18
  have l40 : (40 : Int32).toInt = 40 := rfl
  rw [if_pos (by rw [a_lt]; omega)]
  rw [show (i_wI M 31 5 0).1 31 4 = M.1 31 4 from rfl, g_ok (by omega) (by omega), a_k h, of_add h (by omega)]
  congr 1
  refine m_ext (fun q k => ?_) rfl
  simp only [m_wI, c_add, i_rw, upd]
  by_cases h31 : q = 31
  · subst h31
    by_cases h4 : k = 4
    · subst h4
      simp [upd]
    · by_cases h5 : k = 5
      · subst h5
        simp [upd]
      · simp [h4, h5, upd]
  by_cases h32 : q = 32
  · subst h32
    by_cases h4 : k = d <;> simp [h4, upd]
  by_cases h33 : q = 33
  · subst h33
    by_cases h4 : k = d <;> simp [h4, upd]
  by_cases h34 : q = 34
  · subst h34
    by_cases h4 : k = d <;> simp [h4, upd]
  by_cases h35 : q = 35
  · subst h35
    by_cases h4 : k = d <;> simp [h4, upd]
  simp [h31, h32, h33, h34, h35]
def c_drop (M : I_M) : I_M := i_rw (i_rw (i_rw (i_rw (i_rw M 31 (upd (upd (M.1 31) 5 0) 4 39)) 32 (c_sh (M.1 32))) 33 (c_sh (M.1 33))) 34 (c_sh (M.1 34))) 35 (c_sh (M.1 35))
theorem add_2 (h : (M.1 31 4).toInt = 40) : b_Changes_add n w x v M = some (c_add (c_drop M) 39 n w x v) := by
  unfold b_Changes_add b_Changes_dropOldest
  have l40 : (40 : Int32).toInt = 40 := rfl
  have l0 : (0 : Int32).toInt = 0 := rfl
  have l1 : (1 : Int32).toInt = 1 := rfl
  have l39 : (39 : Int32).toInt = 39 := rfl
  rw [if_neg (by rw [a_lt]; omega)]
  rw [cg_ok (by omega) (by omega) (by omega) (by omega) (by omega), cg_ok (by omega) (by omega) (by omega) (by omega) (by omega), cg_ok (by omega) (by omega) (by omega) (by omega) (by omega), cg_ok (by omega) (by omega) (by omega) (by omega) (by omega)]
  dsimp only [Option.bind_some]
  rw [cI_rw rfl, cI_rw rfl, cI_rw rfl, cI_rw rfl, rw_w, rw_w, rw_rw, rw_s]
  have e : ∀ N, i_wI N 31 5 0 = N → b_Changes_add_B18 n w x v N = b_Changes_add_B18 n w x v (i_wI N 31 5 0) := fun N h => by rw [h]
  have e2 : i_wI (c_drop M) 31 5 0 = c_drop M := by
    rw [rw_w]
    refine m_ext (fun q k => ?_) rfl
    unfold i_rw
    by_cases c : q = 31
    · subst c
      by_cases c5 : k = 5
      · subst c5
        rfl
      · simp [upd, c5]
    · simp [c]
  have e3 : (c_drop M).1 31 4 = 39 := rfl
  have := add_1 (M := c_drop M) (n := n) (w := w) (x := x) (v := v) (d := 39) (by rw [e3]; rfl) (by omega)
  unfold b_Changes_add at this
  rw [e3, if_pos (by decide), e2] at this
  exact this
theorem mend_r {at' : Nat} (h : c_ok n.toInt w.toInt (i_ce (M.1 50 6) (M.1 50 7)) (M.1 50 8).toInt) (hc : 1 ≤ i_ce (M.1 50 6) (M.1 50 7)) (hc2 : i_ce (M.1 50 6) (M.1 50 7) ≤ 25) (hb : 0 ≤ (M.1 50 8).toInt) (hb6 : (M.1 50 8).toInt ≤ 6) (hv : 0 ≤ v.toInt) (hx : v.toInt ≤ i_mx w.toInt) (ha : (at' : Int) = i_wh n.toInt w.toInt) : ∃ y : Int32, y.toInt = at' ∧ r_mend n w v M = r_becomes y v M := by
  obtain ⟨h1, h2, h3, h4, h5, h6⟩ := h
  unfold i_mx at hx
  unfold i_wh at ha
  unfold r_mend r_mend_B143 r_mend_B173
  have hw : w.toInt = 0 ∨ w.toInt = 1 ∨ w.toInt = 2 ∨ w.toInt = 3 ∨ w.toInt = 4 ∨ w.toInt = 5 ∨ w.toInt = 6 := by omega
  have l25 : (25 : Int32).toInt = 25 := rfl
  have l50 : (50 : Int32).toInt = 50 := rfl
  have l56 : (56 : Int32).toInt = 56 := rfl
  have l3 : (3 : Int32).toInt = 3 := rfl
  have L9 : (9 : Int64).toInt = 9 := rfl
  have L99 : (99 : Int64).toInt = 99 := rfl
  rcases hw with q | q | q | q | q | q | q
  all_goals simp only [a_eq, q, Int32.reduceToInt, Int.reduceEq, reduceIte, Int.reduceLE] at ha hx ⊢
  · refine ⟨n, by omega, ?_⟩
    rw [e_isCell hc]
    dsimp only [Option.bind_some]
    rw [bo_p (by omega), if_neg (by decide), r_within_e, a_l, L9, Int64.toInt_zero, bo_p (by omega)]
    dsimp only [Option.bind_some]
    rw [if_neg (by decide), bind_id]
  · refine ⟨25 + n, by rw [a_add] <;> omega, ?_⟩
    rw [e_isCell hc]
    dsimp only [Option.bind_some]
    rw [bo_p (by omega), if_neg (by decide), r_within_e, a_l, L99, Int64.toInt_zero, bo_p (by omega)]
    dsimp only [Option.bind_some]
    rw [if_neg (by decide), bind_id]
  · refine ⟨50 + n, by rw [a_add] <;> omega, ?_⟩
    rw [e_isBell hb]
    dsimp only [Option.bind_some]
    rw [bo_p (by omega), if_neg (by decide), r_within_e, a_l, L9, Int64.toInt_zero, bo_p (by omega)]
    dsimp only [Option.bind_some]
    rw [if_neg (by decide), bind_id]
  all_goals
    refine ⟨56 + w - 3, by rw [a_sub] <;> rw [a_add] <;> omega, ?_⟩
    rw [if_pos (by omega), r_within_e, a_l, Int64.toInt_zero]
    rw [bo_p (by first | rw [L9]; omega | rw [L99]; omega | rw [Int64.toInt_one]; omega)]
    dsimp only [Option.bind_some]
    rw [if_neg (by decide), bind_id]
theorem mend_r0 (h : ¬ (c_ok n.toInt w.toInt (i_ce (M.1 50 6) (M.1 50 7)) (M.1 50 8).toInt ∧ 0 ≤ v.toInt ∧ v.toInt ≤ i_mx w.toInt)) (hc : 1 ≤ i_ce (M.1 50 6) (M.1 50 7)) (hb : 0 ≤ (M.1 50 8).toInt) : r_mend n w v M = some (-1, M) := by
  have h : ¬ ((0 ≤ w.toInt ∧ w.toInt ≤ 6 ∧ 0 ≤ n.toInt ∧ (w.toInt ≤ 1 → n.toInt < i_ce (M.1 50 6) (M.1 50 7)) ∧ (w.toInt = 2 → n.toInt < (M.1 50 8).toInt) ∧ (3 ≤ w.toInt → n.toInt = 0)) ∧ 0 ≤ v.toInt ∧ v.toInt ≤ i_mx w.toInt) := h
  have hw : w.toInt = 0 ∨ w.toInt = 1 ∨ w.toInt = 2 ∨ w.toInt = 3 ∨ w.toInt = 4 ∨ w.toInt = 5 ∨ w.toInt = 6 ∨ (¬ w.toInt = 0 ∧ ¬ w.toInt = 1 ∧ ¬ w.toInt = 2 ∧ ¬ w.toInt = 3 ∧ ¬ w.toInt = 4 ∧ ¬ w.toInt = 5 ∧ ¬ w.toInt = 6) := by omega
  have L9 : (9 : Int64).toInt = 9 := rfl
  have L99 : (99 : Int64).toInt = 99 := rfl
  have L1 : (1 : Int64).toInt = 1 := rfl
  have hm : i_mx w.toInt = if w.toInt = 1 then 99 else if w.toInt = 4 then 1 else if w.toInt = 5 then 99 else 9 := rfl
  unfold r_mend r_mend_B143 r_mend_B173
  have N1 : ∀ {p : Prop} [Decidable p] {x : Option (Int32 × I_M)}, ¬ p → (if i_bo p = 0 then some (-1, M) else x) = some (-1, M) := fun h => by rw [bo_n h]; exact if_pos rfl
  have N2 : ∀ {p q : Prop} [Decidable p] [Decidable q] {x : Option (Int32 × I_M)}, ¬ (p ∧ q) → (if i_bo p = 0 then some (-1, M) else if i_bo q = 0 then some (-1, M) else x) = some (-1, M) := fun {p q} _ _ x h => by
    by_cases hp : p
    · rw [bo_p hp, if_neg (by decide), N1 (fun hq => h ⟨hp, hq⟩)]
    · exact N1 hp
  rcases hw with q | q | q | q | q | q | q | ⟨q0, q1, q2, q3, q4, q5, q6⟩
  all_goals try simp only [show ∀ k : Int32, (w = k) = (w.toInt = k.toInt) from fun k => propext a_eq, q, Int32.reduceToInt, Int.reduceEq, reduceIte, e_isCell hc, e_isBell hb, r_within_e, Option.bind_some, a_l, L9, L99, L1, Int64.toInt_zero]
  · exact N2 (by omega)
  · exact N2 (by omega)
  · exact N2 (by omega)
  all_goals first
    | (by_cases hn : n = 0
       · rw [if_pos hn]
         rw [a_eq, Int32.toInt_zero] at hn
         exact N1 (by omega)
       · exact if_neg hn)
    | (simp only [show ∀ k : Int32, (w = k) = (w.toInt = k.toInt) from fun k => propext a_eq, q0, q1, q2, q3, q4, q5, q6, reduceIte, Int32.reduceToInt]; done)
    | trace_state
end MND
def c_chg (M : I_M) (d : Nat) (at' x v : Int32) : I_M := i_rw (i_rw (i_rw (i_rw (i_rw M 52 (upd (M.1 52) d at')) 53 (upd (M.1 53) d x)) 54 (upd (M.1 54) d v)) 50 (upd (upd (M.1 50) 5 (Int32.ofNat (d + 1))) 4 (Int32.ofNat (d + 1)))) 51 (upd (M.1 51) (Int32.toNatClampNeg at') v)
section MND2
variable {M : I_M} {y x v : Int32}
theorem bec_1 {d : Nat} (h : (M.1 50 5).toInt = d) (hd : d < 40) (hy : 0 ≤ y.toInt) (hy2 : y.toInt < 60) : r_becomes_B97 y v x M = some (x, c_chg M d y x v) := by
  unfold r_becomes_B97
  rw [g_ok (by omega) (by omega), g_ok (by omega) (by omega), a_k h, of_add h (by omega)]
  congr 2
  refine m_ext (fun q k => ?_) rfl
  simp only [m_wI, c_chg, i_rw]
  by_cases h51 : q = 51
  · subst h51
    by_cases h4 : k = Int32.toNatClampNeg y <;> simp [h4, upd]
  by_cases h50 : q = 50
  · subst h50
    by_cases h4 : k = 4
    · subst h4
      simp [upd]
    · by_cases h5 : k = 5
      · subst h5
        simp [upd]
      · simp [h4, h5, upd]
  by_cases h52 : q = 52
  · subst h52
    by_cases h4 : k = d <;> simp [h4, upd]
  by_cases h53 : q = 53
  · subst h53
    by_cases h4 : k = d <;> simp [h4, upd]
  by_cases h54 : q = 54
  · subst h54
    by_cases h4 : k = d <;> simp [h4, upd]
  simp [h51, h50, h52, h53, h54]
def c_rdrop (M : I_M) : I_M := i_rw (i_rw (i_rw (i_rw M 52 (c_sh (M.1 52))) 53 (c_sh (M.1 53))) 54 (c_sh (M.1 54))) 50 (upd (M.1 50) 5 39)
def c_shk (k : Nat) (f : Nat → Int32) (j : Nat) : Int32 := if j + 1 < k then f (j + 1) else f j
theorem bec_2 (h : (M.1 50 5).toInt = 40) (hy : 0 ≤ y.toInt) (hy2 : y.toInt < 60) (hne : M.1 51 (Int32.toNatClampNeg y) ≠ v) : r_becomes y v M = some (M.1 51 (Int32.toNatClampNeg y), c_chg (c_rdrop M) 39 y (M.1 51 (Int32.toNatClampNeg y)) v) := by
  unfold r_becomes
  have l40 : (40 : Int32).toInt = 40 := rfl
  rw [g_ok (by omega) (by omega), if_neg hne, if_pos (by rw [a_eq]; omega)]
  refine T_eq (T_for (N := 40) (a := 1) (f := r_becomes_L26 y v _ _) (fun k M' => M' = i_rw (i_rw (i_rw M 52 (c_shk k (M.1 52))) 53 (c_shk k (M.1 53))) 54 (c_shk k (M.1 54))) (by omega) ?_ ?_ (by unfold i_F; omega) (by omega) (by decide) ?_)
  · intro m k i M' h1 h2 h3 h4 h5
    subst h4
    unfold r_becomes_L26
    have e1 : (i - 1).toInt = i.toInt - 1 := a_s1 (by omega)
    rw [if_pos (by rw [a_lt]; omega)]
    refine T_g (by omega) (by omega) (T_g (by omega) (by omega) (h5 _ ?_))
    have k1 : Int32.toNatClampNeg i = k := a_k h1
    have k2 : Int32.toNatClampNeg (i - 1) = k - 1 := a_k (by omega)
    rw [k1, k2]
    have S : ∀ f : Nat → Int32, upd (c_shk k f) (k - 1) (c_shk k f k) = c_shk (k + 1) f := by
      intro f
      funext j
      have hk : c_shk k f k = f k := if_neg (by omega)
      rw [hk]
      unfold upd c_shk
      by_cases q : j = k - 1
      · rw [if_pos q, if_pos (by omega), show j + 1 = k by omega]
      · rw [if_neg q]
        by_cases q2 : j + 1 < k
        · rw [if_pos q2, if_pos (by omega)]
        · rw [if_neg q2, if_neg (by omega)]
    refine m_ext (fun q j => ?_) rfl
    simp only [m_wI, i_rw]
    by_cases h52 : q = 52
    · subst h52
      have := congrFun (S (M.1 52)) j
      unfold upd at this
      by_cases hj : j = k - 1 <;> simp [hj] at this ⊢ <;> exact this
    by_cases h53 : q = 53
    · subst h53
      have := congrFun (S (M.1 53)) j
      unfold upd at this
      by_cases hj : j = k - 1 <;> simp [hj] at this ⊢ <;> exact this
    by_cases h54 : q = 54
    · subst h54
      have := congrFun (S (M.1 54)) j
      unfold upd at this
      by_cases hj : j = k - 1 <;> simp [hj] at this ⊢ <;> exact this
    simp [h52, h53, h54]
  · intro m i M' h1 h2
    subst h2
    unfold r_becomes_L26
    rw [if_neg (by rw [a_lt]; omega)]
    have E : ∀ f, c_shk 40 f = c_sh f := by
      intro f
      funext j
      unfold c_shk c_sh
      by_cases q : j < 39
      · rw [if_pos q, if_pos (by omega)]
      · rw [if_neg q, if_neg (by omega)]
    rw [E, E, E]
    have e39 : M.1 50 5 - 1 = 39 := by rw [a_eq, a_s1 (by omega), h]; rfl
    have e : i_wI (i_rw (i_rw (i_rw M 52 (c_sh (M.1 52))) 53 (c_sh (M.1 53))) 54 (c_sh (M.1 54))) 50 5 ((i_rw (i_rw (i_rw M 52 (c_sh (M.1 52))) 53 (c_sh (M.1 53))) 54 (c_sh (M.1 54))).1 50 5 - 1) = c_rdrop M := by
      rw [show (i_rw (i_rw (i_rw M 52 (c_sh (M.1 52))) 53 (c_sh (M.1 53))) 54 (c_sh (M.1 54))).1 50 5 = M.1 50 5 from rfl, e39, rw_w]
      rfl
    rw [e, bec_1 (M := c_rdrop M) (d := 39) (by rfl) (by omega) hy hy2]
    exact T_some rfl
  · have E : ∀ f, c_shk 1 f = f := by
      intro f
      funext j
      exact if_neg (by omega)
    rw [E, E, E]
    refine m_ext (fun q j => ?_) rfl
    unfold i_rw
    by_cases h52 : q = 52
    · simp [h52]
    by_cases h53 : q = 53
    · simp [h53]
    by_cases h54 : q = 54
    · simp [h54]
    simp [h52, h53, h54]
end MND2
theorem chg_add {d u d' kp n x v b : Int32} {N W B A AT WAS IS : Nat → Int32} {ce nb : Int} {y : Int32} {e : Nat} (h : N_chg d u d' kp N W B A AT WAS IS ce nb) (he : d'.toInt = e) (he2 : e < 40) (ho : c_ok n.toInt x.toInt ce nb) (hy : y.toInt = i_wh n.toInt x.toInt) (hb : 0 ≤ b.toInt) (hb2 : b.toInt ≤ i_mx x.toInt) (hv : 0 ≤ v.toInt) (hv2 : v.toInt ≤ i_mx x.toInt) :
    N_chg (Int32.ofNat (e + 1)) 0 (Int32.ofNat (e + 1)) (Int32.ofNat (e + 1)) (upd N e n) (upd W e x) (upd B e b) (upd A e v) (upd AT e y) (upd WAS e b) (upd IS e v) ce nb := by
  obtain ⟨h1, h2, h3, h4, h5, h6⟩ := h
  have k1 : (Int32.ofNat (e + 1)).toInt = e + 1 := a_on (by omega)
  refine ⟨rfl, by omega, by omega, by omega, by rw [Int32.toInt_zero]; omega, fun k hk => ?_⟩
  by_cases q : k = e
  · subst q
    rw [upd_s, upd_s, upd_s, upd_s, upd_s, upd_s, upd_s]
    obtain ⟨o1, o2, o3, o4, o5, o6⟩ := ho
    exact ⟨rfl, rfl, hy, o1, o2, o3, o4, o5, o6, hb, hb2, hv, hv2⟩
  · rw [upd_n q, upd_n q, upd_n q, upd_n q, upd_n q, upd_n q, upd_n q]
    exact h6 k (by omega)
theorem chg_sh {d u d' kp : Int32} {N W B A AT WAS IS : Nat → Int32} {ce nb : Int} (h : N_chg d u d' kp N W B A AT WAS IS ce nb) (h40 : d'.toInt = 40) :
    N_chg 39 0 39 39 (c_sh N) (c_sh W) (c_sh B) (c_sh A) (c_sh AT) (c_sh WAS) (c_sh IS) ce nb := by
  obtain ⟨h1, h2, h3, h4, h5, h6⟩ := h
  have l39 : (39 : Int32).toInt = 39 := rfl
  refine ⟨rfl, by omega, by omega, by omega, by rw [Int32.toInt_zero]; omega, fun k hk => ?_⟩
  unfold c_sh
  rw [if_pos (by omega), if_pos (by omega), if_pos (by omega), if_pos (by omega), if_pos (by omega), if_pos (by omega), if_pos (by omega)]
  exact h6 (k + 1) (by omega)
section OPS
variable {L : Int32 → Int32 → Int32 → (Nat → Int32) → (Nat → Int32) → Prop} {a b c : Int32}
theorem op_mend : OP L (b_mend a b c) (r_mend a b c) := by
  intro M h
  have hi := h
  obtain ⟨hLa, hMa, hBe, hFo, hTa, hLw, hHe, hIm, hCh, hVi, hBo, hRa, hSh⟩ := h
  have ⟨hc, hc2, hc3⟩ := N_land_ce hLa
  have hb0 := hBe.2.1
  have hb6 := hBe.2.2.1
  have e13 : (M.1 13 6).toInt = (M.1 50 8).toInt := congrArg Int32.toInt hBe.1
  have l0 := Int32.toInt_zero
  by_cases ok : c_ok a.toInt b.toInt (i_ce (M.1 50 6) (M.1 50 7)) (M.1 50 8).toInt ∧ 0 ≤ c.toInt ∧ c.toInt ≤ i_mx b.toInt
  · obtain ⟨ho, hv, hx⟩ := ok
    have rg := i_wh_rg ho hc2 hb6
    obtain ⟨w, hw⟩ : ∃ w : Nat, (w : Int) = i_wh a.toInt b.toInt := ⟨(i_wh a.toInt b.toInt).toNat, by omega⟩
    have hval := val_e (n := a) (w := b) (wet := 0) (frost := 0) (ear := 0) (guess := 0) hMa ho hc2 hb6 hw
    have hx101 := x101_e (w := b) ho.1 ho.2.1
    unfold b_mend
    rw [mendable_1 (by rw [hc3, e13]; exact ho)]
    dsimp only [Option.bind_some]
    rw [if_neg (by decide), if_neg (by rw [a_lt]; omega), g_ok ho.1 (by have := ho.2.1; omega), if_neg (by rw [a_lt]; omega), hval.1]
    dsimp only [Option.bind_some]
    obtain ⟨e1, e2, e3, e4, e5, e6⟩ := hCh
    by_cases hsame : c = M.1 51 w
    · rw [if_pos hsame]
      refine T_some ?_
      dsimp only
      obtain ⟨y, hy, hr⟩ := mend_r (M := M) (n := a) (w := b) (v := c) ho hc hc2 hb0 hb6 hv hx hw
      rw [hr]
      unfold r_becomes
      rw [g_ok (by omega) (by omega), a_k hy, if_pos hsame.symm]
      exact T_some ⟨rfl, hi⟩
    · rw [if_neg hsame]
      have e1' : (M.1 31 4).toInt = (M.1 50 5).toInt := congrArg Int32.toInt e1
      by_cases h40 : (M.1 50 5).toInt = 40
      · rw [add_2 (by omega)]
        dsimp only [Option.bind_some]
        rw [set_e ho hc2 hb6]
        dsimp only [Option.bind_some]
        refine T_some ?_
        dsimp only
        generalize hG : c_set (c_add (c_drop M) 39 a b (M.1 51 w) c) a b c = G
        have g6 : G.1 50 = M.1 50 := by rw [← hG]; rfl
        have g51 : G.1 51 = M.1 51 := by rw [← hG]; rfl
        obtain ⟨y, hy, hr⟩ := mend_r (M := G) (n := a) (w := b) (v := c) (by rw [g6]; exact ho) (by rw [g6]; exact hc) (by rw [g6]; exact hc2) (by rw [g6]; exact hb0) (by rw [g6]; exact hb6) hv hx hw
        have ky : Int32.toNatClampNeg y = w := a_k hy
        rw [hr, bec_2 (by rw [g6]; exact h40) (by omega) (by omega) (by rw [g51, ky]; exact fun h => hsame h.symm), g51, ky]
        refine T_some ?_
        subst hG
        refine ⟨rfl, hLa, ?_, hBe, hFo, hTa, hLw, hHe, hIm, ?_, hVi, hBo, hRa, hSh⟩
        · show N_may _ _ _ _ _ _ _ (upd (M.1 51) (Int32.toNatClampNeg y) c)
          rw [ky]
          exact may_set hMa ho hc2 hb6 hw hv hx
        · exact chg_add (chg_sh ⟨e1, e2, e3, e4, e5, e6⟩ h40) (by rfl) (by omega) ho (by omega) hval.2.1 hval.2.2 hv hx
      · obtain ⟨d, hd⟩ : ∃ d : Nat, (M.1 50 5).toInt = d := ⟨(M.1 50 5).toInt.toNat, by omega⟩
        rw [add_1 (d := d) (by omega) (by omega)]
        dsimp only [Option.bind_some]
        rw [set_e ho hc2 hb6]
        dsimp only [Option.bind_some]
        refine T_some ?_
        dsimp only
        generalize hG : c_set (c_add M d a b (M.1 51 w) c) a b c = G
        have g6 : G.1 50 = M.1 50 := by rw [← hG]; rfl
        have g51 : G.1 51 = M.1 51 := by rw [← hG]; rfl
        obtain ⟨y, hy, hr⟩ := mend_r (M := G) (n := a) (w := b) (v := c) (by rw [g6]; exact ho) (by rw [g6]; exact hc) (by rw [g6]; exact hc2) (by rw [g6]; exact hb0) (by rw [g6]; exact hb6) hv hx hw
        have ky : Int32.toNatClampNeg y = w := a_k hy
        rw [hr]
        unfold r_becomes
        have l40 : (40 : Int32).toInt = 40 := rfl
        rw [g_ok (by omega) (by omega), g51, ky, if_neg (fun h => hsame h.symm), g6, if_neg (by rw [a_eq]; omega), bec_1 (d := d) (by rw [g6]; exact hd) (by omega) (by omega) (by omega)]
        refine T_some ?_
        subst hG
        refine ⟨rfl, hLa, ?_, hBe, hFo, hTa, hLw, hHe, hIm, ?_, hVi, hBo, hRa, hSh⟩
        · show N_may _ _ _ _ _ _ _ (upd (M.1 51) (Int32.toNatClampNeg y) c)
          rw [ky]
          exact may_set hMa ho hc2 hb6 hw hv hx
        · exact chg_add ⟨e1, e2, e3, e4, e5, e6⟩ hd (by omega) ho (by omega) hval.2.1 hval.2.2 hv hx
  · have hb : b_mend a b c M = some (-1, M) := by
      unfold b_mend
      by_cases ho : c_ok a.toInt b.toInt (i_ce (M.1 50 6) (M.1 50 7)) (M.1 50 8).toInt
      · rw [mendable_1 (by rw [hc3, e13]; exact ho)]
        dsimp only [Option.bind_some]
        have hx101 := x101_e (w := b) ho.1 ho.2.1
        by_cases hv : c.toInt < 0
        · rw [if_neg (by decide), if_pos (by rw [a_lt]; omega)]
        · rw [if_neg (by decide), if_neg (by rw [a_lt]; omega), g_ok ho.1 (by have := ho.2.1; omega), if_pos (by rw [a_lt]; have : ¬ c.toInt ≤ i_mx b.toInt := fun h => ok ⟨ho, by omega, h⟩; omega)]
      · rw [mendable_0 (by rw [hc3, e13]; exact ho)]
        rfl
    rw [hb]
    refine T_some ?_
    dsimp only
    rw [mend_r0 ok hc hb0]
    exact T_some ⟨rfl, hi⟩
end OPS
