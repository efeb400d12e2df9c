/-! ===== part 39: mend, undo, redo ===== -/
def c_ok (n w ce nb : Int) : Prop := 0 ≤ w ∧ w ≤ 6 ∧ 0 ≤ n ∧ (w ≤ 1 → n < ce) ∧ (w = 2 → n < nb) ∧ (3 ≤ w → n = 0)
theorem bind_id {α : Type} {x : Option (α × I_M)} : Option.bind x (fun q => some (q.1, q.2)) = x := by
  cases x <;> rfl
section MND
variable {M : I_M} {n w v : Int32}
theorem mendable_1 (h : c_ok n.toInt w.toInt (i_ce (M.1 1 0) (M.1 1 1)) (M.1 13 6).toInt) : b_isMendable n w M = some (1, M) := by
  obtain ⟨h1, h2, h3, h4, h5, h6⟩ := h
  have hw : w.toInt = 0 ∨ w.toInt = 1 ∨ w.toInt = 2 ∨ w.toInt = 3 ∨ w.toInt = 4 ∨ w.toInt = 5 ∨ w.toInt = 6 := by omega
  unfold b_isMendable
  rcases hw with q | q | q | q | q | q | q
  all_goals simp only [a_eq, q, e_has, e_bhas, Option.bind_some, bo_zo, Int32.reduceToInt, Int.reduceEq, reduceIte]
  all_goals first | rw [bo_p (by omega)] | rw [if_pos (by omega)]
theorem mendable_0 (h : ¬ c_ok n.toInt w.toInt (i_ce (M.1 1 0) (M.1 1 1)) (M.1 13 6).toInt) : b_isMendable n w M = some (0, M) := by
  have h : ¬ (0 ≤ w.toInt ∧ w.toInt ≤ 6 ∧ 0 ≤ n.toInt ∧ (w.toInt ≤ 1 → n.toInt < i_ce (M.1 1 0) (M.1 1 1)) ∧ (w.toInt = 2 → n.toInt < (M.1 13 6).toInt) ∧ (3 ≤ w.toInt → n.toInt = 0)) := h
  have hw : w.toInt = 0 ∨ w.toInt = 1 ∨ w.toInt = 2 ∨ w.toInt = 3 ∨ w.toInt = 4 ∨ w.toInt = 5 ∨ w.toInt = 6 ∨ (¬ w.toInt = 0 ∧ ¬ w.toInt = 1 ∧ ¬ w.toInt = 2 ∧ ¬ w.toInt = 3 ∧ ¬ w.toInt = 4 ∧ ¬ w.toInt = 5 ∧ ¬ w.toInt = 6) := by omega
  unfold b_isMendable
  rcases hw with q | q | q | q | q | q | q | ⟨q0, q1, q2, q3, q4, q5, q6⟩
  all_goals try simp only [a_eq, q, e_has, e_bhas, Option.bind_some, bo_zo, Int32.reduceToInt, Int.reduceEq, reduceIte]
  all_goals try simp only [a_eq, q0, q1, q2, q3, q4, q5, q6, reduceIte, Int32.reduceToInt]
  all_goals first | rfl | rw [bo_n (by omega)] | rw [if_neg (by omega)] | rw [if_neg (by rw [Int32.toInt_zero]; omega)] | trace_state
end MND
/-- soils, costs, depths and the rest with one of them given anew -/
def c_set (M : I_M) (n w v : Int32) : I_M :=
  i_rw (i_rw (i_rw (i_rw M 4 (if w.toInt = 0 then upd (M.1 4) (Int32.toNatClampNeg n) v else M.1 4)) 5 (if w.toInt = 1 then upd (M.1 5) (Int32.toNatClampNeg n) v else M.1 5)) 16 (if w.toInt = 2 then upd (M.1 16) (Int32.toNatClampNeg n) v else M.1 16)) 1
    (fun k => if k = 6 then (if w.toInt = 3 then v else M.1 1 6) else if k = 7 then (if w.toInt = 4 then v else M.1 1 7) else if k = 8 then (if w.toInt = 5 then v else M.1 1 8) else if k = 9 then (if w.toInt = 6 then v else M.1 1 9) else M.1 1 k)
theorem set_e {M : I_M} {n w v : Int32} {ce nb : Int} (h : c_ok n.toInt w.toInt ce nb) (hc : ce ≤ 25) (hb : nb ≤ 6) : b_setValue n w v M = some (c_set M n w v) := by
  obtain ⟨h1, h2, h3, h4, h5, h6⟩ := h
  have hw : w.toInt = 0 ∨ w.toInt = 1 ∨ w.toInt = 2 ∨ w.toInt = 3 ∨ w.toInt = 4 ∨ w.toInt = 5 ∨ w.toInt = 6 := by omega
  have K : ∀ {q : Nat} {f : Nat → Int32} {N : I_M}, (∀ k, f k = N.1 q k) → i_rw N q f = N := by
    intro q f N hf
    rw [show f = N.1 q from funext hf]
    exact rw_id
  have E : ∀ {x y : I_M}, x = y → some x = some y := fun h => congrArg some h
  have K1 : ∀ k, (if k = 6 then M.1 1 6 else if k = 7 then M.1 1 7 else if k = 8 then M.1 1 8 else if k = 9 then M.1 1 9 else M.1 1 k) = M.1 1 k := by
    intro k
    by_cases c6 : k = 6
    · subst c6
      simp
    by_cases c7 : k = 7
    · subst c7
      simp
    by_cases c8 : k = 8
    · subst c8
      simp
    by_cases c9 : k = 9
    · subst c9
      simp
    simp only [c6, c7, c8, c9, reduceIte]
  unfold b_setValue c_set
  rcases hw with q | q | q | q | q | q | q
  all_goals simp only [a_eq, q, Int32.reduceToInt, Int.reduceEq, reduceIte, and_true, and_false]
  · rw [g_ok h3 (by omega), rw_w]
    refine E ?_
    rw [K (q := 5) (N := i_rw M 4 (upd (M.1 4) (Int32.toNatClampNeg n) v)) (f := M.1 5) (fun _ => rfl), K (q := 16) (N := i_rw M 4 (upd (M.1 4) (Int32.toNatClampNeg n) v)) (f := M.1 16) (fun _ => rfl), K (q := 1) (N := i_rw M 4 (upd (M.1 4) (Int32.toNatClampNeg n) v)) K1]
  · rw [g_ok h3 (by omega), rw_w]
    refine E ?_
    rw [K (q := 4) (N := M) (f := M.1 4) (fun _ => rfl), K (q := 16) (N := i_rw M 5 (upd (M.1 5) (Int32.toNatClampNeg n) v)) (f := M.1 16) (fun _ => rfl), K (q := 1) (N := i_rw M 5 (upd (M.1 5) (Int32.toNatClampNeg n) v)) K1]
  · rw [g_ok h3 (by omega), rw_w]
    refine E ?_
    rw [K (q := 4) (N := M) (f := M.1 4) (fun _ => rfl), K (q := 5) (N := M) (f := M.1 5) (fun _ => rfl), K (q := 1) (N := i_rw M 16 (upd (M.1 16) (Int32.toNatClampNeg n) v)) K1]
  all_goals
    refine E ?_
    rw [rw_w, K (q := 4) (N := M) (f := M.1 4) (fun _ => rfl), K (q := 5) (N := M) (f := M.1 5) (fun _ => rfl), K (q := 16) (N := M) (f := M.1 16) (fun _ => rfl)]
    congr 1
    funext k
    unfold upd
    by_cases c6 : k = 6
    · subst c6
      simp
    by_cases c7 : k = 7
    · subst c7
      simp
    by_cases c8 : k = 8
    · subst c8
      simp
    by_cases c9 : k = 9
    · subst c9
      simp
    simp only [c6, c7, c8, c9, reduceIte]
theorem may_set {s c z y : Nat → Int32} {wet frost ear guess n w v : Int32} {ce nb : Int} {at' : Nat} (h : N_may s c z wet frost ear guess y) (ho : c_ok n.toInt w.toInt ce nb) (hc : ce ≤ 25) (hb : nb ≤ 6) (ha : (at' : Int) = i_wh n.toInt w.toInt) (hv : 0 ≤ v.toInt) (hx : v.toInt ≤ i_mx w.toInt) :
    N_may (if w.toInt = 0 then upd s (Int32.toNatClampNeg n) v else s) (if w.toInt = 1 then upd c (Int32.toNatClampNeg n) v else c) (if w.toInt = 2 then upd z (Int32.toNatClampNeg n) v else z)
      (if w.toInt = 3 then v else wet) (if w.toInt = 4 then v else frost) (if w.toInt = 5 then v else ear) (if w.toInt = 6 then v else guess) (upd y at' v) := by
  obtain ⟨h1, h2, h3, h4, h5, h6⟩ := ho
  obtain ⟨g1, g2, g3, g4, g5, g6, g7, g8, g9, g10, g11, g12, g13, g14, g15⟩ := h
  have hn : Int32.toNatClampNeg n = n.toInt.toNat := a_n n
  unfold i_wh at ha
  unfold i_mx at hx
  have hw : w.toInt = 0 ∨ w.toInt = 1 ∨ w.toInt = 2 ∨ w.toInt = 3 ∨ w.toInt = 4 ∨ w.toInt = 5 ∨ w.toInt = 6 := by omega
  have A : ∀ (f : Nat → Int32) (o m : Nat) (hi : Int), (∀ k : Nat, k < m → f k = y (o + k) ∧ 0 ≤ (y (o + k)).toInt ∧ (y (o + k)).toInt ≤ hi) → (at' < o ∨ o + m ≤ at') → ∀ k : Nat, k < m → f k = upd y at' v (o + k) ∧ 0 ≤ (upd y at' v (o + k)).toInt ∧ (upd y at' v (o + k)).toInt ≤ hi := by
    intro f o m hi hf hat k hk
    rw [upd_n (by omega)]
    exact hf k hk
  have B : ∀ (f : Nat → Int32) (o m : Nat) (hi : Int), (∀ k : Nat, k < m → f k = y (o + k) ∧ 0 ≤ (y (o + k)).toInt ∧ (y (o + k)).toInt ≤ hi) → ∀ d : Nat, at' = o + d → v.toInt ≤ hi → ∀ k : Nat, k < m → upd f d v k = upd y at' v (o + k) ∧ 0 ≤ (upd y at' v (o + k)).toInt ∧ (upd y at' v (o + k)).toInt ≤ hi := by
    intro f o m hi hf d hat hvh k hk
    by_cases q : k = d
    · subst q
      rw [upd_s, hat, upd_s]
      exact ⟨rfl, hv, hvh⟩
    · rw [upd_n q, upd_n (by omega)]
      exact hf k hk
  have Z : ∀ (f : Nat → Int32) (m : Nat) (hi : Int), (∀ k : Nat, k < m → f k = y k ∧ 0 ≤ (y k).toInt ∧ (y k).toInt ≤ hi) → (∀ k : Nat, k < m → f k = y (0 + k) ∧ 0 ≤ (y (0 + k)).toInt ∧ (y (0 + k)).toInt ≤ hi) := by
    intro f m hi hf k hk
    rw [Nat.zero_add]
    exact hf k hk
  have Z' : ∀ (f g : Nat → Int32) (m : Nat) (hi : Int), (∀ k : Nat, k < m → f k = g (0 + k) ∧ 0 ≤ (g (0 + k)).toInt ∧ (g (0 + k)).toInt ≤ hi) → (∀ k : Nat, k < m → f k = g k ∧ 0 ≤ (g k).toInt ∧ (g k).toInt ≤ hi) := by
    intro f g m hi hf k hk
    have := hf k hk
    rw [Nat.zero_add] at this
    exact this
  rcases hw with q | q | q | q | q | q | q
  all_goals simp only [q, Int32.reduceToInt, Int.reduceEq, reduceIte, Int.reduceLE] at ha hx ⊢
  · refine ⟨Z' _ _ _ _ (B _ 0 25 9 (Z _ _ _ g1) _ (by omega) hx), A _ 25 25 99 g2 (by omega), A _ 50 6 9 g3 (by omega), ?_⟩
    rw [upd_n (by omega), upd_n (by omega), upd_n (by omega), upd_n (by omega)]
    exact ⟨g4, g5, g6, g7, g8, g9, g10, g11, g12, g13, g14, g15⟩
  · refine ⟨Z' _ _ _ _ (A _ 0 25 9 (Z _ _ _ g1) (by omega)), B _ 25 25 99 g2 _ (by omega) hx, A _ 50 6 9 g3 (by omega), ?_⟩
    rw [upd_n (by omega), upd_n (by omega), upd_n (by omega), upd_n (by omega)]
    exact ⟨g4, g5, g6, g7, g8, g9, g10, g11, g12, g13, g14, g15⟩
  · refine ⟨Z' _ _ _ _ (A _ 0 25 9 (Z _ _ _ g1) (by omega)), A _ 25 25 99 g2 (by omega), B _ 50 6 9 g3 _ (by omega) hx, ?_⟩
    rw [upd_n (by omega), upd_n (by omega), upd_n (by omega), upd_n (by omega)]
    exact ⟨g4, g5, g6, g7, g8, g9, g10, g11, g12, g13, g14, g15⟩
  all_goals
    refine ⟨Z' _ _ _ _ (A _ 0 25 9 (Z _ _ _ g1) (by omega)), A _ 25 25 99 g2 (by omega), A _ 50 6 9 g3 (by omega), ?_⟩
  · obtain rfl : at' = 56 := by omega
    rw [upd_s, upd_n (by omega), upd_n (by omega), upd_n (by omega)]
    exact ⟨rfl, hv, hx, g7, g8, g9, g10, g11, g12, g13, g14, g15⟩
  · obtain rfl : at' = 57 := by omega
    rw [upd_s, upd_n (by omega), upd_n (by omega), upd_n (by omega)]
    exact ⟨g4, g5, g6, rfl, hv, hx, g10, g11, g12, g13, g14, g15⟩
  · obtain rfl : at' = 58 := by omega
    rw [upd_s, upd_n (by omega), upd_n (by omega), upd_n (by omega)]
    exact ⟨g4, g5, g6, g7, g8, g9, rfl, hv, hx, g13, g14, g15⟩
  · obtain rfl : at' = 59 := by omega
    rw [upd_s, upd_n (by omega), upd_n (by omega), upd_n (by omega)]
    exact ⟨g4, g5, g6, g7, g8, g9, g10, g11, g12, rfl, hv, hx⟩
theorem i_wh_rg {n w ce nb : Int} (h : c_ok n w ce nb) (hc : ce ≤ 25) (hb : nb ≤ 6) : 0 ≤ i_wh n w ∧ i_wh n w ≤ 59 := by
  obtain ⟨h1, h2, h3, h4, h5, h6⟩ := h
  unfold i_wh
  omega
theorem i_mx_rg {w : Int} : 1 ≤ i_mx w ∧ i_mx w ≤ 99 := by
  unfold i_mx
  omega
section OPS
variable {L : Int32 → Int32 → Int32 → (Nat → Int32) → (Nat → Int32) → Prop} {a b c : Int32}
theorem op_undo : OP L b_undo r_undo := by
  intro M h
  have hi := h
  obtain ⟨hLa, hMa, hBe, hFo, hTa, hLw, hHe, hIm, hCh, hVi, hBo, hRa, hSh⟩ := h
  have ⟨hc, hc2, hc3⟩ := N_land_ce hLa
  have hb6 := hBe.2.2.1
  obtain ⟨e1, e2, e3, e4, e5, e6⟩ := hCh
  unfold b_undo b_Changes_stepBack
  rw [e1]
  by_cases c0 : M.1 50 5 = 0
  · rw [if_pos c0]
    refine T_some ?_
    dsimp only
    unfold r_undo
    rw [if_pos c0]
    exact T_some ⟨rfl, hi⟩
  · rw [if_neg c0]
    have c1 : ¬ (M.1 50 5).toInt = 0 := fun h => c0 (a_eq.mpr h)
    have k1 : (M.1 50 5 - 1).toInt = (M.1 50 5).toInt - 1 := a_s1 e2
    have k2 : Int32.toNatClampNeg (M.1 50 5 - 1) = (M.1 50 5).toInt.toNat - 1 := by rw [a_n, k1]; omega
    have k3 : (M.1 31 5 + 1).toInt = (M.1 31 5).toInt + 1 := a_a1 (by omega)
    obtain ⟨f1, f2, f3, f4, f5, f6, f7, f8, f9, f10, f11, f12, f13⟩ := e6 (Int32.toNatClampNeg (M.1 50 5 - 1)) (by omega)
    generalize hk : Int32.toNatClampNeg (M.1 50 5 - 1) = k at *
    have ok : c_ok (M.1 32 k).toInt (M.1 33 k).toInt (i_ce (M.1 50 6) (M.1 50 7)) (M.1 50 8).toInt := ⟨f4, f5, f6, f7, f8, f9⟩
    have rg := i_wh_rg ok hc2 hb6
    refine T_bind (T_some ?_)
    refine T_g (show 0 ≤ (M.1 50 5 - 1).toInt by omega) (show (M.1 50 5 - 1).toInt < 40 by omega) ?_
    refine T_bind (T_ok (set_e (ce := i_ce (M.1 50 6) (M.1 50 7)) (nb := (M.1 50 8).toInt) ?_ hc2 hb6) ?_)
    · show c_ok (M.1 32 (Int32.toNatClampNeg (M.1 50 5 - 1))).toInt (M.1 33 (Int32.toNatClampNeg (M.1 50 5 - 1))).toInt _ _
      rw [hk]
      exact ok
    refine T_some ?_
    dsimp only
    unfold r_undo
    refine T_if (fun c2 => absurd c2 c0) (fun _ => ?_)
    refine T_g (show 0 ≤ (M.1 50 5 - 1).toInt by omega) (show (M.1 50 5 - 1).toInt < 40 by omega) ?_
    have k4 : (M.1 52 (Int32.toNatClampNeg (M.1 50 5 - 1))).toInt = i_wh (M.1 32 k).toInt (M.1 33 k).toInt := by rw [hk]; exact f3
    refine T_g (show 0 ≤ (M.1 52 (Int32.toNatClampNeg (M.1 50 5 - 1))).toInt by omega) (show (M.1 52 (Int32.toNatClampNeg (M.1 50 5 - 1))).toInt < 60 by omega) ?_
    refine T_some ⟨rfl, hLa, ?_, hBe, hFo, hTa, hLw, hHe, hIm, ?_, hVi, hBo, hRa, hSh⟩
    · show N_may _ _ _ _ _ _ _ (upd (M.1 51) (Int32.toNatClampNeg (M.1 52 (Int32.toNatClampNeg (M.1 50 5 - 1)))) (M.1 53 (Int32.toNatClampNeg (M.1 50 5 - 1))))
      rw [hk, ← f1, ← hk]
      refine may_set hMa (w := M.1 33 (Int32.toNatClampNeg (M.1 50 5 - 1))) (n := M.1 32 (Int32.toNatClampNeg (M.1 50 5 - 1))) ?_ hc2 hb6 ?_ ?_ ?_
      · rw [hk]
        exact ok
      · rw [a_n, hk]
        omega
      · exact (show 0 ≤ (M.1 34 (Int32.toNatClampNeg (M.1 50 5 - 1))).toInt by rw [hk, f1]; exact f10)
      · exact (show (M.1 34 (Int32.toNatClampNeg (M.1 50 5 - 1))).toInt ≤ i_mx (M.1 33 (Int32.toNatClampNeg (M.1 50 5 - 1))).toInt by rw [hk, f1]; exact f11)
    · refine (show N_chg (M.1 50 5 - 1) (M.1 31 5 + 1) (M.1 50 5 - 1) (M.1 50 4) (M.1 32) (M.1 33) (M.1 34) (M.1 35) (M.1 52) (M.1 53) (M.1 54) (i_ce (M.1 50 6) (M.1 50 7)) (M.1 50 8).toInt from ⟨rfl, by omega, by omega, e4, by omega, e6⟩)
theorem op_redo : OP L b_redo r_redo := by
  intro M h
  have hi := h
  obtain ⟨hLa, hMa, hBe, hFo, hTa, hLw, hHe, hIm, hCh, hVi, hBo, hRa, hSh⟩ := h
  have ⟨hc, hc2, hc3⟩ := N_land_ce hLa
  have hb6 := hBe.2.2.1
  obtain ⟨e1, e2, e3, e4, e5, e6⟩ := hCh
  unfold b_redo b_Changes_stepOn
  rw [e1]
  by_cases c0 : M.1 50 5 = M.1 50 4
  · have c1 : (M.1 50 5).toInt = (M.1 50 4).toInt := congrArg Int32.toInt c0
    rw [if_pos (a_eq.mpr (by rw [Int32.toInt_zero]; omega))]
    refine T_some ?_
    dsimp only
    unfold r_redo
    rw [if_pos c0]
    exact T_some ⟨rfl, hi⟩
  · have c1 : ¬ (M.1 50 5).toInt = (M.1 50 4).toInt := fun h => c0 (a_eq.mpr h)
    rw [if_neg (fun h => by rw [a_eq, Int32.toInt_zero] at h; omega)]
    have k1 : (M.1 50 5 + 1).toInt = (M.1 50 5).toInt + 1 := a_a1 (by omega)
    have k2 : Int32.toNatClampNeg (M.1 50 5) = (M.1 50 5).toInt.toNat := by rw [a_n]
    have k3 : (M.1 31 5 - 1).toInt = (M.1 31 5).toInt - 1 := a_s1 (by omega)
    have k5 : (M.1 50 4 - (M.1 50 5 + 1)).toInt = (M.1 50 4).toInt - (M.1 50 5 + 1).toInt := by rw [a_sub] <;> omega
    obtain ⟨f1, f2, f3, f4, f5, f6, f7, f8, f9, f10, f11, f12, f13⟩ := e6 (Int32.toNatClampNeg (M.1 50 5)) (by omega)
    generalize hk : Int32.toNatClampNeg (M.1 50 5) = k at *
    have ok : c_ok (M.1 32 k).toInt (M.1 33 k).toInt (i_ce (M.1 50 6) (M.1 50 7)) (M.1 50 8).toInt := ⟨f4, f5, f6, f7, f8, f9⟩
    have rg := i_wh_rg ok hc2 hb6
    refine T_bind (T_some ?_)
    refine T_g (show 0 ≤ (M.1 50 5).toInt by omega) (show (M.1 50 5).toInt < 40 by omega) ?_
    refine T_bind (T_ok (set_e (ce := i_ce (M.1 50 6) (M.1 50 7)) (nb := (M.1 50 8).toInt) ok hc2 hb6) ?_)
    refine T_some ?_
    dsimp only
    unfold r_redo
    refine T_if (fun c2 => absurd c2 c0) (fun _ => ?_)
    refine T_g (show 0 ≤ (M.1 50 5).toInt by omega) (show (M.1 50 5).toInt < 40 by omega) ?_
    have k4 : (M.1 52 (Int32.toNatClampNeg (M.1 50 5))).toInt = i_wh (M.1 32 k).toInt (M.1 33 k).toInt := by rw [hk]; exact f3
    refine T_g (show 0 ≤ (M.1 52 (Int32.toNatClampNeg (M.1 50 5))).toInt by omega) (show (M.1 52 (Int32.toNatClampNeg (M.1 50 5))).toInt < 60 by omega) ?_
    refine T_some ⟨?_, hLa, ?_, hBe, hFo, hTa, hLw, hHe, hIm, ?_, hVi, hBo, hRa, hSh⟩
    · show M.1 50 4 - (M.1 50 5 + 1) = M.1 31 5 - 1
      rw [a_eq]
      omega
    · show N_may _ _ _ _ _ _ _ (upd (M.1 51) (Int32.toNatClampNeg (M.1 52 (Int32.toNatClampNeg (M.1 50 5)))) (M.1 54 (Int32.toNatClampNeg (M.1 50 5))))
      rw [hk, ← f2]
      refine may_set hMa (w := M.1 33 k) (n := M.1 32 k) ok hc2 hb6 ?_ ?_ ?_
      · rw [a_n]
        rw [hk] at k4
        omega
      · exact (show 0 ≤ (M.1 35 k).toInt by rw [f2]; exact f12)
      · exact (show (M.1 35 k).toInt ≤ i_mx (M.1 33 k).toInt by rw [f2]; exact f13)
    · refine (show N_chg (M.1 50 5 + 1) (M.1 31 5 - 1) (M.1 50 5 + 1) (M.1 50 4) (M.1 32) (M.1 33) (M.1 34) (M.1 35) (M.1 52) (M.1 53) (M.1 54) (i_ce (M.1 50 6) (M.1 50 7)) (M.1 50 8).toInt from ⟨rfl, by omega, by omega, e4, by omega, e6⟩)
end OPS
