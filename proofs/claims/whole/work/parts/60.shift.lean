/-! ===== part 60: shift ===== -/
section OPS
variable {a b c d e : Int32}
variable {L : Int32 → Int32 → Int32 → (Nat → Int32) → (Nat → Int32) → Prop}
theorem span_e {M : I_M} (ha : 0 ≤ a.toInt) (ha2 : a.toInt < 6) (hl : 0 ≤ (M.1 43 (Int32.toNatClampNeg a)).toInt) : b_Shelves_hasSpan a b c M = some (i_bo (0 ≤ b.toInt ∧ 0 ≤ c.toInt ∧ c.toInt ≤ (M.1 43 (Int32.toNatClampNeg a)).toInt ∧ b.toInt + c.toInt ≤ (M.1 43 (Int32.toNatClampNeg a)).toInt), M) := by
  unfold b_Shelves_hasSpan
  have l0 := Int32.toInt_zero
  have hr := a_rg (M.1 43 (Int32.toNatClampNeg a))
  by_cases h1 : b.toInt < 0
  · rw [if_pos (by rw [a_lt]; omega), bo_n (by omega)]
  rw [if_neg (by rw [a_lt]; omega)]
  by_cases h2 : c.toInt < 0
  · rw [if_pos (by rw [a_lt]; omega), bo_n (by omega)]
  rw [if_neg (by rw [a_lt]; omega), g_ok ha (by omega)]
  by_cases h3 : (M.1 43 (Int32.toNatClampNeg a)).toInt < c.toInt
  · rw [if_pos (by rw [a_lt]; omega), bo_n (by omega)]
  rw [if_neg (by rw [a_lt]; omega)]
  have e : (M.1 43 (Int32.toNatClampNeg a) - c).toInt = (M.1 43 (Int32.toNatClampNeg a)).toInt - c.toInt := by rw [a_sub] <;> omega
  by_cases h4 : (M.1 43 (Int32.toNatClampNeg a) - c).toInt < b.toInt
  · rw [if_pos (by rw [a_lt]; exact h4), bo_n (by omega)]
  · rw [if_neg (by rw [a_lt]; exact h4), bo_p (by omega)]
theorem sh_1 {M : I_M} {n s : Nat} {k147 : I_M → Option (Int32 × I_M)} {P : Int32 × I_M → Prop} (hn : c.toInt = n) (h60 : n ≤ 60) (hs : (60 * a + b).toInt = s) (hs2 : s + n ≤ 360)
    (hk : T (k147 (i_rwL M 73 (fun j => if j < n then M.2 72 (s + j) else M.2 73 j))) P) : T (r_shift_L113 a b d e c k147 i_F 0 M) P := by
  refine T_for (N := n) (a := 0) (f := r_shift_L113 a b d e c k147) (fun k M' => M' = i_rwL M 73 (fun j => if j < k then M.2 72 (s + j) else M.2 73 j)) (by omega) ?_ ?_ (by unfold i_F; omega) (by omega) rfl ?_
  · intro m k i M' h1 h2 h3 h4 h5
    subst h4
    have e1 : (60 * a + b + i).toInt = (60 * a + b).toInt + i.toInt := by rw [a_add] <;> omega
    have e2 : Int32.toNatClampNeg (60 * a + b + i) = s + k := a_k (by omega)
    unfold r_shift_L113
    rw [if_pos (by rw [a_lt]; omega)]
    refine T_g (by omega) (by omega) (T_g (by omega) (by omega) (h5 _ ?_))
    rw [rwL_w, rwL_rwL, rwL_s, rwL_n (by decide), a_k h1, e2]
    congr 1
    funext j
    by_cases q : j = k
    · rw [if_pos q, if_pos (by omega), q]
    · rw [if_neg q]
      by_cases q2 : j < k
      · rw [if_pos q2, if_pos (by omega)]
      · rw [if_neg q2, if_neg (by omega)]
  · intro m i M' h1 h2
    subst h2
    unfold r_shift_L113
    rw [if_neg (by rw [a_lt]; omega)]
    exact hk
  · rw [show (fun j => if j < 0 then M.2 72 (s + j) else M.2 73 j) = M.2 73 from funext fun j => if_neg (by omega), rwL_id]
theorem sh_2 {M : I_M} {n s : Nat} {P : Int32 × I_M → Prop} (hn : c.toInt = n) (h60 : n ≤ 60) (hs : (60 * d + e).toInt = s) (hs2 : s + n ≤ 360)
    (hk : P (c, i_rwL M 72 (fun j => if s ≤ j ∧ j < s + n then M.2 73 (j - s) else M.2 72 j))) : T (r_shift_L150 d e c i_F 0 M) P := by
  refine T_for (N := n) (a := 0) (f := r_shift_L150 d e c) (fun k M' => M' = i_rwL M 72 (fun j => if s ≤ j ∧ j < s + k then M.2 73 (j - s) else M.2 72 j)) (by omega) ?_ ?_ (by unfold i_F; omega) (by omega) rfl ?_
  · intro m k i M' h1 h2 h3 h4 h5
    subst h4
    have e1 : (60 * d + e + i).toInt = (60 * d + e).toInt + i.toInt := by rw [a_add] <;> omega
    have e2 : Int32.toNatClampNeg (60 * d + e + i) = s + k := a_k (by omega)
    unfold r_shift_L150
    rw [if_pos (by rw [a_lt]; omega)]
    refine T_g (by omega) (by omega) (T_g (by omega) (by omega) (h5 _ ?_))
    rw [rwL_w, rwL_rwL, rwL_s, rwL_n (by decide), a_k h1, e2]
    congr 1
    funext j
    by_cases q : j = s + k
    · rw [if_pos q, if_pos (by omega), q, Nat.add_sub_cancel_left]
    · rw [if_neg q]
      by_cases q2 : s ≤ j ∧ j < s + k
      · rw [if_pos q2, if_pos (by omega)]
      · rw [if_neg q2, if_neg (by omega)]
  · intro m i M' h1 h2
    subst h2
    unfold r_shift_L150
    rw [if_neg (by rw [a_lt]; omega)]
    exact T_some hk
  · rw [show (fun j => if s ≤ j ∧ j < s + 0 then M.2 73 (j - s) else M.2 72 j) = M.2 72 from funext fun j => if_neg (by omega), rwL_id]
theorem cL_rw {M : I_M} {sp dp n : Int32} {s t m : Nat} (hs : sp.toInt = s) (ht : dp.toInt = t) (hm : n.toInt = m) : i_cL M 45 45 sp dp n = i_rwL M 45 (fun j => if t ≤ j ∧ j < t + m then M.2 45 (s + (j - t)) else M.2 45 j) := by
  refine Prod.ext rfl (funext fun q => funext fun k => ?_)
  show (i_cL M 45 45 sp dp n).2 q k = _
  rw [m_cL]
  unfold i_rwL
  rw [show dp.toInt.toNat = t by omega, show n.toInt.toNat = m by omega, show sp.toInt.toNat = s by omega]
  by_cases c : q = 45
  · subst c
    by_cases c2 : t ≤ k ∧ k < t + m
    · simp only [true_and, if_true]
    · simp only [true_and, if_true]
  · simp only [c, false_and, if_false]
theorem op_shift : OP L (b_shift a b c d e) (r_shift a b c d e) := by
  intro M h
  have hi := h
  obtain ⟨hLa, hMa, hBe, hFo, hTa, hLw, hHe, hIm, hCh, hVi, hBo, hRa, hSh⟩ := h
  have hw2 := hBo.2.2.1
  have l0 := Int32.toInt_zero
  have l1 := l_m1
  have l5 := l_5
  have l50 := l_50
  unfold b_shift
  rw [e_bisShelf]
  dsimp only [Option.bind_some]
  by_cases ha : 0 ≤ a.toInt ∧ a.toInt < 6
  · rw [bo_p ha, if_neg (by decide), e_bisShelf]
    dsimp only [Option.bind_some]
    by_cases hc : 0 ≤ c.toInt ∧ c.toInt < 6
    · rw [bo_p hc, if_neg (by decide), g_ok ha.1 (by omega), g_ok hc.1 (by omega)]
      have fa := shel_f hSh hw2 ha.1 ha.2
      have fc := shel_f hSh hw2 hc.1 hc.2
      have R0 : ∀ M' : I_M, M'.1 = M.1 → r_shift a b c d e M' = (if (M.1 70 (Int32.toNatClampNeg a)) < (0 : Int32) then some ((-11 : Int32), M') else (if (M.1 70 (Int32.toNatClampNeg c)) < (0 : Int32) then some ((-11 : Int32), M') else (if (M.1 70 (Int32.toNatClampNeg a)) < (50 : Int32) then some ((-12 : Int32), M') else (if (M.1 70 (Int32.toNatClampNeg a)) = (M.1 70 (Int32.toNatClampNeg c)) then (if e < (0 : Int32) then some ((-13 : Int32), M') else (if b < (0 : Int32) then some ((-13 : Int32), M') else (if d < (0 : Int32) then some ((-13 : Int32), M') else (if ((M.1 71 (Int32.toNatClampNeg a)) - e) < b then some ((-13 : Int32), M') else (if ((M.1 71 (Int32.toNatClampNeg c)) - e) < d then some ((-13 : Int32), M') else r_shift_L113 a b c d e (fun M22 => r_shift_L150 c d e i_F (0 : Int32) M22) i_F (0 : Int32) M'))))) else some ((-12 : Int32), M'))))) := by
        intro M' hM
        unfold r_shift
        rw [e_risShelf]
        dsimp only [Option.bind_some]
        rw [bo_p ha, if_neg (by decide), e_risShelf]
        dsimp only [Option.bind_some]
        rw [bo_p hc, if_neg (by decide), g_ok ha.1 (by omega), g_ok hc.1 (by omega), hM]
      have FIN : ∀ (v : Int32), r_shift a b c d e M = some (v, M) → T (some (v, M)) (fun r => T (r_shift a b c d e r.2) (fun s => s.1 = r.1 ∧ INV L s.2)) := by
        intro v hv
        refine T_some ?_
        dsimp only
        rw [hv]
        exact T_some ⟨rfl, hi⟩
      have RM := R0 M rfl
      generalize hA : Int32.toNatClampNeg a = A at *
      generalize hC : Int32.toNatClampNeg c = C at *
      obtain ⟨a1, a2, a3, a4⟩ := fa
      obtain ⟨c1, c2, c3, c4⟩ := fc
      by_cases qa : (M.1 42 A).toInt = -1
      · rw [if_pos (by rw [a_eq]; omega)]
        rw [if_pos (by rw [a_lt]; omega)] at RM
        exact FIN _ RM
      rw [if_neg (by rw [a_eq]; omega)]
      rw [if_neg (by rw [a_lt]; omega)] at RM
      by_cases qc : (M.1 42 C).toInt = -1
      · rw [if_pos (by rw [a_eq]; omega)]
        rw [if_pos (by rw [a_lt]; omega)] at RM
        exact FIN _ RM
      rw [if_neg (by rw [a_eq]; omega)]
      rw [if_neg (by rw [a_lt]; omega)] at RM
      by_cases q5 : (M.1 42 A).toInt = 5
      · rw [if_pos (by rw [a_eq]; omega)]
        rw [if_pos (by rw [a_lt]; omega)] at RM
        exact FIN _ RM
      rw [if_neg (by rw [a_eq]; omega)]
      rw [if_neg (by rw [a_lt]; omega)] at RM
      by_cases qe : (M.1 42 A).toInt = (M.1 42 C).toInt
      · rw [if_pos (a_eq.mpr qe)]
        rw [if_pos (by rw [a_eq]; omega)] at RM
        rw [span_e ha.1 ha.2 (by rw [hA]; omega)]
        dsimp only [Option.bind_some]
        rw [hA]
        have rA := a_rg (M.1 71 A)
        have s1 : 0 ≤ e.toInt → ((M.1 71 A) - e).toInt = (M.1 71 A).toInt - e.toInt := fun _ => by have := a_rg e; rw [a_sub] <;> omega
        have s2 : 0 ≤ e.toInt → ((M.1 71 C) - e).toInt = (M.1 71 C).toInt - e.toInt := fun _ => by have := a_rg e; rw [a_sub] <;> omega
        by_cases p1 : 0 ≤ b.toInt ∧ 0 ≤ e.toInt ∧ e.toInt ≤ (M.1 43 A).toInt ∧ b.toInt + e.toInt ≤ (M.1 43 A).toInt
        · rw [bo_p p1, if_neg (by decide), span_e hc.1 hc.2 (by rw [hC]; omega)]
          dsimp only [Option.bind_some]
          rw [hC]
          have s1 := s1 p1.2.1
          have s2 := s2 p1.2.1
          rw [if_neg (by rw [a_lt]; omega), if_neg (by rw [a_lt]; omega)] at RM
          by_cases p2 : 0 ≤ d.toInt ∧ 0 ≤ e.toInt ∧ e.toInt ≤ (M.1 43 C).toInt ∧ d.toInt + e.toInt ≤ (M.1 43 C).toInt
          · rw [bo_p p2, if_neg (by decide)]
            have ka := a_60p ha.1 ha.2 (b := b) (by omega) (by omega)
            have kc := a_60p hc.1 hc.2 (b := d) (by omega) (by omega)
            have nA : (A : Int) = a.toInt := by rw [← hA, a_n]; omega
            have nC : (C : Int) = c.toInt := by rw [← hC, a_n]; omega
            obtain ⟨n, hn⟩ : ∃ n : Nat, e.toInt = n := ⟨e.toInt.toNat, by omega⟩
            obtain ⟨i, hI⟩ : ∃ n : Nat, b.toInt = n := ⟨b.toInt.toNat, by omega⟩
            obtain ⟨j, hJ⟩ : ∃ n : Nat, d.toInt = n := ⟨d.toInt.toNat, by omega⟩
            unfold b_Shelves_move
            rw [cg_ok (by omega) (by omega) (by omega) (by omega) (by omega), cL_rw (s := 60 * A + i) (t := 60 * C + j) (m := n) (by omega) (by omega) hn]
            refine T_bind (T_some (T_some ?_))
            obtain ⟨K, hK⟩ : ∃ K, K = i_rwL M 45 (fun x => if 60 * C + j ≤ x ∧ x < 60 * C + j + n then M.2 45 (60 * A + i + (x - (60 * C + j))) else M.2 45 x) := ⟨_, rfl⟩
            dsimp only
            rw [← hK]
            have K1 : K.1 = M.1 := by rw [hK]; rfl
            have K72 : K.2 72 = M.2 72 := by rw [hK]; rfl
            rw [R0 K K1, if_neg (by rw [a_lt]; omega), if_neg (by rw [a_lt]; omega), if_neg (by rw [a_lt]; omega), if_pos (by rw [a_eq]; omega), if_neg (by rw [a_lt]; omega), if_neg (by rw [a_lt]; omega), if_neg (by rw [a_lt]; omega), if_neg (by rw [a_lt]; omega), if_neg (by rw [a_lt]; omega)]
            refine sh_1 (n := n) (s := 60 * A + i) hn (by omega) (by omega) (by omega) ?_
            refine sh_2 (n := n) (s := 60 * C + j) hn (by omega) (by omega) (by omega) ?_
            refine ⟨rfl, ?_⟩
            rw [rwL_s, rwL_n (by decide), K72]
            have hS : N_shelf (M.1 42) (M.1 43) (M.1 44) (M.1 70) (M.1 71) (fun x => if 60 * C + j ≤ x ∧ x < 60 * C + j + n then M.2 45 (60 * A + i + (x - (60 * C + j))) else M.2 45 x) (fun x => if 60 * C + j ≤ x ∧ x < 60 * C + j + n then (if x - (60 * C + j) < n then M.2 72 (60 * A + i + (x - (60 * C + j))) else K.2 73 (x - (60 * C + j))) else M.2 72 x) (M.1 50 46).toInt := by
              refine N_shelf_set hSh (d := C) (fun f he q => ⟨rfl, rfl, rfl, rfl, rfl, fun k hk => ⟨if_neg (by omega), if_neg (by omega)⟩⟩) ?_
              obtain ⟨t1, t2, t3, t4, t5⟩ := hSh C (by omega)
              obtain ⟨u1, u2, u3, u4, u5⟩ := hSh A (by omega)
              refine ⟨t1, t2, t3, fun k hk => ?_, t5⟩
              dsimp only
              by_cases q : 60 * C + j ≤ 60 * C + k ∧ 60 * C + k < 60 * C + j + n
              · rw [if_pos q, if_pos q, if_pos (by omega)]
                have := u4 (i + (60 * C + k - (60 * C + j))) (by omega)
                rw [show 60 * A + (i + (60 * C + k - (60 * C + j))) = 60 * A + i + (60 * C + k - (60 * C + j)) by omega, qe] at this
                exact this
              · rw [if_neg q, if_neg q]
                exact t4 k hk
            subst hK
            exact ⟨hLa, hMa, hBe, hFo, hTa, hLw, hHe, hIm, hCh, hVi, hBo, hRa, hS⟩
          · rw [bo_n p2, if_pos rfl]
            by_cases z : d.toInt < 0
            · rw [if_pos (by rw [a_lt]; omega)] at RM
              exact FIN _ RM
            · rw [if_neg (by rw [a_lt]; omega), if_neg (by rw [a_lt]; omega), if_pos (by rw [a_lt]; omega)] at RM
              exact FIN _ RM
        · rw [bo_n p1, if_pos rfl]
          by_cases z : e.toInt < 0
          · rw [if_pos (by rw [a_lt]; omega)] at RM
            exact FIN _ RM
          rw [if_neg (by rw [a_lt]; omega)] at RM
          have s1 := s1 (by omega)
          by_cases z2 : b.toInt < 0
          · rw [if_pos (by rw [a_lt]; omega)] at RM
            exact FIN _ RM
          rw [if_neg (by rw [a_lt]; omega)] at RM
          by_cases z3 : d.toInt < 0
          · rw [if_pos (by rw [a_lt]; omega)] at RM
            exact FIN _ RM
          rw [if_neg (by rw [a_lt]; omega), if_pos (by rw [a_lt]; omega)] at RM
          exact FIN _ RM
      · rw [if_neg (fun h => qe (a_eq.mp h))]
        rw [if_neg (by rw [a_eq]; omega)] at RM
        exact FIN _ RM
    · rw [bo_n hc, if_pos rfl]
      refine T_some ?_
      dsimp only
      unfold r_shift
      rw [e_risShelf]
      dsimp only [Option.bind_some]
      rw [bo_p ha, if_neg (by decide), e_risShelf]
      dsimp only [Option.bind_some]
      rw [bo_n hc, if_pos rfl]
      exact T_some ⟨rfl, hi⟩
  · rw [bo_n ha, if_pos rfl]
    refine T_some ?_
    dsimp only
    unfold r_shift
    rw [e_risShelf]
    dsimp only [Option.bind_some]
    rw [bo_n ha, if_pos rfl]
    exact T_some ⟨rfl, hi⟩
end OPS
