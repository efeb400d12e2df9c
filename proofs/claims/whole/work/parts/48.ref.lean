/-! ===== part 48: the reference: both, either, one ===== -/
section REF3
variable {M M' : I_M} {n f o : Nat} {t : Nat → Int32} {rec_ : I_M → Option (Int32 × I_M)} {one sub : Nat → i_R}
theorem bothL_F (hf : f < 1000) (h : q_F M n f M') {F : Nat} {w : Int32} : T (r_both_L5 rec_ (F + 1) w M') (fun q => q_F M n f q.2) := by
  unfold r_both_L5
  rw [qF_tk h hf]
  exact T_some h
theorem R_bothL (hB : q_B M n t) (hs : q_C M n o (r_compared rec_) sub) (hI : PI n sub) : ∀ (m F p : Nat) (c : List Int32) (v : i_V), n - p < m → n - p < F → p ≤ n → T (r_both_L5 rec_ F (v (M.1 60)) (q_S M p o)) (q_Q M n o (p_loop (p_ah t n) sub 1 m c v p)) := by
  intro m
  induction m with
  | zero => exact fun F p c v h => absurd h (by omega)
  | succ m ih =>
    intro F p c v h1 h2 h3
    have h120 := hB.2.1
    obtain ⟨F, rfl⟩ : ∃ k, F = k + 1 := ⟨F - 1, by omega⟩
    unfold r_both_L5 p_loop
    rw [qS_tk hB h3 (by decide)]
    by_cases q : p_lvl (p_ah t n p) = 1
    · have g := lv1.mp q
      rw [if_pos q, g, if_pos rfl]
      dsimp only [Option.bind_some]
      rw [if_neg (by decide)]
      have hp := q_lt (by decide) g
      have ht := hs (p + 1) hp
      have hi := hI (p + 1) hp
      generalize sub (p + 1) = r at ht hi ⊢
      refine T_bind (T_mono ht (fun a ha => ?_))
      obtain ⟨w, M'⟩ := a
      cases r with
      | inl e =>
        have hi : e ≤ n := hi
        have ha : q_F M n e M' := ha
        obtain ⟨F, rfl⟩ : ∃ k, F = k + 1 := ⟨F - 1, by omega⟩
        exact T_if (fun _ => bothL_F (by omega) ha) (fun _ => T_if (fun _ => bothL_F (by omega) ha) (fun _ => bothL_F (by omega) ha))
      | inr y =>
        obtain ⟨c2, v2, p2⟩ := y
        have hi : p + 1 < p2 ∧ p2 ≤ n ∧ c2.length + (p + 1) ≤ p2 := hi
        have ha : (w, M') = (v2 (M.1 60), q_S M p2 o) := ha
        obtain ⟨rfl, rfl⟩ := Prod.mk.inj ha
        show T _ (q_Q M n o (p_loop (p_ah t n) sub 1 m (c ++ (c2 ++ [-38])) (fun e => p_op 38 (v e) (v2 e)) p2))
        dsimp only
        have K : ∀ w : Int32, w = p_op 38 (v (M.1 60)) (v2 (M.1 60)) → T (r_both_L5 rec_ F w (q_S M p2 o)) (q_Q M n o (p_loop (p_ah t n) sub 1 m (c ++ (c2 ++ [-38])) (fun e => p_op 38 (v e) (v2 e)) p2)) := by
          intro w hw
          rw [hw]
          exact ih F p2 _ (fun e => p_op 38 (v e) (v2 e)) (by omega) (by omega) hi.2.1
        refine T_if (fun h1 => K 0 ?_) (fun h1 => T_if (fun h2 => K 0 ?_) (fun h2 => K 1 ?_))
        · rw [op38, if_pos h1]
        · rw [op38, if_neg h1, if_pos h2]
        · rw [op38, if_neg h1, if_neg h2]
    · rw [if_neg q, if_neg (fun h => q (lv1.mpr h))]
      exact T_some rfl
theorem R_both (hB : q_B M n t) (hs : q_C M n o (r_compared rec_) sub) (hI : PI n sub) : q_C M n o (r_both rec_) (fun p => i_rb (sub p) (fun c v p1 => p_loop (p_ah t n) sub 1 121 c v p1)) := by
  intro p hp
  have h120 := hB.2.1
  unfold r_both
  have ht := hs p hp
  have hi := hI p hp
  dsimp only
  generalize sub p = r at ht hi ⊢
  refine T_bind (T_mono ht (fun a ha => ?_))
  obtain ⟨w, M'⟩ := a
  cases r with
  | inl e =>
    have hi : e ≤ n := hi
    exact bothL_F (by omega) ha
  | inr y =>
    obtain ⟨c2, v2, p2⟩ := y
    have hi : p < p2 ∧ p2 ≤ n ∧ c2.length + p ≤ p2 := hi
    have ha : (w, M') = (v2 (M.1 60), q_S M p2 o) := ha
    obtain ⟨rfl, rfl⟩ := Prod.mk.inj ha
    exact R_bothL hB hs hI 121 i_F p2 c2 v2 (by omega) (by unfold i_F; omega) hi.2.1
theorem eitherL_F (hf : f < 1000) (h : q_F M n f M') {F : Nat} {w : Int32} : T (r_either_L5 rec_ (F + 1) w M') (fun q => q_F M n f q.2) := by
  unfold r_either_L5
  rw [qF_tk h hf]
  exact T_some h
theorem R_eitherL (hB : q_B M n t) (hs : q_C M n o (r_both rec_) sub) (hI : PI n sub) : ∀ (m F p : Nat) (c : List Int32) (v : i_V), n - p < m → n - p < F → p ≤ n → T (r_either_L5 rec_ F (v (M.1 60)) (q_S M p o)) (q_Q M n o (p_loop (p_ah t n) sub 0 m c v p)) := by
  intro m
  induction m with
  | zero => exact fun F p c v h => absurd h (by omega)
  | succ m ih =>
    intro F p c v h1 h2 h3
    have h120 := hB.2.1
    obtain ⟨F, rfl⟩ : ∃ k, F = k + 1 := ⟨F - 1, by omega⟩
    unfold r_either_L5 p_loop
    rw [qS_tk hB h3 (by decide)]
    by_cases q : p_lvl (p_ah t n p) = 0
    · have g := lv0.mp q
      rw [if_pos q, g, if_pos rfl]
      dsimp only [Option.bind_some]
      rw [if_neg (by decide)]
      have hp := q_lt (by decide) g
      have ht := hs (p + 1) hp
      have hi := hI (p + 1) hp
      generalize sub (p + 1) = r at ht hi ⊢
      refine T_bind (T_mono ht (fun a ha => ?_))
      obtain ⟨w, M'⟩ := a
      cases r with
      | inl e =>
        have hi : e ≤ n := hi
        have ha : q_F M n e M' := ha
        obtain ⟨F, rfl⟩ : ∃ k, F = k + 1 := ⟨F - 1, by omega⟩
        exact T_if (fun _ => T_if (fun _ => eitherL_F (by omega) ha) (fun _ => eitherL_F (by omega) ha)) (fun _ => eitherL_F (by omega) ha)
      | inr y =>
        obtain ⟨c2, v2, p2⟩ := y
        have hi : p + 1 < p2 ∧ p2 ≤ n ∧ c2.length + (p + 1) ≤ p2 := hi
        have ha : (w, M') = (v2 (M.1 60), q_S M p2 o) := ha
        obtain ⟨rfl, rfl⟩ := Prod.mk.inj ha
        show T _ (q_Q M n o (p_loop (p_ah t n) sub 0 m (c ++ (c2 ++ [-124])) (fun e => p_op 124 (v e) (v2 e)) p2))
        dsimp only
        have K : ∀ w : Int32, w = p_op 124 (v (M.1 60)) (v2 (M.1 60)) → T (r_either_L5 rec_ F w (q_S M p2 o)) (q_Q M n o (p_loop (p_ah t n) sub 0 m (c ++ (c2 ++ [-124])) (fun e => p_op 124 (v e) (v2 e)) p2)) := by
          intro w hw
          rw [hw]
          exact ih F p2 _ (fun e => p_op 124 (v e) (v2 e)) (by omega) (by omega) hi.2.1
        refine T_if (fun h1 => T_if (fun h2 => K 0 ?_) (fun h2 => K 1 ?_)) (fun h1 => K 1 ?_)
        · rw [op124, if_pos h1, if_pos h2]
        · rw [op124, if_pos h1, if_neg h2]
        · rw [op124, if_neg h1]
    · rw [if_neg q, if_neg (fun h => q (lv0.mpr h))]
      exact T_some rfl
theorem R_either (hB : q_B M n t) (hs : q_C M n o (r_both rec_) sub) (hI : PI n sub) : q_C M n o (r_either rec_) (fun p => i_rb (sub p) (fun c v p1 => p_loop (p_ah t n) sub 0 121 c v p1)) := by
  intro p hp
  have h120 := hB.2.1
  unfold r_either
  have ht := hs p hp
  have hi := hI p hp
  dsimp only
  generalize sub p = r at ht hi ⊢
  refine T_bind (T_mono ht (fun a ha => ?_))
  obtain ⟨w, M'⟩ := a
  cases r with
  | inl e =>
    have hi : e ≤ n := hi
    exact eitherL_F (by omega) ha
  | inr y =>
    obtain ⟨c2, v2, p2⟩ := y
    have hi : p < p2 ∧ p2 ≤ n ∧ c2.length + p ≤ p2 := hi
    have ha : (w, M') = (v2 (M.1 60), q_S M p2 o) := ha
    obtain ⟨rfl, rfl⟩ := Prod.mk.inj ha
    exact R_eitherL hB hs hI 121 i_F p2 c2 v2 (by omega) (by unfold i_F; omega) hi.2.1
theorem R_part (hB : q_B M n t) (hone : q_C M n o rec_ one) (hI : PI n one) : q_C M n o (r_either rec_) (p_part (p_ah t n) one 5) := by
  have hA : ∀ p, n ≤ p → p_ah t n p = -1 := ah_neg
  have h1 := R_prod hB hone hI
  have h2 : q_C M n o (r_sums rec_) (p_part (p_ah t n) one 2) := R_sums hB h1 (PI_part hA hI 1 (by omega))
  have h3 : q_C M n o (r_compared rec_) (p_part (p_ah t n) one 3) := R_comp hB h2 (PI_part hA hI 2 (by omega))
  have h4 : q_C M n o (r_both rec_) (p_part (p_ah t n) one 4) := R_both hB h3 (PI_part hA hI 3 (by omega))
  exact R_either hB h4 (PI_part hA hI 4 (by omega))
theorem R_num (hB : q_B M n t) {k : Int32 → Int32 → I_M → Option (Int32 × I_M)} {P : Int32 × I_M → Prop} : ∀ (m : Nat) (v : Int32) (p F : Nat) (l4 : Int32), m ≤ 3 → m < F → l4.toInt = 4 - m → p ≤ n →
    (∀ l' : Int32, l' ≠ 0 → T (k (p_num (p_ah t n) m v p).1 l' (q_S M (p_num (p_ah t n) m v p).2 o)) P) → T (r_one_b_L176 rec_ k F v l4 (q_S M p o)) P := by
  intro m
  have l4' : (4 : Int32).toInt = 4 := rfl
  have h120 := hB.2.1
  induction m with
  | zero =>
    intro v p F l4 h1 h2 h3 h4 hk
    obtain ⟨F, rfl⟩ : ∃ k, F = k + 1 := ⟨F - 1, by omega⟩
    unfold r_one_b_L176
    rw [if_neg (by rw [a_lt]; omega)]
    exact hk l4 (fun h => by rw [h, Int32.toInt_zero] at h3; omega)
  | succ m ih =>
    intro v p F l4 h1 h2 h3 h4 hk
    obtain ⟨F, rfl⟩ : ∃ k, F = k + 1 := ⟨F - 1, by omega⟩
    unfold p_num at hk
    unfold r_one_b_L176
    have hl : l4 ≠ 0 := fun h => by rw [h, Int32.toInt_zero] at h3; omega
    have l48 : (48 : Int32).toInt = 48 := rfl
    have l57 : (57 : Int32).toInt = 57 := rfl
    rw [if_pos (by rw [a_lt]; omega), qS_by hB h4]
    dsimp only [Option.bind_some]
    have hd := by_dg (t := t) (n := n) (p := p)
    by_cases q : 48 ≤ (p_ah t n p).toInt ∧ (p_ah t n p).toInt ≤ 57
    · rw [if_pos q] at hk
      have hd' := hd.mpr q
      have hp : p < n := by
        by_cases hp : p < n
        · exact hp
        · rw [show p_ah t n p = -1 from if_neg hp] at q
          exact absurd q (by decide)
      rw [if_neg (by rw [a_lt, l48]; exact hd'.1), qS_by hB h4]
      dsimp only [Option.bind_some]
      rw [if_neg (by rw [a_lt, l57]; exact hd'.2), qS_by hB h4]
      dsimp only [Option.bind_some]
      rw [qS_mv (by omega), show q_by t n p = p_ah t n p from by rw [show q_by t n p = t p from if_pos hp, show p_ah t n p = t p from if_pos hp], Int32.mul_comm]
      exact ih _ _ _ _ (by omega) (by omega) (by rw [a_a1 (by omega)]; omega) hp hk
    · rw [if_neg q] at hk
      by_cases c1 : q_by t n p < 48
      · rw [if_pos c1]
        exact hk l4 hl
      · rw [if_neg c1, qS_by hB h4]
        dsimp only [Option.bind_some]
        have c2 : 57 < q_by t n p := by
          rw [a_lt, l48] at c1
          rw [a_lt, l57]
          by_cases c2 : 57 < (q_by t n p).toInt
          · exact c2
          · exact absurd (hd.mp ⟨c1, c2⟩) q
        rw [if_pos c2]
        exact hk l4 hl
theorem R_oneB (hB : q_B M n t) {inner : Option (Nat → i_R)}
    (ho : (o = 6 ∧ inner = none) ∨ (o < 6 ∧ ∃ r, inner = some r ∧ PI n r ∧ q_C M n (o + 1) rec_ r)) :
    q_C M n o (r_one_b rec_) (p_oneB (p_ah t n) inner) := by
  intro p hp
  have h120 := hB.2.1
  have l48 : (48 : Int32).toInt = 48 := rfl
  have l57 : (57 : Int32).toInt = 57 := rfl
  have l6 : (6 : Int32).toInt = 6 := rfl
  unfold r_one_b
  rw [qS_21, if_pos (by decide), qS_by hB hp]
  dsimp only [Option.bind_some]
  have ho6 : o ≤ 6 := by rcases ho with h | h <;> omega
  have eo : (Int32.ofNat o).toInt = o := a_on (by omega)
  have hd := by_dg (t := t) (n := n) (p := p)
  have hB32 : ∀ x : Int32, 0 < x.toInt → (x = 33 ∨ x = 45 ∨ x = 40) → p_ah t n p = x → T (r_one_b_B32 rec_ x (q_S M p o)) (q_Q M n o (p_oneB (p_ah t n) inner p)) := by
    intro x hx hx3 hax
    have hp2 := q_lt hx hax
    unfold r_one_b_B32 p_oneB
    rw [hax]
    have n1 : ¬ (48 ≤ x.toInt ∧ x.toInt ≤ 57) := by rcases hx3 with rfl | rfl | rfl <;> decide
    have n2 : ¬ 0 ≤ (p_nm x).toInt := by rcases hx3 with rfl | rfl | rfl <;> decide
    rw [if_neg n1, if_neg n2, qS_22]
    rcases ho with ⟨rfl, rfl⟩ | ⟨h1, r, rfl, hI, hr⟩
    · rw [if_pos (show Int32.ofNat 6 = 6 from rfl)]
      exact T_bind (T_mono (qS_wr hp h120) (fun a ha => T_some ha))
    · rw [if_neg (by rw [a_eq]; omega)]
      dsimp only
      have E : i_wI (i_wI (q_S M p o) 50 22 (Int32.ofNat o + 1)) 50 19 ((q_S M p o).1 50 19 + 1) = q_S M (p + 1) (o + 1) := by
        rw [qS_op (of_add eo (by omega)), show (q_S M p o).1 50 19 = (q_S M p (o + 1)).1 50 19 from rfl, qS_mv (by omega)]
      have D : ∀ p2, i_wI (q_S M p2 (o + 1)) 50 22 ((q_S M p2 (o + 1)).1 50 22 - 1) = q_S M p2 o := by
        intro p2
        refine qS_op ?_
        show Int32.ofNat (o + 1) - 1 = Int32.ofNat o
        rw [a_eq, a_s1 (by rw [a_on (by omega)]; omega), a_on (by omega), a_on (by omega)]
        omega
      rw [E]
      unfold r_one_b_B83 r_one_b_B104
      have O : (x = 33 ∨ x = 45) → x ≠ 40 → T (Option.bind (rec_ (q_S M (p + 1) (o + 1))) (fun q14 => if x = 40 then Option.bind (r_takes 41 q14.2) (fun q16 => if q16.1 = 0 then Option.bind (r_wrong q16.2) (fun q18 => some (q18.1, q18.2)) else if x = 40 then some (q14.1, i_wI q16.2 50 22 (q16.2.1 50 22 - 1)) else if x = 45 then some (-q14.1, i_wI q16.2 50 22 (q16.2.1 50 22 - 1)) else if q14.1 = 0 then some (1, i_wI q16.2 50 22 (q16.2.1 50 22 - 1)) else some (0, i_wI q16.2 50 22 (q16.2.1 50 22 - 1))) else if x = 40 then some (q14.1, i_wI q14.2 50 22 (q14.2.1 50 22 - 1)) else if x = 45 then some (-q14.1, i_wI q14.2 50 22 (q14.2.1 50 22 - 1)) else if q14.1 = 0 then some (1, i_wI q14.2 50 22 (q14.2.1 50 22 - 1)) else some (0, i_wI q14.2 50 22 (q14.2.1 50 22 - 1)))) (q_Q M n o (i_rb (r (p + 1)) (fun c v p2 => Sum.inr (c ++ [if x = 33 then -33 else -300], (fun e => if x = 33 then (if v e = 0 then 1 else 0) else -(v e)), p2)))) := by
        intro hx2 hx40
        have ht := hr (p + 1) hp2
        generalize r (p + 1) = w at ht ⊢
        refine T_bind (T_mono ht (fun a ha => ?_))
        obtain ⟨u, M'⟩ := a
        dsimp only
        rw [if_neg hx40, if_neg hx40]
        cases w with
        | inl e =>
          have ha : q_F M n e M' := ha
          exact T_if (fun _ => T_some (qF_op ha)) (fun _ => T_if (fun _ => T_some (qF_op ha)) (fun _ => T_some (qF_op ha)))
        | inr y =>
          obtain ⟨c2, v2, p2⟩ := y
          have ha : (u, M') = (v2 (M.1 60), q_S M p2 (o + 1)) := ha
          obtain ⟨rfl, rfl⟩ := Prod.mk.inj ha
          rw [D]
          rcases hx2 with rfl | rfl
          · rw [if_neg (by decide)]
            refine T_if (fun hz => T_some ?_) (fun hz => T_some ?_)
            · show (1, _) = ((if v2 (M.1 60) = 0 then 1 else 0), _)
              rw [if_pos hz]
            · show (0, _) = ((if v2 (M.1 60) = 0 then 1 else 0), _)
              rw [if_neg hz]
          · rw [if_pos rfl]
            exact T_some rfl
      rcases hx3 with rfl | rfl | rfl
      · rw [if_neg (by decide), if_pos (Or.inl rfl)]
        exact O (Or.inl rfl) (by decide)
      · rw [if_neg (by decide), if_pos (Or.inr rfl)]
        exact O (Or.inr rfl) (by decide)
      · rw [if_pos rfl, if_neg (show ¬ ((40 : Int32) = 33 ∨ (40 : Int32) = 45) by decide), if_pos rfl]
        have ht := R_part hB hr hI (p + 1) hp2
        have hi := PI_part (ah := p_ah t n) ah_neg hI 5 (by omega) (p + 1) hp2
        generalize p_part (p_ah t n) r 5 (p + 1) = w at ht hi ⊢
        refine T_bind (T_mono ht (fun a ha => ?_))
        obtain ⟨u, M'⟩ := a
        dsimp only
        rw [if_pos rfl]
        cases w with
        | inl e =>
          have hi : e ≤ n := hi
          have ha : q_F M n e M' := ha
          rw [qF_tk ha (by omega)]
          dsimp only [Option.bind_some]
          rw [if_pos rfl]
          exact T_bind (T_mono (qF_wr ha (by omega)) (fun a ha => T_some ha))
        | inr y =>
          obtain ⟨c2, v2, p2⟩ := y
          have hi : p + 1 < p2 ∧ p2 ≤ n ∧ c2.length + (p + 1) ≤ p2 := hi
          have ha : (u, M') = (v2 (M.1 60), q_S M p2 (o + 1)) := ha
          obtain ⟨rfl, rfl⟩ := Prod.mk.inj ha
          rw [qS_tk hB hi.2.1 (by decide)]
          show T _ (q_Q M n o (if p_ah t n p2 = 41 then Sum.inr (c2, v2, p2 + 1) else Sum.inl p2))
          by_cases q5 : p_ah t n p2 = 41
          · rw [if_pos q5, if_pos q5]
            dsimp only [Option.bind_some]
            rw [if_neg (by decide), if_pos rfl, D]
            exact T_some rfl
          · rw [if_neg q5, if_neg q5]
            dsimp only [Option.bind_some]
            rw [if_pos rfl]
            refine T_bind (T_mono (qS_wr hi.2.1 h120) (fun a ha => T_some ?_))
            exact ha
  by_cases c33 : p_ah t n p = 33
  · rw [(by_eq (by decide)).mpr c33, if_pos rfl]
    exact hB32 33 (by decide) (Or.inl rfl) c33
  rw [if_neg (fun h => c33 ((by_eq (by decide)).mp h))]
  by_cases c45 : p_ah t n p = 45
  · rw [(by_eq (by decide)).mpr c45, if_pos rfl]
    exact hB32 45 (by decide) (Or.inr (Or.inl rfl)) c45
  rw [if_neg (fun h => c45 ((by_eq (by decide)).mp h))]
  by_cases c40 : p_ah t n p = 40
  · rw [(by_eq (by decide)).mpr c40, if_pos rfl]
    exact hB32 40 (by decide) (Or.inr (Or.inr rfl)) c40
  rw [if_neg (fun h => c40 ((by_eq (by decide)).mp h)), nm_ref]
  dsimp only [Option.bind_some]
  have enm : p_nm (q_by t n p) = p_nm (p_ah t n p) := by
    by_cases hp : p < n
    · rw [show q_by t n p = t p from if_pos hp, show p_ah t n p = t p from if_pos hp]
    · rw [show q_by t n p = 0 from if_neg hp, show p_ah t n p = -1 from if_neg hp]
      decide
  rw [enm]
  unfold p_oneB
  by_cases q1 : 48 ≤ (p_ah t n p).toInt ∧ (p_ah t n p).toInt ≤ 57
  · rw [if_pos q1]
    have hnm : p_nm (p_ah t n p) = -1 := by
      have hx := p_ah t n p
      generalize p_ah t n p = x at q1 ⊢
      unfold p_nm
      have l1 : (100 : Int32).toInt = 100 := rfl
      have l2 : (103 : Int32).toInt = 103 := rfl
      have l3 : (113 : Int32).toInt = 113 := rfl
      have l4 : (122 : Int32).toInt = 122 := rfl
      have l5 : (115 : Int32).toInt = 115 := rfl
      have l7 : (119 : Int32).toInt = 119 := rfl
      have l8 : (102 : Int32).toInt = 102 := rfl
      rw [if_neg (by rw [a_eq]; omega), if_neg (by rw [a_eq]; omega), if_neg (by rw [a_eq]; omega), if_neg (by rw [a_eq]; omega), if_neg (by rw [a_eq]; omega), if_neg (by rw [a_eq]; omega), if_neg (by rw [a_eq]; omega)]
    rw [hnm, if_pos (by decide)]
    have hd' := hd.mpr q1
    have hp2 : p < n := by
      by_cases hp : p < n
      · exact hp
      · rw [show p_ah t n p = -1 from if_neg hp] at q1
        exact absurd q1 (by decide)
    obtain ⟨F, eF, hF⟩ : ∃ F, i_F = F + 1 ∧ 3 < F := ⟨4999, rfl, by omega⟩
    rw [eF]
    unfold r_one_b_L176
    rw [if_pos (by decide), qS_by hB hp]
    dsimp only [Option.bind_some]
    rw [if_neg (by rw [a_lt, l48]; exact hd'.1), qS_by hB hp]
    dsimp only [Option.bind_some]
    rw [if_neg (by rw [a_lt, l57]; exact hd'.2), qS_by hB hp]
    dsimp only [Option.bind_some]
    rw [qS_mv (by omega), show q_by t n p = p_ah t n p from by rw [show q_by t n p = t p from if_pos hp2, show p_ah t n p = t p from if_pos hp2], Int32.mul_comm]
    have e4 : p_num (p_ah t n) 4 0 p = p_num (p_ah t n) 3 (0 * 10 + p_ah t n p - 48) (p + 1) := by
      show (if 48 ≤ (p_ah t n p).toInt ∧ (p_ah t n p).toInt ≤ 57 then _ else _) = _
      rw [if_pos q1]
    rw [e4]
    refine R_num hB 3 _ (p + 1) F (0 + 1) (by omega) (by omega) (by decide) hp2 (fun l' hl => ?_)
    rw [if_neg hl]
    exact T_some rfl
  rw [if_neg q1]
  by_cases q2 : 0 ≤ (p_nm (p_ah t n p)).toInt
  · rw [if_pos q2, if_neg (by rw [a_lt, Int32.toInt_zero]; omega)]
    have h7 := nm_rg (p_ah t n p)
    have hp2 : p < n := by
      by_cases hp : p < n
      · exact hp
      · rw [show p_ah t n p = -1 from if_neg hp] at q2
        exact absurd q2 (by decide)
    refine T_g q2 ?_ ?_
    · rcases h7 with h7 | h7
      · rw [h7] at q2
        exact absurd q2 (by decide)
      · omega
    rw [qS_mv (by omega)]
    exact T_some rfl
  rw [if_neg q2, if_pos (by rw [a_lt, Int32.toInt_zero]; omega)]
  have hno : ∀ (r : i_R), r = Sum.inl p → T (r_one_b_L176 rec_ (fun l3_26 l4_26 M26 => (if l4_26 = (0 : Int32) then Option.bind (r_wrong M26) (fun q28 => some (q28.1, q28.2)) else some (l3_26, M26))) i_F 0 0 (q_S M p o)) (q_Q M n o r) := by
    intro r hr
    subst hr
    obtain ⟨F, eF, hF⟩ : ∃ F, i_F = F + 1 ∧ 3 < F := ⟨4999, rfl, by omega⟩
    rw [eF]
    unfold r_one_b_L176
    rw [if_pos (by decide), qS_by hB hp]
    dsimp only [Option.bind_some]
    have W : T (if (0 : Int32) = 0 then Option.bind (r_wrong (q_S M p o)) (fun q28 => some (q28.1, q28.2)) else some (0, q_S M p o)) (q_Q M n o (Sum.inl p)) := by
      rw [if_pos rfl]
      exact T_bind (T_mono (qS_wr hp h120) (fun a ha => T_some ha))
    by_cases c1 : q_by t n p < 48
    · rw [if_pos c1]
      exact W
    · rw [if_neg c1, qS_by hB hp]
      dsimp only [Option.bind_some]
      have c2 : 57 < q_by t n p := by
        rw [a_lt, l48] at c1
        rw [a_lt, l57]
        by_cases c2 : 57 < (q_by t n p).toInt
        · exact c2
        · exact absurd (hd.mp ⟨c1, c2⟩) q1
      rw [if_pos c2]
      exact W
  refine hno _ ?_
  cases inner with
  | none => rfl
  | some r =>
    dsimp only
    rw [if_neg (fun h => by rcases h with h | h; exact c33 h; exact c45 h), if_neg c40]
theorem R_one (hB : q_B M n t) : ∀ m, m ≤ 6 → ∀ F, m + 1 ≤ F → q_C M n (6 - m) (r_one F) (p_one (p_ah t n) m) := by
  intro m
  induction m with
  | zero =>
    intro _ F hF
    obtain ⟨F, rfl⟩ : ∃ k, F = k + 1 := ⟨F - 1, by omega⟩
    exact R_oneB hB (Or.inl ⟨rfl, rfl⟩)
  | succ m ih =>
    intro hm F hF
    obtain ⟨F, rfl⟩ : ∃ k, F = k + 1 := ⟨F - 1, by omega⟩
    refine R_oneB hB (Or.inr ⟨by omega, p_one (p_ah t n) m, rfl, PI_one ah_neg m, ?_⟩)
    rw [show 6 - (m + 1) + 1 = 6 - m by omega]
    exact ih (by omega) F (by omega)
theorem R_E (hB : q_B M n t) : q_C M n 0 (r_either (r_one 9)) (p_part (p_ah t n) (p_one (p_ah t n) 6) 5) := R_part hB (R_one hB 6 (by omega) 9 (by omega)) (PI_one ah_neg 6)
end REF3
