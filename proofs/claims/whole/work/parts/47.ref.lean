/-! ===== part 47: the reference's levels ===== -/
theorem op42 {a b : Int32} : p_op 42 a b = a * b := rfl
theorem op47 {a b : Int32} : p_op 47 a b = if b = 0 then 0 else a / b := rfl
theorem op37 {a b : Int32} : p_op 37 a b = if b = 0 then 0 else i_rem a b := rfl
theorem op43 {a b : Int32} : p_op 43 a b = a + b := rfl
theorem op45 {a b : Int32} : p_op 45 a b = a - b := rfl
theorem op60 {a b : Int32} : p_op 60 a b = if a < b then 1 else 0 := rfl
theorem op61 {a b : Int32} : p_op 61 a b = if a = b then 1 else 0 := rfl
theorem op62 {a b : Int32} : p_op 62 a b = if b < a then 1 else 0 := rfl
theorem op38 {a b : Int32} : p_op 38 a b = if a = 0 then 0 else if b = 0 then 0 else 1 := rfl
theorem op124 {a b : Int32} : p_op 124 a b = if a = 0 then (if b = 0 then 0 else 1) else 1 := rfl
section REF2
variable {M M' : I_M} {n f o : Nat} {t : Nat → Int32} {rec_ : I_M → Option (Int32 × I_M)} {one sub : Nat → i_R}
theorem q_lt {x : Int32} (h : 0 < x.toInt) {p : Nat} (q : p_ah t n p = x) : p < n := by
  by_cases hp : p < n
  · exact hp
  · rw [show p_ah t n p = -1 from if_neg hp] at q
    rw [← q] at h
    exact absurd h (by decide)
theorem prodL_F (hf : f < 1000) (h : q_F M n f M') {F : Nat} {w b : Int32} : T (r_product_L10 rec_ (F + 1) w b M') (fun q => q_F M n f q.2) := by
  unfold r_product_L10
  rw [if_neg (qF_lt h hf)]
  exact T_some h
theorem R_prodL (hB : q_B M n t) (hone : q_C M n o rec_ one) (hI : PI n one) : ∀ (m F p : Nat) (c : List Int32) (v : i_V), n - p < m → n - p < F → p ≤ n → T (r_product_L10 rec_ F (v (M.1 60)) (q_by t n p) (q_S M p o)) (q_Q M n o (p_loop (p_ah t n) one 4 m c v p)) := by
  intro m
  induction m with
  | zero => exact fun F p c v h => absurd h (by omega)
  | succ m ih =>
    intro F p c v h1 h2 h3
    have h120 := hB.2.1
    obtain ⟨F, rfl⟩ : ∃ k, F = k + 1 := ⟨F - 1, by omega⟩
    unfold r_product_L10 p_loop
    rw [qS_21, if_pos (by decide)]
    by_cases q : p_lvl (p_ah t n p) = 4
    · rw [if_pos q]
      have B : ∀ x : Int32, 0 < x.toInt → (x = 42 ∨ x = 47 ∨ x = 37) → p_ah t n p = x → T (r_product_B35 rec_ (r_product_L10 rec_ F) (v (M.1 60)) x (q_S M p o)) (q_Q M n o (i_rb (one (p + 1)) (fun c2 v2 p2 => if (4 : Int32) = 2 then Sum.inr (c ++ (c2 ++ [-x]), (fun e => p_op x (v e) (v2 e)), p2) else p_loop (p_ah t n) one 4 m (c ++ (c2 ++ [-x])) (fun e => p_op x (v e) (v2 e)) p2))) := by
        intro x hx hx3 hax
        have hp := q_lt hx hax
        unfold r_product_B35
        rw [qS_mv (by omega)]
        have ht := hone (p + 1) hp
        have hi := hI (p + 1) hp
        generalize one (p + 1) = r at ht hi ⊢
        refine T_bind (T_mono ht (fun a ha => ?_))
        obtain ⟨w, M'⟩ := a
        cases r with
        | inl e =>
          have hi : e ≤ n := hi
          have ha : q_F M n e M' := ha
          obtain ⟨F, rfl⟩ : ∃ k, F = k + 1 := ⟨F - 1, by omega⟩
          have K : ∀ w : Int32, T (Option.bind (r_byteAt M') (fun q7 => r_product_L10 rec_ (F + 1) w q7.1 q7.2)) (fun q => q_F M n e q.2) := fun w => T_bind (T_mono (qF_by hB ha) (fun b hb => by rw [hb]; exact prodL_F (by omega) ha))
          refine T_if (fun _ => K _) (fun _ => T_if (fun _ => K _) (fun hw => T_if (fun _ => T_nz hw (K _)) (fun _ => T_nz hw (K _))))
        | inr y =>
          obtain ⟨c2, v2, p2⟩ := y
          have hi : p + 1 < p2 ∧ p2 ≤ n ∧ c2.length + (p + 1) ≤ p2 := hi
          have ha : (w, M') = (v2 (M.1 60), q_S M p2 o) := ha
          obtain ⟨rfl, rfl⟩ := Prod.mk.inj ha
          have K : ∀ w : Int32, w = p_op x (v (M.1 60)) (v2 (M.1 60)) → T (Option.bind (r_byteAt (q_S M p2 o)) (fun q7 => r_product_L10 rec_ F w q7.1 q7.2)) (q_Q M n o (p_loop (p_ah t n) one 4 m (c ++ (c2 ++ [-x])) (fun e => p_op x (v e) (v2 e)) p2)) := by
            intro w hw
            rw [qS_by hB hi.2.1, hw]
            exact ih F p2 _ (fun e => p_op x (v e) (v2 e)) (by omega) (by omega) hi.2.1
          show T _ (q_Q M n o (p_loop (p_ah t n) one 4 m (c ++ (c2 ++ [-x])) (fun e => p_op x (v e) (v2 e)) p2))
          dsimp only
          rcases hx3 with rfl | rfl | rfl
          · rw [if_pos rfl]
            exact K _ rfl
          · rw [if_neg (by decide)]
            refine T_if (fun hw => K _ ?_) (fun hw => ?_)
            · rw [op47, if_pos hw]
            · rw [if_pos rfl]
              exact T_nz hw (K _ (by rw [op47, if_neg hw]))
          · rw [if_neg (by decide)]
            refine T_if (fun hw => K _ ?_) (fun hw => ?_)
            · rw [op37, if_pos hw]
            · rw [if_neg (by decide)]
              exact T_nz hw (K _ (by rw [op37, if_neg hw]))
      rcases lv4.mp q with g | g | g
      · have := B 42 (by decide) (Or.inl rfl) g
        rw [g]
        rw [(by_eq (by decide)).mpr g, if_pos rfl]
        exact this
      · have := B 47 (by decide) (Or.inr (Or.inl rfl)) g
        rw [g]
        rw [(by_eq (by decide)).mpr g, if_neg (by decide), if_pos rfl]
        exact this
      · have := B 37 (by decide) (Or.inr (Or.inr rfl)) g
        rw [g]
        rw [(by_eq (by decide)).mpr g, if_neg (by decide), if_neg (by decide), if_pos rfl]
        exact this
    · rw [if_neg q]
      have q' : ¬ (p_ah t n p = 42 ∨ p_ah t n p = 47 ∨ p_ah t n p = 37) := fun h => q (lv4.mpr h)
      rw [if_neg (fun h => q' (Or.inl ((by_eq (by decide)).mp h))), if_neg (fun h => q' (Or.inr (Or.inl ((by_eq (by decide)).mp h)))), if_neg (fun h => q' (Or.inr (Or.inr ((by_eq (by decide)).mp h))))]
      exact T_some rfl
theorem R_prod (hB : q_B M n t) (hone : q_C M n o rec_ one) (hI : PI n one) : q_C M n o (r_product rec_) (p_part (p_ah t n) one 1) := by
  intro p hp
  have h120 := hB.2.1
  unfold r_product
  show T _ (q_Q M n o (i_rb (one p) (fun c v p1 => p_loop (p_ah t n) one 4 121 c v p1)))
  have ht := hone p hp
  have hi := hI p hp
  generalize one p = r at ht hi ⊢
  refine T_bind (T_mono ht (fun a ha => ?_))
  obtain ⟨w, M'⟩ := a
  cases r with
  | inl e =>
    have hi : e ≤ n := hi
    have ha : q_F M n e M' := ha
    exact T_bind (T_mono (qF_by hB ha) (fun b hb => by rw [hb]; exact prodL_F (by omega) ha))
  | inr y =>
    obtain ⟨c2, v2, p2⟩ := y
    have hi : p < p2 ∧ p2 ≤ n ∧ c2.length + p ≤ p2 := hi
    have ha : (w, M') = (v2 (M.1 60), q_S M p2 o) := ha
    obtain ⟨rfl, rfl⟩ := Prod.mk.inj ha
    rw [qS_by hB hi.2.1]
    exact R_prodL hB hone hI 121 i_F p2 c2 v2 (by omega) (by unfold i_F; omega) hi.2.1
theorem sumsL_F (hf : f < 1000) (h : q_F M n f M') {F : Nat} {w : Int32} : T (r_sums_L5 rec_ (F + 1) w M') (fun q => q_F M n f q.2) := by
  unfold r_sums_L5
  rw [if_neg (qF_lt h hf)]
  exact T_some h
theorem R_sumsL (hB : q_B M n t) (hs : q_C M n o (r_product rec_) sub) (hI : PI n sub) : ∀ (m F p : Nat) (c : List Int32) (v : i_V), n - p < m → n - p < F → p ≤ n → T (r_sums_L5 rec_ F (v (M.1 60)) (q_S M p o)) (q_Q M n o (p_loop (p_ah t n) sub 3 m c v p)) := by
  intro m
  induction m with
  | zero => exact fun F p c v h => absurd h (by omega)
  | succ m ih =>
    intro F p c v h1 h2 h3
    have h120 := hB.2.1
    obtain ⟨F, rfl⟩ : ∃ k, F = k + 1 := ⟨F - 1, by omega⟩
    unfold r_sums_L5 p_loop
    rw [qS_21, if_pos (by decide), qS_by hB h3]
    dsimp only [Option.bind_some]
    rw [qS_by hB h3]
    dsimp only [Option.bind_some]
    by_cases q : p_lvl (p_ah t n p) = 3
    · rw [if_pos q]
      have B : ∀ x s : Int32, 0 < x.toInt → (x = 43 ∧ s = 1 ∨ x = 45 ∧ s = 0) → p_ah t n p = x → T (r_sums_B44 rec_ (r_sums_L5 rec_ F) (v (M.1 60)) s (q_S M p o)) (q_Q M n o (i_rb (sub (p + 1)) (fun c2 v2 p2 => if (3 : Int32) = 2 then Sum.inr (c ++ (c2 ++ [-x]), (fun e => p_op x (v e) (v2 e)), p2) else p_loop (p_ah t n) sub 3 m (c ++ (c2 ++ [-x])) (fun e => p_op x (v e) (v2 e)) p2))) := by
        intro x s hx hx3 hax
        have hp := q_lt hx hax
        unfold r_sums_B44
        rw [qS_mv (by omega)]
        have ht := hs (p + 1) hp
        have hi := hI (p + 1) hp
        generalize sub (p + 1) = r at ht hi ⊢
        refine T_bind (T_mono ht (fun a ha => ?_))
        obtain ⟨w, M'⟩ := a
        cases r with
        | inl e =>
          have hi : e ≤ n := hi
          have ha : q_F M n e M' := ha
          obtain ⟨F, rfl⟩ : ∃ k, F = k + 1 := ⟨F - 1, by omega⟩
          exact T_if (fun _ => sumsL_F (by omega) ha) (fun _ => sumsL_F (by omega) ha)
        | inr y =>
          obtain ⟨c2, v2, p2⟩ := y
          have hi : p + 1 < p2 ∧ p2 ≤ n ∧ c2.length + (p + 1) ≤ p2 := hi
          have ha : (w, M') = (v2 (M.1 60), q_S M p2 o) := ha
          obtain ⟨rfl, rfl⟩ := Prod.mk.inj ha
          show T _ (q_Q M n o (p_loop (p_ah t n) sub 3 m (c ++ (c2 ++ [-x])) (fun e => p_op x (v e) (v2 e)) p2))
          dsimp only
          rcases hx3 with ⟨rfl, rfl⟩ | ⟨rfl, rfl⟩
          · rw [if_neg (by decide)]
            exact ih F p2 _ (fun e => p_op 43 (v e) (v2 e)) (by omega) (by omega) hi.2.1
          · rw [if_pos rfl]
            exact ih F p2 _ (fun e => p_op 45 (v e) (v2 e)) (by omega) (by omega) hi.2.1
      rcases lv3.mp q with g | g
      · have := B 43 1 (by decide) (Or.inl ⟨rfl, rfl⟩) g
        rw [g]
        rw [(by_eq (by decide)).mpr g, if_pos rfl, if_pos rfl]
        exact this
      · have := B 45 0 (by decide) (Or.inr ⟨rfl, rfl⟩) g
        rw [g]
        rw [(by_eq (by decide)).mpr g, if_neg (by decide), if_pos rfl, qS_by hB h3]
        dsimp only [Option.bind_some]
        rw [(by_eq (by decide)).mpr g, if_neg (by decide)]
        exact this
    · rw [if_neg q]
      have q' : ¬ (p_ah t n p = 43 ∨ p_ah t n p = 45) := fun h => q (lv3.mpr h)
      rw [if_neg (fun h => q' (Or.inl ((by_eq (by decide)).mp h))), if_neg (fun h => q' (Or.inr ((by_eq (by decide)).mp h)))]
      exact T_some rfl
theorem R_sums (hB : q_B M n t) (hs : q_C M n o (r_product rec_) sub) (hI : PI n sub) : q_C M n o (r_sums rec_) (fun p => i_rb (sub p) (fun c v p1 => p_loop (p_ah t n) sub 3 121 c v p1)) := by
  intro p hp
  have h120 := hB.2.1
  unfold r_sums
  have ht := hs p hp
  have hi := hI p hp
  dsimp only
  generalize sub p = r at ht hi ⊢
  refine T_bind (T_mono ht (fun a ha => ?_))
  obtain ⟨w, M'⟩ := a
  cases r with
  | inl e =>
    have hi : e ≤ n := hi
    exact sumsL_F (by omega) ha
  | inr y =>
    obtain ⟨c2, v2, p2⟩ := y
    have hi : p < p2 ∧ p2 ≤ n ∧ c2.length + p ≤ p2 := hi
    have ha : (w, M') = (v2 (M.1 60), q_S M p2 o) := ha
    obtain ⟨rfl, rfl⟩ := Prod.mk.inj ha
    exact R_sumsL hB hs hI 121 i_F p2 c2 v2 (by omega) (by unfold i_F; omega) hi.2.1
theorem R_comp (hB : q_B M n t) (hs : q_C M n o (r_sums rec_) sub) (hI : PI n sub) : q_C M n o (r_compared rec_) (fun p => i_rb (sub p) (fun c v p1 => p_loop (p_ah t n) sub 2 121 c v p1)) := by
  intro p hp
  have h120 := hB.2.1
  unfold r_compared
  have ht := hs p hp
  have hi := hI p hp
  dsimp only
  generalize sub p = r at ht hi ⊢
  refine T_bind (T_mono ht (fun a ha => ?_))
  obtain ⟨w, M'⟩ := a
  cases r with
  | inl e =>
    have hi : e ≤ n := hi
    have ha : q_F M n e M' := ha
    refine T_bind (T_mono (qF_by hB ha) (fun b hb => ?_))
    obtain ⟨b1, b2⟩ := b
    have hb : b2 = M' := hb
    subst hb
    refine T_if (fun h => absurd h (qF_lt ha (by omega))) (fun _ => T_some ha)
  | inr y =>
    obtain ⟨c2, v2, p2⟩ := y
    have hi : p < p2 ∧ p2 ≤ n ∧ c2.length + p ≤ p2 := hi
    have ha : (w, M') = (v2 (M.1 60), q_S M p2 o) := ha
    obtain ⟨rfl, rfl⟩ := Prod.mk.inj ha
    dsimp only
    rw [qS_by hB hi.2.1]
    dsimp only [Option.bind_some]
    rw [qS_21, if_pos (by decide)]
    show T _ (q_Q M n o (p_loop (p_ah t n) sub 2 (120 + 1) c2 v2 p2))
    unfold p_loop
    by_cases q : p_lvl (p_ah t n p2) = 2
    · rw [if_pos q]
      have B : ∀ x : Int32, 0 < x.toInt → (x = 60 ∨ x = 61 ∨ x = 62) → p_ah t n p2 = x → T (r_compared_B37 rec_ (v2 (M.1 60)) x (q_S M p2 o)) (q_Q M n o (i_rb (sub (p2 + 1)) (fun c3 v3 p3 => if (2 : Int32) = 2 then Sum.inr (c2 ++ (c3 ++ [-x]), (fun e => p_op x (v2 e) (v3 e)), p3) else p_loop (p_ah t n) sub 2 120 (c2 ++ (c3 ++ [-x])) (fun e => p_op x (v2 e) (v3 e)) p3))) := by
        intro x hx hx3 hax
        have hp := q_lt hx hax
        unfold r_compared_B37
        rw [qS_mv (by omega)]
        have ht := hs (p2 + 1) hp
        have hi := hI (p2 + 1) hp
        generalize sub (p2 + 1) = r at ht hi ⊢
        refine T_bind (T_mono ht (fun a ha => ?_))
        obtain ⟨w, M'⟩ := a
        cases r with
        | inl e =>
          have ha : q_F M n e M' := ha
          refine T_if (fun _ => T_if (fun _ => T_some ha) (fun _ => T_some ha)) (fun _ => T_if (fun _ => T_if (fun _ => T_some ha) (fun _ => T_some ha)) (fun _ => T_if (fun _ => T_some ha) (fun _ => T_some ha)))
        | inr y =>
          obtain ⟨c3, v3, p3⟩ := y
          have ha : (w, M') = (v3 (M.1 60), q_S M p3 o) := ha
          obtain ⟨rfl, rfl⟩ := Prod.mk.inj ha
          show T _ (q_Q M n o (Sum.inr (c2 ++ (c3 ++ [-x]), (fun e => p_op x (v2 e) (v3 e)), p3)))
          dsimp only
          rcases hx3 with rfl | rfl | rfl
          · rw [if_pos rfl]
            refine T_if (fun hc => T_some ?_) (fun hc => T_some ?_)
            · show (_, _) = (p_op 60 _ _, _)
              rw [op60, if_pos hc]
            · show (_, _) = (p_op 60 _ _, _)
              rw [op60, if_neg hc]
          · rw [if_neg (by decide), if_pos rfl]
            refine T_if (fun hc => T_some ?_) (fun hc => T_some ?_)
            · show (_, _) = (p_op 61 _ _, _)
              rw [op61, if_pos hc]
            · show (_, _) = (p_op 61 _ _, _)
              rw [op61, if_neg hc]
          · rw [if_neg (by decide), if_neg (by decide)]
            refine T_if (fun hc => T_some ?_) (fun hc => T_some ?_)
            · show (_, _) = (p_op 62 _ _, _)
              rw [op62, if_pos hc]
            · show (_, _) = (p_op 62 _ _, _)
              rw [op62, if_neg hc]
      rcases lv2.mp q with g | g | g
      · have := B 60 (by decide) (Or.inl rfl) g
        rw [g]
        rw [(by_eq (by decide)).mpr g, if_pos rfl]
        exact this
      · have := B 61 (by decide) (Or.inr (Or.inl rfl)) g
        rw [g]
        rw [(by_eq (by decide)).mpr g, if_neg (by decide), if_pos rfl]
        exact this
      · have := B 62 (by decide) (Or.inr (Or.inr rfl)) g
        rw [g]
        rw [(by_eq (by decide)).mpr g, if_neg (by decide), if_neg (by decide), if_pos rfl]
        exact this
    · rw [if_neg q]
      have q' : ¬ (p_ah t n p2 = 60 ∨ p_ah t n p2 = 61 ∨ p_ah t n p2 = 62) := fun h => q (lv2.mpr h)
      rw [if_neg (fun h => q' (Or.inl ((by_eq (by decide)).mp h))), if_neg (fun h => q' (Or.inr (Or.inl ((by_eq (by decide)).mp h)))), if_neg (fun h => q' (Or.inr (Or.inr ((by_eq (by decide)).mp h))))]
      exact T_some rfl
end REF2
