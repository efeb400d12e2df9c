/-! ===== part 79: strikes, the reference's way ===== -/
def k_res (B R : Int32) (v : Nat) (row B' R' : Int32) : Prop := ((B.toInt < 0 ∨ (v : Int) < B.toInt) ∧ B' = Int32.ofNat v ∧ R' = row) ∨ (¬ (B.toInt < 0 ∨ (v : Int) < B.toInt) ∧ B' = B ∧ R' = R)
def k_I (f T0 : Nat → Nat) (nb s many : Nat) (row B0 R0 : Int32) (j : Nat) (B R : Int32) : Prop :=
  (B = B0 ∧ R = R0 ∧ ∀ a, a < j → k_ca f s a → ¬ (B0.toInt < 0 ∨ ((many + 1 + T0 (s ||| f a) : Nat) : Int) < B0.toInt))
  ∨ ∃ a, a < j ∧ k_ca f s a ∧ (B0.toInt < 0 ∨ ((many + 1 + T0 (s ||| f a) : Nat) : Int) < B0.toInt) ∧ (∀ b, b < j → k_ca f s b → T0 (s ||| f a) ≤ T0 (s ||| f b)) ∧ (∀ b, b < a → k_ca f s b → T0 (s ||| f a) < T0 (s ||| f b)) ∧ B = Int32.ofNat (many + 1 + T0 (s ||| f a)) ∧ R = k_R f T0 nb (T0 (s ||| f a)) (s ||| f a) (10 * row + Int32.ofNat a + 1)
section KI
variable {f T0 : Nat → Nat} {nb s many j D : Nat} {row B0 R0 B R B' R' : Int32}
theorem kI_skip (h : k_I f T0 nb s many row B0 R0 j B R) (hn : ¬ k_ca f s j) : k_I f T0 nb s many row B0 R0 (j + 1) B R := by
  rcases h with ⟨h1, h2, h3⟩ | ⟨a, h1, h2, h3, h4, h5, h6, h7⟩
  · refine Or.inl ⟨h1, h2, fun a ha hc => ?_⟩
    by_cases q : a = j
    · exact absurd (q ▸ hc) hn
    · exact h3 a (by omega) hc
  · refine Or.inr ⟨a, by omega, h2, h3, fun b hb hc => ?_, h5, h6, h7⟩
    by_cases q : b = j
    · exact absurd (q ▸ hc) hn
    · exact h4 b (by omega) hc
theorem kI_step (h : k_I f T0 nb s many row B0 R0 j B R) (hc : k_ca f s j) (hb : ∀ a, a < j → many + 1 + T0 (s ||| f a) < 1000) (hr : k_res B R (many + 1 + T0 (s ||| f j)) (k_R f T0 nb (T0 (s ||| f j)) (s ||| f j) (10 * row + Int32.ofNat j + 1)) B' R') : k_I f T0 nb s many row B0 R0 (j + 1) B' R' := by
  rcases h with ⟨h1, h2, h3⟩ | ⟨a, h1, h2, h3, h4, h5, h6, h7⟩
  · subst h1 h2
    rcases hr with ⟨g1, g2, g3⟩ | ⟨g1, g2, g3⟩
    · refine Or.inr ⟨j, by omega, hc, g1, fun b hb hcb => ?_, fun b hb hcb => ?_, g2, g3⟩
      · by_cases q : b = j
        · rw [q]
          exact Nat.le_refl _
        · have := h3 b (by omega) hcb
          omega
      · have := h3 b (by omega) hcb
        omega
    · refine Or.inl ⟨g2, g3, fun a ha hca => ?_⟩
      by_cases q : a = j
      · rw [q]
        exact g1
      · exact h3 a (by omega) hca
  · have ha := hb a h1
    have eB : B.toInt = ((many + 1 + T0 (s ||| f a) : Nat) : Int) := by rw [h6]; exact a_on (by omega)
    rcases hr with ⟨g1, g2, g3⟩ | ⟨g1, g2, g3⟩
    · refine Or.inr ⟨j, by omega, hc, by omega, fun b hb hcb => ?_, fun b hb hcb => ?_, g2, g3⟩
      · by_cases q : b = j
        · rw [q]
          exact Nat.le_refl _
        · have := h4 b (by omega) hcb
          omega
      · have := h4 b (by omega) hcb
        omega
    · refine Or.inr ⟨a, by omega, h2, h3, fun b hb hcb => ?_, h5, by rw [g2]; exact h6, by rw [g3]; exact h7⟩
      by_cases q : b = j
      · rw [q]
        omega
      · exact h4 b (by omega) hcb
theorem kI_end (h : k_I f T0 nb s many row B0 R0 nb B R) (ho : k_ok f D nb T0) (hs : s < 2 ^ nb) (hne : s ≠ D) (h99 : T0 s ≠ 99) : k_res B0 R0 (many + T0 s) (k_R f T0 nb (T0 s) s row) B R := by
  obtain ⟨a', p1, p2, p3⟩ : ∃ a, a < nb ∧ k_ca f s a ∧ T0 s = T0 (s ||| f a) + 1 := by
    have e := ho s hs
    rcases kst_ex (f := f) (T0 := T0) hne nb with q | ⟨a, q1, q2, q3⟩
    · exact absurd (e.trans q) h99
    · exact ⟨a, q1, q2, e.trans q3⟩
  rcases h with ⟨h1, h2, h3⟩ | ⟨a, h1, h2, h3, h4, h5, h6, h7⟩
  · refine Or.inr ⟨?_, h1, h2⟩
    have := h3 a' p1 p2
    omega
  · have q1 := h4 a' p1 p2
    have q2 := kT_le ho hs h1 h2
    have q3 : T0 (s ||| f a) + 1 = T0 s := by omega
    have q4 : k_f1 f T0 s nb 0 = a := by
      refine f1_e ⟨h2.1, q3⟩ (fun b hb hx => ?_) nb 0 (by omega) (by omega)
      have : T0 (s ||| f a) < T0 (s ||| f b) := h5 b hb ⟨hx.1, fun e => by have := hx.2; rw [e] at this; omega⟩
      omega
    refine Or.inl ⟨by omega, ?_, ?_⟩
    · rw [h6, ← q3, show many + 1 + T0 (s ||| f a) = many + (T0 (s ||| f a) + 1) by omega]
    · rw [h7, ← q3]
      show _ = k_R f T0 nb (T0 (s ||| f a)) (s ||| f (k_f1 f T0 s nb 0)) (10 * row + Int32.ofNat (k_f1 f T0 s nb 0) + 1)
      rw [q4]
end KI
section SR
variable {M : I_M} {nb D c0 : Nat} {T0 : Nat → Nat}
theorem str_r (h : INV L_law M) (hn : (M.1 50 8).toInt = nb) (ho : k_ok (s_w M) D nb T0) (hDc : c_cl (s_w M) nb D) (hD : D < 2 ^ nb) (hleast : ∀ x, c_cl (s_w M) nb x → c_sub c0 x → c_sub D x) : ∀ (n s many : Nat) (row : Int32) (N : I_M), fv M N → s < 2 ^ nb → c_sub c0 s → c_sub s D → many ≤ c_n nb s → c_n nb D - c_n nb s < n →
    T (r_strikesOn n (Int32.ofNat s) (Int32.ofNat D) (Int32.ofNat many) row N) (fun N' => fv M N' ∧ k_res (N.1 50 37) (N.1 50 38) (many + T0 s) (k_R (s_w M) T0 nb (T0 s) s row) (N'.1 50 37) (N'.1 50 38)) := by
  have h6 : nb ≤ 6 := by have := h.2.2.1.2.2.1; omega
  have hf := sw_lt hn
  have D64 := p2_64 h6 hD
  have hT99 : ∀ x, x < 2 ^ nb → T0 x ≤ 99 := fun x hx => by rw [ho x hx]; exact k_le nb
  intro n
  induction n with
  | zero => exact fun s many row N _ _ _ _ _ q => absurd q (by omega)
  | succ n ih =>
    intro s many row N q1 q2 q3 q4 q5 q6
    have s64 := p2_64 h6 q2
    have cD := n_le (c := D) nb
    have cs := n_le (c := s) nb
    have em : (Int32.ofNat many).toInt = many := a_on (by omega)
    unfold r_strikesOn r_strikesOn_b
    have l0 := Int32.toInt_zero
    by_cases z : s = D
    · rw [if_pos (by rw [z])]
      have t0 : T0 s = 0 := by rw [z]; exact kT_D ho hDc hD
      rw [t0]
      have W : (N.1 50 37).toInt < 0 ∨ (many : Int) < (N.1 50 37).toInt → T (some (i_wI (i_wI N 50 37 (Int32.ofNat many)) 50 38 row)) (fun N' => fv M N' ∧ k_res (N.1 50 37) (N.1 50 38) (many + 0) (k_R (s_w M) T0 nb 0 s row) (N'.1 50 37) (N'.1 50 38)) := fun hw => T_some ⟨fv_wI (fv_wI q1 rfl) rfl, Or.inl ⟨hw, rfl, rfl⟩⟩
      by_cases y : (N.1 50 37).toInt < 0
      · rw [if_pos (by rw [a_lt]; omega)]
        exact W (Or.inl y)
      · rw [if_neg (by rw [a_lt]; omega)]
        by_cases x : (many : Int) < (N.1 50 37).toInt
        · rw [if_pos (by rw [a_lt]; omega)]
          exact W (Or.inr x)
        · rw [if_neg (by rw [a_lt]; omega)]
          exact T_some ⟨q1, Or.inr ⟨by omega, rfl, rfl⟩⟩
    · rw [if_neg (fun e => z ((on_eq (by omega) (by omega)).mp e))]
      have hlt := n_ne q4 z hD
      have l6 : (6 : Int32).toInt = 6 := rfl
      have l1 : (1 : Int32).toInt = 1 := rfl
      have em1 : (Int32.ofNat many + 1).toInt = many + 1 := by rw [a_a1 (by omega), em]
      rw [if_neg (by rw [a_eq]; omega)]
      have tp := kT_pos ho q2 z
      have tf : T0 s ≤ 6 := Nat.le_trans (kT_few ho hf hDc hD hleast nb s (by omega) q2 q3 q4) h6
      have LOOP : T (r_strikesOn_b_L59 (r_strikesOn n) (Int32.ofNat s) (Int32.ofNat D) (Int32.ofNat many) row i_F 0 N) (fun N' => fv M N' ∧ k_res (N.1 50 37) (N.1 50 38) (many + T0 s) (k_R (s_w M) T0 nb (T0 s) s row) (N'.1 50 37) (N'.1 50 38)) := by
        refine T_for (N := nb) (a := 0) (f := r_strikesOn_b_L59 (r_strikesOn n) (Int32.ofNat s) (Int32.ofNat D) (Int32.ofNat many) row) (fun j N' => fv M N' ∧ k_I (s_w M) T0 nb s many row (N.1 50 37) (N.1 50 38) j (N'.1 50 37) (N'.1 50 38)) (by omega) ?_ ?_ (by unfold i_F; omega) (by omega) rfl ⟨q1, Or.inl ⟨rfl, rfl, fun a ha => absurd ha (by omega)⟩⟩
        · intro m j i N' g1 g2 g3 g4 g5
          obtain ⟨f1, e1⟩ := g4
          have bt := n_bt s s64 j (by omega)
          have hor := n_lt q2 (hf j)
          have or64 := p2_64 h6 hor
          unfold r_strikesOn_b_L59
          rw [f1.1 50 8 rfl, if_pos (by rw [a_lt]; omega), of_k g1, e_isIn]
          dsimp only [Option.bind_some]
          by_cases w : s.testBit j = true
          · rw [bo_p (bt.mpr w), if_neg (by decide)]
            refine T_bind (T_mono (shown_r h hn g3 f1) (fun r hr => ?_))
            have f2 := fv_trans f1 (fv_fh hr.2)
            rw [hr.1, n_or _ s64 _ (p2_64 h6 (hf j))]
            unfold r_strikesOn_b_B89
            by_cases y : s ||| s_w M j = s
            · rw [if_pos (by rw [y]), ← of_k g1]
              refine g5 _ ⟨f2, ?_⟩
              rw [hr.2.2 50 37 rfl, hr.2.2 50 38 rfl]
              exact kI_skip e1 (fun hx => hx.2 y)
            · rw [if_neg (fun e => y ((on_eq (by omega) (by omega)).mp e))]
              have hin : c_sub (s ||| s_w M j) D := sub_or q4 (hDc j g3 (q4 j w))
              have hcn := n_ne (sub_l : c_sub s (s ||| s_w M j)) (fun e => y e.symm) hor
              have ea : Int32.ofNat many + 1 = Int32.ofNat (many + 1) := of_k (by omega)
              rw [ea]
              refine T_bind (T_mono (ih (s ||| s_w M j) (many + 1) _ r.2 f2 hor (sub_tr q3 sub_l) hin (by omega) (by omega)) (fun N2 hN2 => ?_))
              have r1 := hN2.2
              rw [hr.2.2 50 37 rfl, hr.2.2 50 38 rfl] at r1
              rw [← of_k g1]
              refine g5 _ ⟨hN2.1, ?_⟩
              refine kI_step e1 ⟨w, y⟩ (fun x _ => ?_) r1
              have := hT99 _ (n_lt q2 (hf x))
              omega
          · rw [bo_n (fun hx => w (bt.mp hx)), if_pos rfl]
            unfold r_strikesOn_b_B89
            rw [if_pos rfl, ← of_k g1]
            exact g5 _ ⟨f1, kI_skip e1 (fun hx => w hx.1)⟩
        · intro m i N' g1 g2
          obtain ⟨f1, e1⟩ := g2
          unfold r_strikesOn_b_L59
          rw [f1.1 50 8 rfl, if_neg (by rw [a_lt]; omega)]
          exact T_some ⟨f1, kI_end e1 ho q2 z (by omega)⟩
      by_cases y : (N.1 50 37).toInt < 0
      · rw [if_pos (by rw [a_lt]; omega)]
        exact LOOP
      · rw [if_neg (by rw [a_lt]; omega)]
        by_cases x : (many : Int) + 1 < (N.1 50 37).toInt
        · rw [if_pos (by rw [a_lt]; omega)]
          exact LOOP
        · rw [if_neg (by rw [a_lt]; omega)]
          exact T_some ⟨q1, Or.inr ⟨by omega, rfl, rfl⟩⟩
end SR
