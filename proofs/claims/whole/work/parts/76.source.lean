/-! ===== part 76: source ===== -/
theorem bc_all : ∀ n, n < 7 → ∀ x, x < 64 → x < 2 ^ n → ¬ i_bc (Int32.ofNat (2 ^ n - 1)) < i_bc (Int32.ofNat x) := by decide +kernel
def o_G (f : Nat → Nat) (nb n : Nat) : Nat := i_it (fun s best => if c_r f nb nb s = 2 ^ nb - 1 ∧ i_bc (Int32.ofNat s) < i_bc (Int32.ofNat best) then s else best) n (2 ^ nb - 1)
section SO
variable {f : Nat → Nat} {nb : Nat}
theorem oG_lt : ∀ n, n ≤ 2 ^ nb → o_G f nb n < 2 ^ nb := by
  intro n
  have := Nat.two_pow_pos nb
  induction n with
  | zero => exact fun _ => (show 2 ^ nb - 1 < 2 ^ nb by omega)
  | succ n ih =>
    intro hn
    show (if c_r f nb nb n = 2 ^ nb - 1 ∧ i_bc (Int32.ofNat n) < i_bc (Int32.ofNat (o_G f nb n)) then n else o_G f nb n) < 2 ^ nb
    split
    · omega
    · exact ih (by omega)
theorem oG_s {n : Nat} : o_G f nb (n + 1) = if c_r f nb nb n = 2 ^ nb - 1 ∧ i_bc (Int32.ofNat n) < i_bc (Int32.ofNat (o_G f nb n)) then n else o_G f nb n := rfl
theorem oG_1 (hf : ∀ a, f a < 2 ^ nb) (h1 : 1 ≤ nb) : o_G f nb 1 = 2 ^ nb - 1 := by
  have h0 : c_r f nb nb 0 = 0 := by
    refine (r_least hf (Nat.two_pow_pos nb) sub_rf (fun a _ hb => ?_) (fun d _ _ b hb => ?_)).symm
    · rw [Nat.zero_testBit] at hb
      cases hb
    · rw [Nat.zero_testBit] at hb
      cases hb
  have h2 : 2 ^ 1 ≤ 2 ^ nb := Nat.pow_le_pow_right (by omega) h1
  rw [oG_s, h0, if_neg (by omega)]
  rfl
theorem oG_e (h6 : nb ≤ 6) : o_G f nb (2 ^ nb - 1 + 1) = o_G f nb (2 ^ nb - 1) := by
  have hp := Nat.two_pow_pos nb
  have := oG_lt (f := f) (nb := nb) (2 ^ nb - 1) (by omega)
  rw [oG_s, if_neg (fun h => bc_all nb (by omega) _ (p2_64 h6 this) this h.2)]
end SO
theorem op_source : OP L_law b_source r_source := by
  intro M h
  have hi := h
  have g1 : M.1 13 6 = M.1 50 8 := h.2.2.1.1
  obtain ⟨nb, hn⟩ : ∃ n : Nat, (M.1 50 8).toInt = n := ⟨(M.1 50 8).toInt.toNat, by have := h.2.2.1.2.1; omega⟩
  have h6 : nb ≤ 6 := by have := h.2.2.1.2.2.1; omega
  unfold b_source
  rw [g1]
  by_cases z : M.1 50 8 = 0
  · rw [if_pos z]
    refine T_some ?_
    dsimp only
    unfold r_source
    rw [if_pos z]
    exact T_some ⟨rfl, hi⟩
  · rw [if_neg z]
    have hnb : 1 ≤ nb := by
      have : ¬ (M.1 50 8).toInt = 0 := fun e => z (a_eq.mpr (by rw [Int32.toInt_zero]; exact e))
      omega
    have hf := sw_lt hn
    have hp := Nat.two_pow_pos nb
    have h64 := p2_64 (n := nb) (x := 2 ^ nb - 1) h6 (by omega)
    have e3 : (Int32.ofNat (2 ^ nb - 1)).toInt = ((2 ^ nb - 1 : Nat) : Int) := a_on (by omega)
    refine T_bind (T_mono (look_b hi hn) (fun M1 hM1 => ?_))
    have h13 : M1.1 13 6 = M.1 50 8 := by rw [hM1.1.1 13 6 rfl]; exact g1
    have BC : ∀ (x : Nat) (N : I_M), x < 64 → r_bitsOf (Int32.ofNat x) N = some (i_bc (Int32.ofNat x), N) := fun x N hx => (bc_r (M := N) (by rw [a_on (by omega)]; omega) (by rw [a_on (by omega)]; omega)).1
    have eA : b_Buried_allBits M1 = some (Int32.ofNat (2 ^ nb - 1), M1) := by
      unfold b_Buried_allBits
      rw [h13, of_k hn, n_all nb (by omega)]
    unfold b_Links_fewestForAll
    refine T_bind (T_bind (T_ok eA ?_))
    obtain ⟨F, hF, hF2⟩ : ∃ F, i_F = F ∧ 100 < F := ⟨i_F, rfl, by unfold i_F; omega⟩
    rw [hF]
    refine T_for (σ := Int32 × I_M) (N := 2 ^ nb - 1 + 1) (a := 1) (f := fun m i s => b_Links_fewestForAll_L12 (Int32.ofNat (2 ^ nb - 1)) m s.1 i s.2) (s := (Int32.ofNat (2 ^ nb - 1), M1)) (fun k s => s = (Int32.ofNat (o_G (s_w M) nb k), M1)) (by omega) ?_ ?_ (by omega) (by omega) (by decide) (by rw [oG_1 hf hnb])
    · intro m k i s q1 q2 q3 q4 q5
      subst q4
      dsimp only
      have hlt := oG_lt (f := s_w M) (nb := nb) k (by omega)
      have hG := p2_64 h6 hlt
      rw [oG_s] at q5
      unfold b_Links_fewestForAll_L12
      rw [if_neg (by rw [a_lt]; omega), of_k q1, chain_b hn h6 (by omega) h13 hM1.2]
      dsimp only [Option.bind_some]
      have hr := r_lt (n := nb) hf (c := k) (by omega) nb
      have hr2 := p2_64 h6 hr
      rw [← of_k q1]
      by_cases w1 : c_r (s_w M) nb nb k = 2 ^ nb - 1
      · rw [if_pos ((on_eq (by omega) (by omega)).mpr w1)]
        refine T_bind (T_ok bc_j (T_bind (T_ok bc_j ?_)))
        refine T_if (fun w2 => ?_) (fun w2 => ?_)
        · have w2 : i_bc i < i_bc (Int32.ofNat (o_G (s_w M) nb k)) := w2
          rw [if_pos ⟨w1, by rw [← of_k q1]; exact w2⟩] at q5
          exact q5 (i, M1) (by rw [of_k q1])
        · have w2 : ¬ i_bc i < i_bc (Int32.ofNat (o_G (s_w M) nb k)) := w2
          rw [if_neg (fun h => w2 (by rw [of_k q1]; exact h.2))] at q5
          exact q5 (Int32.ofNat (o_G (s_w M) nb k), M1) rfl
      · rw [if_neg (fun e => w1 ((on_eq (by omega) (by omega)).mp e))]
        rw [if_neg (fun h => w1 h.1)] at q5
        exact q5 _ rfl
    · intro m i s q1 q2
      subst q2
      dsimp only
      unfold b_Links_fewestForAll_L12
      rw [if_pos (by rw [a_lt]; omega), oG_e h6]
      refine T_some (T_some ?_)
      dsimp only
      unfold r_source
      have e8 := hM1.1.1 50 8 rfl
      rw [e8, if_neg z, of_k hn, n_all nb (by omega), hF]
      refine T_for (σ := Int32 × I_M) (N := 2 ^ nb - 1) (a := 0) (f := fun m i s => r_source_L23 (Int32.ofNat (2 ^ nb - 1)) m s.1 i s.2) (s := (Int32.ofNat (2 ^ nb - 1), M1)) (fun k s => s.1 = Int32.ofNat (o_G (s_w M) nb k) ∧ fh M1 s.2) (by omega) ?_ ?_ (by omega) (by omega) rfl ⟨rfl, fh_refl⟩
      · intro m' k j s r1 r2 r3 r4 r5
        obtain ⟨u, N⟩ := s
        obtain ⟨e1, e2⟩ := r4
        dsimp only at e1 e2 ⊢
        subst e1
        have hlt := oG_lt (f := s_w M) (nb := nb) k (by omega)
        have hG := p2_64 h6 hlt
        have hk64 := p2_64 (x := k) h6 (by omega)
        rw [oG_s] at r5
        unfold r_source_L23
        rw [if_pos (by rw [a_lt]; omega), of_k r1, BC k N hk64]
        dsimp only [Option.bind_some]
        rw [BC _ N hG]
        dsimp only [Option.bind_some]
        by_cases w2 : i_bc (Int32.ofNat k) < i_bc (Int32.ofNat (o_G (s_w M) nb k))
        · rw [if_pos w2]
          refine T_bind (T_mono (chain_r hi hn (c0 := k) (by omega) (fv_trans hM1.1 (fv_fh e2))) (fun r hr => ?_))
          rw [hr.1, ← of_k r1]
          have hr1 := r_lt (n := nb) hf (c := k) (by omega) nb
          have hr2 := p2_64 h6 hr1
          by_cases w1 : c_r (s_w M) nb nb k = 2 ^ nb - 1
          · rw [if_pos ((on_eq (by omega) (by omega)).mpr w1)]
            rw [if_pos ⟨w1, w2⟩] at r5
            exact r5 (_, r.2) ⟨of_k r1, fh_trans e2 hr.2⟩
          · rw [if_neg (fun e => w1 ((on_eq (by omega) (by omega)).mp e))]
            rw [if_neg (fun h => w1 h.1)] at r5
            exact r5 (_, r.2) ⟨rfl, fh_trans e2 hr.2⟩
        · rw [if_neg w2, ← of_k r1]
          rw [if_neg (fun h => w2 h.2)] at r5
          exact r5 (_, N) ⟨rfl, e2⟩
      · intro m' j s r1 r2
        obtain ⟨u, N⟩ := s
        obtain ⟨e1, e2⟩ := r2
        dsimp only at e1 e2 ⊢
        unfold r_source_L23
        rw [if_neg (by rw [a_lt]; omega)]
        exact T_some ⟨e1, fv_inv hi (fv_trans hM1.1 (fv_fh e2))⟩
