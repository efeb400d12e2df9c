/-! ===== part 75: chain ===== -/
theorem n_all : ∀ n, n < 7 → ((1 : Int32) <<< (Int32.ofNat n &&& 31)) - (1 : Int32) = Int32.ofNat (2 ^ n - 1) := by decide +kernel
theorem holds_e {s b : Int32} {M : I_M} : b_Links_holds s b M = some (i_bo (((s >>> (b &&& 31)) &&& (1 : Int32)) = 1), M) := by
  unfold b_Links_holds
  by_cases h : ((s >>> (b &&& 31)) &&& (1 : Int32)) = 1
  · rw [bo_p h, if_neg (fun h2 => (a_bit.mp h2) h)]
  · rw [bo_n h, if_pos (a_bit.mpr h)]
section CH
variable {M : I_M} {nb : Nat}
theorem sw_lt (hn : (M.1 50 8).toInt = nb) : ∀ a, s_w M a < 2 ^ nb := by
  intro a
  unfold s_w
  rw [show (M.1 50 8).toInt.toNat = nb by omega]
  exact s_lt nb
theorem chain_b (hn : (M.1 50 8).toInt = nb) (h6 : nb ≤ 6) {c : Nat} (hc : c < 2 ^ nb) {M' : I_M} (h13 : M'.1 13 6 = M.1 50 8) (h29 : ∀ a, a < nb → M'.1 29 a = Int32.ofNat (s_w M a)) : b_Links_chainOf (Int32.ofNat c) M' = some (Int32.ofNat (c_r (s_w M) nb nb c), M') := by
  unfold b_Links_chainOf
  have hf := sw_lt hn
  refine T_eq (T_for (σ := Int32 × I_M) (N := nb) (a := 0) (f := fun m i s => b_Links_chainOf_L4 m s.1 i s.2) (s := (Int32.ofNat c, M')) (fun k s => s = (Int32.ofNat (c_r (s_w M) nb k c), M')) (by omega) ?_ ?_ (by unfold i_F; omega) (by omega) rfl rfl)
  · intro m k i s h1 h2 h3 h4 h5
    subst h4
    dsimp only
    unfold b_Links_chainOf_L4
    rw [h13, if_pos (by rw [a_lt]; omega)]
    have hk := r_lt (n := nb) hf hc k
    have hstep : c_r (s_w M) nb (k + 1) c = c_g (s_w M) nb (c_r (s_w M) nb k c) := rfl
    rw [hstep] at h5
    generalize c_r (s_w M) nb k c = x at *
    refine T_for (σ := Int32 × I_M) (N := nb) (a := 0) (f := fun m j s => b_Links_chainOf_L18 i _ m s.1 j s.2) (s := (Int32.ofNat x, M')) (fun q s => s = (Int32.ofNat (c_g (s_w M) q x), M')) (by omega) ?_ ?_ (by unfold i_F; omega) (by omega) rfl rfl
    · intro m' q j s g1 g2 g3 g4 g5
      subst g4
      dsimp only
      have hq := g_lt hf hk q
      have hg : c_g (s_w M) (q + 1) x = if (c_g (s_w M) q x).testBit q = true then c_g (s_w M) q x ||| s_w M q else c_g (s_w M) q x := rfl
      rw [hg] at g5
      generalize c_g (s_w M) q x = y at *
      have bt := n_bt y (p2_64 h6 hq) q (by omega)
      unfold b_Links_chainOf_L18
      rw [h13, if_pos (by rw [a_lt]; omega), of_k g1, holds_e]
      dsimp only [Option.bind_some]
      by_cases z : y.testBit q = true
      · rw [if_pos z] at g5
        rw [bo_p (bt.mpr z), if_neg (by decide), g_ok (by rw [a_on (by omega)]; omega) (by rw [a_on (by omega)]; omega), a_k (n := q) (by rw [a_on (by omega)]), h29 q g3, n_or _ (p2_64 h6 hq) _ (p2_64 h6 (hf q)), ← of_k g1]
        exact g5 _ rfl
      · rw [if_neg z] at g5
        rw [bo_n (fun h => z (bt.mp h)), if_pos rfl, ← of_k g1]
        exact g5 _ rfl
    · intro m' j s g1 g2
      subst g2
      dsimp only
      unfold b_Links_chainOf_L18
      rw [h13, if_neg (by rw [a_lt]; omega)]
      exact h5 _ rfl
  · intro m i s h1 h2
    subst h2
    dsimp only
    unfold b_Links_chainOf_L4
    rw [h13, if_neg (by rw [a_lt]; omega)]
    exact T_some rfl
theorem chain_r (h : INV L_law M) (hn : (M.1 50 8).toInt = nb) {c0 : Nat} (hc0 : c0 < 2 ^ nb) {M0 : I_M} (hf0 : fv M M0) : T (r_chainOf (Int32.ofNat c0) M0) (fun r => r.1 = Int32.ofNat (c_r (s_w M) nb nb c0) ∧ fh M0 r.2) := by
  have h6 : nb ≤ 6 := by have := h.2.2.1.2.2.1; omega
  have hf := sw_lt hn
  unfold r_chainOf
  have key : ∀ (d F c : Nat) (M' : I_M), nb - c_n nb c ≤ d → d + 1 < F → c < 2 ^ nb → c_sub c0 c → (∀ x, c_cl (s_w M) nb x → c_sub c0 x → c_sub c x) → fh M0 M' → T (r_chainOf_L4 F (Int32.ofNat c) 1 M') (fun r => r.1 = Int32.ofNat (c_r (s_w M) nb nb c0) ∧ fh M0 r.2) := by
    intro d
    induction d with
    | zero =>
      intro F c M' q1 q2 q3 q4 q5 q6
      obtain ⟨F, rfl⟩ : ∃ k, F = k + 1 + 1 := ⟨F - 2, by omega⟩
      have hfull : c_n nb c = nb := by have := n_le (c := c) nb; omega
      have hfx : c_h (s_w M) c nb c = c := by
        refine Classical.byContradiction (fun hne => ?_)
        have := n_ne (h_up (f := s_w M) (k := c) nb c) (fun e => hne e.symm) (h_lt (k := c) hf q3 nb)
        have := n_le (c := c_h (s_w M) c nb c) nb
        omega
      have fN := fv_trans hf0 (fv_fh q6)
      unfold r_chainOf_L4
      rw [if_neg (by decide)]
      refine T_for (σ := Int32 × I_M) (N := nb) (a := 0) (f := fun m j s => r_chainOf_L14 (Int32.ofNat c) _ m s.1 j s.2) (s := (Int32.ofNat c, M')) (fun k s => s.1 = Int32.ofNat (c_h (s_w M) c k c) ∧ fh M' s.2) (by omega) ?_ ?_ (by unfold i_F; omega) (by omega) rfl ⟨rfl, fh_refl⟩
      · intro m k j s g1 g2 g3 g4 g5
        obtain ⟨u, N⟩ := s
        obtain ⟨e1, e2⟩ := g4
        dsimp only at e1 e2 ⊢
        have f2 := fv_trans fN (fv_fh e2)
        have hlt := h_lt (k := c) hf q3 k
        have hs : c_h (s_w M) c (k + 1) c = if c.testBit k = true then c_h (s_w M) c k c ||| s_w M k else c_h (s_w M) c k c := rfl
        have bt := n_bt c (p2_64 h6 q3) k (by omega)
        unfold r_chainOf_L14
        rw [f2.1 50 8 rfl, if_pos (by rw [a_lt]; omega), of_k g1, e_isIn]
        dsimp only [Option.bind_some]
        by_cases z : c.testBit k = true
        · rw [bo_p (bt.mpr z), if_neg (by decide)]
          refine T_bind (T_mono (shown_r h hn g3 f2) (fun r hr => ?_))
          rw [← of_k g1]
          refine g5 (_, r.2) ⟨?_, fh_trans e2 hr.2⟩
          dsimp only
          rw [hs, if_pos z, e1, hr.1, n_or _ (p2_64 h6 hlt) _ (p2_64 h6 (hf k))]
        · rw [bo_n (fun h => z (bt.mp h)), if_pos rfl, ← of_k g1]
          refine g5 (_, N) ⟨?_, e2⟩
          dsimp only
          rw [hs, if_neg z, Int32.or_zero]
          exact e1
      · intro m j s g1 g2
        obtain ⟨u, N⟩ := s
        obtain ⟨e1, e2⟩ := g2
        dsimp only at e1 e2 ⊢
        have f2 := fv_trans fN (fv_fh e2)
        unfold r_chainOf_L14
        rw [f2.1 50 8 rfl, if_neg (by rw [a_lt]; omega), e1, hfx, if_pos rfl]
        unfold r_chainOf_L4
        rw [if_pos rfl]
        refine T_some ⟨?_, fh_trans q6 e2⟩
        rw [r_least hf hc0 q4 (h_fix hfx) q5]
    | succ d ih =>
      intro F c M' q1 q2 q3 q4 q5 q6
      obtain ⟨F, rfl⟩ : ∃ k, F = k + 1 + 1 := ⟨F - 2, by omega⟩
      have fN := fv_trans hf0 (fv_fh q6)
      unfold r_chainOf_L4
      rw [if_neg (by decide)]
      refine T_for (σ := Int32 × I_M) (N := nb) (a := 0) (f := fun m j s => r_chainOf_L14 (Int32.ofNat c) _ m s.1 j s.2) (s := (Int32.ofNat c, M')) (fun k s => s.1 = Int32.ofNat (c_h (s_w M) c k c) ∧ fh M' s.2) (by omega) ?_ ?_ (by unfold i_F; omega) (by omega) rfl ⟨rfl, fh_refl⟩
      · intro m k j s g1 g2 g3 g4 g5
        obtain ⟨u, N⟩ := s
        obtain ⟨e1, e2⟩ := g4
        dsimp only at e1 e2 ⊢
        have f2 := fv_trans fN (fv_fh e2)
        have hlt := h_lt (k := c) hf q3 k
        have hs : c_h (s_w M) c (k + 1) c = if c.testBit k = true then c_h (s_w M) c k c ||| s_w M k else c_h (s_w M) c k c := rfl
        have bt := n_bt c (p2_64 h6 q3) k (by omega)
        unfold r_chainOf_L14
        rw [f2.1 50 8 rfl, if_pos (by rw [a_lt]; omega), of_k g1, e_isIn]
        dsimp only [Option.bind_some]
        by_cases z : c.testBit k = true
        · rw [bo_p (bt.mpr z), if_neg (by decide)]
          refine T_bind (T_mono (shown_r h hn g3 f2) (fun r hr => ?_))
          rw [← of_k g1]
          refine g5 (_, r.2) ⟨?_, fh_trans e2 hr.2⟩
          dsimp only
          rw [hs, if_pos z, e1, hr.1, n_or _ (p2_64 h6 hlt) _ (p2_64 h6 (hf k))]
        · rw [bo_n (fun h => z (bt.mp h)), if_pos rfl, ← of_k g1]
          refine g5 (_, N) ⟨?_, e2⟩
          dsimp only
          rw [hs, if_neg z, Int32.or_zero]
          exact e1
      · intro m j s g1 g2
        obtain ⟨u, N⟩ := s
        obtain ⟨e1, e2⟩ := g2
        dsimp only at e1 e2 ⊢
        have f2 := fv_trans fN (fv_fh e2)
        have hlt := h_lt (k := c) hf q3 nb
        unfold r_chainOf_L14
        rw [f2.1 50 8 rfl, if_neg (by rw [a_lt]; omega), e1]
        by_cases hfx : c_h (s_w M) c nb c = c
        · rw [hfx, if_pos rfl]
          unfold r_chainOf_L4
          rw [if_pos rfl]
          refine T_some ⟨?_, fh_trans q6 e2⟩
          rw [r_least hf hc0 q4 (h_fix hfx) q5]
        · have hcn := n_ne (h_up (f := s_w M) (k := c) nb c) (fun e => hfx e.symm) hlt
          have l1 := p2_64 h6 hlt
          have l2 := p2_64 h6 q3
          rw [if_neg (fun e => hfx ((on_eq (by omega) (by omega)).mp e))]
          refine ih (F + 1) _ N (by omega) (by omega) hlt (sub_tr q4 (h_up nb c)) (fun x hx hx2 => h_in hx (q5 x hx hx2) (q5 x hx hx2) nb (Nat.le_refl nb)) (fh_trans q6 e2)
  exact key nb i_F c0 M0 (by omega) (by unfold i_F; omega) hc0 sub_rf (fun x _ hx => hx) fh_refl
end CH
section OPS
variable {a : Int32}
theorem set_b {M : I_M} {nb : Nat} (hn : (M.1 13 6).toInt = nb) (h6 : nb ≤ 6) : b_isBellSet a M = some (i_bo (0 ≤ a.toInt ∧ a.toInt < 2 ^ nb), M) := by
  have en : M.1 13 6 = Int32.ofNat nb := of_k hn
  have hp := p2_64 (n := nb) (x := 2 ^ nb - 1) h6 (by have := Nat.two_pow_pos nb; omega)
  have e2 : ((2 ^ nb : Nat) : Int) = (2 : Int) ^ nb := Int.natCast_pow 2 nb
  have hpos := Nat.two_pow_pos nb
  have l0 := Int32.toInt_zero
  unfold b_isBellSet b_Buried_allBits
  dsimp only [Option.bind_some]
  rw [en, n_all nb (by omega)]
  have e3 : (Int32.ofNat (2 ^ nb - 1)).toInt = ((2 ^ nb - 1 : Nat) : Int) := a_on (by omega)
  by_cases h1 : a.toInt < 0
  · rw [if_pos (by rw [a_lt]; omega), bo_n (by omega)]
  rw [if_neg (by rw [a_lt]; omega)]
  by_cases h2 : a.toInt < 2 ^ nb
  · rw [if_neg (by rw [a_lt]; omega), bo_p (by omega)]
  · rw [if_pos (by rw [a_lt]; omega), bo_n (by omega)]
theorem set_r {M : I_M} {nb : Nat} (hn : (M.1 50 8).toInt = nb) (h6 : nb ≤ 6) : r_isSet a M = some (i_bo (0 ≤ a.toInt ∧ a.toInt < 2 ^ nb), M) := by
  have en : M.1 50 8 = Int32.ofNat nb := of_k hn
  have hp := p2_64 (n := nb) (x := 2 ^ nb - 1) h6 (by have := Nat.two_pow_pos nb; omega)
  have e2 : ((2 ^ nb : Nat) : Int) = (2 : Int) ^ nb := Int.natCast_pow 2 nb
  have hpos := Nat.two_pow_pos nb
  unfold r_isSet
  rw [en, n_all nb (by omega), r_within_e, a_l, a_l, Int64.toInt_zero]
  dsimp only [Option.bind_some]
  have e3 : (Int32.ofNat (2 ^ nb - 1)).toInt = ((2 ^ nb - 1 : Nat) : Int) := a_on (by omega)
  rw [bo_zo, e3]
  by_cases h2 : 0 ≤ a.toInt ∧ a.toInt < 2 ^ nb
  · rw [bo_p h2, bo_p (by omega)]
  · rw [bo_n h2, bo_n (by omega)]
theorem op_chain : OP L_law (b_chain a) (r_chain a) := by
  intro M h
  have hi := h
  have g1 : M.1 13 6 = M.1 50 8 := h.2.2.1.1
  obtain ⟨nb, hn⟩ : ∃ n : Nat, (M.1 50 8).toInt = n := ⟨(M.1 50 8).toInt.toNat, by have := h.2.2.1.2.1; omega⟩
  have h6 : nb ≤ 6 := by have := h.2.2.1.2.2.1; omega
  unfold b_chain
  rw [set_b (nb := nb) (by rw [g1]; exact hn) h6]
  dsimp only [Option.bind_some]
  by_cases p : 0 ≤ a.toInt ∧ a.toInt < 2 ^ nb
  · rw [bo_p p, if_neg (by decide)]
    obtain ⟨c, hc⟩ : ∃ c : Nat, a.toInt = c := ⟨a.toInt.toNat, by omega⟩
    have e2 : ((2 ^ nb : Nat) : Int) = (2 : Int) ^ nb := Int.natCast_pow 2 nb
    have hc2 : c < 2 ^ nb := by have := p.2; rw [← e2] at this; omega
    rw [of_k hc]
    refine T_bind (T_mono (look_b hi hn) (fun M1 hM1 => ?_))
    rw [chain_b hn h6 hc2 (by rw [hM1.1.1 13 6 rfl]; exact g1) hM1.2]
    refine T_some ?_
    dsimp only
    unfold r_chain
    have e8 := hM1.1.1 50 8 rfl
    rw [set_r (nb := nb) (by rw [e8]; exact hn) h6, bo_p (by rw [← of_k hc]; exact p)]
    dsimp only [Option.bind_some]
    rw [if_neg (by decide)]
    refine T_bind (T_mono (chain_r hi hn hc2 hM1.1) (fun r hr => T_some ⟨hr.1, fv_inv hi (fv_trans hM1.1 (fv_fh hr.2))⟩))
  · rw [bo_n p, if_pos rfl]
    refine T_some ?_
    dsimp only
    unfold r_chain
    rw [set_r hn h6, bo_n p]
    dsimp only [Option.bind_some]
    rw [if_pos rfl]
    exact T_some ⟨rfl, hi⟩
end OPS
