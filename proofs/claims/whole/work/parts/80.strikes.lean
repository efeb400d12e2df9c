/-! ===== part 80: strikes ===== -/
section RB
variable {M M' : I_M} {nb D c0 : Nat} {T0 : Nat → Nat}
theorem struck_b (hn : (M.1 50 8).toInt = nb) (h6 : nb ≤ 6) (ho : k_ok (s_w M) D nb T0) (h13 : M'.1 13 6 = M.1 50 8) (h29 : ∀ a, a < nb → M'.1 29 a = Int32.ofNat (s_w M a)) (h30 : ∀ s, s < 2 ^ nb → M'.1 30 s = Int32.ofNat (T0 s)) {s : Nat} (hs : s < 2 ^ nb) (hx : ∃ a, a < nb ∧ s.testBit a = true ∧ T0 (s ||| s_w M a) + 1 = T0 s) :
    b_Links_firstStruck (Int32.ofNat s) M' = some (Int32.ofNat (k_f1 (s_w M) T0 s nb 0), M') := by
  have hf := sw_lt hn
  have s64 := p2_64 h6 hs
  have hT99 : ∀ x, x < 2 ^ nb → T0 x ≤ 99 := fun x hx => by rw [ho x hx]; exact k_le nb
  have es : (Int32.ofNat s).toInt = s := a_on (by omega)
  unfold b_Links_firstStruck
  refine T_eq (T_for (N := nb) (a := 0) (f := b_Links_firstStruck_L2 (Int32.ofNat s)) (fun k N => N = M' ∧ ∀ b, b < k → ¬ (s.testBit b = true ∧ T0 (s ||| s_w M b) + 1 = T0 s)) (by omega) ?_ ?_ (by unfold i_F; omega) (by omega) rfl ⟨rfl, fun b hb => absurd hb (by omega)⟩)
  · intro m k i N g1 g2 g3 g4 g5
    obtain ⟨rfl, e1⟩ := g4
    have bt := n_bt s s64 k (by omega)
    have hor := n_lt hs (hf k)
    have or64 := p2_64 h6 hor
    have eor : (Int32.ofNat (s ||| s_w M k)).toInt = ((s ||| s_w M k : Nat) : Int) := a_on (by omega)
    have ex : ∀ {p : Prop}, (∀ b, b < k → ¬ p) → p → ¬ (0 < k) := fun h1 h2 h3 => h1 0 h3 h2
    have NEXT : ¬ (s.testBit k = true ∧ T0 (s ||| s_w M k) + 1 = T0 s) → ∀ b, b < k + 1 → ¬ (s.testBit b = true ∧ T0 (s ||| s_w M b) + 1 = T0 s) := by
      intro hh b hb
      by_cases q : b = k
      · rw [q]
        exact hh
      · exact e1 b (by omega)
    unfold b_Links_firstStruck_L2
    rw [h13, if_pos (by rw [a_lt]; omega), of_k g1, holds_e]
    dsimp only [Option.bind_some]
    by_cases z : s.testBit k = true
    · rw [bo_p (bt.mpr z), if_neg (by decide), ← of_k g1, g_ok (by omega) (by omega), a_k g1, h29 k g3, n_or _ s64 _ (p2_64 h6 (hf k)), g_ok (by omega) (by omega), g_ok (by omega) (by omega), a_k eor, a_k es, h30 _ hor, h30 _ hs]
      have t1 := hT99 _ hor
      have t2 := hT99 _ hs
      have u1 : (Int32.ofNat (T0 (s ||| s_w M k))).toInt = ((T0 (s ||| s_w M k) : Nat) : Int) := a_on (by omega)
      have u2 : (Int32.ofNat (T0 s)).toInt = ((T0 s : Nat) : Int) := a_on (by omega)
      have u3 : (Int32.ofNat (T0 s) - 1).toInt = (T0 s : Int) - 1 := by rw [a_s1 (by omega), u2]
      by_cases y : T0 (s ||| s_w M k) + 1 = T0 s
      · rw [if_pos (by rw [a_eq]; omega)]
        refine T_some ?_
        rw [f1_e ⟨z, y⟩ e1 nb 0 (by omega) (by omega), ← of_k g1]
      · rw [if_neg (by rw [a_eq]; omega)]
        exact g5 _ ⟨rfl, NEXT (fun hh => y hh.2)⟩
    · rw [bo_n (fun h => z (bt.mp h)), if_pos rfl, ← of_k g1]
      exact g5 _ ⟨rfl, NEXT (fun hh => z hh.1)⟩
  · intro m i N g1 g2
    obtain ⟨rfl, e1⟩ := g2
    obtain ⟨a, ha, hb⟩ := hx
    exact absurd hb (e1 a ha)
theorem row_b (hn : (M.1 50 8).toInt = nb) (h6 : nb ≤ 6) (ho : k_ok (s_w M) D nb T0) (hDc : c_cl (s_w M) nb D) (hD : D < 2 ^ nb) (hleast : ∀ x, c_cl (s_w M) nb x → c_sub c0 x → c_sub D x) (h13 : M'.1 13 6 = M.1 50 8) (h29 : ∀ a, a < nb → M'.1 29 a = Int32.ofNat (s_w M a)) (h30 : ∀ s, s < 2 ^ nb → M'.1 30 s = Int32.ofNat (T0 s)) : ∀ (t F s : Nat) (row : Int32) (k : Nat), T0 s = t → k + t ≤ 6 → t < F → s < 2 ^ nb → c_sub c0 s → c_sub s D →
    b_Links_firstRow_L7 F row (Int32.ofNat s) (Int32.ofNat k) M' = some (k_R (s_w M) T0 nb t s row, M') := by
  have hf := sw_lt hn
  intro t
  induction t with
  | zero =>
    intro F s row k q1 q2 q3 q4 q5 q6
    obtain ⟨F, rfl⟩ : ∃ k, F = k + 1 := ⟨F - 1, by omega⟩
    have s64 := p2_64 h6 q4
    have es : (Int32.ofNat s).toInt = s := a_on (by omega)
    unfold b_Links_firstRow_L7
    rw [g_ok (by omega) (by omega), a_k es, h30 s q4, q1, if_neg (c := (0 : Int32) < Int32.ofNat 0) (by decide)]
    split <;> rfl
  | succ t ih =>
    intro F s row k q1 q2 q3 q4 q5 q6
    obtain ⟨F, rfl⟩ : ∃ k, F = k + 1 := ⟨F - 1, by omega⟩
    have s64 := p2_64 h6 q4
    have es : (Int32.ofNat s).toInt = s := a_on (by omega)
    have ek : (Int32.ofNat k).toInt = k := a_on (by omega)
    have et : (Int32.ofNat (t + 1)).toInt = ((t + 1 : Nat) : Int) := a_on (by omega)
    have l6 : (6 : Int32).toInt = 6 := rfl
    have l0 := Int32.toInt_zero
    have hne : s ≠ D := fun e => by rw [e, kT_D ho hDc hD] at q1; omega
    have hx : ∃ a, a < nb ∧ s.testBit a = true ∧ T0 (s ||| s_w M a) + 1 = T0 s := by
      have e := ho s q4
      rcases kst_ex (f := s_w M) (T0 := T0) hne nb with q | ⟨a, p1, p2, p3⟩
      · omega
      · exact ⟨a, p1, p2.1, (e.trans p3).symm⟩
    obtain ⟨p1, p2, p3, p4⟩ := f1_x hx
    have hor := n_lt q4 (hf (k_f1 (s_w M) T0 s nb 0))
    have eF : (Int32.ofNat (k_f1 (s_w M) T0 s nb 0)).toInt = ((k_f1 (s_w M) T0 s nb 0 : Nat) : Int) := a_on (by omega)
    unfold b_Links_firstRow_L7
    rw [if_pos (by rw [a_lt]; omega), g_ok (by omega) (by omega), a_k es, h30 s q4, q1, if_pos (by rw [a_lt]; omega), struck_b hn h6 ho h13 h29 h30 q4 hx]
    dsimp only [Option.bind_some]
    rw [g_ok (by omega) (by omega), a_k eF, h29 _ p1, n_or _ s64 _ (p2_64 h6 (hf _))]
    have ek1 : Int32.ofNat k + 1 = Int32.ofNat (k + 1) := of_k (by rw [a_a1 (by omega), ek]; rfl)
    rw [ek1]
    exact ih F _ _ (k + 1) (by omega) (by omega) (by omega) hor (sub_tr q5 sub_l) (sub_or q6 (hDc _ p1 (q6 _ p2)))
end RB
section OPS
variable {a b : Int32}
theorem op_strikes : OP L_law (b_strikes a b) (r_strikes a b) := by
  intro M h
  have hi := h
  have g1 : M.1 13 6 = M.1 50 8 := h.2.2.1.1
  obtain ⟨nb, hn⟩ : ∃ n : Nat, (M.1 50 8).toInt = n := ⟨(M.1 50 8).toInt.toNat, by have := h.2.2.1.2.1; omega⟩
  have h6 : nb ≤ 6 := by have := h.2.2.1.2.2.1; omega
  have l0 := Int32.toInt_zero
  have l1 : (1 : Int32).toInt = 1 := rfl
  have REF : ∀ M', fv M M' → M'.1 50 8 = M.1 50 8 → ¬ ((0 ≤ a.toInt ∧ a.toInt < 2 ^ nb) ∧ 0 ≤ b.toInt ∧ b.toInt ≤ 1) → T (r_strikes a b M') (fun s => s.1 = -1 ∧ INV L_law s.2) := by
    intro M' hf e8 hx
    unfold r_strikes
    rw [set_r (nb := nb) (by rw [e8]; exact hn) h6]
    dsimp only [Option.bind_some]
    by_cases p : 0 ≤ a.toInt ∧ a.toInt < 2 ^ nb
    · rw [bo_p p, if_neg (by decide), r_within_e]
      dsimp only [Option.bind_some]
      rw [bo_n (by rw [a_l, Int64.toInt_zero, Int64.toInt_one]; exact fun hy => hx ⟨p, hy⟩), if_pos rfl]
      exact T_some ⟨rfl, fv_inv hi hf⟩
    · rw [bo_n p, if_pos rfl]
      exact T_some ⟨rfl, fv_inv hi hf⟩
  unfold b_strikes
  rw [set_b (nb := nb) (by rw [g1]; exact hn) h6]
  dsimp only [Option.bind_some]
  by_cases p : 0 ≤ a.toInt ∧ a.toInt < 2 ^ nb
  · rw [bo_p p, if_neg (by decide)]
    by_cases p1 : b.toInt < 0
    · rw [if_pos (by rw [a_lt]; omega)]
      exact T_some (REF M fv_refl rfl (fun hx => by omega))
    rw [if_neg (by rw [a_lt]; omega)]
    by_cases p2 : 1 < b.toInt
    · rw [if_pos (by rw [a_lt]; omega)]
      exact T_some (REF M fv_refl rfl (fun hx => by omega))
    rw [if_neg (by rw [a_lt]; omega)]
    obtain ⟨c, hc⟩ : ∃ c : Nat, a.toInt = c := ⟨a.toInt.toNat, by omega⟩
    have e2 : ((2 ^ nb : Nat) : Int) = (2 : Int) ^ nb := Int.natCast_pow 2 nb
    have hc2 : c < 2 ^ nb := by have := p.2; rw [← e2] at this; omega
    have c64 := p2_64 h6 hc2
    have hf := sw_lt hn
    have hp := Nat.two_pow_pos nb
    have h64 := p2_64 (n := nb) (x := 2 ^ nb - 1) h6 (by omega)
    have ea : a = Int32.ofNat c := of_k hc
    obtain ⟨D, hD⟩ : ∃ D, D = c_r (s_w M) nb nb c := ⟨_, rfl⟩
    have hDl : D < 2 ^ nb := by rw [hD]; exact r_lt hf hc2 nb
    have hDc : c_cl (s_w M) nb D := by rw [hD]; exact r_cl hf hc2
    have hDs : c_sub c D := by rw [hD]; exact r_up nb
    have hDm : ∀ x, c_cl (s_w M) nb x → c_sub c x → c_sub D x := fun x hx hx2 => by rw [hD]; exact r_in hx hx2 nb
    refine T_bind (T_mono (look_b hi hn) (fun M1 hM1 => ?_))
    have h13 : M1.1 13 6 = M.1 50 8 := by rw [hM1.1.1 13 6 rfl]; exact g1
    rw [ea, chain_b hn h6 hc2 h13 hM1.2, ← hD, ← ea]
    dsimp only [Option.bind_some]
    have eA : b_Buried_allBits M1 = some (Int32.ofNat (2 ^ nb - 1), M1) := by
      unfold b_Buried_allBits
      rw [h13, of_k hn, n_all nb (by omega)]
    unfold b_Links_planFor
    refine T_bind (T_bind (T_ok eA ?_))
    have e3 : (Int32.ofNat (2 ^ nb - 1)).toInt = ((2 ^ nb - 1 : Nat) : Int) := a_on (by omega)
    refine T_mono (plan_b hn h6 hDl g1 (2 ^ nb) i_F (Int32.ofNat (2 ^ nb - 1)) M1 (fun _ => 0) (Nat.le_refl _) (by unfold i_F; omega) (by omega) hM1.1 hM1.2 (fun s q1 q2 => absurd q2 (by omega))) (fun M2 hM2 => ?_)
    obtain ⟨f2, w2, T0, t2⟩ := hM2
    have ho : k_ok (s_w M) D nb T0 := fun s hs => (t2 s (by omega) hs).2
    have h30 : ∀ s, s < 2 ^ nb → M2.1 30 s = Int32.ofNat (T0 s) := fun s hs => (t2 s (by omega) hs).1
    have h132 : M2.1 13 6 = M.1 50 8 := by rw [f2.1 13 6 rfl]; exact g1
    have cD := n_le (c := D) nb
    have tf : T0 c ≤ 6 := Nat.le_trans (kT_few ho hf hDc hDl hDm nb c (by omega) hc2 sub_rf hDs) h6
    have e8 := f2.1 50 8 rfl
    have RF : T (r_strikes a b M2) (fun s => s.1 = (if b = 0 then Int32.ofNat (T0 c) else k_R (s_w M) T0 nb (T0 c) c 0) ∧ INV L_law s.2) := by
      unfold r_strikes
      rw [set_r (nb := nb) (by rw [e8]; exact hn) h6, bo_p p]
      dsimp only [Option.bind_some]
      rw [if_neg (by decide), r_within_e]
      dsimp only [Option.bind_some]
      rw [bo_p (by rw [a_l, Int64.toInt_zero, Int64.toInt_one]; omega), if_neg (by decide), ea]
      refine T_bind (T_mono (chain_r hi hn hc2 (fv_wI (fv_wI f2 rfl) rfl)) (fun r hr => ?_))
      have f3 := fv_trans (fv_wI (fv_wI f2 (q := 50) (k := 37) (v := -1) rfl) (q := 50) (k := 38) (v := 0) rfl) (fv_fh hr.2)
      rw [hr.1, ← hD]
      refine T_bind (T_mono (str_r hi hn ho hDc hDl hDm 9 c 0 0 r.2 f3 hc2 sub_rf hDs (by omega) (by omega)) (fun N hN => ?_))
      have e37 : r.2.1 50 37 = -1 := by rw [hr.2.2 50 37 rfl]; rfl
      have r1 := hN.2
      rw [e37, Nat.zero_add] at r1
      rcases r1 with ⟨_, r2, r3⟩ | ⟨r2, _⟩
      · by_cases zb : b = 0
        · rw [if_pos zb, if_pos zb]
          exact T_some ⟨r2, fv_inv hi hN.1⟩
        · rw [if_neg zb, if_neg zb]
          exact T_some ⟨r3, fv_inv hi hN.1⟩
      · exact absurd (Or.inl (by decide)) r2
    by_cases zb : b = 0
    · rw [if_pos zb] at RF ⊢
      rw [g_ok (by omega) (by omega), a_k hc, h30 c hc2]
      exact T_some RF
    · rw [if_neg zb] at RF ⊢
      unfold b_Links_firstRow
      rw [show b_Links_firstRow_L7 i_F 0 a 0 M2 = b_Links_firstRow_L7 i_F 0 (Int32.ofNat c) (Int32.ofNat 0) M2 by rw [ea]; rfl, row_b hn h6 ho hDc hDl hDm h132 w2 h30 (T0 c) i_F c 0 0 rfl (by omega) (by unfold i_F; omega) hc2 sub_rf hDs]
      exact T_some RF
  · rw [bo_n p, if_pos rfl]
    exact T_some (REF M fv_refl rfl (fun hx => p hx.1))
end OPS
