/-! ===== part 35: loops that count up; of, image, back ===== -/
section TF
variable {α σ : Type} {P : α → Prop}
/-- a loop that counts from a up to N keeps I -/
theorem T_for {f : Nat → Int32 → σ → Option α} {N a : Nat} (I : Nat → σ → Prop) (hN : N < 2147483647)
    (hs : ∀ (n k : Nat) (i : Int32) (s : σ), i.toInt = k → a ≤ k → k < N → I k s → (∀ s', I (k + 1) s' → T (f n (i + 1) s') P) → T (f (n + 1) i s) P)
    (he : ∀ (n : Nat) (i : Int32) (s : σ), i.toInt = N → I N s → T (f (n + 1) i s) P)
    {n : Nat} {i : Int32} {s : σ} (h1 : N < a + n) (h2 : a ≤ N) (h3 : i.toInt = a) (h4 : I a s) : T (f n i s) P := by
  have hh : ∀ (d n k : Nat) (i : Int32) (s : σ), N = k + d → a ≤ k → d < n → i.toInt = k → I k s → T (f n i s) P := by
    intro d
    induction d with
    | zero =>
      intro n k i s h1 h0 h2 h3 h4
      obtain ⟨m, rfl⟩ : ∃ m, n = m + 1 := ⟨n - 1, by omega⟩
      exact he m i s (by omega) (by rw [h1]; exact h4)
    | succ d ih =>
      intro n k i s h1 h0 h2 h3 h4
      obtain ⟨m, rfl⟩ : ∃ m, n = m + 1 := ⟨n - 1, by omega⟩
      refine hs m k i s h3 h0 (by omega) h4 (fun s' hs' => ?_)
      refine ih m (k + 1) (i + 1) s' (by omega) (by omega) (by omega) ?_ hs'
      rw [a_a1 (by omega), h3]
      rfl
  exact hh (N - a) n a i s (by omega) (Nat.le_refl a) (by omega) h3 h4
end TF
section ME
variable {M : I_M} {q k : Nat} {v : Int32} {w : Int64}
theorem m_ext {M N : I_M} (h : ∀ q k, M.1 q k = N.1 q k) (h2 : M.2 = N.2) : M = N := by
  obtain ⟨a, b⟩ := M
  obtain ⟨c, d⟩ := N
  dsimp only at h h2
  rw [h2, show a = c from funext fun q => funext fun k => h q k]
theorem m_wI0 : i_wI M q k v = (fun q' k' => if q' = q ∧ k' = k then v else M.1 q' k', M.2) := m_ext (fun _ _ => m_wI) rfl
theorem m_wL0 : i_wL M q k w = (M.1, fun q' k' => if q' = q ∧ k' = k then w else M.2 q' k') := by
  refine Prod.ext rfl ?_
  exact funext fun q => funext fun k => m_wL
end ME
theorem a_k {n : Nat} {i : Int32} (h : i.toInt = n) : Int32.toNatClampNeg i = n := by rw [a_n, h]; rfl
theorem a_bit {x : Int32} : (x &&& 1 = 0) ↔ ¬ (x &&& 1 = 1) := by
  have h : (x &&& 1).toBitVec = x.toBitVec &&& 1#32 := rfl
  rw [BitVec.and_one_eq_setWidth_ofBool_getLsbD] at h
  rw [← Int32.toBitVec_inj, ← Int32.toBitVec_inj, h]
  cases x.toBitVec.getLsbD 0 <;> decide
theorem e_found {M : I_M} {b : Int32} : b_Buried_isFound b M = some (i_bo ((((M.1 13 7) >>> (b &&& 31)) &&& (1 : Int32)) = 1), M) := by
  unfold b_Buried_isFound
  by_cases h : (((M.1 13 7) >>> (b &&& 31)) &&& (1 : Int32)) = 1
  · rw [bo_p h, if_neg (fun h2 => (a_bit.mp h2) h)]
  · rw [bo_n h, if_pos (a_bit.mpr h)]
section OPS
variable {L : Int32 → Int32 → Int32 → (Nat → Int32) → (Nat → Int32) → Prop} {a b c d e : Int32}
theorem op_of : OP L (b_of a b) (r_of a b) := by
  intro M h
  have hi := h
  obtain ⟨hLa, hMa, hBe, hFo, hTa, hLw, hHe, hIm, hCh, hVi, hBo, hRa, hSh⟩ := h
  have ⟨hc, hc2, hc3⟩ := N_land_ce hLa
  have e5 : (M.1 13 6).toInt = (M.1 50 8).toInt := congrArg Int32.toInt hBe.1
  have e6 : (M.1 18 3).toInt = (M.1 50 24).toInt := congrArg Int32.toInt hHe.1
  have e7 := hBe.2.2.1
  have e8 := hHe.2.2.1
  have hb := hBe.2.1
  have hs := hHe.2.1
  have e9 : ((M.1 50 24) - (1 : Int32)).toInt = (M.1 50 24).toInt - 1 := a_s1 hs
  have l25 : (25 : Int32).toInt = 25 := rfl
  have l3 : (3 : Int32).toInt = 3 := rfl
  have l20 : (20 : Int32).toInt = 20 := rfl
  have l30 : (30 : Int32).toInt = 30 := rfl
  have l50 : (50 : Int32).toInt = 50 := rfl
  have l56 : (56 : Int32).toInt = 56 := rfl
  have v0 : Unit → (0 ≤ a.toInt → a.toInt < 25 → b.toInt = 0 → ((25 * b) + a).toInt = a.toInt ∧ (M.1 4 (Int32.toNatClampNeg a)).toInt = (M.1 51 (Int32.toNatClampNeg (25 * b + a))).toInt) := by
    intro _ h1 h2 h3
    have m : (25 * b).toInt = 25 * b.toInt := by rw [a_mul] <;> rw [l25] <;> omega
    have k : ((25 * b) + a).toInt = a.toInt := by rw [a_add] <;> omega
    refine ⟨k, congrArg Int32.toInt ?_⟩
    rw [a_n, a_n, k]
    exact (hMa.1 _ (by omega)).1
  have v1 : Unit → (0 ≤ a.toInt → a.toInt < 25 → b.toInt = 1 → ((25 * b) + a).toInt = 25 + a.toInt ∧ (M.1 5 (Int32.toNatClampNeg a)).toInt = (M.1 51 (Int32.toNatClampNeg (25 * b + a))).toInt) := by
    intro _ h1 h2 h3
    have m : (25 * b).toInt = 25 * b.toInt := by rw [a_mul] <;> rw [l25] <;> omega
    have k : ((25 * b) + a).toInt = 25 + a.toInt := by rw [a_add] <;> omega
    refine ⟨k, congrArg Int32.toInt ?_⟩
    rw [a_n, a_n, k, show (25 + a.toInt).toNat = 25 + a.toInt.toNat from by omega]
    exact (hMa.2.1 _ (by omega)).1
  have v2 : Unit → (0 ≤ a.toInt → a.toInt < 6 → (M.1 14 (Int32.toNatClampNeg a)).toInt = (M.1 55 (Int32.toNatClampNeg a)).toInt ∧ (M.1 15 (Int32.toNatClampNeg a)).toInt = (M.1 56 (Int32.toNatClampNeg a)).toInt ∧ (M.1 17 (Int32.toNatClampNeg a)).toInt = (M.1 57 (Int32.toNatClampNeg a)).toInt) := by
    intro _ h1 h2
    have := hBe.2.2.2.1 (Int32.toNatClampNeg a) (by rw [a_n]; omega)
    exact ⟨congrArg Int32.toInt this.1, congrArg Int32.toInt this.2.1, congrArg Int32.toInt this.2.2⟩
  have v3 : Unit → (0 ≤ a.toInt → a.toInt < 6 → (50 + a).toInt = 50 + a.toInt ∧ (M.1 16 (Int32.toNatClampNeg a)).toInt = (M.1 51 (Int32.toNatClampNeg (50 + a))).toInt) := by
    intro _ h1 h2
    have k : (50 + a).toInt = 50 + a.toInt := by rw [a_add] <;> omega
    refine ⟨k, congrArg Int32.toInt ?_⟩
    rw [a_n, a_n, k, show (50 + a.toInt).toNat = 50 + a.toInt.toNat from by omega]
    exact (hMa.2.2.1 _ (by omega)).1
  have v4 : (((M.1 13 7) >>> (a &&& 31)) &&& (1 : Int32)).toInt = (((M.1 50 12) >>> (a &&& 31)) &&& (1 : Int32)).toInt := by rw [hFo.1]
  have v5 : (M.1 13 8).toInt = (M.1 50 13).toInt := congrArg Int32.toInt hFo.2.1
  have v6 : Unit → (20 ≤ b.toInt → b.toInt < 24 → (56 + b - 20).toInt = 36 + b.toInt ∧ Int32.toNatClampNeg (56 + b - 20) = (36 + b.toInt).toNat) := by
    intro _ h1 h2
    have k : (56 + b - 20).toInt = 36 + b.toInt := by rw [a_sub] <;> rw [a_add] <;> omega
    exact ⟨k, by rw [a_n, k]⟩
  have v7 : Unit → (b.toInt = 20 → (M.1 1 6).toInt = (M.1 51 (Int32.toNatClampNeg (56 + b - 20))).toInt) := fun _ h => by rw [(v6 () (by omega) (by omega)).2, h, hMa.2.2.2.1]; rfl
  have v8 : Unit → (b.toInt = 21 → (M.1 1 7).toInt = (M.1 51 (Int32.toNatClampNeg (56 + b - 20))).toInt) := fun _ h => by rw [(v6 () (by omega) (by omega)).2, h, hMa.2.2.2.2.2.2.1]; rfl
  have v9 : Unit → (b.toInt = 22 → (M.1 1 8).toInt = (M.1 51 (Int32.toNatClampNeg (56 + b - 20))).toInt) := fun _ h => by rw [(v6 () (by omega) (by omega)).2, h, hMa.2.2.2.2.2.2.2.2.2.1]; rfl
  have v10 : Unit → (b.toInt = 23 → (M.1 1 9).toInt = (M.1 51 (Int32.toNatClampNeg (56 + b - 20))).toInt) := fun _ h => by rw [(v6 () (by omega) (by omega)).2, h, hMa.2.2.2.2.2.2.2.2.2.2.2.2.1]; rfl
  have v11 : Unit → (0 ≤ a.toInt → a.toInt < (M.1 50 24).toInt → 30 ≤ b.toInt → b.toInt ≤ 32 → (3 * a + b - 30).toInt = 3 * a.toInt + b.toInt - 30 ∧ Int32.toNatClampNeg (3 * a + b - 30) = (3 * a.toInt + b.toInt - 30).toNat) := by
    intro _ h1 h2 h3 h4
    have m : (3 * a).toInt = 3 * a.toInt := by rw [a_mul] <;> rw [l3] <;> omega
    have k : (3 * a + b - 30).toInt = 3 * a.toInt + b.toInt - 30 := by rw [a_sub] <;> rw [a_add] <;> omega
    exact ⟨k, by rw [a_n, k]⟩
  have v12 : Unit → (0 ≤ a.toInt → a.toInt < (M.1 50 24).toInt → (M.1 19 (Int32.toNatClampNeg a)) = M.1 61 (3 * a.toInt.toNat) ∧ (M.1 20 (Int32.toNatClampNeg a)) = M.1 61 (3 * a.toInt.toNat + 1) ∧ (M.1 21 (Int32.toNatClampNeg a)) = M.1 61 (3 * a.toInt.toNat + 2)) := by
    intro _ h1 h2
    have := hHe.2.2.2 (Int32.toNatClampNeg a) (by rw [a_n]; omega)
    rw [a_n] at this ⊢
    exact ⟨this.1, this.2.1, this.2.2.1⟩
  have v13 : Unit → (0 ≤ a.toInt → a.toInt < (M.1 50 24).toInt → b.toInt = 30 → (M.1 19 (Int32.toNatClampNeg a)).toInt = (M.1 61 (Int32.toNatClampNeg (3 * a + b - 30))).toInt) := by
    intro _ h1 h2 h3
    rw [(v11 () h1 h2 (by omega) (by omega)).2, (v12 () h1 h2).1, show (3 * a.toInt + b.toInt - 30).toNat = 3 * a.toInt.toNat from by omega]
  have v14 : Unit → (0 ≤ a.toInt → a.toInt < (M.1 50 24).toInt → b.toInt = 31 → (M.1 20 (Int32.toNatClampNeg a)).toInt = (M.1 61 (Int32.toNatClampNeg (3 * a + b - 30))).toInt) := by
    intro _ h1 h2 h3
    rw [(v11 () h1 h2 (by omega) (by omega)).2, (v12 () h1 h2).2.1, show (3 * a.toInt + b.toInt - 30).toNat = 3 * a.toInt.toNat + 1 from by omega]
  have v15 : Unit → (0 ≤ a.toInt → a.toInt < (M.1 50 24).toInt → b.toInt = 32 → (M.1 21 (Int32.toNatClampNeg a)).toInt = (M.1 61 (Int32.toNatClampNeg (3 * a + b - 30))).toInt) := by
    intro _ h1 h2 h3
    rw [(v11 () h1 h2 (by omega) (by omega)).2, (v12 () h1 h2).2.2, show (3 * a.toInt + b.toInt - 30).toNat = 3 * a.toInt.toNat + 2 from by omega]
  unfold b_of b_of_B17 b_of_B36 b_ofCell b_ofBell b_ofAll b_ofHearing
  simp only [e_has, e_bhas, e_hhas, e_found, Option.bind_some, bo_0, bo_1]
  simp only [a_eq, a_lt, Int32.reduceToInt]
  all_goals repeat' (first | with_reducible refine T_some ?_ | with_reducible refine T_bind ?_ | with_reducible refine T_if (fun _ => ?_) (fun _ => ?_) | with_reducible refine T_g (by omega) (by omega) ?_)
  all_goals try dsimp only
  all_goals first | (exfalso; omega) | skip
  all_goals unfold r_of r_ofBell
  all_goals simp only [e_isCell hc, e_isBell hb, r_within_e, e_isIn, Option.bind_some, bo_0, bo_1]
  all_goals simp only [a_eq, a_lt, a_l, Int32.reduceToInt, Int64.reduceToInt]
  all_goals repeat' (first | with_reducible refine T_some ?_ | with_reducible refine T_bind ?_ | with_reducible refine T_if (fun _ => ?_) (fun _ => ?_))
  all_goals first
    | (exfalso; omega)
    | exact ⟨rfl, hi⟩
    | exact ⟨trivial, hi⟩
    | exact ⟨by dsimp only; omega, hi⟩
    | (have w := v0 () (by omega) (by omega) (by omega); refine T_g (by omega) (by omega) ?_; (repeat refine T_some ?_); refine ⟨?_, hi⟩; dsimp only; omega)
    | (have w := v1 () (by omega) (by omega) (by omega); refine T_g (by omega) (by omega) ?_; (repeat refine T_some ?_); refine ⟨?_, hi⟩; dsimp only; omega)
    | (have w := v2 () (by omega) (by omega); refine T_g (by omega) (by omega) ?_; (repeat refine T_some ?_); refine ⟨?_, hi⟩; dsimp only; omega)
    | (have w := v3 () (by omega) (by omega); refine T_g (by omega) (by omega) ?_; (repeat refine T_some ?_); refine ⟨?_, hi⟩; dsimp only; omega)
    | (have w := v7 () (by omega); have x := v6 () (by omega) (by omega); refine T_g (by omega) (by omega) ?_; (repeat refine T_some ?_); refine ⟨?_, hi⟩; dsimp only; omega)
    | (have w := v8 () (by omega); have x := v6 () (by omega) (by omega); refine T_g (by omega) (by omega) ?_; (repeat refine T_some ?_); refine ⟨?_, hi⟩; dsimp only; omega)
    | (have w := v9 () (by omega); have x := v6 () (by omega) (by omega); refine T_g (by omega) (by omega) ?_; (repeat refine T_some ?_); refine ⟨?_, hi⟩; dsimp only; omega)
    | (have w := v10 () (by omega); have x := v6 () (by omega) (by omega); refine T_g (by omega) (by omega) ?_; (repeat refine T_some ?_); refine ⟨?_, hi⟩; dsimp only; omega)
    | (have w := v13 () (by omega) (by omega) (by omega); have x := v11 () (by omega) (by omega) (by omega) (by omega); refine T_g (by omega) (by omega) ?_; (repeat refine T_some ?_); refine ⟨?_, hi⟩; dsimp only; omega)
    | (have w := v14 () (by omega) (by omega) (by omega); have x := v11 () (by omega) (by omega) (by omega) (by omega); refine T_g (by omega) (by omega) ?_; (repeat refine T_some ?_); refine ⟨?_, hi⟩; dsimp only; omega)
    | (have w := v15 () (by omega) (by omega) (by omega); have x := v11 () (by omega) (by omega) (by omega) (by omega); refine T_g (by omega) (by omega) ?_; (repeat refine T_some ?_); refine ⟨?_, hi⟩; dsimp only; omega)
    | trace_state
end OPS
