/-! ===== part 86: chance, sure, liars ===== -/
section EU
variable {M : I_M}
theorem eu_d {x y : Nat} (hx : x < 2147483648) (hy : y < 2147483648) (h0 : y ≠ 0) : i_rem (Int32.ofNat x) (Int32.ofNat y) = Int32.ofNat (x % y) := by
  have ex : (Int32.ofNat x).toInt = x := a_on hx
  have ey : (Int32.ofNat y).toInt = y := a_on hy
  refine of_k ?_
  rw [a_rem (by omega) (by omega), ex, ey]
  rfl
theorem eu_0 {y : Nat} (hy : y < 2147483648) : (Int32.ofNat y = 0) ↔ y = 0 := by
  rw [a_eq, a_on hy, Int32.toInt_zero]
  omega
theorem eu_h {y r : Nat} (h0 : r ≠ 0) (h : r < y) : 2 * (y % r) < y := by
  have h1 := Nat.mod_lt y (Nat.pos_of_ne_zero h0)
  have h2 := Nat.div_add_mod y r
  have h3 : 1 ≤ y / r := Nat.div_pos (Nat.le_of_lt h) (Nat.pos_of_ne_zero h0)
  have h4 : r * 1 ≤ r * (y / r) := Nat.mul_le_mul_left r h3
  omega
theorem gcd_st {x y : Nat} : Nat.gcd y (x % y) = Nat.gcd x y := by
  rw [Nat.gcd_comm x y, Nat.gcd_rec y x, Nat.gcd_comm]
theorem eu_b : ∀ (k x y t F : Nat), x < 2147483648 → y < 2147483648 → y < 2 ^ k → t + 2 * k ≤ 64 → 2 * k + 1 < F → b_commonDivisor_L7 F (Int32.ofNat x) (Int32.ofNat y) (Int32.ofNat t) M = some (Int32.ofNat (Nat.gcd x y), M) := by
  intro k
  have l64 : (64 : Int32).toInt = 64 := rfl
  have ZERO : ∀ (x t F : Nat), 0 < F → b_commonDivisor_L7 F (Int32.ofNat x) (Int32.ofNat 0) (Int32.ofNat t) M = some (Int32.ofNat (Nat.gcd x 0), M) := by
    intro x t F hF
    obtain ⟨F, rfl⟩ : ∃ k, F = k + 1 := ⟨F - 1, by omega⟩
    unfold b_commonDivisor_L7
    rw [if_pos (show Int32.ofNat 0 = 0 from rfl), Nat.gcd_zero_right]
    split <;> rfl
  induction k with
  | zero =>
    intro x y t F h1 h2 h3 h4 h5
    have : y = 0 := by omega
    subst this
    exact ZERO x t F (by omega)
  | succ k ih =>
    intro x y t F h1 h2 h3 h4 h5
    by_cases q : y = 0
    · subst q
      exact ZERO x t F (by omega)
    · obtain ⟨F, rfl⟩ : ∃ k, F = k + 1 + 1 := ⟨F - 2, by omega⟩
      have et : (Int32.ofNat t).toInt = t := a_on (by omega)
      have hm := Nat.mod_lt x (Nat.pos_of_ne_zero q)
      unfold b_commonDivisor_L7
      rw [if_pos (by rw [a_lt]; omega), if_neg (fun e => q ((eu_0 h2).mp e)), nz_ok (fun e => q ((eu_0 h2).mp e)), eu_d h1 h2 q, ofn_1, ← gcd_st]
      by_cases q2 : x % y = 0
      · rw [q2]
        exact ZERO y (t + 1) (F + 1) (by omega)
      · have et1 : (Int32.ofNat (t + 1)).toInt = ((t + 1 : Nat) : Int) := a_on (by omega)
        unfold b_commonDivisor_L7
        have h2' : x % y < 2147483648 := by omega
        rw [if_pos (by rw [a_lt]; omega), if_neg (fun e => q2 ((eu_0 h2').mp e)), nz_ok (fun e => q2 ((eu_0 h2').mp e)), eu_d h2 h2' q2, ofn_1, ← gcd_st]
        have h6 := eu_h q2 hm
        have h7 : 2 ^ (k + 1) = 2 ^ k * 2 := by rw [Nat.pow_succ]
        exact ih (x % y) (y % (x % y)) (t + 1 + 1) F (by omega) (by omega) (by omega) (by omega) (by omega)
theorem eu_r : ∀ (k x y F : Nat), x < 2147483648 → y < 2147483648 → y < 2 ^ k → 2 * k + 1 < F → r_common_L4 F (Int32.ofNat x) (Int32.ofNat y) M = some (Int32.ofNat (Nat.gcd x y), M) := by
  intro k
  have ZERO : ∀ (x F : Nat), 0 < F → r_common_L4 F (Int32.ofNat x) (Int32.ofNat 0) M = some (Int32.ofNat (Nat.gcd x 0), M) := by
    intro x F hF
    obtain ⟨F, rfl⟩ : ∃ k, F = k + 1 := ⟨F - 1, by omega⟩
    unfold r_common_L4
    rw [if_pos (show Int32.ofNat 0 = 0 from rfl), Nat.gcd_zero_right]
  induction k with
  | zero =>
    intro x y F h1 h2 h3 h5
    have : y = 0 := by omega
    subst this
    exact ZERO x F (by omega)
  | succ k ih =>
    intro x y F h1 h2 h3 h5
    by_cases q : y = 0
    · subst q
      exact ZERO x F (by omega)
    · obtain ⟨F, rfl⟩ : ∃ k, F = k + 1 + 1 := ⟨F - 2, by omega⟩
      have hm := Nat.mod_lt x (Nat.pos_of_ne_zero q)
      unfold r_common_L4
      rw [if_neg (fun e => q ((eu_0 h2).mp e)), nz_ok (fun e => q ((eu_0 h2).mp e)), eu_d h1 h2 q, ← gcd_st]
      by_cases q2 : x % y = 0
      · rw [q2]
        exact ZERO y (F + 1) (by omega)
      · unfold r_common_L4
        have h2' : x % y < 2147483648 := by omega
        rw [if_neg (fun e => q2 ((eu_0 h2').mp e)), nz_ok (fun e => q2 ((eu_0 h2').mp e)), eu_d h2 h2' q2, ← gcd_st]
        have h6 := eu_h q2 hm
        have h7 : 2 ^ (k + 1) = 2 ^ k * 2 := by rw [Nat.pow_succ]
        exact ih (x % y) (y % (x % y)) F (by omega) (by omega) (by omega) (by omega)
end EU
section OPS
variable {a b c : Int32}
theorem op_chance : OP L_law (b_chance a b c) (r_chance a b c) := by
  refine OP_a (fun M hi => ?_)
  obtain ⟨nc, nh, hc, h25, hh, hc1, h10⟩ := v_get hi
  have hcs := N_land_ce hi.1
  have l0 := Int32.toInt_zero
  have l1 : (1 : Int32).toInt = 1 := rfl
  unfold b_chance
  rw [size_b]
  dsimp only [Option.bind_some]
  have REF : ∀ M', fv M M' → ¬ ((a.toInt = 1 ∨ a.toInt = 2) ∧ (0 ≤ b.toInt ∧ b.toInt < (nc : Int)) ∧ 0 ≤ c.toInt ∧ c.toInt ≤ 1) → T (r_chance a b c M') (fun s => s.1 = -1 ∧ fv M s.2) := by
    intro M' hf hx
    have w6 := hf.1 50 6 rfl
    have w7 := hf.1 50 7 rfl
    unfold r_chance
    rw [size_r]
    dsimp only [Option.bind_some]
    by_cases p : a.toInt = 1 ∨ a.toInt = 2
    · rw [bo_p p, if_neg (by decide), e_isCell (by rw [w6, w7]; omega)]
      dsimp only [Option.bind_some]
      rw [w6, w7, hc]
      by_cases p2 : 0 ≤ b.toInt ∧ b.toInt < (nc : Int)
      · rw [bo_p p2, if_neg (by decide), r_within_e]
        dsimp only [Option.bind_some]
        rw [bo_n (by rw [a_l, Int64.toInt_zero, Int64.toInt_one]; exact fun hy => hx ⟨p, p2, hy⟩), if_pos rfl]
        exact T_some ⟨rfl, hf⟩
      · rw [bo_n p2, if_pos rfl]
        exact T_some ⟨rfl, hf⟩
    · rw [bo_n p, if_pos rfl]
      exact T_some ⟨rfl, hf⟩
  by_cases p : a.toInt = 1 ∨ a.toInt = 2
  · rw [bo_p p, if_neg (by decide), e_has, hcs.2.2, hc]
    dsimp only [Option.bind_some]
    by_cases p2 : 0 ≤ b.toInt ∧ b.toInt < (nc : Int)
    · rw [bo_p p2, if_neg (by decide)]
      by_cases p3 : c.toInt < 0
      · rw [if_pos (by rw [a_lt]; omega)]
        exact ⟨-1, T_some ⟨rfl, fv_refl⟩, fun M' hf => REF M' hf (by omega)⟩
      rw [if_neg (by rw [a_lt]; omega)]
      by_cases p4 : 1 < c.toInt
      · rw [if_pos (by rw [a_lt]; omega)]
        exact ⟨-1, T_some ⟨rfl, fv_refl⟩, fun M' hf => REF M' hf (by omega)⟩
      rw [if_neg (by rw [a_lt]; omega)]
      obtain ⟨n, hn, en⟩ : ∃ n : Nat, (n = 1 ∨ n = 2) ∧ a.toInt = n := ⟨a.toInt.toNat, by omega, by omega⟩
      obtain ⟨k, hk⟩ : ∃ k : Nat, b.toInt = k := ⟨b.toInt.toNat, by omega⟩
      obtain ⟨W, hW⟩ : ∃ W, W = v_W M n (10 * nc) (-1) := ⟨_, rfl⟩
      have hl : W.length < 1000000 := by rw [hW]; exact W_len hn h25
      have hct := ct_le (W := W) (c := k)
      have h220 : W.length < 2 ^ 20 := by have : (2 : Nat) ^ 20 = 1048576 := by decide
                                          omega
      have B : T (b_Search_goThrough a (-1) M) (fun N => fv M N ∧ v_C W N) := by rw [hW]; exact go_b hi hc h25 hh hn en fv_refl
      refine ⟨if v_ct W k = 0 then c else if c = 0 then Int32.ofNat (v_ct W k) / Int32.ofNat (Nat.gcd (v_ct W k) W.length) else Int32.ofNat W.length / Int32.ofNat (Nat.gcd (v_ct W k) W.length), ?_, fun M' hf => ?_⟩
      · refine T_bind (T_mono B (fun N hN => ?_))
        unfold b_commonDivisor
        rw [g_ok (by omega) (by omega), a_k hk, hN.2.2.2 k (by omega), hN.2.1, show b_commonDivisor_L7 i_F (Int32.ofNat (v_ct W k)) (Int32.ofNat W.length) 0 N = some (Int32.ofNat (Nat.gcd (v_ct W k) W.length), N) from eu_b 20 _ _ 0 i_F (by omega) (by omega) h220 (by omega) (by unfold i_F; omega)]
        dsimp only [Option.bind_some]
        by_cases q : v_ct W k = 0
        · rw [if_pos (by rw [q]; rfl), if_pos q]
          exact T_some ⟨rfl, hN.1⟩
        · have hg : Nat.gcd (v_ct W k) W.length ≠ 0 := fun e => q (Nat.eq_zero_of_gcd_eq_zero_left e)
          have hgl : Nat.gcd (v_ct W k) W.length ≤ v_ct W k := Nat.gcd_le_left _ (Nat.pos_of_ne_zero q)
          have hg2 : ¬ Int32.ofNat (Nat.gcd (v_ct W k) W.length) = 0 := fun e => hg ((ofn_0 (by omega)).mp e)
          rw [if_neg (fun e => q ((ofn_0 (by omega)).mp e)), if_neg hg2, if_neg q]
          by_cases z : c = 0
          · rw [if_pos z, if_pos z, nz_ok hg2]
            exact T_some ⟨rfl, hN.1⟩
          · rw [if_neg z, if_neg z, nz_ok hg2, hN.2.1]
            exact T_some ⟨rfl, hN.1⟩
      · have w6 := hf.1 50 6 rfl
        have w7 := hf.1 50 7 rfl
        unfold r_chance
        rw [size_r]
        dsimp only [Option.bind_some]
        rw [bo_p p, if_neg (by decide), e_isCell (by rw [w6, w7]; omega)]
        dsimp only [Option.bind_some]
        rw [w6, w7, hc, bo_p p2, if_neg (by decide), r_within_e]
        dsimp only [Option.bind_some]
        rw [bo_p (by rw [a_l, Int64.toInt_zero, Int64.toInt_one]; omega), if_neg (by decide)]
        refine T_bind (T_mono (go_r (sk := -1) hi hc h25 hh hn en (Or.inl ⟨rfl, rfl⟩) hf) (fun N hN => ?_))
        have hR : v_R n W N := by rw [hW]; exact hN.2.1
        rw [g_ok (by omega) (by omega), a_k hk, hR.2.2.1 k (by omega)]
        by_cases q : v_ct W k = 0
        · rw [if_pos (by rw [q]; rfl), if_pos q]
          exact T_some ⟨rfl, hN.1⟩
        · have hg : Nat.gcd (v_ct W k) W.length ≠ 0 := fun e => q (Nat.eq_zero_of_gcd_eq_zero_left e)
          have hgl : Nat.gcd (v_ct W k) W.length ≤ v_ct W k := Nat.gcd_le_left _ (Nat.pos_of_ne_zero q)
          have hg2 : ¬ Int32.ofNat (Nat.gcd (v_ct W k) W.length) = 0 := fun e => hg ((ofn_0 (by omega)).mp e)
          unfold r_common
          rw [if_neg (fun e => q ((ofn_0 (by omega)).mp e)), if_neg q, hR.1, eu_r 20 _ _ i_F (by omega) (by omega) h220 (by unfold i_F; omega)]
          dsimp only [Option.bind_some]
          by_cases z : c = 0
          · rw [if_pos z, if_pos z, nz_ok hg2, hR.2.2.1 k (by omega)]
            exact T_some ⟨rfl, hN.1⟩
          · rw [if_neg z, if_neg z, nz_ok hg2, hR.1]
            exact T_some ⟨rfl, hN.1⟩
    · rw [bo_n p2, if_pos rfl]
      exact ⟨-1, T_some ⟨rfl, fv_refl⟩, fun M' hf => REF M' hf (by omega)⟩
  · rw [bo_n p, if_pos rfl]
    exact ⟨-1, T_some ⟨rfl, fv_refl⟩, fun M' hf => REF M' hf (by omega)⟩
theorem cells_in {M N : I_M} {W : List (Nat × Nat)} {nc t : Nat} (h : INV L_law M) (hc : i_ce (M.1 50 6) (M.1 50 7) = nc) (h25 : nc ≤ 25) (hf : fv M N) (hw : v_C W N) (hl : W.length < 1000000) (ht : t < 1000000) : T (b_Search_cellsIn (Int32.ofNat t) N) (fun r => r.2 = N ∧ ∀ i, i < 32 → (i_b r.1 i = true ↔ i < nc ∧ v_ct W i = t)) := by
  have encc : (Int32.ofNat nc).toInt = nc := a_on (by omega)
  have et : (Int32.ofNat t).toInt = t := a_on (by omega)
  unfold b_Search_cellsIn
  refine T_for (σ := Int32 × I_M) (N := nc) (a := 0) (f := fun m i s => b_Search_cellsIn_L4 (Int32.ofNat t) m s.1 i s.2) (s := ((0 : Int32), N)) (fun k s => s.2 = N ∧ ∀ i, i < 32 → (i_b s.1 i = true ↔ i < k ∧ v_ct W i = t)) (by omega) ?_ ?_ (by unfold i_F; omega) (by omega) rfl ⟨rfl, fun i hi => ⟨fun hx => (by dsimp only at hx; rw [b_0] at hx; cases hx), fun hx => (by omega)⟩⟩
  · intro m k i s g1 g2 g3 g4 g5
    obtain ⟨u, N'⟩ := s
    obtain ⟨e1, e2⟩ := g4
    dsimp only at e1 e2 ⊢
    subst e1
    have c1 := ct_le (W := W) (c := k)
    have ec : (Int32.ofNat (v_ct W k)).toInt = ((v_ct W k : Nat) : Int) := a_on (by omega)
    unfold b_Search_cellsIn_L4
    rw [cells_b h hc hf]
    dsimp only [Option.bind_some]
    rw [if_pos (by rw [a_lt]; omega), g_ok (by omega) (by omega), a_k g1, hw.2.2 k (by omega)]
    by_cases q : v_ct W k = t
    · rw [if_pos (by rw [q])]
      refine g5 (_, N') ⟨rfl, fun j hj => ?_⟩
      dsimp only
      rw [b_or, Bool.or_eq_true, e2 j hj, of_k g1, b_sh k (by omega) j hj, decide_eq_true_eq]
      refine ⟨fun hx => ?_, fun hx => ?_⟩
      · rcases hx with hx | hx
        · exact ⟨by omega, hx.2⟩
        · exact ⟨by omega, by rw [hx]; exact q⟩
      · by_cases z : j = k
        · exact Or.inr z
        · exact Or.inl ⟨by omega, hx.2⟩
    · rw [if_neg (fun e => q (by rw [a_eq] at e; omega))]
      refine g5 (u, N') ⟨rfl, fun j hj => ?_⟩
      dsimp only
      rw [e2 j hj]
      refine ⟨fun hx => ⟨by omega, hx.2⟩, fun hx => ⟨?_, hx.2⟩⟩
      have : j ≠ k := fun e => q (by rw [← e]; exact hx.2)
      omega
  · intro m i s g1 g2
    obtain ⟨u, N'⟩ := s
    obtain ⟨e1, e2⟩ := g2
    dsimp only at e1 e2 ⊢
    subst e1
    unfold b_Search_cellsIn_L4
    rw [cells_b h hc hf]
    dsimp only [Option.bind_some]
    rw [if_neg (by rw [a_lt]; omega)]
    exact T_some ⟨rfl, e2⟩
theorem op_sure : OP L_law (b_sure a b) (r_sure a b) := by
  refine OP_p (fun M hi => ?_)
  obtain ⟨nc, nh, hc, h25, hh, hc1, h10⟩ := v_get hi
  have l0 := Int32.toInt_zero
  have l1 : (1 : Int32).toInt = 1 := rfl
  have EX : ∀ (v : Int32) {x : Option (Int32 × I_M)} {g : I_M → Option (Int32 × I_M)}, T x (fun r => r.1 = v ∧ fv M r.2) → (∀ M', fv M M' → T (g M') (fun s => s.1 = v ∧ fv M s.2)) → ∃ P : Int32 → Prop, (∀ x y, P x → P y → y = x) ∧ T x (fun r => P r.1 ∧ fv M r.2) ∧ ∀ M', fv M M' → T (g M') (fun s => P s.1 ∧ fv M s.2) := fun v x g h1 h2 => ⟨fun x => x = v, fun x y hx hy => by rw [hx, hy], h1, h2⟩
  unfold b_sure
  rw [size_b]
  dsimp only [Option.bind_some]
  have REF : ∀ M', fv M M' → ¬ ((a.toInt = 1 ∨ a.toInt = 2) ∧ 0 ≤ b.toInt ∧ b.toInt ≤ 1) → T (r_sure a b M') (fun s => s.1 = -1 ∧ fv M s.2) := by
    intro M' hf hx
    unfold r_sure
    rw [size_r]
    dsimp only [Option.bind_some]
    by_cases p : a.toInt = 1 ∨ a.toInt = 2
    · rw [bo_p p, if_neg (by decide), r_within_e]
      dsimp only [Option.bind_some]
      rw [bo_n (by rw [a_l, Int64.toInt_zero, Int64.toInt_one]; exact fun hy => hx ⟨p, hy⟩), if_pos rfl]
      exact T_some ⟨rfl, hf⟩
    · rw [bo_n p, if_pos rfl]
      exact T_some ⟨rfl, hf⟩
  by_cases p : a.toInt = 1 ∨ a.toInt = 2
  · rw [bo_p p, if_neg (by decide)]
    by_cases p3 : b.toInt < 0
    · rw [if_pos (by rw [a_lt]; omega)]
      exact EX (-1) (T_some ⟨rfl, fv_refl⟩) (fun M' hf => REF M' hf (by omega))
    rw [if_neg (by rw [a_lt]; omega)]
    by_cases p4 : 1 < b.toInt
    · rw [if_pos (by rw [a_lt]; omega)]
      exact EX (-1) (T_some ⟨rfl, fv_refl⟩) (fun M' hf => REF M' hf (by omega))
    rw [if_neg (by rw [a_lt]; omega)]
    obtain ⟨n, hn, en⟩ : ∃ n : Nat, (n = 1 ∨ n = 2) ∧ a.toInt = n := ⟨a.toInt.toNat, by omega, by omega⟩
    obtain ⟨W, hW⟩ : ∃ W, W = v_W M n (10 * nc) (-1) := ⟨_, rfl⟩
    have hl : W.length < 1000000 := by rw [hW]; exact W_len hn h25
    have hpl : ∀ i, 0 < v_ct W i → i < nc := by
      intro i hi2
      unfold v_ct at hi2
      rw [List.countP_pos_iff] at hi2
      obtain ⟨w, hw, hx⟩ := hi2
      have pl := W_pl (M := M) (nc := nc) (sk := -1) hn w (by rw [← hW]; exact hw)
      rw [Bool.or_eq_true, beq_iff_eq, beq_iff_eq] at hx
      obtain ⟨h1, h2, _⟩ := pl
      omega
    have B : T (b_Search_goThrough a (-1) M) (fun N => fv M N ∧ v_C W N) := by rw [hW]; exact go_b hi hc h25 hh hn en fv_refl
    have RR : ∀ {P : Int32 × I_M → Prop} {M'}, fv M M' → (∀ N, fv M N → v_R n W N → T (if N.1 50 27 = 0 then some ((0 : Int32), N) else if b = 0 then some (N.1 50 30, N) else Option.bind (r_cells N) (fun q8 => some (((((1 : Int32) <<< (q8.1 &&& 31)) - (1 : Int32)) &&& ((q8.2.1 50 31) ^^^ (-1 : Int32))), q8.2))) P) → T (r_sure a b M') P := by
      intro P M' hf hk
      unfold r_sure
      rw [size_r]
      dsimp only [Option.bind_some]
      rw [bo_p p, if_neg (by decide), r_within_e]
      dsimp only [Option.bind_some]
      rw [bo_p (by rw [a_l, Int64.toInt_zero, Int64.toInt_one]; omega), if_neg (by decide)]
      refine T_bind (T_mono (go_r (sk := -1) hi hc h25 hh hn en (Or.inl ⟨rfl, rfl⟩) hf) (fun N hN => ?_))
      exact hk N hN.1 (by rw [hW]; exact hN.2.1)
    by_cases q : W = []
    · refine EX 0 ?_ (fun M' hf => ?_)
      · refine T_bind (T_mono B (fun N hN => ?_))
        rw [hN.2.1, if_pos ((ofn_0 hl).mpr (len_0.mpr q))]
        exact T_some ⟨rfl, hN.1⟩
      · refine RR hf (fun N hN hR => ?_)
        rw [hR.1, if_pos ((ofn_0 hl).mpr (len_0.mpr q))]
        exact T_some ⟨rfl, hN⟩
    · have q0 : W.length ≠ 0 := fun e => q (len_0.mp e)
      have q1 : ¬ Int32.ofNat W.length = 0 := fun e => q0 ((ofn_0 hl).mp e)
      by_cases z : b = 0
      · refine ⟨fun x => ∀ i, i < 32 → (i_b x i = true ↔ v_ct W i = W.length), fun x y hx hy => b_ext2 (fun i hi => (hy i hi).trans (hx i hi).symm), ?_, fun M' hf => ?_⟩
        · refine T_bind (T_mono B (fun N hN => ?_))
          rw [hN.2.1, if_neg q1, if_pos z]
          refine T_bind (T_mono (cells_in hi hc h25 hN.1 hN.2 hl hl) (fun r hr => T_some ⟨fun i hi2 => ?_, by rw [hr.1]; exact hN.1⟩))
          dsimp only
          rw [hr.2 i hi2]
          exact ⟨fun hx => hx.2, fun hx => ⟨hpl i (by omega), hx⟩⟩
        · refine RR hf (fun N hN hR => ?_)
          rw [hR.1, if_neg q1, if_pos z]
          exact T_some ⟨hR.2.2.2.2 q, hN⟩
      · refine ⟨fun x => ∀ i, i < 32 → (i_b x i = true ↔ i < nc ∧ v_ct W i = 0), fun x y hx hy => b_ext2 (fun i hi => (hy i hi).trans (hx i hi).symm), ?_, fun M' hf => ?_⟩
        · refine T_bind (T_mono B (fun N hN => ?_))
          rw [hN.2.1, if_neg q1, if_neg z]
          refine T_bind (T_mono (cells_in (t := 0) hi hc h25 hN.1 hN.2 hl (by omega)) (fun r hr => T_some ⟨fun i hi2 => ?_, by rw [hr.1]; exact hN.1⟩))
          exact hr.2 i hi2
        · refine RR hf (fun N hN hR => ?_)
          rw [hR.1, if_neg q1, if_neg z, cells_r hc hN]
          refine T_some ⟨fun i hi2 => ?_, hN⟩
          dsimp only
          rw [b_and, b_not hi2, b_lw nc (by omega) i hi2, Bool.and_eq_true, decide_eq_true_eq]
          have h4 := hR.2.2.2.1 i hi2
          cases e : i_b (N.1 50 31) i with
          | true =>
            have := h4.mp e
            exact ⟨fun hx => (by cases hx.2), fun hx => by omega⟩
          | false =>
            have : ¬ 0 < v_ct W i := fun hx => by rw [h4.mpr hx] at e; cases e
            exact ⟨fun hx => ⟨hx.1, by omega⟩, fun hx => ⟨hx.1, rfl⟩⟩
  · rw [bo_n p, if_pos rfl]
    exact EX (-1) (T_some ⟨rfl, fv_refl⟩) (fun M' hf => REF M' hf (by omega))
theorem all_10 : ∀ n, n < 11 → ((1 : Int32) <<< (Int32.ofNat n &&& 31)) - (1 : Int32) = Int32.ofNat (2 ^ n - 1) := by decide +kernel
theorem pre_nil {n nc : Nat} (hn : n = 1 ∨ n = 2) (h1 : 1 ≤ nc) (h25 : nc ≤ 25) : v_pre n (10 * nc) (10 * nc) = [] ↔ nc < n := by
  refine ⟨fun h => ?_, fun h => ?_⟩
  · refine Classical.byContradiction (fun hx => ?_)
    have : (0, v_lo n 0) ∈ v_pre n (10 * nc) (10 * nc) := by
      unfold v_pre
      rw [List.mem_flatMap]
      refine ⟨0, by rw [List.mem_range]; omega, ?_⟩
      unfold v_seg
      rw [List.mem_map]
      refine ⟨v_lo n 0, ?_, rfl⟩
      rw [List.mem_range'_1]
      unfold v_lo v_hi
      rcases hn with rfl | rfl
      · rw [if_pos rfl, if_pos rfl]
        omega
      · rw [if_neg (by decide), if_neg (by decide)]
        omega
    rw [h] at this
    cases this
  · refine List.eq_nil_iff_forall_not_mem.mpr (fun w hw => ?_)
    obtain ⟨p1, p2, p3⟩ := pl_mem hn (Nat.le_refl _) w hw
    omega
theorem few_b {M N : I_M} {n nc nh : Nat} {l1 : Int32} (h : INV L_law M) (hc : i_ce (M.1 50 6) (M.1 50 7) = nc) (h25 : nc ≤ 25) (hh : (M.1 50 24).toInt = nh) (hn : n = 1 ∨ n = 2) (e1 : l1.toInt = n) (hf : fv M N) (ht : ∀ x p, x < nh → p < 10 * nc → N.1 23 (250 * x + p) = v_ld M x p) : b_Search_fewestFalse_L18 l1 i_F (Int32.ofNat (v_bs M [])) 0 N = some (Int32.ofNat (v_bs M (v_pre n (10 * nc) (10 * nc))), N) := by
  have eP : (Int32.ofNat (10 * nc)).toInt = ((10 * nc : Nat) : Int) := a_on (by omega)
  have h10 : nh ≤ 10 := by have := h.2.2.2.2.2.2.1.2.2.1; omega
  have h10' : (M.1 50 24).toInt.toNat ≤ 10 := by omega
  have l0 := Int32.toInt_zero
  refine T_eq (T_for (σ := Int32 × I_M) (N := 10 * nc) (a := 0) (f := fun m i s => b_Search_fewestFalse_L18 l1 m s.1 i s.2) (s := (Int32.ofNat (v_bs M []), N)) (fun k s => s = (Int32.ofNat (v_bs M (v_pre n (10 * nc) k)), N)) (by omega) ?_ ?_ (by unfold i_F; omega) (by omega) rfl rfl)
  · intro m p i s g1 g2 g3 g4 g5
    subst g4
    dsimp only
    obtain ⟨⟨x, x1, x2⟩, y, y1, y2⟩ := sec_b h hc h25 hn e1 g1 g3 hf
    obtain ⟨z1, z2, z3, z4⟩ := lo_hi hn h25 g3
    unfold b_Search_fewestFalse_L18
    rw [places_b h hc h25 hf]
    dsimp only [Option.bind_some]
    rw [if_pos (by rw [a_lt]; omega)]
    refine T_bind (T_ok x1 (T_bind (T_ok y1 ?_)))
    refine T_for (σ := Int32 × I_M) (N := v_hi n (10 * nc) p) (a := v_lo n p) (f := fun m j s => b_Search_fewestFalse_L42 l1 i x _ m s.1 j s.2) (s := (Int32.ofNat (v_bs M (v_pre n (10 * nc) p)), N)) (fun k s => s = (Int32.ofNat (v_bs M (v_pre n (10 * nc) p ++ v_seg p (v_lo n p) k)), N)) (by omega) ?_ ?_ (by unfold i_F; omega) z1 y2 (by rw [seg_0, List.append_nil])
    · intro m' o j s g1' g2' g3' g4' g5'
      subst g4'
      dsimp only
      have pl := z3 o g2' g3'
      rw [seg_s g2', ← List.append_assoc, bs_s] at g5'
      have hbs := bs_lt (M := M) (l := v_pre n (10 * nc) p ++ v_seg p (v_lo n p) o) h10'
      have hli := li_lt (M := M) (p := p) (o := o) h10'
      generalize v_bs M (v_pre n (10 * nc) p ++ v_seg p (v_lo n p) o) = best at *
      unfold b_Search_fewestFalse_L42
      rw [if_pos (by rw [a_lt]; omega), false_b h hh hf ht h25 pl.1 pl.2.1 g1 g1']
      dsimp only at g5'
      generalize v_li M p o = y at *
      have ebs : (Int32.ofNat best).toInt = (best : Int) := a_on (by omega)
      have eli : (Int32.ofNat y).toInt = (y : Int) := a_on (by omega)
      have r1 := bc_r (M := N) (x := Int32.ofNat y) (by omega) (by omega)
      have r2 := bc_r (M := N) (x := Int32.ofNat best) (by omega) (by omega)
      have ed : (i_bc (Int32.ofNat best) - i_bc (Int32.ofNat y)).toInt = (i_bc (Int32.ofNat best)).toInt - (i_bc (Int32.ofNat y)).toInt := by rw [a_sub] <;> omega
      refine T_bind (T_some ?_)
      refine T_bind (T_ok bc_j (T_bind (T_ok bc_j ?_)))
      dsimp only
      by_cases q1 : i_bc (Int32.ofNat y) < i_bc (Int32.ofNat best)
      · rw [if_pos (by rw [a_lt] at q1 ⊢; omega)]
        refine g5' (Int32.ofNat y, N) ?_
        unfold v_bt
        rw [if_pos (Or.inl q1)]
      · rw [if_neg (by rw [a_lt] at q1 ⊢; omega)]
        by_cases q2 : i_bc (Int32.ofNat y) = i_bc (Int32.ofNat best)
        · rw [if_pos (by rw [a_eq] at q2 ⊢; omega)]
          by_cases q3 : y < best
          · rw [if_pos (by rw [a_lt]; omega)]
            refine g5' (Int32.ofNat y, N) ?_
            unfold v_bt
            rw [if_pos (Or.inr ⟨q2, q3⟩)]
          · rw [if_neg (by rw [a_lt]; omega)]
            refine g5' (Int32.ofNat best, N) ?_
            unfold v_bt
            rw [if_neg (fun hx => by rcases hx with hx | hx; · exact q1 hx
                                     · exact q3 hx.2)]
        · rw [if_neg (by rw [a_eq] at q2 ⊢; omega)]
          refine g5' (Int32.ofNat best, N) ?_
          unfold v_bt
          rw [if_neg (fun hx => by rcases hx with hx | hx; · exact q1 hx
                                   · exact q2 hx.1)]
    · intro m' j s g1' g2'
      subst g2'
      dsimp only
      unfold b_Search_fewestFalse_L42
      rw [if_neg (by rw [a_lt]; omega)]
      refine g5 (Int32.ofNat (v_bs M (v_pre n (10 * nc) p ++ v_seg p (v_lo n p) (v_hi n (10 * nc) p))), N) ?_
      rw [pre_s]
  · intro m i s g1 g2
    subst g2
    dsimp only
    unfold b_Search_fewestFalse_L18
    rw [places_b h hc h25 hf]
    dsimp only [Option.bind_some]
    rw [if_neg (by rw [a_lt]; omega)]
    exact T_some rfl
theorem op_liars : OP L_law (b_liars a) (r_liars a) := by
  refine OP_a (fun M hi => ?_)
  obtain ⟨nc, nh, hc, h25, hh, hc1, h10⟩ := v_get hi
  have encc : (Int32.ofNat nc).toInt = nc := a_on (by omega)
  unfold b_liars
  rw [size_b]
  dsimp only [Option.bind_some]
  by_cases p : a.toInt = 1 ∨ a.toInt = 2
  · rw [bo_p p, if_neg (by decide), cells_b hi hc fv_refl]
    dsimp only [Option.bind_some]
    obtain ⟨n, hn, en⟩ : ∃ n : Nat, (n = 1 ∨ n = 2) ∧ a.toInt = n := ⟨a.toInt.toNat, by omega, by omega⟩
    have hnil := pre_nil hn hc1 h25
    refine ⟨if nc < n then -2 else Int32.ofNat (v_bs M (v_pre n (10 * nc) (10 * nc))), ?_, fun M' hf => ?_⟩
    · by_cases q : nc < n
      · rw [if_pos (by rw [a_lt]; omega), if_pos q]
        exact T_some ⟨rfl, fv_refl⟩
      · rw [if_neg (by rw [a_lt]; omega), if_neg q]
        unfold b_Search_fewestFalse
        refine T_bind (T_bind (T_mono (listen_b hi hc h25 hh fv_refl) (fun N hN => ?_)))
        have fN : fv M N := fv_fq hN.1 (fun _ => rfl)
        have e18 : N.1 18 3 = M.1 50 24 := by rw [fN.1 18 3 rfl]; exact hi.2.2.2.2.2.2.1.1
        have es : ((1 : Int32) <<< ((N.1 18 3) &&& 31)) - (1 : Int32) = Int32.ofNat (v_bs M []) := by
          rw [e18, of_k hh, all_10 nh (by omega)]
          show Int32.ofNat (2 ^ nh - 1) = Int32.ofNat (2 ^ (M.1 50 24).toInt.toNat - 1)
          rw [show (M.1 50 24).toInt.toNat = nh by omega]
        rw [es, few_b hi hc h25 hh hn en fN hN.2]
        exact T_some (T_some ⟨rfl, fN⟩)
    · unfold r_liars
      rw [size_r]
      dsimp only [Option.bind_some]
      rw [bo_p p, if_neg (by decide)]
      refine T_bind (T_mono (go_r (sk := -1) hi hc h25 hh hn en (Or.inl ⟨rfl, rfl⟩) hf) (fun N hN => T_some ⟨?_, hN.1⟩))
      dsimp only
      rcases hN.2.2.1 with ⟨q1, q2⟩ | ⟨q1, q2⟩
      · rw [if_pos (hnil.mp q1), q2]
      · rw [if_neg (fun e => q1 (hnil.mpr e)), q2]
  · refine ⟨-1, ?_, fun M' hf => ?_⟩
    · rw [bo_n p, if_pos rfl]
      exact T_some ⟨rfl, fv_refl⟩
    · unfold r_liars
      rw [size_r]
      dsimp only [Option.bind_some]
      rw [bo_n p, if_pos rfl]
      exact T_some ⟨rfl, hf⟩
end OPS
