/-! ===== part 85: ways, told, dig ===== -/
theorem OP_p {f g : I_M → Option (Int32 × I_M)} (h : ∀ M, INV L_law M → ∃ P : Int32 → Prop, (∀ x y, P x → P y → y = x) ∧ T (f M) (fun r => P r.1 ∧ fv M r.2) ∧ ∀ M', fv M M' → T (g M') (fun s => P s.1 ∧ fv M s.2)) : OP L_law f g := by
  intro M hi
  obtain ⟨P, hP, hf, hg⟩ := h M hi
  refine T_mono hf (fun r hr => T_mono (hg r.2 hr.2) (fun s hs => ⟨hP _ _ hr.1 hs.1, fv_inv hi hs.2⟩))
theorem OP_a {f g : I_M → Option (Int32 × I_M)} (h : ∀ M, INV L_law M → ∃ a : Int32, T (f M) (fun r => r.1 = a ∧ fv M r.2) ∧ ∀ M', fv M M' → T (g M') (fun s => s.1 = a ∧ fv M s.2)) : OP L_law f g := by
  refine OP_p (fun M hi => ?_)
  obtain ⟨a, h1, h2⟩ := h M hi
  exact ⟨fun x => x = a, fun x y hx hy => by rw [hx, hy], h1, h2⟩
theorem size_b {a : Int32} {M : I_M} : b_isSize a M = some (i_bo (a.toInt = 1 ∨ a.toInt = 2), M) := by
  unfold b_isSize
  have l1 : (1 : Int32).toInt = 1 := rfl
  have l2 : (2 : Int32).toInt = 2 := rfl
  by_cases h1 : a.toInt = 1
  · rw [if_pos (by rw [a_eq]; omega), bo_p (Or.inl h1)]
  · rw [if_neg (by rw [a_eq]; omega)]
    by_cases h2 : a.toInt = 2
    · rw [if_pos (by rw [a_eq]; omega), bo_p (Or.inr h2)]
    · rw [if_neg (by rw [a_eq]; omega), bo_n (by omega)]
theorem size_r {a : Int32} {M : I_M} : r_isN a M = some (i_bo (a.toInt = 1 ∨ a.toInt = 2), M) := by
  unfold r_isN
  rw [r_within_e]
  dsimp only [Option.bind_some]
  rw [bo_zo, a_l, Int64.toInt_one, show (2 : Int64).toInt = 2 from rfl]
  by_cases h : 1 ≤ a.toInt ∧ a.toInt ≤ 2
  · rw [bo_p h, bo_p (by omega)]
  · rw [bo_n h, bo_n (by omega)]
theorem v_get {M : I_M} (h : INV L_law M) : ∃ nc nh : Nat, i_ce (M.1 50 6) (M.1 50 7) = nc ∧ nc ≤ 25 ∧ (M.1 50 24).toInt = nh ∧ 1 ≤ nc ∧ nh ≤ 10 := by
  have h1 := N_land_ce h.1
  have h2 := h.2.2.2.2.2.2.1.2.1
  have h3 := h.2.2.2.2.2.2.1.2.2.1
  exact ⟨(i_ce (M.1 50 6) (M.1 50 7)).toNat, (M.1 50 24).toInt.toNat, by omega, by omega, by omega, by omega, by omega⟩
theorem W_len {M : I_M} {n nc : Nat} {sk : Int} (hn : n = 1 ∨ n = 2) (h25 : nc ≤ 25) : (v_W M n (10 * nc) sk).length < 1000000 := by
  have h1 := List.length_filter_le (v_ok M sk) (v_pre n (10 * nc) (10 * nc))
  have h2 := pre_len hn h25 (10 * nc) (Nat.le_refl _)
  unfold v_W
  omega
theorem W_pl {M : I_M} {n nc : Nat} {sk : Int} (hn : n = 1 ∨ n = 2) : ∀ w, w ∈ v_W M n (10 * nc) sk → v_pl n (10 * nc) w := by
  intro w hw
  unfold v_W at hw
  rw [List.mem_filter] at hw
  exact pl_mem hn (Nat.le_refl _) w hw.1
section OPS
variable {a b c : Int32}
theorem op_ways : OP L_law (b_ways a b) (r_ways a b) := by
  refine OP_a (fun M hi => ?_)
  obtain ⟨nc, nh, hc, h25, hh, hc1, h10⟩ := v_get hi
  have l0 := Int32.toInt_zero
  have lm : (-1 : Int32).toInt = -1 := rfl
  have l1 : (1 : Int32).toInt = 1 := rfl
  unfold b_ways
  rw [size_b]
  dsimp only [Option.bind_some]
  by_cases p : a.toInt = 1 ∨ a.toInt = 2
  · rw [bo_p p, if_neg (by decide)]
    have ea : (a - 1).toInt = a.toInt - 1 := a_s1 (by omega)
    have el : ((-1 : Int64)).toInt = -1 := rfl
    by_cases p2 : -1 ≤ b.toInt ∧ b.toInt ≤ a.toInt - 1
    · rw [if_neg (by rw [a_lt]; omega), if_pos (by rw [a_lt]; omega)]
      obtain ⟨n, hn, en⟩ : ∃ n : Nat, (n = 1 ∨ n = 2) ∧ a.toInt = n := ⟨a.toInt.toNat, by omega, by omega⟩
      obtain ⟨W, hW⟩ : ∃ W, W = v_W M n (10 * nc) (-1) := ⟨_, rfl⟩
      have hl : W.length < 1000000 := by rw [hW]; exact W_len hn h25
      have B : T (b_Search_goThrough a (-1) M) (fun N => fv M N ∧ v_C W N) := by rw [hW]; exact go_b hi hc h25 hh hn en fv_refl
      have RR : ∀ {P : Int32 × I_M → Prop} {M'}, fv M M' → (∀ N, fv M N → v_R n W N → T (if b = -1 then some (N.1 50 27, N) else if N.1 50 27 = 0 then some (-2, N) else if b = 0 then some (N.1 50 28, N) else some (N.1 50 29, N)) P) → T (r_ways a b M') P := by
        intro P M' hf hk
        unfold r_ways
        rw [size_r]
        dsimp only [Option.bind_some]
        rw [bo_p p, if_neg (by decide), r_within_e]
        dsimp only [Option.bind_some]
        rw [bo_p (by rw [a_l, a_l, ea, el]; omega), if_neg (by decide)]
        refine T_bind (T_mono (go_r hi hc h25 hh hn en (Or.inl ⟨rfl, rfl⟩) hf) (fun N hN => ?_))
        exact hk N hN.1 (by rw [hW]; exact hN.2.1)
      by_cases p3 : b = -1
      · refine ⟨Int32.ofNat W.length, ?_, fun M' hf => ?_⟩
        · refine T_bind (T_mono B (fun N hN => ?_))
          rw [if_pos p3]
          exact T_some ⟨hN.2.1, hN.1⟩
        · refine RR hf (fun N hN hR => ?_)
          rw [if_pos p3]
          exact T_some ⟨hR.1, hN⟩
      · by_cases p4 : W.length = 0
        · refine ⟨-2, ?_, fun M' hf => ?_⟩
          · refine T_bind (T_mono B (fun N hN => ?_))
            rw [if_neg p3, hN.2.1, if_pos ((ofn_0 hl).mpr p4)]
            exact T_some ⟨rfl, hN.1⟩
          · refine RR hf (fun N hN hR => ?_)
            rw [if_neg p3, hR.1, if_pos ((ofn_0 hl).mpr p4)]
            exact T_some ⟨rfl, hN⟩
        · obtain ⟨w, hw⟩ : ∃ w, W.head? = some w := by
            cases hW2 : W with
            | nil => rw [hW2] at p4; exact absurd rfl p4
            | cons w t => exact ⟨w, rfl⟩
          by_cases p5 : b = 0
          · refine ⟨Int32.ofNat w.1, ?_, fun M' hf => ?_⟩
            · refine T_bind (T_mono B (fun N hN => ?_))
              rw [if_neg p3, hN.2.1, if_neg (fun e => p4 ((ofn_0 hl).mp e)), if_pos p5]
              exact T_some ⟨(hN.2.2.1 w hw).1, hN.1⟩
            · refine RR hf (fun N hN hR => ?_)
              rw [if_neg p3, hR.1, if_neg (fun e => p4 ((ofn_0 hl).mp e)), if_pos p5]
              exact T_some ⟨(hR.2.1 w hw).1, hN⟩
          · have n2 : n = 2 := by
              rw [a_eq] at p3 p5
              omega
            refine ⟨Int32.ofNat w.2, ?_, fun M' hf => ?_⟩
            · refine T_bind (T_mono B (fun N hN => ?_))
              rw [if_neg p3, hN.2.1, if_neg (fun e => p4 ((ofn_0 hl).mp e)), if_neg p5]
              exact T_some ⟨(hN.2.2.1 w hw).2, hN.1⟩
            · refine RR hf (fun N hN hR => ?_)
              rw [if_neg p3, hR.1, if_neg (fun e => p4 ((ofn_0 hl).mp e)), if_neg p5]
              exact T_some ⟨(hR.2.1 w hw).2 n2, hN⟩
    · refine ⟨-1, ?_, fun M' hf => ?_⟩
      · by_cases p3 : b.toInt < -1
        · rw [if_pos (by rw [a_lt]; omega)]
          exact T_some ⟨rfl, fv_refl⟩
        · rw [if_neg (by rw [a_lt]; omega), if_neg (by rw [a_lt]; omega)]
          exact T_some ⟨rfl, fv_refl⟩
      · unfold r_ways
        rw [size_r]
        dsimp only [Option.bind_some]
        rw [bo_p p, if_neg (by decide), r_within_e]
        dsimp only [Option.bind_some]
        rw [bo_n (by rw [a_l, a_l, ea, el]; omega), if_pos rfl]
        exact T_some ⟨rfl, hf⟩
  · refine ⟨-1, ?_, fun M' hf => ?_⟩
    · rw [bo_n p, if_pos rfl]
      exact T_some ⟨rfl, fv_refl⟩
    · unfold r_ways
      rw [size_r]
      dsimp only [Option.bind_some]
      rw [bo_n p, if_pos rfl]
      exact T_some ⟨rfl, hf⟩
theorem op_told : OP L_law (b_told a b) (r_told a b) := by
  refine OP_a (fun M hi => ?_)
  obtain ⟨nc, nh, hc, h25, hh, hc1, h10⟩ := v_get hi
  have l0 := Int32.toInt_zero
  have e18 : M.1 18 3 = M.1 50 24 := hi.2.2.2.2.2.2.1.1
  have eh : (M.1 50 24 - 1).toInt = (M.1 50 24).toInt - 1 := a_s1 (by omega)
  unfold b_told
  rw [size_b]
  dsimp only [Option.bind_some]
  by_cases p : a.toInt = 1 ∨ a.toInt = 2
  · rw [bo_p p, if_neg (by decide), e_hhas]
    dsimp only [Option.bind_some]
    rw [e18]
    by_cases p2 : 0 ≤ b.toInt ∧ b.toInt < (M.1 50 24).toInt
    · rw [bo_p p2, if_neg (by decide)]
      obtain ⟨n, hn, en⟩ : ∃ n : Nat, (n = 1 ∨ n = 2) ∧ a.toInt = n := ⟨a.toInt.toNat, by omega, by omega⟩
      refine ⟨Int32.ofNat (v_W M n (10 * nc) b.toInt).length - Int32.ofNat (v_W M n (10 * nc) (-1)).length, ?_, fun M' hf => ?_⟩
      · refine T_bind (T_mono (go_b hi hc h25 hh hn en fv_refl) (fun N hN => ?_))
        refine T_bind (T_mono (go_b hi hc h25 hh hn en hN.1) (fun N2 hN2 => T_some ⟨?_, hN2.1⟩))
        dsimp only
        rw [hN.2.1, hN2.2.1]
        rfl
      · unfold r_told
        rw [size_r]
        dsimp only [Option.bind_some]
        rw [bo_p p, if_neg (by decide), r_within_e]
        dsimp only [Option.bind_some]
        rw [bo_p (by rw [a_l, a_l, hf.1 50 24 rfl, eh, Int64.toInt_zero]; omega), if_neg (by decide)]
        refine T_bind (T_mono (go_r (sk := b) hi hc h25 hh hn en (Or.inr ⟨by omega, by omega, rfl⟩) hf) (fun N hN => ?_))
        refine T_bind (T_mono (go_r (sk := -1) hi hc h25 hh hn en (Or.inl ⟨rfl, rfl⟩) hN.1) (fun N2 hN2 => T_some ⟨?_, hN2.1⟩))
        dsimp only
        rw [hN.2.1.1, hN2.2.1.1]
        rfl
    · refine ⟨-1, ?_, fun M' hf => ?_⟩
      · rw [bo_n p2, if_pos rfl]
        exact T_some ⟨rfl, fv_refl⟩
      · unfold r_told
        rw [size_r]
        dsimp only [Option.bind_some]
        rw [bo_p p, if_neg (by decide), r_within_e]
        dsimp only [Option.bind_some]
        rw [bo_n (by rw [a_l, a_l, hf.1 50 24 rfl, eh, Int64.toInt_zero]; omega), if_pos rfl]
        exact T_some ⟨rfl, hf⟩
  · refine ⟨-1, ?_, fun M' hf => ?_⟩
    · rw [bo_n p, if_pos rfl]
      exact T_some ⟨rfl, fv_refl⟩
    · unfold r_told
      rw [size_r]
      dsimp only [Option.bind_some]
      rw [bo_n p, if_pos rfl]
      exact T_some ⟨rfl, hf⟩
end OPS
/-- the best cell to dig in, of the first k -/
def v_dg (M : I_M) (W : List (Nat × Nat)) (k : Nat) : Nat := i_it (fun c best => if v_ct W best * ((M.1 51 (25 + c)).toInt.toNat + 1) < v_ct W c * ((M.1 51 (25 + best)).toInt.toNat + 1) then c else best) k 0
section DIG
variable {M N : I_M} {W : List (Nat × Nat)} {n nc : Nat}
theorem dg_s {k : Nat} : v_dg M W (k + 1) = if v_ct W (v_dg M W k) * ((M.1 51 (25 + k)).toInt.toNat + 1) < v_ct W k * ((M.1 51 (25 + v_dg M W k)).toInt.toNat + 1) then k else v_dg M W k := rfl
theorem dg_1 : v_dg M W 1 = 0 := by
  have e : v_dg M W 0 = 0 := rfl
  rw [dg_s, e]
  split <;> rfl
theorem dg_lt : ∀ k, 1 ≤ k → v_dg M W k < k := by
  intro k hk
  induction k with
  | zero => omega
  | succ k ih =>
    by_cases q : k = 0
    · rw [q, dg_1]
      omega
    · rw [dg_s]
      have := ih (by omega)
      split <;> omega
theorem dig_p {x y : Int32} {s t : Nat} (hx : x.toInt = s) (hs : s < 1000000) (hy : y.toInt = t) (ht : t < 100) : (x * (y + 1)).toInt = ((s * (t + 1) : Nat) : Int) := by
  have e1 : (y + 1).toInt = ((t + 1 : Nat) : Int) := by rw [a_a1 (by omega), hy]; rfl
  have h1 : s * (t + 1) ≤ 1000000 * 100 := Nat.mul_le_mul (by omega) (by omega)
  have e2 : x.toInt * (y + 1).toInt = ((s * (t + 1) : Nat) : Int) := by rw [hx, e1, Int.natCast_mul]
  rw [a_mul, e2] <;> rw [e2] <;> omega
theorem dig_pL {x y : Int32} {s t : Nat} (hx : x.toInt = s) (hs : s < 1000000) (hy : y.toInt = t) (ht : t < 100) : (Int32.toInt64 x * Int32.toInt64 (y + 1)).toInt = ((s * (t + 1) : Nat) : Int) := by
  have e1 : (y + 1).toInt = ((t + 1 : Nat) : Int) := by rw [a_a1 (by omega), hy]; rfl
  have h1 : s * (t + 1) ≤ 1000000 * 100 := Nat.mul_le_mul (by omega) (by omega)
  have e2 : x.toInt * (y + 1).toInt = ((s * (t + 1) : Nat) : Int) := by rw [hx, e1, Int.natCast_mul]
  rw [Int64.toInt_mul, a_l, a_l, e2]
  exact Int.bmod_eq_of_le (by omega) (by omega)
theorem best_b (h : INV L_law M) (hc : i_ce (M.1 50 6) (M.1 50 7) = nc) (h25 : nc ≤ 25) (h1 : 1 ≤ nc) (hf : fv M N) (hw : v_C W N) (hl : W.length < 1000000) : b_Search_bestCell N = some (Int32.ofNat (v_dg M W nc), N) := by
  have hm := h.2.1.2.1
  have encc : (Int32.ofNat nc).toInt = nc := a_on (by omega)
  unfold b_Search_bestCell
  refine T_eq (T_for (σ := Int32 × I_M) (N := nc) (a := 1) (f := fun m i s => b_Search_bestCell_L4 m s.1 i s.2) (s := ((0 : Int32), N)) (fun k s => s = (Int32.ofNat (v_dg M W k), N)) (by omega) ?_ ?_ (by unfold i_F; omega) (by omega) rfl (by rw [dg_1]; rfl))
  · intro m k i s g1 g2 g3 g4 g5
    subst g4
    dsimp only
    have hlt := dg_lt (M := M) (W := W) k g2
    rw [dg_s] at g5
    generalize v_dg M W k = d at *
    have ed : (Int32.ofNat d).toInt = d := a_on (by omega)
    unfold b_Search_bestCell_L4
    rw [cells_b h hc hf]
    dsimp only [Option.bind_some]
    rw [if_pos (by rw [a_lt]; omega), g_ok (by omega) (by omega), g_ok (by omega) (by omega), a_k g1, a_k ed, hw.2.2 k (by omega), hw.2.2 d (by omega), hf.1 5 k rfl, hf.1 5 d rfl, (hm k (by omega)).1, (hm d (by omega)).1]
    have c1 := ct_le (W := W) (c := k)
    have c2 := ct_le (W := W) (c := d)
    obtain ⟨_, m1, m2⟩ := hm k (by omega)
    obtain ⟨_, m3, m4⟩ := hm d (by omega)
    have x1 := dig_p (x := Int32.ofNat (v_ct W d)) (y := M.1 51 (25 + k)) (a_on (by omega)) (by omega) (t := (M.1 51 (25 + k)).toInt.toNat) (by omega) (by omega)
    have x2 := dig_p (x := Int32.ofNat (v_ct W k)) (y := M.1 51 (25 + d)) (a_on (by omega)) (by omega) (t := (M.1 51 (25 + d)).toInt.toNat) (by omega) (by omega)
    by_cases q : v_ct W d * ((M.1 51 (25 + k)).toInt.toNat + 1) < v_ct W k * ((M.1 51 (25 + d)).toInt.toNat + 1)
    · rw [if_pos q] at g5
      rw [if_pos (by rw [a_lt, x1, x2]; exact Int.ofNat_lt.mpr q)]
      exact g5 (i, N) (by rw [of_k g1])
    · rw [if_neg q] at g5
      rw [if_neg (by rw [a_lt, x1, x2]; exact fun hx => q (Int.ofNat_lt.mp hx))]
      exact g5 (Int32.ofNat d, N) rfl
  · intro m i s g1 g2
    subst g2
    dsimp only
    unfold b_Search_bestCell_L4
    rw [cells_b h hc hf]
    dsimp only [Option.bind_some]
    rw [if_neg (by rw [a_lt]; omega)]
    exact T_some rfl
theorem best_r (h : INV L_law M) (hc : i_ce (M.1 50 6) (M.1 50 7) = nc) (h25 : nc ≤ 25) (h1 : 1 ≤ nc) (hf : fv M N) (hw : v_R n W N) (hl : W.length < 1000000) : r_dig_L20 i_F (-2) 0 N = some (if W = [] then -2 else Int32.ofNat (v_dg M W nc), N) := by
  have hm := h.2.1.2.1
  have encc : (Int32.ofNat nc).toInt = nc := a_on (by omega)
  have l0 := Int32.toInt_zero
  have l25 : (25 : Int32).toInt = 25 := rfl
  refine T_eq (T_for (σ := Int32 × I_M) (N := nc) (a := 0) (f := fun m i s => r_dig_L20 m s.1 i s.2) (s := ((-2 : Int32), N)) (fun k s => s = ((if W = [] ∨ k = 0 then (-2 : Int32) else Int32.ofNat (v_dg M W k)), N)) (by omega) ?_ ?_ (by unfold i_F; omega) (by omega) rfl (by rw [if_pos (Or.inr rfl)]))
  · intro m k i s g1 g2 g3 g4 g5
    subst g4
    dsimp only
    have B81 : ∀ (x : Int32) (s0 : Int32) (Q : Int32 × I_M → Prop), (W = [] → T (r_dig_L20 m x (i + 1) N) Q) → (W ≠ [] → s0 = 0 → T (r_dig_L20 m x (i + 1) N) Q) → (W ≠ [] → s0 ≠ 0 → T (r_dig_L20 m i (i + 1) N) Q) → T (r_dig_B81 (fun a b c => r_dig_L20 m a b c) x i s0 N) Q := by
      intro x s0 Q h1 h2 h3
      unfold r_dig_B81
      have e27 : (N.1 50 27).toInt = W.length := by rw [hw.1]; exact a_on (by omega)
      by_cases q : W = []
      · rw [if_neg (by rw [a_lt, e27, q]; decide)]
        exact h1 q
      · have : W.length ≠ 0 := fun e => q (len_0.mp e)
        rw [if_pos (by rw [a_lt]; omega)]
        by_cases z : s0 = 0
        · rw [if_pos z]
          exact h2 q z
        · rw [if_neg z]
          exact h3 q z
    unfold r_dig_L20
    rw [cells_r hc hf]
    dsimp only [Option.bind_some]
    rw [if_pos (by rw [a_lt]; omega)]
    by_cases q : W = [] ∨ k = 0
    · rw [if_pos q, if_pos (by decide)]
      refine B81 _ _ _ (fun hx => ?_) (fun hx hy => absurd hy (by decide)) (fun hx _ => ?_)
      · exact g5 (-2, N) (by rw [if_pos (Or.inl hx)])
      · refine g5 (i, N) ?_
        have k0 : k = 0 := by
          rcases q with q | q
          · exact absurd q hx
          · exact q
        rw [if_neg (fun h => h.elim hx (fun h => by omega)), k0, dg_1, of_k g1, k0]
    · have qW : W ≠ [] := fun e => q (Or.inl e)
      have qk : k ≠ 0 := fun e => q (Or.inr e)
      have hlt := dg_lt (M := M) (W := W) k (by omega)
      have hs : (if W = [] ∨ k + 1 = 0 then (-2 : Int32) else Int32.ofNat (v_dg M W (k + 1))) = Int32.ofNat (v_dg M W (k + 1)) := if_neg (fun h => h.elim qW (fun h => by omega))
      rw [hs, dg_s] at g5
      rw [if_neg q]
      generalize v_dg M W k = d at *
      have ed : (Int32.ofNat d).toInt = d := a_on (by omega)
      have u1 : ((25 : Int32) + Int32.ofNat d).toInt = ((25 + d : Nat) : Int) := by rw [a_add] <;> rw [l25, ed] <;> omega
      have u2 : ((25 : Int32) + i).toInt = ((25 + k : Nat) : Int) := by rw [a_add] <;> rw [l25, g1] <;> omega
      rw [if_neg (by rw [a_lt]; omega), g_ok (by omega) (by omega), g_ok (by omega) (by omega), g_ok (by omega) (by omega), g_ok (by omega) (by omega), a_k g1, a_k ed, a_k u1, a_k u2, hw.2.2.1 k (by omega), hw.2.2.1 d (by omega), hf.1 51 _ rfl, hf.1 51 _ rfl]
      have c1 := ct_le (W := W) (c := k)
      have c2 := ct_le (W := W) (c := d)
      obtain ⟨_, m1, m2⟩ := hm k (by omega)
      obtain ⟨_, m3, m4⟩ := hm d (by omega)
      have x1 := dig_pL (x := Int32.ofNat (v_ct W d)) (y := M.1 51 (25 + k)) (a_on (by omega)) (by omega) (t := (M.1 51 (25 + k)).toInt.toNat) (by omega) (by omega)
      have x2 := dig_pL (x := Int32.ofNat (v_ct W k)) (y := M.1 51 (25 + d)) (a_on (by omega)) (by omega) (t := (M.1 51 (25 + d)).toInt.toNat) (by omega) (by omega)
      by_cases z : v_ct W d * ((M.1 51 (25 + k)).toInt.toNat + 1) < v_ct W k * ((M.1 51 (25 + d)).toInt.toNat + 1)
      · rw [if_pos z] at g5
        rw [if_pos (a_lgt.mpr (by rw [x1, x2]; exact Int.ofNat_lt.mpr z))]
        refine B81 _ _ _ (fun hx => absurd hx qW) (fun hx hy => absurd hy (by decide)) (fun _ _ => ?_)
        exact g5 (i, N) (by rw [of_k g1])
      · rw [if_neg z] at g5
        rw [if_neg (fun hx => z (Int.ofNat_lt.mp (by have := a_lgt.mp hx; rw [x1, x2] at this; exact this)))]
        refine B81 _ _ _ (fun hx => absurd hx qW) (fun _ _ => ?_) (fun hx hy => absurd rfl hy)
        exact g5 (Int32.ofNat d, N) rfl
  · intro m i s g1 g2
    subst g2
    dsimp only
    unfold r_dig_L20
    rw [cells_r hc hf]
    dsimp only [Option.bind_some]
    rw [if_neg (by rw [a_lt]; omega)]
    refine T_some ?_
    by_cases q : W = []
    · rw [if_pos (Or.inl q), if_pos q]
    · rw [if_neg (fun h => h.elim q (fun h => by omega)), if_neg q]
theorem op_dig {a : Int32} : OP L_law (b_dig a) (r_dig a) := by
  refine OP_a (fun M hi => ?_)
  obtain ⟨nc, nh, hc, h25, hh, hc1, h10⟩ := v_get hi
  unfold b_dig
  rw [size_b]
  dsimp only [Option.bind_some]
  by_cases p : a.toInt = 1 ∨ a.toInt = 2
  · rw [bo_p p, if_neg (by decide)]
    obtain ⟨n, hn, en⟩ : ∃ n : Nat, (n = 1 ∨ n = 2) ∧ a.toInt = n := ⟨a.toInt.toNat, by omega, by omega⟩
    obtain ⟨W, hW⟩ : ∃ W, W = v_W M n (10 * nc) (-1) := ⟨_, rfl⟩
    have hl : W.length < 1000000 := by rw [hW]; exact W_len hn h25
    have B : T (b_Search_goThrough a (-1) M) (fun N => fv M N ∧ v_C W N) := by rw [hW]; exact go_b hi hc h25 hh hn en fv_refl
    refine ⟨if W = [] then -2 else Int32.ofNat (v_dg M W nc), ?_, fun M' hf => ?_⟩
    · refine T_bind (T_mono B (fun N hN => ?_))
      rw [hN.2.1]
      by_cases q : W = []
      · rw [if_pos ((ofn_0 hl).mpr (len_0.mpr q)), if_pos q]
        exact T_some ⟨rfl, hN.1⟩
      · rw [if_neg (fun e => q (len_0.mp ((ofn_0 hl).mp e))), if_neg q, best_b hi hc h25 hc1 hN.1 hN.2 hl]
        exact T_some ⟨rfl, hN.1⟩
    · unfold r_dig
      rw [size_r]
      dsimp only [Option.bind_some]
      rw [bo_p p, if_neg (by decide)]
      refine T_bind (T_mono (go_r (sk := -1) hi hc h25 hh hn en (Or.inl ⟨rfl, rfl⟩) hf) (fun N hN => ?_))
      have hR : v_R n W N := by rw [hW]; exact hN.2.1
      rw [best_r hi hc h25 hc1 hN.1 hR hl]
      exact T_some ⟨rfl, hN.1⟩
  · refine ⟨-1, ?_, fun M' hf => ?_⟩
    · rw [bo_n p, if_pos rfl]
      exact T_some ⟨rfl, fv_refl⟩
    · unfold r_dig
      rw [size_r]
      dsimp only [Option.bind_some]
      rw [bo_n p, if_pos rfl]
      exact T_some ⟨rfl, hf⟩
end DIG
