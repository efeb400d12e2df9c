/-! ===== part 81: how loud each bell would be in each hearing, worked out by both ===== -/
/-- memory that differs only in the scratch of a hum and in row r -/
def fq (r : Nat) (M M' : I_M) : Prop := M'.2 = M.2 ∧ ∀ q k, h_sc q k = false → q ≠ r → M'.1 q k = M.1 q k
section FQ
variable {M M' M'' : I_M} {r q k : Nat} {v : Int32}
theorem fq_refl : fq r M M := ⟨rfl, fun _ _ _ _ => rfl⟩
theorem fq_trans (h : fq r M M') (h2 : fq r M' M'') : fq r M M'' := ⟨h2.1.trans h.1, fun q k hq hr => (h2.2 q k hq hr).trans (h.2 q k hq hr)⟩
theorem fq_fh (h : fh M M') : fq r M M' := ⟨h.1, fun q k hq _ => h.2 q k hq⟩
theorem fq_wI (h : fq r M M') : fq r M (i_wI M' r k v) := by
  refine ⟨h.1, fun a b hab hr => ?_⟩
  rw [m_wI, if_neg (fun c => hr c.1)]
  exact h.2 a b hab hr
theorem fv_fq (h : fq r M M') (hs : ∀ k, i_sc r k = true) : fv M M' := by
  refine ⟨fun q k hq => h.2 q k (hsc_sc hq) (fun e => ?_), fun q _ => by rw [h.1]⟩
  rw [e, hs k] at hq
  cases hq
theorem fq_row (h : fq r M M') (hs : ∀ k, h_sc q k = false) (hr : q ≠ r) : M'.1 q = M.1 q := funext fun k => h.2 q k (hs k) hr
end FQ
/-- how loud bell p would be in hearing h -/
def v_ld (M : I_M) (h p : Nat) : Int32 := h_loud (M.1 50 17) (M.1 59) (M.1 51 56) (M.1 51 57) (h_far (M.1 50 7) (i_rem (M.1 61 (3 * h)) 100) (Int32.ofNat (p / 10))) (h_far (M.1 50 7) (Int32.ofNat (p / 10)) (M.1 61 (3 * h + 1))) (i_abs (M.1 61 (3 * h) / 100 - Int32.ofNat (p % 10))) (M.1 51 59) (M.1 51 (p / 10))
section LI
variable {M M' N : I_M} {nc nh : Nat}
theorem v_c10 (hc : i_ce (M.1 50 6) (M.1 50 7) = nc) (h25 : nc ≤ 25) : (10 : Int32) * (M.1 50 6 * M.1 50 7) = Int32.ofNat (10 * nc) := by
  have l : (10 : Int32).toInt = 10 := rfl
  unfold i_ce at hc
  refine of_k ?_
  rw [a_mul, l, hc]
  · omega
  · rw [l, hc]; omega
  · rw [l, hc]; omega
theorem v_nc (hc : i_ce (M.1 50 6) (M.1 50 7) = nc) : M.1 50 6 * M.1 50 7 = Int32.ofNat nc := of_k hc
theorem cells_r (hc : i_ce (M.1 50 6) (M.1 50 7) = nc) (hf : fv M N) : r_cells N = some (Int32.ofNat nc, N) := by
  rw [e_rcells, hf.1 50 6 rfl, hf.1 50 7 rfl, v_nc hc]
theorem cells_b (h : INV L_law M) (hc : i_ce (M.1 50 6) (M.1 50 7) = nc) (hf : fv M N) : b_Land_cells N = some (Int32.ofNat nc, N) := by
  rw [e_cells, hf.1 1 0 rfl, hf.1 1 1 rfl, h.1.1, h.1.2.1, v_nc hc]
theorem places_b (h : INV L_law M) (hc : i_ce (M.1 50 6) (M.1 50 7) = nc) (h25 : nc ≤ 25) (hf : fv M N) : b_Search_places N = some (Int32.ofNat (10 * nc), N) := by
  unfold b_Search_places
  rw [cells_b h hc hf, ← v_nc hc]
  dsimp only [Option.bind_some]
  rw [v_c10 hc h25]
theorem pl_d {j : Int32} {p : Nat} (hj : j.toInt = p) : (j / 10).toInt = ((p / 10 : Nat) : Int) ∧ (i_rem j 10).toInt = ((p % 10 : Nat) : Int) ∧ j / 10 = Int32.ofNat (p / 10) ∧ i_rem j 10 = Int32.ofNat (p % 10) := by
  have l : (10 : Int32).toInt = 10 := rfl
  have e1 : (j / 10).toInt = ((p / 10 : Nat) : Int) := by rw [a_div (by omega) (by omega), hj, l]; omega
  have e2 : (i_rem j 10).toInt = ((p % 10 : Nat) : Int) := by rw [a_rem (by omega) (by omega), hj, l]; omega
  exact ⟨e1, e2, of_k e1, of_k e2⟩
theorem listen_b (h : INV L_law M) (hc : i_ce (M.1 50 6) (M.1 50 7) = nc) (h25 : nc ≤ 25) (hh : (M.1 50 24).toInt = nh) (hf : fv M M') : T (b_Search_listen M') (fun N => fq 23 M' N ∧ ∀ x p, x < nh → p < 10 * nc → N.1 23 (250 * x + p) = v_ld M x p) := by
  have h10 : nh ≤ 10 := by have := h.2.2.2.2.2.2.1.2.2.1; omega
  have e18 : M.1 18 3 = M.1 50 24 := h.2.2.2.2.2.2.1.1
  have hR := h.2.2.2.2.2.2.1.2.2.2
  have hG : M.1 1 9 = M.1 51 59 := h.2.1.2.2.2.2.2.2.2.2.2.2.2.2.1
  unfold b_Search_listen
  refine T_for (N := nh) (a := 0) (f := b_Search_listen_L2) (fun k N => fq 23 M' N ∧ ∀ x p, x < k → p < 10 * nc → N.1 23 (250 * x + p) = v_ld M x p) (by omega) ?_ ?_ (by unfold i_F; omega) (by omega) rfl ⟨fq_refl, fun x p hx => absurd hx (by omega)⟩
  · intro m x i N g1 g2 g3 g4 g5
    obtain ⟨f1, t1⟩ := g4
    have fN : fv M N := fv_trans hf (fv_fq f1 (fun _ => rfl))
    obtain ⟨r1, r2, r3, r4, r5, r6, r7, r8, r9, r10⟩ := hR x (by omega)
    have e19 : N.1 19 x = M.1 61 (3 * x) := by rw [fN.1 19 x rfl, r1]
    have e20 : M.1 20 x = M.1 61 (3 * x + 1) := r2
    rw [r1] at r4 r5 r6
    rw [r2] at r7 r8
    obtain ⟨n1, n2⟩ := nc_rg r4 r5
    unfold b_Search_listen_L2
    rw [fN.1 18 3 rfl, e18, if_pos (by rw [a_lt]; omega), g_ok (by omega) (by omega), a_k g1, e19]
    refine T_for (N := 10 * nc) (a := 0) (f := b_Search_listen_L42 i _ _ _) (fun k N2 => fq 23 M' N2 ∧ (∀ y p, y < x → p < 10 * nc → N2.1 23 (250 * y + p) = v_ld M y p) ∧ ∀ p, p < k → N2.1 23 (250 * x + p) = v_ld M x p) (by omega) ?_ ?_ (by unfold i_F; omega) (by omega) rfl ⟨f1, t1, fun p hp => absurd hp (by omega)⟩
    · intro m' p j N2 g1' g2' g3' g4' g5'
      obtain ⟨f2, t2, u2⟩ := g4'
      have fN2 : fv M N2 := fv_trans hf (fv_fq f2 (fun _ => rfl))
      have hi2 := fv_inv h fN2
      have w6 := fN2.1 50 6 rfl
      have w7 := fN2.1 50 7 rfl
      obtain ⟨d1, d2, d3, d4⟩ := pl_d g1'
      have eP : (Int32.ofNat (10 * nc)).toInt = ((10 * nc : Nat) : Int) := a_on (by omega)
      have hcell : p / 10 < nc := by omega
      unfold b_Search_listen_L42
      rw [places_b h hc h25 fN2]
      dsimp only [Option.bind_some]
      rw [if_pos (by rw [a_lt]; omega), far_b hi2.1 (by omega) (by rw [w6, w7, hc]; omega) (by omega) (by rw [w6, w7, hc]; omega)]
      dsimp only [Option.bind_some]
      rw [g_ok (by omega) (by omega), a_k g1, fN2.1 20 x rfl, e20, fN2.1 1 9 rfl, hG, w7]
      refine T_bind (T_mono (loud_b (HU_inv hi2) (by omega) (by rw [w6, w7, hc]; omega) (by omega) (by rw [w6, w7]; omega)) (fun r hr => ?_))
      have l250 : (250 : Int32).toInt = 250 := rfl
      have k1 : (i * 250).toInt = 250 * (x : Int) := by rw [a_mul] <;> rw [l250, g1] <;> omega
      have k2 : (i * 250 + j).toInt = ((250 * x + p : Nat) : Int) := by rw [a_add] <;> rw [k1, g1'] <;> omega
      have f3 : fq 23 M' r.2 := fq_trans f2 (fq_fh hr.2)
      rw [g_ok (by omega) (by omega), a_k k2]
      refine g5' _ ⟨fq_wI f3, fun y z hy hz => ?_, fun z hz => ?_⟩
      · rw [m_wI, if_neg (by omega), hr.2.2 23 _ rfl]
        exact t2 y z hy hz
      · rw [m_wI]
        by_cases q : z = p
        · rw [q, if_pos ⟨rfl, rfl⟩, hr.1, d3, d4, fN2.1 50 17 rfl, w7, fv_row fN2 (q := 59) (fun _ => rfl), fv_row fN2 (q := 51) (fun _ => rfl), ← d3, a_k d1, d3]
          rfl
        · rw [if_neg (by omega), hr.2.2 23 _ rfl]
          exact u2 z (by omega)
    · intro m' j N2 g1' g2'
      obtain ⟨f2, t2, u2⟩ := g2'
      have fN2 : fv M N2 := fv_trans hf (fv_fq f2 (fun _ => rfl))
      have eP : (Int32.ofNat (10 * nc)).toInt = ((10 * nc : Nat) : Int) := a_on (by omega)
      unfold b_Search_listen_L42
      rw [places_b h hc h25 fN2]
      dsimp only [Option.bind_some]
      rw [if_neg (by rw [a_lt]; omega)]
      refine g5 N2 ⟨f2, fun y p hy hp => ?_⟩
      by_cases q : y = x
      · rw [q]
        exact u2 p hp
      · exact t2 y p (by omega) hp
  · intro m i N g1 g2
    obtain ⟨f1, t1⟩ := g2
    have fN : fv M N := fv_trans hf (fv_fq f1 (fun _ => rfl))
    unfold b_Search_listen_L2
    rw [fN.1 18 3 rfl, e18, if_neg (by rw [a_lt]; omega)]
    exact T_some ⟨f1, t1⟩
theorem humsA_r (h : INV L_law M) (hc : i_ce (M.1 50 6) (M.1 50 7) = nc) (h25 : nc ≤ 25) (hh : (M.1 50 24).toInt = nh) (hf : fv M M') : T (r_humsAll M') (fun N => fq 62 M' N ∧ ∀ x p, x < nh → p < 10 * nc → N.1 62 (250 * x + p) = v_ld M x p) := by
  have h10 : nh ≤ 10 := by have := h.2.2.2.2.2.2.1.2.2.1; omega
  have hR := h.2.2.2.2.2.2.1.2.2.2
  have l3 : (3 : Int32).toInt = 3 := rfl
  have l1 : (1 : Int32).toInt = 1 := rfl
  unfold r_humsAll
  refine T_for (N := nh) (a := 0) (f := r_humsAll_L2) (fun k N => fq 62 M' N ∧ ∀ x p, x < k → p < 10 * nc → N.1 62 (250 * x + p) = v_ld M x p) (by omega) ?_ ?_ (by unfold i_F; omega) (by omega) rfl ⟨fq_refl, fun x p hx => absurd hx (by omega)⟩
  · intro m x i N g1 g2 g3 g4 g5
    obtain ⟨f1, t1⟩ := g4
    have fN : fv M N := fv_trans hf (fv_fq f1 (fun _ => rfl))
    obtain ⟨r1, r2, r3, r4, r5, r6, r7, r8, r9, r10⟩ := hR x (by omega)
    rw [r1] at r4 r5 r6
    rw [r2] at r7 r8
    obtain ⟨n1, n2⟩ := nc_rg r4 r5
    have k3 : ((3 : Int32) * i).toInt = ((3 * x : Nat) : Int) := by rw [a_mul] <;> rw [l3, g1] <;> omega
    have k4 : ((3 : Int32) * i + 1).toInt = ((3 * x + 1 : Nat) : Int) := by rw [a_a1 (by omega), k3]; omega
    unfold r_humsAll_L2
    rw [fN.1 50 24 rfl, if_pos (by rw [a_lt]; omega), g_ok (by omega) (by omega), a_k k3, fN.1 61 _ rfl]
    refine T_for (N := 10 * nc) (a := 0) (f := r_humsAll_L21 i _ _) (fun k N2 => fq 62 M' N2 ∧ (∀ y p, y < x → p < 10 * nc → N2.1 62 (250 * y + p) = v_ld M y p) ∧ ∀ p, p < k → N2.1 62 (250 * x + p) = v_ld M x p) (by omega) ?_ ?_ (by unfold i_F; omega) (by omega) rfl ⟨f1, t1, fun p hp => absurd hp (by omega)⟩
    · intro m' p j N2 g1' g2' g3' g4' g5'
      obtain ⟨f2, t2, u2⟩ := g4'
      have fN2 : fv M N2 := fv_trans hf (fv_fq f2 (fun _ => rfl))
      have hi2 := fv_inv h fN2
      have w6 := fN2.1 50 6 rfl
      have w7 := fN2.1 50 7 rfl
      obtain ⟨d1, d2, d3, d4⟩ := pl_d g1'
      have eP : (Int32.ofNat (10 * nc)).toInt = ((10 * nc : Nat) : Int) := a_on (by omega)
      have hcell : p / 10 < nc := by omega
      unfold r_humsAll_L21
      rw [e_rcells, w6, w7]
      dsimp only [Option.bind_some]
      rw [v_c10 hc h25, if_pos (by rw [a_lt]; omega), g_ok (by omega) (by omega), a_k k4, fN2.1 61 _ rfl, fN2.1 51 59 rfl]
      refine T_bind (T_mono (hum_r (HU_inv hi2) (by omega) (by rw [w6, w7, hc]; omega) (by omega) (by rw [w6, w7]; omega) (by omega) (by rw [w6, w7]; omega) (by omega) (by omega) (by omega) (by omega)) (fun r hr => ?_))
      have l250 : (250 : Int32).toInt = 250 := rfl
      have k1 : (250 * i).toInt = 250 * (x : Int) := by rw [a_mul] <;> rw [l250, g1] <;> omega
      have k2 : (250 * i + j).toInt = ((250 * x + p : Nat) : Int) := by rw [a_add] <;> rw [k1, g1'] <;> omega
      have f3 : fq 62 M' r.2 := fq_trans f2 (fq_fh hr.2)
      rw [g_ok (by omega) (by omega), a_k k2]
      refine g5' _ ⟨fq_wI f3, fun y z hy hz => ?_, fun z hz => ?_⟩
      · rw [m_wI, if_neg (by omega), hr.2.2 62 _ rfl]
        exact t2 y z hy hz
      · rw [m_wI]
        by_cases q : z = p
        · rw [q, if_pos ⟨rfl, rfl⟩, hr.1, d3, d4, fN2.1 50 17 rfl, w7, fv_row fN2 (q := 59) (fun _ => rfl), fv_row fN2 (q := 51) (fun _ => rfl), ← d3, a_k d1, d3]
          rfl
        · rw [if_neg (by omega), hr.2.2 62 _ rfl]
          exact u2 z (by omega)
    · intro m' j N2 g1' g2'
      obtain ⟨f2, t2, u2⟩ := g2'
      have fN2 : fv M N2 := fv_trans hf (fv_fq f2 (fun _ => rfl))
      have eP : (Int32.ofNat (10 * nc)).toInt = ((10 * nc : Nat) : Int) := a_on (by omega)
      unfold r_humsAll_L21
      rw [e_rcells, fN2.1 50 6 rfl, fN2.1 50 7 rfl]
      dsimp only [Option.bind_some]
      rw [v_c10 hc h25, if_neg (by rw [a_lt]; omega)]
      refine g5 N2 ⟨f2, fun y p hy hp => ?_⟩
      by_cases q : y = x
      · rw [q]
        exact u2 p hp
      · exact t2 y p (by omega) hp
  · intro m i N g1 g2
    obtain ⟨f1, t1⟩ := g2
    have fN : fv M N := fv_trans hf (fv_fq f1 (fun _ => rfl))
    unfold r_humsAll_L2
    rw [fN.1 50 24 rfl, if_neg (by rw [a_lt]; omega)]
    exact T_some ⟨f1, t1⟩
end LI
