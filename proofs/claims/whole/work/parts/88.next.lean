/-! ===== part 88: next ===== -/
/-- one more strike looked at -/
def v_ps (g : Nat) (x : Int32) (s : Int32 × Nat) : Int32 × Nat := if g < s.2 then (x, g) else s
def v_in (gp : Nat → Nat → Nat) (note k : Nat) (s : Int32 × Nat) : Int32 × Nat := i_it (fun c s => v_ps (gp note c) (Int32.ofNat (100 * note + c)) s) k s
def v_out (gp : Nat → Nat → Nat) (nc k : Nat) : Int32 × Nat := i_it (fun note s => v_in gp note nc s) k (-2, 251)
section PO
variable {gp : Nat → Nat → Nat} {note k nc : Nat} {s : Int32 × Nat}
theorem in_s : v_in gp note (k + 1) s = v_ps (gp note k) (Int32.ofNat (100 * note + k)) (v_in gp note k s) := rfl
theorem out_s : v_out gp nc (k + 1) = v_in gp k nc (v_out gp nc k) := rfl
theorem in_le (hs : s.2 ≤ 251) : ∀ k, (v_in gp note k s).2 ≤ 251 := by
  intro k
  induction k with
  | zero => exact hs
  | succ k ih =>
    rw [in_s]
    unfold v_ps
    split
    · dsimp only
      omega
    · exact ih
theorem out_le : ∀ k, (v_out gp nc k).2 ≤ 251 := by
  intro k
  induction k with
  | zero => exact Nat.le_refl 251
  | succ k ih => exact in_le ih nc
/-- what the reference has so far -/
def v_rs (s : Int32 × Nat) (l3 l4 : Int32) : Prop := (s = (-2, 251) ∧ l3 = -2 ∧ l4 = -2) ∨ (0 ≤ s.1.toInt ∧ s.2 ≤ 250 ∧ l3 = s.1 ∧ l4 = Int32.ofNat s.2)
end PO
section PB
variable {M N M' : I_M} {nc nh : Nat} {ls : Int32}
theorem part_b (h : INV L_law M) (hc : i_ce (M.1 50 6) (M.1 50 7) = nc) (h25 : nc ≤ 25) (hf : fv M M') (hl : 0 ≤ ls.toInt) (hl2 : ls.toInt < (nc : Int)) (h10 : M'.1 22 10 = Int32.ofNat (v_F M (10 * nc)).length) (h26 : ∀ j p, (v_F M (10 * nc))[j]? = some p → M'.1 26 j = Int32.ofNat p) : T (b_Search_partBest ls M') (fun N => fv M N ∧ N.1 22 12 = (v_out (v_gp M ls (10 * nc)) nc 10).1 ∧ N.1 22 13 = Int32.ofNat (v_out (v_gp M ls (10 * nc)) nc 10).2) := by
  have encc : (Int32.ofNat nc).toInt = nc := a_on (by omega)
  have l10 : (10 : Int32).toInt = 10 := rfl
  have l100 : (100 : Int32).toInt = 100 := rfl
  have hgp : ∀ a b, v_gp M ls (10 * nc) a b ≤ 250 := fun a b => by
    have h1 := (st_le (val := v_val M ls a b) (l := v_F M (10 * nc))).1
    have h2 := F_len (M := M) (k := 10 * nc)
    unfold v_gp
    omega
  unfold b_Search_partBest
  refine T_bind (T_mono (tell_b h hc h25 hf hl hl2) (fun N1 hN1 => ?_))
  obtain ⟨a1, a2⟩ := hN1
  have fN1 : fv M N1 := fv_trans hf (fv_fq a1 (fun _ => rfl))
  have FV : ∀ {N}, fz z_p N1 N → fv M N := fun hN => fv_trans fN1 (fv_fz hN z_p_sc)
  have H10 : ∀ {N}, fz z_p N1 N → N.1 22 10 = Int32.ofNat (v_F M (10 * nc)).length := fun hN => by rw [hN.2 22 10 rfl, a1.2 22 10 rfl (by omega)]; exact h10
  have H26 : ∀ {N}, fz z_p N1 N → ∀ j p, (v_F M (10 * nc))[j]? = some p → N.1 26 j = Int32.ofNat p := fun hN j p hj => by rw [hN.2 26 j rfl, a1.2 26 j rfl (by omega)]; exact h26 j p hj
  have H25 : ∀ {N}, fz z_p N1 N → ∀ c d q, c < nc → d < 9 → q < 10 → N.1 25 ((c * 9 + d) * 10 + q) = v_hb M ls c d q := fun hN c d q h1 h2 h3 => by rw [hN.2 25 _ rfl]; exact a2 c d q h1 h2 h3
  refine T_for (N := 10) (a := 0) (f := b_Search_partBest_L20) (fun k N => fz z_p N1 N ∧ N.1 22 12 = (v_out (v_gp M ls (10 * nc)) nc k).1 ∧ N.1 22 13 = Int32.ofNat (v_out (v_gp M ls (10 * nc)) nc k).2) (by omega) ?_ ?_ (by unfold i_F; omega) (by omega) rfl ⟨fz_wI (fz_wI fz_refl rfl) rfl, rfl, rfl⟩
  · intro m note i N g1 g2 g3 g4 g5
    obtain ⟨f1, w1, w2⟩ := g4
    have ho := out_le (gp := v_gp M ls (10 * nc)) (nc := nc) note
    rw [out_s] at g5
    generalize v_out (v_gp M ls (10 * nc)) nc note = s at *
    unfold b_Search_partBest_L20
    rw [if_pos (by rw [a_lt]; omega)]
    refine T_for (N := nc) (a := 0) (f := b_Search_partBest_L28 i _) (fun k N => fz z_p N1 N ∧ N.1 22 12 = (v_in (v_gp M ls (10 * nc)) note k s).1 ∧ N.1 22 13 = Int32.ofNat (v_in (v_gp M ls (10 * nc)) note k s).2) (by omega) ?_ ?_ (by unfold i_F; omega) (by omega) rfl ⟨f1, w1, w2⟩
    · intro m' c j N2 g1' g2' g3' g4' g5'
      obtain ⟨f2, u1, u2⟩ := g4'
      have hi2 := in_le (gp := v_gp M ls (10 * nc)) (note := note) ho c
      have hg := hgp note c
      rw [in_s] at g5'
      generalize v_in (v_gp M ls (10 * nc)) note c s = t at *
      unfold b_Search_partBest_L28
      rw [cells_b h hc (FV f2)]
      dsimp only [Option.bind_some]
      rw [if_pos (by rw [a_lt]; omega)]
      refine T_bind (T_mono (great_b h hc h25 (FV f2) (H10 f2) (H26 f2) (H25 f2) g3 g3' g1 g1') (fun r hr => ?_))
      have f3 := fz_trans f2 hr.2.1
      have e13 : r.2.1 22 13 = Int32.ofNat t.2 := by rw [hr.2.2]; exact u2
      have x1 : (Int32.ofNat (v_gp M ls (10 * nc) note c)).toInt = (v_gp M ls (10 * nc) note c : Int) := a_on (by omega)
      have x2 : (Int32.ofNat t.2).toInt = (t.2 : Int) := a_on (by omega)
      have k1 : (100 * i).toInt = 100 * (note : Int) := by rw [a_mul] <;> rw [l100, g1] <;> omega
      have k2 : (100 * i + j).toInt = ((100 * note + c : Nat) : Int) := by rw [a_add] <;> rw [k1, g1'] <;> omega
      rw [e13, hr.1]
      by_cases q : v_gp M ls (10 * nc) note c < t.2
      · rw [if_pos (by rw [a_lt]; omega)]
        have es : v_ps (v_gp M ls (10 * nc) note c) (Int32.ofNat (100 * note + c)) t = (Int32.ofNat (100 * note + c), v_gp M ls (10 * nc) note c) := if_pos q
        rw [es] at g5'
        refine g5' _ ⟨fz_wI (fz_wI f3 rfl) rfl, ?_, ?_⟩
        · rw [m_wI, if_pos ⟨rfl, rfl⟩]
          exact of_k k2
        · rw [m_wI, if_neg (by omega), m_wI, if_pos ⟨rfl, rfl⟩]
      · rw [if_neg (by rw [a_lt]; omega)]
        have es : v_ps (v_gp M ls (10 * nc) note c) (Int32.ofNat (100 * note + c)) t = t := if_neg q
        rw [es] at g5'
        exact g5' _ ⟨f3, by rw [hr.2.2]; exact u1, e13⟩
    · intro m' j N2 g1' g2'
      unfold b_Search_partBest_L28
      rw [cells_b h hc (FV g2'.1)]
      dsimp only [Option.bind_some]
      rw [if_neg (by rw [a_lt]; omega)]
      exact g5 N2 g2'
  · intro m i N g1 g2
    unfold b_Search_partBest_L20
    rw [if_neg (by rw [a_lt]; omega)]
    exact T_some ⟨FV g2.1, g2.2⟩
theorem fill65 {l1 l2 : Int32} {k21 : I_M → Option (Int32 × I_M)} {P : Int32 × I_M → Prop} (hk : ∀ N', fq 65 N N' → (∀ c, c < 100 → N'.1 65 c = 0) → T (k21 N') P) : T (r_greatestPart_L2 l1 l2 k21 i_F 0 N) P := by
  have l99 : (99 : Int32).toInt = 99 := rfl
  refine T_for (N := 100) (a := 0) (f := r_greatestPart_L2 l1 l2 k21) (fun k N' => fq 65 N N' ∧ ∀ c, c < k → N'.1 65 c = 0) (by omega) ?_ ?_ (by unfold i_F; omega) (by omega) rfl ⟨fq_refl, fun c hc => absurd hc (by omega)⟩
  · intro m k i N' g1 g2 g3 g4 g5
    obtain ⟨f1, t1⟩ := g4
    unfold r_greatestPart_L2
    rw [if_neg (by rw [a_lt]; omega), g_ok (by omega) (by omega), a_k g1]
    refine g5 _ ⟨fq_wI f1, fun c hc => ?_⟩
    rw [m_wI]
    by_cases q : c = k
    · rw [q, if_pos ⟨rfl, rfl⟩]
    · rw [if_neg (by omega)]
      exact t1 c (by omega)
  · intro m i N' g1 g2
    unfold r_greatestPart_L2
    rw [if_pos (by rw [a_lt]; omega)]
    exact hk N' g2.1 g2.2
theorem great_r (h : INV L_law M) (hc : i_ce (M.1 50 6) (M.1 50 7) = nc) (h25 : nc ≤ 25) (hf : fv M N) (hl : 0 ≤ ls.toInt) (hl2 : ls.toInt < (nc : Int)) (h64 : ∀ p, p < 10 * nc → N.1 64 p = i_bo (v_ok M (-1) (p, p) = true)) {note st : Nat} (hn : note < 10) (hs : st < nc) {l1 : Int32} (e1 : l1.toInt = ((100 * note + st : Nat) : Int)) : T (r_greatestPart l1 ls N) (fun r => r.1 = Int32.ofNat (v_gp M ls (10 * nc) note st) ∧ fq 65 N r.2) := by
  have eP : (Int32.ofNat (10 * nc)).toInt = ((10 * nc : Nat) : Int) := a_on (by omega)
  obtain ⟨n1, n2⟩ := nc_rg (nc := l1) (by omega) (by omega)
  have n3 : (l1 / 100).toInt = (note : Int) := by rw [n1, e1]; omega
  have n4 : (i_rem l1 100).toInt = (st : Int) := by rw [n2, e1]; omega
  have FV : ∀ {N'}, fq 65 N N' → fv M N' := fun hN => fv_trans hf (fv_fq hN (fun _ => rfl))
  unfold r_greatestPart
  refine fill65 (fun N1 a1 a2 => ?_)
  refine T_for (σ := Int32 × I_M) (N := 10 * nc) (a := 0) (f := fun m i s => r_greatestPart_L26 l1 ls m s.1 i s.2) (s := ((0 : Int32), N1)) (fun k s => s.1 = Int32.ofNat (v_st (v_val M ls note st) (v_F M k)).1 ∧ fq 65 N s.2 ∧ ∀ v, v < 100 → s.2.1 65 v = Int32.ofNat ((v_st (v_val M ls note st) (v_F M k)).2 v)) (by omega) ?_ ?_ (by unfold i_F; omega) (by omega) rfl ⟨rfl, a1, a2⟩
  · intro m p i s g1 g2 g3 g4 g5
    obtain ⟨u, N2⟩ := s
    obtain ⟨w1, w2, w4⟩ := g4
    dsimp only at w1 w2 w4 ⊢
    have fN2 := FV w2
    have hi2 := fv_inv h fN2
    have w6 := fN2.1 50 6 rfl
    have w7 := fN2.1 50 7 rfl
    have hle := st_le (val := v_val M ls note st) (l := v_F M p)
    have hlen := F_len (M := M) (k := p)
    have e64 : N2.1 64 p = i_bo (v_ok M (-1) (p, p) = true) := by rw [w2.2 64 p rfl (by omega)]; exact h64 p g3
    unfold r_greatestPart_L26
    rw [e_rcells, w6, w7]
    dsimp only [Option.bind_some]
    rw [v_c10 hc h25, if_pos (by rw [a_lt]; omega), g_ok (by omega) (by omega), a_k g1, e64]
    by_cases q : v_ok M (-1) (p, p) = true
    · have hF : v_F M (p + 1) = v_F M p ++ [p] := by rw [F_s, if_pos q]
      rw [hF, st_s] at g5
      generalize v_st (v_val M ls note st) (v_F M p) = S at *
      obtain ⟨d1, d2, d3, d4⟩ := pl_d g1
      have hcell : p / 10 < nc := by omega
      rw [bo_p q, if_neg (by decide), fN2.1 51 59 rfl]
      refine T_bind (T_mono (hum_r (HU_inv hi2) (by omega) (by rw [w6, w7, hc]; omega) hl (by rw [w6, w7, hc]; omega) (by omega) (by rw [w6, w7, hc]; omega) (by omega) (by omega) (by omega) (by omega)) (fun r hr => ?_))
      have f3 : fq 65 N r.2 := fq_trans w2 (fq_fh hr.2)
      rw [hd_r]
      dsimp only [Option.bind_some]
      obtain ⟨v1, v2⟩ := hv_rg (M := M) (ls := ls) (note := note) (st := st) (p := p)
      have ev : h_hd r.2 r.1 = v_hv M ls note st p := by
        rw [hd_fv (FV f3), hr.1, of_k n3, of_k n4, d3, d4, fN2.1 50 17 rfl, w7, fv_row fN2 (q := 59) (fun _ => rfl), fv_row fN2 (q := 51) (fun _ => rfl), ← d3, a_k d1, d3]
        rfl
      rw [ev, g_ok (by omega) (by omega), a_k v1, hr.2.2 65 _ rfl, w4 _ v2, ofn_1, show (i_wI r.2 65 (v_val M ls note st p) (Int32.ofNat (S.2 (v_val M ls note st p) + 1))).1 65 (v_val M ls note st p) = Int32.ofNat (S.2 (v_val M ls note st p) + 1) by rw [m_wI, if_pos ⟨rfl, rfl⟩]]
      have c1 := hle.1
      have c2 := hle.2 (v_val M ls note st p)
      have x1 : (Int32.ofNat S.1).toInt = (S.1 : Int) := a_on (by omega)
      have x2 : (Int32.ofNat (S.2 (v_val M ls note st p) + 1)).toInt = ((S.2 (v_val M ls note st p) + 1 : Nat) : Int) := a_on (by omega)
      have x3 : (Int32.ofNat (max S.1 (S.2 (v_val M ls note st p) + 1))).toInt = ((max S.1 (S.2 (v_val M ls note st p) + 1) : Nat) : Int) := a_on (by omega)
      have ROW : ∀ v, v < 100 → (i_wI r.2 65 (v_val M ls note st p) (Int32.ofNat (S.2 (v_val M ls note st p) + 1))).1 65 v = Int32.ofNat (if v = v_val M ls note st p then S.2 v + 1 else S.2 v) := by
        intro v hv
        rw [m_wI]
        by_cases e : v = v_val M ls note st p
        · rw [e, if_pos ⟨rfl, rfl⟩, if_pos rfl]
        · rw [if_neg (by omega), if_neg e, hr.2.2 65 _ rfl]
          exact w4 v hv
      by_cases z : u < Int32.ofNat (S.2 (v_val M ls note st p) + 1)
      · rw [if_pos z]
        refine T_let ?_
        rw [w1, a_lt] at z
        refine g5 (Int32.ofNat (S.2 (v_val M ls note st p) + 1), i_wI r.2 65 (v_val M ls note st p) (Int32.ofNat (S.2 (v_val M ls note st p) + 1))) ⟨?_, fq_wI f3, ROW⟩
        dsimp only
        rw [a_eq]
        omega
      · rw [if_neg z]
        rw [w1, a_lt] at z
        refine g5 (u, i_wI r.2 65 (v_val M ls note st p) (Int32.ofNat (S.2 (v_val M ls note st p) + 1))) ⟨?_, fq_wI f3, ROW⟩
        dsimp only
        rw [w1, a_eq]
        omega
    · have hF : v_F M (p + 1) = v_F M p := by rw [F_s, if_neg q]
      rw [hF] at g5
      rw [bo_n q, if_pos rfl]
      exact g5 (u, N2) ⟨w1, w2, w4⟩
  · intro m i s g1 g2
    obtain ⟨u, N2⟩ := s
    obtain ⟨w1, w2, w4⟩ := g2
    dsimp only at w1 w2 w4 ⊢
    unfold r_greatestPart_L26
    rw [e_rcells, (FV w2).1 50 6 rfl, (FV w2).1 50 7 rfl]
    dsimp only [Option.bind_some]
    rw [v_c10 hc h25, if_neg (by rw [a_lt]; omega)]
    exact T_some ⟨w1, w2⟩
theorem isway_r (h : INV L_law M) (hc : i_ce (M.1 50 6) (M.1 50 7) = nc) (h25 : nc ≤ 25) (hh : (M.1 50 24).toInt = nh) (hf : fv M N) (ht : ∀ x p, x < nh → p < 10 * nc → N.1 62 (250 * x + p) = v_ld M x p) {l1 l2 : Int32} {k65 : I_M → Option (Int32 × I_M)} {P : Int32 × I_M → Prop} (hk : ∀ N', fq 64 N N' → (∀ p, p < 10 * nc → N'.1 64 p = i_bo (v_ok M (-1) (p, p) = true)) → T (k65 N') P) : T (r_next_L28 l1 l2 k65 i_F 0 N) P := by
  have eP : (Int32.ofNat (10 * nc)).toInt = ((10 * nc : Nat) : Int) := a_on (by omega)
  have h10 : (M.1 50 24).toInt.toNat ≤ 10 := by have := h.2.2.2.2.2.2.1.2.2.1; omega
  have FV : ∀ {N'}, fq 64 N N' → fv M N' := fun hN => fv_trans hf (fv_fq hN (fun _ => rfl))
  refine T_for (N := 10 * nc) (a := 0) (f := r_next_L28 l1 l2 k65) (fun k N' => fq 64 N N' ∧ ∀ p, p < k → N'.1 64 p = i_bo (v_ok M (-1) (p, p) = true)) (by omega) ?_ ?_ (by unfold i_F; omega) (by omega) rfl ⟨fq_refl, fun p hp => absurd hp (by omega)⟩
  · intro m p i N' g1 g2 g3 g4 g5
    obtain ⟨f1, t1⟩ := g4
    have hok := li_ok (p := p) (o := p) (sk := -1) (u := 0) h10 (Or.inl ⟨rfl, rfl⟩)
    have e0 : ∀ x : Int32, x &&& (0 ^^^ (-1 : Int32)) = x := fun x => b_ext (fun i hi => by rw [b_and, b_not hi, b_0]; simp)
    rw [e0] at hok
    unfold r_next_L28
    rw [e_rcells, (FV f1).1 50 6 rfl, (FV f1).1 50 7 rfl]
    dsimp only [Option.bind_some]
    rw [v_c10 hc h25, if_pos (by rw [a_lt]; omega), lieW_r h hh (FV f1) (fun x p hx hp => by rw [f1.2 62 _ rfl (by omega)]; exact ht x p hx hp) h25 g3 g3 g1 (Or.inl ⟨rfl, rfl⟩)]
    dsimp only [Option.bind_some]
    have NXT : ∀ v, v = i_bo (v_ok M (-1) (p, p) = true) → fq 64 N (i_wI N' 64 p v) ∧ ∀ z, z < p + 1 → (i_wI N' 64 p v).1 64 z = i_bo (v_ok M (-1) (z, z) = true) := by
      intro v hv
      refine ⟨fq_wI f1, fun z hz => ?_⟩
      rw [m_wI]
      by_cases e : z = p
      · rw [e, if_pos ⟨rfl, rfl⟩]
        exact hv
      · rw [if_neg (by omega)]
        exact t1 z (by omega)
    by_cases q : v_ok M (-1) (p, p) = true
    · rw [if_pos (hok.mpr q), g_ok (by omega) (by omega), a_k g1]
      exact g5 _ (NXT 1 (by rw [bo_p q]))
    · rw [if_neg (fun e => q (hok.mp e)), g_ok (by omega) (by omega), a_k g1]
      exact g5 _ (NXT 0 (by rw [bo_n q]))
  · intro m i N' g1 g2
    unfold r_next_L28
    rw [e_rcells, (FV g2.1).1 50 6 rfl, (FV g2.1).1 50 7 rfl]
    dsimp only [Option.bind_some]
    rw [v_c10 hc h25, if_neg (by rw [a_lt]; omega)]
    exact hk N' g2.1 g2.2
/-- the strikes looked at by the reference, where there are ways -/
theorem strikes_r (h : INV L_law M) (hc : i_ce (M.1 50 6) (M.1 50 7) = nc) (h25 : nc ≤ 25) (hc1 : 1 ≤ nc) (hf : fv M N) (hl : 0 ≤ ls.toInt) (hl2 : ls.toInt < (nc : Int)) (h64 : ∀ p, p < 10 * nc → N.1 64 p = i_bo (v_ok M (-1) (p, p) = true)) (h27 : (0 : Int32) < N.1 50 27) {l2 : Int32} {k152 : Int32 → Int32 → I_M → Option (Int32 × I_M)} {P : Int32 × I_M → Prop} (hk : ∀ N', fv M N' → T (k152 (v_out (v_gp M ls (10 * nc)) nc 10).1 (Int32.ofNat (v_out (v_gp M ls (10 * nc)) nc 10).2) N') P) : T (r_next_L75 ls l2 k152 i_F (-2) (-2) 0 N) P := by
  have encc : (Int32.ofNat nc).toInt = nc := a_on (by omega)
  have l10 : (10 : Int32).toInt = 10 := rfl
  have l100 : (100 : Int32).toInt = 100 := rfl
  have l0 := Int32.toInt_zero
  have hgp : ∀ a b, v_gp M ls (10 * nc) a b ≤ 250 := fun a b => by
    have h1 := (st_le (val := v_val M ls a b) (l := v_F M (10 * nc))).1
    have h2 := F_len (M := M) (k := 10 * nc)
    unfold v_gp
    omega
  have FV : ∀ {N'}, fq 65 N N' → fv M N' := fun hN => fv_trans hf (fv_fq hN (fun _ => rfl))
  have W27 : ∀ {N'}, fq 65 N N' → (0 : Int32) < N'.1 50 27 := fun hN => by rw [hN.2 50 27 rfl (by omega)]; exact h27
  have W64 : ∀ {N'}, fq 65 N N' → ∀ p, p < 10 * nc → N'.1 64 p = i_bo (v_ok M (-1) (p, p) = true) := fun hN p hp => by rw [hN.2 64 p rfl (by omega)]; exact h64 p hp
  refine T_for (σ := (Int32 × Int32) × I_M) (N := 10) (a := 0) (f := fun m i s => r_next_L75 ls l2 k152 m s.1.1 s.1.2 i s.2) (s := (((-2 : Int32), (-2 : Int32)), N)) (fun k s => fq 65 N s.2 ∧ v_rs (v_out (v_gp M ls (10 * nc)) nc k) s.1.1 s.1.2 ∧ (0 < k → 0 ≤ (v_out (v_gp M ls (10 * nc)) nc k).1.toInt)) (by omega) ?_ ?_ (by unfold i_F; omega) (by omega) rfl ⟨fq_refl, Or.inl ⟨rfl, rfl, rfl⟩, fun hx => absurd hx (by omega)⟩
  · intro m note i s g1 g2 g3 g4 g5
    obtain ⟨⟨x, y⟩, N2⟩ := s
    obtain ⟨f1, w1, w2⟩ := g4
    dsimp only at f1 w1 ⊢
    rw [out_s] at g5
    generalize v_out (v_gp M ls (10 * nc)) nc note = t at *
    unfold r_next_L75
    rw [if_pos (by rw [a_lt]; omega), if_pos (W27 f1)]
    refine T_for (σ := (Int32 × Int32) × I_M) (N := nc) (a := 0) (f := fun m j s => r_next_L92 ls l2 i _ m s.1.1 s.1.2 j s.2) (s := ((x, y), N2)) (fun k s => fq 65 N s.2 ∧ v_rs (v_in (v_gp M ls (10 * nc)) note k t) s.1.1 s.1.2 ∧ (0 < note ∨ 0 < k → 0 ≤ (v_in (v_gp M ls (10 * nc)) note k t).1.toInt)) (by omega) ?_ ?_ (by unfold i_F; omega) (by omega) rfl ⟨f1, w1, fun hx => w2 (by omega)⟩
    · intro m' c j s g1' g2' g3' g4' g5'
      obtain ⟨⟨x2, y2⟩, N3⟩ := s
      obtain ⟨f2, u1, u2⟩ := g4'
      dsimp only at f2 u1 ⊢
      rw [in_s] at g5'
      generalize v_in (v_gp M ls (10 * nc)) note c t = t2 at *
      have k1 : (100 * i).toInt = 100 * (note : Int) := by rw [a_mul] <;> rw [l100, g1] <;> omega
      have k2 : (100 * i + j).toInt = ((100 * note + c : Nat) : Int) := by rw [a_add] <;> rw [k1, g1'] <;> omega
      have hg := hgp note c
      unfold r_next_L92
      rw [cells_r hc (FV f2)]
      dsimp only [Option.bind_some]
      rw [if_pos (by rw [a_lt]; omega)]
      refine T_bind (T_mono (great_r h hc h25 (FV f2) hl hl2 (W64 f2) g3 g3' k2) (fun r hr => ?_))
      have f3 := fq_trans f2 hr.2
      have x1 : (Int32.ofNat (v_gp M ls (10 * nc) note c)).toInt = (v_gp M ls (10 * nc) note c : Int) := a_on (by omega)
      have SET : v_gp M ls (10 * nc) note c < t2.2 → T (r_next_L92 ls l2 i (fun l3_3 l4_3 M3 => r_next_L75 ls l2 k152 m l3_3 l4_3 (i + 1) M3) m' (100 * i + j) r.1 (j + 1) r.2) P := by
        intro q
        have es : v_ps (v_gp M ls (10 * nc) note c) (Int32.ofNat (100 * note + c)) t2 = (Int32.ofNat (100 * note + c), v_gp M ls (10 * nc) note c) := if_pos q
        rw [es] at g5'
        have x3 : (Int32.ofNat (100 * note + c)).toInt = ((100 * note + c : Nat) : Int) := a_on (by omega)
        refine g5' ((100 * i + j, r.1), r.2) ⟨f3, Or.inr ⟨?_, hg, of_k k2, hr.1⟩, fun _ => ?_⟩
        · dsimp only
          omega
        · dsimp only
          omega
      rcases u1 with ⟨q1, q2, q3⟩ | ⟨q1, q2, q3, q4⟩
      · rw [if_pos (by rw [q2]; decide)]
        exact SET (by rw [q1]; dsimp only; omega)
      · have x4 : (Int32.ofNat t2.2).toInt = (t2.2 : Int) := a_on (by omega)
        rw [if_neg (by rw [a_lt, q3]; omega)]
        by_cases q : v_gp M ls (10 * nc) note c < t2.2
        · rw [if_pos (by rw [hr.1, q4, a_lt]; omega)]
          exact SET q
        · rw [if_neg (by rw [hr.1, q4, a_lt]; omega)]
          have es : v_ps (v_gp M ls (10 * nc) note c) (Int32.ofNat (100 * note + c)) t2 = t2 := if_neg q
          rw [es] at g5'
          exact g5' ((x2, y2), r.2) ⟨f3, Or.inr ⟨q1, q2, q3, q4⟩, fun _ => q1⟩
    · intro m' j s g1' g2'
      obtain ⟨⟨x2, y2⟩, N3⟩ := s
      obtain ⟨f2, u1, u2⟩ := g2'
      dsimp only at f2 u1 ⊢
      unfold r_next_L92
      rw [cells_r hc (FV f2)]
      dsimp only [Option.bind_some]
      rw [if_neg (by rw [a_lt]; omega)]
      exact g5 ((x2, y2), N3) ⟨f2, u1, fun _ => u2 (by omega)⟩
  · intro m i s g1 g2
    obtain ⟨⟨x, y⟩, N2⟩ := s
    obtain ⟨f1, w1, w2⟩ := g2
    dsimp only at f1 w1 ⊢
    unfold r_next_L75
    rw [if_neg (by rw [a_lt]; omega)]
    have q0 := w2 (by omega)
    rcases w1 with ⟨q1, q2, q3⟩ | ⟨q1, q2, q3, q4⟩
    · rw [q1] at q0
      exact absurd q0 (by decide)
    · rw [q3, q4]
      exact hk N2 (FV f1)
end PB
section OPS
variable {a b : Int32}
theorem op_next : OP L_law (b_next a b) (r_next a b) := by
  refine OP_a (fun M hi => ?_)
  obtain ⟨nc, nh, hc, h25, hh, hc1, h10⟩ := v_get hi
  have hcs := N_land_ce hi.1
  have l0 := Int32.toInt_zero
  have l1 : (1 : Int32).toInt = 1 := rfl
  have hlen := F_len (M := M) (k := 10 * nc)
  unfold b_next
  rw [e_has, hcs.2.2, hc]
  dsimp only [Option.bind_some]
  have REF : ∀ M', fv M M' → ¬ ((0 ≤ a.toInt ∧ a.toInt < (nc : Int)) ∧ 0 ≤ b.toInt ∧ b.toInt ≤ 1) → T (r_next a b M') (fun s => s.1 = -1 ∧ fv M s.2) := by
    intro M' hf hx
    have w6 := hf.1 50 6 rfl
    have w7 := hf.1 50 7 rfl
    unfold r_next
    rw [e_isCell (by rw [w6, w7]; omega), w6, w7, hc]
    dsimp only [Option.bind_some]
    by_cases p2 : 0 ≤ a.toInt ∧ a.toInt < (nc : Int)
    · rw [bo_p p2, if_neg (by decide), r_within_e]
      dsimp only [Option.bind_some]
      rw [bo_n (by rw [a_l, Int64.toInt_zero, Int64.toInt_one]; exact fun hy => hx ⟨p2, hy⟩), if_pos rfl]
      exact T_some ⟨rfl, hf⟩
    · rw [bo_n p2, if_pos rfl]
      exact T_some ⟨rfl, hf⟩
  by_cases p2 : 0 ≤ a.toInt ∧ a.toInt < (nc : Int)
  · rw [bo_p p2, if_neg (by decide)]
    by_cases p3 : b.toInt < 0
    · rw [if_pos (by rw [a_lt]; omega)]
      exact ⟨-1, T_some ⟨rfl, fv_refl⟩, fun M' hf => REF M' hf (by omega)⟩
    rw [if_neg (by rw [a_lt]; omega)]
    by_cases p4 : 1 < b.toInt
    · rw [if_pos (by rw [a_lt]; omega)]
      exact ⟨-1, T_some ⟨rfl, fv_refl⟩, fun M' hf => REF M' hf (by omega)⟩
    rw [if_neg (by rw [a_lt]; omega)]
    have eF : (Int32.ofNat (v_F M (10 * nc)).length).toInt = ((v_F M (10 * nc)).length : Int) := a_on (by omega)
    have eW : (v_W M 1 (10 * nc) (-1)).length = (v_F M (10 * nc)).length := F_W (10 * nc)
    have RR : ∀ {P : Int32 × I_M → Prop} {M'}, fv M M' → (∀ N, fv M N → N.1 50 27 = Int32.ofNat (v_F M (10 * nc)).length → (∀ p, p < 10 * nc → N.1 64 p = i_bo (v_ok M (-1) (p, p) = true)) → T (r_next_L75 a b (fun l3_21 l4_21 M21 => (if b = (0 : Int32) then some (l3_21, M21) else some (l4_21, M21))) i_F (-2 : Int32) (-2 : Int32) (0 : Int32) N) P) → T (r_next a b M') P := by
      intro P M' hf hk
      have w6 := hf.1 50 6 rfl
      have w7 := hf.1 50 7 rfl
      unfold r_next
      rw [e_isCell (by rw [w6, w7]; omega), w6, w7, hc]
      dsimp only [Option.bind_some]
      rw [bo_p p2, if_neg (by decide), r_within_e]
      dsimp only [Option.bind_some]
      rw [bo_p (by rw [a_l, Int64.toInt_zero, Int64.toInt_one]; omega), if_neg (by decide)]
      refine T_bind (T_mono (go_r (n := 1) (sk := -1) hi hc h25 hh (Or.inl rfl) l1 (Or.inl ⟨rfl, rfl⟩) hf) (fun N hN => ?_))
      obtain ⟨f1, r1, r2, r3⟩ := hN
      refine isway_r hi hc h25 hh f1 r3 (fun N' f2 t2 => ?_)
      refine hk N' (fv_trans f1 (fv_fq f2 (fun _ => rfl))) ?_ t2
      rw [f2.2 50 27 rfl (by omega), r1.1, ← eW]
      rfl
    by_cases q : (v_F M (10 * nc)).length = 0
    · refine ⟨-2, ?_, fun M' hf => ?_⟩
      · refine T_bind (T_mono (gather_b hi hc h25 hh fv_refl) (fun N hN => ?_))
        rw [hN.2.1, if_pos (by rw [q]; rfl)]
        exact T_some ⟨rfl, hN.1⟩
      · refine RR hf (fun N f1 e27 _ => ?_)
        obtain ⟨F, hF⟩ : ∃ F, i_F = F + 1 := ⟨4999, rfl⟩
        rw [hF]
        unfold r_next_L75
        rw [if_pos (by decide), e27, q, if_neg (by decide)]
        split <;> exact T_some ⟨rfl, f1⟩
    · refine ⟨if b = 0 then (v_out (v_gp M a (10 * nc)) nc 10).1 else Int32.ofNat (v_out (v_gp M a (10 * nc)) nc 10).2, ?_, fun M' hf => ?_⟩
      · refine T_bind (T_mono (gather_b hi hc h25 hh fv_refl) (fun N hN => ?_))
        rw [hN.2.1, if_neg (fun e => q ((ofn_0 (by omega)).mp e))]
        refine T_bind (T_mono (part_b hi hc h25 hN.1 p2.1 p2.2 hN.2.1 hN.2.2) (fun N2 hN2 => ?_))
        by_cases z : b = 0
        · rw [if_pos z, if_pos z]
          exact T_some ⟨hN2.2.1, hN2.1⟩
        · rw [if_neg z, if_neg z]
          exact T_some ⟨hN2.2.2, hN2.1⟩
      · refine RR hf (fun N f1 e27 t2 => ?_)
        refine strikes_r hi hc h25 hc1 f1 p2.1 p2.2 t2 (by rw [e27, a_lt]; omega) (fun N' hN' => ?_)
        by_cases z : b = 0
        · rw [if_pos z, if_pos z]
          exact T_some ⟨rfl, hN'⟩
        · rw [if_neg z, if_neg z]
          exact T_some ⟨rfl, hN'⟩
  · rw [bo_n p2, if_pos rfl]
    exact ⟨-1, T_some ⟨rfl, fv_refl⟩, fun M' hf => REF M' hf (by omega)⟩
end OPS
