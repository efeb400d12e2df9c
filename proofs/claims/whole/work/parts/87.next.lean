/-! ===== part 87: next, the class's way ===== -/
/-- the places at which one bell alone may lie -/
def v_F (M : I_M) (k : Nat) : List Nat := (List.range k).filter (fun p => v_ok M (-1) (p, p))
theorem F_s {M : I_M} {k : Nat} : v_F M (k + 1) = if v_ok M (-1) (k, k) = true then v_F M k ++ [k] else v_F M k := by
  unfold v_F
  rw [List.range_succ, List.filter_append, List.filter_cons, List.filter_nil]
  split
  · rfl
  · rw [List.append_nil]
theorem F_len {M : I_M} {k : Nat} : (v_F M k).length ≤ k := by
  have := List.length_filter_le (fun p => v_ok M (-1) (p, p)) (List.range k)
  rw [List.length_range] at this
  exact this
theorem F_lt {M : I_M} {k p j : Nat} (h : (v_F M k)[j]? = some p) : p < k := by
  have := List.mem_of_getElem? h
  unfold v_F at this
  rw [List.mem_filter, List.mem_range] at this
  exact this.1
theorem F_W {M : I_M} {P : Nat} : ∀ k, ((v_pre 1 P k).filter (v_ok M (-1))).length = (v_F M k).length := by
  intro k
  induction k with
  | zero => rfl
  | succ k ih =>
    have es : v_seg k (v_lo 1 k) (v_hi 1 P k) = [(k, k)] := by
      unfold v_lo v_hi
      rw [if_pos rfl, if_pos rfl, seg_s (Nat.le_refl k), seg_0]
      rfl
    rw [pre_s, es, fl_s, F_s]
    split
    · rw [List.length_append, List.length_append, ih]
      rfl
    · exact ih
theorem ap_1 {l : List Nat} {x p j : Nat} (h : (l ++ [x])[j]? = some p) : (j < l.length ∧ l[j]? = some p) ∨ (j = l.length ∧ p = x) := by
  rw [List.getElem?_append] at h
  by_cases q : j < l.length
  · rw [if_pos q] at h
    exact Or.inl ⟨q, h⟩
  · rw [if_neg q] at h
    refine Or.inr ?_
    by_cases z : j - l.length = 0
    · rw [z] at h
      cases h
      exact ⟨by omega, rfl⟩
    · rw [List.getElem?_eq_none (by rw [List.length_singleton]; omega)] at h
      cases h
/-- how great a part is, and the parts so far -/
def v_sp (val : Nat → Nat) (s : Nat × (Nat → Nat)) (p : Nat) : Nat × (Nat → Nat) := (max s.1 (s.2 (val p) + 1), fun v => if v = val p then s.2 v + 1 else s.2 v)
def v_st (val : Nat → Nat) (l : List Nat) : Nat × (Nat → Nat) := l.foldl (v_sp val) (0, fun _ => 0)
theorem st_s {val : Nat → Nat} {l : List Nat} {p : Nat} : v_st val (l ++ [p]) = (max (v_st val l).1 ((v_st val l).2 (val p) + 1), fun v => if v = val p then (v_st val l).2 v + 1 else (v_st val l).2 v) := by
  unfold v_st
  rw [List.foldl_append]
  rfl
theorem st_le {val : Nat → Nat} {l : List Nat} : (v_st val l).1 ≤ l.length ∧ ∀ v, (v_st val l).2 v ≤ l.length := by
  have key : ∀ (l : List Nat) (s : Nat × (Nat → Nat)) (B : Nat), s.1 ≤ B → (∀ v, s.2 v ≤ B) → (l.foldl (v_sp val) s).1 ≤ B + l.length ∧ ∀ v, (l.foldl (v_sp val) s).2 v ≤ B + l.length := by
    intro l
    induction l with
    | nil => exact fun s B h1 h2 => ⟨h1, h2⟩
    | cons p l ih =>
      intro s B h1 h2
      have h3 : (v_sp val s p).1 ≤ B + 1 := by
        have := h2 (val p)
        show max s.1 (s.2 (val p) + 1) ≤ B + 1
        omega
      have h4 : ∀ v, (v_sp val s p).2 v ≤ B + 1 := by
        intro v
        have := h2 v
        show (if v = val p then s.2 v + 1 else s.2 v) ≤ B + 1
        split <;> omega
      have := ih (v_sp val s p) (B + 1) h3 h4
      rw [List.length_cons]
      refine ⟨Nat.le_trans this.1 (by omega), fun v => Nat.le_trans (this.2 v) (by omega)⟩
  have := key l (0, fun _ => 0) 0 (Nat.le_refl 0) (fun _ => Nat.le_refl 0)
  rw [Nat.zero_add] at this
  exact this
def v_hb (M : I_M) (ls : Int32) (c d q : Nat) : Int32 := h_hd M (h_loud (M.1 50 17) (M.1 59) (M.1 51 56) (M.1 51 57) (Int32.ofNat d) (h_far (M.1 50 7) (Int32.ofNat c) ls) (Int32.ofNat q) (M.1 51 59) (M.1 51 c))
def v_hv (M : I_M) (ls : Int32) (note st p : Nat) : Int32 := h_hd M (h_loud (M.1 50 17) (M.1 59) (M.1 51 56) (M.1 51 57) (h_far (M.1 50 7) (Int32.ofNat st) (Int32.ofNat (p / 10))) (h_far (M.1 50 7) (Int32.ofNat (p / 10)) ls) (i_abs (Int32.ofNat note - Int32.ofNat (p % 10))) (M.1 51 59) (M.1 51 (p / 10)))
def v_val (M : I_M) (ls : Int32) (note st p : Nat) : Nat := (v_hv M ls note st p).toInt.toNat
def v_gp (M : I_M) (ls : Int32) (P note st : Nat) : Nat := (v_st (v_val M ls note st) (v_F M P)).1
theorem hdx_rg {M : I_M} {l : Int32} (h1 : 0 ≤ l.toInt) : 0 ≤ (h_hd M l).toInt ∧ (h_hd M l).toInt ≤ 99 := by
  have l99 : (99 : Int32).toInt = 99 := rfl
  have e : (i_min l 99).toInt = min l.toInt 99 := by rw [min_e, l99]
  unfold h_hd
  split
  · decide
  · omega
theorem hv_rg {M : I_M} {ls : Int32} {note st p : Nat} : (v_hv M ls note st p).toInt = (v_val M ls note st p : Int) ∧ v_val M ls note st p < 100 := by
  have := hdx_rg (M := M) (l := h_loud (M.1 50 17) (M.1 59) (M.1 51 56) (M.1 51 57) (h_far (M.1 50 7) (Int32.ofNat st) (Int32.ofNat (p / 10))) (h_far (M.1 50 7) (Int32.ofNat (p / 10)) ls) (i_abs (Int32.ofNat note - Int32.ofNat (p % 10))) (M.1 51 59) (M.1 51 (p / 10))) h_cl_rg.1
  unfold v_val v_hv
  omega
def z_g (q _k : Nat) : Bool := q == 22 || q == 26
theorem z_g_sc : ∀ q k, z_g q k = true → i_sc q k = true := by
  intro q k h
  unfold z_g at h
  simp only [Bool.or_eq_true, beq_iff_eq] at h
  rcases h with h | h <;> subst h <;> rfl
def z_p (q k : Nat) : Bool := q == 27 || (q == 22 && (k == 12 || k == 13))
theorem z_p_sc : ∀ q k, z_p q k = true → i_sc q k = true := by
  intro q k h
  unfold z_p at h
  simp only [Bool.or_eq_true, Bool.and_eq_true, beq_iff_eq] at h
  rcases h with h | ⟨h, h2⟩
  · subst h
    rfl
  · subst h
    rfl
theorem far_8 {M : I_M} {a b : Int32} (h : N_land (M.1 1 0) (M.1 1 1) (M.1 50 6) (M.1 50 7) (M.1 2) (M.1 3)) (ha : 0 ≤ a.toInt) (ha2 : a.toInt < i_ce (M.1 50 6) (M.1 50 7)) (hb : 0 ≤ b.toInt) (hb2 : b.toInt < i_ce (M.1 50 6) (M.1 50 7)) : 0 ≤ (h_far (M.1 50 7) a b).toInt ∧ (h_far (M.1 50 7) a b).toInt < 9 := by
  rw [far_rg h ha ha2 hb hb2]
  obtain ⟨_, _, h1, h2, h3, h4, _⟩ := h
  have e := (i_ce_ok h1 h2 h3 h4).1
  rw [e] at ha2 hb2
  have hp : 0 < (M.1 50 7).toInt := by omega
  have q1 := Int.ediv_lt_of_lt_mul hp ha2
  have q2 := Int.ediv_lt_of_lt_mul hp hb2
  have q3 := Int.ediv_nonneg ha (Int.le_of_lt hp)
  have q4 := Int.ediv_nonneg hb (Int.le_of_lt hp)
  have r1 := Int.emod_nonneg a.toInt (by omega : (M.1 50 7).toInt ≠ 0)
  have r2 := Int.emod_lt_of_pos a.toInt hp
  have r3 := Int.emod_nonneg b.toInt (by omega : (M.1 50 7).toInt ≠ 0)
  have r4 := Int.emod_lt_of_pos b.toInt hp
  omega
section NB
variable {M N M' : I_M} {nc nh : Nat} {ls : Int32}
theorem gather_b (h : INV L_law M) (hc : i_ce (M.1 50 6) (M.1 50 7) = nc) (h25 : nc ≤ 25) (hh : (M.1 50 24).toInt = nh) (hf : fv M M') : T (b_Search_gatherFitting M') (fun N => fv M N ∧ N.1 22 10 = Int32.ofNat (v_F M (10 * nc)).length ∧ ∀ j p, (v_F M (10 * nc))[j]? = some p → N.1 26 j = Int32.ofNat p) := by
  have eP : (Int32.ofNat (10 * nc)).toInt = ((10 * nc : Nat) : Int) := a_on (by omega)
  have lm : (-1 : Int32).toInt = -1 := rfl
  unfold b_Search_gatherFitting
  refine T_bind (T_mono (listen_b h hc h25 hh hf) (fun N1 hN1 => ?_))
  obtain ⟨a1, a2⟩ := hN1
  have fN1 : fv M N1 := fv_trans hf (fv_fq a1 (fun _ => rfl))
  have FV : ∀ {N}, fz z_g N1 N → fv M N := fun hN => fv_trans fN1 (fv_fz hN z_g_sc)
  have TB : ∀ {N}, fz z_g N1 N → ∀ x p, x < nh → p < 10 * nc → N.1 23 (250 * x + p) = v_ld M x p := fun hN x p hx hp => by rw [hN.2 23 _ rfl]; exact a2 x p hx hp
  refine T_for (N := 10 * nc) (a := 0) (f := b_Search_gatherFitting_L11) (fun k N => fz z_g N1 N ∧ N.1 22 10 = Int32.ofNat (v_F M k).length ∧ ∀ j p, (v_F M k)[j]? = some p → N.1 26 j = Int32.ofNat p) (by omega) ?_ ?_ (by unfold i_F; omega) (by omega) rfl ⟨fz_wI fz_refl rfl, by rw [m_wI, if_pos ⟨rfl, rfl⟩]; rfl, fun j p hj => by cases hj⟩
  · intro m p i N g1 g2 g3 g4 g5
    obtain ⟨f1, w1, w2⟩ := g4
    have hlen := F_len (M := M) (k := p)
    unfold b_Search_gatherFitting_L11
    rw [places_b h hc h25 (FV f1)]
    dsimp only [Option.bind_some]
    rw [if_pos (by rw [a_lt]; omega), fits_b h hh (FV f1) (TB f1) h25 g3 g3 g1 g1, lm]
    dsimp only [Option.bind_some]
    rw [F_s] at g5
    by_cases q : v_ok M (-1) (p, p) = true
    · rw [if_pos q] at g5
      have e10 : (N.1 22 10).toInt = ((v_F M p).length : Int) := by rw [w1]; exact a_on (by omega)
      rw [bo_p q, if_neg (by decide), g_ok (by omega) (by omega), a_k e10]
      refine g5 _ ⟨fz_wI (fz_wI f1 rfl) rfl, ?_, fun j x hj => ?_⟩
      · rw [m_wI, if_pos ⟨rfl, rfl⟩, w1, ofn_1, List.length_append]
        rfl
      · rw [m_wI, if_neg (by omega), m_wI]
        rcases ap_1 hj with ⟨q1, q2⟩ | ⟨q1, q2⟩
        · rw [if_neg (by omega)]
          exact w2 j x q2
        · rw [if_pos ⟨rfl, q1⟩, q2, of_k g1]
    · rw [if_neg q] at g5
      rw [bo_n q, if_pos rfl]
      exact g5 _ ⟨f1, w1, w2⟩
  · intro m i N g1 g2
    unfold b_Search_gatherFitting_L11
    rw [places_b h hc h25 (FV g2.1)]
    dsimp only [Option.bind_some]
    rw [if_neg (by rw [a_lt]; omega)]
    exact T_some ⟨FV g2.1, g2.2⟩
theorem by_i {c d q : Nat} {l2 l3 l4 : Int32} (e2 : l2.toInt = c) (e3 : l3.toInt = d) (e4 : l4.toInt = q) (hc : c < 25) (hd : d < 9) (hq : q < 10) : (((l2 * 9 + l3) * 10) + l4).toInt = (((c * 9 + d) * 10 + q : Nat) : Int) := by
  have l9 : (9 : Int32).toInt = 9 := rfl
  have l10 : (10 : Int32).toInt = 10 := rfl
  have k1 : (l2 * 9).toInt = (c : Int) * 9 := by rw [a_mul] <;> rw [l9, e2] <;> omega
  have k2 : (l2 * 9 + l3).toInt = (c : Int) * 9 + d := by rw [a_add] <;> rw [k1, e3] <;> omega
  have k3 : ((l2 * 9 + l3) * 10).toInt = ((c : Int) * 9 + d) * 10 := by rw [a_mul] <;> rw [l10, k2] <;> omega
  rw [a_add] <;> rw [k3, e4] <;> omega
theorem tell_b (h : INV L_law M) (hc : i_ce (M.1 50 6) (M.1 50 7) = nc) (h25 : nc ≤ 25) (hf : fv M M') (hl : 0 ≤ ls.toInt) (hl2 : ls.toInt < (nc : Int)) : T (b_Search_tellHeardBy ls M') (fun N => fq 25 M' N ∧ ∀ c d q, c < nc → d < 9 → q < 10 → N.1 25 ((c * 9 + d) * 10 + q) = v_hb M ls c d q) := by
  have encc : (Int32.ofNat nc).toInt = nc := a_on (by omega)
  have l9 : (9 : Int32).toInt = 9 := rfl
  have l10 : (10 : Int32).toInt = 10 := rfl
  have hG : M.1 1 9 = M.1 51 59 := h.2.1.2.2.2.2.2.2.2.2.2.2.2.2.1
  have FV : ∀ {N}, fq 25 M' N → fv M N := fun hN => fv_trans hf (fv_fq hN (fun _ => rfl))
  unfold b_Search_tellHeardBy
  refine T_for (N := nc) (a := 0) (f := b_Search_tellHeardBy_L2 ls) (fun k N => fq 25 M' N ∧ ∀ c d q, c < k → d < 9 → q < 10 → N.1 25 ((c * 9 + d) * 10 + q) = v_hb M ls c d q) (by omega) ?_ ?_ (by unfold i_F; omega) (by omega) rfl ⟨fq_refl, fun c d q hx => absurd hx (by omega)⟩
  · intro m c i N g1 g2 g3 g4 g5
    obtain ⟨f1, t1⟩ := g4
    unfold b_Search_tellHeardBy_L2
    rw [cells_b h hc (FV f1)]
    dsimp only [Option.bind_some]
    rw [if_pos (by rw [a_lt]; omega)]
    refine T_for (N := 9) (a := 0) (f := b_Search_tellHeardBy_L15 ls i _) (fun k N => fq 25 M' N ∧ (∀ x d q, x < c → d < 9 → q < 10 → N.1 25 ((x * 9 + d) * 10 + q) = v_hb M ls x d q) ∧ ∀ d q, d < k → q < 10 → N.1 25 ((c * 9 + d) * 10 + q) = v_hb M ls c d q) (by omega) ?_ ?_ (by unfold i_F; omega) (by omega) rfl ⟨f1, t1, fun d q hx => absurd hx (by omega)⟩
    · intro m' d j N2 g1' g2' g3' g4' g5'
      obtain ⟨f2, t2, u2⟩ := g4'
      unfold b_Search_tellHeardBy_L15
      rw [if_pos (by rw [a_lt]; omega)]
      refine T_for (N := 10) (a := 0) (f := b_Search_tellHeardBy_L24 ls i j _) (fun k N => fq 25 M' N ∧ (∀ x d q, x < c → d < 9 → q < 10 → N.1 25 ((x * 9 + d) * 10 + q) = v_hb M ls x d q) ∧ (∀ y q, y < d → q < 10 → N.1 25 ((c * 9 + y) * 10 + q) = v_hb M ls c y q) ∧ ∀ q, q < k → N.1 25 ((c * 9 + d) * 10 + q) = v_hb M ls c d q) (by omega) ?_ ?_ (by unfold i_F; omega) (by omega) rfl ⟨f2, t2, u2, fun q hx => absurd hx (by omega)⟩
      · intro m'' q o N3 r1 r2 r3 r4 r5
        obtain ⟨f3, t3, u3, s3⟩ := r4
        have fN := FV f3
        have hi3 := fv_inv h fN
        have w6 := fN.1 50 6 rfl
        have w7 := fN.1 50 7 rfl
        unfold b_Search_tellHeardBy_L24
        rw [if_pos (by rw [a_lt]; omega), fN.1 1 9 rfl, hG]
        refine T_bind (T_mono (loud_b (HU_inv hi3) (by omega) (by rw [w6, w7, hc]; omega) hl (by rw [w6, w7, hc]; omega)) (fun r hr => ?_))
        have f4 : fq 25 M' r.2 := fq_trans f3 (fq_fh hr.2)
        rw [hd_b (fv_inv h (FV f4)), hd_fv (FV f4)]
        dsimp only [Option.bind_some]
        have bi := by_i g1 g1' r1 (by omega) g3' r3
        rw [g_ok (by omega) (by omega), a_k bi]
        refine r5 _ ⟨fq_wI f4, fun x y z hx hy hz => ?_, fun y z hy hz => ?_, fun z hz => ?_⟩
        · rw [m_wI, if_neg (by omega), hr.2.2 25 _ rfl]
          exact t3 x y z hx hy hz
        · rw [m_wI, if_neg (by omega), hr.2.2 25 _ rfl]
          exact u3 y z hy hz
        · rw [m_wI]
          by_cases e : z = q
          · rw [e, if_pos ⟨rfl, rfl⟩, hr.1, a_k g1, fN.1 50 17 rfl, w7, fv_row fN (q := 59) (fun _ => rfl), fv_row fN (q := 51) (fun _ => rfl), of_k g1, of_k g1', of_k r1]
            rfl
          · rw [if_neg (by omega), hr.2.2 25 _ rfl]
            exact s3 z (by omega)
      · intro m'' o N3 r1 r2
        obtain ⟨f3, t3, u3, s3⟩ := r2
        unfold b_Search_tellHeardBy_L24
        rw [if_neg (by rw [a_lt]; omega)]
        refine g5' N3 ⟨f3, t3, fun y z hy hz => ?_⟩
        by_cases e : y = d
        · rw [e]
          exact s3 z hz
        · exact u3 y z (by omega) hz
    · intro m' j N2 g1' g2'
      obtain ⟨f2, t2, u2⟩ := g2'
      unfold b_Search_tellHeardBy_L15
      rw [if_neg (by rw [a_lt]; omega)]
      refine g5 N2 ⟨f2, fun x d q hx hd hq => ?_⟩
      by_cases e : x = c
      · rw [e]
        exact u2 d q hd hq
      · exact t2 x d q (by omega) hd hq
  · intro m i N g1 g2
    unfold b_Search_tellHeardBy_L2
    rw [cells_b h hc (FV g2.1)]
    dsimp only [Option.bind_some]
    rw [if_neg (by rw [a_lt]; omega)]
    exact T_some g2
theorem fill27 : T (j_fillI_27 0 N) (fun N' => fz z_p N N' ∧ N'.1 22 = N.1 22 ∧ ∀ c, c < 100 → N'.1 27 c = 0) := by
  unfold j_fillI_27
  have l100 : (100 : Int32).toInt = 100 := rfl
  refine T_for (N := 100) (a := 0) (f := j_fillI_27_L5 0 100) (fun k N' => fz z_p N N' ∧ N'.1 22 = N.1 22 ∧ ∀ c, c < k → N'.1 27 c = 0) (by omega) ?_ ?_ (by unfold i_F; omega) (by omega) rfl ⟨fz_refl, rfl, fun c hc => absurd hc (by omega)⟩
  · intro m k i N' g1 g2 g3 g4 g5
    obtain ⟨f1, t0, t1⟩ := g4
    unfold j_fillI_27_L5
    rw [if_pos (by rw [a_lt]; omega), g_ok (by omega) (by omega), a_k g1]
    refine g5 _ ⟨fz_wI f1 rfl, ?_, fun c hc => ?_⟩
    · rw [← t0]
      funext x
      rw [m_wI, if_neg (by omega)]
    · rw [m_wI]
      by_cases q : c = k
      · rw [q, if_pos ⟨rfl, rfl⟩]
      · rw [if_neg (by omega)]
        exact t1 c (by omega)
  · intro m i N' g1 g2
    unfold j_fillI_27_L5
    rw [if_neg (by rw [a_lt]; omega)]
    exact T_some g2
/-- the table of what is heard answers what would be heard of a place -/
theorem hb_hv (h : INV L_law M) (hc : i_ce (M.1 50 6) (M.1 50 7) = nc) {note st p d : Nat} {x : Int32} (hp : p < 10 * nc) (h25 : nc ≤ 25) (hn : note < 10) (hd : (h_far (M.1 50 7) (Int32.ofNat st) (Int32.ofNat (p / 10))).toInt = d) (hx : x = i_abs (Int32.ofNat (p % 10) - Int32.ofNat note)) : ∃ q : Nat, x.toInt = q ∧ q < 10 ∧ v_hb M ls (p / 10) d q = v_hv M ls note st p := by
  have e1 : (Int32.ofNat (p % 10)).toInt = ((p % 10 : Nat) : Int) := a_on (by omega)
  have e2 : (Int32.ofNat note).toInt = (note : Int) := a_on (by omega)
  have s1 : (Int32.ofNat (p % 10) - Int32.ofNat note).toInt = ((p % 10 : Nat) : Int) - note := by rw [a_sub] <;> rw [e1, e2]; all_goals omega
  have s2 : (Int32.ofNat note - Int32.ofNat (p % 10)).toInt = (note : Int) - ((p % 10 : Nat) : Int) := by rw [a_sub] <;> rw [e1, e2]; all_goals omega
  have b1 := abs_e (x := Int32.ofNat (p % 10) - Int32.ofNat note) (by omega)
  have b2 := abs_e (x := Int32.ofNat note - Int32.ofNat (p % 10)) (by omega)
  have b3 : x = i_abs (Int32.ofNat note - Int32.ofNat (p % 10)) := by rw [hx, a_eq, b1, b2]; omega
  have b4 : 0 ≤ x.toInt ∧ x.toInt < 10 := by rw [hx, b1]; omega
  refine ⟨x.toInt.toNat, by omega, by omega, ?_⟩
  unfold v_hb v_hv
  rw [← of_k hd, ← b3, show Int32.ofNat x.toInt.toNat = x from (of_k (by omega)).symm]
theorem great_b (h : INV L_law M) (hc : i_ce (M.1 50 6) (M.1 50 7) = nc) (h25 : nc ≤ 25) (hf : fv M N) (h10 : N.1 22 10 = Int32.ofNat (v_F M (10 * nc)).length) (h26 : ∀ j p, (v_F M (10 * nc))[j]? = some p → N.1 26 j = Int32.ofNat p) (ht : ∀ c d q, c < nc → d < 9 → q < 10 → N.1 25 ((c * 9 + d) * 10 + q) = v_hb M ls c d q) {note st : Nat} (hn : note < 10) (hs : st < nc) {l1 l2 : Int32} (e1 : l1.toInt = note) (e2 : l2.toInt = st) : T (b_Search_greatestPart l1 l2 N) (fun r => r.1 = Int32.ofNat (v_gp M ls (10 * nc) note st) ∧ fz z_p N r.2 ∧ r.2.1 22 = N.1 22) := by
  have hlen := F_len (M := M) (k := 10 * nc)
  have eL : (Int32.ofNat (v_F M (10 * nc)).length).toInt = ((v_F M (10 * nc)).length : Int) := a_on (by omega)
  unfold b_Search_greatestPart
  refine T_bind (T_mono fill27 (fun N1 hN1 => ?_))
  obtain ⟨a1, a2, a3⟩ := hN1
  refine T_for (σ := Int32 × I_M) (N := (v_F M (10 * nc)).length) (a := 0) (f := fun m i s => b_Search_greatestPart_L13 l1 l2 m s.1 i s.2) (s := ((0 : Int32), N1)) (fun k s => s.1 = Int32.ofNat (v_st (v_val M ls note st) ((v_F M (10 * nc)).take k)).1 ∧ fz z_p N s.2 ∧ s.2.1 22 = N.1 22 ∧ ∀ v, v < 100 → s.2.1 27 v = Int32.ofNat ((v_st (v_val M ls note st) ((v_F M (10 * nc)).take k)).2 v)) (by omega) ?_ ?_ (by unfold i_F; omega) (by omega) rfl ⟨rfl, a1, a2, a3⟩
  · intro m k i s g1 g2 g3 g4 g5
    obtain ⟨u, N2⟩ := s
    obtain ⟨w1, w2, w3, w4⟩ := g4
    dsimp only at w1 w2 w3 w4 ⊢
    obtain ⟨p, hp⟩ : ∃ p, (v_F M (10 * nc))[k]? = some p := ⟨_, List.getElem?_eq_getElem g3⟩
    have hpl := F_lt hp
    have htk : (v_F M (10 * nc)).take (k + 1) = (v_F M (10 * nc)).take k ++ [p] := by rw [List.take_succ, hp]; rfl
    rw [htk, st_s] at g5
    have hle := st_le (val := v_val M ls note st) (l := (v_F M (10 * nc)).take k)
    have htl : ((v_F M (10 * nc)).take k).length ≤ 250 := by rw [List.length_take]; omega
    have fN2 : fv M N2 := fv_trans hf (fv_fz w2 z_p_sc)
    have hi2 := fv_inv h fN2
    have w6 := fN2.1 50 6 rfl
    have w7 := fN2.1 50 7 rfl
    have e26 : N2.1 26 k = Int32.ofNat p := by rw [w2.2 26 k rfl]; exact h26 k p hp
    have ep : (Int32.ofNat p).toInt = p := a_on (by omega)
    obtain ⟨d1, d2, d3, d4⟩ := pl_d ep
    have hcell : p / 10 < nc := by omega
    generalize v_st (v_val M ls note st) ((v_F M (10 * nc)).take k) = S at *
    unfold b_Search_greatestPart_L13
    rw [show N2.1 22 10 = N.1 22 10 by rw [w3], h10, if_pos (by rw [a_lt]; omega), g_ok (by omega) (by omega), a_k g1, e26]
    refine T_let ?_
    try dsimp only
    rw [far_b hi2.1 (by omega) (by rw [w6, w7, hc]; omega) (by omega) (by rw [w6, w7, hc]; omega)]
    dsimp only [Option.bind_some]
    have f8 := far_8 hi2.1 (a := l2) (b := Int32.ofNat p / 10) (by omega) (by rw [w6, w7, hc]; omega) (by omega) (by rw [w6, w7, hc]; omega)
    rw [w7] at f8 ⊢
    obtain ⟨d, hd⟩ : ∃ d : Nat, (h_far (M.1 50 7) l2 (Int32.ofNat p / 10)).toInt = d := ⟨(h_far (M.1 50 7) l2 (Int32.ofNat p / 10)).toInt.toNat, by omega⟩
    have hx := hb_hv (ls := ls) h hc (note := note) (st := st) (p := p) (d := d) (x := i_abs (i_rem (Int32.ofNat p) 10 - l1)) hpl h25 hn (by rw [← of_k e2, ← d3]; exact hd) (by rw [d4, of_k e1])
    obtain ⟨q, q1, q2, q3⟩ := hx
    have bi := by_i d1 hd q1 (by omega) (by omega) q2
    rw [g_ok (by omega) (by omega), a_k bi, w2.2 25 _ rfl, ht _ _ _ hcell (by omega) q2, q3]
    obtain ⟨v1, v2⟩ := hv_rg (M := M) (ls := ls) (note := note) (st := st) (p := p)
    refine T_let ?_
    try dsimp only
    rw [g_ok (by omega) (by omega), a_k v1, w4 _ v2, ofn_1]
    refine T_let ?_
    try dsimp only
    rw [m_wI, if_pos ⟨rfl, rfl⟩]
    have c1 := hle.1
    have c2 := hle.2 (v_val M ls note st p)
    have x1 : (Int32.ofNat S.1).toInt = (S.1 : Int) := a_on (by omega)
    have x2 : (Int32.ofNat (S.2 (v_val M ls note st p) + 1)).toInt = ((S.2 (v_val M ls note st p) + 1 : Nat) : Int) := a_on (by omega)
    have x3 : (Int32.ofNat (max S.1 (S.2 (v_val M ls note st p) + 1))).toInt = ((max S.1 (S.2 (v_val M ls note st p) + 1) : Nat) : Int) := a_on (by omega)
    refine g5 (i_max u (Int32.ofNat (S.2 (v_val M ls note st p) + 1)), i_wI N2 27 (v_val M ls note st p) (Int32.ofNat (S.2 (v_val M ls note st p) + 1))) ⟨?_, fz_wI w2 rfl, ?_, fun v hv => ?_⟩
    · dsimp only
      rw [w1, a_eq, max_e, x1, x2, x3]
      omega
    · dsimp only
      rw [← w3]
      funext x
      rw [m_wI, if_neg (by omega)]
    · dsimp only
      rw [m_wI]
      by_cases e : v = v_val M ls note st p
      · rw [e, if_pos ⟨rfl, rfl⟩, if_pos rfl]
      · rw [if_neg (by omega), if_neg e]
        exact w4 v hv
  · intro m i s g1 g2
    obtain ⟨u, N2⟩ := s
    obtain ⟨w1, w2, w3, w4⟩ := g2
    dsimp only at w1 w2 w3 w4 ⊢
    unfold b_Search_greatestPart_L13
    rw [show N2.1 22 10 = N.1 22 10 by rw [w3], h10, if_neg (by rw [a_lt]; omega)]
    refine T_some ⟨?_, w2, w3⟩
    rw [List.take_length] at w1
    exact w1
end NB
