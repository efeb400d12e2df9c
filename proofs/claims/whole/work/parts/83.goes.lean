/-! ===== part 83: the class goes through all pairs ===== -/
/-- memory that differs only where Z says -/
def fz (Z : Nat → Nat → Bool) (M M' : I_M) : Prop := M'.2 = M.2 ∧ ∀ q k, Z q k = false → M'.1 q k = M.1 q k
section FZ
variable {M M' M'' : I_M} {Z Y : Nat → Nat → Bool} {q k : Nat} {v : Int32}
theorem fz_refl : fz Z M M := ⟨rfl, fun _ _ _ => rfl⟩
theorem fz_trans (h : fz Z M M') (h2 : fz Z M' M'') : fz Z M M'' := ⟨h2.1.trans h.1, fun q k hq => (h2.2 q k hq).trans (h.2 q k hq)⟩
theorem fz_wI (h : fz Z M M') (hs : Z q k = true) : fz Z M (i_wI M' q k v) := by
  refine ⟨h.1, fun a b hab => ?_⟩
  rw [m_wI]
  by_cases c : a = q ∧ b = k
  · obtain ⟨rfl, rfl⟩ := c
    rw [hs] at hab
    exact absurd hab (by decide)
  · rw [if_neg c]
    exact h.2 a b hab
theorem fv_fz (h : fz Z M M') (hs : ∀ q k, Z q k = true → i_sc q k = true) : fv M M' := by
  refine ⟨fun q k hq => h.2 q k ?_, fun q _ => by rw [h.1]⟩
  cases e : Z q k with
  | false => rfl
  | true => rw [hs q k e] at hq; cases hq
end FZ
def z_c (q _k : Nat) : Bool := q == 22 || q == 24
theorem z_c_sc : ∀ q k, z_c q k = true → i_sc q k = true := by
  intro q k h
  unfold z_c at h
  simp only [Bool.or_eq_true, beq_iff_eq] at h
  rcases h with h | h <;> subst h <;> rfl
/-- in how many of them a cell has a bell -/
def v_ct (W : List (Nat × Nat)) (c : Nat) : Nat := W.countP (fun w => w.1 / 10 == c || w.2 / 10 == c)
section CT
variable {W : List (Nat × Nat)} {w : Nat × Nat} {c : Nat}
theorem ct_s : v_ct (W ++ [w]) c = v_ct W c + (if w.1 / 10 = c ∨ w.2 / 10 = c then 1 else 0) := by
  unfold v_ct
  rw [List.countP_append, List.countP_cons, List.countP_nil, Nat.zero_add]
  simp only [Bool.or_eq_true, beq_iff_eq]
theorem ct_le : v_ct W c ≤ W.length := List.countP_le_length
theorem hd_s {x : Nat × Nat} (h : (W ++ [w]).head? = some x) : (W = [] ∧ x = w) ∨ (W ≠ [] ∧ W.head? = some x) := by
  cases W with
  | nil =>
    rw [List.nil_append] at h
    cases h
    exact Or.inl ⟨rfl, rfl⟩
  | cons a t =>
    refine Or.inr ⟨fun e => (by cases e), ?_⟩
    rw [List.cons_append] at h
    exact h
theorem fl_s {f : Nat × Nat → Bool} : (W ++ [w]).filter f = if f w = true then W.filter f ++ [w] else W.filter f := by
  rw [List.filter_append, List.filter_cons, List.filter_nil]
  split
  · rfl
  · rw [List.append_nil]
theorem ofn_1 {n : Nat} : Int32.ofNat n + 1 = Int32.ofNat (n + 1) := (Int32.ofNat_add n 1).symm
theorem ofn_0 {n : Nat} (h : n < 1000000) : (Int32.ofNat n = 0) ↔ n = 0 := by
  rw [a_eq, a_on (by omega), Int32.toInt_zero]
  omega
theorem len_0 {W : List (Nat × Nat)} : W.length = 0 ↔ W = [] := List.length_eq_zero_iff
end CT
section LH
variable {n nc p : Nat}
theorem lo_hi (hn : n = 1 ∨ n = 2) (h25 : nc ≤ 25) (hp : p < 10 * nc) : v_lo n p ≤ v_hi n (10 * nc) p ∧ v_hi n (10 * nc) p ≤ 10 * nc ∧ (∀ o, v_lo n p ≤ o → o < v_hi n (10 * nc) p → v_pl n (10 * nc) (p, o)) ∧ v_hi n (10 * nc) p ≤ v_lo n p + 250 := by
  unfold v_lo v_hi v_pl
  rcases hn with rfl | rfl
  · rw [if_pos rfl, if_pos rfl]
    refine ⟨by omega, by omega, fun o h1 h2 => ⟨hp, by dsimp only; omega, Or.inl ⟨rfl, by dsimp only; omega⟩⟩, by omega⟩
  · rw [if_neg (by decide), if_neg (by decide)]
    refine ⟨by omega, by omega, fun o h1 h2 => ⟨hp, by dsimp only; omega, Or.inr ⟨rfl, by dsimp only; omega⟩⟩, by omega⟩
theorem seg_len {a k : Nat} : (v_seg p a k).length = k - a := by
  unfold v_seg
  rw [List.length_map, List.length_range']
theorem pre_len (hn : n = 1 ∨ n = 2) (h25 : nc ≤ 25) : ∀ k, k ≤ 10 * nc → (v_pre n (10 * nc) k).length ≤ 250 * k := by
  intro k
  induction k with
  | zero => exact fun _ => Nat.le_refl 0
  | succ k ih =>
    intro hk
    have h1 := ih (by omega)
    have h2 := (lo_hi hn h25 (p := k) (by omega)).2.2.2
    rw [pre_s, List.length_append, seg_len]
    omega
theorem fil_len (hn : n = 1 ∨ n = 2) (h25 : nc ≤ 25) {f : Nat × Nat → Bool} {k q a b : Nat} (hk : k ≤ 10 * nc) (hb : b ≤ a + 250) : ((v_pre n (10 * nc) k ++ v_seg q a b).filter f).length < 1000000 := by
  have h1 := List.length_filter_le f (v_pre n (10 * nc) k ++ v_seg q a b)
  have h2 := pre_len hn h25 k hk
  rw [List.length_append, seg_len] at h1
  omega
end LH
/-- what the class keeps of the ways so far -/
def v_C (W : List (Nat × Nat)) (N : I_M) : Prop := N.1 22 5 = Int32.ofNat W.length ∧ (∀ w, W.head? = some w → N.1 22 6 = Int32.ofNat w.1 ∧ N.1 22 7 = Int32.ofNat w.2) ∧ ∀ c, c < 25 → N.1 24 c = Int32.ofNat (v_ct W c)
section CB
variable {M N M' : I_M} {n nc nh : Nat} {W : List (Nat × Nat)}
theorem way17_b {p o : Nat} {l1 l2 : Int32} (e1 : l1.toInt = p) (e2 : l2.toInt = o) (hp : p < 250) (ho : o < 250) (hpo : o = p ∨ p / 10 < o / 10) (hw : v_C W N) (h0 : W = [] → N.1 22 6 = l1 ∧ N.1 22 7 = l2) : T (b_Search_countWay_B17 l1 l2 N) (fun N' => fz z_c N N' ∧ v_C (W ++ [(p, o)]) N') := by
  obtain ⟨w1, w2, w3⟩ := hw
  obtain ⟨d1, d2, d3, d4⟩ := pl_d e1
  obtain ⟨c1, c2, c3, c4⟩ := pl_d e2
  have eL : (W ++ [(p, o)]).length = W.length + 1 := by rw [List.length_append]; rfl
  have HD : ∀ w, (W ++ [(p, o)]).head? = some w → N.1 22 6 = Int32.ofNat w.1 ∧ N.1 22 7 = Int32.ofNat w.2 := by
    intro w hw
    rcases hd_s hw with ⟨q1, q2⟩ | ⟨q1, q2⟩
    · rw [q2]
      obtain ⟨q3, q4⟩ := h0 q1
      exact ⟨by rw [q3, of_k e1], by rw [q4, of_k e2]⟩
    · exact w2 w q2
  unfold b_Search_countWay_B17
  rw [g_ok (by omega) (by omega), a_k d1]
  by_cases q : o = p
  · rw [if_pos (by rw [a_eq]; omega)]
    refine T_some ⟨fz_wI (fz_wI fz_refl rfl) rfl, ?_, fun w hw => ?_, fun c hc => ?_⟩
    · rw [m_wI, if_neg (by omega), m_wI, if_pos ⟨rfl, rfl⟩, w1, ofn_1, eL]
    · rw [m_wI, if_neg (by omega), m_wI, if_neg (by omega), m_wI, if_neg (by omega), m_wI, if_neg (by omega)]
      exact HD w hw
    · rw [ct_s]
      dsimp only
      by_cases z : c = p / 10
      · rw [z, m_wI, if_pos ⟨rfl, rfl⟩, if_pos (Or.inl rfl), w3 _ (by omega), ofn_1]
      · rw [m_wI, if_neg (by omega), m_wI, if_neg (by omega), if_neg (by rw [q]; omega), w3 c hc]
        rfl
  · rw [if_neg (by rw [a_eq]; omega), g_ok (by omega) (by omega), a_k c1]
    have hne : p / 10 ≠ o / 10 := by omega
    refine T_some ⟨fz_wI (fz_wI (fz_wI fz_refl rfl) rfl) rfl, ?_, fun w hw => ?_, fun c hc => ?_⟩
    · rw [m_wI, if_neg (by omega), m_wI, if_neg (by omega), m_wI, if_pos ⟨rfl, rfl⟩, w1, ofn_1, eL]
    · rw [m_wI, if_neg (by omega), m_wI, if_neg (by omega), m_wI, if_neg (by omega), m_wI, if_neg (by omega), m_wI, if_neg (by omega), m_wI, if_neg (by omega)]
      exact HD w hw
    · rw [ct_s]
      dsimp only
      by_cases z : c = o / 10
      · rw [z, m_wI, if_pos ⟨rfl, rfl⟩, m_wI, if_neg (by omega), m_wI, if_neg (by omega), if_pos (Or.inr rfl), w3 _ (by omega), ofn_1]
      · by_cases y : c = p / 10
        · rw [y, m_wI, if_neg (by omega), m_wI, if_pos ⟨rfl, rfl⟩, if_pos (Or.inl rfl), w3 _ (by omega), ofn_1]
        · rw [m_wI, if_neg (by omega), m_wI, if_neg (by omega), m_wI, if_neg (by omega), if_neg (by omega), w3 c hc]
          rfl
theorem way_b {p o : Nat} {l1 l2 : Int32} (e1 : l1.toInt = p) (e2 : l2.toInt = o) (hp : p < 250) (ho : o < 250) (hpo : o = p ∨ p / 10 < o / 10) (hw : v_C W N) (hl : W.length < 1000000) : T (b_Search_countWay l1 l2 N) (fun N' => fz z_c N N' ∧ v_C (W ++ [(p, o)]) N') := by
  have w1 := hw.1
  unfold b_Search_countWay
  by_cases q : W = []
  · rw [w1, if_pos ((ofn_0 hl).mpr (len_0.mpr q))]
    refine T_mono (way17_b e1 e2 hp ho hpo (W := W) (N := i_wI (i_wI N 22 6 l1) 22 7 l2) ⟨?_, fun w hx => ?_, fun c hc => ?_⟩ (fun _ => ⟨?_, ?_⟩)) (fun N' hN => ⟨fz_trans (fz_wI (fz_wI fz_refl rfl) rfl) hN.1, hN.2⟩)
    · rw [m_wI, if_neg (by omega), m_wI, if_neg (by omega)]
      exact w1
    · rw [q] at hx
      cases hx
    · rw [m_wI, if_neg (by omega), m_wI, if_neg (by omega)]
      exact hw.2.2 c hc
    · rw [m_wI, if_neg (by omega), m_wI, if_pos ⟨rfl, rfl⟩]
    · rw [m_wI, if_pos ⟨rfl, rfl⟩]
  · rw [w1, if_neg (fun e => q (len_0.mp ((ofn_0 hl).mp e)))]
    exact way17_b e1 e2 hp ho hpo hw (fun e => absurd e q)
theorem fill24 : T (j_fillI_24 0 N) (fun N' => fz z_c N N' ∧ N'.1 22 = N.1 22 ∧ ∀ c, c < 25 → N'.1 24 c = 0) := by
  unfold j_fillI_24
  have l25 : (25 : Int32).toInt = 25 := rfl
  refine T_for (N := 25) (a := 0) (f := j_fillI_24_L5 0 25) (fun k N' => fz z_c N N' ∧ N'.1 22 = N.1 22 ∧ ∀ c, c < k → N'.1 24 c = 0) (by omega) ?_ ?_ (by unfold i_F; omega) (by omega) rfl ⟨fz_refl, rfl, fun c hc => absurd hc (by omega)⟩
  · intro m k i N' g1 g2 g3 g4 g5
    obtain ⟨f1, t0, t1⟩ := g4
    unfold j_fillI_24_L5
    rw [if_pos (by rw [a_lt]; omega), g_ok (by omega) (by omega), a_k g1]
    refine g5 _ ⟨fz_wI f1 rfl, ?_, fun c hc => ?_⟩
    · rw [← t0]
      funext x
      rw [m_wI, if_neg (by omega)]
    · rw [m_wI]
      by_cases q : c = k
      · rw [q, if_pos ⟨rfl, rfl⟩]
      · rw [if_neg (by omega)]
        exact t1 c (by omega)
  · intro m i N' g1 g2
    unfold j_fillI_24_L5
    rw [if_neg (by rw [a_lt]; omega)]
    exact T_some g2
theorem pl_250 {w : Nat × Nat} (h25 : nc ≤ 25) (h : v_pl n (10 * nc) w) : w.1 < 250 ∧ w.2 < 250 ∧ (w.2 = w.1 ∨ w.1 / 10 < w.2 / 10) := by
  obtain ⟨h1, h2, h3⟩ := h
  exact ⟨by omega, by omega, h3.elim (fun h3 => Or.inl h3.2) (fun h3 => Or.inr h3.2)⟩
def v_W (M : I_M) (n P : Nat) (sk : Int) : List (Nat × Nat) := (v_pre n P P).filter (v_ok M sk)
theorem sec_b (h : INV L_law M) (hc : i_ce (M.1 50 6) (M.1 50 7) = nc) (h25 : nc ≤ 25) (hn : n = 1 ∨ n = 2) {l1 i : Int32} {p : Nat} (e1 : l1.toInt = n) (ei : i.toInt = p) (hp : p < 10 * nc) (hf : fv M N) : (∃ x, b_Search_secondsEnd l1 i N = some (x, N) ∧ x.toInt = v_hi n (10 * nc) p) ∧ ∃ y, b_Search_seconds l1 i N = some (y, N) ∧ y.toInt = v_lo n p := by
  have l1' : (1 : Int32).toInt = 1 := rfl
  have l10 : (10 : Int32).toInt = 10 := rfl
  have eP : (Int32.ofNat (10 * nc)).toInt = ((10 * nc : Nat) : Int) := a_on (by omega)
  obtain ⟨d1, d2, d3, d4⟩ := pl_d ei
  have k1 : (i / 10 + 1).toInt = ((p / 10 + 1 : Nat) : Int) := by rw [a_a1 (by omega), d1]; omega
  refine ⟨?_, ?_⟩
  · unfold b_Search_secondsEnd v_hi
    by_cases q : n = 1
    · rw [if_pos (by rw [a_eq]; omega), if_pos q]
      exact ⟨_, rfl, by rw [a_a1 (by omega), ei]; omega⟩
    · rw [if_neg (by rw [a_eq]; omega), if_neg q, places_b h hc h25 hf]
      exact ⟨_, rfl, eP⟩
  · unfold b_Search_seconds v_lo
    by_cases q : n = 1
    · rw [if_pos (by rw [a_eq]; omega), if_pos q]
      exact ⟨_, rfl, ei⟩
    · rw [if_neg (by rw [a_eq]; omega), if_neg q]
      refine ⟨_, rfl, ?_⟩
      rw [a_mul, k1, l10] <;> (try rw [k1, l10]) <;> omega
theorem go_b (h : INV L_law M) (hc : i_ce (M.1 50 6) (M.1 50 7) = nc) (h25 : nc ≤ 25) (hh : (M.1 50 24).toInt = nh) (hn : n = 1 ∨ n = 2) {l1 sk : Int32} (e1 : l1.toInt = n) (hf : fv M M') : T (b_Search_goThrough l1 sk M') (fun N => fv M N ∧ v_C (v_W M n (10 * nc) sk.toInt) N) := by
  have eP : (Int32.ofNat (10 * nc)).toInt = ((10 * nc : Nat) : Int) := a_on (by omega)
  unfold b_Search_goThrough
  refine T_bind (T_mono (listen_b h hc h25 hh hf) (fun N1 hN1 => ?_))
  obtain ⟨a1, a2⟩ := hN1
  refine T_bind (T_mono fill24 (fun N2 hN2 => ?_))
  obtain ⟨b1, b2, b3⟩ := hN2
  have c1 : fz z_c N1 N2 := fz_trans (fz_wI fz_refl rfl) b1
  have fN1 : fv M N1 := fv_trans hf (fv_fq a1 (fun _ => rfl))
  have FV : ∀ {N}, fz z_c N1 N → fv M N := fun hN => fv_trans fN1 (fv_fz hN z_c_sc)
  have TB : ∀ {N}, fz z_c N1 N → ∀ x p, x < nh → p < 10 * nc → N.1 23 (250 * x + p) = v_ld M x p := fun hN x p hx hp => by rw [hN.2 23 _ rfl]; exact a2 x p hx hp
  refine T_for (N := 10 * nc) (a := 0) (f := b_Search_goThrough_L19 l1 sk) (fun k N => fz z_c N1 N ∧ v_C ((v_pre n (10 * nc) k).filter (v_ok M sk.toInt)) N) (by omega) ?_ ?_ (by unfold i_F; omega) (by omega) rfl ⟨c1, ?_, ?_, ?_⟩
  · intro m p i N g1 g2 g3 g4 g5
    obtain ⟨f1, w1⟩ := g4
    obtain ⟨⟨x, x1, x2⟩, y, y1, y2⟩ := sec_b h hc h25 hn e1 g1 g3 (FV f1)
    obtain ⟨z1, z2, z3, z4⟩ := lo_hi hn h25 g3
    unfold b_Search_goThrough_L19
    rw [places_b h hc h25 (FV f1)]
    dsimp only [Option.bind_some]
    rw [if_pos (by rw [a_lt]; omega)]
    refine T_bind (T_ok x1 (T_bind (T_ok y1 ?_)))
    refine T_for (N := v_hi n (10 * nc) p) (a := v_lo n p) (f := b_Search_goThrough_L43 l1 sk i x _) (fun k N => fz z_c N1 N ∧ v_C ((v_pre n (10 * nc) p ++ v_seg p (v_lo n p) k).filter (v_ok M sk.toInt)) N) (by omega) ?_ ?_ (by unfold i_F; omega) z1 y2 ⟨f1, by rw [seg_0, List.append_nil]; exact w1⟩
    · intro m' o j N' g1' g2' g3' g4' g5'
      obtain ⟨f2, w2⟩ := g4'
      have pl := z3 o g2' g3'
      have p2 := pl_250 h25 pl
      rw [seg_s g2', ← List.append_assoc, fl_s] at g5'
      unfold b_Search_goThrough_L43
      rw [if_pos (by rw [a_lt]; omega), fits_b h hh (FV f2) (TB f2) h25 pl.1 pl.2.1 g1 g1']
      dsimp only [Option.bind_some]
      by_cases q : v_ok M sk.toInt (p, o) = true
      · rw [if_pos q] at g5'
        rw [bo_p q, if_neg (by decide)]
        refine T_bind (T_mono (way_b g1 g1' p2.1 p2.2.1 p2.2.2 w2 (fil_len hn h25 (by omega) (by omega))) (fun N3 hN3 => ?_))
        exact g5' _ ⟨fz_trans f2 hN3.1, hN3.2⟩
      · rw [if_neg q] at g5'
        rw [bo_n q, if_pos rfl]
        exact g5' _ ⟨f2, w2⟩
    · intro m' j N' g1' g2'
      unfold b_Search_goThrough_L43
      rw [if_neg (by rw [a_lt]; omega)]
      refine g5 N' ⟨g2'.1, ?_⟩
      rw [pre_s]
      exact g2'.2
  · intro m i N g1 g2
    unfold b_Search_goThrough_L19
    rw [places_b h hc h25 (FV g2.1)]
    dsimp only [Option.bind_some]
    rw [if_neg (by rw [a_lt]; omega)]
    exact T_some ⟨FV g2.1, g2.2⟩
  · rw [b2, m_wI, if_pos ⟨rfl, rfl⟩]
    rfl
  · intro w hw
    cases hw
  · intro c hc
    rw [b3 c hc]
    rfl
end CB
