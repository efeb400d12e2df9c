/-! ===== part 84: the reference goes through all pairs ===== -/
def z_r (q k : Nat) : Bool := q == 63 || (q == 50 && (k == 27 || k == 28 || k == 29 || k == 30 || k == 31 || k == 33))
theorem z_r_sc : ∀ q k, z_r q k = true → i_sc q k = true := by
  intro q k h
  unfold z_r at h
  simp only [Bool.or_eq_true, Bool.and_eq_true, beq_iff_eq] at h
  rcases h with h | ⟨h, (((((g | g) | g) | g) | g) | g)⟩
  · subst h
    rfl
  all_goals subst h g; rfl
/-- the better of two told sets: fewer bits, of like ones the less -/
def v_bt (a b : Nat) : Nat := if i_bc (Int32.ofNat b) < i_bc (Int32.ofNat a) ∨ (i_bc (Int32.ofNat b) = i_bc (Int32.ofNat a) ∧ b < a) then b else a
def v_bs (M : I_M) (l : List (Nat × Nat)) : Nat := l.foldl (fun a w => v_bt a (v_li M w.1 w.2)) (2 ^ (M.1 50 24).toInt.toNat - 1)
theorem bt_1 : ∀ n, n < 11 → ∀ x, x < 2 ^ n → v_bt (2 ^ n - 1) x = x := by
  intro n hn x hx
  have key : ∀ n, n < 11 → ∀ x, x < 2 ^ n → (decide (i_bc (Int32.ofNat x) < i_bc (Int32.ofNat (2 ^ n - 1))) || decide (x = 2 ^ n - 1)) = true := by decide +kernel
  have k := key n hn x hx
  rw [Bool.or_eq_true, decide_eq_true_eq, decide_eq_true_eq] at k
  unfold v_bt
  rcases k with k | k
  · rw [if_pos (Or.inl k)]
  · rw [k]
    split <;> rfl
theorem bs_s {M : I_M} {l : List (Nat × Nat)} {w : Nat × Nat} : v_bs M (l ++ [w]) = v_bt (v_bs M l) (v_li M w.1 w.2) := by
  unfold v_bs
  rw [List.foldl_append]
  rfl
theorem bt_lt {a b : Nat} (ha : a < 1024) (hb : b < 1024) : v_bt a b < 1024 := by
  unfold v_bt
  split
  · exact hb
  · exact ha
theorem bs_lt {M : I_M} (h10 : (M.1 50 24).toInt.toNat ≤ 10) {l : List (Nat × Nat)} : v_bs M l < 1024 := by
  have key : ∀ (l : List (Nat × Nat)) (a : Nat), a < 1024 → l.foldl (fun a w => v_bt a (v_li M w.1 w.2)) a < 1024 := by
    intro l
    induction l with
    | nil => exact fun a ha => ha
    | cons w l ih => exact fun a ha => ih _ (bt_lt ha (li_lt h10))
  refine key l _ ?_
  have h2 := Nat.pow_le_pow_right (n := 2) (by omega) h10
  have e : (2 : Nat) ^ 10 = 1024 := by decide
  omega
/-- what the reference keeps of the ways so far, and the told sets so far -/
def v_R (n : Nat) (W : List (Nat × Nat)) (N : I_M) : Prop := N.1 50 27 = Int32.ofNat W.length ∧ (∀ w, W.head? = some w → N.1 50 28 = Int32.ofNat w.1 ∧ (n = 2 → N.1 50 29 = Int32.ofNat w.2)) ∧ (∀ c, c < 25 → N.1 63 c = Int32.ofNat (v_ct W c)) ∧ (∀ i, i < 32 → (i_b (N.1 50 31) i = true ↔ 0 < v_ct W i)) ∧ (W ≠ [] → ∀ i, i < 32 → (i_b (N.1 50 30) i = true ↔ v_ct W i = W.length))
def v_B (M : I_M) (l : List (Nat × Nat)) (N : I_M) : Prop := (l = [] ∧ N.1 50 33 = -2) ∨ (l ≠ [] ∧ N.1 50 33 = Int32.ofNat (v_bs M l))
section CR
variable {M N M' : I_M} {n nc nh : Nat} {W l : List (Nat × Nat)}
/-- how the reference tells the other place: none where it is alone -/
def v_o (n : Nat) (l2 : Int32) (p o : Nat) : Prop := (n = 1 ∧ l2 = -1 ∧ o = p) ∨ (n = 2 ∧ l2.toInt = o ∧ p / 10 < o / 10)
theorem way132_r {p o : Nat} {l1 l2 l5 : Int32} (e1 : l1.toInt = p) (e2 : v_o n l2 p o) (hp : p < 250) (ho : o < 250) (hb : ∀ i, i < 32 → (i_b l5 i = true ↔ (p / 10 = i ∨ o / 10 = i))) (hw : v_R n W N) (h0 : W = [] → N.1 50 28 = l1 ∧ N.1 50 29 = l2 ∧ N.1 50 30 = l5) : T (r_counts_B132 l1 l2 l5 N) (fun N' => fz z_r N N' ∧ N'.1 50 33 = N.1 50 33 ∧ v_R n (W ++ [(p, o)]) N') := by
  obtain ⟨w1, w2, w3, w4, w5⟩ := hw
  obtain ⟨d1, d2, d3, d4⟩ := pl_d e1
  have l0 := Int32.toInt_zero
  have eL : (W ++ [(p, o)]).length = W.length + 1 := by rw [List.length_append]; rfl
  have HD : ∀ w, (W ++ [(p, o)]).head? = some w → N.1 50 28 = Int32.ofNat w.1 ∧ (n = 2 → N.1 50 29 = Int32.ofNat w.2) := by
    intro w hw
    rcases hd_s hw with ⟨q1, q2⟩ | ⟨q1, q2⟩
    · rw [q2]
      obtain ⟨q3, q4, q5⟩ := h0 q1
      refine ⟨by rw [q3, of_k e1], fun hn => ?_⟩
      rcases e2 with ⟨q, _, _⟩ | ⟨_, q, _⟩
      · omega
      · rw [q4, of_k q]
    · exact w2 w q2
  have ANY : ∀ i, i < 32 → (i_b (N.1 50 31 ||| l5) i = true ↔ 0 < v_ct (W ++ [(p, o)]) i) := by
    intro i hi
    rw [b_or, Bool.or_eq_true, w4 i hi, hb i hi, ct_s]
    dsimp only
    by_cases q : p / 10 = i ∨ o / 10 = i
    · rw [if_pos q]
      exact ⟨fun _ => by omega, fun _ => Or.inr q⟩
    · rw [if_neg q]
      exact ⟨fun hx => by rcases hx with hx | hx; · omega
                          · exact absurd hx q, fun hx => Or.inl (by omega)⟩
  have ALL : ∀ i, i < 32 → (i_b (N.1 50 30 &&& l5) i = true ↔ v_ct (W ++ [(p, o)]) i = (W ++ [(p, o)]).length) := by
    intro i hi
    rw [b_and, Bool.and_eq_true, hb i hi, ct_s, eL]
    dsimp only
    have hle := ct_le (W := W) (c := i)
    by_cases q : p / 10 = i ∨ o / 10 = i
    · rw [if_pos q]
      by_cases z : W = []
      · rw [(h0 z).2.2, hb i hi, z]
        exact ⟨fun _ => rfl, fun _ => ⟨q, q⟩⟩
      · rw [w5 z i hi]
        exact ⟨fun hx => by omega, fun hx => ⟨by omega, q⟩⟩
    · rw [if_neg q]
      exact ⟨fun hx => absurd hx.2 q, fun hx => by omega⟩
  unfold r_counts_B132
  rw [g_ok (by omega) (by omega), a_k d1]
  rcases e2 with ⟨q1, q2, q3⟩ | ⟨q1, q2, q3⟩
  · rw [if_pos (by rw [q2]; decide)]
    refine T_some ⟨fz_wI (fz_wI (fz_wI (fz_wI fz_refl rfl) rfl) rfl) rfl, rfl, ?_, fun w hw => ?_, fun c hc => ?_, ?_, fun _ => ?_⟩
    · show N.1 50 27 + 1 = _
      rw [w1, ofn_1, eL]
    · exact HD w hw
    · rw [ct_s]
      dsimp only
      by_cases z : c = p / 10
      · rw [z, m_wI, if_pos ⟨rfl, rfl⟩, if_pos (Or.inl rfl), w3 _ (by omega), ofn_1]
      · rw [m_wI, if_neg (by omega), if_neg (by rw [q3]; omega)]
        exact w3 c hc
    · exact ANY
    · exact ALL
  · obtain ⟨c1, c2, c3, c4⟩ := pl_d q2
    rw [if_neg (by rw [a_lt]; omega), g_ok (by omega) (by omega), a_k c1]
    refine T_some ⟨fz_wI (fz_wI (fz_wI (fz_wI (fz_wI fz_refl rfl) rfl) rfl) rfl) rfl, rfl, ?_, fun w hw => ?_, fun c hc => ?_, ?_, fun _ => ?_⟩
    · show N.1 50 27 + 1 = _
      rw [w1, ofn_1, eL]
    · exact HD w hw
    · rw [ct_s]
      dsimp only
      have hne : p / 10 ≠ o / 10 := by omega
      by_cases z : c = o / 10
      · rw [z, m_wI, if_pos ⟨rfl, rfl⟩, m_wI, if_neg (by omega), if_pos (Or.inr rfl), ← ofn_1, ← w3 _ (by omega)]
        rfl
      · by_cases y : c = p / 10
        · rw [y, m_wI, if_neg (by omega), m_wI, if_pos ⟨rfl, rfl⟩, if_pos (Or.inl rfl), w3 _ (by omega), ofn_1]
        · rw [m_wI, if_neg (by omega), m_wI, if_neg (by omega), if_neg (by omega)]
          exact w3 c hc
    · exact ANY
    · exact ALL
theorem way106_r {p o : Nat} {l1 l2 s0 s1 : Int32} (e1 : l1.toInt = p) (e2 : v_o n l2 p o) (hp : p < 250) (ho : o < 250) (hb : ∀ i, i < 32 → (i_b (s0 ||| s1) i = true ↔ (p / 10 = i ∨ o / 10 = i))) (hw : v_R n W N) (hl : W.length < 1000000) : T (r_counts_B106 l1 l2 s0 s1 N) (fun N' => fz z_r N N' ∧ N'.1 50 33 = N.1 50 33 ∧ v_R n (W ++ [(p, o)]) N') := by
  have w1 := hw.1
  unfold r_counts_B106
  by_cases q : W = []
  · rw [w1, if_pos ((ofn_0 hl).mpr (len_0.mpr q))]
    refine T_mono (way132_r e1 e2 hp ho hb (W := W) (N := i_wI (i_wI (i_wI N 50 28 l1) 50 29 l2) 50 30 (s0 ||| s1)) ⟨w1, fun w hx => ?_, hw.2.2.1, hw.2.2.2.1, fun hx => absurd q hx⟩ (fun _ => ⟨rfl, rfl, rfl⟩)) (fun N' hN => ⟨fz_trans (fz_wI (fz_wI (fz_wI fz_refl rfl) rfl) rfl) hN.1, hN.2.1, hN.2.2⟩)
    rw [q] at hx
    cases hx
  · rw [w1, if_neg (fun e => q (len_0.mp ((ofn_0 hl).mp e)))]
    exact way132_r e1 e2 hp ho hb hw (fun e => absurd e q)
theorem R_33 {v : Int32} (h : v_R n W N) : v_R n W (i_wI N 50 33 v) := h
theorem way71_r {p o : Nat} {l1 l2 s0 u sk : Int32} (h10 : (M.1 50 24).toInt.toNat ≤ 10) (hu : (sk = -1 ∧ u = 0) ∨ (0 ≤ sk.toInt ∧ sk.toInt < 10 ∧ u = (1 : Int32) <<< (sk &&& 31))) (e1 : l1.toInt = p) (e2 : v_o n l2 p o) (hp : p < 250) (ho : o < 250) (hw : v_R n W N) (hl : W.length < 1000000) (h34 : N.1 50 34 = u) : T (r_counts_B71 l1 l2 (Int32.ofNat (v_li M p o)) s0 N) (fun N' => fz z_r N N' ∧ N'.1 50 33 = s0 ∧ v_R n (if v_ok M sk.toInt (p, o) = true then W ++ [(p, o)] else W) N') := by
  obtain ⟨d1, d2, d3, d4⟩ := pl_d e1
  unfold r_counts_B71
  rw [h34]
  by_cases q : v_ok M sk.toInt (p, o) = true
  · rw [if_pos q, if_pos ((li_ok h10 hu).mpr q)]
    rcases e2 with ⟨q1, q2, q3⟩ | ⟨q1, q2, q3⟩
    · rw [if_pos (by rw [q2]; decide)]
      refine T_mono (way106_r (W := W) (N := i_wI N 50 33 s0) e1 (Or.inl ⟨q1, q2, q3⟩) hp ho (fun i hi => ?_) (R_33 hw) hl) (fun N' hN => ⟨fz_trans (fz_wI fz_refl rfl) hN.1, hN.2.1, hN.2.2⟩)
      rw [b_or, b_0, Bool.or_false, d3, b_sh _ (by omega) i hi, decide_eq_true_eq, q3]
      omega
    · obtain ⟨c1, c2, c3, c4⟩ := pl_d q2
      rw [if_neg (by rw [a_lt, Int32.toInt_zero]; omega)]
      refine T_mono (way106_r (W := W) (N := i_wI N 50 33 s0) e1 (Or.inr ⟨q1, q2, q3⟩) hp ho (fun i hi => ?_) (R_33 hw) hl) (fun N' hN => ⟨fz_trans (fz_wI fz_refl rfl) hN.1, hN.2.1, hN.2.2⟩)
      rw [b_or, d3, c3, b_sh _ (by omega) i hi, b_sh _ (by omega) i hi, Bool.or_eq_true, decide_eq_true_eq, decide_eq_true_eq]
      omega
  · rw [if_neg q, if_neg (fun e => q ((li_ok h10 hu).mp e))]
    exact T_some ⟨fz_wI fz_refl rfl, rfl, R_33 hw⟩
theorem counts_r (h : INV L_law M) (hh : (M.1 50 24).toInt = nh) (hf : fv M N) (ht : ∀ x p, x < nh → p < 10 * nc → N.1 62 (250 * x + p) = v_ld M x p) (h25 : nc ≤ 25) {p o : Nat} (hp : p < 10 * nc) (ho : o < 10 * nc) {l1 l2 u sk : Int32} (e1 : l1.toInt = p) (e2 : v_o n l2 p o) (hu : (sk = -1 ∧ u = 0) ∨ (0 ≤ sk.toInt ∧ sk.toInt < 10 ∧ u = (1 : Int32) <<< (sk &&& 31))) (h34 : N.1 50 34 = u) (hw : v_R n W N) (hl : W.length < 1000000) (hB : v_B M l N) : T (r_counts l1 l2 N) (fun N' => fz z_r N N' ∧ v_R n (if v_ok M sk.toInt (p, o) = true then W ++ [(p, o)] else W) N' ∧ v_B M (l ++ [(p, o)]) N') := by
  have h10 : nh ≤ 10 := by have := h.2.2.2.2.2.2.1.2.2.1; omega
  have h10' : (M.1 50 24).toInt.toNat ≤ 10 := by omega
  have hne : l ++ [(p, o)] ≠ [] := fun e => by simp at e
  have hli := li_lt (p := p) (o := o) h10'
  have GO : ∀ s0, s0 = Int32.ofNat (v_bs M (l ++ [(p, o)])) → T (r_counts_B71 l1 l2 (Int32.ofNat (v_li M p o)) s0 N) (fun N' => fz z_r N N' ∧ v_R n (if v_ok M sk.toInt (p, o) = true then W ++ [(p, o)] else W) N' ∧ v_B M (l ++ [(p, o)]) N') := by
    intro s0 hs
    refine T_mono (way71_r h10' hu e1 e2 (by omega) (by omega) hw hl h34) (fun N' hN => ⟨hN.1, hN.2.2, Or.inr ⟨hne, by rw [hN.2.1, hs]⟩⟩)
  have GL : v_bs M (l ++ [(p, o)]) = v_li M p o → T (r_counts_B55 l1 l2 (Int32.ofNat (v_li M p o)) 1 N) (fun N' => fz z_r N N' ∧ v_R n (if v_ok M sk.toInt (p, o) = true then W ++ [(p, o)] else W) N' ∧ v_B M (l ++ [(p, o)]) N') := by
    intro e
    unfold r_counts_B55
    rw [if_neg (by decide)]
    exact GO _ (by rw [e])
  unfold r_counts
  rw [lieW_r h hh hf ht h25 hp ho e1 (by
    rcases e2 with ⟨q1, q2, q3⟩ | ⟨q1, q2, q3⟩
    · exact Or.inl ⟨q2, q3⟩
    · exact Or.inr ⟨q2, fun e => by rw [e] at q3; omega⟩)]
  dsimp only [Option.bind_some]
  rcases hB with ⟨b1, b2⟩ | ⟨b1, b2⟩
  · rw [b2, if_pos (by decide)]
    refine GL ?_
    rw [b1]
    show v_bt (2 ^ (M.1 50 24).toInt.toNat - 1) (v_li M p o) = _
    exact bt_1 _ (by omega) _ (ln_lt _)
  · have hbs := bs_lt (M := M) (l := l) h10'
    have ebs : (Int32.ofNat (v_bs M l)).toInt = ((v_bs M l : Nat) : Int) := a_on (by omega)
    have eli : (Int32.ofNat (v_li M p o)).toInt = ((v_li M p o : Nat) : Int) := a_on (by omega)
    have l0 := Int32.toInt_zero
    have r1 := (bc_r (M := N) (x := Int32.ofNat (v_li M p o)) (by omega) (by omega)).1
    have r2 := (bc_r (M := N) (x := Int32.ofNat (v_bs M l)) (by omega) (by omega)).1
    have hv : v_bs M (l ++ [(p, o)]) = v_bt (v_bs M l) (v_li M p o) := bs_s
    rw [b2, if_neg (by rw [a_lt]; omega), r1]
    dsimp only [Option.bind_some]
    rw [b2, r2]
    dsimp only [Option.bind_some]
    by_cases y1 : i_bc (Int32.ofNat (v_li M p o)) < i_bc (Int32.ofNat (v_bs M l))
    · rw [if_pos y1]
      refine GL ?_
      rw [hv]
      unfold v_bt
      rw [if_pos (Or.inl y1)]
    · rw [if_neg y1, r1]
      dsimp only [Option.bind_some]
      rw [b2, r2]
      dsimp only [Option.bind_some]
      by_cases y2 : i_bc (Int32.ofNat (v_li M p o)) = i_bc (Int32.ofNat (v_bs M l)) ∧ v_li M p o < v_bs M l
      · rw [if_pos y2.1, b2, if_pos (by rw [a_lt]; omega)]
        refine GL ?_
        rw [hv]
        unfold v_bt
        rw [if_pos (Or.inr y2)]
      · have KEEP : T (r_counts_B55 l1 l2 (Int32.ofNat (v_li M p o)) 0 N) (fun N' => fz z_r N N' ∧ v_R n (if v_ok M sk.toInt (p, o) = true then W ++ [(p, o)] else W) N' ∧ v_B M (l ++ [(p, o)]) N') := by
          unfold r_counts_B55
          rw [if_pos rfl, b2]
          refine GO _ ?_
          rw [hv]
          unfold v_bt
          rw [if_neg (fun hx => by rcases hx with hx | hx; · exact y1 hx
                                   · exact y2 hx)]
        by_cases y3 : i_bc (Int32.ofNat (v_li M p o)) = i_bc (Int32.ofNat (v_bs M l))
        · rw [if_pos y3, b2, if_neg (by rw [a_lt]; exact fun hx => y2 ⟨y3, by omega⟩)]
          exact KEEP
        · rw [if_neg y3]
          exact KEEP
theorem fill63 {l1 : Int32} {k47 : I_M → Option I_M} {P : I_M → Prop} (hk : ∀ N', fz z_r N N' → N'.1 50 = N.1 50 → (∀ c, c < 25 → N'.1 63 c = 0) → T (k47 N') P) : T (r_goesThrough_L28 l1 k47 i_F 0 N) P := by
  have l25 : (25 : Int32).toInt = 25 := rfl
  refine T_for (N := 25) (a := 0) (f := r_goesThrough_L28 l1 k47) (fun k N' => fz z_r N N' ∧ N'.1 50 = N.1 50 ∧ ∀ c, c < k → N'.1 63 c = 0) (by omega) ?_ ?_ (by unfold i_F; omega) (by omega) rfl ⟨fz_refl, rfl, fun c hc => absurd hc (by omega)⟩
  · intro m k i N' g1 g2 g3 g4 g5
    obtain ⟨f1, t0, t1⟩ := g4
    unfold r_goesThrough_L28
    rw [if_pos (by rw [a_lt]; omega), g_ok (by omega) (by omega), a_k g1]
    refine g5 _ ⟨fz_wI f1 rfl, ?_, fun c hc => ?_⟩
    · rw [← t0]
      funext x
      rw [m_wI, if_neg (by omega)]
    · rw [m_wI]
      by_cases q : c = k
      · rw [q, if_pos ⟨rfl, rfl⟩]
      · rw [if_neg (by omega)]
        exact t1 c (by omega)
  · intro m i N' g1 g2
    unfold r_goesThrough_L28
    rw [if_neg (by rw [a_lt]; omega)]
    exact hk N' g2.1 g2.2.1 g2.2.2
theorem go_r (h : INV L_law M) (hc : i_ce (M.1 50 6) (M.1 50 7) = nc) (h25 : nc ≤ 25) (hh : (M.1 50 24).toInt = nh) (hn : n = 1 ∨ n = 2) {l1 u sk : Int32} (e1 : l1.toInt = n) (hu : (sk = -1 ∧ u = 0) ∨ (0 ≤ sk.toInt ∧ sk.toInt < 10 ∧ u = (1 : Int32) <<< (sk &&& 31))) (hf : fv M M') : T (r_goesThrough l1 u M') (fun N => fv M N ∧ v_R n (v_W M n (10 * nc) sk.toInt) N ∧ v_B M (v_pre n (10 * nc) (10 * nc)) N ∧ ∀ x p, x < nh → p < 10 * nc → N.1 62 (250 * x + p) = v_ld M x p) := by
  have eP : (Int32.ofNat (10 * nc)).toInt = ((10 * nc : Nat) : Int) := a_on (by omega)
  have l1' : (1 : Int32).toInt = 1 := rfl
  have l2' : (2 : Int32).toInt = 2 := rfl
  have l10 : (10 : Int32).toInt = 10 := rfl
  unfold r_goesThrough
  refine fill63 (fun N0 b1 b2 b3 => ?_)
  have f0 : fv M N0 := fv_trans hf (fv_trans (fv_wI (fv_wI (fv_wI (fv_wI (fv_wI fv_refl rfl) rfl) rfl) rfl) rfl) (fv_fz b1 z_r_sc))
  refine T_bind (T_mono (humsA_r h hc h25 hh f0) (fun N1 hN1 => ?_))
  obtain ⟨a1, a2⟩ := hN1
  have fN1 : fv M N1 := fv_trans f0 (fv_fq a1 (fun _ => rfl))
  have r50 : ∀ k, h_sc 50 k = false → N1.1 50 k = (i_wI (i_wI (i_wI (i_wI (i_wI M' 50 34 u) 50 27 0) 50 30 0) 50 31 0) 50 33 (-2)).1 50 k := fun k hk => by rw [a1.2 50 k hk (by omega), b2]
  have FV : ∀ {N}, fz z_r N1 N → fv M N := fun hN => fv_trans fN1 (fv_fz hN z_r_sc)
  have TB : ∀ {N}, fz z_r N1 N → ∀ x p, x < nh → p < 10 * nc → N.1 62 (250 * x + p) = v_ld M x p := fun hN x p hx hp => by rw [hN.2 62 _ rfl]; exact a2 x p hx hp
  have U34 : ∀ {N}, fz z_r N1 N → N.1 50 34 = u := fun hN => by rw [hN.2 50 34 rfl, r50 34 rfl]; rfl
  have CE : ∀ {N}, fz z_r N1 N → (10 : Int32) * (N.1 50 6 * N.1 50 7) = Int32.ofNat (10 * nc) := fun hN => by rw [(FV hN).1 50 6 rfl, (FV hN).1 50 7 rfl, v_c10 hc h25]
  refine T_for (N := 10 * nc) (a := 0) (f := r_goesThrough_L53 l1) (fun k N => fz z_r N1 N ∧ v_R n ((v_pre n (10 * nc) k).filter (v_ok M sk.toInt)) N ∧ v_B M (v_pre n (10 * nc) k) N) (by omega) ?_ ?_ (by unfold i_F; omega) (by omega) rfl ⟨fz_refl, ⟨?_, fun w hw => ?_, fun c hc => ?_, fun i hi => ?_, fun hx => absurd rfl hx⟩, Or.inl ⟨rfl, ?_⟩⟩
  · intro m p i N g1 g2 g3 g4 g5
    obtain ⟨f1, w1, v1⟩ := g4
    obtain ⟨z1, z2, z3, z4⟩ := lo_hi hn h25 g3
    obtain ⟨d1, d2, d3, d4⟩ := pl_d g1
    have k1 : (i / 10 + 1).toInt = ((p / 10 + 1 : Nat) : Int) := by rw [a_a1 (by omega), d1]; omega
    have k2 : (10 * (i / 10 + 1)).toInt = (((p / 10 + 1) * 10 : Nat) : Int) := by rw [a_mul, k1, l10] <;> (try rw [k1, l10]) <;> omega
    unfold r_goesThrough_L53
    rw [e_rcells]
    dsimp only [Option.bind_some]
    rw [CE f1, if_pos (by rw [a_lt]; omega)]
    rcases hn with rfl | rfl
    · rw [if_pos (by rw [a_eq]; omega)]
      have pl := z3 p (by unfold v_lo; rw [if_pos rfl]; omega) (by unfold v_hi; rw [if_pos rfl]; omega)
      refine T_bind (T_mono (counts_r h hh (FV f1) (TB f1) h25 pl.1 pl.2.1 g1 (Or.inl ⟨rfl, rfl, rfl⟩) hu (U34 f1) w1 (by have := fil_len (f := v_ok M sk.toInt) (q := 0) (a := 0) (b := 0) (Or.inl rfl) h25 (k := p) (by omega) (by omega); rw [seg_0, List.append_nil] at this; exact this) v1) (fun N3 hN3 => ?_))
      have es : v_seg p (v_lo 1 p) (v_hi 1 (10 * nc) p) = [(p, p)] := by
        unfold v_lo v_hi
        rw [if_pos rfl, if_pos rfl, seg_s (Nat.le_refl p), seg_0]
        rfl
      unfold r_goesThrough_B75
      obtain ⟨F, hF⟩ : ∃ F, i_F = F + 1 := ⟨4999, rfl⟩
      rw [hF]
      unfold r_goesThrough_L86
      rw [if_neg (by rw [a_eq]; omega)]
      refine g5 N3 ⟨fz_trans f1 hN3.1, ?_, ?_⟩
      · rw [pre_s, es, fl_s]
        exact hN3.2.1
      · rw [pre_s, es]
        exact hN3.2.2
    · rw [if_neg (by rw [a_eq]; omega)]
      unfold r_goesThrough_B75
      have elo : v_lo 2 p = (p / 10 + 1) * 10 := if_neg (by decide)
      have ehi : v_hi 2 (10 * nc) p = 10 * nc := if_neg (by decide)
      refine T_for (N := v_hi 2 (10 * nc) p) (a := v_lo 2 p) (f := r_goesThrough_L86 l1 i _) (fun k N => fz z_r N1 N ∧ v_R 2 ((v_pre 2 (10 * nc) p ++ v_seg p (v_lo 2 p) k).filter (v_ok M sk.toInt)) N ∧ v_B M (v_pre 2 (10 * nc) p ++ v_seg p (v_lo 2 p) k) N) (by omega) ?_ ?_ (by unfold i_F; omega) z1 (by rw [elo]; exact k2) ⟨f1, by rw [seg_0, List.append_nil]; exact w1, by rw [seg_0, List.append_nil]; exact v1⟩
      · intro m' o j N' g1' g2' g3' g4' g5'
        obtain ⟨f2, w2, v2⟩ := g4'
        have pl := z3 o g2' g3'
        have p3 : p / 10 < o / 10 := by
          rcases pl.2.2 with hx | hx
          · omega
          · exact hx.2
        rw [seg_s g2', ← List.append_assoc, fl_s] at g5'
        unfold r_goesThrough_L86
        rw [if_pos (by rw [a_eq]; omega), e_rcells]
        dsimp only [Option.bind_some]
        rw [CE f2, if_pos (by rw [a_lt]; omega)]
        refine T_bind (T_mono (counts_r h hh (FV f2) (TB f2) h25 pl.1 pl.2.1 g1 (Or.inr ⟨rfl, g1', p3⟩) hu (U34 f2) w2 (fil_len (Or.inr rfl) h25 (by omega) (by omega)) v2) (fun N3 hN3 => ?_))
        exact g5' _ ⟨fz_trans f2 hN3.1, hN3.2.1, hN3.2.2⟩
      · intro m' j N' g1' g2'
        unfold r_goesThrough_L86
        rw [if_pos (by rw [a_eq]; omega), e_rcells]
        dsimp only [Option.bind_some]
        rw [CE g2'.1, if_neg (by rw [a_lt]; omega)]
        refine g5 N' ⟨g2'.1, ?_⟩
        rw [pre_s]
        exact g2'.2
  · intro m i N g1 g2
    unfold r_goesThrough_L53
    rw [e_rcells]
    dsimp only [Option.bind_some]
    rw [CE g2.1, if_neg (by rw [a_lt]; omega)]
    exact T_some ⟨FV g2.1, g2.2.1, g2.2.2, TB g2.1⟩
  · rw [r50 27 rfl]
    rfl
  · cases hw
  · rw [a1.2 63 c rfl (by omega), b3 c hc]
    rfl
  · rw [r50 31 rfl, show (i_wI (i_wI (i_wI (i_wI (i_wI M' 50 34 u) 50 27 0) 50 30 0) 50 31 0) 50 33 (-2)).1 50 31 = 0 from rfl, b_0]
    exact ⟨fun hx => (by cases hx), fun hx => absurd hx (by show ¬ 0 < 0; omega)⟩
  · rw [r50 33 rfl]
    rfl
end CR
