/-! ===== part 71: whose, the loops and the call ===== -/
theorem a_bm64 {z : Int} (h : -9223372036854775808 ≤ z) (h2 : z < 9223372036854775808) : z.bmod (2 ^ 64) = z := Int.bmod_eq_of_le (by omega) (by omega)
theorem a6_add {a b : Int64} (h : -9223372036854775808 ≤ a.toInt + b.toInt) (h2 : a.toInt + b.toInt < 9223372036854775808) : (a + b).toInt = a.toInt + b.toInt := by
  rw [Int64.toInt_add]
  exact a_bm64 h h2
theorem a6_sub {a b : Int64} (h : -9223372036854775808 ≤ a.toInt - b.toInt) (h2 : a.toInt - b.toInt < 9223372036854775808) : (a - b).toInt = a.toInt - b.toInt := by
  rw [Int64.toInt_sub]
  exact a_bm64 h h2
theorem a6_neg {a : Int64} (h : -9223372036854775808 ≤ -a.toInt) (h2 : -a.toInt < 9223372036854775808) : (-a).toInt = -a.toInt := by
  rw [Int64.toInt_neg]
  exact a_bm64 h h2
def w_r (x : Int64) (u : Int32) : Int64 := if lg_cmp (x - Int32.toInt64 u) 0 < 0 then -(x - Int32.toInt64 u) else x - Int32.toInt64 u
theorem w_re {x : Int64} {u : Int32} (h : -128 ≤ x.toInt) (h2 : x.toInt ≤ 127) (h3 : 0 ≤ u.toInt) (h4 : u.toInt ≤ 9) : (w_r x u).toInt = w_d x.toInt u.toInt := by
  have e2 : (x - Int32.toInt64 u).toInt = x.toInt - u.toInt := by rw [a6_sub] <;> rw [a_l] <;> omega
  have e3 : (-(x - Int32.toInt64 u)).toInt = -(x - Int32.toInt64 u).toInt := a6_neg (by omega) (by omega)
  unfold w_r w_d
  by_cases q : x.toInt - u.toInt < 0
  · rw [if_pos (by rw [a_llt, e2, Int64.toInt_zero]; exact q), if_pos q, e3]
    omega
  · rw [if_neg (by rw [a_llt, e2, Int64.toInt_zero]; exact q), if_neg q, e2]
section WR
variable {M M' : I_M} {a : Int32} {A len i : Nat} {t : Int32}
theorem rf_st {l4 : Int64} {l5 l6 l6' : Int32} {F k : Nat} {b : Int32} (h1 : 0 ≤ a.toInt) (h2 : a.toInt < 6) (hA : Int32.toNatClampNeg a = A) (hb : b.toInt = i) (hi : i ≤ 60) (hk : l6.toInt = k) (hk4 : k < 4) (h6 : l6 + -1 = l6') (hx : i + k < 60) : r_differs_L9 a b (F + 1) l4 l5 l6 M = r_differs_L9 a b F (l4 + w_r (M.2 72 (60 * A + i + k)) (i_rem l5 10)) (l5 / 10) l6' M := by
  have e2 := (a_60p h1 h2 (b := b) (by omega) (by omega)).1
  have nA : (A : Int) = a.toInt := by rw [← hA, a_n]; omega
  have e3 : (60 * a + b + l6).toInt = ((60 * A + i + k : Nat) : Int) := by rw [a_add] <;> omega
  rw [r_differs_L9, if_neg (by rw [a_lt, Int32.toInt_zero]; omega), g_ok (by omega) (by omega), a_k e3, h6]
  unfold w_r i_let
  dsimp only
  by_cases q : lg_cmp (M.2 72 (60 * A + i + k) - Int32.toInt64 (i_rem l5 10)) 0 < 0
  · rw [if_pos q, if_pos q]
  · rw [if_neg q, if_neg q]
theorem w_rr {b : Int32} (h : w_H M a A len) (hb : b.toInt = i) (hi : i + 4 ≤ len) (ht : 0 ≤ t.toInt) (ht2 : t.toInt ≤ 9999) (hL : M'.2 = M.2) : T (r_differs a b t M') (fun r => r.2 = M' ∧ r.1.toInt = w_D M A t.toInt i) := by
  obtain ⟨h1, h2, hA, h60, _, _, h5, _⟩ := h
  obtain ⟨F, eF, _⟩ : ∃ F, i_F = F + 1 + 1 + 1 + 1 + 1 ∧ 0 ≤ F := ⟨4995, rfl, by omega⟩
  unfold r_differs
  rw [eF, rf_st (k := 3) (l6' := 2) h1 h2 hA hb (by omega) (by decide) (by omega) (by decide) (by omega), rf_st (k := 2) (l6' := 1) h1 h2 hA hb (by omega) (by decide) (by omega) (by decide) (by omega), rf_st (k := 1) (l6' := 0) h1 h2 hA hb (by omega) (by decide) (by omega) (by decide) (by omega), rf_st (k := 0) (l6' := -1) h1 h2 hA hb (by omega) (by decide) (by omega) (by decide) (by omega)]
  unfold r_differs_L9
  rw [if_pos (by decide), hL]
  refine T_some ⟨rfl, ?_⟩
  have l10 : (10 : Int32).toInt = 10 := rfl
  have d1 : (t / 10).toInt = t.toInt / 10 := by rw [a_div ht (by omega), l10]
  have d2 : (t / 10 / 10).toInt = t.toInt / 10 / 10 := by rw [a_div (by omega) (by omega), d1, l10]
  have d3 : (t / 10 / 10 / 10).toInt = t.toInt / 10 / 10 / 10 := by rw [a_div (by omega) (by omega), d2, l10]
  have r0 : (i_rem t 10).toInt = t.toInt % 10 := by rw [a_rem ht (by omega), l10]
  have r1 : (i_rem (t / 10) 10).toInt = t.toInt / 10 % 10 := by rw [a_rem (by omega) (by omega), d1, l10]
  have r2 : (i_rem (t / 10 / 10) 10).toInt = t.toInt / 10 / 10 % 10 := by rw [a_rem (by omega) (by omega), d2, l10]
  have r3 : (i_rem (t / 10 / 10 / 10) 10).toInt = t.toInt / 10 / 10 / 10 % 10 := by rw [a_rem (by omega) (by omega), d3, l10]
  have X : ∀ k, k < 4 → -128 ≤ (M.2 72 (60 * A + i + k)).toInt ∧ (M.2 72 (60 * A + i + k)).toInt ≤ 127 := by
    intro k hk
    have := (h5 (i + k) (by omega)).2
    rw [show 60 * A + (i + k) = 60 * A + i + k by omega] at this
    exact this
  have y0 := X 0 (by omega)
  have y1 := X 1 (by omega)
  have y2 := X 2 (by omega)
  have y3 := X 3 (by omega)
  have w3 := w_re (x := M.2 72 (60 * A + i + 3)) (u := i_rem t 10) y3.1 y3.2 (by omega) (by omega)
  have w2 := w_re (x := M.2 72 (60 * A + i + 2)) (u := i_rem (t / 10) 10) y2.1 y2.2 (by omega) (by omega)
  have w1 := w_re (x := M.2 72 (60 * A + i + 1)) (u := i_rem (t / 10 / 10) 10) y1.1 y1.2 (by omega) (by omega)
  have w0 := w_re (x := M.2 72 (60 * A + i + 0)) (u := i_rem (t / 10 / 10 / 10) 10) y0.1 y0.2 (by omega) (by omega)
  rw [r0] at w3
  rw [r1] at w2
  rw [r2] at w1
  rw [r3] at w0
  have q3 := w_d_rg (u := t.toInt % 10) y3.1 y3.2 (by omega) (by omega)
  have q2 := w_d_rg (u := t.toInt / 10 % 10) y2.1 y2.2 (by omega) (by omega)
  have q1 := w_d_rg (u := t.toInt / 10 / 10 % 10) y1.1 y1.2 (by omega) (by omega)
  have q0 := w_d_rg (u := t.toInt / 10 / 10 / 10 % 10) y0.1 y0.2 (by omega) (by omega)
  generalize w_r (M.2 72 (60 * A + i + 3)) (i_rem t 10) = A3 at *
  generalize w_r (M.2 72 (60 * A + i + 2)) (i_rem (t / 10) 10) = A2 at *
  generalize w_r (M.2 72 (60 * A + i + 1)) (i_rem (t / 10 / 10) 10) = A1 at *
  generalize w_r (M.2 72 (60 * A + i + 0)) (i_rem (t / 10 / 10 / 10) 10) = A0 at *
  have z : (0 + A3).toInt = A3.toInt := by rw [Int64.zero_add]
  have z2 : (0 + A3 + A2).toInt = A3.toInt + A2.toInt := by rw [a6_add, z] <;> omega
  have z1 : (0 + A3 + A2 + A1).toInt = A3.toInt + A2.toInt + A1.toInt := by rw [a6_add, z2] <;> omega
  have z0 : (0 + A3 + A2 + A1 + A0).toInt = A3.toInt + A2.toInt + A1.toInt + A0.toInt := by rw [a6_add, z1] <;> omega
  show (0 + A3 + A2 + A1 + A0).toInt = w_D M A t.toInt i
  rw [z0, w3, w2, w1, w0]
  rfl
/-- what the best so far can be -/
def w_ok (s : Int × Int) : Prop := s = (-2, -2) ∨ (0 ≤ s.1 ∧ s.1 < 6 ∧ 0 ≤ s.2 ∧ s.2 ≤ 548)
/-- what the class keeps of it -/
def w_c (s : Int × Int) (o l : Int32) : Prop := (s.1 < 0 → o.toInt = -2 ∧ l.toInt = 2147483647) ∧ (0 ≤ s.1 → o.toInt = s.1 ∧ l.toInt = s.2)
def w_S (M : I_M) (o l : Int32) : I_M := i_rw M 36 (upd (upd (M.1 36) 1 o) 2 l)
theorem w_Sw {o l o' l' : Int32} : i_wI (i_wI (w_S M o l) 36 1 o') 36 2 l' = w_S M o' l' := by
  refine m_ext (fun q k => ?_) rfl
  rw [m_wI, m_wI]
  unfold w_S i_rw upd
  by_cases h : q = 36
  · subst h
    by_cases h2 : k = 2
    · subst h2
      simp
    · by_cases h1 : k = 1
      · subst h1
        simp
      · simp [h2, h1]
  · simp [h]
/-- how many places a tune can lie at -/
def w_m (len : Nat) : Nat := len - 3
theorem w_okst {s : Int × Int} {v : Nat} {D : Int} (h : w_ok s) (hv : v < 6) (hD : 0 ≤ D ∧ D ≤ 548) : w_ok (w_st v D s) := by
  unfold w_st
  split
  · right
    dsimp only
    omega
  · exact h
theorem w_inok (h : w_H M a A len) {v : Nat} (hv : v < 6) : ∀ (m : Nat) (s : Int × Int), m ≤ w_m len → w_ok s → w_ok (w_in M A v m s) := by
  intro m
  induction m with
  | zero => exact fun s _ hs => hs
  | succ m ih =>
    intro s hm hs
    unfold w_m at hm
    show w_ok (w_st v _ (w_in M A v m s))
    exact w_okst (ih s (by unfold w_m; omega) hs) hv (w_D_rg h (by omega) (h.2.2.2.2.2.2.2 v hv).2.1)
theorem w_allok (h : w_H M a A len) : ∀ n, n ≤ 6 → w_ok (w_all M A (w_m len) n) := by
  intro n
  induction n with
  | zero => exact fun _ => Or.inl rfl
  | succ n ih =>
    intro hn
    exact w_inok h (by omega) _ _ (Nat.le_refl _) (ih (by omega))
theorem own_in (h : w_H M a A len) {v : Nat} (hv : v < 6) {s : Int × Int} (hs : w_ok s) {o l : Int32} (hc : w_c s o l) {k77 : I_M → Option I_M} {P : I_M → Prop} (hk : ∀ o' l', w_c (w_in M A v (w_m len) s) o' l' → T (k77 (w_S M o' l')) P) : T (b_Villages_findOwner_L23 a (Int32.ofNat v) k77 i_F 0 (w_S M o l)) P := by
  have hH := h
  obtain ⟨h1, h2, hA, h60, h43, h71, h5, hv6⟩ := h
  have ev : (Int32.ofNat v).toInt = v := a_on (by omega)
  have l4 : (4 : Int32).toInt = 4 := rfl
  refine T_for (N := w_m len) (a := 0) (f := b_Villages_findOwner_L23 a (Int32.ofNat v) k77) (fun k M' => ∃ o l, M' = w_S M o l ∧ w_c (w_in M A v k s) o l) (by unfold w_m; omega) ?_ ?_ (by unfold i_F w_m; omega) (by omega) rfl ⟨o, l, rfl, hc⟩
  · intro m k i M' g1 g2 g3 g4 g5
    obtain ⟨o, l, rfl, g4⟩ := g4
    unfold w_m at g3
    have e4 : (i + 4).toInt = i.toInt + 4 := by rw [a_add] <;> omega
    obtain ⟨t1, t2, t3⟩ := hv6 v hv
    unfold b_Villages_findOwner_L23
    rw [g_ok h1 (by omega), hA, show (w_S M o l).1 43 = M.1 43 from rfl, if_neg (by rw [a_lt]; omega), g_ok (by omega) (by omega), a_k ev, show (w_S M o l).1 37 = M.1 37 from rfl, t1]
    refine T_bind (T_mono (w_b hH g1 (by omega) t2 t3 rfl) (fun r hr => ?_))
    obtain ⟨r1, r2⟩ := r
    obtain ⟨e1, e2⟩ := hr
    dsimp only at e1 e2 ⊢
    subst e1
    have hok := w_inok hH hv k s (by unfold w_m; omega) hs
    have hD := w_D_rg (i := k) hH (by omega) t2
    have hin : w_in M A v (k + 1) s = w_st v (w_D M A (M.1 66 v).toInt k) (w_in M A v k s) := rfl
    generalize w_in M A v k s = u at *
    generalize w_D M A (M.1 66 v).toInt k = D at *
    rw [hin] at g5
    unfold w_st at g5
    rw [show (w_S M o l).1 36 2 = l from rfl]
    by_cases q : r1.toInt < l.toInt
    · rw [if_pos (by rw [a_lt]; exact q), w_Sw]
      refine g5 _ ⟨Int32.ofNat v, r1, rfl, ?_⟩
      have : u.1 < 0 ∨ D < u.2 := by
        by_cases z : u.1 < 0
        · exact Or.inl z
        · have := g4.2 (by omega)
          exact Or.inr (by omega)
      rw [if_pos this]
      exact ⟨fun z => by dsimp only at z; omega, fun _ => ⟨ev, e2⟩⟩
    · rw [if_neg (by rw [a_lt]; exact q)]
      refine g5 _ ⟨o, l, rfl, ?_⟩
      have : ¬ (u.1 < 0 ∨ D < u.2) := by
        rintro (z | z)
        · have := g4.1 z
          omega
        · by_cases y : u.1 < 0
          · have := g4.1 y
            omega
          · have := g4.2 (by omega)
            omega
      rw [if_neg this]
      exact g4
  · intro m i M' g1 g2
    obtain ⟨o, l, rfl, g2⟩ := g2
    have e4 : (i + 4).toInt = i.toInt + 4 := by rw [a_add] <;> unfold w_m at g1 <;> omega
    unfold b_Villages_findOwner_L23
    rw [g_ok h1 (by omega), hA, show (w_S M o l).1 43 = M.1 43 from rfl, if_pos (by rw [a_lt]; unfold w_m at g1; omega)]
    exact hk o l g2
end WR
