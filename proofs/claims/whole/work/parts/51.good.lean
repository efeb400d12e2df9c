/-! ===== part 51: what a part's steps do ===== -/
def x_ag (e e' : Nat → Int32) : Prop := ∀ k, k < 7 → e k = e' k
def x_G (c : List Int32) (v : i_V) (w : Nat) : Prop :=
  (∀ s, s ∈ c → s ≠ -59) ∧ (∀ e e', x_ag e e' → v e = v e') ∧
  ∀ (M M' : I_M) (n i F : Nat) (st : List Int32) (k : I_M → Option (Int32 × I_M)) (P : Int32 × I_M → Prop), (M.1 9 3).toInt = n → n ≤ 128 → i + c.length ≤ n → x_at M i c → x_X M st M' → st.length + w ≤ 64 →
    (∀ M'', x_X M (st ++ [v (M.1 11)]) M'' → T (b_Law_byText_L75 k F 0 (Int32.ofNat (i + c.length)) M'') P) → T (b_Law_byText_L75 k (F + c.length) 0 (Int32.ofNat i) M') P
section GOOD
variable {c c2 : List Int32} {v v2 : i_V} {w w' : Nat} {x : Int32}
theorem G_mono (h : x_G c v w) (hw : w ≤ w') : x_G c v w' := ⟨h.1, h.2.1, fun M M' n i F st k P h1 h2 h3 h4 h5 h6 hk => h.2.2 M M' n i F st k P h1 h2 h3 h4 h5 (by omega) hk⟩
theorem neg_ne {a b : Int32} (h : a ≠ b) : -a ≠ -b := fun q => h (by rw [← Int32.neg_neg (a := a), q, Int32.neg_neg])
theorem G_num {s : Int32} (hs : 0 ≤ s.toInt) : x_G [s] (fun _ => s) 1 := by
  have e : (-s).toInt = -s.toInt := a_neg (by omega)
  have l59 : (59 : Int32).toInt = 59 := rfl
  have l63 : (63 : Int32).toInt = 63 := rfl
  have l59' : (-59 : Int32).toInt = -59 := rfl
  refine ⟨fun a ha => ?_, fun _ _ _ => rfl, fun M M' n i F st k P h1 h2 h3 h4 h5 h6 hk => ?_⟩
  · rw [List.mem_singleton.mp ha]
    intro q
    rw [a_eq] at q
    omega
  · have h3 : i + 1 ≤ n := h3
    exact st_1 h5 h1 h2 (by omega) (at_one h4) (by rw [Ne, a_eq]; omega) (by rw [Ne, a_eq]; omega) (T_mono (tk_num hs h5 (by omega)) (fun a ha => hk a ha))
theorem G_nm {j : Int32} (hj : 0 ≤ j.toInt) (hj2 : j.toInt < 7) : x_G [-(400 + j)] (fun e => e (Int32.toNatClampNeg j)) 1 := by
  have l4 := l_400
  have e : (400 + j).toInt = 400 + j.toInt := by rw [a_add] <;> omega
  have l59 : (59 : Int32).toInt = 59 := rfl
  have l63 : (63 : Int32).toInt = 63 := rfl
  refine ⟨fun a ha => ?_, fun a b hab => hab _ (by rw [a_n]; omega), fun M M' n i F st k P h1 h2 h3 h4 h5 h6 hk => ?_⟩
  · rw [List.mem_singleton.mp ha]
    exact neg_ne (by rw [Ne, a_eq]; omega)
  · have h3 : i + 1 ≤ n := h3
    exact st_1 h5 h1 h2 (by omega) (at_one h4) (by rw [Int32.neg_neg, Ne, a_eq]; omega) (by rw [Int32.neg_neg, Ne, a_eq]; omega) (T_mono (tk_nm hj hj2 h5 (by omega)) (fun a ha => hk a ha))
theorem G_u300 (h : x_G c v w) (hw : 1 ≤ w) : x_G (c ++ [-300]) (fun e => -(v e)) w := by
  refine ⟨fun a ha => ?_, fun a b hab => by dsimp only; rw [h.2.1 a b hab], fun M M' n i F st k P h1 h2 h3 h4 h5 h6 hk => ?_⟩
  · rcases List.mem_append.mp ha with q | q
    · exact h.1 a q
    · rw [List.mem_singleton.mp q]
      decide
  · have e1 : (c ++ [-300]).length = c.length + 1 := by simp
    rw [e1] at h3 hk
    rw [e1, show F + (c.length + 1) = (F + 1) + c.length by omega]
    refine h.2.2 M M' n i (F + 1) st k P h1 h2 (by omega) (at_app h4).1 h5 h6 (fun M1 hM1 => ?_)
    refine st_1 hM1 h1 h2 (by omega) (at_one (at_app h4).2) (by decide) (by decide) (T_mono (tk_neg hM1 (by omega)) (fun a ha => ?_))
    exact hk a ha
theorem G_u33 (h : x_G c v w) (hw : 1 ≤ w) : x_G (c ++ [-33]) (fun e => if v e = 0 then 1 else 0) w := by
  refine ⟨fun a ha => ?_, fun a b hab => by simp only [h.2.1 a b hab], fun M M' n i F st k P h1 h2 h3 h4 h5 h6 hk => ?_⟩
  · rcases List.mem_append.mp ha with q | q
    · exact h.1 a q
    · rw [List.mem_singleton.mp q]
      decide
  · have e1 : (c ++ [-33]).length = c.length + 1 := by simp
    rw [e1] at h3 hk
    rw [e1, show F + (c.length + 1) = (F + 1) + c.length by omega]
    refine h.2.2 M M' n i (F + 1) st k P h1 h2 (by omega) (at_app h4).1 h5 h6 (fun M1 hM1 => ?_)
    refine st_1 hM1 h1 h2 (by omega) (at_one (at_app h4).2) (by decide) (by decide) (T_mono (tk_not hM1 (by omega)) (fun a ha => ?_))
    exact hk a ha
theorem lvl_ne {y : Int32} (h : p_lvl x ≠ -1) (hy : p_lvl y = -1) : x ≠ y := fun q => h (q ▸ hy)
theorem G_op (h : x_G c v (w + 1)) (h2 : x_G c2 v2 w) (hx : p_lvl x ≠ -1) (hw : 1 ≤ w) : x_G (c ++ (c2 ++ [-x])) (fun e => p_op x (v e) (v2 e)) (w + 1) := by
  refine ⟨fun a ha => ?_, fun a b hab => by dsimp only; rw [h.2.1 a b hab, h2.2.1 a b hab], fun M M' n i F st k P g1 g2 g3 g4 g5 g6 hk => ?_⟩
  · rcases List.mem_append.mp ha with q | q
    · exact h.1 a q
    · rcases List.mem_append.mp q with q | q
      · exact h2.1 a q
      · rw [List.mem_singleton.mp q]
        exact neg_ne (lvl_ne hx (by decide))
  · have e1 : (c ++ (c2 ++ [-x])).length = c.length + (c2.length + 1) := by simp
    rw [e1] at g3 hk
    rw [e1, show F + (c.length + (c2.length + 1)) = (F + 1 + c2.length) + c.length by omega]
    obtain ⟨a1, a2⟩ := at_app g4
    obtain ⟨a2, a3⟩ := at_app a2
    refine h.2.2 M M' n i (F + 1 + c2.length) st k P g1 g2 (by omega) a1 g5 g6 (fun M1 hM1 => ?_)
    have e2 : (st ++ [v (M.1 11)]).length = st.length + 1 := by simp
    refine h2.2.2 M M1 n (i + c.length) (F + 1) _ k P g1 g2 (by omega) a2 hM1 (by omega) (fun M2 hM2 => ?_)
    refine st_1 hM2 g1 g2 (by omega) (at_one a3) (by rw [Int32.neg_neg]; exact lvl_ne hx (by decide)) (by rw [Int32.neg_neg]; exact lvl_ne hx (by decide)) ?_
    rw [Int32.neg_neg]
    refine T_mono (tk_op hx hM2 (by omega)) (fun a ha => ?_)
    rw [show i + c.length + c2.length + 1 = i + (c.length + (c2.length + 1)) by omega]
    exact hk a ha
end GOOD
def x_GP (r : Nat → i_R) (w : Nat) : Prop := ∀ p, i_ri (fun _ => True) (fun c v _ => x_G c v w) (r p)
section GP
variable {ah : Nat → Int32} {sub one : Nat → i_R} {w : Nat} {l : Int32}
theorem GP_loop (hs : x_GP sub w) (hw : 1 ≤ w) (hl : l ≠ -1) : ∀ m c v p, x_G c v (w + 1) → i_ri (fun _ => True) (fun c v _ => x_G c v (w + 1)) (p_loop ah sub l m c v p) := by
  intro m
  induction m with
  | zero => exact fun c v p h => h
  | succ m ih =>
    intro c v p h
    unfold p_loop
    by_cases q : p_lvl (ah p) = l
    · rw [if_pos q]
      refine ri_rb (ri_mono (hs (p + 1)) (fun _ h => h) (fun c2 v2 p2 h2 => ?_))
      have := G_op h h2 (by rw [q]; exact hl) hw
      by_cases q2 : l = 2
      · rw [if_pos q2]
        exact this
      · rw [if_neg q2]
        exact ih _ _ _ this
    · rw [if_neg q]
      exact h
theorem GP_part (hs : x_GP one w) (hw : 1 ≤ w) : ∀ j, j ≤ 5 → x_GP (p_part ah one j) (w + j) := by
  intro j
  induction j with
  | zero => exact fun _ => hs
  | succ j ih =>
    intro hj p
    have := ih (by omega)
    show i_ri _ _ (i_rb (p_part ah one j p) _)
    refine ri_rb (ri_mono (this p) (fun _ h => h) (fun c v p1 h => ?_))
    exact GP_loop this (by omega) (lv_ne (by omega)) 121 c v p1 (G_mono h (by omega))
theorem num_rg : ∀ (m b : Nat) (v : Int32) (p : Nat), 0 ≤ v.toInt → v.toInt < b → b * 10 ^ m ≤ 10000 → 0 ≤ (p_num ah m v p).1.toInt := by
  intro m
  induction m with
  | zero => exact fun b v p h _ _ => h
  | succ m ih =>
    intro b v p h1 h2 h3
    unfold p_num
    by_cases q : 48 ≤ (ah p).toInt ∧ (ah p).toInt ≤ 57
    · rw [if_pos q]
      have h10 : 0 < 10 ^ m := Nat.pow_pos (by omega)
      have e : b * 10 ^ (m + 1) = (10 * b) * 10 ^ m := by rw [Nat.pow_succ, Nat.mul_comm 10 b, Nat.mul_assoc, Nat.mul_comm (10 ^ m) 10]
      have hb : 10 * b ≤ 10000 := by
        have : 10 * b * 1 ≤ 10 * b * 10 ^ m := Nat.mul_le_mul_left _ h10
        omega
      have l10 : (10 : Int32).toInt = 10 := rfl
      have l48 : (48 : Int32).toInt = 48 := rfl
      have k1 : (v * 10).toInt = v.toInt * 10 := by rw [a_mul] <;> rw [l10] <;> omega
      have k2 : (v * 10 + ah p).toInt = v.toInt * 10 + (ah p).toInt := by rw [a_add] <;> omega
      have k3 : (v * 10 + ah p - 48).toInt = v.toInt * 10 + (ah p).toInt - 48 := by rw [a_sub] <;> omega
      exact ih (10 * b) _ _ (by omega) (by omega) (by omega)
    · rw [if_neg q]
      exact h1
theorem GP_oneB {inner : Option (Nat → i_R)} (hw : 1 ≤ w) (h : ∀ r, inner = some r → ∃ w0, 1 ≤ w0 ∧ w0 + 5 ≤ w ∧ x_GP r w0) : x_GP (p_oneB ah inner) w := by
  intro p
  unfold p_oneB
  by_cases q1 : 48 ≤ (ah p).toInt ∧ (ah p).toInt ≤ 57
  · rw [if_pos q1]
    exact G_mono (G_num (num_rg 4 1 0 p (by decide) (by decide) (by decide))) hw
  rw [if_neg q1]
  by_cases q2 : 0 ≤ (p_nm (ah p)).toInt
  · rw [if_pos q2]
    rcases nm_rg (ah p) with g | g
    · rw [g] at q2
      exact absurd q2 (by decide)
    · exact G_mono (G_nm g.1 g.2) hw
  rw [if_neg q2]
  cases inner with
  | none => trivial
  | some r =>
    obtain ⟨w0, h0, h5, hr⟩ := h r rfl
    dsimp only
    by_cases q3 : ah p = 33 ∨ ah p = 45
    · rw [if_pos q3]
      refine ri_rb (ri_mono (hr (p + 1)) (fun _ h => h) (fun c2 v2 p2 h2 => ?_))
      by_cases q4 : ah p = 33
      · simp only [if_pos q4]
        exact G_mono (G_u33 h2 h0) (by omega)
      · simp only [if_neg q4]
        exact G_mono (G_u300 h2 h0) (by omega)
    rw [if_neg q3]
    by_cases q4 : ah p = 40
    · rw [if_pos q4]
      refine ri_rb (ri_mono (GP_part hr h0 5 (by omega) (p + 1)) (fun _ h => h) (fun c2 v2 p2 h2 => ?_))
      by_cases q5 : ah p2 = 41
      · rw [if_pos q5]
        exact G_mono h2 (by omega)
      · rw [if_neg q5]
        trivial
    · rw [if_neg q4]
      trivial
theorem GP_one : ∀ m, x_GP (p_one ah m) (1 + 5 * m) := by
  intro m
  induction m with
  | zero => exact GP_oneB (by omega) (fun r h => by cases h)
  | succ m ih => exact GP_oneB (by omega) (fun r h => by cases h; exact ⟨1 + 5 * m, by omega, by omega, ih⟩)
theorem GP_E : x_GP (p_part ah (p_one ah 6) 5) 36 := GP_part (GP_one 6) (by omega) 5 (by omega)
end GP
/-- a line's steps -/
def x_LG (c : List Int32) (lv : i_Li) : Prop := (∀ e e', x_ag e e' → lv e = lv e') ∧
  ∀ (M M' : I_M) (n i F : Nat) (k : I_M → Option (Int32 × I_M)) (P : Int32 × I_M → Prop), (M.1 9 3).toInt = n → n ≤ 128 → i + c.length ≤ n → x_at M i c → x_X M [] M' →
    (∀ u M'', lv (M.1 11) = some u → x_X M [u] M'' → T (k M'') P) → (lv (M.1 11) = none → ∀ M'', x_X M [] M'' → T (b_Law_byText_L75 k F 0 (Int32.ofNat (i + c.length)) M'') P) → T (b_Law_byText_L75 k (F + c.length) 0 (Int32.ofNat i) M') P
section LINE
variable {M M' : I_M} {st : List Int32} {n i F : Nat} {k : I_M → Option (Int32 × I_M)} {P : Int32 × I_M → Prop}
theorem st_59 (h : x_X M st M') (hn : (M.1 9 3).toInt = n) (h128 : n ≤ 128) (hi : i < n) (hs : M.1 10 i = -59) (hk : T (k M') P) : T (b_Law_byText_L75 k (F + 1) 0 (Int32.ofNat i) M') P := by
  have e : (Int32.ofNat i).toInt = i := a_on (by omega)
  unfold b_Law_byText_L75
  rw [X_93 h, X_10 h, if_pos (by rw [a_lt]; omega), g_ok (by omega) (by omega), if_pos rfl, a_k e, hs, if_pos (by decide)]
  exact hk
theorem st_63 {v : Int32} (h : x_X M [v] M') (hn : (M.1 9 3).toInt = n) (h128 : n ≤ 128) (hi : i < n) (hs : M.1 10 i = -63) (hk : ∀ M'', x_X M [] M'' → T (b_Law_byText_L75 k F (if v = 0 then 1 else 0) (Int32.ofNat (i + 1)) M'') P) : T (b_Law_byText_L75 k (F + 1) 0 (Int32.ofNat i) M') P := by
  have e : (Int32.ofNat i).toInt = i := a_on (by omega)
  unfold b_Law_byText_L75
  rw [X_93 h, X_10 h, if_pos (by rw [a_lt]; omega), g_ok (by omega) (by omega), if_pos rfl, a_k e, hs, if_neg (by decide), if_pos (by decide)]
  refine T_bind (T_mono (X_pop (st := []) h (by simp)) (fun a ha => ?_))
  rw [ha.1, of_add e (by omega)]
  have := hk a.2 ha.2
  by_cases q : v = 0
  · rw [if_pos q] at this ⊢
    exact this
  · rw [if_neg q] at this ⊢
    exact this
theorem x_skip (hn : (M.1 9 3).toInt = n) (h128 : n ≤ 128) : ∀ (c : List Int32) (i : Nat), (∀ s, s ∈ c → s ≠ -59) → i + c.length + 1 ≤ n → x_at M i (c ++ [-59]) → x_X M st M' → T (b_Law_byText_L75 k F 0 (Int32.ofNat (i + c.length + 1)) M') P → T (b_Law_byText_L75 k (F + c.length + 1) 1 (Int32.ofNat i) M') P := by
  intro c
  induction c with
  | nil =>
    intro i h1 h2 h3 h hk
    have h2 : i + 0 + 1 ≤ n := h2
    have e : (Int32.ofNat i).toInt = i := a_on (by omega)
    have hs := at_one h3
    show T (b_Law_byText_L75 k (F + 1) 1 (Int32.ofNat i) M') P
    unfold b_Law_byText_L75
    rw [X_93 h, X_10 h, if_pos (by rw [a_lt]; omega), g_ok (by omega) (by omega), if_neg (by decide), a_k e, hs, if_pos (by decide), of_add e (by omega)]
    exact hk
  | cons s c ih =>
    intro i h1 h2 h3 h hk
    have hl : (s :: c).length = c.length + 1 := rfl
    rw [hl] at h2 hk
    have e : (Int32.ofNat i).toInt = i := a_on (by omega)
    have hs : M.1 10 i = s := h3 0 (by simp)
    have h59 : -s ≠ 59 := fun q => h1 s (List.mem_cons_self) (by rw [← Int32.neg_neg (a := s), q])
    rw [hl, show F + (c.length + 1) + 1 = (F + c.length + 1) + 1 by omega]
    unfold b_Law_byText_L75
    rw [X_93 h, X_10 h, if_pos (by rw [a_lt]; omega), g_ok (by omega) (by omega), if_neg (by decide), a_k e, hs, if_neg h59, of_add e (by omega)]
    refine ih (i + 1) (fun a ha => h1 a (List.mem_cons_of_mem _ ha)) (by omega) (fun j hj => ?_) h ?_
    · have := h3 (j + 1) (by rw [List.cons_append, List.length_cons]; omega)
      rw [show i + 1 + j = i + (j + 1) by omega, this]
      rfl
    · rw [show i + 1 + c.length + 1 = i + (c.length + 1) + 1 by omega]
      exact hk
end LINE
theorem LG_line {ah : Nat → Int32} (p : Nat) : (match p_line ah p with
    | Sum.inl _ => True
    | Sum.inr x => x_LG x.1 x.2.1) := by
  unfold p_line
  have h1 := GP_E (ah := ah) p
  generalize p_part ah (p_one ah 6) 5 p = r at h1 ⊢
  cases r with
  | inl f => trivial
  | inr x =>
    obtain ⟨c, v, p1⟩ := x
    have h1 : x_G c v 36 := h1
    dsimp only
    by_cases q : ah p1 = 63
    · rw [if_pos q]
      have h2 := GP_E (ah := ah) (p1 + 1)
      generalize p_part ah (p_one ah 6) 5 (p1 + 1) = r at h2 ⊢
      cases r with
      | inl f => trivial
      | inr y =>
        obtain ⟨c2, v2, p2⟩ := y
        have h2 : x_G c2 v2 36 := h2
        dsimp only
        refine ⟨fun e e' he => by simp only [h1.2.1 e e' he, h2.2.1 e e' he], fun M M' n i F k P g1 g2 g3 g4 g5 hk hz => ?_⟩
        have e1 : (c ++ ([-63] ++ (c2 ++ [-59]))).length = c.length + (c2.length + 2) := by simp
        rw [e1] at g3 hz
        rw [e1, show F + (c.length + (c2.length + 2)) = (F + c2.length + 1 + 1) + c.length by omega]
        obtain ⟨a1, a2⟩ := at_app g4
        obtain ⟨a2, a3⟩ := at_app a2
        have a3 : x_at M (i + c.length + 1) (c2 ++ [-59]) := a3
        refine h1.2.2 M M' n i (F + c2.length + 1 + 1) [] k P g1 g2 (by omega) a1 g5 (by simp) (fun M1 hM1 => ?_)
        refine st_63 (v := v (M.1 11)) hM1 g1 g2 (by omega) (at_one a2) (fun M2 hM2 => ?_)
        by_cases hv : v (M.1 11) = 0
        · rw [if_pos hv]
          refine x_skip g1 g2 c2 (i + c.length + 1) h2.1 (by omega) a3 hM2 ?_
          rw [show i + c.length + 1 + c2.length + 1 = i + (c.length + (c2.length + 2)) by omega]
          exact hz (if_pos hv) M2 hM2
        · rw [if_neg hv, show F + c2.length + 1 = (F + 1) + c2.length by omega]
          obtain ⟨a3, a4⟩ := at_app a3
          refine h2.2.2 M M2 n (i + c.length + 1) (F + 1) [] k P g1 g2 (by omega) a3 hM2 (by simp) (fun M3 hM3 => ?_)
          exact st_59 hM3 g1 g2 (by omega) (at_one a4) (hk (v2 (M.1 11)) M3 (if_neg hv) hM3)
    · rw [if_neg q]
      dsimp only
      refine ⟨fun e e' he => by simp only [h1.2.1 e e' he], fun M M' n i F k P g1 g2 g3 g4 g5 hk hz => ?_⟩
      have e1 : (c ++ [-59]).length = c.length + 1 := by simp
      rw [e1] at g3
      rw [e1, show F + (c.length + 1) = (F + 1) + c.length by omega]
      obtain ⟨a1, a2⟩ := at_app g4
      refine h1.2.2 M M' n i (F + 1) [] k P g1 g2 (by omega) a1 g5 (by simp) (fun M1 hM1 => ?_)
      exact st_59 hM1 g1 g2 (by omega) (at_one a2) (hk (v (M.1 11)) M1 rfl hM1)
/-- the steps of lines -/
def x_TG (c : List Int32) (vs : List i_Li) : Prop := (∀ e e', x_ag e e' → p_val vs e = p_val vs e') ∧
  ∀ (M M' : I_M) (n i F : Nat) (k : I_M → Option (Int32 × I_M)) (P : Int32 × I_M → Prop), (M.1 9 3).toInt = n → n ≤ 128 → i + c.length = n → x_at M i c → x_X M [] M' →
    (∀ M'', x_X M [p_val vs (M.1 11)] M'' → T (k M'') P) → (p_val vs (M.1 11) = 0 → ∀ M'', x_X M [] M'' → P (0, M'')) → T (b_Law_byText_L75 k (F + 1 + c.length) 0 (Int32.ofNat i) M') P
theorem TG_end {c : List Int32} {lv : i_Li} (h : x_LG c lv) : x_TG c [lv] := by
  refine ⟨fun e e' he => ?_, fun M M' n i F k P g1 g2 g3 g4 g5 hk hz => ?_⟩
  · show (match lv e with | some x => x | none => 0) = (match lv e' with | some x => x | none => 0)
    rw [h.1 e e' he]
  · refine h.2 M M' n i (F + 1) k P g1 g2 (by omega) g4 g5 (fun u M'' hu hM => hk M'' ?_) (fun hn M'' hM => ?_)
    · have : p_val [lv] (M.1 11) = u := by
        show (match lv (M.1 11) with | some x => x | none => 0) = u
        rw [hu]
      rw [this]
      exact hM
    · have : p_val [lv] (M.1 11) = 0 := by
        show (match lv (M.1 11) with | some x => x | none => 0) = 0
        rw [hn]
      unfold b_Law_byText_L75
      have e : (Int32.ofNat (i + c.length)).toInt = ((i + c.length : Nat) : Int) := a_on (by omega)
      rw [X_93 hM, if_neg (by rw [a_lt]; omega)]
      exact T_some (hz this M'' hM)
theorem TG_cons {c c2 : List Int32} {lv : i_Li} {vs : List i_Li} (h : x_LG c lv) (h2 : x_TG c2 vs) : x_TG (c ++ c2) (lv :: vs) := by
  refine ⟨fun e e' he => ?_, fun M M' n i F k P g1 g2 g3 g4 g5 hk hz => ?_⟩
  · show (match lv e with | some x => x | none => p_val vs e) = (match lv e' with | some x => x | none => p_val vs e')
    rw [h.1 e e' he, h2.1 e e' he]
  · have hl : (c ++ c2).length = c.length + c2.length := List.length_append
    rw [hl] at g3
    rw [hl, show F + 1 + (c.length + c2.length) = (F + 1 + c2.length) + c.length by omega]
    obtain ⟨a1, a2⟩ := at_app g4
    refine h.2 M M' n i (F + 1 + c2.length) k P g1 g2 (by omega) a1 g5 (fun u M'' hu hM => hk M'' ?_) (fun hn M'' hM => ?_)
    · have : p_val (lv :: vs) (M.1 11) = u := by
        show (match lv (M.1 11) with | some x => x | none => p_val vs (M.1 11)) = u
        rw [hu]
      rw [this]
      exact hM
    · have : p_val (lv :: vs) (M.1 11) = p_val vs (M.1 11) := by
        show (match lv (M.1 11) with | some x => x | none => p_val vs (M.1 11)) = p_val vs (M.1 11)
        rw [hn]
      rw [this] at hk hz
      exact h2.2 M M'' n (i + c.length) F k P g1 g2 (by omega) a2 hM hk hz
theorem TG_lines {ah : Nat → Int32} : ∀ m p, (match p_lines ah m p with
    | Sum.inl _ => True
    | Sum.inr x => x_TG x.1 x.2.1) := by
  intro m
  induction m with
  | zero => exact fun p => trivial
  | succ m ih =>
    intro p
    unfold p_lines
    have h1 := LG_line (ah := ah) p
    generalize p_line ah p = r at h1 ⊢
    cases r with
    | inl f => trivial
    | inr x =>
      obtain ⟨c, v, p1⟩ := x
      have h1 : x_LG c v := h1
      dsimp only
      by_cases q : ah p1 = 59
      · rw [if_pos q]
        have h2 := ih (p1 + 1)
        generalize p_lines ah m (p1 + 1) = r at h2 ⊢
        cases r with
        | inl f => trivial
        | inr y => exact TG_cons h1 h2
      · rw [if_neg q]
        exact TG_end h1
theorem TG_text {ah : Nat → Int32} {n : Nat} : (match p_text ah n with
    | Sum.inl _ => True
    | Sum.inr y => x_TG y.1 y.2) := by
  unfold p_text
  have h := TG_lines (ah := ah) 122 0
  generalize p_lines ah 122 0 = r at h ⊢
  cases r with
  | inl f => trivial
  | inr x =>
    obtain ⟨c, vs, p2⟩ := x
    have h : x_TG c vs := h
    dsimp only
    by_cases q : p2 < n
    · rw [if_pos q]
      trivial
    · rw [if_neg q]
      exact h
