/-! ===== part 50: the steps on the stack ===== -/
def x_X (M : I_M) (st : List Int32) (M' : I_M) : Prop := ∃ r12 : Nat → Int32, M' = i_rw (i_rw M 12 r12) 9 (upd (M.1 9) 6 (Int32.ofNat st.length)) ∧ ∀ j, j < st.length → r12 j = st.getD j 0
def x_at (M : I_M) (i : Nat) (c : List Int32) : Prop := ∀ j, j < c.length → M.1 10 (i + j) = c.getD j 0
theorem at_app {M : I_M} {i : Nat} {a b : List Int32} (h : x_at M i (a ++ b)) : x_at M i a ∧ x_at M (i + a.length) b := by
  constructor
  · intro j hj
    rw [h j (by rw [List.length_append]; omega), List.getD_eq_getElem?_getD, List.getD_eq_getElem?_getD, List.getElem?_append_left hj]
  · intro j hj
    have := h (a.length + j) (by rw [List.length_append]; omega)
    rw [Nat.add_assoc, this, List.getD_eq_getElem?_getD, List.getD_eq_getElem?_getD, List.getElem?_append_right (by omega), Nat.add_sub_cancel_left]
theorem at_one {M : I_M} {i : Nat} {s : Int32} (h : x_at M i [s]) : M.1 10 i = s := h 0 (by simp)
section STK
variable {M M' : I_M} {st : List Int32} {v : Int32} {n i F : Nat} {k : I_M → Option (Int32 × I_M)} {P : Int32 × I_M → Prop}
theorem X_top (h : x_X M st M') : M'.1 9 6 = Int32.ofNat st.length := by
  obtain ⟨r, rfl, _⟩ := h
  rfl
theorem X_93 (h : x_X M st M') : M'.1 9 3 = M.1 9 3 := by
  obtain ⟨r, rfl, _⟩ := h
  rfl
theorem X_10 (h : x_X M st M') : M'.1 10 = M.1 10 := by
  obtain ⟨r, rfl, _⟩ := h
  rfl
theorem X_11 (h : x_X M st M') : M'.1 11 = M.1 11 := by
  obtain ⟨r, rfl, _⟩ := h
  rfl
theorem X_pop (h : x_X M (st ++ [v]) M') (hl : st.length < 64) : T (b_Law_pop M') (fun q => q.1 = v ∧ x_X M st q.2) := by
  obtain ⟨r, rfl, hr⟩ := h
  have hle : (st ++ [v]).length = st.length + 1 := by simp
  have e : (Int32.ofNat (st ++ [v]).length).toInt = st.length + 1 := by rw [a_on (by omega), hle]; rfl
  unfold b_Law_pop
  have e1 : (Int32.ofNat (st ++ [v]).length - 1).toInt = st.length := by rw [a_s1 (by omega)]; omega
  refine T_if (fun _ => ?_) (fun q => absurd (show 0 < Int32.ofNat (st ++ [v]).length by rw [a_lt, Int32.toInt_zero]; omega) q)
  refine T_g (show 0 ≤ (Int32.ofNat (st ++ [v]).length - 1).toInt by omega) (show (Int32.ofNat (st ++ [v]).length - 1).toInt < (64 : Nat) by omega) (T_some ⟨?_, ?_⟩)
  · show r (Int32.toNatClampNeg (Int32.ofNat (st ++ [v]).length - 1)) = v
    rw [a_k e1, hr _ (by omega), getD_app, if_pos rfl]
  · refine ⟨r, ?_, fun j hj => ?_⟩
    · show i_wI (i_rw (i_rw M 12 r) 9 (upd (M.1 9) 6 (Int32.ofNat (st ++ [v]).length))) 9 6 (Int32.ofNat (st ++ [v]).length - 1) = _
      rw [rw_w, rw_rw, rw_s, show Int32.ofNat (st ++ [v]).length - 1 = Int32.ofNat st.length by rw [a_eq, e1, a_on (by omega)]]
      congr 1
      funext j
      unfold upd
      split <;> rfl
    · rw [hr j (by omega), getD_app, if_neg (by omega)]
theorem X_push (h : x_X M st M') (hl : st.length < 64) : T (b_Law_push v M') (x_X M (st ++ [v])) := by
  obtain ⟨r, rfl, hr⟩ := h
  have hle : (st ++ [v]).length = st.length + 1 := by simp
  have e : (Int32.ofNat st.length).toInt = st.length := a_on (by omega)
  have l64 : (64 : Int32).toInt = 64 := rfl
  unfold b_Law_push
  refine T_if (fun _ => ?_) (fun q => absurd (show Int32.ofNat st.length < 64 by rw [a_lt]; omega) q)
  refine T_g (show 0 ≤ (Int32.ofNat st.length).toInt by omega) (show (Int32.ofNat st.length).toInt < (64 : Nat) by omega) (T_some ?_)
  refine ⟨upd r st.length v, ?_, fun j hj => ?_⟩
  · show i_wI (i_wI (i_rw (i_rw M 12 r) 9 (upd (M.1 9) 6 (Int32.ofNat st.length))) 12 (Int32.toNatClampNeg (Int32.ofNat st.length)) v) 9 6 (Int32.ofNat st.length + 1) = _
    rw [a_k e, of_add e (by omega), hle]
    refine m_ext (fun q k => ?_) rfl
    rw [m_wI, m_wI]
    unfold i_rw upd
    by_cases h9 : q = 9
    · subst h9
      by_cases h6 : k = 6
      · subst h6
        simp
      · simp [h6]
    by_cases h12 : q = 12
    · subst h12
      simp
    · simp [h9, h12]
  · rw [getD_app]
    by_cases q : j = st.length
    · rw [if_pos q, q, upd_s]
    · rw [if_neg q, upd_n q]
      exact hr j (by omega)
theorem joined_e {a x b : Int32} {M : I_M} : b_Law_joined a x b M = some (p_op x a b, M) := by
  unfold b_Law_joined p_op
  by_cases h1 : x = 37
  · simp only [if_pos h1]
    by_cases hb : b = 0
    · simp only [if_pos hb]
    · simp only [if_neg hb, nz_ok hb]
  by_cases h2 : x = 38
  · simp only [if_neg h1, if_pos h2]
    by_cases ha : a = 0
    · simp only [if_pos ha]
    · by_cases hb : b = 0
      · simp only [if_neg ha, if_pos hb]
      · simp only [if_neg ha, if_neg hb]
  by_cases h3 : x = 42
  · simp only [if_neg h1, if_neg h2, if_pos h3]
  by_cases h4 : x = 43
  · simp only [if_neg h1, if_neg h2, if_neg h3, if_pos h4]
  by_cases h5 : x = 45
  · simp only [if_neg h1, if_neg h2, if_neg h3, if_neg h4, if_pos h5]
  by_cases h6 : x = 47
  · simp only [if_neg h1, if_neg h2, if_neg h3, if_neg h4, if_neg h5, if_pos h6]
    by_cases hb : b = 0
    · simp only [if_pos hb]
    · simp only [if_neg hb, nz_ok hb]
  by_cases h7 : x = 60
  · simp only [if_neg h1, if_neg h2, if_neg h3, if_neg h4, if_neg h5, if_neg h6, if_pos h7]
    split <;> rfl
  by_cases h8 : x = 61
  · simp only [if_neg h1, if_neg h2, if_neg h3, if_neg h4, if_neg h5, if_neg h6, if_neg h7, if_pos h8]
    split <;> rfl
  by_cases h9 : x = 62
  · simp only [if_neg h1, if_neg h2, if_neg h3, if_neg h4, if_neg h5, if_neg h6, if_neg h7, if_neg h8, if_pos h9]
    split <;> rfl
  by_cases h10 : x = 124
  · simp only [if_neg h1, if_neg h2, if_neg h3, if_neg h4, if_neg h5, if_neg h6, if_neg h7, if_neg h8, if_neg h9, if_pos h10]
    by_cases ha : a = 0
    · by_cases hb : b = 0
      · simp only [if_pos ha, if_pos hb]
      · simp only [if_pos ha, if_neg hb]
    · simp only [if_neg ha]
  simp only [if_neg h1, if_neg h2, if_neg h3, if_neg h4, if_neg h5, if_neg h6, if_neg h7, if_neg h8, if_neg h9, if_neg h10]
theorem st_1 {s : Int32} (h : x_X M st M') (hn : (M.1 9 3).toInt = n) (h128 : n ≤ 128) (hi : i < n) (hs : M.1 10 i = s) (h59 : -s ≠ 59) (h63 : -s ≠ 63) (ht : T (b_Law_take (-s) M') (fun q => T (b_Law_byText_L75 k F 0 (Int32.ofNat (i + 1)) q) P)) : T (b_Law_byText_L75 k (F + 1) 0 (Int32.ofNat i) M') P := by
  have e : (Int32.ofNat i).toInt = i := a_on (by omega)
  unfold b_Law_byText_L75
  rw [X_93 h, X_10 h, if_pos (by rw [a_lt]; omega), g_ok (by omega) (by omega), if_pos rfl, a_k e, hs, if_neg h59, if_neg h63, of_add e (by omega)]
  exact T_bind ht
theorem l_400 : (400 : Int32).toInt = 400 := rfl
theorem l_300 : (300 : Int32).toInt = 300 := rfl
theorem tk_num {s : Int32} (hs : 0 ≤ s.toInt) (h : x_X M st M') (hl : st.length < 64) : T (b_Law_take (-s) M') (x_X M (st ++ [s])) := by
  unfold b_Law_take
  have e : (-s).toInt = -s.toInt := a_neg (by omega)
  rw [if_neg (by rw [a_lt, Int32.toInt_zero]; omega), Int32.neg_neg]
  exact T_bind (T_mono (X_push h hl) (fun a ha => T_some ha))
theorem tk_nm {j : Int32} (hj : 0 ≤ j.toInt) (hj2 : j.toInt < 7) (h : x_X M st M') (hl : st.length < 64) : T (b_Law_take (-(-(400 + j))) M') (x_X M (st ++ [M.1 11 (Int32.toNatClampNeg j)])) := by
  unfold b_Law_take
  rw [Int32.neg_neg]
  have l4 := l_400
  have l7 : (7 : Int32).toInt = 7 := rfl
  have e : (400 + j).toInt = 400 + j.toInt := by rw [a_add] <;> omega
  have e2 : (400 + j - 400).toInt = j.toInt := by rw [a_sub] <;> omega
  have e3 : (400 + j - 400) = j := a_eq.mpr e2
  rw [if_pos (by rw [a_lt, Int32.toInt_zero]; omega), if_neg (by rw [a_lt]; omega), e3, if_pos (by rw [a_lt]; omega), g_ok hj (by omega), X_11 h]
  exact T_bind (T_mono (X_push h hl) (fun a ha => T_some ha))
theorem tk_neg (h : x_X M (st ++ [v]) M') (hl : st.length < 64) : T (b_Law_take 300 M') (x_X M (st ++ [-v])) := by
  unfold b_Law_take
  rw [if_pos (by decide), if_pos (by decide), if_pos rfl]
  refine T_bind (T_mono (X_pop h hl) (fun a ha => ?_))
  rw [ha.1]
  exact T_bind (T_mono (X_push ha.2 hl) (fun a ha => T_some ha))
theorem tk_not (h : x_X M (st ++ [v]) M') (hl : st.length < 64) : T (b_Law_take 33 M') (x_X M (st ++ [if v = 0 then 1 else 0])) := by
  unfold b_Law_take
  rw [if_pos (by decide), if_pos (by decide), if_neg (by decide), if_pos rfl]
  refine T_bind (T_mono (X_pop h hl) (fun a ha => ?_))
  rw [ha.1]
  by_cases q : v = 0
  · rw [if_pos q, if_pos q]
    exact T_bind (T_mono (X_push ha.2 hl) (fun a ha => T_some ha))
  · rw [if_neg q, if_neg q]
    exact T_bind (T_mono (X_push ha.2 hl) (fun a ha => T_some ha))
theorem tk_op {a b x : Int32} (hx : p_lvl x ≠ -1) (h : x_X M (st ++ [a] ++ [b]) M') (hl : st.length + 1 < 64) : T (b_Law_take x M') (x_X M (st ++ [p_op x a b])) := by
  have hle : (st ++ [a]).length = st.length + 1 := by simp
  have X : T (Option.bind (b_Law_pop M') (fun q11 => Option.bind (b_Law_pop q11.2) (fun q12 => Option.bind (b_Law_joined q12.1 x q11.1 q12.2) (fun q13 => Option.bind (b_Law_push q13.1 q13.2) (fun q14 => some q14))))) (x_X M (st ++ [p_op x a b])) := by
    refine T_bind (T_mono (X_pop h (by omega)) (fun q hq => ?_))
    refine T_bind (T_mono (X_pop hq.2 (by omega)) (fun r hr => ?_))
    rw [hq.1, hr.1, joined_e]
    refine T_bind (T_some ?_)
    exact T_bind (T_mono (X_push hr.2 (by omega)) (fun a ha => T_some ha))
  have hc : x = 37 ∨ x = 38 ∨ x = 42 ∨ x = 43 ∨ x = 45 ∨ x = 47 ∨ x = 60 ∨ x = 61 ∨ x = 62 ∨ x = 124 := by
    unfold p_lvl at hx
    by_cases h1 : x = 37
    · simp [h1]
    by_cases h2 : x = 38
    · simp [h2]
    by_cases h3 : x = 42
    · simp [h3]
    by_cases h4 : x = 43
    · simp [h4]
    by_cases h5 : x = 45
    · simp [h5]
    by_cases h6 : x = 47
    · simp [h6]
    by_cases h7 : x = 60
    · simp [h7]
    by_cases h8 : x = 61
    · simp [h8]
    by_cases h9 : x = 62
    · simp [h9]
    by_cases h10 : x = 124
    · simp [h10]
    simp [h1, h2, h3, h4, h5, h6, h7, h8, h9, h10] at hx
  unfold b_Law_take
  rw [if_pos (by rcases hc with rfl | rfl | rfl | rfl | rfl | rfl | rfl | rfl | rfl | rfl <;> decide), if_pos (by rcases hc with rfl | rfl | rfl | rfl | rfl | rfl | rfl | rfl | rfl | rfl <;> decide), if_neg (by rcases hc with rfl | rfl | rfl | rfl | rfl | rfl | rfl | rfl | rfl | rfl <;> decide), if_neg (by rcases hc with rfl | rfl | rfl | rfl | rfl | rfl | rfl | rfl | rfl | rfl <;> decide)]
  exact X
end STK
