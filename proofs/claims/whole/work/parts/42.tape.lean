/-! ===== part 42: the tape follows the parser ===== -/
def p_S (M : I_M) (p : Nat) (c : List Int32) : I_M := i_rw (i_rw M 8 (fun j => c.getD j (M.1 8 j))) 6 (upd (upd (upd (M.1 6) 3 (Int32.ofNat c.length)) 4 (Int32.ofNat p)) 5 (-1))
def p_F (M : I_M) (f : Nat) (M' : I_M) : Prop := ∃ (r8 : Nat → Int32) (x y : Int32), 0 ≤ x.toInt ∧ x.toInt ≤ 128 ∧ M' = i_rw (i_rw M 8 r8) 6 (upd (upd (upd (M.1 6) 3 x) 4 y) 5 (Int32.ofNat f))
def p_Q (M : I_M) (c : List Int32) (r : i_R) (M' : I_M) : Prop := i_ri (fun f => p_F M f M') (fun c2 _ p2 => M' = p_S M p2 (c ++ c2)) r
def p_C (M : I_M) (n : Nat) (g : I_M → Option I_M) (r : Nat → i_R) : Prop := ∀ p c, p ≤ n → c.length ≤ p → T (g (p_S M p c)) (p_Q M c (r p))
theorem getD_app {c : List Int32} {s d : Int32} {j : Nat} : (c ++ [s]).getD j d = if j = c.length then s else c.getD j d := by
  rw [List.getD_eq_getElem?_getD, List.getD_eq_getElem?_getD]
  by_cases h : j < c.length
  · rw [List.getElem?_append_left h, if_neg (by omega)]
  · rw [List.getElem?_append_right (by omega)]
    by_cases h2 : j = c.length
    · rw [if_pos h2, h2, Nat.sub_self]
      rfl
    · rw [if_neg h2, List.getElem?_eq_none (by simp; omega), List.getElem?_eq_none (by omega)]
section TAPE
variable {M M' : I_M} {p n f : Nat} {c : List Int32} {s : Int32}
theorem pS_63 : (p_S M p c).1 6 3 = Int32.ofNat c.length := rfl
theorem pS_64 : (p_S M p c).1 6 4 = Int32.ofNat p := rfl
theorem pS_65 : (p_S M p c).1 6 5 = -1 := rfl
theorem pS_61 : (p_S M p c).1 6 1 = M.1 6 1 := rfl
theorem pS_7 : (p_S M p c).1 7 = M.1 7 := rfl
theorem pS_ah (hn : (M.1 6 1).toInt = n) (h120 : n ≤ 120) (hp : p ≤ n) : b_Tape_ahead (p_S M p c) = some (p_ah (M.1 7) n p, p_S M p c) := by
  unfold b_Tape_ahead
  have e : (Int32.ofNat p).toInt = p := a_on (by omega)
  rw [pS_65, if_pos (by decide), pS_64, pS_61, pS_7]
  unfold p_ah
  by_cases h : p < n
  · rw [if_pos (by rw [a_lt]; omega), g_ok (by omega) (by omega), a_k e, if_pos h]
  · rw [if_neg (by rw [a_lt]; omega), if_neg h]
theorem pS_mv (h : p < 1000) : i_wI (p_S M p c) 6 4 ((p_S M p c).1 6 4 + 1) = p_S M (p + 1) c := by
  rw [pS_64, of_add (a_on (by omega)) h, rw_w]
  refine m_ext (fun q k => ?_) rfl
  unfold i_rw p_S
  by_cases h6 : q = 6
  · subst h6
    unfold i_rw upd
    by_cases h5 : k = 5
    · subst h5
      rfl
    by_cases h4 : k = 4
    · subst h4
      rfl
    simp [h5, h4]
  · unfold i_rw
    simp [h6]
theorem pS_st (h : c.length < 128) : b_Tape_step s (p_S M p c) = some (p_S M p (c ++ [s])) := by
  unfold b_Tape_step
  have e : (Int32.ofNat c.length).toInt = c.length := a_on (by omega)
  have l : (128 : Int32).toInt = 128 := rfl
  rw [pS_63, if_pos (by rw [a_lt]; omega), g_ok (by omega) (by omega), of_add e (by omega), a_k e]
  congr 1
  refine m_ext (fun q k => ?_) rfl
  rw [m_wI, m_wI]
  by_cases h6 : q = 6
  · subst h6
    have hl : (c ++ [s]).length = c.length + 1 := by simp
    unfold p_S i_rw upd
    rw [hl]
    by_cases h3 : k = 3
    · subst h3
      rfl
    simp [h3]
  by_cases h8 : q = 8
  · subst h8
    show (if 8 = 6 ∧ k = 3 then _ else if 8 = 8 ∧ k = c.length then s else c.getD k (M.1 8 k)) = (c ++ [s]).getD k (M.1 8 k)
    rw [getD_app, if_neg (by omega)]
    by_cases h : k = c.length
    · rw [if_pos ⟨rfl, h⟩, if_pos h]
    · rw [if_neg (fun x => h x.2), if_neg h]
  · unfold p_S i_rw
    simp [h6, h8]
theorem pS_fl (hc : c.length ≤ 128) : T (b_Tape_fail (p_S M p c)) (p_F M p) := by
  unfold b_Tape_fail
  rw [pS_65, if_pos (by decide), pS_64, rw_w]
  refine T_some ⟨fun j => c.getD j (M.1 8 j), Int32.ofNat c.length, Int32.ofNat p, by rw [a_on (by omega)]; omega, by rw [a_on (by omega)]; omega, ?_⟩
  refine m_ext (fun q k => ?_) rfl
  unfold i_rw p_S
  by_cases h6 : q = 6
  · subst h6
    unfold i_rw upd
    by_cases h5 : k = 5
    · subst h5
      rfl
    by_cases h4 : k = 4
    · subst h4
      rfl
    simp [h5, h4]
  · unfold i_rw
    simp [h6]
theorem pF_ah (h : p_F M f M') (hf : f < 1000) : b_Tape_ahead M' = some (-1, M') := by
  obtain ⟨r8, x, y, h1, h2, rfl⟩ := h
  unfold b_Tape_ahead
  refine if_neg ?_
  show ¬ (Int32.ofNat f < 0)
  rw [a_lt, a_on (by omega), Int32.toInt_zero]
  omega
theorem pF_fl (h : p_F M f M') (hf : f < 1000) : b_Tape_fail M' = some M' := by
  obtain ⟨r8, x, y, h1, h2, rfl⟩ := h
  unfold b_Tape_fail
  refine if_neg ?_
  show ¬ (Int32.ofNat f < 0)
  rw [a_lt, a_on (by omega), Int32.toInt_zero]
  omega
theorem pF_st (h : p_F M f M') : T (b_Tape_step s M') (p_F M f) := by
  obtain ⟨r8, x, y, h1, h2, rfl⟩ := h
  unfold b_Tape_step
  have l : (128 : Int32).toInt = 128 := rfl
  refine T_if (fun q => ?_) (fun q => T_some ⟨r8, x, y, h1, h2, rfl⟩)
  have q : x.toInt < 128 := by
    have : x < 128 := q
    rw [a_lt] at this
    omega
  refine T_g (show 0 ≤ x.toInt by omega) (show x.toInt < 128 by omega) (T_some ?_)
  have e : (x + 1).toInt = x.toInt + 1 := a_a1 (by omega)
  refine ⟨upd r8 (Int32.toNatClampNeg x) s, x + 1, y, by omega, by omega, ?_⟩
  show i_wI (i_wI (i_rw (i_rw M 8 r8) 6 (upd (upd (upd (M.1 6) 3 x) 4 y) 5 (Int32.ofNat f))) 8 (Int32.toNatClampNeg x) s) 6 3 (x + 1) = _
  refine m_ext (fun q k => ?_) rfl
  rw [m_wI, m_wI]
  unfold i_rw upd
  by_cases h6 : q = 6
  · subst h6
    by_cases h3 : k = 3
    · subst h3
      simp
    simp [h3]
  by_cases h8 : q = 8
  · subst h8
    simp
  · simp [h6, h8]
end TAPE
theorem lvl_e {x : Int32} {M : I_M} : b_Tape_levelOf x M = some (p_lvl x, M) := by
  unfold b_Tape_levelOf p_lvl
  repeat' split
  all_goals rfl
theorem dg_e {x : Int32} {M : I_M} : b_Tape_isDigit x M = some (i_bo (48 ≤ x.toInt ∧ x.toInt ≤ 57), M) := by
  unfold b_Tape_isDigit
  have l1 : (48 : Int32).toInt = 48 := rfl
  have l2 : (57 : Int32).toInt = 57 := rfl
  simp only [a_lt, l1, l2]
  by_cases h1 : x.toInt < 48
  · rw [if_pos h1, bo_n (by omega)]
  · rw [if_neg h1]
    by_cases h2 : 57 < x.toInt
    · rw [if_pos h2, bo_n (by omega)]
    · rw [if_neg h2, bo_p (by omega)]
def p_ch (x : Int32) : Int32 := UInt32.toInt32 (Int32.toUInt32 x % 65536)
def p_fi (x : Int32) : Int32 := if i_x104 0 = Int8.toInt32 (Int32.toInt8 x) then 0 else if i_x104 1 = Int8.toInt32 (Int32.toInt8 x) then 1 else if i_x104 2 = Int8.toInt32 (Int32.toInt8 x) then 2 else if i_x104 3 = Int8.toInt32 (Int32.toInt8 x) then 3 else if i_x104 4 = Int8.toInt32 (Int32.toInt8 x) then 4 else if i_x104 5 = Int8.toInt32 (Int32.toInt8 x) then 5 else if i_x104 6 = Int8.toInt32 (Int32.toInt8 x) then 6 else -1
theorem nm_dec : ∀ k, k < 256 → p_ch (Int32.ofNat k) = Int32.ofNat k ∧ p_fi (Int32.ofNat k) = p_nm (Int32.ofNat k) := by decide +kernel
theorem Lc_step {n : Nat} {l4 i : Int32} {M : I_M} (h : 0 ≤ i.toInt) (h7 : i.toInt < 7) : j_Lat_indexOfChar_L7 7 l4 (n + 1) i M = if i_x104 (Int32.toNatClampNeg i) = l4 then some (i, M) else j_Lat_indexOfChar_L7 7 l4 n (i + 1) M := by
  have l : (7 : Int32).toInt = 7 := rfl
  rw [j_Lat_indexOfChar_L7, if_pos (by rw [a_lt]; omega), g_ok (by omega) (by omega)]
theorem Lc_e {x : Int32} {M : I_M} : j_Lat_indexOfChar x 0 7 M = some (p_fi x, M) := by
  unfold j_Lat_indexOfChar p_fi
  generalize Int8.toInt32 (Int32.toInt8 x) = l4
  have e : i_F = 4992 + 1 + 1 + 1 + 1 + 1 + 1 + 1 + 1 := rfl
  rw [e, Lc_step (by decide) (by decide), Lc_step (by decide) (by decide), Lc_step (by decide) (by decide), Lc_step (by decide) (by decide), Lc_step (by decide) (by decide), Lc_step (by decide) (by decide), Lc_step (by decide) (by decide)]
  have e7 : j_Lat_indexOfChar_L7 7 l4 (4992 + 1) (0 + 1 + 1 + 1 + 1 + 1 + 1 + 1) M = some (-1, M) := by rw [j_Lat_indexOfChar_L7, if_neg (by decide)]
  rw [e7]
  by_cases h0 : i_x104 0 = l4
  · rw [if_pos h0, if_pos (show i_x104 (Int32.toNatClampNeg 0) = l4 from h0)]
  rw [if_neg h0, if_neg (show ¬ i_x104 (Int32.toNatClampNeg 0) = l4 from h0)]
  by_cases h1 : i_x104 1 = l4
  · rw [if_pos h1, if_pos (show i_x104 (Int32.toNatClampNeg (0 + 1)) = l4 from h1)]
    rfl
  rw [if_neg h1, if_neg (show ¬ i_x104 (Int32.toNatClampNeg (0 + 1)) = l4 from h1)]
  by_cases h2 : i_x104 2 = l4
  · rw [if_pos h2, if_pos (show i_x104 (Int32.toNatClampNeg (0 + 1 + 1)) = l4 from h2)]
    rfl
  rw [if_neg h2, if_neg (show ¬ i_x104 (Int32.toNatClampNeg (0 + 1 + 1)) = l4 from h2)]
  by_cases h3 : i_x104 3 = l4
  · rw [if_pos h3, if_pos (show i_x104 (Int32.toNatClampNeg (0 + 1 + 1 + 1)) = l4 from h3)]
    rfl
  rw [if_neg h3, if_neg (show ¬ i_x104 (Int32.toNatClampNeg (0 + 1 + 1 + 1)) = l4 from h3)]
  by_cases h4 : i_x104 4 = l4
  · rw [if_pos h4, if_pos (show i_x104 (Int32.toNatClampNeg (0 + 1 + 1 + 1 + 1)) = l4 from h4)]
    rfl
  rw [if_neg h4, if_neg (show ¬ i_x104 (Int32.toNatClampNeg (0 + 1 + 1 + 1 + 1)) = l4 from h4)]
  by_cases h5 : i_x104 5 = l4
  · rw [if_pos h5, if_pos (show i_x104 (Int32.toNatClampNeg (0 + 1 + 1 + 1 + 1 + 1)) = l4 from h5)]
    rfl
  rw [if_neg h5, if_neg (show ¬ i_x104 (Int32.toNatClampNeg (0 + 1 + 1 + 1 + 1 + 1)) = l4 from h5)]
  by_cases h6 : i_x104 6 = l4
  · rw [if_pos h6, if_pos (show i_x104 (Int32.toNatClampNeg (0 + 1 + 1 + 1 + 1 + 1 + 1)) = l4 from h6)]
    rfl
  rw [if_neg h6, if_neg (show ¬ i_x104 (Int32.toNatClampNeg (0 + 1 + 1 + 1 + 1 + 1 + 1)) = l4 from h6)]
theorem io_e {x : Int32} {M : I_M} (h : 0 ≤ x.toInt) (h2 : x.toInt ≤ 255) : j_Str_indexOf (UInt32.toInt32 (Int32.toUInt32 x % 65536)) M = some (p_nm x, M) := by
  have hx : x = Int32.ofNat x.toInt.toNat := a_eq.mpr (by rw [a_on (by omega)]; omega)
  have d := nm_dec x.toInt.toNat (by omega)
  rw [← hx] at d
  rw [show UInt32.toInt32 (Int32.toUInt32 x % 65536) = x from d.1]
  have l255 : (255 : Int32).toInt = 255 := rfl
  have ce : j_Lat_canEncode x M = some (1, M) := by
    unfold j_Lat_canEncode
    rw [if_neg (by rw [a_lt, Int32.toInt_zero]; omega), if_neg (by rw [a_lt]; omega)]
  have li : j_Lat_indexOf x 0 7 M = some (p_nm x, M) := by
    unfold j_Lat_indexOf
    rw [ce]
    dsimp only [Option.bind_some]
    rw [if_neg (by decide), if_pos (by decide), show i_max 0 0 = 0 from by decide, show i_min 7 7 = 7 from by decide, Lc_e, d.2]
    rfl
  have le : j_Str_length M = some (7, M) := by
    unfold j_Str_length j_Str_coder
    dsimp only [Option.bind_some]
    rw [show (7 : Int32) >>> (0 &&& 31) = 7 from by decide]
  unfold j_Str_indexOf j_Str_indexOf2 j_Str_isLatin1
  dsimp only [Option.bind_some]
  rw [if_neg (by decide), le]
  dsimp only [Option.bind_some]
  rw [li]
  rfl
