/-! ===== part 66: act ===== -/
theorem ob {α β : Type} {a : Option α} {f : α → Option β} {b : β} (h : Option.bind a f = some b) : ∃ r, a = some r ∧ f r = some b := by
  cases a with
  | none => cases h
  | some r => exact ⟨r, rfl, h⟩
def t_row (f : Nat → Int32) (l : List Nat) (j : Nat) : Int32 := if j < 24 then (match l[j]? with | some x => Int32.ofNat x | none => f j) else f j
def t_S (M : I_M) (l : List Nat) : I_M := i_rw (i_rw M 40 (t_row (M.1 40) l)) 38 (upd (M.1 38) 3 (Int32.ofNat l.length))
def t_R (M : I_M) (l : List Nat) : I_M := i_rw (i_rw M 69 (t_row (M.1 69) l)) 50 (upd (M.1 50) 49 (Int32.ofNat l.length))
theorem row_1 {f : Nat → Int32} {l : List Nat} {x : Nat} (h : l.length < 24) : upd (t_row f l) l.length (Int32.ofNat x) = t_row f (l ++ [x]) := by
  funext j
  unfold upd t_row
  by_cases q : j = l.length
  · rw [if_pos q, q, if_pos h, List.getElem?_append_right (Nat.le_refl _), Nat.sub_self]
    rfl
  · rw [if_neg q]
    by_cases g : j < 24
    · rw [if_pos g, if_pos g]
      by_cases w : j < l.length
      · rw [List.getElem?_append_left w]
      · rw [List.getElem?_eq_none (by omega), List.getElem?_eq_none (by simp; omega)]
    · rw [if_neg g, if_neg g]
theorem row_2 {f : Nat → Int32} {l : List Nat} {x : Nat} (h : ¬ l.length < 24) : t_row f (l ++ [x]) = t_row f l := by
  funext j
  unfold t_row
  by_cases g : j < 24
  · rw [if_pos g, if_pos g, List.getElem?_append_left (by omega)]
  · rw [if_neg g, if_neg g]
theorem of_add2 {d : Nat} (hd : d < 1000000) : Int32.ofNat d + 1 = Int32.ofNat (d + 1) := by
  rw [a_eq, a_a1 (by rw [a_on (by omega)]; omega), a_on (by omega), a_on (by omega)]
  rfl
section ACT
variable {M : I_M} {l : List Nat} {x : Nat}
theorem bg_b (h : l.length < 1000000) : b_Bodies_begin (Int32.ofNat x) (t_S M l) = some (t_S M (l ++ [x])) := by
  have e : (Int32.ofNat l.length).toInt = l.length := a_on (by omega)
  have l24 : (24 : Int32).toInt = 24 := rfl
  have hl : (l ++ [x]).length = l.length + 1 := by simp
  unfold b_Bodies_begin
  rw [show (t_S M l).1 38 3 = Int32.ofNat l.length from rfl]
  by_cases q : l.length < 24
  · rw [if_pos (by rw [a_lt]; omega), g_ok (by omega) (by omega), a_k e, of_add2 h]
    congr 1
    refine m_ext (fun y j => ?_) rfl
    rw [m_wI, m_wI]
    unfold t_S
    rw [hl, ← row_1 q]
    unfold i_rw
    by_cases h38 : y = 38
    · subst h38
      by_cases h3 : j = 3
      · subst h3
        simp [upd]
      · simp [h3, upd]
    by_cases h40 : y = 40
    · subst h40
      unfold upd
      by_cases h3 : j = l.length <;> simp [h3]
    simp [h38, h40]
  · rw [if_neg (by rw [a_lt]; omega), of_add2 h]
    congr 1
    refine m_ext (fun y j => ?_) rfl
    rw [m_wI]
    unfold t_S
    rw [hl, row_2 q]
    unfold i_rw
    by_cases h38 : y = 38
    · subst h38
      by_cases h3 : j = 3
      · subst h3
        simp [upd]
      · simp [h3, upd]
    simp [h38]
theorem bg_r (h : l.length < 1000000) : r_begins (Int32.ofNat x) (t_R M l) = some (t_R M (l ++ [x])) := by
  have e : (Int32.ofNat l.length).toInt = l.length := a_on (by omega)
  have l24 : (24 : Int32).toInt = 24 := rfl
  have hl : (l ++ [x]).length = l.length + 1 := by simp
  unfold r_begins
  rw [show (t_R M l).1 50 49 = Int32.ofNat l.length from rfl]
  by_cases q : l.length < 24
  · rw [if_pos (by rw [a_lt]; omega), g_ok (by omega) (by omega), a_k e, of_add2 h]
    congr 1
    refine m_ext (fun y j => ?_) rfl
    rw [m_wI, m_wI]
    unfold t_R
    rw [hl, ← row_1 q]
    unfold i_rw
    by_cases h38 : y = 50
    · subst h38
      by_cases h3 : j = 49
      · subst h3
        simp [upd]
      · simp [h3, upd]
    by_cases h40 : y = 69
    · subst h40
      unfold upd
      by_cases h3 : j = l.length <;> simp [h3]
    simp [h38, h40]
  · rw [if_neg (by rw [a_lt]; omega), of_add2 h]
    congr 1
    refine m_ext (fun y j => ?_) rfl
    rw [m_wI]
    unfold t_R
    rw [hl, row_2 q]
    unfold i_rw
    by_cases h38 : y = 50
    · subst h38
      by_cases h3 : j = 49
      · subst h3
        simp [upd]
      · simp [h3, upd]
    simp [h38]
end ACT
/-- the body that a kind's act takes -/
def t_bf (k a : Nat) : Nat := (([[1, 10, 11, 2], [20, 10, 11, 2], [1, 30, 11, 2], [1, 41, 40, 2], [20, 10, 50, 2], [1, 41, 40, 60], [70, 10, 11, 2], [20, 80, 50, 81]] : List (List Nat)).getD k []).getD a 0
theorem bf_st {n : Nat} {act k u : Int32} {M : I_M} {k29 : Int32 → I_M → Option (Int32 × I_M)} (hk : 0 ≤ k.toInt) (hk8 : k.toInt < 8) (ha : 0 ≤ act.toInt) (ha4 : act.toInt < 4) (hu : u.toInt < 8) : b_Bodies_bodyFrom_L4 act k29 (n + 1) k u M = if i_x102 (Int32.toNatClampNeg (k * 4 + act)) = 0 then b_Bodies_bodyFrom_L4 act k29 n (i_x103 (Int32.toNatClampNeg k)) (u + 1) M else k29 k M := by
  have l8 : (8 : Int32).toInt = 8 := rfl
  have l4 : (4 : Int32).toInt = 4 := rfl
  have e1 : (k * 4).toInt = k.toInt * 4 := by rw [a_mul] <;> rw [l4] <;> omega
  have e2 : (k * 4 + act).toInt = k.toInt * 4 + act.toInt := by rw [a_add] <;> omega
  rw [b_Bodies_bodyFrom_L4, if_pos (by rw [a_lt]; omega), e_isKind]
  dsimp only [Option.bind_some]
  rw [bo_p ⟨hk, hk8⟩, if_neg (by decide), g_ok (by omega) (by omega), g_ok hk (by omega)]
theorem bf_e {M : I_M} : ∀ k a : Nat, k < 8 → a < 4 → b_Bodies_bodyFrom (Int32.ofNat k) (Int32.ofNat a) M = some (Int32.ofNat (t_bf k a), M) := by
  intro k a hk ha
  have hF : i_F = 4992 + 1 + 1 + 1 + 1 + 1 + 1 + 1 + 1 := rfl
  unfold b_Bodies_bodyFrom
  rw [hF]
  have hk : k = 0 ∨ k = 1 ∨ k = 2 ∨ k = 3 ∨ k = 4 ∨ k = 5 ∨ k = 6 ∨ k = 7 := by omega
  have ha : a = 0 ∨ a = 1 ∨ a = 2 ∨ a = 3 := by omega
  rcases hk with rfl | rfl | rfl | rfl | rfl | rfl | rfl | rfl
  · rcases ha with rfl | rfl | rfl | rfl
    · exact ((bf_st (by decide) (by decide) (by decide) (by decide) (by decide)).trans (if_neg (by decide))).trans (g_ok (by decide) (by decide))
    · exact ((bf_st (by decide) (by decide) (by decide) (by decide) (by decide)).trans (if_neg (by decide))).trans (g_ok (by decide) (by decide))
    · exact ((bf_st (by decide) (by decide) (by decide) (by decide) (by decide)).trans (if_neg (by decide))).trans (g_ok (by decide) (by decide))
    · exact ((bf_st (by decide) (by decide) (by decide) (by decide) (by decide)).trans (if_neg (by decide))).trans (g_ok (by decide) (by decide))
  · rcases ha with rfl | rfl | rfl | rfl
    · exact ((bf_st (by decide) (by decide) (by decide) (by decide) (by decide)).trans (if_neg (by decide))).trans (g_ok (by decide) (by decide))
    · exact ((bf_st (by decide) (by decide) (by decide) (by decide) (by decide)).trans (if_pos (by decide))).trans (((bf_st (by decide) (by decide) (by decide) (by decide) (by decide)).trans (if_neg (by decide))).trans (g_ok (by decide) (by decide)))
    · exact ((bf_st (by decide) (by decide) (by decide) (by decide) (by decide)).trans (if_pos (by decide))).trans (((bf_st (by decide) (by decide) (by decide) (by decide) (by decide)).trans (if_neg (by decide))).trans (g_ok (by decide) (by decide)))
    · exact ((bf_st (by decide) (by decide) (by decide) (by decide) (by decide)).trans (if_pos (by decide))).trans (((bf_st (by decide) (by decide) (by decide) (by decide) (by decide)).trans (if_neg (by decide))).trans (g_ok (by decide) (by decide)))
  · rcases ha with rfl | rfl | rfl | rfl
    · exact ((bf_st (by decide) (by decide) (by decide) (by decide) (by decide)).trans (if_pos (by decide))).trans (((bf_st (by decide) (by decide) (by decide) (by decide) (by decide)).trans (if_neg (by decide))).trans (g_ok (by decide) (by decide)))
    · exact ((bf_st (by decide) (by decide) (by decide) (by decide) (by decide)).trans (if_neg (by decide))).trans (g_ok (by decide) (by decide))
    · exact ((bf_st (by decide) (by decide) (by decide) (by decide) (by decide)).trans (if_pos (by decide))).trans (((bf_st (by decide) (by decide) (by decide) (by decide) (by decide)).trans (if_neg (by decide))).trans (g_ok (by decide) (by decide)))
    · exact ((bf_st (by decide) (by decide) (by decide) (by decide) (by decide)).trans (if_pos (by decide))).trans (((bf_st (by decide) (by decide) (by decide) (by decide) (by decide)).trans (if_neg (by decide))).trans (g_ok (by decide) (by decide)))
  · rcases ha with rfl | rfl | rfl | rfl
    · exact ((bf_st (by decide) (by decide) (by decide) (by decide) (by decide)).trans (if_pos (by decide))).trans (((bf_st (by decide) (by decide) (by decide) (by decide) (by decide)).trans (if_pos (by decide))).trans (((bf_st (by decide) (by decide) (by decide) (by decide) (by decide)).trans (if_neg (by decide))).trans (g_ok (by decide) (by decide))))
    · exact ((bf_st (by decide) (by decide) (by decide) (by decide) (by decide)).trans (if_neg (by decide))).trans (g_ok (by decide) (by decide))
    · exact ((bf_st (by decide) (by decide) (by decide) (by decide) (by decide)).trans (if_neg (by decide))).trans (g_ok (by decide) (by decide))
    · exact ((bf_st (by decide) (by decide) (by decide) (by decide) (by decide)).trans (if_pos (by decide))).trans (((bf_st (by decide) (by decide) (by decide) (by decide) (by decide)).trans (if_pos (by decide))).trans (((bf_st (by decide) (by decide) (by decide) (by decide) (by decide)).trans (if_neg (by decide))).trans (g_ok (by decide) (by decide))))
  · rcases ha with rfl | rfl | rfl | rfl
    · exact ((bf_st (by decide) (by decide) (by decide) (by decide) (by decide)).trans (if_pos (by decide))).trans (((bf_st (by decide) (by decide) (by decide) (by decide) (by decide)).trans (if_neg (by decide))).trans (g_ok (by decide) (by decide)))
    · exact ((bf_st (by decide) (by decide) (by decide) (by decide) (by decide)).trans (if_pos (by decide))).trans (((bf_st (by decide) (by decide) (by decide) (by decide) (by decide)).trans (if_pos (by decide))).trans (((bf_st (by decide) (by decide) (by decide) (by decide) (by decide)).trans (if_neg (by decide))).trans (g_ok (by decide) (by decide))))
    · exact ((bf_st (by decide) (by decide) (by decide) (by decide) (by decide)).trans (if_neg (by decide))).trans (g_ok (by decide) (by decide))
    · exact ((bf_st (by decide) (by decide) (by decide) (by decide) (by decide)).trans (if_pos (by decide))).trans (((bf_st (by decide) (by decide) (by decide) (by decide) (by decide)).trans (if_pos (by decide))).trans (((bf_st (by decide) (by decide) (by decide) (by decide) (by decide)).trans (if_neg (by decide))).trans (g_ok (by decide) (by decide))))
  · rcases ha with rfl | rfl | rfl | rfl
    · exact ((bf_st (by decide) (by decide) (by decide) (by decide) (by decide)).trans (if_pos (by decide))).trans (((bf_st (by decide) (by decide) (by decide) (by decide) (by decide)).trans (if_pos (by decide))).trans (((bf_st (by decide) (by decide) (by decide) (by decide) (by decide)).trans (if_pos (by decide))).trans (((bf_st (by decide) (by decide) (by decide) (by decide) (by decide)).trans (if_neg (by decide))).trans (g_ok (by decide) (by decide)))))
    · exact ((bf_st (by decide) (by decide) (by decide) (by decide) (by decide)).trans (if_pos (by decide))).trans (((bf_st (by decide) (by decide) (by decide) (by decide) (by decide)).trans (if_neg (by decide))).trans (g_ok (by decide) (by decide)))
    · exact ((bf_st (by decide) (by decide) (by decide) (by decide) (by decide)).trans (if_pos (by decide))).trans (((bf_st (by decide) (by decide) (by decide) (by decide) (by decide)).trans (if_neg (by decide))).trans (g_ok (by decide) (by decide)))
    · exact ((bf_st (by decide) (by decide) (by decide) (by decide) (by decide)).trans (if_neg (by decide))).trans (g_ok (by decide) (by decide))
  · rcases ha with rfl | rfl | rfl | rfl
    · exact ((bf_st (by decide) (by decide) (by decide) (by decide) (by decide)).trans (if_neg (by decide))).trans (g_ok (by decide) (by decide))
    · exact ((bf_st (by decide) (by decide) (by decide) (by decide) (by decide)).trans (if_pos (by decide))).trans (((bf_st (by decide) (by decide) (by decide) (by decide) (by decide)).trans (if_neg (by decide))).trans (g_ok (by decide) (by decide)))
    · exact ((bf_st (by decide) (by decide) (by decide) (by decide) (by decide)).trans (if_pos (by decide))).trans (((bf_st (by decide) (by decide) (by decide) (by decide) (by decide)).trans (if_neg (by decide))).trans (g_ok (by decide) (by decide)))
    · exact ((bf_st (by decide) (by decide) (by decide) (by decide) (by decide)).trans (if_pos (by decide))).trans (((bf_st (by decide) (by decide) (by decide) (by decide) (by decide)).trans (if_neg (by decide))).trans (g_ok (by decide) (by decide)))
  · rcases ha with rfl | rfl | rfl | rfl
    · exact ((bf_st (by decide) (by decide) (by decide) (by decide) (by decide)).trans (if_pos (by decide))).trans (((bf_st (by decide) (by decide) (by decide) (by decide) (by decide)).trans (if_pos (by decide))).trans (((bf_st (by decide) (by decide) (by decide) (by decide) (by decide)).trans (if_neg (by decide))).trans (g_ok (by decide) (by decide))))
    · exact ((bf_st (by decide) (by decide) (by decide) (by decide) (by decide)).trans (if_neg (by decide))).trans (g_ok (by decide) (by decide))
    · exact ((bf_st (by decide) (by decide) (by decide) (by decide) (by decide)).trans (if_pos (by decide))).trans (((bf_st (by decide) (by decide) (by decide) (by decide) (by decide)).trans (if_neg (by decide))).trans (g_ok (by decide) (by decide)))
    · exact ((bf_st (by decide) (by decide) (by decide) (by decide) (by decide)).trans (if_neg (by decide))).trans (g_ok (by decide) (by decide))
