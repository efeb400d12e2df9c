/-! ===== part 46: the reference follows the parser ===== -/
def q_by (t : Nat → Int32) (n p : Nat) : Int32 := if p < n then t p else 0
def q_S (M : I_M) (p o : Nat) : I_M := i_rw M 50 (upd (upd (upd (M.1 50) 19 (Int32.ofNat p)) 21 (-1)) 22 (Int32.ofNat o))
def q_F (M : I_M) (n f : Nat) (M' : I_M) : Prop := ∃ x y : Int32, 0 ≤ x.toInt ∧ x.toInt ≤ n ∧ M' = i_rw M 50 (upd (upd (upd (M.1 50) 19 x) 21 (Int32.ofNat f)) 22 y)
def q_Q (M : I_M) (n o : Nat) (r : i_R) (q : Int32 × I_M) : Prop := i_ri (fun f => q_F M n f q.2) (fun _ v p2 => q = (v (M.1 60), q_S M p2 o)) r
def q_C (M : I_M) (n o : Nat) (g : I_M → Option (Int32 × I_M)) (r : Nat → i_R) : Prop := ∀ p, p ≤ n → T (g (q_S M p o)) (q_Q M n o (r p))
/-- the bytes that the reference reads: the tape's or the text's -/
def q_B (M : I_M) (n : Nat) (t : Nat → Int32) : Prop := (M.1 50 20).toInt = n ∧ n ≤ 120 ∧ (((M.1 50 18).toInt = -1 ∧ t = M.1 58) ∨ ((M.1 50 18).toInt = 0 ∧ t = M.1 59))
section REF
variable {M M' : I_M} {p n f o : Nat} {t : Nat → Int32} {x : Int32}
theorem by_eq (h : 0 < x.toInt) : q_by t n p = x ↔ p_ah t n p = x := by
  unfold q_by p_ah
  by_cases hp : p < n
  · rw [if_pos hp, if_pos hp]
  · rw [if_neg hp, if_neg hp]
    constructor
    · intro h2
      rw [← h2] at h
      exact absurd h (by decide)
    · intro h2
      rw [← h2] at h
      exact absurd h (by decide)
theorem by_dg : (¬ (q_by t n p).toInt < 48 ∧ ¬ 57 < (q_by t n p).toInt) ↔ (48 ≤ (p_ah t n p).toInt ∧ (p_ah t n p).toInt ≤ 57) := by
  unfold q_by p_ah
  by_cases hp : p < n
  · rw [if_pos hp, if_pos hp]
    omega
  · rw [if_neg hp, if_neg hp]
    constructor
    · intro h
      exact absurd h (by decide)
    · intro h
      exact absurd h (by decide)
theorem qS_19 : (q_S M p o).1 50 19 = Int32.ofNat p := rfl
theorem qS_21 : (q_S M p o).1 50 21 = -1 := rfl
theorem qS_22 : (q_S M p o).1 50 22 = Int32.ofNat o := rfl
theorem qS_by (hB : q_B M n t) (hp : p ≤ n) : r_byteAt (q_S M p o) = some (q_by t n p, q_S M p o) := by
  obtain ⟨h1, h2, h3⟩ := hB
  have e : (Int32.ofNat p).toInt = p := a_on (by omega)
  unfold r_byteAt q_by
  rw [qS_19, show (q_S M p o).1 50 20 = M.1 50 20 from rfl, show (q_S M p o).1 50 18 = M.1 50 18 from rfl, show (q_S M p o).1 58 = M.1 58 from rfl, show (q_S M p o).1 59 = M.1 59 from rfl]
  by_cases h : p < n
  · rw [if_pos (by rw [a_lt]; omega), if_pos h]
    rcases h3 with ⟨h3, rfl⟩ | ⟨h3, rfl⟩
    · rw [if_pos (by rw [a_lt, Int32.toInt_zero]; omega), g_ok (by omega) (by omega), a_k e]
    · have e2 : (M.1 50 18 + Int32.ofNat p).toInt = p := by rw [a_add] <;> omega
      rw [if_neg (by rw [a_lt, Int32.toInt_zero]; omega), g_ok (by omega) (by omega), a_k e2]
  · rw [if_neg (by rw [a_lt]; omega), if_neg h]
theorem qF_by (hB : q_B M n t) (h : q_F M n f M') : T (r_byteAt M') (fun q => q.2 = M') := by
  obtain ⟨h1, h2, h3⟩ := hB
  obtain ⟨x, y, hx, hx2, rfl⟩ := h
  unfold r_byteAt
  refine T_if (fun _ => ?_) (fun _ => T_some rfl)
  rename_i hc
  have hc : x < M.1 50 20 := hc
  rw [a_lt] at hc
  rcases h3 with ⟨h3, _⟩ | ⟨h3, _⟩
  · refine T_if (fun _ => T_g (show 0 ≤ x.toInt by omega) (show x.toInt < 120 by omega) (T_some rfl)) (fun q => absurd ?_ q)
    show M.1 50 18 < 0
    rw [a_lt, Int32.toInt_zero]
    omega
  · refine T_if (fun q => absurd q ?_) (fun _ => ?_)
    · show ¬ M.1 50 18 < 0
      rw [a_lt, Int32.toInt_zero]
      omega
    · have e2 : (M.1 50 18 + x).toInt = x.toInt := by rw [a_add] <;> omega
      exact T_g (show 0 ≤ (M.1 50 18 + x).toInt by omega) (show (M.1 50 18 + x).toInt < 120 by omega) (T_some rfl)
theorem qF_lt (h : q_F M n f M') (hf : f < 1000) : ¬ M'.1 50 21 < 0 := by
  obtain ⟨x, y, hx, hx2, rfl⟩ := h
  show ¬ (Int32.ofNat f < 0)
  rw [a_lt, a_on (by omega), Int32.toInt_zero]
  omega
theorem qS_mv (h : p < 1000) : i_wI (q_S M p o) 50 19 ((q_S M p o).1 50 19 + 1) = q_S M (p + 1) o := by
  rw [qS_19, of_add (a_on (by omega)) h]
  refine m_ext (fun q k => ?_) rfl
  rw [m_wI]
  unfold q_S i_rw upd
  by_cases h6 : q = 50
  · subst h6
    by_cases h5 : k = 22
    · subst h5
      rfl
    by_cases h4 : k = 21
    · subst h4
      rfl
    by_cases h3 : k = 19
    · subst h3
      rfl
    simp [h5, h4, h3]
  · simp [h6]
theorem qS_wr (hp : p ≤ n) (hn : n ≤ 120) : T (r_wrong (q_S M p o)) (fun q => q_F M n p q.2) := by
  unfold r_wrong
  rw [qS_21, if_pos (by decide), qS_19]
  have e : (Int32.ofNat p).toInt = p := a_on (by omega)
  refine T_some ⟨Int32.ofNat p, Int32.ofNat o, by omega, by omega, ?_⟩
  refine m_ext (fun q k => ?_) rfl
  rw [m_wI]
  unfold q_S i_rw upd
  by_cases h6 : q = 50
  · subst h6
    by_cases h5 : k = 22
    · subst h5
      rfl
    by_cases h4 : k = 21
    · subst h4
      rfl
    by_cases h3 : k = 19
    · subst h3
      rfl
    simp [h5, h4, h3]
  · simp [h6]
theorem qF_wr (h : q_F M n f M') (hf : f < 1000) : T (r_wrong M') (fun q => q_F M n f q.2) := by
  unfold r_wrong
  rw [if_neg (qF_lt h hf)]
  obtain ⟨x, y, hx, hx2, rfl⟩ := h
  refine T_some ⟨x, y, hx, hx2, ?_⟩
  refine m_ext (fun q k => ?_) rfl
  rw [m_wI]
  by_cases h6 : q = 50 ∧ k = 21
  · obtain ⟨rfl, rfl⟩ := h6
    rfl
  · rw [if_neg h6]
theorem qF_op (h : q_F M n f M') {v : Int32} : q_F M n f (i_wI M' 50 22 v) := by
  obtain ⟨x, y, hx, hx2, rfl⟩ := h
  refine ⟨x, v, hx, hx2, ?_⟩
  refine m_ext (fun q k => ?_) rfl
  rw [m_wI]
  unfold i_rw upd
  by_cases h6 : q = 50
  · subst h6
    by_cases h5 : k = 22
    · subst h5
      rfl
    simp [h5]
  · simp [h6]
theorem qS_op {o' : Nat} {v : Int32} (hv : v = Int32.ofNat o') : i_wI (q_S M p o) 50 22 v = q_S M p o' := by
  subst hv
  refine m_ext (fun q k => ?_) rfl
  rw [m_wI]
  unfold q_S i_rw upd
  by_cases h6 : q = 50
  · subst h6
    by_cases h5 : k = 22
    · subst h5
      rfl
    simp [h5]
  · simp [h6]
theorem qS_tk (hB : q_B M n t) (hp : p ≤ n) (hx : 0 < x.toInt) : r_takes x (q_S M p o) = if p_ah t n p = x then some (1, q_S M (p + 1) o) else some (0, q_S M p o) := by
  unfold r_takes
  rw [qS_21, if_pos (by decide), qS_by hB hp]
  dsimp only [Option.bind_some]
  by_cases q : p_ah t n p = x
  · rw [if_pos q, if_pos ((by_eq hx).mpr q), qS_mv (by have := hB.2.1; omega)]
  · rw [if_neg q, if_neg (fun h => q ((by_eq hx).mp h))]
theorem qF_tk (h : q_F M n f M') (hf : f < 1000) : r_takes x M' = some (0, M') := by
  unfold r_takes
  rw [if_neg (qF_lt h hf)]
theorem nm_ref {x : Int32} {M : I_M} : r_nameOf x M = some (p_nm x, M) := by
  by_cases h100 : x = 100
  · subst h100
    rfl
  by_cases h101 : x = 101
  · subst h101
    rfl
  by_cases h102 : x = 102
  · subst h102
    rfl
  by_cases h103 : x = 103
  · subst h103
    rfl
  by_cases h104 : x = 104
  · subst h104
    rfl
  by_cases h105 : x = 105
  · subst h105
    rfl
  by_cases h106 : x = 106
  · subst h106
    rfl
  by_cases h107 : x = 107
  · subst h107
    rfl
  by_cases h108 : x = 108
  · subst h108
    rfl
  by_cases h109 : x = 109
  · subst h109
    rfl
  by_cases h110 : x = 110
  · subst h110
    rfl
  by_cases h111 : x = 111
  · subst h111
    rfl
  by_cases h112 : x = 112
  · subst h112
    rfl
  by_cases h113 : x = 113
  · subst h113
    rfl
  by_cases h114 : x = 114
  · subst h114
    rfl
  by_cases h115 : x = 115
  · subst h115
    rfl
  by_cases h116 : x = 116
  · subst h116
    rfl
  by_cases h117 : x = 117
  · subst h117
    rfl
  by_cases h118 : x = 118
  · subst h118
    rfl
  by_cases h119 : x = 119
  · subst h119
    rfl
  by_cases h120 : x = 120
  · subst h120
    rfl
  by_cases h121 : x = 121
  · subst h121
    rfl
  by_cases h122 : x = 122
  · subst h122
    rfl
  unfold r_nameOf p_nm
  simp only [h100, h101, h102, h103, h104, h105, h106, h107, h108, h109, h110, h111, h112, h113, h114, h115, h116, h117, h118, h119, h120, h121, h122, if_false]
theorem lv4 {x : Int32} : p_lvl x = 4 ↔ x = 42 ∨ x = 47 ∨ x = 37 := by
  unfold p_lvl
  constructor
  · repeat' split
    all_goals first | (intro h; exact absurd h (by decide)) | (intro _; simp [*])
  · rintro (rfl | rfl | rfl) <;> decide
theorem lv3 {x : Int32} : p_lvl x = 3 ↔ x = 43 ∨ x = 45 := by
  unfold p_lvl
  constructor
  · repeat' split
    all_goals first | (intro h; exact absurd h (by decide)) | (intro _; simp [*])
  · rintro (rfl | rfl) <;> decide
theorem lv2 {x : Int32} : p_lvl x = 2 ↔ x = 60 ∨ x = 61 ∨ x = 62 := by
  unfold p_lvl
  constructor
  · repeat' split
    all_goals first | (intro h; exact absurd h (by decide)) | (intro _; simp [*])
  · rintro (rfl | rfl | rfl) <;> decide
theorem lv1 {x : Int32} : p_lvl x = 1 ↔ x = 38 := by
  unfold p_lvl
  constructor
  · repeat' split
    all_goals first | (intro h; exact absurd h (by decide)) | (intro _; simp [*])
  · rintro rfl; decide
theorem lv0 {x : Int32} : p_lvl x = 0 ↔ x = 124 := by
  unfold p_lvl
  constructor
  · repeat' split
    all_goals first | (intro h; exact absurd h (by decide)) | (intro _; simp [*])
  · rintro rfl; decide
end REF
