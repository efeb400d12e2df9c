/-! ===== part 30: ints as integers, what a run of a mirror gives, cells behind writes ===== -/
theorem a_lt {a b : Int32} : (a < b) ↔ a.toInt < b.toInt := Int32.lt_iff_toInt_lt
theorem a_le {a b : Int32} : (a ≤ b) ↔ a.toInt ≤ b.toInt := Int32.le_iff_toInt_le
theorem a_eq {a b : Int32} : (a = b) ↔ a.toInt = b.toInt := Int32.toInt_inj.symm
theorem a_n (a : Int32) : a.toNatClampNeg = a.toInt.toNat := rfl
theorem a_bm {z : Int} (h : -2147483648 ≤ z) (h2 : z < 2147483648) : z.bmod (2 ^ 32) = z := Int.bmod_eq_of_le (by omega) (by omega)
theorem a_rg (a : Int32) : -2147483648 ≤ a.toInt ∧ a.toInt < 2147483648 := ⟨Int32.le_toInt a, Int32.toInt_lt a⟩
theorem a_add {a b : Int32} (h : -2147483648 ≤ a.toInt + b.toInt) (h2 : a.toInt + b.toInt < 2147483648) : (a + b).toInt = a.toInt + b.toInt := by
  rw [Int32.toInt_add]
  exact a_bm h h2
theorem a_sub {a b : Int32} (h : -2147483648 ≤ a.toInt - b.toInt) (h2 : a.toInt - b.toInt < 2147483648) : (a - b).toInt = a.toInt - b.toInt := by
  rw [Int32.toInt_sub]
  exact a_bm h h2
theorem a_mul {a b : Int32} (h : -2147483648 ≤ a.toInt * b.toInt) (h2 : a.toInt * b.toInt < 2147483648) : (a * b).toInt = a.toInt * b.toInt := by
  rw [Int32.toInt_mul]
  exact a_bm h h2
theorem a_neg {a : Int32} (h : -2147483648 < a.toInt) : (-a).toInt = -a.toInt := by
  have h2 := (a_rg a).1
  rw [Int32.toInt_neg]
  exact a_bm (by have := (a_rg a).2; omega) (by omega)
theorem a_div {a b : Int32} (h : 0 ≤ a.toInt) (h2 : 0 < b.toInt) : (a / b).toInt = a.toInt / b.toInt := by
  have h3 := (a_rg a).2
  have h4 := Int.ediv_le_self b.toInt h
  have h5 := Int.ediv_nonneg h (Int.le_of_lt h2)
  rw [Int32.toInt_div, Int.tdiv_eq_ediv_of_nonneg h]
  exact a_bm (by omega) (by omega)
theorem a_rem {a b : Int32} (h : 0 ≤ a.toInt) (h2 : 0 < b.toInt) : (i_rem a b).toInt = a.toInt % b.toInt := by
  have h3 := (a_rg a).2
  have h4 : (a / b).toInt = a.toInt / b.toInt := a_div h h2
  have h5 := Int.emod_nonneg a.toInt (by omega : b.toInt ≠ 0)
  have h6 := Int.mul_ediv_add_emod a.toInt b.toInt
  have h7 : b.toInt * (a.toInt / b.toInt) = (a.toInt / b.toInt) * b.toInt := Int.mul_comm _ _
  have h8 : 0 ≤ (a.toInt / b.toInt) * b.toInt := Int.mul_nonneg (Int.ediv_nonneg h (Int.le_of_lt h2)) (Int.le_of_lt h2)
  unfold i_rem
  rw [a_sub, a_mul, h4]
  · omega
  · rw [h4]; omega
  · rw [h4]; omega
  · rw [a_mul, h4]
    · omega
    · rw [h4]; omega
    · rw [h4]; omega
  · rw [a_mul, h4]
    · omega
    · rw [h4]; omega
    · rw [h4]; omega
theorem a_of {z : Int} (h : -2147483648 ≤ z) (h2 : z < 2147483648) : (Int32.ofInt z).toInt = z := by
  rw [Int32.toInt_ofInt]
  exact a_bm h h2
theorem a_on {n : Nat} (h : n < 2147483648) : (Int32.ofNat n).toInt = n := Int32.toInt_ofNat_of_lt h
theorem a_o (a : Int32) : Int32.ofInt a.toInt = a := Int32.ofInt_toInt a
theorem a_l (a : Int32) : (Int32.toInt64 a).toInt = a.toInt := Int32.toInt_toInt64 a
theorem a_llt {a b : Int64} : (lg_cmp a b < 0) ↔ a.toInt < b.toInt := (lg_cmp_lt a b).trans Int64.lt_iff_toInt_lt
theorem a_lgt {a b : Int64} : (0 < lg_cmp a b) ↔ b.toInt < a.toInt := (lg_cmp_gt a b).trans Int64.lt_iff_toInt_lt
theorem a_leq {a b : Int64} : (a = b) ↔ a.toInt = b.toInt := Int64.toInt_inj.symm
theorem a_leqc {a b : Int64} : (lg_cmp a b = 0) ↔ a.toInt = b.toInt := by
  have h1 := lg_cmp_lt a b
  have h2 := lg_cmp_gt a b
  rw [Int64.lt_iff_toInt_lt, a_lt] at h1 h2
  rw [a_eq]
  simp only [Int32.toInt_zero] at h1 h2 ⊢
  omega
/-- a truth as an int -/
def i_bo (p : Prop) [Decidable p] : Int32 := if p then 1 else 0
theorem bo_0 {p : Prop} [Decidable p] : (i_bo p = 0) ↔ ¬ p := by
  unfold i_bo
  split
  · exact ⟨fun h => absurd h (by decide), fun h => absurd ‹p› h⟩
  · exact ⟨fun _ => ‹¬ p›, fun _ => rfl⟩
theorem bo_1 {p : Prop} [Decidable p] : (i_bo p = 1) ↔ p := by
  unfold i_bo
  split
  · exact ⟨fun _ => ‹p›, fun _ => rfl⟩
  · exact ⟨fun h => absurd h (by decide), fun h => absurd h ‹¬ p›⟩
theorem bo_p {p : Prop} [Decidable p] (h : p) : i_bo p = 1 := if_pos h
theorem bo_n {p : Prop} [Decidable p] (h : ¬ p) : i_bo p = 0 := if_neg h
/-- a mirror gives a result, of which P holds -/
def T {α : Type} (x : Option α) (P : α → Prop) : Prop := ∃ a, x = some a ∧ P a
section TR
variable {α β : Type} {P Q : α → Prop} {x y : Option α} {i : Int32} {n : Nat}
theorem T_some {a : α} (h : P a) : T (some a) P := ⟨a, rfl, h⟩
theorem T_ok {a : α} (h : x = some a) (hp : P a) : T x P := ⟨a, h, hp⟩
theorem T_bind {f : α → Option β} {R : β → Prop} (h : T x (fun a => T (f a) R)) : T (Option.bind x f) R := by
  obtain ⟨a, rfl, b, hb, hp⟩ := h
  exact ⟨b, hb, hp⟩
theorem T_if {c : Prop} [Decidable c] (h1 : c → T x P) (h2 : ¬ c → T y P) : T (if c then x else y) P := by
  split
  · exact h1 ‹c›
  · exact h2 ‹¬ c›
theorem g_ok (h : 0 ≤ i.toInt) (h2 : i.toInt < n) : i_g i n x = x := by
  unfold i_g
  refine if_neg ?_
  rw [a_lt, a_n, Int32.toInt_zero]
  omega
theorem T_g (h : 0 ≤ i.toInt) (h2 : i.toInt < n) (h3 : T x P) : T (i_g i n x) P := by
  rw [g_ok h h2]
  exact h3
theorem nz_ok (h : i ≠ 0) : i_nz i x = x := if_neg h
theorem T_nz (h : i ≠ 0) (h3 : T x P) : T (i_nz i x) P := by
  rw [nz_ok h]
  exact h3
theorem zo_ok (h : i = 0 ∨ i = 1) : i_zo i x = x := if_pos h
theorem T_zo (h : i = 0 ∨ i = 1) (h3 : T x P) : T (i_zo i x) P := by
  rw [zo_ok h]
  exact h3
theorem cg_ok {sp dp m : Int32} {n0 n1 : Nat} (h : 0 ≤ sp.toInt) (h1 : 0 ≤ dp.toInt) (h2 : 0 ≤ m.toInt) (h3 : sp.toInt + m.toInt ≤ n0) (h4 : dp.toInt + m.toInt ≤ n1) : i_cg sp dp m n0 n1 x = x := by
  unfold i_cg
  refine if_pos ?_
  rw [a_lt, a_lt, a_lt, a_n, a_n, a_n, Int32.toInt_zero]
  omega
theorem T_cg {sp dp m : Int32} {n0 n1 : Nat} (h : 0 ≤ sp.toInt) (h1 : 0 ≤ dp.toInt) (h2 : 0 ≤ m.toInt) (h3 : sp.toInt + m.toInt ≤ n0) (h4 : dp.toInt + m.toInt ≤ n1) (h5 : T x P) : T (i_cg sp dp m n0 n1 x) P := by
  rw [cg_ok h h1 h2 h3 h4]
  exact h5
theorem T_let {e : β} {f : β → Option α} (h : T (f e) P) : T (i_let e f) P := h
theorem T_mono (h : T x P) (h2 : ∀ a, P a → Q a) : T x Q := by
  obtain ⟨a, ha, hp⟩ := h
  exact ⟨a, ha, h2 a hp⟩
end TR
section MW
variable {M : I_M} {q k q' k' : Nat} {v : Int32} {w : Int64}
theorem m_wI : (i_wI M q k v).1 q' k' = if q' = q ∧ k' = k then v else M.1 q' k' := by
  unfold i_wI i_upI i_row upd
  by_cases h : q' = q
  · subst h
    by_cases h2 : k' = k <;> simp [h2]
  · simp [h]
theorem m_wI2 : (i_wI M q k v).2 = M.2 := rfl
theorem m_wL1 : (i_wL M q k w).1 = M.1 := rfl
theorem m_wL : (i_wL M q k w).2 q' k' = if q' = q ∧ k' = k then w else M.2 q' k' := by
  unfold i_wL i_upL i_row vp_updL
  by_cases h : q' = q
  · subst h
    by_cases h2 : k' = k <;> simp [h2]
  · simp [h]
theorem m_cI {a d : Nat} {sp dp n : Int32} : (i_cI M a d sp dp n).1 q' k' = if q' = d ∧ dp.toInt.toNat ≤ k' ∧ k' < dp.toInt.toNat + n.toInt.toNat then M.1 a (sp.toInt.toNat + (k' - dp.toInt.toNat)) else M.1 q' k' := by
  unfold i_cI i_row va_cpy
  rw [a_n, a_n, a_n]
  by_cases h : q' = d
  · subst h
    simp
  · simp [h]
theorem m_cI2 {a d : Nat} {sp dp n : Int32} : (i_cI M a d sp dp n).2 = M.2 := rfl
theorem m_cL1 {a d : Nat} {sp dp n : Int32} : (i_cL M a d sp dp n).1 = M.1 := rfl
theorem m_cL {a d : Nat} {sp dp n : Int32} : (i_cL M a d sp dp n).2 q' k' = if q' = d ∧ dp.toInt.toNat ≤ k' ∧ k' < dp.toInt.toNat + n.toInt.toNat then M.2 a (sp.toInt.toNat + (k' - dp.toInt.toNat)) else M.2 q' k' := by
  unfold i_cL i_row va_cpy
  rw [a_n, a_n, a_n]
  by_cases h : q' = d
  · subst h
    simp
  · simp [h]
end MW
theorem r_within_e {a b c : Int64} {M : I_M} : r_within a b c M = some (i_bo (b.toInt ≤ a.toInt ∧ a.toInt ≤ c.toInt), M) := by
  unfold r_within
  simp only [a_llt, a_lgt]
  by_cases h1 : a.toInt < b.toInt
  · rw [if_pos h1, bo_n (by omega)]
  · rw [if_neg h1]
    by_cases h2 : c.toInt < a.toInt
    · rw [if_pos h2, bo_n (by omega)]
    · rw [if_neg h2, bo_p (by omega)]
theorem max_e {x y : Int32} : (i_max x y).toInt = max x.toInt y.toInt := by
  unfold i_max
  simp only [a_lt]
  split <;> omega
theorem min_e {x y : Int32} : (i_min x y).toInt = min x.toInt y.toInt := by
  unfold i_min
  simp only [a_lt]
  split <;> omega
theorem abs_e {x : Int32} (h : -2147483648 < x.toInt) : (i_abs x).toInt = if 0 ≤ x.toInt then x.toInt else -x.toInt := by
  have h2 := a_rg x
  unfold i_abs
  simp only [a_le, Int32.toInt_zero]
  split
  · rfl
  · rw [a_sub] <;> simp only [Int32.toInt_zero] <;> omega
