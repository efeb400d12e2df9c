/-! ===== part 16: the cells behind the constructors; what the mirrors are made of ===== -/
/-- the shapes (written by program: the small machine in Python made them) -/
def i_SH : List I_Sh := [(21, 15, [some 1, some 6, some 9, some 13, some 18, some 22, some 28, some 31, some 36, some 38, some 41, some 46, none, none, none]), (14, 10, [none, none, some 2, some 3, some 4, some 5, none, none, none, none]), (0, 25, []), (0, 25, []), (0, 25, []), (0, 25, []), (19, 6, [some 7, none, some 8, none, none, none]), (0, 120, []), (0, 128, []), (15, 7, [some 1, none, some 10, none, some 11, some 12, none]), (0, 128, []), (0, 7, []), (0, 64, []), (11, 9, [some 1, some 9, some 14, some 15, some 16, some 17, none, none, none]), (0, 6, []), (0, 6, []), (0, 6, []), (0, 6, []), (13, 4, [some 19, some 20, some 21, none]), (0, 10, []), (0, 10, []), (0, 10, []), (17, 14, [some 1, some 9, some 18, some 23, some 24, none, none, none, some 25, some 26, none, some 27, none, none]), (0, 2500, []), (0, 25, []), (0, 2250, []), (0, 250, []), (0, 100, []), (16, 4, [some 9, some 13, some 29, some 30]), (0, 6, []), (0, 64, []), (12, 6, [some 32, some 33, some 34, some 35, none, none]), (0, 40, []), (0, 40, []), (0, 40, []), (0, 40, []), (20, 3, [some 37, none, none]), (0, 6, []), (10, 5, [some 39, none, some 40, none, none]), (0, 50, []), (0, 24, []), (18, 4, [some 42, some 43, some 44, some 45]), (0, 6, []), (0, 6, []), (0, 6, []), (1, 360, []), (13, 4, [some 47, some 48, some 49, none]), (0, 10, []), (0, 10, []), (0, 10, []), (22, 56, [some 51, some 52, some 53, some 54, none, none, none, none, none, some 55, some 56, some 57, none, none, some 58, none, some 59, none, none, none, none, none, none, some 60, none, some 61, some 62, none, none, none, none, none, some 63, none, none, some 64, some 65, none, none, some 66, none, none, none, none, none, some 67, none, some 68, some 69, none, none, none, some 70, some 71, some 72, some 73]), (0, 60, []), (0, 40, []), (0, 40, []), (0, 40, []), (0, 6, []), (0, 6, []), (0, 6, []), (0, 120, []), (0, 120, []), (0, 7, []), (0, 30, []), (0, 2500, []), (0, 25, []), (2, 250, []), (0, 100, []), (0, 6, []), (0, 30, []), (0, 50, []), (0, 24, []), (0, 6, []), (0, 6, []), (1, 360, []), (1, 60, [])]
abbrev I_M : Type := (Nat → Nat → Int32) × (Nat → Nat → Int64)
def i_S (X : Nat × (Nat → Int32)) (M : I_M) : I_St := (i_SH, M.1, M.2, X)
def i_wI (M : I_M) (q k : Nat) (v : Int32) : I_M := (i_upI M.1 q k v, M.2)
def i_wL (M : I_M) (q k : Nat) (v : Int64) : I_M := (M.1, i_upL M.2 q k v)
def i_cI (M : I_M) (a d : Nat) (sp dp n : Int32) : I_M := (i_row M.1 d (va_cpy (M.1 a) (M.1 d) sp.toNatClampNeg dp.toNatClampNeg n.toNatClampNeg), M.2)
def i_cL (M : I_M) (a d : Nat) (sp dp n : Int32) : I_M := (M.1, i_row M.2 d (va_cpy (M.2 a) (M.2 d) sp.toNatClampNeg dp.toNatClampNeg n.toNatClampNeg))
def i_g {α : Type} (i : Int32) (n : Nat) (x : Option α) : Option α := if i < 0 ∨ n ≤ i.toNatClampNeg then none else x
def i_nz {α : Type} (y : Int32) (x : Option α) : Option α := if y = 0 then none else x
def i_zo {α : Type} (y : Int32) (x : Option α) : Option α := if y = 0 ∨ y = 1 then x else none
def i_cgP (sp dp n : Int32) (n0 n1 : Nat) : Prop := ¬ sp < 0 ∧ ¬ dp < 0 ∧ ¬ n < 0 ∧ sp.toNatClampNeg + n.toNatClampNeg ≤ n0 ∧ dp.toNatClampNeg + n.toNatClampNeg ≤ n1
def i_cg {α : Type} (sp dp n : Int32) (n0 n1 : Nat) (x : Option α) : Option α := if ¬ sp < 0 ∧ ¬ dp < 0 ∧ ¬ n < 0 ∧ sp.toNatClampNeg + n.toNatClampNeg ≤ n0 ∧ dp.toNatClampNeg + n.toNatClampNeg ≤ n1 then x else none
def i_let {α β : Type} (e : α) (f : α → β) : β := f e
def i_max (x y : Int32) : Int32 := if x < y then y else x
def i_min (x y : Int32) : Int32 := if y < x then y else x
def i_abs (y : Int32) : Int32 := if 0 ≤ y then y else 0 - y
def i_F : Nat := 5000
def i_x101 (k : Nat) : Int32 := ([9, 99, 9, 9, 1, 99, 9] : List Int32).getD k 0
def i_x102 (k : Nat) : Int32 := ([1, 10, 11, 2, 20, 0, 0, 0, 0, 30, 0, 0, 0, 41, 40, 0, 0, 0, 50, 0, 0, 0, 0, 60, 70, 0, 0, 0, 0, 80, 0, 81] : List Int32).getD k 0
def i_x103 (k : Nat) : Int32 := ([-1, 0, 0, 2, 1, 3, 0, 4] : List Int32).getD k 0
def i_x104 (k : Nat) : Int32 := ([100, 103, 113, 122, 115, 119, 102] : List Int32).getD k 0
theorem i_gE {α : Type} {i : Int32} {n : Nat} {x : Option α} {r : α} (h : i_g i n x = some r) : ¬ (i < 0 ∨ n ≤ i.toNatClampNeg) ∧ x = some r := by
  unfold i_g at h
  split at h
  · cases h
  · exact ⟨by assumption, h⟩
theorem i_nzE {α : Type} {y : Int32} {x : Option α} {r : α} (h : i_nz y x = some r) : ¬ y = 0 ∧ x = some r := by
  unfold i_nz at h
  split at h
  · cases h
  · exact ⟨by assumption, h⟩
theorem i_zoE {α : Type} {y : Int32} {x : Option α} {r : α} (h : i_zo y x = some r) : (y = 0 ∨ y = 1) ∧ x = some r := by
  unfold i_zo at h
  split at h
  · exact ⟨by assumption, h⟩
  · cases h
theorem i_cgE {α : Type} {sp dp n : Int32} {n0 n1 : Nat} {x : Option α} {r : α} (h : i_cg sp dp n n0 n1 x = some r) : i_cgP sp dp n n0 n1 ∧ x = some r := by
  unfold i_cg at h
  split at h
  · exact ⟨by assumption, h⟩
  · cases h
theorem i_bdE {α β : Type} {x : Option α} {f : α → Option β} {r : β} (h : Option.bind x f = some r) : ∃ q, x = some q ∧ f q = some r := by
  cases x with
  | none => cases h
  | some q => exact ⟨q, rfl, h⟩
theorem i_letE {α β : Type} {e : α} {f : α → Option β} {r : β} (h : i_let e f = some r) : ∃ x, x = e ∧ f x = some r := ⟨e, rfl, h⟩
section IRUL2
variable {E : Nat → List Value → I_St → Option Value → I_St → Prop} {code : List I_En} {r : Option Value} {S' : I_St} {cf' : I_Cf} {pc : Nat} {lv : List (Option Value)} {rest : List Value} {S : I_St}
theorem i_cfe {cf : I_Cf} (h : cf = cf') (h2 : I_RnE E code cf' r S') : I_RnE E code cf r S' := h ▸ h2
theorem i_rdiv {x y : Int32} (hs : i_stp code (pc, lv, .int y :: .int x :: rest, S) = if y = 0 then none else i_n (pc + 1) lv (.int (x / y) :: rest) S) (hy : ¬ y = 0) (he : (pc + 1, lv, Value.int (x / y) :: rest, S) = cf') (h2 : I_RnE E code cf' r S') : I_RnE E code (pc, lv, .int y :: .int x :: rest, S) r S' := by
  rw [if_neg hy] at hs
  rw [← he] at h2
  exact i_stp1 hs h2
theorem i_rrem {x y : Int32} (hs : i_stp code (pc, lv, .int y :: .int x :: rest, S) = if y = 0 then none else i_n (pc + 1) lv (.int (i_rem x y) :: rest) S) (hy : ¬ y = 0) (he : (pc + 1, lv, Value.int (i_rem x y) :: rest, S) = cf') (h2 : I_RnE E code cf' r S') : I_RnE E code (pc, lv, .int y :: .int x :: rest, S) r S' := by
  rw [if_neg hy] at hs
  rw [← he] at h2
  exact i_stp1 hs h2
theorem i_riald {i : Int32} {q t n : Nat} {f : Nat → Int32} (hs : i_stp code (pc, lv, .int i :: .ref q :: rest, S) = i_ald 0 pc lv (.int i :: .ref q :: rest) S) (ha : i_arr S q = some (t, n, f)) (ht : t = 0 ∨ (0 = 2 ∧ t = 3)) (hg : ¬ (i < 0 ∨ n ≤ i.toNatClampNeg)) (he : (pc + 1, lv, Value.int (f i.toNatClampNeg) :: rest, S) = cf') (h2 : I_RnE E code cf' r S') : I_RnE E code (pc, lv, .int i :: .ref q :: rest, S) r S' := by
  unfold i_ald at hs
  dsimp only at hs
  rw [ha] at hs
  dsimp only at hs
  rw [if_pos ht, if_neg hg] at hs
  rw [← he] at h2
  exact i_stp1 hs h2
theorem i_rbald {i : Int32} {q t n : Nat} {f : Nat → Int32} (hs : i_stp code (pc, lv, .int i :: .ref q :: rest, S) = i_ald 2 pc lv (.int i :: .ref q :: rest) S) (ha : i_arr S q = some (t, n, f)) (ht : t = 2 ∨ (2 = 2 ∧ t = 3)) (hg : ¬ (i < 0 ∨ n ≤ i.toNatClampNeg)) (he : (pc + 1, lv, Value.int (f i.toNatClampNeg) :: rest, S) = cf') (h2 : I_RnE E code cf' r S') : I_RnE E code (pc, lv, .int i :: .ref q :: rest, S) r S' := by
  unfold i_ald at hs
  dsimp only at hs
  rw [ha] at hs
  dsimp only at hs
  rw [if_pos ht, if_neg hg] at hs
  rw [← he] at h2
  exact i_stp1 hs h2
theorem i_rlald {i : Int32} {q n : Nat} {refs : List (Option Nat)} (hs : i_stp code (pc, lv, .int i :: .ref q :: rest, S) = i_lald pc lv (.int i :: .ref q :: rest) S) (ha : S.1[q]? = some (1, n, refs)) (hg : ¬ (i < 0 ∨ n ≤ i.toNatClampNeg)) (he : (pc + 1, lv, Value.long (S.2.2.1 q i.toNatClampNeg) :: rest, S) = cf') (h2 : I_RnE E code cf' r S') : I_RnE E code (pc, lv, .int i :: .ref q :: rest, S) r S' := by
  unfold i_lald at hs
  dsimp only at hs
  rw [ha] at hs
  dsimp only at hs
  rw [if_pos rfl, if_neg hg] at hs
  rw [← he] at h2
  exact i_stp1 hs h2
theorem i_riast {x i : Int32} {q n : Nat} {refs : List (Option Nat)} (hs : i_stp code (pc, lv, .int x :: .int i :: .ref q :: rest, S) = i_ast 0 pc lv (.int x :: .int i :: .ref q :: rest) S) (ha : S.1[q]? = some (0, n, refs)) (hx : 0 = 0 ∨ x = 0 ∨ x = 1) (hg : ¬ (i < 0 ∨ n ≤ i.toNatClampNeg)) (he : (pc + 1, lv, rest, (S.1, i_upI S.2.1 q i.toNatClampNeg x, S.2.2)) = cf') (h2 : I_RnE E code cf' r S') : I_RnE E code (pc, lv, .int x :: .int i :: .ref q :: rest, S) r S' := by
  unfold i_ast at hs
  dsimp only at hs
  rw [ha] at hs
  dsimp only at hs
  rw [if_pos ⟨rfl, hx⟩, if_neg hg] at hs
  rw [← he] at h2
  exact i_stp1 hs h2
theorem i_rbast {x i : Int32} {q n : Nat} {refs : List (Option Nat)} (hs : i_stp code (pc, lv, .int x :: .int i :: .ref q :: rest, S) = i_ast 2 pc lv (.int x :: .int i :: .ref q :: rest) S) (ha : S.1[q]? = some (2, n, refs)) (hx : 2 = 0 ∨ x = 0 ∨ x = 1) (hg : ¬ (i < 0 ∨ n ≤ i.toNatClampNeg)) (he : (pc + 1, lv, rest, (S.1, i_upI S.2.1 q i.toNatClampNeg x, S.2.2)) = cf') (h2 : I_RnE E code cf' r S') : I_RnE E code (pc, lv, .int x :: .int i :: .ref q :: rest, S) r S' := by
  unfold i_ast at hs
  dsimp only at hs
  rw [ha] at hs
  dsimp only at hs
  rw [if_pos ⟨rfl, hx⟩, if_neg hg] at hs
  rw [← he] at h2
  exact i_stp1 hs h2
theorem i_rlast {x : Int64} {i : Int32} {q n : Nat} {refs : List (Option Nat)} (hs : i_stp code (pc, lv, .long x :: .int i :: .ref q :: rest, S) = i_last pc lv (.long x :: .int i :: .ref q :: rest) S) (ha : S.1[q]? = some (1, n, refs)) (hg : ¬ (i < 0 ∨ n ≤ i.toNatClampNeg)) (he : (pc + 1, lv, rest, (S.1, S.2.1, i_upL S.2.2.1 q i.toNatClampNeg x, S.2.2.2)) = cf') (h2 : I_RnE E code cf' r S') : I_RnE E code (pc, lv, .long x :: .int i :: .ref q :: rest, S) r S' := by
  unfold i_last at hs
  dsimp only at hs
  rw [ha] at hs
  dsimp only at hs
  rw [if_pos rfl, if_neg hg] at hs
  rw [← he] at h2
  exact i_stp1 hs h2
theorem i_rpz {x : Int32} {q t n ci k a b : Nat} {refs : List (Option Nat)} (hs : i_stp code (pc, lv, .int x :: .ref q :: rest, S) = i_pf [ci, k, 2, a, b] pc lv (.int x :: .ref q :: rest) S) (ha : S.1[q]? = some (t, n, refs)) (ht : t = 10 + ci) (hx : x = 0 ∨ x = 1) (he : (pc + 3, lv, rest, (S.1, i_upI S.2.1 q k x, S.2.2)) = cf') (h2 : I_RnE E code cf' r S') : I_RnE E code (pc, lv, .int x :: .ref q :: rest, S) r S' := by
  unfold i_pf at hs
  dsimp only at hs
  rw [ha] at hs
  dsimp only at hs
  rw [if_pos ht, if_neg (by decide), if_pos ⟨rfl, hx⟩] at hs
  rw [← he] at h2
  exact i_stp1 hs h2
theorem i_rcpyI {n dp sp : Int32} {d a n0 n1 : Nat} {refs0 refs1 : List (Option Nat)} (hs : i_stp code (pc, lv, .int n :: .int dp :: .ref d :: .int sp :: .ref a :: rest, S) = i_cpy pc lv (.int n :: .int dp :: .ref d :: .int sp :: .ref a :: rest) S) (ha : S.1[a]? = some (0, n0, refs0)) (hd : S.1[d]? = some (0, n1, refs1)) (hg : i_cgP sp dp n n0 n1) (hr : (rest.map fun v => v.category).sum ≤ 8) (he : (pc + 3, lv, rest, (S.1, i_row S.2.1 d (va_cpy (S.2.1 a) (S.2.1 d) sp.toNatClampNeg dp.toNatClampNeg n.toNatClampNeg), S.2.2)) = cf') (h2 : I_RnE E code cf' r S') : I_RnE E code (pc, lv, .int n :: .int dp :: .ref d :: .int sp :: .ref a :: rest, S) r S' := by
  unfold i_cpy at hs
  dsimp only at hs
  rw [ha, hd] at hs
  dsimp only at hs
  rw [if_pos ⟨hg.1, hg.2.1, hg.2.2.1, hg.2.2.2.1, hg.2.2.2.2, hr⟩, if_pos ⟨rfl, rfl⟩] at hs
  rw [← he] at h2
  exact i_stp1 hs h2
theorem i_rcpyL {n dp sp : Int32} {d a n0 n1 : Nat} {refs0 refs1 : List (Option Nat)} (hs : i_stp code (pc, lv, .int n :: .int dp :: .ref d :: .int sp :: .ref a :: rest, S) = i_cpy pc lv (.int n :: .int dp :: .ref d :: .int sp :: .ref a :: rest) S) (ha : S.1[a]? = some (1, n0, refs0)) (hd : S.1[d]? = some (1, n1, refs1)) (hg : i_cgP sp dp n n0 n1) (hr : (rest.map fun v => v.category).sum ≤ 8) (he : (pc + 3, lv, rest, (S.1, S.2.1, i_row S.2.2.1 d (va_cpy (S.2.2.1 a) (S.2.2.1 d) sp.toNatClampNeg dp.toNatClampNeg n.toNatClampNeg), S.2.2.2)) = cf') (h2 : I_RnE E code cf' r S') : I_RnE E code (pc, lv, .int n :: .int dp :: .ref d :: .int sp :: .ref a :: rest, S) r S' := by
  unfold i_cpy at hs
  dsimp only at hs
  rw [ha, hd] at hs
  dsimp only at hs
  rw [if_pos ⟨hg.1, hg.2.1, hg.2.2.1, hg.2.2.2.1, hg.2.2.2.2, hr⟩, if_neg (by decide), if_pos ⟨rfl, rfl⟩] at hs
  rw [← he] at h2
  exact i_stp1 hs h2
theorem i_rretZ {x : Int32} {cf : I_Cf} (hs : i_stp code cf = i_iret [2] [.int x]) (hx : x = 0 ∨ x = 1) (hS : cf.2.2.2 = S) : I_RnE E code cf (some (.int x)) S := by
  unfold i_iret at hs
  dsimp only at hs
  rw [if_pos (Or.inr (Or.inl ⟨rfl, hx⟩))] at hs
  exact i_rret hs hS
end IRUL2
