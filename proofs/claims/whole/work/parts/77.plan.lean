/-! ===== part 77: how many strikes lead on, as the class's table has it ===== -/
def k_st (f : Nat → Nat) (D : Nat) (T0 : Nat → Nat) (s j : Nat) : Nat := i_it (fun a m => if s.testBit a = true ∧ s ||| f a ≠ s then min m (T0 (s ||| f a) + 1) else m) j (if s = D then 0 else 99)
theorem k_le {f : Nat → Nat} {D : Nat} {T0 : Nat → Nat} {s : Nat} : ∀ j, k_st f D T0 s j ≤ 99 := by
  intro j
  induction j with
  | zero =>
    show (if s = D then 0 else 99) ≤ 99
    split <;> omega
  | succ j ih =>
    show (if s.testBit j = true ∧ s ||| f j ≠ s then min (k_st f D T0 s j) (T0 (s ||| f j) + 1) else k_st f D T0 s j) ≤ 99
    split
    · exact Nat.le_trans (Nat.min_le_left _ _) ih
    · exact ih
theorem k_gt {s x : Nat} (h : s ||| x ≠ s) : s < s ||| x := by
  have := Nat.left_le_or (n := s) (m := x)
  omega
theorem k_congr {f : Nat → Nat} {D : Nat} {T0 T1 : Nat → Nat} {s : Nat} (h : ∀ x, s < x → T0 x = T1 x) : ∀ j, k_st f D T0 s j = k_st f D T1 s j := by
  intro j
  induction j with
  | zero => rfl
  | succ j ih =>
    show (if s.testBit j = true ∧ s ||| f j ≠ s then min (k_st f D T0 s j) (T0 (s ||| f j) + 1) else k_st f D T0 s j) = (if s.testBit j = true ∧ s ||| f j ≠ s then min (k_st f D T1 s j) (T1 (s ||| f j) + 1) else k_st f D T1 s j)
    by_cases q : s.testBit j = true ∧ s ||| f j ≠ s
    · rw [if_pos q, if_pos q, ih, h _ (k_gt q.2)]
    · rw [if_neg q, if_neg q, ih]
/-- the table from lo on -/
def k_T (M' : I_M) (f : Nat → Nat) (D nb lo : Nat) (T0 : Nat → Nat) : Prop := ∀ s, lo ≤ s → s < 2 ^ nb → M'.1 30 s = Int32.ofNat (T0 s) ∧ T0 s = k_st f D T0 s nb
section PL
variable {M : I_M} {nb D : Nat}
theorem plan_in (hn : (M.1 50 8).toInt = nb) (h6 : nb ≤ 6) {s : Nat} (hs : s < 2 ^ nb) {T0 : Nat → Nat} {N : I_M} (h13 : M.1 13 6 = M.1 50 8) (fN : fv M N) (w29 : ∀ a, a < nb → N.1 29 a = Int32.ofNat (s_w M a)) (hT : k_T N (s_w M) D nb (s + 1) T0) (h30 : N.1 30 s = Int32.ofNat (if s = D then 0 else 99)) {l1 : Int32} {k98 : I_M → Option I_M} {P : I_M → Prop}
    (hk : ∀ N', fv M N' → (∀ a, a < nb → N'.1 29 a = Int32.ofNat (s_w M a)) → k_T N' (s_w M) D nb (s + 1) T0 → N'.1 30 s = Int32.ofNat (k_st (s_w M) D T0 s nb) → T (k98 N') P) : T (b_Links_planFor_L31 l1 (Int32.ofNat s) k98 i_F 0 N) P := by
  have hf := sw_lt hn
  have s64 := p2_64 h6 hs
  have es : (Int32.ofNat s).toInt = s := a_on (by omega)
  refine T_for (N := nb) (a := 0) (f := b_Links_planFor_L31 l1 (Int32.ofNat s) k98) (fun k N' => fv M N' ∧ (∀ a, a < nb → N'.1 29 a = Int32.ofNat (s_w M a)) ∧ k_T N' (s_w M) D nb (s + 1) T0 ∧ N'.1 30 s = Int32.ofNat (k_st (s_w M) D T0 s k)) (by omega) ?_ ?_ (by unfold i_F; omega) (by omega) rfl ⟨fN, w29, hT, h30⟩
  · intro m k i N' g1 g2 g3 g4 g5
    obtain ⟨f1, w1, t1, e1⟩ := g4
    have hst : k_st (s_w M) D T0 s (k + 1) = if s.testBit k = true ∧ s ||| s_w M k ≠ s then min (k_st (s_w M) D T0 s k) (T0 (s ||| s_w M k) + 1) else k_st (s_w M) D T0 s k := rfl
    have bt := n_bt s s64 k (by omega)
    have hor := n_lt hs (hf k)
    have or64 := p2_64 h6 hor
    have eor : (Int32.ofNat (s ||| s_w M k)).toInt = ((s ||| s_w M k : Nat) : Int) := a_on (by omega)
    unfold b_Links_planFor_L31
    rw [f1.1 13 6 rfl, h13, if_pos (by rw [a_lt]; omega), of_k g1, holds_e]
    dsimp only [Option.bind_some]
    by_cases z : s.testBit k = true
    · rw [bo_p (bt.mpr z), if_neg (by decide), ← of_k g1, g_ok (by omega) (by omega), a_k g1, w1 k g3, n_or _ s64 _ (p2_64 h6 (hf k))]
      by_cases y : s ||| s_w M k = s
      · rw [if_pos (by rw [y])]
        refine g5 _ ⟨f1, w1, t1, ?_⟩
        rw [hst, if_neg (fun h => h.2 y)]
        exact e1
      · rw [if_neg (fun e => y ((on_eq (by omega) (by omega)).mp e)), g_ok (by omega) (by omega), g_ok (by omega) (by omega), a_k es, a_k eor, e1, (t1 _ (k_gt y) hor).1]
        have hle := k_le (f := s_w M) (D := D) (T0 := T0) (s := s) k
        have hle2 : T0 (s ||| s_w M k) ≤ 99 := by rw [(t1 _ (k_gt y) hor).2]; exact k_le nb
        refine g5 _ ⟨fv_wI f1 rfl, fun a ha => ?_, fun x hx hx2 => ?_, ?_⟩
        · rw [m_wI, if_neg (by omega)]
          exact w1 a ha
        · rw [m_wI, if_neg (by omega)]
          exact t1 x hx hx2
        · rw [m_wI, if_pos ⟨rfl, rfl⟩, hst, if_pos ⟨z, y⟩, a_eq, min_e, a_on (by omega), of_add (d := T0 (s ||| s_w M k)) (a_on (by omega)) (by omega), a_on (by omega), a_on (by omega)]
          omega
    · rw [bo_n (fun h => z (bt.mp h)), if_pos rfl, ← of_k g1]
      refine g5 _ ⟨f1, w1, t1, ?_⟩
      rw [hst, if_neg (fun h => z h.1)]
      exact e1
  · intro m i N' g1 g2
    obtain ⟨f1, w1, t1, e1⟩ := g2
    unfold b_Links_planFor_L31
    rw [f1.1 13 6 rfl, h13, if_neg (by rw [a_lt]; omega)]
    exact hk N' f1 w1 t1 e1
theorem plan_b (hn : (M.1 50 8).toInt = nb) (h6 : nb ≤ 6) (hD : D < 2 ^ nb) (h13 : M.1 13 6 = M.1 50 8) : ∀ (k F : Nat) (l2 : Int32) (N : I_M) (T0 : Nat → Nat), k ≤ 2 ^ nb → k < F → l2.toInt = k - 1 → fv M N → (∀ a, a < nb → N.1 29 a = Int32.ofNat (s_w M a)) → k_T N (s_w M) D nb k T0 →
    T (b_Links_planFor_L8 (Int32.ofNat D) F l2 N) (fun N' => fv M N' ∧ (∀ a, a < nb → N'.1 29 a = Int32.ofNat (s_w M a)) ∧ ∃ T0, k_T N' (s_w M) D nb 0 T0) := by
  intro k
  have D64 := p2_64 h6 hD
  induction k with
  | zero =>
    intro F l2 N T0 q1 q2 q3 q4 q5 q6
    obtain ⟨F, rfl⟩ : ∃ k, F = k + 1 := ⟨F - 1, by omega⟩
    unfold b_Links_planFor_L8
    rw [if_pos (by rw [a_lt, Int32.toInt_zero]; omega)]
    exact T_some ⟨q4, q5, T0, q6⟩
  | succ k ih =>
    intro F l2 N T0 q1 q2 q3 q4 q5 q6
    obtain ⟨F, rfl⟩ : ∃ k, F = k + 1 := ⟨F - 1, by omega⟩
    have k64 := p2_64 (x := k) h6 (by omega)
    have el : l2 = Int32.ofNat k := of_k (by omega)
    have kl : Int32.toNatClampNeg l2 = k := a_k (by omega)
    obtain ⟨l3, h3, en⟩ : ∃ l3, l3 = l2 + -1 ∧ l3.toInt = k - 1 := by
      refine ⟨l2 + -1, rfl, ?_⟩
      have m1 : (-1 : Int32).toInt = -1 := rfl
      rw [a_add] <;> omega
    -- behind the inner loop
    have BACK : ∀ N', fv M N' → (∀ a, a < nb → N'.1 29 a = Int32.ofNat (s_w M a)) → k_T N' (s_w M) D nb (k + 1) T0 → N'.1 30 k = Int32.ofNat (k_st (s_w M) D T0 k nb) → T (b_Links_planFor_L8 (Int32.ofNat D) F l3 N') (fun N' => fv M N' ∧ (∀ a, a < nb → N'.1 29 a = Int32.ofNat (s_w M a)) ∧ ∃ T0, k_T N' (s_w M) D nb 0 T0) := by
      intro N' f1 w1 t1 e1
      obtain ⟨U, u1, u2⟩ : ∃ U : Nat → Nat, U k = k_st (s_w M) D T0 k nb ∧ ∀ x, x ≠ k → U x = T0 x := ⟨fun x => if x = k then k_st (s_w M) D T0 k nb else T0 x, if_pos rfl, fun x hx => if_neg hx⟩
      refine ih F l3 N' U (by omega) (by omega) en f1 w1 (fun s hs hs2 => ?_)
      by_cases q : s = k
      · subst q
        rw [u1]
        exact ⟨e1, k_congr (fun x hx => (u2 x (by omega)).symm) nb⟩
      · rw [u2 s q]
        obtain ⟨t2, t3⟩ := t1 s (by omega) hs2
        exact ⟨t2, t3.trans (k_congr (fun x hx => (u2 x (by omega)).symm) nb)⟩
    unfold b_Links_planFor_L8
    rw [← h3, if_neg (by rw [a_lt, Int32.toInt_zero]; omega)]
    have START : ∀ v : Int32, v = Int32.ofNat (if k = D then 0 else 99) → T (b_Links_planFor_L31 (Int32.ofNat D) l2 (fun M4 => b_Links_planFor_L8 (Int32.ofNat D) F l3 M4) i_F 0 (i_wI N 30 (Int32.toNatClampNeg l2) v)) (fun N' => fv M N' ∧ (∀ a, a < nb → N'.1 29 a = Int32.ofNat (s_w M a)) ∧ ∃ T0, k_T N' (s_w M) D nb 0 T0) := by
      intro v hv
      rw [kl, el]
      refine plan_in hn h6 (s := k) (by omega) (T0 := T0) h13 (fv_wI q4 rfl) (fun a ha => ?_) (fun s hs hs2 => ?_) ?_ BACK
      · rw [m_wI, if_neg (by omega)]
        exact q5 a ha
      · rw [m_wI, if_neg (by omega)]
        exact q6 s hs hs2
      · rw [m_wI, if_pos ⟨rfl, rfl⟩]
        exact hv
    by_cases z : k = D
    · rw [if_pos (by rw [el, z]), g_ok (by omega) (by omega)]
      exact START 0 (by rw [if_pos z]; rfl)
    · rw [if_neg (fun e => z ((on_eq (by omega) (by omega)).mp (el.symm.trans e))), g_ok (by omega) (by omega)]
      exact START 99 (by rw [if_neg z]; rfl)
end PL
