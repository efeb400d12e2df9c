/-! ===== part 58: judge, taken, shift ===== -/
/-- is hearing k so? -/
def j_so (M : I_M) (k : Nat) : Prop := h_now M (M.1 61 (3 * k) / 100) (i_rem (M.1 61 (3 * k)) 100) (M.1 61 (3 * k + 1)) = M.1 61 (3 * k + 2)
def j_bit (k : Nat) : Int32 := (1 : Int32) <<< (Int32.ofNat k &&& 31)
def j_dn (M : I_M) : Nat → Int32 × Int32 → Int32 × Int32
  | 0, s => s
  | k + 1, s => j_dn M k (if h_now M (M.1 61 (3 * k) / 100) (i_rem (M.1 61 (3 * k)) 100) (M.1 61 (3 * k + 1)) = M.1 61 (3 * k + 2) then (s.1 ||| j_bit k, s.2) else (s.1, Int32.ofNat k))
def j_up (M : I_M) : Nat → Int32 × Int32 := fun n => i_it (fun k s => if h_now M (M.1 61 (3 * k) / 100) (i_rem (M.1 61 (3 * k)) 100) (M.1 61 (3 * k + 1)) = M.1 61 (3 * k + 2) then (s.1 ||| j_bit k, s.2) else (s.1, if s.2.toInt < 0 then Int32.ofNat k else s.2)) n (0, -2)
theorem j_eq (M : I_M) : ∀ k, k < 100 → (∀ a f : Int32, j_dn M k (a, f) = ((j_up M k).1 ||| a, if (j_up M k).2.toInt < 0 then f else (j_up M k).2)) ∧ ((j_up M k).2 = -2 ∨ 0 ≤ (j_up M k).2.toInt) := by
  intro k
  induction k with
  | zero =>
    intro _
    refine ⟨fun a f => ?_, Or.inl rfl⟩
    show (a, f) = ((0 : Int32) ||| a, if (-2 : Int32).toInt < 0 then f else (-2 : Int32))
    rw [Int32.zero_or, if_pos (by decide)]
  | succ k ih =>
    intro hk
    obtain ⟨h1, h2⟩ := ih (by omega)
    have e : j_up M (k + 1) = if h_now M (M.1 61 (3 * k) / 100) (i_rem (M.1 61 (3 * k)) 100) (M.1 61 (3 * k + 1)) = M.1 61 (3 * k + 2) then ((j_up M k).1 ||| j_bit k, (j_up M k).2) else ((j_up M k).1, if (j_up M k).2.toInt < 0 then Int32.ofNat k else (j_up M k).2) := rfl
    have ek : (Int32.ofNat k).toInt = k := a_on (by omega)
    by_cases q : h_now M (M.1 61 (3 * k) / 100) (i_rem (M.1 61 (3 * k)) 100) (M.1 61 (3 * k + 1)) = M.1 61 (3 * k + 2)
    · rw [if_pos q] at e
      rw [e]
      refine ⟨fun a f => ?_, h2⟩
      unfold j_dn
      rw [if_pos q, h1]
      dsimp only
      rw [Int32.or_assoc, Int32.or_comm a]
    · rw [if_neg q] at e
      rw [e]
      constructor
      · intro a f
        unfold j_dn
        rw [if_neg q, h1]
        dsimp only
        by_cases q2 : (j_up M k).2.toInt < 0
        · simp only [if_pos q2]
          rw [if_neg (by omega)]
        · simp only [if_neg q2]
      · dsimp only
        by_cases q2 : (j_up M k).2.toInt < 0
        · rw [if_pos q2]
          exact Or.inr (by omega)
        · rw [if_neg q2]
          exact Or.inr (by omega)
section OPS
variable {a b c d e : Int32}
theorem judge_b {M : I_M} (h : INV L_law M) {k91 : Int32 → Int32 → I_M → Option (Int32 × I_M)} {P : Int32 × I_M → Prop} : ∀ (k F : Nat) (l2 l3 l4 : Int32) (M' : I_M), (k : Int) ≤ (M.1 50 24).toInt → k < F → l4.toInt = k - 1 → fh M M' →
    (∀ M'', fh M M'' → T (k91 (j_dn M k (l2, l3)).1 (j_dn M k (l2, l3)).2 M'') P) → T (b_judge_L27 a k91 F l2 l3 l4 M') P := by
  intro k
  have hi := h
  obtain ⟨hLa, hMa, hBe, hFo, hTa, hLw, hHe, hIm, hCh, hVi, hBo, hRa, hSh⟩ := h
  obtain ⟨r1, r2, r3, r4⟩ := hHe
  induction k with
  | zero =>
    intro F l2 l3 l4 M' h1 h2 h3 hf hk
    obtain ⟨F, rfl⟩ : ∃ k, F = k + 1 := ⟨F - 1, by omega⟩
    unfold b_judge_L27
    rw [if_pos (by rw [a_lt, Int32.toInt_zero]; omega)]
    exact hk M' hf
  | succ k ih =>
    intro F l2 l3 l4 M' h1 h2 h3 hf hk
    obtain ⟨F, rfl⟩ : ∃ k, F = k + 1 := ⟨F - 1, by omega⟩
    have kl : Int32.toNatClampNeg l4 = k := a_k (by omega)
    have el : l4 = Int32.ofNat k := of_k (by omega)
    obtain ⟨l5, h5, en⟩ : ∃ l5, l5 = l4 + -1 ∧ l5.toInt = k - 1 := by
      refine ⟨l4 + -1, rfl, ?_⟩
      have m1 : (-1 : Int32).toInt = -1 := rfl
      rw [a_add] <;> omega
    obtain ⟨s1, s2, s3, s4, s5, s6, s7, s8, s9, s10⟩ := r4 k (by omega)
    unfold b_judge_L27
    rw [← h5]
    rw [if_neg (by rw [a_lt, Int32.toInt_zero]; omega), g_ok (by omega) (by omega), kl, hf.2 19 k rfl, hf.2 20 k rfl, s1, s2]
    have e6 := hf.2 50 6 rfl
    have e7 := hf.2 50 7 rfl
    refine T_bind (T_mono (now_b (fh_inv hi hf) (by rw [← s1]; exact s4) (by rw [← s1]; exact s5) (by rw [← s1, e6, e7]; exact s6) (by rw [← s2]; exact s7) (by rw [← s2, e6, e7]; exact s8)) (fun q hq => ?_))
    have f2 := fh_trans hf hq.2
    rw [hq.1, now_fh hf, f2.2 21 k rfl, s3]
    have hd : j_dn M (k + 1) (l2, l3) = j_dn M k (if h_now M (M.1 61 (3 * k) / 100) (i_rem (M.1 61 (3 * k)) 100) (M.1 61 (3 * k + 1)) = M.1 61 (3 * k + 2) then (l2 ||| j_bit k, l3) else (l2, Int32.ofNat k)) := rfl
    rw [hd] at hk
    by_cases g : h_now M (M.1 61 (3 * k) / 100) (i_rem (M.1 61 (3 * k)) 100) (M.1 61 (3 * k + 1)) = M.1 61 (3 * k + 2)
    · rw [if_pos g] at hk ⊢
      refine ih F _ _ _ q.2 (by omega) (by omega) en f2 ?_
      rw [el]
      exact hk
    · rw [if_neg g] at hk ⊢
      refine ih F _ _ _ q.2 (by omega) (by omega) en f2 ?_
      rw [el]
      exact hk
theorem judge_r {M : I_M} (h : INV L_law M) {k112 : Int32 → Int32 → I_M → Option (Int32 × I_M)} {P : Int32 × I_M → Prop} {M' : I_M} (hf : fh M M') (hk : ∀ M'', fh M M'' → T (k112 (j_up M (M.1 50 24).toInt.toNat).2 (j_up M (M.1 50 24).toInt.toNat).1 M'') P) : T (r_judge_L20 a k112 i_F (-2) 0 0 M') P := by
  have hi := h
  obtain ⟨hLa, hMa, hBe, hFo, hTa, hLw, hHe, hIm, hCh, hVi, hBo, hRa, hSh⟩ := h
  obtain ⟨r1, r2, r3, r4⟩ := hHe
  refine T_for (σ := Int32 × Int32 × I_M) (N := (M.1 50 24).toInt.toNat) (a := 0) (f := fun m i s => r_judge_L20 a k112 m s.1 s.2.1 i s.2.2) (s := (-2, 0, M')) (fun k s => s.1 = (j_up M k).2 ∧ s.2.1 = (j_up M k).1 ∧ fh M s.2.2) (by omega) ?_ ?_ (by unfold i_F; omega) (by omega) rfl ⟨rfl, rfl, hf⟩
  · intro m k i s h1 h2 h3 h4 h5
    obtain ⟨u, v, N⟩ := s
    obtain ⟨e1, e2, e3⟩ := h4
    dsimp only at e1 e2 e3 ⊢
    have ei : i = Int32.ofNat k := of_k h1
    obtain ⟨s1, s2, s3, s4, s5, s6, s7, s8, s9, s10⟩ := r4 k (by omega)
    have l3 : (3 : Int32).toInt = 3 := rfl
    have l2 : (2 : Int32).toInt = 2 := rfl
    have k0 : (3 * i).toInt = 3 * i.toInt := by rw [a_mul] <;> rw [l3] <;> omega
    have k1 : (3 * i + 1).toInt = 3 * i.toInt + 1 := by rw [a_a1 (by omega), k0]
    have k2 : (3 * i + 2).toInt = 3 * i.toInt + 2 := by rw [a_add] <;> omega
    have n0 : Int32.toNatClampNeg (3 * i) = 3 * k := a_k (by omega)
    have n1 : Int32.toNatClampNeg (3 * i + 1) = 3 * k + 1 := a_k (by omega)
    have n2 : Int32.toNatClampNeg (3 * i + 2) = 3 * k + 2 := a_k (by omega)
    unfold r_judge_L20
    rw [e3.2 50 24 rfl, if_pos (by rw [a_lt]; omega), g_ok (by omega) (by omega), g_ok (by omega) (by omega), n0, n1, n2, e3.2 61 _ rfl, e3.2 61 _ rfl]
    have e6 := e3.2 50 6 rfl
    have e7 := e3.2 50 7 rfl
    refine T_bind (T_mono (now_r (fh_inv hi e3) (by rw [← s1]; exact s4) (by rw [← s1]; exact s5) (by rw [← s1, e6, e7]; exact s6) (by rw [← s2]; exact s7) (by rw [← s2, e6, e7]; exact s8)) (fun q hq => ?_))
    have f2 := fh_trans e3 hq.2
    rw [g_ok (by omega) (by omega), hq.1, now_fh e3, f2.2 61 _ rfl]
    have hu : j_up M (k + 1) = if h_now M (M.1 61 (3 * k) / 100) (i_rem (M.1 61 (3 * k)) 100) (M.1 61 (3 * k + 1)) = M.1 61 (3 * k + 2) then ((j_up M k).1 ||| j_bit k, (j_up M k).2) else ((j_up M k).1, if (j_up M k).2.toInt < 0 then Int32.ofNat k else (j_up M k).2) := rfl
    unfold r_judge_B72 r_judge_B89
    by_cases g : h_now M (M.1 61 (3 * k) / 100) (i_rem (M.1 61 (3 * k)) 100) (M.1 61 (3 * k + 1)) = M.1 61 (3 * k + 2)
    · rw [if_pos g] at hu
      have FIN : T (r_judge_L20 a k112 m u (v ||| ((1 : Int32) <<< (i &&& 31))) (i + 1) q.2) P := by
        refine h5 (u, v ||| ((1 : Int32) <<< (i &&& 31)), q.2) ⟨?_, ?_, f2⟩
        · rw [hu]
          exact e1
        · rw [hu, ei]
          dsimp only
          rw [e2]
          rfl
      rw [if_pos g, if_neg (show ¬ (1 : Int32) = 0 by decide)]
      by_cases z : u < 0
      · rw [if_pos z, if_neg (by decide)]
        exact FIN
      · rw [if_neg z]
        exact FIN
    · rw [if_neg g] at hu
      rw [if_neg g, if_pos rfl]
      by_cases z : u < 0
      · have z' := z
        rw [a_lt, Int32.toInt_zero] at z'
        rw [if_pos z, if_pos rfl]
        refine h5 (i, v ||| 0, q.2) ⟨?_, ?_, f2⟩
        · rw [hu]
          dsimp only
          rw [← e1, if_pos z']
          exact ei
        · rw [hu]
          dsimp only
          rw [Int32.or_zero]
          exact e2
      · have z' := z
        rw [a_lt, Int32.toInt_zero] at z'
        rw [if_neg z, if_pos rfl]
        refine h5 (u, v ||| 0, q.2) ⟨?_, ?_, f2⟩
        · rw [hu]
          dsimp only
          rw [← e1, if_neg z']
        · rw [hu]
          dsimp only
          rw [Int32.or_zero]
          exact e2
  · intro m i s h1 h2
    obtain ⟨u, v, N⟩ := s
    obtain ⟨e1, e2, e3⟩ := h2
    dsimp only at e1 e2 e3 ⊢
    unfold r_judge_L20
    rw [e3.2 50 24 rfl, if_neg (by rw [a_lt]; omega), e1, e2]
    exact hk N e3
theorem op_judge : OP L_law (b_judge a) (r_judge a) := by
  intro M h
  have hi := h
  obtain ⟨r1, r2, r3, r4⟩ := h.2.2.2.2.2.2.1
  have l1 : (1 : Int32).toInt = 1 := rfl
  have L1 : (1 : Int64).toInt = 1 := rfl
  have l0 := Int32.toInt_zero
  unfold b_judge
  by_cases p : 0 ≤ a.toInt ∧ a.toInt ≤ 1
  · rw [if_neg (by rw [a_lt]; omega), if_neg (by rw [a_lt]; omega)]
    have en : (M.1 18 3 - 1).toInt = (M.1 50 24).toInt - 1 := by rw [r1]; exact a_s1 r2
    refine judge_b hi (M.1 50 24).toInt.toNat i_F 0 (-2) _ M (by omega) (by unfold i_F; omega) (by omega) fh_refl (fun M1 h1 => ?_)
    obtain ⟨q1, q2⟩ := j_eq M (M.1 50 24).toInt.toNat (by omega)
    rw [q1]
    dsimp only
    have e2 : (if (j_up M (M.1 50 24).toInt.toNat).2.toInt < 0 then (-2 : Int32) else (j_up M (M.1 50 24).toInt.toNat).2) = (j_up M (M.1 50 24).toInt.toNat).2 := by
      rcases q2 with q | q
      · rw [q]
        rfl
      · rw [if_neg (by omega)]
    rw [e2, Int32.or_zero]
    have RR : T (r_judge a M1) (fun s => s.1 = (if a = 0 then (j_up M (M.1 50 24).toInt.toNat).2 else (j_up M (M.1 50 24).toInt.toNat).1) ∧ INV L_law s.2) := by
      unfold r_judge
      rw [r_within_e, a_l, L1, Int64.toInt_zero, bo_p p]
      dsimp only [Option.bind_some]
      rw [if_neg (by decide)]
      refine judge_r hi h1 (fun M2 h2 => ?_)
      by_cases z : a = 0
      · rw [if_pos z, if_pos z]
        exact T_some ⟨rfl, fh_inv hi h2⟩
      · rw [if_neg z, if_neg z]
        exact T_some ⟨rfl, fh_inv hi h2⟩
    by_cases z : a = 0
    · rw [if_pos z] at RR ⊢
      exact T_some RR
    · rw [if_neg z] at RR ⊢
      exact T_some RR
  · have RR : T (r_judge a M) (fun s => s.1 = -1 ∧ INV L_law s.2) := by
      unfold r_judge
      rw [r_within_e, a_l, L1, Int64.toInt_zero, bo_n p]
      exact T_some ⟨rfl, hi⟩
    by_cases q : a.toInt < 0
    · rw [if_pos (by rw [a_lt]; omega)]
      exact T_some RR
    · rw [if_neg (by rw [a_lt]; omega), if_pos (by rw [a_lt]; omega)]
      exact T_some RR
end OPS
