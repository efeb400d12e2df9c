/-! ===== part 57: dug, judge, shift, taken ===== -/
section OPS
variable {a b c d e : Int32}
variable {L : Int32 → Int32 → Int32 → (Nat → Int32) → (Nat → Int32) → Prop}
theorem inCell_e {M : I_M} {n : Nat} (hn : (M.1 13 6).toInt = n) (h6 : n ≤ 6) : T (b_Buried_inCell c M) (fun s => s.2 = M ∧ ((s.1 = -2 ∧ ∀ k, k < n → M.1 14 k ≠ c) ∨ ∃ k, k < n ∧ s.1 = Int32.ofNat k ∧ M.1 14 k = c)) := by
  unfold b_Buried_inCell
  refine T_for (N := n) (a := 0) (f := b_Buried_inCell_L2 c) (fun k M' => M' = M ∧ ∀ j, j < k → M.1 14 j ≠ c) (by omega) ?_ ?_ (by unfold i_F; omega) (by omega) rfl ⟨rfl, fun j hj => absurd hj (by omega)⟩
  · intro m k i M' h1 h2 h3 h4 h5
    obtain ⟨rfl, h4⟩ := h4
    unfold b_Buried_inCell_L2
    rw [if_pos (by rw [a_lt]; omega)]
    refine T_g (by omega) (by omega) ?_
    rw [a_k h1]
    refine T_if (fun q => T_some ⟨rfl, Or.inr ⟨k, h3, of_k h1, q⟩⟩) (fun q => h5 _ ⟨rfl, fun j hj => ?_⟩)
    by_cases g : j = k
    · rw [g]
      exact q
    · exact h4 j (by omega)
  · intro m i M' h1 h2
    obtain ⟨rfl, h2⟩ := h2
    unfold b_Buried_inCell_L2
    rw [if_neg (by rw [a_lt]; omega)]
    exact T_some ⟨rfl, Or.inl ⟨rfl, h2⟩⟩
theorem op_dug : OP L (b_dug a b) (r_dug a b) := by
  intro M h
  have hi := h
  obtain ⟨hLa, hMa, hBe, hFo, hTa, hLw, hHe, hIm, hCh, hVi, hBo, hRa, hSh⟩ := h
  have ⟨hc, hc2, hc3⟩ := N_land_ce hLa
  have l9 : (9 : Int32).toInt = 9 := rfl
  have l25 : (25 : Int32).toInt = 25 := rfl
  have l50 : (50 : Int32).toInt = 50 := rfl
  have L9 : (9 : Int64).toInt = 9 := rfl
  have l0 := Int32.toInt_zero
  unfold b_dug
  rw [e_has]
  dsimp only [Option.bind_some]
  rw [hc3]
  by_cases p : 0 ≤ a.toInt ∧ a.toInt < i_ce (M.1 50 6) (M.1 50 7)
  · by_cases p2 : 0 ≤ b.toInt ∧ b.toInt ≤ 9
    · rw [bo_p p, if_neg (by decide), if_neg (by rw [a_lt]; omega), if_neg (by rw [a_lt]; omega)]
      obtain ⟨g1, g2, g3, g4, g5, g6⟩ := hBe
      obtain ⟨f1, f2, f3, f4⟩ := hFo
      obtain ⟨nb, hnb⟩ : ∃ n : Nat, (M.1 50 8).toInt = n := ⟨(M.1 50 8).toInt.toNat, by omega⟩
      have k25 : (25 + a).toInt = 25 + a.toInt := by rw [a_add] <;> omega
      have kk : Int32.toNatClampNeg (25 + a) = 25 + Int32.toNatClampNeg a := by rw [a_n, a_n, k25]; omega
      have hcost : M.1 5 (Int32.toNatClampNeg a) = M.1 51 (25 + Int32.toNatClampNeg a) := (hMa.2.1 _ (by rw [a_n]; omega)).1
      unfold b_Buried_digUp
      refine T_bind (T_g p.1 (by omega) ?_)
      obtain ⟨B, hB⟩ : ∃ B, B = i_wI M 13 8 (M.1 13 8 + M.1 5 (Int32.toNatClampNeg a)) := ⟨_, rfl⟩
      rw [← hB]
      have b14 : B.1 14 = M.1 14 := by rw [hB]; rfl
      refine T_bind (T_mono (inCell_e (M := B) (c := a) (n := nb) (by rw [hB]; show (M.1 13 6).toInt = nb; rw [g1]; exact hnb) (by omega)) (fun s hs => ?_))
      obtain ⟨s1, s2⟩ := s
      obtain ⟨e1, e2⟩ := hs
      dsimp only at e1 e2 ⊢
      subst e1
      -- the reference, from any memory of the class
      have REF : ∀ (C : I_M) (P : Int32 × I_M → Prop), C.1 50 = M.1 50 → C.1 51 = M.1 51 → C.1 55 = M.1 55 →
          ((∀ k, k < nb → ¬ (M.1 55 k = a ∧ ¬ ((M.1 50 12 >>> (Int32.ofNat k &&& 31)) &&& (1 : Int32)) = 1 ∧ ¬ b < M.1 51 (50 + k))) → P (-2, i_wI C 50 13 (M.1 50 13 + M.1 51 (25 + Int32.toNatClampNeg a)))) →
          (∀ k, k < nb → M.1 55 k = a → ¬ ((M.1 50 12 >>> (Int32.ofNat k &&& 31)) &&& (1 : Int32)) = 1 → ¬ b < M.1 51 (50 + k) → P (Int32.ofNat k, i_wI (i_wI C 50 13 (M.1 50 13 + M.1 51 (25 + Int32.toNatClampNeg a))) 50 12 (M.1 50 12 ||| ((1 : Int32) <<< (Int32.ofNat k &&& 31))))) → T (r_dug a b C) P := by
        intro C P c50 c51 c55 hno hyes
        unfold r_dug
        rw [e_isCell (by rw [c50]; exact hc)]
        dsimp only [Option.bind_some]
        rw [c50, bo_p p, if_neg (by decide), r_within_e, a_l, L9, Int64.toInt_zero, bo_p p2]
        dsimp only [Option.bind_some]
        rw [if_neg (by decide), g_ok (by omega) (by omega), c50, c51, kk]
        obtain ⟨D, hD⟩ : ∃ D, D = i_wI C 50 13 (M.1 50 13 + M.1 51 (25 + Int32.toNatClampNeg a)) := ⟨_, rfl⟩
        rw [← hD] at hno hyes ⊢
        have d8 : D.1 50 8 = M.1 50 8 := by rw [hD]; show C.1 50 8 = _; rw [c50]
        have d12 : D.1 50 12 = M.1 50 12 := by rw [hD]; show C.1 50 12 = _; rw [c50]
        have d51 : D.1 51 = M.1 51 := by rw [hD]; show C.1 51 = _; rw [c51]
        have d55 : D.1 55 = M.1 55 := by rw [hD]; show C.1 55 = _; rw [c55]
        refine T_for (N := nb) (a := 0) (f := r_dug_L42 a b _) (fun k M' => M' = D ∧ ∀ j, j < k → ¬ (M.1 55 j = a ∧ ¬ ((M.1 50 12 >>> (Int32.ofNat j &&& 31)) &&& (1 : Int32)) = 1 ∧ ¬ b < M.1 51 (50 + j))) (by omega) ?_ ?_ (by unfold i_F; omega) (by omega) rfl ⟨rfl, fun j hj => absurd hj (by omega)⟩
        · intro m k i M' h1 h2 h3 h4 h5
          obtain ⟨rfl, h4⟩ := h4
          have ei : i = Int32.ofNat k := of_k h1
          have k50 : (50 + i).toInt = 50 + i.toInt := by rw [a_add] <;> omega
          have kk2 : Int32.toNatClampNeg (50 + i) = 50 + k := a_k (by omega)
          have NX : ¬ (M.1 55 k = a ∧ ¬ ((M.1 50 12 >>> (Int32.ofNat k &&& 31)) &&& (1 : Int32)) = 1 ∧ ¬ b < M.1 51 (50 + k)) → ∀ j, j < k + 1 → ¬ (M.1 55 j = a ∧ ¬ ((M.1 50 12 >>> (Int32.ofNat j &&& 31)) &&& (1 : Int32)) = 1 ∧ ¬ b < M.1 51 (50 + j)) := by
            intro hx j hj
            by_cases g : j = k
            · rw [g]
              exact hx
            · exact h4 j (by omega)
          unfold r_dug_L42
          rw [d8, if_pos (by rw [a_lt]; omega), g_ok (by omega) (by omega), d55, a_k h1]
          refine T_if (fun q1 => ?_) (fun q1 => h5 _ ⟨rfl, NX (fun h => q1 h.1)⟩)
          rw [e_isIn]
          dsimp only [Option.bind_some]
          rw [d12, d51, kk2]
          by_cases q2 : ((M.1 50 12 >>> (i &&& 31)) &&& (1 : Int32)) = 1
          · rw [bo_p q2, if_neg (by decide)]
            exact h5 _ ⟨rfl, NX (fun h => h.2.1 (by rw [← ei]; exact q2))⟩
          · rw [bo_n q2, if_pos rfl, g_ok (by omega) (by omega)]
            refine T_if (fun q3 => h5 _ ⟨rfl, NX (fun h => h.2.2 q3)⟩) (fun q3 => T_some ?_)
            rw [ei]
            exact hyes k h3 q1 (by rw [← ei]; exact q2) q3
        · intro m i M' h1 h2
          obtain ⟨rfl, h2⟩ := h2
          unfold r_dug_L42
          rw [d8, if_neg (by rw [a_lt]; omega)]
          exact T_some (hno h2)
      -- the invariant with the cost paid and other found bits
      have INVF : ∀ f : Int32, 0 ≤ f.toInt → f.toInt < 64 → N_found f (M.1 13 8 + M.1 5 (Int32.toNatClampNeg a)) f (M.1 50 13 + M.1 51 (25 + Int32.toNatClampNeg a)) := fun f h1 h2 => ⟨rfl, by rw [f2, hcost], h1, h2⟩
      have NONE : (∀ k, k < nb → ¬ (M.1 55 k = a ∧ ¬ ((M.1 50 12 >>> (Int32.ofNat k &&& 31)) &&& (1 : Int32)) = 1 ∧ ¬ b < M.1 51 (50 + k))) → T (r_dug a b s2) (fun s => s.1 = -2 ∧ INV L s.2) := by
        intro hx
        refine REF s2 _ (by rw [hB]; rfl) (by rw [hB]; rfl) (by rw [hB]; rfl) (fun _ => ⟨rfl, ?_⟩) (fun k hk q1 q2 q3 => absurd ⟨q1, q2, q3⟩ (hx k hk))
        subst hB
        have hF' : N_found (M.1 13 7) (M.1 13 8 + M.1 5 (Int32.toNatClampNeg a)) (M.1 50 12) (M.1 50 13 + M.1 51 (25 + Int32.toNatClampNeg a)) := by
          rw [f1]
          exact INVF _ f3 f4
        exact ⟨hLa, hMa, ⟨g1, g2, g3, g4, g5, g6⟩, hF', hTa, hLw, hHe, hIm, hCh, hVi, hBo, hRa, hSh⟩
      rcases e2 with ⟨e2, e3⟩ | ⟨k, hk, e2, e3⟩
      · subst e2
        rw [if_pos rfl]
        refine T_some (T_some ?_)
        refine NONE (fun k hk h => e3 k hk ?_)
        rw [b14, (g4 k (by omega)).1]
        exact h.1
      · subst e2
        have ek : (Int32.ofNat k).toInt = k := a_on (by omega)
        have l2 : (-2 : Int32).toInt = -2 := rfl
        rw [if_neg (by rw [a_eq]; omega), e_found]
        dsimp only [Option.bind_some]
        have b137 : s2.1 13 7 = M.1 50 12 := by rw [hB]; exact f1
        have b16 : s2.1 16 = M.1 16 := by rw [hB]; rfl
        have m55 : M.1 55 k = a := by rw [← (g4 k (by omega)).1, ← b14]; exact e3
        have only : ∀ j, j < nb → M.1 55 j = a → j = k := by
          intro j hj hja
          rcases Nat.lt_trichotomy j k with q | q | q
          · exact absurd (hja.trans m55.symm) (g6 j k q (by omega))
          · exact q
          · exact absurd (m55.trans hja.symm) (g6 k j q (by omega))
        rw [b137]
        by_cases q2 : ((M.1 50 12 >>> (Int32.ofNat k &&& 31)) &&& (1 : Int32)) = 1
        · rw [bo_p q2, if_neg (by decide)]
          refine T_some (T_some ?_)
          exact NONE (fun j hj h => by rw [only j hj h.1] at h; exact h.2.1 q2)
        · rw [bo_n q2, if_pos rfl, g_ok (by omega) (by omega), a_k ek, b16, (hMa.2.2.1 k (by omega)).1]
          by_cases q3 : b < M.1 51 (50 + k)
          · rw [if_pos q3]
            refine T_some (T_some ?_)
            exact NONE (fun j hj h => by rw [only j hj h.1] at h; exact h.2.2 q3)
          · rw [if_neg q3]
            refine T_some (T_some ?_)
            dsimp only
            refine REF _ _ (by rw [hB]; rfl) (by rw [hB]; rfl) (by rw [hB]; rfl) (fun hx => absurd ⟨m55, q2, q3⟩ (hx k hk)) (fun j hj w1 w2 w3 => ?_)
            rw [only j hj w1]
            refine ⟨rfl, ?_⟩
            have od := or_dec (M.1 50 12).toInt.toNat (by omega) k (by omega)
            rw [show Int32.ofNat (M.1 50 12).toInt.toNat = M.1 50 12 from (a_eq.mpr (by rw [a_on (by omega)]; omega))] at od
            subst hB
            exact ⟨hLa, hMa, ⟨g1, g2, g3, g4, g5, g6⟩, INVF _ od.1 od.2, hTa, hLw, hHe, hIm, hCh, hVi, hBo, hRa, hSh⟩
    · have RR : T (r_dug a b M) (fun s => s.1 = -1 ∧ INV L s.2) := by
        unfold r_dug
        rw [e_isCell hc]
        dsimp only [Option.bind_some]
        rw [bo_p p, if_neg (by decide), r_within_e, a_l, L9, Int64.toInt_zero, bo_n p2]
        exact T_some ⟨rfl, hi⟩
      rw [bo_p p, if_neg (by decide)]
      by_cases q : b.toInt < 0
      · rw [if_pos (by rw [a_lt]; omega)]
        exact T_some RR
      · rw [if_neg (by rw [a_lt]; omega), if_pos (by rw [a_lt]; omega)]
        exact T_some RR
  · rw [bo_n p, if_pos rfl]
    refine T_some ?_
    dsimp only
    unfold r_dug
    rw [e_isCell hc]
    dsimp only [Option.bind_some]
    rw [bo_n p, if_pos rfl]
    exact T_some ⟨rfl, hi⟩
end OPS
