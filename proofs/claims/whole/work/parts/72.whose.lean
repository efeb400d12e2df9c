/-! ===== part 72: whose, the call ===== -/
section WR
variable {M : I_M} {a b : Int32} {A len : Nat}
theorem own_all (h : w_H M a A len) {P : I_M → Prop} (hk : ∀ o' l', w_c (w_all M A (w_m len) 6) o' l' → P (w_S M o' l')) : T (b_Villages_findOwner a M) P := by
  have l6 := l_6
  unfold b_Villages_findOwner
  have e0 : i_wI (i_wI M 36 1 (-2)) 36 2 2147483647 = w_S M (-2) 2147483647 := by
    have : M = w_S M (M.1 36 1) (M.1 36 2) := by
      refine m_ext (fun q k => ?_) rfl
      unfold w_S i_rw upd
      by_cases h : q = 36
      · subst h
        by_cases h2 : k = 2
        · subst h2
          simp
        · by_cases h1 : k = 1
          · subst h1
            simp
          · simp [h2, h1]
      · simp [h]
    rw [show i_wI (i_wI M 36 1 (-2)) 36 2 2147483647 = i_wI (i_wI (w_S M (M.1 36 1) (M.1 36 2)) 36 1 (-2)) 36 2 2147483647 by rw [← this], w_Sw]
  rw [e0]
  refine T_for (N := 6) (a := 0) (f := b_Villages_findOwner_L14 a) (fun k M' => ∃ o l, M' = w_S M o l ∧ w_c (w_all M A (w_m len) k) o l) (by omega) ?_ ?_ (by unfold i_F; omega) (by omega) rfl ⟨-2, 2147483647, rfl, fun _ => ⟨rfl, rfl⟩, fun z => absurd (show (0 : Int) ≤ -2 from z) (by decide)⟩
  · intro m k i M' g1 g2 g3 g4 g5
    obtain ⟨o, l, rfl, g4⟩ := g4
    unfold b_Villages_findOwner_L14
    rw [if_pos (by rw [a_lt]; omega), of_k g1]
    refine own_in h g3 (w_allok h k (by omega)) g4 (fun o' l' hc => ?_)
    rw [← of_k g1]
    exact g5 _ ⟨o', l', rfl, hc⟩
  · intro m i M' g1 g2
    obtain ⟨o, l, rfl, g2⟩ := g2
    unfold b_Villages_findOwner_L14
    rw [if_neg (by rw [a_lt]; omega)]
    exact T_some (hk o l g2)
theorem who_in (h : w_H M a A len) {v : Nat} (hv : v < 6) {s : Int × Int} (hs : w_ok s) {o : Int32} {l : Int64} (hc : o.toInt = s.1 ∧ l.toInt = s.2) {M' : I_M} (hM1 : M'.1 71 = M.1 71 ∧ M'.1 66 = M.1 66) (hM2 : M'.2 = M.2) {k120 : Int32 → Int64 → I_M → Option (Int32 × I_M)} {P : Int32 × I_M → Prop} (hk : ∀ (o' : Int32) (l' : Int64), o'.toInt = (w_in M A v (w_m len) s).1 ∧ l'.toInt = (w_in M A v (w_m len) s).2 → T (k120 o' l' M') P) : T (r_whose_L66 a b (Int32.ofNat v) k120 i_F o l 0 M') P := by
  have hH := h
  obtain ⟨h1, h2, hA, h60, h43, h71, h5, hv6⟩ := h
  have ev : (Int32.ofNat v).toInt = v := a_on (by omega)
  have l4 : (4 : Int32).toInt = 4 := rfl
  refine T_for (σ := Int32 × Int64 × I_M) (N := w_m len) (a := 0) (f := fun m i s => r_whose_L66 a b (Int32.ofNat v) k120 m s.1 s.2.1 i s.2.2) (s := (o, l, M')) (fun k q => q.1.toInt = (w_in M A v k s).1 ∧ q.2.1.toInt = (w_in M A v k s).2 ∧ q.2.2 = M') (by unfold w_m; omega) ?_ ?_ (by unfold i_F w_m; omega) (by omega) rfl ⟨hc.1, hc.2, rfl⟩
  · intro m k i q g1 g2 g3 g4 g5
    obtain ⟨o, l, N⟩ := q
    obtain ⟨c1, c2, c3⟩ := g4
    dsimp only at c1 c2 c3 ⊢
    subst c3
    unfold w_m at g3
    have e4 : (i + 4).toInt = i.toInt + 4 := by rw [a_add] <;> omega
    obtain ⟨t1, t2, t3⟩ := hv6 v hv
    unfold r_whose_L66
    rw [g_ok h1 (by omega), hA, hM1.1, if_neg (by rw [a_lt]; omega), g_ok (by omega) (by omega), a_k ev, hM1.2]
    refine T_bind (T_mono (w_rr hH g1 (by omega) t2 t3 hM2) (fun r hr => ?_))
    obtain ⟨r1, r2⟩ := r
    obtain ⟨e1, e2⟩ := hr
    dsimp only at e1 e2 ⊢
    subst e1
    have hin : w_in M A v (k + 1) s = w_st v (w_D M A (M.1 66 v).toInt k) (w_in M A v k s) := rfl
    generalize w_in M A v k s = u at *
    generalize w_D M A (M.1 66 v).toInt k = D at *
    rw [hin] at g5
    unfold w_st at g5
    by_cases q : o.toInt < 0
    · rw [if_pos (by rw [a_lt, Int32.toInt_zero]; exact q)]
      refine g5 (Int32.ofNat v, r1, r2) ?_
      rw [if_pos (Or.inl (by omega))]
      exact ⟨ev, e2, rfl⟩
    · rw [if_neg (by rw [a_lt, Int32.toInt_zero]; exact q)]
      by_cases q2 : r1.toInt < l.toInt
      · rw [if_pos (by rw [a_llt]; exact q2)]
        refine g5 (Int32.ofNat v, r1, r2) ?_
        rw [if_pos (Or.inr (by omega))]
        exact ⟨ev, e2, rfl⟩
      · rw [if_neg (by rw [a_llt]; exact q2)]
        refine g5 (o, l, r2) ?_
        rw [if_neg (by rintro (z | z) <;> omega)]
        exact ⟨c1, c2, rfl⟩
  · intro m i q g1 g2
    obtain ⟨o, l, N⟩ := q
    obtain ⟨c1, c2, c3⟩ := g2
    dsimp only at c1 c2 c3 ⊢
    subst c3
    have e4 : (i + 4).toInt = i.toInt + 4 := by rw [a_add] <;> unfold w_m at g1 <;> omega
    unfold r_whose_L66
    rw [g_ok h1 (by omega), hA, hM1.1, if_pos (by rw [a_lt]; unfold w_m at g1; omega)]
    exact hk o l ⟨c1, c2⟩
theorem who_all (h : w_H M a A len) {M' : I_M} (hM1 : M'.1 71 = M.1 71 ∧ M'.1 66 = M.1 66) (hM2 : M'.2 = M.2) {k126 : Int32 → Int64 → I_M → Option (Int32 × I_M)} {P : Int32 × I_M → Prop} (hk : ∀ (o' : Int32) (l' : Int64), o'.toInt = (w_all M A (w_m len) 6).1 ∧ l'.toInt = (w_all M A (w_m len) 6).2 → T (k126 o' l' M') P) : T (r_whose_L56 a b k126 i_F (-2) (-2) 0 M') P := by
  have l6 := l_6
  refine T_for (σ := Int32 × Int64 × I_M) (N := 6) (a := 0) (f := fun m i s => r_whose_L56 a b k126 m s.1 s.2.1 i s.2.2) (s := (-2, -2, M')) (fun k q => q.1.toInt = (w_all M A (w_m len) k).1 ∧ q.2.1.toInt = (w_all M A (w_m len) k).2 ∧ q.2.2 = M') (by omega) ?_ ?_ (by unfold i_F; omega) (by omega) rfl ⟨rfl, rfl, rfl⟩
  · intro m k i q g1 g2 g3 g4 g5
    obtain ⟨o, l, N⟩ := q
    obtain ⟨c1, c2, c3⟩ := g4
    dsimp only at c1 c2 c3 ⊢
    subst c3
    unfold r_whose_L56
    rw [if_pos (by rw [a_lt]; omega), of_k g1]
    refine who_in h g3 (w_allok h k (by omega)) ⟨c1, c2⟩ hM1 hM2 (fun o' l' hc => ?_)
    rw [← of_k g1]
    exact g5 (o', l', N) ⟨hc.1, hc.2, rfl⟩
  · intro m i q g1 g2
    obtain ⟨o, l, N⟩ := q
    obtain ⟨c1, c2, c3⟩ := g2
    dsimp only at c1 c2 c3 ⊢
    subst c3
    unfold r_whose_L56
    rw [if_neg (by rw [a_lt]; omega)]
    exact hk o l ⟨c1, c2⟩
end WR
section OPS
variable {a b : Int32}
variable {L : Int32 → Int32 → Int32 → (Nat → Int32) → (Nat → Int32) → Prop}
theorem a_64 {x : Int64} (h : -2147483648 ≤ x.toInt) (h2 : x.toInt < 2147483648) : (Int64.toInt32 x).toInt = x.toInt := by
  rw [Int64.toInt_toInt32]
  exact a_bm h h2
theorem op_whose : OP L (b_whose a b) (r_whose a b) := by
  intro M h
  have hi := h
  obtain ⟨hLa, hMa, hBe, hFo, hTa, hLw, hHe, hIm, hCh, hVi, hBo, hRa, hSh⟩ := h
  have hw2 := hBo.2.2.1
  have l0 := Int32.toInt_zero
  have l1 : (1 : Int32).toInt = 1 := rfl
  have l4 : (4 : Int32).toInt = 4 := rfl
  have l50 := l_50
  have lm := l_m1
  have lm2 : (-2 : Int32).toInt = -2 := rfl
  have L1 : (1 : Int64).toInt = 1 := rfl
  unfold b_whose
  have FIN : ∀ (v : Int32), r_whose a b M = some (v, M) → T (some (v, M)) (fun r => T (r_whose a b r.2) (fun s => s.1 = r.1 ∧ INV L s.2)) := by
    intro v hv
    refine T_some ?_
    dsimp only
    rw [hv]
    exact T_some ⟨rfl, hi⟩
  rw [e_bisShelf]
  dsimp only [Option.bind_some]
  by_cases ha : 0 ≤ a.toInt ∧ a.toInt < 6
  · have R0 : ∀ M' : I_M, r_whose a b M' = if i_bo (0 ≤ b.toInt ∧ b.toInt ≤ 1) = 0 then some ((-1 : Int32), M') else (if (M'.1 70 (Int32.toNatClampNeg a)) < (0 : Int32) then some ((-11 : Int32), M') else (if (M'.1 70 (Int32.toNatClampNeg a)) = (50 : Int32) then r_whose_L56 a b (fun l3_16 l4_16 M16 => (if b = (0 : Int32) then some (l3_16, M16) else some ((Int64.toInt32 l4_16), M16))) i_F (-2 : Int32) (-2 : Int64) (0 : Int32) M' else some ((-12 : Int32), M'))) := by
      intro M'
      unfold r_whose
      rw [e_risShelf]
      dsimp only [Option.bind_some]
      rw [bo_p ha, if_neg (by decide)]
      simp only [r_within_e, a_l, L1, Int64.toInt_zero, Option.bind_some, g_ok ha.1 (show a.toInt < ((6 : Nat) : Int) by omega)]
    have RM := R0 M
    rw [bo_p ha, if_neg (by decide)]
    by_cases p1 : 0 ≤ b.toInt ∧ b.toInt ≤ 1
    · rw [bo_p p1, if_neg (by decide)] at RM
      rw [if_neg (by rw [a_lt]; omega), if_neg (by rw [a_lt]; omega), g_ok ha.1 (by omega)]
      have f := shel_f hSh hw2 ha.1 ha.2
      rcases f with ⟨f1, f2, f3, g | g | g⟩
      · rw [if_pos (by rw [a_eq]; omega)]
        rw [if_pos (by rw [a_lt]; omega)] at RM
        exact FIN _ RM
      · rw [if_neg (by rw [a_eq]; omega), if_neg (by rw [a_eq]; omega)]
        rw [if_neg (by rw [a_lt]; omega), if_neg (by rw [a_eq]; omega)] at RM
        exact FIN _ RM
      · rw [if_neg (by rw [a_eq]; omega)]
        by_cases z : (M.1 42 (Int32.toNatClampNeg a)).toInt = 0
        · rw [if_pos (by rw [a_eq]; omega)]
          rw [if_neg (by rw [a_lt]; omega), if_pos (by rw [a_eq]; omega)] at RM
          obtain ⟨len, hlen⟩ : ∃ n : Nat, (M.1 71 (Int32.toNatClampNeg a)).toInt = n := ⟨(M.1 71 (Int32.toNatClampNeg a)).toInt.toNat, by omega⟩
          have hs := hSh (Int32.toNatClampNeg a) (by rw [a_n]; omega)
          have hH : w_H M a (Int32.toNatClampNeg a) len := ⟨ha.1, ha.2, rfl, by omega, by omega, hlen, fun k hk => ⟨(hs.2.2.2.1 k (by omega)).1, (hs.2.2.2.1 k (by omega)).2 z⟩, hVi⟩
          have ok := w_allok hH 6 (by omega)
          have WHO : ∀ M' : I_M, M'.1 70 = M.1 70 → (M'.1 71 = M.1 71 ∧ M'.1 66 = M.1 66) → M'.2 = M.2 → ∀ v : Int32, v.toInt = (if b.toInt = 0 then (w_all M (Int32.toNatClampNeg a) (w_m len) 6).1 else (w_all M (Int32.toNatClampNeg a) (w_m len) 6).2) → INV L M' → T (r_whose a b M') (fun s => s.1 = v ∧ INV L s.2) := by
            intro M' h70 h71 h2 v hv hI
            rw [R0 M', bo_p p1, if_neg (by decide), h70, if_neg (by rw [a_lt]; omega), if_pos (by rw [a_eq]; omega)]
            refine who_all hH h71 h2 (fun o' l' hc => ?_)
            by_cases zb : b = 0
            · rw [if_pos zb]
              rw [if_pos (by rw [zb]; rfl)] at hv
              exact T_some ⟨a_eq.mpr (show o'.toInt = v.toInt by omega), hI⟩
            · rw [if_neg zb]
              rw [if_neg (show ¬ b.toInt = 0 from fun h => zb (a_eq.mpr h))] at hv
              have : (Int64.toInt32 l').toInt = l'.toInt := by
                rcases ok with q | q
                · rw [q] at hc
                  exact a_64 (by have := hc.2; dsimp only at this; omega) (by have := hc.2; dsimp only at this; omega)
                · exact a_64 (by omega) (by omega)
              exact T_some ⟨a_eq.mpr (show (Int64.toInt32 l').toInt = v.toInt by omega), hI⟩
          by_cases p4 : (M.1 71 (Int32.toNatClampNeg a)).toInt < 4
          · rw [if_pos (by rw [a_lt]; omega)]
            refine T_some ?_
            refine WHO M rfl ⟨rfl, rfl⟩ rfl _ ?_ hi
            have : w_all M (Int32.toNatClampNeg a) (w_m len) 6 = (-2, -2) := by
              have hm : w_m len = 0 := by unfold w_m; omega
              rw [hm]
              rfl
            rw [this]
            show (-2 : Int32).toInt = if b.toInt = 0 then -2 else -2
            rw [lm2]
            split <;> rfl
          · rw [if_neg (by rw [a_lt]; omega)]
            refine T_bind (own_all hH (fun o l hc => ?_))
            have hI : INV L (w_S M o l) := by
              refine inv_of hi ?_
              refine Prod.ext (funext fun q => funext fun k => ?_) rfl
              show (if i_sc q k = true then 0 else (w_S M o l).1 q k) = (if i_sc q k = true then 0 else M.1 q k)
              by_cases c : i_sc q k = true
              · rw [if_pos c, if_pos c]
              · rw [if_neg c, if_neg c]
                unfold w_S i_rw upd
                by_cases hq : q = 36
                · subst hq
                  have c1 : k ≠ 1 := fun e => c (by rw [e]; rfl)
                  have c2 : k ≠ 2 := fun e => c (by rw [e]; rfl)
                  simp [c1, c2]
                · simp [hq]
            have NE : 0 ≤ (w_all M (Int32.toNatClampNeg a) (w_m len) 6).1 := by
              have key : ∀ n s, 0 < n → 0 ≤ (w_in M (Int32.toNatClampNeg a) 0 n s).1 ∨ ¬ 0 < n := by
                intro n s hn
                left
                obtain ⟨n, rfl⟩ : ∃ k, n = k + 1 := ⟨n - 1, by omega⟩
                show 0 ≤ (w_st _ _ (w_in M (Int32.toNatClampNeg a) 0 n s)).1
                unfold w_st
                split
                · exact Int.le_refl 0
                · omega
              have step : ∀ v n s, 0 ≤ s.1 → 0 ≤ (w_in M (Int32.toNatClampNeg a) v n s).1 := by
                intro v n s hs
                induction n with
                | zero => exact hs
                | succ n ih =>
                  show 0 ≤ (w_st _ _ (w_in M (Int32.toNatClampNeg a) v n s)).1
                  unfold w_st
                  split
                  · dsimp only
                    omega
                  · exact ih
              have all : ∀ n, 1 ≤ n → 0 ≤ (w_all M (Int32.toNatClampNeg a) (w_m len) n).1 := by
                intro n hn
                induction n with
                | zero => omega
                | succ n ih =>
                  show 0 ≤ (w_in M (Int32.toNatClampNeg a) n (w_m len) (w_all M (Int32.toNatClampNeg a) (w_m len) n)).1
                  by_cases q : n = 0
                  · subst q
                    rcases key (w_m len) (w_all M (Int32.toNatClampNeg a) (w_m len) 0) (by unfold w_m; omega) with q | q
                    · exact q
                    · exact absurd (by unfold w_m; omega) q
                  · exact step _ _ _ (ih (by omega))
              exact all 6 (by omega)
            have hc2 := hc.2 NE
            by_cases zb : b = 0
            · rw [if_pos zb]
              refine T_some ?_
              refine WHO (w_S M o l) rfl ⟨rfl, rfl⟩ rfl o ?_ hI
              rw [if_pos (by rw [zb]; rfl)]
              exact hc2.1
            · rw [if_neg zb]
              refine T_some ?_
              refine WHO (w_S M o l) rfl ⟨rfl, rfl⟩ rfl l ?_ hI
              rw [if_neg (show ¬ b.toInt = 0 from fun h => zb (a_eq.mpr h))]
              exact hc2.2
        · rw [if_neg (by rw [a_eq]; omega)]
          rw [if_neg (by rw [a_lt]; omega), if_neg (by rw [a_eq]; omega)] at RM
          exact FIN _ RM
    · rw [bo_n p1, if_pos rfl] at RM
      by_cases q : b.toInt < 0
      · rw [if_pos (by rw [a_lt]; omega)]
        exact FIN _ RM
      · rw [if_neg (by rw [a_lt]; omega), if_pos (by rw [a_lt]; omega)]
        exact FIN _ RM
  · rw [bo_n ha, if_pos rfl]
    refine FIN _ ?_
    unfold r_whose
    rw [e_risShelf]
    dsimp only [Option.bind_some]
    rw [bo_n ha, if_pos rfl]
end OPS
