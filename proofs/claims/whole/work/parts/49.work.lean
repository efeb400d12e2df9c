/-! ===== part 49: the reference works a text out ===== -/
def p_val : List i_Li → (Nat → Int32) → Int32
  | [], _ => 0
  | v :: r, e => match v e with
    | some x => x
    | none => p_val r e
section WRK
variable {M : I_M} {n : Nat} {t : Nat → Int32}
theorem R_lines (hB : q_B M n t) {k : Int32 → I_M → Option (Int32 × I_M)} {P : Int32 × I_M → Prop} : ∀ (m F p : Nat) (gn gv : Int32), n - p < m → n - p + 1 < F → p ≤ n → (gn = 0 ∧ gv = 0 ∨ gn = 1) →
    (match p_lines (p_ah t n) m p with
     | Sum.inl f => ∀ g M', f ≤ n → q_F M n f M' → T (k g M') P
     | Sum.inr x => x.2.2 ≤ n → T (k (if gn = 0 then p_val x.2.1 (M.1 60) else gv) (q_S M x.2.2 0)) P) → T (r_workOut_L33 k F gn gv 1 (q_S M p 0)) P := by
  have h120 := hB.2.1
  intro m
  induction m with
  | zero => exact fun F p gn gv h => absurd h (by omega)
  | succ m ih =>
    intro F p gn gv h1 h2 h3 hg hk
    obtain ⟨F, rfl⟩ : ∃ k, F = k + 1 := ⟨F - 1, by omega⟩
    unfold p_lines p_line at hk
    unfold r_workOut_L33
    rw [if_neg (by decide)]
    have ht := R_E hB p h3
    have hi := PI_part (ah := p_ah t n) ah_neg (PI_one (ah := p_ah t n) ah_neg 6) 5 (by omega) p h3
    generalize p_part (p_ah t n) (p_one (p_ah t n) 6) 5 p = r at ht hi hk
    -- what happens behind a fault
    have FB : ∀ (F : Nat) (e : Nat) (M' : I_M) (s g v w : Int32), e ≤ n → q_F M n e M' → (∀ g M', e ≤ n → q_F M n e M' → T (k g M') P) → T (r_workOut_B74 (r_workOut_L33 k (F + 1)) k s g v w M') P := by
      intro F e M' s g v w he hM hk
      unfold r_workOut_B74
      rw [if_neg (qF_lt hM (by omega)), qF_tk hM (by omega)]
      dsimp only [Option.bind_some]
      unfold r_workOut_L33
      rw [if_pos rfl]
      exact hk g M' he hM
    obtain ⟨F, rfl⟩ : ∃ k, F = k + 1 := ⟨F - 1, by omega⟩
    refine T_bind (T_mono ht (fun a ha => ?_))
    obtain ⟨w, M'⟩ := a
    cases r with
    | inl e =>
      have hi : e ≤ n := hi
      have ha : q_F M n e M' := ha
      rw [qF_tk ha (by omega)]
      dsimp only [Option.bind_some]
      rw [if_pos rfl]
      exact FB F e M' gn gv w 1 hi ha hk
    | inr x =>
      obtain ⟨c2, v2, p1⟩ := x
      have hi : p < p1 ∧ p1 ≤ n ∧ c2.length + p ≤ p1 := hi
      have ha : (w, M') = (v2 (M.1 60), q_S M p1 0) := ha
      obtain ⟨rfl, rfl⟩ := Prod.mk.inj ha
      dsimp only at hk ⊢
      rw [qS_tk hB hi.2.1 (by decide)]
      -- what happens behind a line
      have LB : ∀ (p' : Nat) (u : Int32) (s : Int32) (lv : i_Li) (cc : List Int32), p < p' → p' ≤ n → (s = 0 ∧ lv (M.1 60) = none ∨ s ≠ 0 ∧ lv (M.1 60) = some u) →
          (match (if p_ah t n p' = 59 then (match p_lines (p_ah t n) m (p' + 1) with | Sum.inl f => Sum.inl f | Sum.inr y => Sum.inr (cc ++ y.1, lv :: y.2.1, y.2.2)) else Sum.inr (cc, [lv], p') : Sum Nat (List Int32 × List i_Li × Nat)) with
           | Sum.inl f => ∀ g M', f ≤ n → q_F M n f M' → T (k g M') P
           | Sum.inr x => x.2.2 ≤ n → T (k (if gn = 0 then p_val x.2.1 (M.1 60) else gv) (q_S M x.2.2 0)) P) → T (r_workOut_B74 (r_workOut_L33 k (F + 1)) k gn gv u s (q_S M p' 0)) P := by
        intro p' u s lv cc hp1 hp2 hs hk
        unfold r_workOut_B74
        rw [qS_21, if_pos (by decide), qS_tk hB hp2 (by decide)]
        have G : ∀ gn' gv' : Int32, (gn' = 0 ∧ gv' = 0 ∨ gn' = 1) → (∀ vs, (if gn' = 0 then p_val vs (M.1 60) else gv') = (if gn = 0 then p_val (lv :: vs) (M.1 60) else gv)) → (gn' = 0 → gv' = 0) → T (Option.bind (if p_ah t n p' = 59 then some ((1 : Int32), q_S M (p' + 1) 0) else some ((0 : Int32), q_S M p' 0)) (fun q10 => r_workOut_L33 k (F + 1) gn' gv' q10.1 q10.2)) P := by
          intro gn' gv' hg' hv hz
          by_cases q : p_ah t n p' = 59
          · rw [if_pos q]
            rw [if_pos q] at hk
            have hp := q_lt (by decide) q
            dsimp only [Option.bind_some]
            refine ih (F + 1) (p' + 1) gn' gv' (by omega) (by omega) hp hg' ?_
            generalize p_lines (p_ah t n) m (p' + 1) = r at hk ⊢
            cases r with
            | inl f => exact hk
            | inr y =>
              dsimp only at hk ⊢
              intro hy
              rw [hv]
              exact hk hy
          · rw [if_neg q]
            rw [if_neg q] at hk
            dsimp only [Option.bind_some]
            unfold r_workOut_L33
            rw [if_pos rfl]
            have hk := hk hp2
            dsimp only at hk
            rw [← hv []] at hk
            by_cases z : gn' = 0
            · rw [if_pos z] at hk
              rw [hz z]
              exact hk
            · rw [if_neg z] at hk
              exact hk
        rcases hs with ⟨rfl, hl⟩ | ⟨hs, hl⟩
        · rw [if_pos rfl]
          refine G gn gv hg (fun vs => ?_) (fun z => ?_)
          · show _ = (if gn = 0 then (match lv (M.1 60) with | some x => x | none => p_val vs (M.1 60)) else gv)
            rw [hl]
          · rcases hg with h | h
            · exact h.2
            · rw [h] at z
              exact absurd z (by decide)
        · rw [if_neg hs]
          rcases hg with ⟨rfl, rfl⟩ | rfl
          · rw [if_pos rfl]
            refine G 1 u (Or.inr rfl) (fun vs => ?_) (fun z => absurd z (by decide))
            show (if (1 : Int32) = 0 then _ else u) = (if (0 : Int32) = 0 then (match lv (M.1 60) with | some x => x | none => p_val vs (M.1 60)) else _)
            rw [hl, if_neg (by decide), if_pos rfl]
          · rw [if_neg (by decide)]
            refine G 1 gv (Or.inr rfl) (fun vs => ?_) (fun z => absurd z (by decide))
            rw [if_neg (by decide), if_neg (by decide)]
      by_cases q : p_ah t n p1 = 63
      · rw [if_pos q]
        rw [if_pos q] at hk
        have hp := q_lt (by decide) q
        dsimp only [Option.bind_some]
        rw [if_neg (by decide)]
        have ht2 := R_E hB (p1 + 1) hp
        have hi2 := PI_part (ah := p_ah t n) ah_neg (PI_one (ah := p_ah t n) ah_neg 6) 5 (by omega) (p1 + 1) hp
        generalize p_part (p_ah t n) (p_one (p_ah t n) 6) 5 (p1 + 1) = r at ht2 hi2 hk
        cases r with
        | inl e =>
          have hi2 : e ≤ n := hi2
          refine T_if (fun _ => T_bind (T_mono ht2 (fun a ha => ?_))) (fun _ => T_bind (T_mono ht2 (fun a ha => ?_)))
          · exact FB F e a.2 gn gv a.1 0 hi2 ha hk
          · exact FB F e a.2 gn gv a.1 1 hi2 ha hk
        | inr y =>
          obtain ⟨c3, v3, p2⟩ := y
          have hi2 : p1 + 1 < p2 ∧ p2 ≤ n ∧ c3.length + (p1 + 1) ≤ p2 := hi2
          refine T_if (fun hz => T_bind (T_mono ht2 (fun a ha => ?_))) (fun hz => T_bind (T_mono ht2 (fun a ha => ?_)))
          · have ha : a = (v3 (M.1 60), q_S M p2 0) := ha
            subst ha
            exact LB p2 _ 0 (fun e => if v2 e = 0 then none else some (v3 e)) _ (by omega) hi2.2.1 (Or.inl ⟨rfl, if_pos hz⟩) hk
          · have ha : a = (v3 (M.1 60), q_S M p2 0) := ha
            subst ha
            exact LB p2 _ 1 (fun e => if v2 e = 0 then none else some (v3 e)) _ (by omega) hi2.2.1 (Or.inr ⟨by decide, if_neg hz⟩) hk
      · rw [if_neg q]
        rw [if_neg q] at hk
        dsimp only [Option.bind_some]
        rw [if_pos rfl]
        exact LB p1 _ 1 (fun e => some (v2 e)) _ hi.1 hi.2.1 (Or.inr ⟨by decide, rfl⟩) hk
/-- the memory with where to read from and how far -/
def q_M (M : I_M) (l1 l2 : Int32) : I_M := i_rw M 50 (upd (upd (M.1 50) 18 l1) 20 l2)
theorem workOut_e {l1 l2 : Int32} (hB : q_B (q_M M l1 l2) n t) : T (r_workOut l1 l2 M) (fun q => match p_text (p_ah t n) n with
    | Sum.inl f => f ≤ n ∧ q_F (q_M M l1 l2) n f q.2
    | Sum.inr y => q = (p_val y.2 (M.1 60), q_S (q_M M l1 l2) n 0)) := by
  have h120 := hB.2.1
  unfold r_workOut
  have e0 : i_wI (i_wI (i_wI (i_wI (i_wI M 50 18 l1) 50 19 0) 50 20 l2) 50 21 (-1)) 50 22 0 = q_S (q_M M l1 l2) 0 0 := by
    refine m_ext (fun q k => ?_) rfl
    rw [m_wI, m_wI, m_wI, m_wI, m_wI]
    unfold q_S q_M i_rw upd
    by_cases h6 : q = 50
    · subst h6
      by_cases h3 : k = 22
      · subst h3
        rfl
      by_cases h5 : k = 21
      · subst h5
        rfl
      by_cases h4 : k = 20
      · subst h4
        rfl
      by_cases h7 : k = 19
      · subst h7
        rfl
      by_cases h8 : k = 18
      · subst h8
        rfl
      simp [h3, h4, h5, h7, h8]
    · simp [h6]
  rw [e0]
  refine R_lines hB 122 i_F 0 0 0 (by omega) (by unfold i_F; omega) (by omega) (Or.inl ⟨rfl, rfl⟩) ?_
  have e20 : ((q_M M l1 l2).1 50 20).toInt = n := hB.1
  unfold p_text
  generalize p_lines (p_ah t n) 122 0 = r
  cases r with
  | inl f =>
    dsimp only
    intro g M' hf hM
    rw [if_neg (qF_lt hM (by omega))]
    exact T_some ⟨hf, hM⟩
  | inr x =>
    obtain ⟨c, vs, p2⟩ := x
    dsimp only
    intro hp2
    rw [if_pos (show (q_S (q_M M l1 l2) p2 0).1 50 21 < 0 by rw [qS_21]; decide), if_pos rfl]
    have ep : (Int32.ofNat p2).toInt = p2 := a_on (by omega)
    have e20' : ((q_S (q_M M l1 l2) p2 0).1 50 20).toInt = n := e20
    by_cases q : p2 < n
    · rw [if_pos q, if_pos (show (q_S (q_M M l1 l2) p2 0).1 50 19 < (q_S (q_M M l1 l2) p2 0).1 50 20 by rw [a_lt, qS_19]; omega)]
      exact T_bind (T_mono (qS_wr hp2 h120) (fun a ha => T_some ⟨hp2, ha⟩))
    · rw [if_neg q, if_neg (show ¬ (q_S (q_M M l1 l2) p2 0).1 50 19 < (q_S (q_M M l1 l2) p2 0).1 50 20 by rw [a_lt, qS_19]; omega)]
      have : p2 = n := by omega
      subst this
      exact T_some rfl
end WRK
