/-! ===== part 74: who shows whom, in both ===== -/
/-- memory that differs only where no call looks before it has written -/
def fv (M M' : I_M) : Prop := (∀ q k, i_sc q k = false → M'.1 q k = M.1 q k) ∧ ∀ q, q ≠ 73 → M'.2 q = M.2 q
theorem hsc_sc {q k : Nat} (h : i_sc q k = false) : h_sc q k = false := by
  by_cases d : h_sc q k = true
  · refine absurd ?_ (show ¬ i_sc q k = true by rw [h]; decide)
    unfold h_sc at d
    unfold i_sc
    simp only [Bool.or_eq_true, Bool.and_eq_true, beq_iff_eq] at d
    rcases d with (((d | d) | d) | ⟨d, e⟩) | ⟨d, e⟩
    · subst d; simp
    · subst d; simp
    · subst d; simp
    · subst d e; simp
    · subst d
      rcases e with (((e | e) | e) | e) | e <;> subst e <;> simp
  · exact Bool.eq_false_iff.mpr d
section FV
variable {M M' M'' : I_M} {q k : Nat} {v : Int32}
theorem fv_refl : fv M M := ⟨fun _ _ _ => rfl, fun _ _ => rfl⟩
theorem fv_trans (h : fv M M') (h2 : fv M' M'') : fv M M'' := ⟨fun q k hq => (h2.1 q k hq).trans (h.1 q k hq), fun q hq => (h2.2 q hq).trans (h.2 q hq)⟩
theorem fv_fh (h : fh M M') : fv M M' := ⟨fun q k hq => h.2 q k (hsc_sc hq), fun q _ => by rw [h.1]⟩
theorem fv_wI (h : fv M M') (hs : i_sc q k = true) : fv M (i_wI M' q k v) := by
  refine ⟨fun a b hab => ?_, h.2⟩
  rw [m_wI]
  by_cases c : a = q ∧ b = k
  · obtain ⟨rfl, rfl⟩ := c
    rw [hs] at hab
    exact absurd hab (by decide)
  · rw [if_neg c]
    exact h.1 a b hab
theorem fv_rw {f : Nat → Int32} (h : fv M M') (hs : ∀ k, i_sc q k = true) : fv M (i_rw M' q f) := by
  refine ⟨fun a b hab => ?_, h.2⟩
  unfold i_rw
  by_cases c : a = q
  · subst c
    rw [hs] at hab
    exact absurd hab (by decide)
  · dsimp only
    rw [if_neg c]
    exact h.1 a b hab
theorem fv_row (h : fv M M') (hs : ∀ k, i_sc q k = false) : M'.1 q = M.1 q := funext fun k => h.1 q k (hs k)
theorem fv_inv {L : Int32 → Int32 → Int32 → (Nat → Int32) → (Nat → Int32) → Prop} (hi : INV L M) (h : fv M M') : INV L M' := by
  refine inv_of hi ?_
  refine Prod.ext (funext fun q => funext fun k => ?_) (funext fun q => funext fun k => ?_)
  · show (if i_sc q k = true then 0 else M'.1 q k) = (if i_sc q k = true then 0 else M.1 q k)
    by_cases c : i_sc q k = true
    · rw [if_pos c, if_pos c]
    · rw [if_neg c, if_neg c]
      exact h.1 q k (Bool.eq_false_iff.mpr c)
  · show (if q = 73 then 0 else M'.2 q k) = (if q = 73 then 0 else M.2 q k)
    by_cases c : q = 73
    · rw [if_pos c, if_pos c]
    · rw [if_neg c, if_neg c, h.2 q c]
theorem sv_fv (h : fv M M') {a b : Nat} : s_v M' a b = s_v M a b := by
  unfold s_v h_hd h_bv
  rw [fv_row h (q := 57) (fun _ => rfl), fv_row h (q := 55) (fun _ => rfl), fv_row h (q := 56) (fun _ => rfl), fv_row h (q := 59) (fun _ => rfl), fv_row h (q := 51) (fun _ => rfl), h.1 50 17 rfl, h.1 50 7 rfl]
end FV
/-- whom bell a shows: bits -/
def s_n (M : I_M) (a n : Nat) : Nat := i_it (fun b s => if a ≠ b ∧ s_v M a b ≠ 0 then s ||| 2 ^ b else s) n 0
def s_w (M : I_M) (a : Nat) : Nat := s_n M a (M.1 50 8).toInt.toNat
theorem s_lt {M : I_M} {a : Nat} : ∀ n, s_n M a n < 2 ^ n := by
  intro n
  induction n with
  | zero => exact (show (0 : Nat) < 2 ^ 0 by decide)
  | succ n ih =>
    show (if a ≠ n ∧ s_v M a n ≠ 0 then s_n M a n ||| 2 ^ n else s_n M a n) < 2 ^ (n + 1)
    have h1 : s_n M a n < 2 ^ (n + 1) := by rw [Nat.pow_succ]; omega
    split
    · exact n_lt h1 (Nat.pow_lt_pow_right (by omega) (by omega))
    · exact h1
theorem sw_fv {M M' : I_M} (h : fv M M') {a : Nat} : s_w M' a = s_w M a := by
  unfold s_w s_n
  rw [h.1 50 8 rfl]
  refine it_congr _ (fun k _ s => ?_)
  rw [sv_fv h]
theorem p2_64 {n x : Nat} (hn : n ≤ 6) (h : x < 2 ^ n) : x < 64 := by
  have := Nat.pow_le_pow_right (n := 2) (by omega) hn
  have e : (2 : Nat) ^ 6 = 64 := by decide
  omega
section LNK
variable {M : I_M} {nb : Nat}
theorem shown_r (h : INV L_law M) (hn : (M.1 50 8).toInt = nb) {a : Nat} (ha : a < nb) {M' : I_M} (hf : fv M M') : T (r_shownBy (Int32.ofNat a) M') (fun r => r.1 = Int32.ofNat (s_w M a) ∧ fh M' r.2) := by
  have h6 : nb ≤ 6 := by have := h.2.2.1.2.2.1; omega
  have ea : (Int32.ofNat a).toInt = a := a_on (by omega)
  unfold r_shownBy
  refine T_for (σ := Int32 × I_M) (N := nb) (a := 0) (f := fun m i s => r_shownBy_L4 (Int32.ofNat a) m s.1 i s.2) (s := (0, M')) (fun k s => s.1 = Int32.ofNat (s_n M a k) ∧ fh M' s.2) (by omega) ?_ ?_ (by unfold i_F; omega) (by omega) rfl ⟨rfl, fh_refl⟩
  · intro m k i s h1 h2 h3 h4 h5
    obtain ⟨u, N⟩ := s
    obtain ⟨e1, e2⟩ := h4
    dsimp only at e1 e2 ⊢
    have fN := fv_trans hf (fv_fh e2)
    have e8 := fN.1 50 8 rfl
    have ei : i = Int32.ofNat k := of_k h1
    have hs : s_n M a (k + 1) = if a ≠ k ∧ s_v M a k ≠ 0 then s_n M a k ||| 2 ^ k else s_n M a k := rfl
    have hlt := p2_64 (by omega) (s_lt (M := M) (a := a) k)
    unfold r_shownBy_L4
    rw [e8, if_pos (by rw [a_lt]; omega)]
    refine T_bind (T_mono (shows_r (fv_inv h fN) (by omega) (by rw [e8]; omega) (by omega) (by rw [e8]; omega)) (fun r hr => ?_))
    rw [hr.1, a_k ea, a_k h1, sv_fv fN]
    by_cases q : a ≠ k ∧ s_v M a k ≠ 0
    · rw [bo_p ⟨by rw [ei]; exact fun e => q.1 ((on_eq (by omega) (by omega)).mp e), q.2⟩, if_neg (by decide)]
      refine h5 (_, r.2) ⟨?_, fh_trans e2 hr.2⟩
      rw [hs, if_pos q]
      dsimp only
      rw [e1, ei, n_sh k (by omega), n_or _ hlt _ (p2_64 (n := k + 1) (by omega) (Nat.pow_lt_pow_right (by omega) (by omega)))]
    · rw [bo_n (fun hx => q ⟨fun e => hx.1 (by rw [ei, e]), hx.2⟩), if_pos rfl]
      refine h5 (_, r.2) ⟨?_, fh_trans e2 hr.2⟩
      rw [hs, if_neg q]
      dsimp only
      rw [Int32.or_zero]
      exact e1
  · intro m i s h1 h2
    obtain ⟨u, N⟩ := s
    obtain ⟨e1, e2⟩ := h2
    dsimp only at e1 e2 ⊢
    have e8 := (fv_trans hf (fv_fh e2)).1 50 8 rfl
    unfold r_shownBy_L4
    rw [e8, if_neg (by rw [a_lt]; omega)]
    refine T_some ⟨?_, e2⟩
    rw [e1]
    unfold s_w
    rw [show (M.1 50 8).toInt.toNat = nb by omega]
/-- the class has looked at all -/
theorem look_b (h : INV L_law M) (hn : (M.1 50 8).toInt = nb) : T (b_Links_lookAtAll M) (fun M' => fv M M' ∧ ∀ a, a < nb → M'.1 29 a = Int32.ofNat (s_w M a)) := by
  have h6 : nb ≤ 6 := by have := h.2.2.1.2.2.1; omega
  have g1 : M.1 13 6 = M.1 50 8 := h.2.2.1.1
  unfold b_Links_lookAtAll
  refine T_for (N := nb) (a := 0) (f := b_Links_lookAtAll_L2) (fun k M' => fv M M' ∧ ∀ a, a < k → M'.1 29 a = Int32.ofNat (s_w M a)) (by omega) ?_ ?_ (by unfold i_F; omega) (by omega) rfl ⟨fv_refl, fun a ha => absurd ha (by omega)⟩
  · intro m a i M1 h1 h2 h3 h4 h5
    obtain ⟨f1, w1⟩ := h4
    have ei : i = Int32.ofNat a := of_k h1
    unfold b_Links_lookAtAll_L2
    rw [f1.1 13 6 rfl, g1, if_pos (by rw [a_lt]; omega), g_ok (by omega) (by omega), a_k h1]
    refine T_for (N := nb) (a := 0) (f := b_Links_lookAtAll_L22 i _) (fun k M' => fv M M' ∧ (∀ x, x < a → M'.1 29 x = Int32.ofNat (s_w M x)) ∧ M'.1 29 a = Int32.ofNat (s_n M a k)) (by omega) ?_ ?_ (by unfold i_F; omega) (by omega) rfl ⟨fv_wI f1 rfl, fun x hx => ?_, ?_⟩
    · intro m' k j N g1' g2 g3 g4 g5
      obtain ⟨f2, w2, w3⟩ := g4
      have ej : j = Int32.ofNat k := of_k g1'
      have hs : s_n M a (k + 1) = if a ≠ k ∧ s_v M a k ≠ 0 then s_n M a k ||| 2 ^ k else s_n M a k := rfl
      have hlt := p2_64 (by omega) (s_lt (M := M) (a := a) k)
      have e8 := f2.1 50 8 rfl
      unfold b_Links_lookAtAll_L22
      rw [f2.1 13 6 rfl, g1, if_pos (by rw [a_lt]; omega)]
      by_cases q1 : i = j
      · rw [if_pos q1]
        have : a = k := (on_eq (by omega) (by omega)).mp (ei.symm.trans (q1.trans ej))
        refine g5 _ ⟨f2, w2, ?_⟩
        rw [hs, if_neg (fun hx => hx.1 this)]
        exact w3
      · rw [if_neg q1]
        have hak : a ≠ k := fun e => q1 (by rw [ei, ej, e])
        refine T_bind (T_mono (shows_b (fv_inv h f2) (by omega) (by rw [e8]; omega) (by omega) (by rw [e8]; omega)) (fun r hr => ?_))
        rw [hr.1, a_k h1, a_k g1', sv_fv f2]
        have f3 := fv_trans f2 (fv_fh hr.2)
        by_cases q : s_v M a k ≠ 0
        · rw [bo_p q, if_neg (by decide), g_ok (by omega) (by omega)]
          refine g5 _ ⟨fv_wI f3 rfl, fun x hx => ?_, ?_⟩
          · rw [m_wI, if_neg (by omega), hr.2.2 29 x rfl]
            exact w2 x hx
          · rw [m_wI, if_pos ⟨rfl, rfl⟩, hr.2.2 29 a rfl, w3, hs, if_pos ⟨hak, q⟩, ej, n_sh k (by omega), n_or _ hlt _ (p2_64 (n := k + 1) (by omega) (Nat.pow_lt_pow_right (by omega) (by omega)))]
        · rw [bo_n q, if_pos rfl]
          refine g5 _ ⟨f3, fun x hx => ?_, ?_⟩
          · rw [hr.2.2 29 x rfl]
            exact w2 x hx
          · rw [hr.2.2 29 a rfl, w3, hs, if_neg (fun hx => q hx.2)]
    · intro m' j N g1' g2
      obtain ⟨f2, w2, w3⟩ := g2
      unfold b_Links_lookAtAll_L22
      rw [f2.1 13 6 rfl, g1, if_neg (by rw [a_lt]; omega)]
      refine h5 _ ⟨f2, fun x hx => ?_⟩
      by_cases q : x = a
      · rw [q, w3]
        unfold s_w
        rw [show (M.1 50 8).toInt.toNat = nb by omega]
      · exact w2 x (by omega)
    · rw [m_wI, if_neg (by omega)]
      exact w1 x hx
    · rw [m_wI, if_pos ⟨rfl, rfl⟩]
      rfl
  · intro m i M' h1 h2
    obtain ⟨f1, w1⟩ := h2
    unfold b_Links_lookAtAll_L2
    rw [f1.1 13 6 rfl, g1, if_neg (by rw [a_lt]; omega)]
    exact T_some ⟨f1, w1⟩
end LNK
