/-! ===== part 56: count, image, back, dug, judge ===== -/
def i_bc (x : Int32) : Int32 := match j_bitCount x (fun _ _ => 0, fun _ _ => 0) with
  | some r => r.1
  | none => 0
theorem bc_j {x : Int32} {M : I_M} : j_bitCount x M = some (i_bc x, M) := rfl
def i_rbits : Nat → Int32 → Int32 → Option Int32
  | 0, _, _ => none
  | n + 1, a, l => if l = 0 then some a else i_rbits n (a + 1) (l &&& (l - 1))
theorem rbits_e {M : I_M} : ∀ (n : Nat) (a l : Int32), r_bitsOf_L4 n a l M = (i_rbits n a l).map (fun v => (v, M)) := by
  intro n
  induction n with
  | zero => exact fun _ _ => rfl
  | succ n ih =>
    intro a l
    unfold r_bitsOf_L4 i_rbits
    by_cases h : l = 0
    · rw [if_pos h, if_pos h]
      rfl
    · rw [if_neg h, if_neg h]
      exact ih _ _
theorem bc_dec : ∀ k, k < 1024 → i_rbits 12 0 (Int32.ofNat k) = some (i_bc (Int32.ofNat k)) ∧ 0 ≤ (i_bc (Int32.ofNat k)).toInt ∧ (i_bc (Int32.ofNat k)).toInt ≤ 10 := by decide +kernel
theorem rbits_mono : ∀ (n m : Nat) (a l v : Int32), i_rbits n a l = some v → i_rbits (n + m) a l = some v := by
  intro n
  induction n with
  | zero => exact fun m a l v h => by cases h
  | succ n ih =>
    intro m a l v h
    rw [show n + 1 + m = (n + m) + 1 by omega]
    unfold i_rbits at h ⊢
    by_cases q : l = 0
    · rw [if_pos q] at h ⊢
      exact h
    · rw [if_neg q] at h ⊢
      exact ih m _ _ _ h
theorem bc_r {x : Int32} {M : I_M} (h : 0 ≤ x.toInt) (h2 : x.toInt < 1024) : r_bitsOf x M = some (i_bc x, M) ∧ 0 ≤ (i_bc x).toInt ∧ (i_bc x).toInt ≤ 10 := by
  have hx : x = Int32.ofNat x.toInt.toNat := a_eq.mpr (by rw [a_on (by omega)]; omega)
  have d := bc_dec x.toInt.toNat (by omega)
  rw [← hx] at d
  refine ⟨?_, d.2⟩
  unfold r_bitsOf
  rw [rbits_e, show i_F = 12 + 4988 from rfl, rbits_mono _ _ _ _ _ d.1]
  rfl
theorem or_dec : ∀ f, f < 64 → ∀ b, b < 6 → 0 ≤ (Int32.ofNat f ||| ((1 : Int32) <<< (Int32.ofNat b &&& 31))).toInt ∧ (Int32.ofNat f ||| ((1 : Int32) <<< (Int32.ofNat b &&& 31))).toInt < 64 := by decide +kernel
section OPS
variable {a b c : Int32}
variable {L : Int32 → Int32 → Int32 → (Nat → Int32) → (Nat → Int32) → Prop}
theorem op_count : OP L (b_count a) (r_count a) := by
  intro M h
  have hi := h
  obtain ⟨hLa, hMa, hBe, hFo, hTa, hLw, hHe, hIm, hCh, hVi, hBo, hRa, hSh⟩ := h
  have ⟨hc, hc2, hc3⟩ := N_land_ce hLa
  obtain ⟨f1, f2, f3, f4⟩ := hFo
  have g := bc_r (M := M) f3 (by omega)
  unfold b_count r_count
  by_cases h0 : a = 0
  · rw [if_pos h0]
    refine T_some ?_
    dsimp only
    rw [if_pos h0]
    exact T_some ⟨hBe.1.symm, hi⟩
  rw [if_neg h0]
  by_cases h1 : a = 1
  · rw [if_pos h1, e_cells]
    refine T_some ?_
    dsimp only
    rw [if_neg h0, if_pos h1, e_rcells]
    refine T_some ⟨?_, hi⟩
    show M.1 50 6 * M.1 50 7 = M.1 1 0 * M.1 1 1
    rw [hLa.1, hLa.2.1]
  rw [if_neg h1]
  by_cases h2 : a = 2
  · rw [if_pos h2]
    refine T_some ?_
    dsimp only
    rw [if_neg h0, if_neg h1, if_pos h2]
    exact T_some ⟨hHe.1.symm, hi⟩
  rw [if_neg h2]
  by_cases h3 : a = 3
  · rw [if_pos h3, bc_j]
    refine T_some ?_
    dsimp only
    rw [if_neg h0, if_neg h1, if_neg h2, if_pos h3, g.1]
    refine T_some ⟨?_, hi⟩
    show i_bc (M.1 50 12) = i_bc (M.1 13 7)
    rw [f1]
  rw [if_neg h3]
  by_cases h4 : a = 4
  · rw [if_pos h4]
    refine T_some ?_
    dsimp only
    rw [if_neg h0, if_neg h1, if_neg h2, if_neg h3, if_pos h4]
    exact T_some ⟨hTa.1.symm, hi⟩
  rw [if_neg h4]
  by_cases h5 : a = 5
  · rw [if_pos h5]
    refine T_some ?_
    dsimp only
    rw [if_neg h0, if_neg h1, if_neg h2, if_neg h3, if_neg h4, if_pos h5]
    exact T_some ⟨hCh.1.symm, hi⟩
  rw [if_neg h5]
  by_cases h6 : a = 6
  · rw [if_pos h6]
    refine T_some ?_
    dsimp only
    rw [if_neg h0, if_neg h1, if_neg h2, if_neg h3, if_neg h4, if_neg h5, if_pos h6]
    exact T_some ⟨hBo.1.symm, hi⟩
  rw [if_neg h6]
  by_cases h7 : a = 7
  · rw [if_pos h7]
    refine T_some ?_
    dsimp only
    rw [if_neg h0, if_neg h1, if_neg h2, if_neg h3, if_neg h4, if_neg h5, if_neg h6, if_pos h7]
    exact T_some ⟨hRa.1.symm, hi⟩
  rw [if_neg h7]
  refine T_some ?_
  dsimp only
  rw [if_neg h0, if_neg h1, if_neg h2, if_neg h3, if_neg h4, if_neg h5, if_neg h6, if_neg h7]
  exact T_some ⟨rfl, hi⟩
/-- the first n of a row copied over another -/
theorem cp_e {M : I_M} {s d : Nat} {m : Int32} {n : Nat} (h : m.toInt = n) : i_cI M s d 0 0 m = i_rw M d (fun j => if j < n then M.1 s j else M.1 d j) := by
  refine m_ext (fun q k => ?_) rfl
  rw [m_cI]
  unfold i_rw
  have l0 : (0 : Int32).toInt.toNat = 0 := rfl
  rw [l0, show m.toInt.toNat = n by omega]
  by_cases c : q = d
  · subst c
    by_cases c2 : k < n
    · simp [c2]
    · simp [c2]
  · simp [c]
theorem img_r {M : I_M} {P : Int32 × I_M → Prop} (hk : P (M.1 50 24, i_rw M 67 (fun j => if j < 30 then M.1 61 j else M.1 67 j))) : T (r_image_L31 i_F 0 M) P := by
  refine T_for (N := 30) (a := 0) (f := r_image_L31) (fun k M' => M' = i_rw M 67 (fun j => if j < k then M.1 61 j else M.1 67 j)) (by omega) ?_ ?_ (by unfold i_F; omega) (by omega) rfl ?_
  · intro m k i M' h1 h2 h3 h4 h5
    subst h4
    have l30 : (30 : Int32).toInt = 30 := rfl
    unfold r_image_L31
    rw [if_pos (by rw [a_lt]; omega)]
    refine T_g (by omega) (by omega) (h5 _ ?_)
    rw [rw_w, rw_rw, rw_s, rw_n (by decide), a_k h1]
    congr 1
    funext j
    unfold upd
    dsimp only
    by_cases q : j = k
    · rw [if_pos q, if_pos (by omega), q]
    · rw [if_neg q]
      by_cases q2 : j < k
      · rw [if_pos q2, if_pos (by omega)]
      · rw [if_neg q2, if_neg (by omega)]
  · intro m i M' h1 h2
    subst h2
    have l30 : (30 : Int32).toInt = 30 := rfl
    unfold r_image_L31
    rw [if_neg (by rw [a_lt]; omega)]
    exact T_some hk
  · rw [show (fun j => if j < 0 then M.1 61 j else M.1 67 j) = M.1 67 from funext fun j => if_neg (by omega), rw_id]
theorem back_r {M : I_M} {P : Int32 × I_M → Prop} (hk : P (M.1 50 24, i_rw M 61 (fun j => if j < 30 then M.1 67 j else M.1 61 j))) : T (r_back_L36 i_F 0 M) P := by
  refine T_for (N := 30) (a := 0) (f := r_back_L36) (fun k M' => M' = i_rw M 61 (fun j => if j < k then M.1 67 j else M.1 61 j)) (by omega) ?_ ?_ (by unfold i_F; omega) (by omega) rfl ?_
  · intro m k i M' h1 h2 h3 h4 h5
    subst h4
    have l30 : (30 : Int32).toInt = 30 := rfl
    unfold r_back_L36
    rw [if_pos (by rw [a_lt]; omega)]
    refine T_g (by omega) (by omega) (h5 _ ?_)
    rw [rw_w, rw_rw, rw_s, rw_n (by decide), a_k h1]
    congr 1
    funext j
    unfold upd
    dsimp only
    by_cases q : j = k
    · rw [if_pos q, if_pos (by omega), q]
    · rw [if_neg q]
      by_cases q2 : j < k
      · rw [if_pos q2, if_pos (by omega)]
      · rw [if_neg q2, if_neg (by omega)]
  · intro m i M' h1 h2
    subst h2
    have l30 : (30 : Int32).toInt = 30 := rfl
    unfold r_back_L36
    rw [if_neg (by rw [a_lt]; omega)]
    exact T_some hk
  · rw [show (fun j => if j < 0 then M.1 67 j else M.1 61 j) = M.1 61 from funext fun j => if_neg (by omega), rw_id]
theorem hr_cp {n : Int32} {s c v s' c' v' t t' : Nat → Int32} {ce : Int} {m : Nat} (h : N_hr n n s c v t ce) (hm : n.toInt = m) : N_hr n n (fun j => if j < m then s j else s' j) (fun j => if j < m then c j else c' j) (fun j => if j < m then v j else v' j) (fun j => if j < 30 then t j else t' j) ce := by
  obtain ⟨_, h1, h2, h3⟩ := h
  refine ⟨rfl, h1, h2, fun k hk => ?_⟩
  dsimp only
  rw [if_pos (by omega), if_pos (by omega), if_pos (by omega), if_pos (by omega), if_pos (by omega), if_pos (by omega)]
  exact h3 k hk
theorem op_image : OP L b_image r_image := by
  intro M h
  have hi := h
  obtain ⟨hLa, hMa, hBe, hFo, hTa, hLw, hHe, hIm, hCh, hVi, hBo, hRa, hSh⟩ := h
  obtain ⟨h1, h2, h3, h4⟩ := hHe
  obtain ⟨n, hn⟩ : ∃ n : Nat, (M.1 50 24).toInt = n := ⟨(M.1 50 24).toInt.toNat, by omega⟩
  have l0 : (0 : Int32).toInt = 0 := rfl
  unfold b_image b_Hearings_copyFrom_46_18 r_image
  rw [h1]
  rw [cg_ok (by decide) (by decide) h2 (by omega) (by omega), cg_ok (by decide) (by decide) h2 (by omega) (by omega), cg_ok (by decide) (by decide) h2 (by omega) (by omega)]
  rw [cp_e hn, cp_e hn, cp_e hn]
  refine T_bind (T_some (T_some ?_))
  refine img_r ?_
  have hH : N_hr (M.1 50 24) (M.1 50 24) (M.1 19) (M.1 20) (M.1 21) (M.1 61) (i_ce (M.1 50 6) (M.1 50 7)) := ⟨rfl, h2, h3, h4⟩
  refine ⟨h1.symm, hLa, hMa, hBe, hFo, hTa, hLw, ⟨h1, h2, h3, h4⟩, ?_, hCh, hVi, hBo, hRa, hSh⟩
  exact ⟨rfl, Or.inr rfl, fun _ => ⟨hr_cp hH hn, hFo⟩⟩
theorem op_back : OP L b_back r_back := by
  intro M h
  have hi := h
  obtain ⟨hLa, hMa, hBe, hFo, hTa, hLw, hHe, hIm, hCh, hVi, hBo, hRa, hSh⟩ := h
  obtain ⟨h1, h2, h3⟩ := hIm
  have l0 : (0 : Int32).toInt = 0 := rfl
  unfold b_back b_Hearings_copyFrom_18_46 r_back
  rw [h1]
  by_cases c0 : M.1 50 41 = 0
  · rw [if_pos c0]
    refine T_some ?_
    dsimp only
    rw [if_pos c0]
    exact T_some ⟨rfl, hi⟩
  · rw [if_neg c0]
    have c1 : M.1 50 41 = 1 := by rcases h2 with q | q; exact absurd q c0; exact q
    obtain ⟨hH, hF⟩ := h3 c1
    obtain ⟨g1, g2, g3, g4⟩ := hH
    obtain ⟨n, hn⟩ : ∃ n : Nat, (M.1 50 42).toInt = n := ⟨(M.1 50 42).toInt.toNat, by omega⟩
    rw [g1, cg_ok (by decide) (by decide) g2 (by omega) (by omega), cg_ok (by decide) (by decide) g2 (by omega) (by omega), cg_ok (by decide) (by decide) g2 (by omega) (by omega)]
    rw [cp_e hn, cp_e hn, cp_e hn]
    refine T_bind (T_some (T_some ?_))
    refine T_if (fun q => absurd q c0) (fun _ => ?_)
    refine back_r ?_
    have hH : N_hr (M.1 50 42) (M.1 50 42) (M.1 47) (M.1 48) (M.1 49) (M.1 67) (i_ce (M.1 50 6) (M.1 50 7)) := ⟨rfl, g2, g3, g4⟩
    refine ⟨rfl, hLa, hMa, hBe, hF, hTa, hLw, hr_cp hH hn, ?_, hCh, hVi, hBo, hRa, hSh⟩
    exact ⟨h1, Or.inr c1, fun _ => ⟨⟨g1, g2, g3, g4⟩, hF⟩⟩
end OPS
