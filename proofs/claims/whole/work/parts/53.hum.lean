/-! ===== part 53: loudness in both ===== -/
/-- what working out a hum stands on -/
def HU (M : I_M) : Prop := N_land (M.1 1 0) (M.1 1 1) (M.1 50 6) (M.1 50 7) (M.1 2) (M.1 3) ∧ N_may (M.1 4) (M.1 5) (M.1 16) (M.1 1 6) (M.1 1 7) (M.1 1 8) (M.1 1 9) (M.1 51) ∧ L_law (M.1 9 1) (M.1 50 17) (M.1 9 3) (M.1 10) (M.1 59)
theorem HU_inv {M : I_M} (h : INV L_law M) : HU M := ⟨h.1, h.2.1, h.2.2.2.2.2.1⟩
theorem HU_fh {M M' : I_M} (h : HU M) (hf : fh M M') : HU M' := by
  unfold HU at *
  rw [fh_row hf (q := 1) (fun _ => rfl), fh_row hf (q := 2) (fun _ => rfl), fh_row hf (q := 3) (fun _ => rfl), fh_row hf (q := 4) (fun _ => rfl), fh_row hf (q := 5) (fun _ => rfl), fh_row hf (q := 16) (fun _ => rfl), fh_row hf (q := 51) (fun _ => rfl), fh_row hf (q := 10) (fun _ => rfl), fh_row hf (q := 59) (fun _ => rfl), hf.2 50 6 rfl, hf.2 50 7 rfl, hf.2 50 17 rfl, hf.2 9 1 rfl, hf.2 9 3 rfl]
  exact h
theorem X_fh {M M1 M2 : I_M} {st : List Int32} (h : x_X M1 st M2) (hf : fh M M1) : fh M M2 := by
  obtain ⟨r, rfl, _⟩ := h
  refine ⟨hf.1, fun q k hq => ?_⟩
  unfold i_rw upd
  by_cases h9 : q = 9
  · subst h9
    by_cases h6 : k = 6
    · subst h6
      exact absurd hq (by decide)
    · simp only [if_true, h6, if_false]
      exact hf.2 9 k hq
  by_cases h12 : q = 12
  · subst h12
    exact absurd hq (by simp [h_sc])
  simp only [h9, h12, if_false]
  exact hf.2 q k hq
theorem cl_e {x : Int32} : i_max 0 (i_min 99 x) = h_cl x := by
  have l99 : (99 : Int32).toInt = 99 := rfl
  rw [a_eq, max_e, min_e, Int32.toInt_zero, l99]
  unfold h_cl
  by_cases h1 : x.toInt < 0
  · rw [if_pos h1, Int32.toInt_zero]
    omega
  · rw [if_neg h1]
    by_cases h2 : 99 < x.toInt
    · rw [if_pos h2, l99]
      omega
    · rw [if_neg h2]
      omega
section LOUD
variable {M : I_M} {d g q z s cell ls : Int32}
theorem byText_e {y : List Int32 × List i_Li} (hT : x_TG y.1 y.2) (hc : (M.1 9 3).toInt = y.1.length) (h128 : y.1.length ≤ 128) (hcode : ∀ j, j < y.1.length → M.1 10 j = y.1.getD j 0) : T (b_Law_byText d g q z s M) (fun r => r.1 = p_val y.2 (h_env d g q z s (M.1 1 6) (M.1 1 7)) ∧ fh M r.2) := by
  unfold b_Law_byText
  obtain ⟨M1, hM1⟩ : ∃ M1, M1 = i_wI (i_wI (i_wI (i_wI (i_wI (i_wI (i_wI M 11 0 d) 11 1 g) 11 2 q) 11 3 z) 11 4 s) 11 5 (M.1 1 6)) 11 6 (M.1 1 7) := ⟨_, rfl⟩
  have f1 : fh M M1 := by
    rw [hM1]
    exact fh_wI (fh_wI (fh_wI (fh_wI (fh_wI (fh_wI (fh_wI fh_refl rfl) rfl) rfl) rfl) rfl) rfl) rfl
  have x0 : x_X M1 [] (i_wI M1 9 6 0) := ⟨M1.1 12, by rw [rw_w, rw_id]; rfl, by simp⟩
  have ag : x_ag (M1.1 11) (h_env d g q z s (M.1 1 6) (M.1 1 7)) := by
    intro k hk
    rw [hM1]
    have : k = 0 ∨ k = 1 ∨ k = 2 ∨ k = 3 ∨ k = 4 ∨ k = 5 ∨ k = 6 := by omega
    rcases this with rfl | rfl | rfl | rfl | rfl | rfl | rfl <;> rfl
  have ev := hT.1 _ _ ag
  obtain ⟨F, hF⟩ : ∃ F, i_F = F + 1 + y.1.length := ⟨i_F - 1 - y.1.length, by unfold i_F; omega⟩
  rw [hF, ← hM1]
  refine hT.2 M1 (i_wI M1 9 6 0) y.1.length 0 F _ _ (by rw [f1.2 9 3 rfl]; exact hc) h128 (by omega) (fun j hj => ?_) x0 (fun M2 hM2 => ?_) (fun hz M2 hM2 => ?_)
  · rw [Nat.zero_add, f1.2 10 j rfl]
    exact hcode j hj
  · exact T_bind (T_mono (X_pop (st := []) hM2 (by simp)) (fun a ha => T_some ⟨by rw [ha.1, ev], X_fh ha.2 f1⟩))
  · exact ⟨by rw [← ev, hz], X_fh hM2 f1⟩
theorem text_TG {th : Int32} {text : Nat → Int32} {y : List Int32 × List i_Li} (h : p_text (p_ah text th.toInt.toNat) th.toInt.toNat = Sum.inr y) : x_TG y.1 y.2 := by
  have := TG_text (ah := p_ah text th.toInt.toNat) (n := th.toInt.toNat)
  rw [h] at this
  exact this
theorem raw_inr {th w f : Int32} {text : Nat → Int32} {y : List Int32 × List i_Li} (h : p_text (p_ah text th.toInt.toNat) th.toInt.toNat = Sum.inr y) (h1 : 0 ≤ th.toInt) : h_raw th text w f d g q z s = p_val y.2 (h_env d g q z s w f) := by
  unfold h_raw
  rw [if_neg (by omega), h]
theorem loud_b (h : HU M) (ha : 0 ≤ cell.toInt) (ha2 : cell.toInt < i_ce (M.1 50 6) (M.1 50 7)) (hb : 0 ≤ ls.toInt) (hb2 : ls.toInt < i_ce (M.1 50 6) (M.1 50 7)) : T (b_Law_loudness d q z cell ls M) (fun r => r.1 = h_loud (M.1 50 17) (M.1 59) (M.1 51 56) (M.1 51 57) d (h_far (M.1 50 7) cell ls) q z (M.1 51 (Int32.toNatClampNeg cell)) ∧ fh M r.2) := by
  obtain ⟨hLa, hMa, hLw⟩ := h
  have hc := (N_land_ce hLa).2.1
  have e6 := hMa.2.2.2.1
  have e7 := hMa.2.2.2.2.2.2.1
  have es := (hMa.1 (Int32.toNatClampNeg cell) (by rw [a_n]; omega)).1
  unfold b_Law_loudness
  rw [far_b hLa ha ha2 hb hb2]
  dsimp only [Option.bind_some]
  refine T_g ha (by omega) ?_
  rcases hLw with ⟨h1, h2⟩ | ⟨h1, h2, h3, y, hy, h4, h5, h6⟩
  · rw [if_pos (by rw [a_eq, Int32.toInt_zero]; exact h1)]
    refine T_let (T_some ⟨?_, fh_refl⟩)
    show i_max 0 (i_min 99 _) = _
    rw [cl_e, es, e6, e7]
    unfold h_loud h_raw
    rw [if_pos h2]
  · rw [if_neg (by rw [a_eq, Int32.toInt_zero]; omega)]
    refine T_bind (T_mono (byText_e (text_TG hy) h4 h5 h6) (fun a ha => T_some ⟨?_, ha.2⟩))
    show i_max 0 (i_min 99 a.1) = _
    rw [cl_e, ha.1, es, e6, e7]
    unfold h_loud
    rw [raw_inr hy h2]
theorem b172_e {x : Int32} {M : I_M} : r_humOf_B172 x M = some (h_cl x, M) := by
  unfold r_humOf_B172 h_cl
  have l99 : (99 : Int32).toInt = 99 := rfl
  by_cases h1 : x.toInt < 0
  · rw [if_pos h1, if_pos (by rw [a_lt, Int32.toInt_zero]; exact h1)]
  · rw [if_neg h1, if_neg (by rw [a_lt, Int32.toInt_zero]; exact h1)]
    by_cases h2 : 99 < x.toInt
    · rw [if_pos h2, if_pos (by rw [a_lt]; omega)]
    · rw [if_neg h2, if_neg (by rw [a_lt]; omega)]
theorem qS_fh {M M1 : I_M} {l1 l2 : Int32} {n p o : Nat} (hf : fh M M1) : fh M (q_S (q_M M1 l1 l2) p o) := by
  refine ⟨hf.1, fun q k hq => ?_⟩
  unfold q_S q_M i_rw upd
  by_cases h5 : q = 50
  · subst h5
    by_cases c1 : k = 18
    · subst c1
      exact absurd hq (by decide)
    by_cases c2 : k = 19
    · subst c2
      exact absurd hq (by decide)
    by_cases c3 : k = 20
    · subst c3
      exact absurd hq (by decide)
    by_cases c4 : k = 21
    · subst c4
      exact absurd hq (by decide)
    by_cases c5 : k = 22
    · subst c5
      exact absurd hq (by decide)
    simp only [if_true, c1, c2, c3, c4, c5, if_false]
    exact hf.2 50 k hq
  · simp only [h5, if_false]
    exact hf.2 q k hq
theorem hum_r35 (h : HU M) (ha : 0 ≤ cell.toInt) (ha2 : cell.toInt < i_ce (M.1 50 6) (M.1 50 7)) : T (r_humOf_B35 cell z d g q M) (fun r => r.1 = h_loud (M.1 50 17) (M.1 59) (M.1 51 56) (M.1 51 57) d g q z (M.1 51 (Int32.toNatClampNeg cell)) ∧ fh M r.2) := by
  obtain ⟨hLa, hMa, hLw⟩ := h
  have hc := (N_land_ce hLa).2.1
  unfold r_humOf_B35
  refine T_g ha (by omega) (T_let ?_)
  rcases hLw with ⟨h1, h2⟩ | ⟨h1, h2, h3, y, hy, h4, h5, h6⟩
  · rw [if_pos (by rw [a_lt, Int32.toInt_zero]; omega), b172_e]
    refine T_some ⟨?_, fh_refl⟩
    unfold h_loud h_raw
    rw [if_pos h2]
  · rw [if_neg (by rw [a_lt, Int32.toInt_zero]; omega)]
    obtain ⟨M1, hM1⟩ : ∃ M1, M1 = i_wI (i_wI (i_wI (i_wI (i_wI (i_wI (i_wI M 60 0 d) 60 1 g) 60 2 q) 60 3 z) 60 4 (M.1 51 (Int32.toNatClampNeg cell))) 60 5 (M.1 51 56)) 60 6 (M.1 51 57) := ⟨_, rfl⟩
    have f1 : fh M M1 := by
      rw [hM1]
      exact fh_wI (fh_wI (fh_wI (fh_wI (fh_wI (fh_wI (fh_wI fh_refl rfl) rfl) rfl) rfl) rfl) rfl) rfl
    have ag : x_ag (M1.1 60) (h_env d g q z (M.1 51 (Int32.toNatClampNeg cell)) (M.1 51 56) (M.1 51 57)) := by
      intro k hk
      rw [hM1]
      have : k = 0 ∨ k = 1 ∨ k = 2 ∨ k = 3 ∨ k = 4 ∨ k = 5 ∨ k = 6 := by omega
      rcases this with rfl | rfl | rfl | rfl | rfl | rfl | rfl <;> rfl
    have ev := (text_TG hy).1 _ _ ag
    rw [← hM1]
    have hB : q_B (q_M M1 0 (M.1 50 17)) (M.1 50 17).toInt.toNat (M.1 59) := by
      refine ⟨?_, by omega, Or.inr ⟨rfl, ?_⟩⟩
      · show (M.1 50 17).toInt = _
        omega
      · show M.1 59 = M1.1 59
        exact (fh_row f1 (fun _ => rfl)).symm
    have hw := workOut_e (M := M1) hB
    rw [hy] at hw
    refine T_bind (T_mono hw (fun a ha => ?_))
    have ha : a = (p_val y.2 (M1.1 60), q_S (q_M M1 0 (M.1 50 17)) (M.1 50 17).toInt.toNat 0) := ha
    subst ha
    dsimp only
    rw [b172_e]
    refine T_some ⟨?_, qS_fh (n := 0) f1⟩
    show h_cl (p_val y.2 (M1.1 60)) = _
    rw [ev]
    unfold h_loud
    rw [raw_inr hy h2]
theorem hum_r {bn note st : Int32} (h : HU M) (ha : 0 ≤ cell.toInt) (ha2 : cell.toInt < i_ce (M.1 50 6) (M.1 50 7)) (hb : 0 ≤ ls.toInt) (hb2 : ls.toInt < i_ce (M.1 50 6) (M.1 50 7)) (hs : 0 ≤ st.toInt) (hs2 : st.toInt < i_ce (M.1 50 6) (M.1 50 7)) (hn : 0 ≤ bn.toInt) (hn2 : bn.toInt ≤ 9) (hm : 0 ≤ note.toInt) (hm2 : note.toInt ≤ 9) : T (r_humOf cell bn z note st ls M) (fun r => r.1 = h_loud (M.1 50 17) (M.1 59) (M.1 51 56) (M.1 51 57) (h_far (M.1 50 7) st cell) (h_far (M.1 50 7) cell ls) (i_abs (note - bn)) z (M.1 51 (Int32.toNatClampNeg cell)) ∧ fh M r.2) := by
  unfold r_humOf
  rw [far_r h.1 hs hs2 ha ha2]
  dsimp only [Option.bind_some]
  rw [far_r h.1 ha ha2 hb hb2]
  dsimp only [Option.bind_some]
  have d1 : (note - bn).toInt = note.toInt - bn.toInt := by rw [a_sub] <;> omega
  have d2 : (bn - note).toInt = bn.toInt - note.toInt := by rw [a_sub] <;> omega
  have ab := abs_e (x := note - bn) (by omega)
  by_cases q : bn < note
  · rw [if_pos q]
    rw [a_lt] at q
    have e : i_abs (note - bn) = note - bn := by rw [a_eq, ab]; omega
    rw [e]
    exact hum_r35 h ha ha2
  · rw [if_neg q]
    rw [a_lt] at q
    have e : i_abs (note - bn) = bn - note := by rw [a_eq, ab]; omega
    rw [e]
    exact hum_r35 h ha ha2
end LOUD
