/-! ===== part 89: the law's loop ===== -/
theorem op_step {α : Type} [DecidableEq α] {f g : I_M → Option (α × I_M)} {M : I_M} {h : I_M → Option (Int32 × I_M)} {P : Int32 × I_M → Prop} (ho : OP L_law f g) (hi : INV L_law M) (hs : ∀ M', INV L_law M' → T (h M') P) : T (Option.bind (f M) (fun q => Option.bind (g q.2) (fun q' => (if q.1 = q'.1 then h q'.2 else some ((0 : Int32), q'.2))))) P := by
  refine T_bind (T_mono (ho M hi) (fun r hr => T_bind (T_mono hr (fun s hs2 => ?_))))
  rw [if_pos hs2.1.symm]
  exact hs s.2 hs2.2
theorem op_stepL {f g : I_M → Option (Int64 × I_M)} {M : I_M} {h : I_M → Option (Int32 × I_M)} {P : Int32 × I_M → Prop} (ho : OP L_law f g) (hi : INV L_law M) (hs : ∀ M', INV L_law M' → T (h M') P) : T (Option.bind (f M) (fun q => Option.bind (g q.2) (fun q' => (if (lg_cmp q.1 q'.1) = (0 : Int32) then h q'.2 else some ((0 : Int32), q'.2))))) P := by
  refine T_bind (T_mono (ho M hi) (fun r hr => T_bind (T_mono hr (fun s hs2 => ?_))))
  rw [if_pos (by rw [hs2.1, a_leqc])]
  exact hs s.2 hs2.2
section LW
variable {X : Nat × (Nat → Int32)} {self : Int32 → I_M → Option (Int32 × I_M)} {l3 : Int32} {M : I_M} {P : Int32 × I_M → Prop}
def w_G (X : Nat × (Nat → Int32)) (l3 : Int32) : Prop := ∀ k : Int32, 0 ≤ k.toInt → k.toInt ≤ 5 → ∀ x : Option (Int32 × I_M), i_g (l3 + k) X.1 x = x
theorem W_land (hg : w_G X l3) (hi : INV L_law M) (hs : ∀ M', INV L_law M' → T (self (l3 + 6) M') P) : T (w_law_B212 X self l3 M) P := by
  unfold w_law_B212
  rw [hg 1 (by decide) (by decide)]
  exact op_step op_land hi hs
theorem W_bell (hg : w_G X l3) (hi : INV L_law M) (hs : ∀ M', INV L_law M' → T (self (l3 + 6) M') P) : T (w_law_B235 X self l3 M) P := by
  unfold w_law_B235
  rw [hg 1 (by decide) (by decide), hg 2 (by decide) (by decide)]
  exact op_step op_bell hi hs
theorem W_bells (hg : w_G X l3) (hi : INV L_law M) (hs : ∀ M', INV L_law M' → T (self (l3 + 6) M') P) : T (w_law_B268 X self l3 M) P := by
  unfold w_law_B268
  rw [hg 1 (by decide) (by decide), hg 2 (by decide) (by decide), hg 3 (by decide) (by decide)]
  exact op_step op_bells hi hs
theorem W_mend (hg : w_G X l3) (hi : INV L_law M) (hs : ∀ M', INV L_law M' → T (self (l3 + 6) M') P) : T (w_law_B311 X self l3 M) P := by
  unfold w_law_B311
  rw [hg 1 (by decide) (by decide), hg 2 (by decide) (by decide), hg 3 (by decide) (by decide)]
  exact op_step op_mend hi hs
theorem W_of (hg : w_G X l3) (hi : INV L_law M) (hs : ∀ M', INV L_law M' → T (self (l3 + 6) M') P) : T (w_law_B354 X self l3 M) P := by
  unfold w_law_B354
  rw [hg 1 (by decide) (by decide), hg 2 (by decide) (by decide)]
  exact op_step op_of hi hs
theorem W_feed (hg : w_G X l3) (hi : INV L_law M) (hs : ∀ M', INV L_law M' → T (self (l3 + 6) M') P) : T (w_law_B387 X self l3 M) P := by
  unfold w_law_B387
  rw [hg 1 (by decide) (by decide)]
  exact op_step op_feed hi hs
theorem W_law (hg : w_G X l3) (hi : INV L_law M) (hs : ∀ M', INV L_law M' → T (self (l3 + 6) M') P) : T (w_law_B410 X self l3 M) P := by
  unfold w_law_B410
  exact op_step op_law hi hs
theorem W_hum (hg : w_G X l3) (hi : INV L_law M) (hs : ∀ M', INV L_law M' → T (self (l3 + 6) M') P) : T (w_law_B423 X self l3 M) P := by
  unfold w_law_B423
  rw [hg 1 (by decide) (by decide), hg 2 (by decide) (by decide), hg 3 (by decide) (by decide)]
  exact op_step op_hum hi hs
theorem W_heard (hg : w_G X l3) (hi : INV L_law M) (hs : ∀ M', INV L_law M' → T (self (l3 + 6) M') P) : T (w_law_B466 X self l3 M) P := by
  unfold w_law_B466
  rw [hg 1 (by decide) (by decide), hg 2 (by decide) (by decide)]
  exact op_step op_heard hi hs
theorem W_hearing (hg : w_G X l3) (hi : INV L_law M) (hs : ∀ M', INV L_law M' → T (self (l3 + 6) M') P) : T (w_law_B499 X self l3 M) P := by
  unfold w_law_B499
  rw [hg 1 (by decide) (by decide), hg 2 (by decide) (by decide), hg 3 (by decide) (by decide)]
  exact op_step op_hearing hi hs
theorem W_forget (hg : w_G X l3) (hi : INV L_law M) (hs : ∀ M', INV L_law M' → T (self (l3 + 6) M') P) : T (w_law_B542 X self l3 M) P := by
  unfold w_law_B542
  exact op_step op_forget hi hs
theorem W_ways (hg : w_G X l3) (hi : INV L_law M) (hs : ∀ M', INV L_law M' → T (self (l3 + 6) M') P) : T (w_law_B555 X self l3 M) P := by
  unfold w_law_B555
  rw [hg 1 (by decide) (by decide), hg 2 (by decide) (by decide)]
  exact op_step op_ways hi hs
theorem W_sure (hg : w_G X l3) (hi : INV L_law M) (hs : ∀ M', INV L_law M' → T (self (l3 + 6) M') P) : T (w_law_B588 X self l3 M) P := by
  unfold w_law_B588
  rw [hg 1 (by decide) (by decide), hg 2 (by decide) (by decide)]
  exact op_step op_sure hi hs
theorem W_chance (hg : w_G X l3) (hi : INV L_law M) (hs : ∀ M', INV L_law M' → T (self (l3 + 6) M') P) : T (w_law_B621 X self l3 M) P := by
  unfold w_law_B621
  rw [hg 1 (by decide) (by decide), hg 2 (by decide) (by decide), hg 3 (by decide) (by decide)]
  exact op_step op_chance hi hs
theorem W_dig (hg : w_G X l3) (hi : INV L_law M) (hs : ∀ M', INV L_law M' → T (self (l3 + 6) M') P) : T (w_law_B664 X self l3 M) P := by
  unfold w_law_B664
  rw [hg 1 (by decide) (by decide)]
  exact op_step op_dig hi hs
theorem W_next (hg : w_G X l3) (hi : INV L_law M) (hs : ∀ M', INV L_law M' → T (self (l3 + 6) M') P) : T (w_law_B687 X self l3 M) P := by
  unfold w_law_B687
  rw [hg 1 (by decide) (by decide), hg 2 (by decide) (by decide)]
  exact op_step op_next hi hs
theorem W_told (hg : w_G X l3) (hi : INV L_law M) (hs : ∀ M', INV L_law M' → T (self (l3 + 6) M') P) : T (w_law_B720 X self l3 M) P := by
  unfold w_law_B720
  rw [hg 1 (by decide) (by decide), hg 2 (by decide) (by decide)]
  exact op_step op_told hi hs
theorem W_liars (hg : w_G X l3) (hi : INV L_law M) (hs : ∀ M', INV L_law M' → T (self (l3 + 6) M') P) : T (w_law_B753 X self l3 M) P := by
  unfold w_law_B753
  rw [hg 1 (by decide) (by decide)]
  exact op_step op_liars hi hs
theorem W_shows (hg : w_G X l3) (hi : INV L_law M) (hs : ∀ M', INV L_law M' → T (self (l3 + 6) M') P) : T (w_law_B776 X self l3 M) P := by
  unfold w_law_B776
  rw [hg 1 (by decide) (by decide)]
  exact op_step op_shows hi hs
theorem W_chain (hg : w_G X l3) (hi : INV L_law M) (hs : ∀ M', INV L_law M' → T (self (l3 + 6) M') P) : T (w_law_B799 X self l3 M) P := by
  unfold w_law_B799
  rw [hg 1 (by decide) (by decide)]
  exact op_step op_chain hi hs
theorem W_strikes (hg : w_G X l3) (hi : INV L_law M) (hs : ∀ M', INV L_law M' → T (self (l3 + 6) M') P) : T (w_law_B822 X self l3 M) P := by
  unfold w_law_B822
  rw [hg 1 (by decide) (by decide), hg 2 (by decide) (by decide)]
  exact op_step op_strikes hi hs
theorem W_source (hg : w_G X l3) (hi : INV L_law M) (hs : ∀ M', INV L_law M' → T (self (l3 + 6) M') P) : T (w_law_B855 X self l3 M) P := by
  unfold w_law_B855
  exact op_step op_source hi hs
theorem W_tune (hg : w_G X l3) (hi : INV L_law M) (hs : ∀ M', INV L_law M' → T (self (l3 + 6) M') P) : T (w_law_B868 X self l3 M) P := by
  unfold w_law_B868
  rw [hg 1 (by decide) (by decide), hg 2 (by decide) (by decide)]
  exact op_step op_tune hi hs
theorem W_whose (hg : w_G X l3) (hi : INV L_law M) (hs : ∀ M', INV L_law M' → T (self (l3 + 6) M') P) : T (w_law_B901 X self l3 M) P := by
  unfold w_law_B901
  rw [hg 1 (by decide) (by decide), hg 2 (by decide) (by decide)]
  exact op_step op_whose hi hs
theorem W_years (hg : w_G X l3) (hi : INV L_law M) (hs : ∀ M', INV L_law M' → T (self (l3 + 6) M') P) : T (w_law_B934 X self l3 M) P := by
  unfold w_law_B934
  rw [hg 1 (by decide) (by decide), hg 2 (by decide) (by decide)]
  exact op_step op_years hi hs
theorem W_dug (hg : w_G X l3) (hi : INV L_law M) (hs : ∀ M', INV L_law M' → T (self (l3 + 6) M') P) : T (w_law_B967 X self l3 M) P := by
  unfold w_law_B967
  rw [hg 1 (by decide) (by decide), hg 2 (by decide) (by decide)]
  exact op_step op_dug hi hs
theorem W_judge (hg : w_G X l3) (hi : INV L_law M) (hs : ∀ M', INV L_law M' → T (self (l3 + 6) M') P) : T (w_law_B1000 X self l3 M) P := by
  unfold w_law_B1000
  rw [hg 1 (by decide) (by decide)]
  exact op_step op_judge hi hs
theorem W_image (hg : w_G X l3) (hi : INV L_law M) (hs : ∀ M', INV L_law M' → T (self (l3 + 6) M') P) : T (w_law_B1023 X self l3 M) P := by
  unfold w_law_B1023
  exact op_step op_image hi hs
theorem W_back (hg : w_G X l3) (hi : INV L_law M) (hs : ∀ M', INV L_law M' → T (self (l3 + 6) M') P) : T (w_law_B1036 X self l3 M) P := by
  unfold w_law_B1036
  exact op_step op_back hi hs
theorem W_undo (hg : w_G X l3) (hi : INV L_law M) (hs : ∀ M', INV L_law M' → T (self (l3 + 6) M') P) : T (w_law_B1049 X self l3 M) P := by
  unfold w_law_B1049
  exact op_step op_undo hi hs
theorem W_redo (hg : w_G X l3) (hi : INV L_law M) (hs : ∀ M', INV L_law M' → T (self (l3 + 6) M') P) : T (w_law_B1062 X self l3 M) P := by
  unfold w_law_B1062
  exact op_step op_redo hi hs
theorem W_body (hg : w_G X l3) (hi : INV L_law M) (hs : ∀ M', INV L_law M' → T (self (l3 + 6) M') P) : T (w_law_B1075 X self l3 M) P := by
  unfold w_law_B1075
  rw [hg 1 (by decide) (by decide)]
  exact op_step op_body hi hs
theorem W_act (hg : w_G X l3) (hi : INV L_law M) (hs : ∀ M', INV L_law M' → T (self (l3 + 6) M') P) : T (w_law_B1098 X self l3 M) P := by
  unfold w_law_B1098
  rw [hg 1 (by decide) (by decide), hg 2 (by decide) (by decide), hg 3 (by decide) (by decide)]
  exact op_step op_act hi hs
theorem W_trace (hg : w_G X l3) (hi : INV L_law M) (hs : ∀ M', INV L_law M' → T (self (l3 + 6) M') P) : T (w_law_B1141 X self l3 M) P := by
  unfold w_law_B1141
  rw [hg 1 (by decide) (by decide)]
  exact op_step op_trace hi hs
theorem W_keep (hg : w_G X l3) (hi : INV L_law M) (hs : ∀ M', INV L_law M' → T (self (l3 + 6) M') P) : T (w_law_B1164 X self l3 M) P := by
  unfold w_law_B1164
  rw [hg 1 (by decide) (by decide), hg 2 (by decide) (by decide)]
  exact op_step op_keep hi hs
theorem W_row (hg : w_G X l3) (hi : INV L_law M) (hs : ∀ M', INV L_law M' → T (self (l3 + 6) M') P) : T (w_law_B1197 X self l3 M) P := by
  unfold w_law_B1197
  rw [hg 1 (by decide) (by decide), hg 2 (by decide) (by decide), hg 3 (by decide) (by decide)]
  exact op_step op_row hi hs
theorem W_put (hg : w_G X l3) (hi : INV L_law M) (hs : ∀ M', INV L_law M' → T (self (l3 + 6) M') P) : T (w_law_B1240 X self l3 M) P := by
  unfold w_law_B1240
  rw [hg 1 (by decide) (by decide), hg 2 (by decide) (by decide), hg 3 (by decide) (by decide), hg 4 (by decide) (by decide)]
  exact op_step op_put hi hs
theorem W_element (hg : w_G X l3) (hi : INV L_law M) (hs : ∀ M', INV L_law M' → T (self (l3 + 6) M') P) : T (w_law_B1313 X self l3 M) P := by
  unfold w_law_B1313
  rw [hg 1 (by decide) (by decide), hg 2 (by decide) (by decide)]
  exact op_stepL op_element hi hs
theorem W_shift (hg : w_G X l3) (hi : INV L_law M) (hs : ∀ M', INV L_law M' → T (self (l3 + 6) M') P) : T (w_law_B1347 X self l3 M) P := by
  unfold w_law_B1347
  rw [hg 1 (by decide) (by decide), hg 2 (by decide) (by decide), hg 3 (by decide) (by decide), hg 4 (by decide) (by decide), hg 5 (by decide) (by decide)]
  exact op_step op_shift hi hs
theorem W_taken (hg : w_G X l3) (hi : INV L_law M) (hs : ∀ M', INV L_law M' → T (self (l3 + 6) M') P) : T (w_law_B1410 X self l3 M) P := by
  unfold w_law_B1410
  rw [hg 1 (by decide) (by decide), hg 2 (by decide) (by decide)]
  exact op_step op_taken hi hs
theorem W_count (hg : w_G X l3) (hi : INV L_law M) (hs : ∀ M', INV L_law M' → T (self (l3 + 6) M') P) : T (w_law_B1443 X self l3 M) P := by
  unfold w_law_B1443
  rw [hg 1 (by decide) (by decide)]
  exact op_step op_count hi hs
end LW
set_option maxRecDepth 20000 in
theorem law_all {X : Nat × (Nat → Int32)} (hX : X.1 ≤ 3072) : ∀ (n : Nat) (l3 : Int32) (M : I_M), INV L_law M → 0 ≤ l3.toInt → l3.toInt ≤ 3078 → 3078 - l3.toInt < n → T (w_law_L18 X n l3 M) (fun r => r.1 = 1) := by
  intro n
  induction n with
  | zero => exact fun l3 M _ h1 h2 h3 => absurd h3 (by omega)
  | succ n ih =>
    intro l3 M hi h1 h2 h3
    have eX : (Int32.ofNat X.1).toInt = X.1 := a_on (by omega)
    have l6 : (6 : Int32).toInt = 6 := rfl
    have eX6 : (Int32.ofNat X.1 - 6).toInt = (X.1 : Int) - 6 := by rw [a_sub] <;> rw [eX, l6] <;> omega
    unfold w_law_L18
    refine T_if (fun _ => T_some rfl) (fun hx => ?_)
    rw [a_lt, eX6] at hx
    have hg : w_G X l3 := by
      intro k k1 k2 x
      have e : (l3 + k).toInt = l3.toInt + k.toInt := by rw [a_add] <;> omega
      exact g_ok (by omega) (by omega)
    have e6 : (l3 + 6).toInt = l3.toInt + 6 := by rw [a_add] <;> rw [l6] <;> omega
    have hs : ∀ M', INV L_law M' → T (w_law_L18 X n (l3 + 6) M') (fun r => r.1 = 1) := fun M' hM => ih (l3 + 6) M' hM (by omega) (by omega) (by omega)
    rw [g_ok (by omega) (by omega)]
    refine T_if (fun _ => W_land hg hi hs) (fun _ => ?_)
    refine T_if (fun _ => W_bell hg hi hs) (fun _ => ?_)
    refine T_if (fun _ => W_bells hg hi hs) (fun _ => ?_)
    refine T_if (fun _ => W_mend hg hi hs) (fun _ => ?_)
    refine T_if (fun _ => W_of hg hi hs) (fun _ => ?_)
    refine T_if (fun _ => W_feed hg hi hs) (fun _ => ?_)
    refine T_if (fun _ => W_law hg hi hs) (fun _ => ?_)
    refine T_if (fun _ => W_hum hg hi hs) (fun _ => ?_)
    refine T_if (fun _ => W_heard hg hi hs) (fun _ => ?_)
    refine T_if (fun _ => W_hearing hg hi hs) (fun _ => ?_)
    refine T_if (fun _ => W_forget hg hi hs) (fun _ => ?_)
    refine T_if (fun _ => W_ways hg hi hs) (fun _ => ?_)
    refine T_if (fun _ => W_sure hg hi hs) (fun _ => ?_)
    refine T_if (fun _ => W_chance hg hi hs) (fun _ => ?_)
    refine T_if (fun _ => W_dig hg hi hs) (fun _ => ?_)
    refine T_if (fun _ => W_next hg hi hs) (fun _ => ?_)
    refine T_if (fun _ => W_told hg hi hs) (fun _ => ?_)
    refine T_if (fun _ => W_liars hg hi hs) (fun _ => ?_)
    refine T_if (fun _ => W_shows hg hi hs) (fun _ => ?_)
    refine T_if (fun _ => W_chain hg hi hs) (fun _ => ?_)
    refine T_if (fun _ => W_strikes hg hi hs) (fun _ => ?_)
    refine T_if (fun _ => W_source hg hi hs) (fun _ => ?_)
    refine T_if (fun _ => W_tune hg hi hs) (fun _ => ?_)
    refine T_if (fun _ => W_whose hg hi hs) (fun _ => ?_)
    refine T_if (fun _ => W_years hg hi hs) (fun _ => ?_)
    refine T_if (fun _ => W_dug hg hi hs) (fun _ => ?_)
    refine T_if (fun _ => W_judge hg hi hs) (fun _ => ?_)
    refine T_if (fun _ => W_image hg hi hs) (fun _ => ?_)
    refine T_if (fun _ => W_back hg hi hs) (fun _ => ?_)
    refine T_if (fun _ => W_undo hg hi hs) (fun _ => ?_)
    refine T_if (fun _ => W_redo hg hi hs) (fun _ => ?_)
    refine T_if (fun _ => W_body hg hi hs) (fun _ => ?_)
    refine T_if (fun _ => W_act hg hi hs) (fun _ => ?_)
    refine T_if (fun _ => W_trace hg hi hs) (fun _ => ?_)
    refine T_if (fun _ => W_keep hg hi hs) (fun _ => ?_)
    refine T_if (fun _ => W_row hg hi hs) (fun _ => ?_)
    refine T_if (fun _ => W_put hg hi hs) (fun _ => ?_)
    refine T_if (fun _ => W_element hg hi hs) (fun _ => ?_)
    refine T_if (fun _ => W_shift hg hi hs) (fun _ => ?_)
    refine T_if (fun _ => W_taken hg hi hs) (fun _ => ?_)
    refine T_if (fun _ => W_count hg hi hs) (fun _ => ?_)
    exact hs M hi
