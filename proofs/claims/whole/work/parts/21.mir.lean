/-! ===== part 21: mirrors and what they say (written by wip/whole/mir.py) ===== -/
def b_Tape_add (l1 : Int32) (M : I_M) : Option (Int32 × I_M) :=
  (if (M.1 6 1) < (120 : Int32) then
      i_g (M.1 6 1) 120 (some ((1 : Int32), (i_wI (i_wI M 7 (Int32.toNatClampNeg (M.1 6 1)) l1) 6 1 ((M.1 6 1) + (1 : Int32)))))
    else
      some ((0 : Int32), M))
theorem ok_b_Tape_add {X : Nat × (Nat → Int32)} {d : Nat} {l1 : Int32} {M : I_M} {r : (Int32 × I_M)} (hd : 1 ≤ d) (h : b_Tape_add l1 M = some r) : I_Ex d 43 [.ref 6, .int l1] (i_S X M) (some (.int r.1)) (i_S X r.2) := by
  obtain ⟨d, rfl⟩ : ∃ d1, d = d1 + 1 := ⟨d - 1, by omega⟩
  unfold b_Tape_add at h
  refine i_ex (e := i_r43) (lv := [some (.ref 6), some (.int l1)]) rfl (Nat.le_of_ble_eq_true rfl) rfl ?_
  show I_RnE (I_Ex d) i_c43 (0, [some (.ref 6), some (.int l1)], [], i_S X M) _ _
  refine i_rs 3 (cf' := (6, [some (.ref 6), some (.int l1)], [.int (120 : Int32), .int (M.1 6 1)], i_S X M)) rfl ?_
  by_cases c1 : (M.1 6 1) < (120 : Int32)
  · replace h := (if_pos c1).symm.trans h
    refine i_rbT (c := (M.1 6 1) < (120 : Int32)) (t := 11) (n := 9) rfl c1 ?_
    refine i_rs 5 (cf' := (20, [some (.ref 6), some (.int l1)], [.int l1, .int (M.1 6 1), .ref 7], i_S X M)) rfl ?_
    obtain ⟨g2, h⟩ := i_gE h
    refine i_riast (n := 120) (cf' := (21, [some (.ref 6), some (.int l1)], [], i_S X (i_wI M 7 (Int32.toNatClampNeg (M.1 6 1)) l1))) rfl rfl (Or.inl rfl) g2 rfl ?_
    refine i_rs 7 (cf' := (32, [some (.ref 6), some (.int l1)], [.int (1 : Int32)], i_S X (i_wI (i_wI M 7 (Int32.toNatClampNeg (M.1 6 1)) l1) 6 1 ((M.1 6 1) + (1 : Int32))))) rfl ?_
    obtain rfl := Option.some.inj h
    exact i_rretZ rfl (Or.inr rfl) rfl
  · replace h := (if_neg c1).symm.trans h
    refine i_rbF (c := (M.1 6 1) < (120 : Int32)) (t := 11) (n := 9) rfl c1 ?_
    refine i_rs 1 (cf' := (10, [some (.ref 6), some (.int l1)], [.int (0 : Int32)], i_S X M)) rfl ?_
    obtain rfl := Option.some.inj h
    exact i_rretZ rfl (Or.inl rfl) rfl
def b_feed (l1 : Int32) (M : I_M) : Option (Int32 × I_M) :=
  (if l1 < (0 : Int32) then
      some ((-1 : Int32), M)
    else
      (if (255 : Int32) < l1 then
        some ((-1 : Int32), M)
      else
        Option.bind (b_Tape_add l1 M) (fun q3 => (if q3.1 = (0 : Int32) then
          some ((-3 : Int32), q3.2)
        else
          some ((q3.2.1 6 1), q3.2)))))
theorem ok_b_feed {X : Nat × (Nat → Int32)} {d : Nat} {l1 : Int32} {M : I_M} {r : (Int32 × I_M)} (hd : 2 ≤ d) (h : b_feed l1 M = some r) : I_Ex d 42 [.ref 0, .int l1] (i_S X M) (some (.int r.1)) (i_S X r.2) := by
  obtain ⟨d, rfl⟩ : ∃ d1, d = d1 + 1 := ⟨d - 1, by omega⟩
  unfold b_feed at h
  refine i_ex (e := i_r42) (lv := [some (.ref 0), some (.int l1)]) rfl (Nat.le_of_ble_eq_true rfl) rfl ?_
  show I_RnE (I_Ex d) i_c42 (0, [some (.ref 0), some (.int l1)], [], i_S X M) _ _
  refine i_rs 1 (cf' := (1, [some (.ref 0), some (.int l1)], [.int l1], i_S X M)) rfl ?_
  by_cases c1 : l1 < (0 : Int32)
  · replace h := (if_pos c1).symm.trans h
    refine i_rbT (c := l1 < (0 : Int32)) (t := 11) (n := 4) rfl c1 ?_
    refine i_rs 1 (cf' := (12, [some (.ref 0), some (.int l1)], [.int (-1 : Int32)], i_S X M)) rfl ?_
    obtain rfl := Option.some.inj h
    exact i_rret rfl rfl
  · replace h := (if_neg c1).symm.trans h
    refine i_rbF (c := l1 < (0 : Int32)) (t := 11) (n := 4) rfl c1 ?_
    refine i_rs 2 (cf' := (8, [some (.ref 0), some (.int l1)], [.int (255 : Int32), .int l1], i_S X M)) rfl ?_
    by_cases c2 : (255 : Int32) < l1
    · replace h := (if_pos c2).symm.trans h
      refine i_rbT (c := (255 : Int32) < l1) (t := 11) (n := 13) rfl c2 ?_
      refine i_rs 1 (cf' := (12, [some (.ref 0), some (.int l1)], [.int (-1 : Int32)], i_S X M)) rfl ?_
      obtain rfl := Option.some.inj h
      exact i_rret rfl rfl
    · replace h := (if_neg c2).symm.trans h
      refine i_rbF (c := (255 : Int32) < l1) (t := 11) (n := 13) rfl c2 ?_
      refine i_rs 3 (cf' := (18, [some (.ref 0), some (.int l1)], [.int l1, .ref 6], i_S X M)) rfl ?_
      obtain ⟨q3, hq3, h⟩ := i_bdE h
      refine i_rcall (k := 43) (as := [.ref 6, .int l1]) (cf1 := (21, [some (.ref 0), some (.int l1)], [], i_S X M)) (cf' := (21, [some (.ref 0), some (.int l1)], [.int q3.1], i_S X q3.2)) rfl (ok_b_Tape_add (by omega) hq3) rfl ?_
      by_cases c4 : q3.1 = (0 : Int32)
      · replace h := (if_pos c4).symm.trans h
        refine i_rbT (c := q3.1 = (0 : Int32)) (t := 34) (n := 24) rfl c4 ?_
        refine i_rs 1 (cf' := (36, [some (.ref 0), some (.int l1)], [.int (-3 : Int32)], i_S X q3.2)) rfl ?_
        obtain rfl := Option.some.inj h
        exact i_rret rfl rfl
      · replace h := (if_neg c4).symm.trans h
        refine i_rbF (c := q3.1 = (0 : Int32)) (t := 34) (n := 24) rfl c4 ?_
        refine i_rs 4 (cf' := (36, [some (.ref 0), some (.int l1)], [.int (q3.2.1 6 1)], i_S X q3.2)) rfl ?_
        obtain rfl := Option.some.inj h
        exact i_rret rfl rfl
def r_feed (l1 : Int32) (M : I_M) : Option (Int32 × I_M) :=
  Option.bind (r_within (Int32.toInt64 l1) (0 : Int64) (255 : Int64) M) (fun q1 => (if q1.1 = (0 : Int32) then
      some ((-1 : Int32), q1.2)
    else
      (if (q1.2.1 50 15) = (120 : Int32) then
        some ((-3 : Int32), q1.2)
      else
        i_g (q1.2.1 50 15) 120 (some (((q1.2.1 50 15) + (1 : Int32)), (i_wI (i_wI q1.2 58 (Int32.toNatClampNeg (q1.2.1 50 15)) l1) 50 15 ((q1.2.1 50 15) + (1 : Int32))))))))
theorem ok_r_feed {X : Nat × (Nat → Int32)} {d : Nat} {l1 : Int32} {M : I_M} {r : (Int32 × I_M)} (hd : 2 ≤ d) (h : r_feed l1 M = some r) : I_Ex d 189 [.ref 50, .int l1] (i_S X M) (some (.int r.1)) (i_S X r.2) := by
  obtain ⟨d, rfl⟩ : ∃ d1, d = d1 + 1 := ⟨d - 1, by omega⟩
  unfold r_feed at h
  refine i_ex (e := i_r189) (lv := [some (.ref 50), some (.int l1)]) rfl (Nat.le_of_ble_eq_true rfl) rfl ?_
  show I_RnE (I_Ex d) i_c189 (0, [some (.ref 50), some (.int l1)], [], i_S X M) _ _
  refine i_rs 4 (cf' := (6, [some (.ref 50), some (.int l1)], [.long (255 : Int64), .long (0 : Int64), .long (Int32.toInt64 l1)], i_S X M)) rfl ?_
  obtain ⟨q1, hq1, h⟩ := i_bdE h
  refine i_rcall (k := 175) (as := [.long (Int32.toInt64 l1), .long (0 : Int64), .long (255 : Int64)]) (cf1 := (9, [some (.ref 50), some (.int l1)], [], i_S X M)) (cf' := (9, [some (.ref 50), some (.int l1)], [.int q1.1], i_S X q1.2)) rfl (ok_r_within (by omega) hq1) rfl ?_
  by_cases c2 : q1.1 = (0 : Int32)
  · replace h := (if_pos c2).symm.trans h
    refine i_rbT (c := q1.1 = (0 : Int32)) (t := 12) (n := 14) rfl c2 ?_
    refine i_rs 1 (cf' := (13, [some (.ref 50), some (.int l1)], [.int (-1 : Int32)], i_S X q1.2)) rfl ?_
    obtain rfl := Option.some.inj h
    exact i_rret rfl rfl
  · replace h := (if_neg c2).symm.trans h
    refine i_rbF (c := q1.1 = (0 : Int32)) (t := 12) (n := 14) rfl c2 ?_
    refine i_rs 3 (cf' := (20, [some (.ref 50), some (.int l1)], [.int (120 : Int32), .int (q1.2.1 50 15)], i_S X q1.2)) rfl ?_
    by_cases c3 : (q1.2.1 50 15) = (120 : Int32)
    · replace h := (if_pos c3).symm.trans h
      refine i_rbT (c := (q1.2.1 50 15) = (120 : Int32)) (t := 23) (n := 26) rfl c3 ?_
      refine i_rs 1 (cf' := (25, [some (.ref 50), some (.int l1)], [.int (-3 : Int32)], i_S X q1.2)) rfl ?_
      obtain rfl := Option.some.inj h
      exact i_rret rfl rfl
    · replace h := (if_neg c3).symm.trans h
      refine i_rbF (c := (q1.2.1 50 15) = (120 : Int32)) (t := 23) (n := 26) rfl c3 ?_
      refine i_rs 5 (cf' := (35, [some (.ref 50), some (.int l1)], [.int l1, .int (q1.2.1 50 15), .ref 58], i_S X q1.2)) rfl ?_
      obtain ⟨g4, h⟩ := i_gE h
      refine i_riast (n := 120) (cf' := (36, [some (.ref 50), some (.int l1)], [], i_S X (i_wI q1.2 58 (Int32.toNatClampNeg (q1.2.1 50 15)) l1))) rfl rfl (Or.inl rfl) g4 rfl ?_
      refine i_rs 8 (cf' := (50, [some (.ref 50), some (.int l1)], [.int ((q1.2.1 50 15) + (1 : Int32))], i_S X (i_wI (i_wI q1.2 58 (Int32.toNatClampNeg (q1.2.1 50 15)) l1) 50 15 ((q1.2.1 50 15) + (1 : Int32))))) rfl ?_
      obtain rfl := Option.some.inj h
      exact i_rret rfl rfl
def b_Tape_ahead (M : I_M) : Option (Int32 × I_M) :=
  (if (M.1 6 5) < (0 : Int32) then
      (if (M.1 6 4) < (M.1 6 1) then
        i_g (M.1 6 4) 120 (some ((M.1 7 (Int32.toNatClampNeg (M.1 6 4))), M))
      else
        some ((-1 : Int32), M))
    else
      some ((-1 : Int32), M))
theorem ok_b_Tape_ahead {X : Nat × (Nat → Int32)} {d : Nat} {M : I_M} {r : (Int32 × I_M)} (hd : 1 ≤ d) (h : b_Tape_ahead M = some r) : I_Ex d 49 [.ref 6] (i_S X M) (some (.int r.1)) (i_S X r.2) := by
  obtain ⟨d, rfl⟩ : ∃ d1, d = d1 + 1 := ⟨d - 1, by omega⟩
  unfold b_Tape_ahead at h
  refine i_ex (e := i_r49) (lv := [some (.ref 6)]) rfl (Nat.le_of_ble_eq_true rfl) rfl ?_
  show I_RnE (I_Ex d) i_c49 (0, [some (.ref 6)], [], i_S X M) _ _
  refine i_rs 2 (cf' := (4, [some (.ref 6)], [.int (M.1 6 5)], i_S X M)) rfl ?_
  by_cases c1 : (M.1 6 5) < (0 : Int32)
  · replace h := (if_pos c1).symm.trans h
    refine i_rbT (c := (M.1 6 5) < (0 : Int32)) (t := 7) (n := 30) rfl c1 ?_
    refine i_rs 4 (cf' := (15, [some (.ref 6)], [.int (M.1 6 1), .int (M.1 6 4)], i_S X M)) rfl ?_
    by_cases c2 : (M.1 6 4) < (M.1 6 1)
    · replace h := (if_pos c2).symm.trans h
      refine i_rbT (c := (M.1 6 4) < (M.1 6 1)) (t := 18) (n := 30) rfl c2 ?_
      refine i_rs 4 (cf' := (26, [some (.ref 6)], [.int (M.1 6 4), .ref 7], i_S X M)) rfl ?_
      obtain ⟨g3, h⟩ := i_gE h
      refine i_riald (n := 120) (cf' := (27, [some (.ref 6)], [.int (M.1 7 (Int32.toNatClampNeg (M.1 6 4)))], i_S X M)) rfl rfl (by decide) g3 rfl ?_
      refine i_rs 1 (cf' := (31, [some (.ref 6)], [.int (M.1 7 (Int32.toNatClampNeg (M.1 6 4)))], i_S X M)) rfl ?_
      obtain rfl := Option.some.inj h
      exact i_rret rfl rfl
    · replace h := (if_neg c2).symm.trans h
      refine i_rbF (c := (M.1 6 4) < (M.1 6 1)) (t := 18) (n := 30) rfl c2 ?_
      refine i_rs 1 (cf' := (31, [some (.ref 6)], [.int (-1 : Int32)], i_S X M)) rfl ?_
      obtain rfl := Option.some.inj h
      exact i_rret rfl rfl
  · replace h := (if_neg c1).symm.trans h
    refine i_rbF (c := (M.1 6 5) < (0 : Int32)) (t := 7) (n := 30) rfl c1 ?_
    refine i_rs 1 (cf' := (31, [some (.ref 6)], [.int (-1 : Int32)], i_S X M)) rfl ?_
    obtain rfl := Option.some.inj h
    exact i_rret rfl rfl
def b_Tape_isDigit (l0 : Int32) (M : I_M) : Option (Int32 × I_M) :=
  (if l0 < (48 : Int32) then
      some ((0 : Int32), M)
    else
      (if (57 : Int32) < l0 then
        some ((0 : Int32), M)
      else
        some ((1 : Int32), M)))
theorem ok_b_Tape_isDigit {X : Nat × (Nat → Int32)} {d : Nat} {l0 : Int32} {M : I_M} {r : (Int32 × I_M)} (hd : 1 ≤ d) (h : b_Tape_isDigit l0 M = some r) : I_Ex d 58 [.int l0] (i_S X M) (some (.int r.1)) (i_S X r.2) := by
  obtain ⟨d, rfl⟩ : ∃ d1, d = d1 + 1 := ⟨d - 1, by omega⟩
  unfold b_Tape_isDigit at h
  refine i_ex (e := i_r58) (lv := [some (.int l0)]) rfl (Nat.le_of_ble_eq_true rfl) rfl ?_
  show I_RnE (I_Ex d) i_c58 (0, [some (.int l0)], [], i_S X M) _ _
  refine i_rs 2 (cf' := (3, [some (.int l0)], [.int (48 : Int32), .int l0], i_S X M)) rfl ?_
  by_cases c1 : l0 < (48 : Int32)
  · replace h := (if_pos c1).symm.trans h
    refine i_rbT (c := l0 < (48 : Int32)) (t := 16) (n := 6) rfl c1 ?_
    refine i_rs 1 (cf' := (17, [some (.int l0)], [.int (0 : Int32)], i_S X M)) rfl ?_
    obtain rfl := Option.some.inj h
    exact i_rretZ rfl (Or.inl rfl) rfl
  · replace h := (if_neg c1).symm.trans h
    refine i_rbF (c := l0 < (48 : Int32)) (t := 16) (n := 6) rfl c1 ?_
    refine i_rs 2 (cf' := (9, [some (.int l0)], [.int (57 : Int32), .int l0], i_S X M)) rfl ?_
    by_cases c2 : (57 : Int32) < l0
    · replace h := (if_pos c2).symm.trans h
      refine i_rbT (c := (57 : Int32) < l0) (t := 16) (n := 12) rfl c2 ?_
      refine i_rs 1 (cf' := (17, [some (.int l0)], [.int (0 : Int32)], i_S X M)) rfl ?_
      obtain rfl := Option.some.inj h
      exact i_rretZ rfl (Or.inl rfl) rfl
    · replace h := (if_neg c2).symm.trans h
      refine i_rbF (c := (57 : Int32) < l0) (t := 16) (n := 12) rfl c2 ?_
      refine i_rs 2 (cf' := (17, [some (.int l0)], [.int (1 : Int32)], i_S X M)) rfl ?_
      obtain rfl := Option.some.inj h
      exact i_rretZ rfl (Or.inr rfl) rfl
def b_Tape_step (l1 : Int32) (M : I_M) : Option I_M :=
  (if (M.1 6 3) < (128 : Int32) then
      i_g (M.1 6 3) 128 (some (i_wI (i_wI M 8 (Int32.toNatClampNeg (M.1 6 3)) l1) 6 3 ((M.1 6 3) + (1 : Int32))))
    else
      some M)
theorem ok_b_Tape_step {X : Nat × (Nat → Int32)} {d : Nat} {l1 : Int32} {M : I_M} {r : I_M} (hd : 1 ≤ d) (h : b_Tape_step l1 M = some r) : I_Ex d 60 [.ref 6, .int l1] (i_S X M) none (i_S X r) := by
  obtain ⟨d, rfl⟩ : ∃ d1, d = d1 + 1 := ⟨d - 1, by omega⟩
  unfold b_Tape_step at h
  refine i_ex (e := i_r60) (lv := [some (.ref 6), some (.int l1)]) rfl (Nat.le_of_ble_eq_true rfl) rfl ?_
  show I_RnE (I_Ex d) i_c60 (0, [some (.ref 6), some (.int l1)], [], i_S X M) _ _
  refine i_rs 3 (cf' := (7, [some (.ref 6), some (.int l1)], [.int (128 : Int32), .int (M.1 6 3)], i_S X M)) rfl ?_
  by_cases c1 : (M.1 6 3) < (128 : Int32)
  · replace h := (if_pos c1).symm.trans h
    refine i_rbT (c := (M.1 6 3) < (128 : Int32)) (t := 10) (n := 30) rfl c1 ?_
    refine i_rs 5 (cf' := (19, [some (.ref 6), some (.int l1)], [.int l1, .int (M.1 6 3), .ref 8], i_S X M)) rfl ?_
    obtain ⟨g2, h⟩ := i_gE h
    refine i_riast (n := 128) (cf' := (20, [some (.ref 6), some (.int l1)], [], i_S X (i_wI M 8 (Int32.toNatClampNeg (M.1 6 3)) l1))) rfl rfl (Or.inl rfl) g2 rfl ?_
    refine i_rs 6 (cf' := (30, [some (.ref 6), some (.int l1)], [], i_S X (i_wI (i_wI M 8 (Int32.toNatClampNeg (M.1 6 3)) l1) 6 3 ((M.1 6 3) + (1 : Int32))))) rfl ?_
    obtain rfl := Option.some.inj h
    exact i_rret rfl rfl
  · replace h := (if_neg c1).symm.trans h
    refine i_rbF (c := (M.1 6 3) < (128 : Int32)) (t := 10) (n := 30) rfl c1 ?_
    obtain rfl := Option.some.inj h
    exact i_rret rfl rfl
def b_Tape_readNumber_L4 (k48 : Int32 → I_M → Option I_M) : Nat → Int32 → Int32 → I_M → Option I_M
  | 0, _, _, _ => none
  | n + 1, l1, l2, M =>
    (if l2 < (4 : Int32) then
        Option.bind (b_Tape_ahead M) (fun q2 => Option.bind (b_Tape_isDigit q2.1 q2.2) (fun q3 => (if q3.1 = (0 : Int32) then
          k48 l1 q3.2
        else
          Option.bind (b_Tape_ahead q3.2) (fun q5 => (b_Tape_readNumber_L4 k48 n) (((l1 * (10 : Int32)) + q5.1) - (48 : Int32)) (l2 + (1 : Int32)) (i_wI q5.2 6 4 ((q5.2.1 6 4) + (1 : Int32)))))))
      else
        k48 l1 M)
theorem ok_b_Tape_readNumber_L4 {X : Nat × (Nat → Int32)} {d : Nat} {k48 : Int32 → I_M → Option I_M} (hd : 2 ≤ d + 1) (hk48 : ∀ (l1 : Int32) (M : I_M) (r : I_M), k48 l1 M = some r → I_RnE (I_Ex d) i_c59 (48, [some (.ref 6), some (.int l1), none], [], i_S X M) none (i_S X r)) : ∀ (n : Nat) (l1 : Int32) (l2 : Int32) (M : I_M) (r : I_M), b_Tape_readNumber_L4 k48 n l1 l2 M = some r → I_RnE (I_Ex d) i_c59 (4, [some (.ref 6), some (.int l1), some (.int l2)], [], i_S X M) none (i_S X r) := by
  intro n
  induction n with
  | zero => intro _ _ M r h; cases h
  | succ n hself =>
    intro l1 l2 M r h
    rw [b_Tape_readNumber_L4] at h
    refine i_rs 2 (cf' := (6, [some (.ref 6), some (.int l1), some (.int l2)], [.int (4 : Int32), .int l2], i_S X M)) rfl ?_
    by_cases c1 : l2 < (4 : Int32)
    · replace h := (if_pos c1).symm.trans h
      refine i_rbT (c := l2 < (4 : Int32)) (t := 9) (n := 48) rfl c1 ?_
      refine i_rs 1 (cf' := (10, [some (.ref 6), some (.int l1), some (.int l2)], [.ref 6], i_S X M)) rfl ?_
      obtain ⟨q2, hq2, h⟩ := i_bdE h
      refine i_rcall (k := 49) (as := [.ref 6]) (cf1 := (13, [some (.ref 6), some (.int l1), some (.int l2)], [], i_S X M)) (cf' := (13, [some (.ref 6), some (.int l1), some (.int l2)], [.int q2.1], i_S X q2.2)) rfl (ok_b_Tape_ahead (by omega) hq2) rfl ?_
      obtain ⟨q3, hq3, h⟩ := i_bdE h
      refine i_rcall (k := 58) (as := [.int q2.1]) (cf1 := (16, [some (.ref 6), some (.int l1), some (.int l2)], [], i_S X q2.2)) (cf' := (16, [some (.ref 6), some (.int l1), some (.int l2)], [.int q3.1], i_S X q3.2)) rfl (ok_b_Tape_isDigit (by omega) hq3) rfl ?_
      by_cases c4 : q3.1 = (0 : Int32)
      · replace h := (if_pos c4).symm.trans h
        refine i_rbT (c := q3.1 = (0 : Int32)) (t := 48) (n := 19) rfl c4 ?_
        refine i_fg (lv' := [some (.ref 6), some (.int l1), none]) (And.intro rfl (And.intro rfl True.intro)) ?_
        exact hk48 l1 q3.2 _ h
      · replace h := (if_neg c4).symm.trans h
        refine i_rbF (c := q3.1 = (0 : Int32)) (t := 48) (n := 19) rfl c4 ?_
        refine i_rs 4 (cf' := (24, [some (.ref 6), some (.int l1), some (.int l2)], [.ref 6, .int (l1 * (10 : Int32))], i_S X q3.2)) rfl ?_
        obtain ⟨q5, hq5, h⟩ := i_bdE h
        refine i_rcall (k := 49) (as := [.ref 6]) (cf1 := (27, [some (.ref 6), some (.int l1), some (.int l2)], [.int (l1 * (10 : Int32))], i_S X q3.2)) (cf' := (27, [some (.ref 6), some (.int l1), some (.int l2)], [.int q5.1, .int (l1 * (10 : Int32))], i_S X q5.2)) rfl (ok_b_Tape_ahead (by omega) hq5) rfl ?_
        refine i_rs 12 (cf' := (4, [some (.ref 6), some (.int (((l1 * (10 : Int32)) + q5.1) - (48 : Int32))), some (.int (l2 + (1 : Int32)))], [], i_S X (i_wI q5.2 6 4 ((q5.2.1 6 4) + (1 : Int32))))) rfl ?_
        refine i_fg (lv' := [some (.ref 6), some (.int (((l1 * (10 : Int32)) + q5.1) - (48 : Int32))), some (.int (l2 + (1 : Int32)))]) (And.intro rfl (And.intro rfl (And.intro rfl True.intro))) ?_
        exact hself (((l1 * (10 : Int32)) + q5.1) - (48 : Int32)) (l2 + (1 : Int32)) (i_wI q5.2 6 4 ((q5.2.1 6 4) + (1 : Int32))) _ h
    · replace h := (if_neg c1).symm.trans h
      refine i_rbF (c := l2 < (4 : Int32)) (t := 9) (n := 48) rfl c1 ?_
      refine i_fg (lv' := [some (.ref 6), some (.int l1), none]) (And.intro rfl (And.intro rfl True.intro)) ?_
      exact hk48 l1 M _ h
def b_Tape_readNumber (M : I_M) : Option I_M :=
  b_Tape_readNumber_L4 (fun l1_6 M6 =>
        Option.bind (b_Tape_step l1_6 M6) (fun q7 => some q7)) i_F (0 : Int32) (0 : Int32) M
theorem ok_b_Tape_readNumber {X : Nat × (Nat → Int32)} {d : Nat} {M : I_M} {r : I_M} (hd : 2 ≤ d) (h : b_Tape_readNumber M = some r) : I_Ex d 59 [.ref 6] (i_S X M) none (i_S X r) := by
  obtain ⟨d, rfl⟩ : ∃ d1, d = d1 + 1 := ⟨d - 1, by omega⟩
  unfold b_Tape_readNumber at h
  refine i_ex (e := i_r59) (lv := [some (.ref 6), none, none]) rfl (Nat.le_of_ble_eq_true rfl) rfl ?_
  show I_RnE (I_Ex d) i_c59 (0, [some (.ref 6), none, none], [], i_S X M) _ _
  refine i_rs 4 (cf' := (4, [some (.ref 6), some (.int (0 : Int32)), some (.int (0 : Int32))], [], i_S X M)) rfl ?_
  refine i_fg (lv' := [some (.ref 6), some (.int (0 : Int32)), some (.int (0 : Int32))]) (And.intro rfl (And.intro rfl (And.intro rfl True.intro))) ?_
  refine ok_b_Tape_readNumber_L4 (by omega) (fun l1_6 M6 r h => ?_) i_F (0 : Int32) (0 : Int32) M _ h
  refine i_rs 2 (cf' := (50, [some (.ref 6), some (.int l1_6), none], [.int l1_6, .ref 6], i_S X M6)) rfl ?_
  obtain ⟨q7, hq7, h⟩ := i_bdE h
  refine i_rcall (k := 60) (as := [.ref 6, .int l1_6]) (cf1 := (53, [some (.ref 6), some (.int l1_6), none], [], i_S X M6)) (cf' := (53, [some (.ref 6), some (.int l1_6), none], [], i_S X q7)) rfl (ok_b_Tape_step (by omega) hq7) rfl ?_
  obtain rfl := Option.some.inj h
  exact i_rret rfl rfl
def b_Tape_fail (M : I_M) : Option I_M :=
  (if (M.1 6 5) < (0 : Int32) then
      some (i_wI M 6 5 (M.1 6 4))
    else
      some M)
theorem ok_b_Tape_fail {X : Nat × (Nat → Int32)} {d : Nat} {M : I_M} {r : I_M} (hd : 1 ≤ d) (h : b_Tape_fail M = some r) : I_Ex d 61 [.ref 6] (i_S X M) none (i_S X r) := by
  obtain ⟨d, rfl⟩ : ∃ d1, d = d1 + 1 := ⟨d - 1, by omega⟩
  unfold b_Tape_fail at h
  refine i_ex (e := i_r61) (lv := [some (.ref 6)]) rfl (Nat.le_of_ble_eq_true rfl) rfl ?_
  show I_RnE (I_Ex d) i_c61 (0, [some (.ref 6)], [], i_S X M) _ _
  refine i_rs 2 (cf' := (4, [some (.ref 6)], [.int (M.1 6 5)], i_S X M)) rfl ?_
  by_cases c1 : (M.1 6 5) < (0 : Int32)
  · replace h := (if_pos c1).symm.trans h
    refine i_rbT (c := (M.1 6 5) < (0 : Int32)) (t := 7) (n := 15) rfl c1 ?_
    refine i_rs 4 (cf' := (15, [some (.ref 6)], [], i_S X (i_wI M 6 5 (M.1 6 4)))) rfl ?_
    obtain rfl := Option.some.inj h
    exact i_rret rfl rfl
  · replace h := (if_neg c1).symm.trans h
    refine i_rbF (c := (M.1 6 5) < (0 : Int32)) (t := 7) (n := 15) rfl c1 ?_
    obtain rfl := Option.some.inj h
    exact i_rret rfl rfl
def j_Str_isLatin1 (M : I_M) : Option (Int32 × I_M) :=
  some ((1 : Int32), M)
theorem ok_j_Str_isLatin1 {X : Nat × (Nat → Int32)} {d : Nat} {M : I_M} {r : (Int32 × I_M)} (hd : 1 ≤ d) (h : j_Str_isLatin1 M = some r) : I_Ex d 52 [.ref 105] (i_S X M) (some (.int r.1)) (i_S X r.2) := by
  obtain ⟨d, rfl⟩ : ∃ d1, d = d1 + 1 := ⟨d - 1, by omega⟩
  unfold j_Str_isLatin1 at h
  refine i_ex (e := i_r52) (lv := [some (.ref 105)]) rfl (Nat.le_of_ble_eq_true rfl) rfl ?_
  show I_RnE (I_Ex d) i_c52 (0, [some (.ref 105)], [], i_S X M) _ _
  refine i_rs 1 (cf' := (3, [some (.ref 105)], [.int (1 : Int32)], i_S X M)) rfl ?_
  refine i_rbF (c := (1 : Int32) = (0 : Int32)) (t := 17) (n := 6) rfl (by decide) ?_
  refine i_rs 2 (cf' := (10, [some (.ref 105)], [.int (0 : Int32)], i_S X M)) rfl ?_
  refine i_rbT (c := (0 : Int32) = (0 : Int32)) (t := 13) (n := 17) rfl (by decide) ?_
  refine i_rs 2 (cf' := (18, [some (.ref 105)], [.int (1 : Int32)], i_S X M)) rfl ?_
  obtain rfl := Option.some.inj h
  exact i_rretZ rfl (Or.inr rfl) rfl
def j_Str_coder (M : I_M) : Option (Int32 × I_M) :=
  some ((0 : Int32), M)
theorem ok_j_Str_coder {X : Nat × (Nat → Int32)} {d : Nat} {M : I_M} {r : (Int32 × I_M)} (hd : 1 ≤ d) (h : j_Str_coder M = some r) : I_Ex d 54 [.ref 105] (i_S X M) (some (.int r.1)) (i_S X r.2) := by
  obtain ⟨d, rfl⟩ : ∃ d1, d = d1 + 1 := ⟨d - 1, by omega⟩
  unfold j_Str_coder at h
  refine i_ex (e := i_r54) (lv := [some (.ref 105)]) rfl (Nat.le_of_ble_eq_true rfl) rfl ?_
  show I_RnE (I_Ex d) i_c54 (0, [some (.ref 105)], [], i_S X M) _ _
  refine i_rs 1 (cf' := (3, [some (.ref 105)], [.int (1 : Int32)], i_S X M)) rfl ?_
  refine i_rbF (c := (1 : Int32) = (0 : Int32)) (t := 13) (n := 6) rfl (by decide) ?_
  refine i_rs 3 (cf' := (14, [some (.ref 105)], [.int (0 : Int32)], i_S X M)) rfl ?_
  obtain rfl := Option.some.inj h
  exact i_rret rfl rfl
def j_Str_length (M : I_M) : Option (Int32 × I_M) :=
  Option.bind (j_Str_coder M) (fun q1 => some (((7 : Int32) >>> (q1.1 &&& 31)), q1.2))
theorem ok_j_Str_length {X : Nat × (Nat → Int32)} {d : Nat} {M : I_M} {r : (Int32 × I_M)} (hd : 2 ≤ d) (h : j_Str_length M = some r) : I_Ex d 53 [.ref 105] (i_S X M) (some (.int r.1)) (i_S X r.2) := by
  obtain ⟨d, rfl⟩ : ∃ d1, d = d1 + 1 := ⟨d - 1, by omega⟩
  unfold j_Str_length at h
  refine i_ex (e := i_r53) (lv := [some (.ref 105)]) rfl (Nat.le_of_ble_eq_true rfl) rfl ?_
  show I_RnE (I_Ex d) i_c53 (0, [some (.ref 105)], [], i_S X M) _ _
  refine i_rs 4 (cf' := (6, [some (.ref 105)], [.ref 105, .int (7 : Int32)], i_S X M)) rfl ?_
  obtain ⟨q1, hq1, h⟩ := i_bdE h
  refine i_rcall (k := 54) (as := [.ref 105]) (cf1 := (9, [some (.ref 105)], [.int (7 : Int32)], i_S X M)) (cf' := (9, [some (.ref 105)], [.int q1.1, .int (7 : Int32)], i_S X q1.2)) rfl (ok_j_Str_coder (by omega) hq1) rfl ?_
  refine i_rs 1 (cf' := (10, [some (.ref 105)], [.int ((7 : Int32) >>> (q1.1 &&& 31))], i_S X q1.2)) rfl ?_
  obtain rfl := Option.some.inj h
  exact i_rret rfl rfl
def j_Lat_canEncode (l0 : Int32) (M : I_M) : Option (Int32 × I_M) :=
  (if l0 < (0 : Int32) then
      some ((0 : Int32), M)
    else
      (if (255 : Int32) < l0 then
        some ((0 : Int32), M)
      else
        some ((1 : Int32), M)))
theorem ok_j_Lat_canEncode {X : Nat × (Nat → Int32)} {d : Nat} {l0 : Int32} {M : I_M} {r : (Int32 × I_M)} (hd : 1 ≤ d) (h : j_Lat_canEncode l0 M = some r) : I_Ex d 56 [.int l0] (i_S X M) (some (.int r.1)) (i_S X r.2) := by
  obtain ⟨d, rfl⟩ : ∃ d1, d = d1 + 1 := ⟨d - 1, by omega⟩
  unfold j_Lat_canEncode at h
  refine i_ex (e := i_r56) (lv := [some (.int l0)]) rfl (Nat.le_of_ble_eq_true rfl) rfl ?_
  show I_RnE (I_Ex d) i_c56 (0, [some (.int l0)], [], i_S X M) _ _
  refine i_rs 1 (cf' := (1, [some (.int l0)], [.int l0], i_S X M)) rfl ?_
  by_cases c1 : l0 < (0 : Int32)
  · replace h := (if_pos c1).symm.trans h
    refine i_rbT (c := l0 < (0 : Int32)) (t := 15) (n := 4) rfl c1 ?_
    refine i_rs 1 (cf' := (16, [some (.int l0)], [.int (0 : Int32)], i_S X M)) rfl ?_
    obtain rfl := Option.some.inj h
    exact i_rretZ rfl (Or.inl rfl) rfl
  · replace h := (if_neg c1).symm.trans h
    refine i_rbF (c := l0 < (0 : Int32)) (t := 15) (n := 4) rfl c1 ?_
    refine i_rs 2 (cf' := (8, [some (.int l0)], [.int (255 : Int32), .int l0], i_S X M)) rfl ?_
    by_cases c2 : (255 : Int32) < l0
    · replace h := (if_pos c2).symm.trans h
      refine i_rbT (c := (255 : Int32) < l0) (t := 15) (n := 11) rfl c2 ?_
      refine i_rs 1 (cf' := (16, [some (.int l0)], [.int (0 : Int32)], i_S X M)) rfl ?_
      obtain rfl := Option.some.inj h
      exact i_rretZ rfl (Or.inl rfl) rfl
    · replace h := (if_neg c2).symm.trans h
      refine i_rbF (c := (255 : Int32) < l0) (t := 15) (n := 11) rfl c2 ?_
      refine i_rs 2 (cf' := (16, [some (.int l0)], [.int (1 : Int32)], i_S X M)) rfl ?_
      obtain rfl := Option.some.inj h
      exact i_rretZ rfl (Or.inr rfl) rfl
def j_Lat_indexOfChar_L7 (l3 : Int32) (l4 : Int32) : Nat → Int32 → I_M → Option (Int32 × I_M)
  | 0, _, _ => none
  | n + 1, l5, M =>
    (if l5 < l3 then
        i_g l5 7 ((if (i_x104 (Int32.toNatClampNeg l5)) = l4 then
          some (l5, M)
        else
          (j_Lat_indexOfChar_L7 l3 l4 n) (l5 + (1 : Int32)) M))
      else
        some ((-1 : Int32), M))
theorem ok_j_Lat_indexOfChar_L7 {X : Nat × (Nat → Int32)} {d : Nat} {l3 : Int32} {l4 : Int32} (hd : 1 ≤ d + 1) : ∀ (n : Nat) (l5 : Int32) (M : I_M) (r : (Int32 × I_M)), j_Lat_indexOfChar_L7 l3 l4 n l5 M = some r → I_RnE (I_Ex d) i_c57 (7, [some (.ref 104), none, none, some (.int l3), some (.int l4), some (.int l5)], [], i_S X M) (some (.int r.1)) (i_S X r.2) := by
  intro n
  induction n with
  | zero => intro _ M r h; cases h
  | succ n hself =>
    intro l5 M r h
    rw [j_Lat_indexOfChar_L7] at h
    refine i_rs 2 (cf' := (10, [some (.ref 104), none, none, some (.int l3), some (.int l4), some (.int l5)], [.int l3, .int l5], i_S X M)) rfl ?_
    by_cases c1 : l5 < l3
    · replace h := (if_pos c1).symm.trans h
      refine i_rbT (c := l5 < l3) (t := 13) (n := 31) rfl c1 ?_
      refine i_rs 2 (cf' := (16, [some (.ref 104), none, none, some (.int l3), some (.int l4), some (.int l5)], [.int l5, .ref 104], i_S X M)) rfl ?_
      obtain ⟨g2, h⟩ := i_gE h
      refine i_rbald (n := 7) (cf' := (17, [some (.ref 104), none, none, some (.int l3), some (.int l4), some (.int l5)], [.int (i_x104 (Int32.toNatClampNeg l5))], i_S X M)) rfl rfl (by decide) g2 rfl ?_
      refine i_rs 1 (cf' := (19, [some (.ref 104), none, none, some (.int l3), some (.int l4), some (.int l5)], [.int l4, .int (i_x104 (Int32.toNatClampNeg l5))], i_S X M)) rfl ?_
      by_cases c3 : (i_x104 (Int32.toNatClampNeg l5)) = l4
      · replace h := (if_pos c3).symm.trans h
        refine i_rbT (c := (i_x104 (Int32.toNatClampNeg l5)) = l4) (t := 22) (n := 25) rfl c3 ?_
        refine i_rs 1 (cf' := (24, [some (.ref 104), none, none, some (.int l3), some (.int l4), some (.int l5)], [.int l5], i_S X M)) rfl ?_
        obtain rfl := Option.some.inj h
        exact i_rret rfl rfl
      · replace h := (if_neg c3).symm.trans h
        refine i_rbF (c := (i_x104 (Int32.toNatClampNeg l5)) = l4) (t := 22) (n := 25) rfl c3 ?_
        refine i_rs 2 (cf' := (7, [some (.ref 104), none, none, some (.int l3), some (.int l4), some (.int (l5 + (1 : Int32)))], [], i_S X M)) rfl ?_
        refine i_fg (lv' := [some (.ref 104), none, none, some (.int l3), some (.int l4), some (.int (l5 + (1 : Int32)))]) (And.intro rfl (And.intro rfl (And.intro rfl (And.intro rfl True.intro)))) ?_
        exact hself (l5 + (1 : Int32)) M _ h
    · replace h := (if_neg c1).symm.trans h
      refine i_rbF (c := l5 < l3) (t := 13) (n := 31) rfl c1 ?_
      refine i_rs 1 (cf' := (32, [some (.ref 104), none, none, some (.int l3), some (.int l4), some (.int l5)], [.int (-1 : Int32)], i_S X M)) rfl ?_
      obtain rfl := Option.some.inj h
      exact i_rret rfl rfl
def j_Lat_indexOfChar (l1 : Int32) (l2 : Int32) (l3 : Int32) (M : I_M) : Option (Int32 × I_M) :=
  j_Lat_indexOfChar_L7 l3 (Int8.toInt32 (Int32.toInt8 l1)) i_F l2 M
theorem ok_j_Lat_indexOfChar {X : Nat × (Nat → Int32)} {d : Nat} {l1 : Int32} {l2 : Int32} {l3 : Int32} {M : I_M} {r : (Int32 × I_M)} (hd : 1 ≤ d) (h : j_Lat_indexOfChar l1 l2 l3 M = some r) : I_Ex d 57 [.ref 104, .int l1, .int l2, .int l3] (i_S X M) (some (.int r.1)) (i_S X r.2) := by
  obtain ⟨d, rfl⟩ : ∃ d1, d = d1 + 1 := ⟨d - 1, by omega⟩
  unfold j_Lat_indexOfChar at h
  refine i_ex (e := i_r57) (lv := [some (.ref 104), some (.int l1), some (.int l2), some (.int l3), none, none]) rfl (Nat.le_of_ble_eq_true rfl) rfl ?_
  show I_RnE (I_Ex d) i_c57 (0, [some (.ref 104), some (.int l1), some (.int l2), some (.int l3), none, none], [], i_S X M) _ _
  refine i_rs 5 (cf' := (7, [some (.ref 104), some (.int l1), some (.int l2), some (.int l3), some (.int (Int8.toInt32 (Int32.toInt8 l1))), some (.int l2)], [], i_S X M)) rfl ?_
  refine i_fg (lv' := [some (.ref 104), none, none, some (.int l3), some (.int (Int8.toInt32 (Int32.toInt8 l1))), some (.int l2)]) (And.intro rfl (And.intro rfl (And.intro rfl (And.intro rfl True.intro)))) ?_
  refine ok_j_Lat_indexOfChar_L7 (by omega) i_F l2 M _ h
def j_Lat_indexOf (l1 : Int32) (l2 : Int32) (l3 : Int32) (M : I_M) : Option (Int32 × I_M) :=
  Option.bind (j_Lat_canEncode l1 M) (fun q1 => (if q1.1 = (0 : Int32) then
      some ((-1 : Int32), q1.2)
    else
      (if (i_max l2 (0 : Int32)) < (i_min l3 (7 : Int32)) then
        Option.bind (j_Lat_indexOfChar l1 (i_max l2 (0 : Int32)) (i_min l3 (7 : Int32)) q1.2) (fun q4 => some (q4.1, q4.2))
      else
        some ((-1 : Int32), q1.2))))
theorem ok_j_Lat_indexOf {X : Nat × (Nat → Int32)} {d : Nat} {l1 : Int32} {l2 : Int32} {l3 : Int32} {M : I_M} {r : (Int32 × I_M)} (hd : 2 ≤ d) (h : j_Lat_indexOf l1 l2 l3 M = some r) : I_Ex d 55 [.ref 104, .int l1, .int l2, .int l3] (i_S X M) (some (.int r.1)) (i_S X r.2) := by
  obtain ⟨d, rfl⟩ : ∃ d1, d = d1 + 1 := ⟨d - 1, by omega⟩
  unfold j_Lat_indexOf at h
  refine i_ex (e := i_r55) (lv := [some (.ref 104), some (.int l1), some (.int l2), some (.int l3)]) rfl (Nat.le_of_ble_eq_true rfl) rfl ?_
  show I_RnE (I_Ex d) i_c55 (0, [some (.ref 104), some (.int l1), some (.int l2), some (.int l3)], [], i_S X M) _ _
  refine i_rs 1 (cf' := (1, [some (.ref 104), some (.int l1), some (.int l2), some (.int l3)], [.int l1], i_S X M)) rfl ?_
  obtain ⟨q1, hq1, h⟩ := i_bdE h
  refine i_rcall (k := 56) (as := [.int l1]) (cf1 := (4, [some (.ref 104), some (.int l1), some (.int l2), some (.int l3)], [], i_S X M)) (cf' := (4, [some (.ref 104), some (.int l1), some (.int l2), some (.int l3)], [.int q1.1], i_S X q1.2)) rfl (ok_j_Lat_canEncode (by omega) hq1) rfl ?_
  by_cases c2 : q1.1 = (0 : Int32)
  · replace h := (if_pos c2).symm.trans h
    refine i_rbT (c := q1.1 = (0 : Int32)) (t := 7) (n := 9) rfl c2 ?_
    refine i_rs 1 (cf' := (8, [some (.ref 104), some (.int l1), some (.int l2), some (.int l3)], [.int (-1 : Int32)], i_S X q1.2)) rfl ?_
    obtain rfl := Option.some.inj h
    exact i_rret rfl rfl
  · replace h := (if_neg c2).symm.trans h
    refine i_rbF (c := q1.1 = (0 : Int32)) (t := 7) (n := 9) rfl c2 ?_
    refine i_rs 11 (cf' := (24, [some (.ref 104), some (.int l1), some (.int (i_max l2 (0 : Int32))), some (.int (i_min l3 (7 : Int32)))], [.int (i_min l3 (7 : Int32)), .int (i_max l2 (0 : Int32))], i_S X q1.2)) rfl ?_
    by_cases c3 : (i_max l2 (0 : Int32)) < (i_min l3 (7 : Int32))
    · replace h := (if_pos c3).symm.trans h
      refine i_rbT (c := (i_max l2 (0 : Int32)) < (i_min l3 (7 : Int32))) (t := 29) (n := 27) rfl c3 ?_
      refine i_rs 4 (cf' := (33, [some (.ref 104), some (.int l1), some (.int (i_max l2 (0 : Int32))), some (.int (i_min l3 (7 : Int32)))], [.int (i_min l3 (7 : Int32)), .int (i_max l2 (0 : Int32)), .int l1, .ref 104], i_S X q1.2)) rfl ?_
      obtain ⟨q4, hq4, h⟩ := i_bdE h
      refine i_rcall (k := 57) (as := [.ref 104, .int l1, .int (i_max l2 (0 : Int32)), .int (i_min l3 (7 : Int32))]) (cf1 := (36, [some (.ref 104), some (.int l1), some (.int (i_max l2 (0 : Int32))), some (.int (i_min l3 (7 : Int32)))], [], i_S X q1.2)) (cf' := (36, [some (.ref 104), some (.int l1), some (.int (i_max l2 (0 : Int32))), some (.int (i_min l3 (7 : Int32)))], [.int q4.1], i_S X q4.2)) rfl (ok_j_Lat_indexOfChar (by omega) hq4) rfl ?_
      obtain rfl := Option.some.inj h
      exact i_rret rfl rfl
    · replace h := (if_neg c3).symm.trans h
      refine i_rbF (c := (i_max l2 (0 : Int32)) < (i_min l3 (7 : Int32))) (t := 29) (n := 27) rfl c3 ?_
      refine i_rs 1 (cf' := (28, [some (.ref 104), some (.int l1), some (.int (i_max l2 (0 : Int32))), some (.int (i_min l3 (7 : Int32)))], [.int (-1 : Int32)], i_S X q1.2)) rfl ?_
      obtain rfl := Option.some.inj h
      exact i_rret rfl rfl
def j_Str_indexOf2 (l1 : Int32) (l2 : Int32) (M : I_M) : Option (Int32 × I_M) :=
  Option.bind (j_Str_isLatin1 M) (fun q1 => (if q1.1 = (0 : Int32) then
      Option.bind (j_Str_length q1.2) (fun q3 => none)
    else
      Option.bind (j_Str_length q1.2) (fun q4 => Option.bind (j_Lat_indexOf l1 l2 q4.1 q4.2) (fun q5 => some (q5.1, q5.2)))))
theorem ok_j_Str_indexOf2 {X : Nat × (Nat → Int32)} {d : Nat} {l1 : Int32} {l2 : Int32} {M : I_M} {r : (Int32 × I_M)} (hd : 3 ≤ d) (h : j_Str_indexOf2 l1 l2 M = some r) : I_Ex d 51 [.ref 105, .int l1, .int l2] (i_S X M) (some (.int r.1)) (i_S X r.2) := by
  obtain ⟨d, rfl⟩ : ∃ d1, d = d1 + 1 := ⟨d - 1, by omega⟩
  unfold j_Str_indexOf2 at h
  refine i_ex (e := i_r51) (lv := [some (.ref 105), some (.int l1), some (.int l2)]) rfl (Nat.le_of_ble_eq_true rfl) rfl ?_
  show I_RnE (I_Ex d) i_c51 (0, [some (.ref 105), some (.int l1), some (.int l2)], [], i_S X M) _ _
  refine i_rs 1 (cf' := (1, [some (.ref 105), some (.int l1), some (.int l2)], [.ref 105], i_S X M)) rfl ?_
  obtain ⟨q1, hq1, h⟩ := i_bdE h
  refine i_rcall (k := 52) (as := [.ref 105]) (cf1 := (4, [some (.ref 105), some (.int l1), some (.int l2)], [], i_S X M)) (cf' := (4, [some (.ref 105), some (.int l1), some (.int l2)], [.int q1.1], i_S X q1.2)) rfl (ok_j_Str_isLatin1 (by omega) hq1) rfl ?_
  by_cases c2 : q1.1 = (0 : Int32)
  · replace h := (if_pos c2).symm.trans h
    refine i_rbT (c := q1.1 = (0 : Int32)) (t := 23) (n := 7) rfl c2 ?_
    refine i_rs 5 (cf' := (30, [some (.ref 105), some (.int l1), some (.int l2)], [.ref 105, .int l2, .int l1, .ref 104], i_S X q1.2)) rfl ?_
    obtain ⟨q3, hq3, h⟩ := i_bdE h
    refine i_rcall (k := 53) (as := [.ref 105]) (cf1 := (33, [some (.ref 105), some (.int l1), some (.int l2)], [.int l2, .int l1, .ref 104], i_S X q1.2)) (cf' := (33, [some (.ref 105), some (.int l1), some (.int l2)], [.int q3.1, .int l2, .int l1, .ref 104], i_S X q3.2)) rfl (ok_j_Str_length (by omega) hq3) rfl ?_
    cases h
  · replace h := (if_neg c2).symm.trans h
    refine i_rbF (c := q1.1 = (0 : Int32)) (t := 23) (n := 7) rfl c2 ?_
    refine i_rs 5 (cf' := (14, [some (.ref 105), some (.int l1), some (.int l2)], [.ref 105, .int l2, .int l1, .ref 104], i_S X q1.2)) rfl ?_
    obtain ⟨q4, hq4, h⟩ := i_bdE h
    refine i_rcall (k := 53) (as := [.ref 105]) (cf1 := (17, [some (.ref 105), some (.int l1), some (.int l2)], [.int l2, .int l1, .ref 104], i_S X q1.2)) (cf' := (17, [some (.ref 105), some (.int l1), some (.int l2)], [.int q4.1, .int l2, .int l1, .ref 104], i_S X q4.2)) rfl (ok_j_Str_length (by omega) hq4) rfl ?_
    obtain ⟨q5, hq5, h⟩ := i_bdE h
    refine i_rcall (k := 55) (as := [.ref 104, .int l1, .int l2, .int q4.1]) (cf1 := (20, [some (.ref 105), some (.int l1), some (.int l2)], [], i_S X q4.2)) (cf' := (20, [some (.ref 105), some (.int l1), some (.int l2)], [.int q5.1], i_S X q5.2)) rfl (ok_j_Lat_indexOf (by omega) hq5) rfl ?_
    refine i_rs 1 (cf' := (36, [some (.ref 105), some (.int l1), some (.int l2)], [.int q5.1], i_S X q5.2)) rfl ?_
    obtain rfl := Option.some.inj h
    exact i_rret rfl rfl
def j_Str_indexOf (l1 : Int32) (M : I_M) : Option (Int32 × I_M) :=
  Option.bind (j_Str_indexOf2 l1 (0 : Int32) M) (fun q1 => some (q1.1, q1.2))
theorem ok_j_Str_indexOf {X : Nat × (Nat → Int32)} {d : Nat} {l1 : Int32} {M : I_M} {r : (Int32 × I_M)} (hd : 4 ≤ d) (h : j_Str_indexOf l1 M = some r) : I_Ex d 50 [.ref 105, .int l1] (i_S X M) (some (.int r.1)) (i_S X r.2) := by
  obtain ⟨d, rfl⟩ : ∃ d1, d = d1 + 1 := ⟨d - 1, by omega⟩
  unfold j_Str_indexOf at h
  refine i_ex (e := i_r50) (lv := [some (.ref 105), some (.int l1)]) rfl (Nat.le_of_ble_eq_true rfl) rfl ?_
  show I_RnE (I_Ex d) i_c50 (0, [some (.ref 105), some (.int l1)], [], i_S X M) _ _
  refine i_rs 3 (cf' := (3, [some (.ref 105), some (.int l1)], [.int (0 : Int32), .int l1, .ref 105], i_S X M)) rfl ?_
  obtain ⟨q1, hq1, h⟩ := i_bdE h
  refine i_rcall (k := 51) (as := [.ref 105, .int l1, .int (0 : Int32)]) (cf1 := (6, [some (.ref 105), some (.int l1)], [], i_S X M)) (cf' := (6, [some (.ref 105), some (.int l1)], [.int q1.1], i_S X q1.2)) rfl (ok_j_Str_indexOf2 (by omega) hq1) rfl ?_
  obtain rfl := Option.some.inj h
  exact i_rret rfl rfl
def b_Tape_levelOf (l0 : Int32) (M : I_M) : Option (Int32 × I_M) :=
  (if l0 = (37 : Int32) then
      some ((4 : Int32), M)
    else
      (if l0 = (38 : Int32) then
        some ((1 : Int32), M)
      else
        (if l0 = (42 : Int32) then
          some ((4 : Int32), M)
        else
          (if l0 = (43 : Int32) then
            some ((3 : Int32), M)
          else
            (if l0 = (45 : Int32) then
              some ((3 : Int32), M)
            else
              (if l0 = (47 : Int32) then
                some ((4 : Int32), M)
              else
                (if l0 = (60 : Int32) then
                  some ((2 : Int32), M)
                else
                  (if l0 = (61 : Int32) then
                    some ((2 : Int32), M)
                  else
                    (if l0 = (62 : Int32) then
                      some ((2 : Int32), M)
                    else
                      (if l0 = (124 : Int32) then
                        some ((0 : Int32), M)
                      else
                        some ((-1 : Int32), M)))))))))))
theorem ok_b_Tape_levelOf {X : Nat × (Nat → Int32)} {d : Nat} {l0 : Int32} {M : I_M} {r : (Int32 × I_M)} (hd : 1 ≤ d) (h : b_Tape_levelOf l0 M = some r) : I_Ex d 62 [.int l0] (i_S X M) (some (.int r.1)) (i_S X r.2) := by
  obtain ⟨d, rfl⟩ : ∃ d1, d = d1 + 1 := ⟨d - 1, by omega⟩
  unfold b_Tape_levelOf at h
  refine i_ex (e := i_r62) (lv := [some (.int l0)]) rfl (Nat.le_of_ble_eq_true rfl) rfl ?_
  show I_RnE (I_Ex d) i_c62 (0, [some (.int l0)], [], i_S X M) _ _
  refine i_rs 1 (cf' := (1, [some (.int l0)], [.int l0], i_S X M)) rfl ?_
  refine i_stp1 (cf' := (i_sw l0 102 [(37, 100), (38, 94), (42, 100), (43, 98), (45, 98), (47, 100), (60, 96), (61, 96), (62, 96), (124, 92)], [some (.int l0)], [], i_S X M)) rfl ?_
  by_cases c1 : l0 = (37 : Int32)
  · replace h := (if_pos c1).symm.trans h
    refine i_rswT c1 ?_
    refine i_rs 1 (cf' := (101, [some (.int l0)], [.int (4 : Int32)], i_S X M)) rfl ?_
    obtain rfl := Option.some.inj h
    exact i_rret rfl rfl
  · replace h := (if_neg c1).symm.trans h
    refine i_rswF c1 ?_
    by_cases c2 : l0 = (38 : Int32)
    · replace h := (if_pos c2).symm.trans h
      refine i_rswT c2 ?_
      refine i_rs 1 (cf' := (95, [some (.int l0)], [.int (1 : Int32)], i_S X M)) rfl ?_
      obtain rfl := Option.some.inj h
      exact i_rret rfl rfl
    · replace h := (if_neg c2).symm.trans h
      refine i_rswF c2 ?_
      by_cases c3 : l0 = (42 : Int32)
      · replace h := (if_pos c3).symm.trans h
        refine i_rswT c3 ?_
        refine i_rs 1 (cf' := (101, [some (.int l0)], [.int (4 : Int32)], i_S X M)) rfl ?_
        obtain rfl := Option.some.inj h
        exact i_rret rfl rfl
      · replace h := (if_neg c3).symm.trans h
        refine i_rswF c3 ?_
        by_cases c4 : l0 = (43 : Int32)
        · replace h := (if_pos c4).symm.trans h
          refine i_rswT c4 ?_
          refine i_rs 1 (cf' := (99, [some (.int l0)], [.int (3 : Int32)], i_S X M)) rfl ?_
          obtain rfl := Option.some.inj h
          exact i_rret rfl rfl
        · replace h := (if_neg c4).symm.trans h
          refine i_rswF c4 ?_
          by_cases c5 : l0 = (45 : Int32)
          · replace h := (if_pos c5).symm.trans h
            refine i_rswT c5 ?_
            refine i_rs 1 (cf' := (99, [some (.int l0)], [.int (3 : Int32)], i_S X M)) rfl ?_
            obtain rfl := Option.some.inj h
            exact i_rret rfl rfl
          · replace h := (if_neg c5).symm.trans h
            refine i_rswF c5 ?_
            by_cases c6 : l0 = (47 : Int32)
            · replace h := (if_pos c6).symm.trans h
              refine i_rswT c6 ?_
              refine i_rs 1 (cf' := (101, [some (.int l0)], [.int (4 : Int32)], i_S X M)) rfl ?_
              obtain rfl := Option.some.inj h
              exact i_rret rfl rfl
            · replace h := (if_neg c6).symm.trans h
              refine i_rswF c6 ?_
              by_cases c7 : l0 = (60 : Int32)
              · replace h := (if_pos c7).symm.trans h
                refine i_rswT c7 ?_
                refine i_rs 1 (cf' := (97, [some (.int l0)], [.int (2 : Int32)], i_S X M)) rfl ?_
                obtain rfl := Option.some.inj h
                exact i_rret rfl rfl
              · replace h := (if_neg c7).symm.trans h
                refine i_rswF c7 ?_
                by_cases c8 : l0 = (61 : Int32)
                · replace h := (if_pos c8).symm.trans h
                  refine i_rswT c8 ?_
                  refine i_rs 1 (cf' := (97, [some (.int l0)], [.int (2 : Int32)], i_S X M)) rfl ?_
                  obtain rfl := Option.some.inj h
                  exact i_rret rfl rfl
                · replace h := (if_neg c8).symm.trans h
                  refine i_rswF c8 ?_
                  by_cases c9 : l0 = (62 : Int32)
                  · replace h := (if_pos c9).symm.trans h
                    refine i_rswT c9 ?_
                    refine i_rs 1 (cf' := (97, [some (.int l0)], [.int (2 : Int32)], i_S X M)) rfl ?_
                    obtain rfl := Option.some.inj h
                    exact i_rret rfl rfl
                  · replace h := (if_neg c9).symm.trans h
                    refine i_rswF c9 ?_
                    by_cases c10 : l0 = (124 : Int32)
                    · replace h := (if_pos c10).symm.trans h
                      refine i_rswT c10 ?_
                      refine i_rs 1 (cf' := (93, [some (.int l0)], [.int (0 : Int32)], i_S X M)) rfl ?_
                      obtain rfl := Option.some.inj h
                      exact i_rret rfl rfl
                    · replace h := (if_neg c10).symm.trans h
                      refine i_rswF c10 ?_
                      refine i_rs 1 (cf' := (103, [some (.int l0)], [.int (-1 : Int32)], i_S X M)) rfl ?_
                      obtain rfl := Option.some.inj h
                      exact i_rret rfl rfl
def b_Tape_readPart_b_L21 (rec_b_Tape_readPart : Int32 → Int32 → I_M → Option I_M) (rec_b_Tape_readOperand : Int32 → I_M → Option I_M) (l1 : Int32) (l2 : Int32) : Nat → Int32 → I_M → Option I_M
  | 0, _, _ => none
  | n + 1, l3, M =>
    (if l3 < (120 : Int32) then
        Option.bind (b_Tape_ahead M) (fun q2 => Option.bind (b_Tape_levelOf q2.1 q2.2) (fun q3 => (if q3.1 = l1 then
          Option.bind (b_Tape_ahead q3.2) (fun q5 => Option.bind (rec_b_Tape_readPart (l1 + (1 : Int32)) l2 (i_wI q5.2 6 4 ((q5.2.1 6 4) + (1 : Int32)))) (fun q6 => Option.bind (b_Tape_step (-q5.1) q6) (fun q7 => (if l1 = (2 : Int32) then
            some q7
          else
            (b_Tape_readPart_b_L21 rec_b_Tape_readPart rec_b_Tape_readOperand l1 l2 n) (l3 + (1 : Int32)) q7))))
        else
          some q3.2)))
      else
        some M)
theorem ok_b_Tape_readPart_b_L21 {X : Nat × (Nat → Int32)} {d : Nat} {rec_b_Tape_readPart : Int32 → Int32 → I_M → Option I_M} {rec_b_Tape_readOperand : Int32 → I_M → Option I_M} {l1 : Int32} {l2 : Int32} {N : Nat} (hN : 6 ≤ N) (hr_b_Tape_readPart : ∀ (d : Nat), N ≤ d → ∀ (a1 : Int32) (a2 : Int32) (M : I_M) (q : I_M), rec_b_Tape_readPart a1 a2 M = some q → I_Ex d 47 [.ref 6, .int a1, .int a2] (i_S X M) none (i_S X q)) (hr_b_Tape_readOperand : ∀ (d : Nat), N ≤ d → ∀ (a1 : Int32) (M : I_M) (q : I_M), rec_b_Tape_readOperand a1 M = some q → I_Ex d 48 [.ref 6, .int a1] (i_S X M) none (i_S X q)) (hd : N + 1 ≤ d + 1) : ∀ (n : Nat) (l3 : Int32) (M : I_M) (r : I_M), b_Tape_readPart_b_L21 rec_b_Tape_readPart rec_b_Tape_readOperand l1 l2 n l3 M = some r → I_RnE (I_Ex d) i_c47 (21, [some (.ref 6), some (.int l1), some (.int l2), some (.int l3), none], [], i_S X M) none (i_S X r) := by
  intro n
  induction n with
  | zero => intro _ M r h; cases h
  | succ n hself =>
    intro l3 M r h
    rw [b_Tape_readPart_b_L21] at h
    refine i_rs 2 (cf' := (24, [some (.ref 6), some (.int l1), some (.int l2), some (.int l3), none], [.int (120 : Int32), .int l3], i_S X M)) rfl ?_
    by_cases c1 : l3 < (120 : Int32)
    · replace h := (if_pos c1).symm.trans h
      refine i_rbT (c := l3 < (120 : Int32)) (t := 27) (n := 81) rfl c1 ?_
      refine i_rs 1 (cf' := (28, [some (.ref 6), some (.int l1), some (.int l2), some (.int l3), none], [.ref 6], i_S X M)) rfl ?_
      obtain ⟨q2, hq2, h⟩ := i_bdE h
      refine i_rcall (k := 49) (as := [.ref 6]) (cf1 := (31, [some (.ref 6), some (.int l1), some (.int l2), some (.int l3), none], [], i_S X M)) (cf' := (31, [some (.ref 6), some (.int l1), some (.int l2), some (.int l3), none], [.int q2.1], i_S X q2.2)) rfl (ok_b_Tape_ahead (by omega) hq2) rfl ?_
      obtain ⟨q3, hq3, h⟩ := i_bdE h
      refine i_rcall (k := 62) (as := [.int q2.1]) (cf1 := (34, [some (.ref 6), some (.int l1), some (.int l2), some (.int l3), none], [], i_S X q2.2)) (cf' := (34, [some (.ref 6), some (.int l1), some (.int l2), some (.int l3), none], [.int q3.1], i_S X q3.2)) rfl (ok_b_Tape_levelOf (by omega) hq3) rfl ?_
      refine i_rs 1 (cf' := (35, [some (.ref 6), some (.int l1), some (.int l2), some (.int l3), none], [.int l1, .int q3.1], i_S X q3.2)) rfl ?_
      by_cases c4 : q3.1 = l1
      · replace h := (if_pos c4).symm.trans h
        refine i_rbT (c := q3.1 = l1) (t := 38) (n := 81) rfl c4 ?_
        refine i_rs 1 (cf' := (39, [some (.ref 6), some (.int l1), some (.int l2), some (.int l3), none], [.ref 6], i_S X q3.2)) rfl ?_
        obtain ⟨q5, hq5, h⟩ := i_bdE h
        refine i_rcall (k := 49) (as := [.ref 6]) (cf1 := (42, [some (.ref 6), some (.int l1), some (.int l2), some (.int l3), none], [], i_S X q3.2)) (cf' := (42, [some (.ref 6), some (.int l1), some (.int l2), some (.int l3), none], [.int q5.1], i_S X q5.2)) rfl (ok_b_Tape_ahead (by omega) hq5) rfl ?_
        refine i_rs 12 (cf' := (59, [some (.ref 6), some (.int l1), some (.int l2), some (.int l3), some (.int q5.1)], [.int l2, .int (l1 + (1 : Int32)), .ref 6], i_S X (i_wI q5.2 6 4 ((q5.2.1 6 4) + (1 : Int32))))) rfl ?_
        obtain ⟨q6, hq6, h⟩ := i_bdE h
        refine i_rcall (k := 47) (as := [.ref 6, .int (l1 + (1 : Int32)), .int l2]) (cf1 := (62, [some (.ref 6), some (.int l1), some (.int l2), some (.int l3), some (.int q5.1)], [], i_S X (i_wI q5.2 6 4 ((q5.2.1 6 4) + (1 : Int32))))) (cf' := (62, [some (.ref 6), some (.int l1), some (.int l2), some (.int l3), some (.int q5.1)], [], i_S X q6)) rfl (hr_b_Tape_readPart _ (by omega) _ _ _ _ hq6) rfl ?_
        refine i_rs 3 (cf' := (66, [some (.ref 6), some (.int l1), some (.int l2), some (.int l3), some (.int q5.1)], [.int (-q5.1), .ref 6], i_S X q6)) rfl ?_
        obtain ⟨q7, hq7, h⟩ := i_bdE h
        refine i_rcall (k := 60) (as := [.ref 6, .int (-q5.1)]) (cf1 := (69, [some (.ref 6), some (.int l1), some (.int l2), some (.int l3), some (.int q5.1)], [], i_S X q6)) (cf' := (69, [some (.ref 6), some (.int l1), some (.int l2), some (.int l3), some (.int q5.1)], [], i_S X q7)) rfl (ok_b_Tape_step (by omega) hq7) rfl ?_
        refine i_rs 2 (cf' := (71, [some (.ref 6), some (.int l1), some (.int l2), some (.int l3), some (.int q5.1)], [.int (2 : Int32), .int l1], i_S X q7)) rfl ?_
        by_cases c8 : l1 = (2 : Int32)
        · replace h := (if_pos c8).symm.trans h
          refine i_rbT (c := l1 = (2 : Int32)) (t := 74) (n := 75) rfl c8 ?_
          obtain rfl := Option.some.inj h
          exact i_rret rfl rfl
        · replace h := (if_neg c8).symm.trans h
          refine i_rbF (c := l1 = (2 : Int32)) (t := 74) (n := 75) rfl c8 ?_
          refine i_rs 2 (cf' := (21, [some (.ref 6), some (.int l1), some (.int l2), some (.int (l3 + (1 : Int32))), some (.int q5.1)], [], i_S X q7)) rfl ?_
          refine i_fg (lv' := [some (.ref 6), some (.int l1), some (.int l2), some (.int (l3 + (1 : Int32))), none]) (And.intro rfl (And.intro rfl (And.intro rfl (And.intro rfl True.intro)))) ?_
          exact hself (l3 + (1 : Int32)) q7 _ h
      · replace h := (if_neg c4).symm.trans h
        refine i_rbF (c := q3.1 = l1) (t := 38) (n := 81) rfl c4 ?_
        obtain rfl := Option.some.inj h
        exact i_rret rfl rfl
    · replace h := (if_neg c1).symm.trans h
      refine i_rbF (c := l3 < (120 : Int32)) (t := 27) (n := 81) rfl c1 ?_
      obtain rfl := Option.some.inj h
      exact i_rret rfl rfl
def b_Tape_readPart_b (rec_b_Tape_readPart : Int32 → Int32 → I_M → Option I_M) (rec_b_Tape_readOperand : Int32 → I_M → Option I_M) (l1 : Int32) (l2 : Int32) (M : I_M) : Option I_M :=
  (if l1 < (5 : Int32) then
      Option.bind (rec_b_Tape_readPart (l1 + (1 : Int32)) l2 M) (fun q10 => b_Tape_readPart_b_L21 rec_b_Tape_readPart rec_b_Tape_readOperand l1 l2 i_F (0 : Int32) q10)
    else
      Option.bind (rec_b_Tape_readOperand l2 M) (fun q11 => some q11))
theorem ok_b_Tape_readPart_b {X : Nat × (Nat → Int32)} {d : Nat} {rec_b_Tape_readPart : Int32 → Int32 → I_M → Option I_M} {rec_b_Tape_readOperand : Int32 → I_M → Option I_M} {l1 : Int32} {l2 : Int32} {M : I_M} {r : I_M} {N : Nat} (hN : 6 ≤ N) (hr_b_Tape_readPart : ∀ (d : Nat), N ≤ d → ∀ (a1 : Int32) (a2 : Int32) (M : I_M) (q : I_M), rec_b_Tape_readPart a1 a2 M = some q → I_Ex d 47 [.ref 6, .int a1, .int a2] (i_S X M) none (i_S X q)) (hr_b_Tape_readOperand : ∀ (d : Nat), N ≤ d → ∀ (a1 : Int32) (M : I_M) (q : I_M), rec_b_Tape_readOperand a1 M = some q → I_Ex d 48 [.ref 6, .int a1] (i_S X M) none (i_S X q)) (hd : N + 1 ≤ d) (h : b_Tape_readPart_b rec_b_Tape_readPart rec_b_Tape_readOperand l1 l2 M = some r) : I_Ex d 47 [.ref 6, .int l1, .int l2] (i_S X M) none (i_S X r) := by
  obtain ⟨d, rfl⟩ : ∃ d1, d = d1 + 1 := ⟨d - 1, by omega⟩
  unfold b_Tape_readPart_b at h
  refine i_ex (e := i_r47) (lv := [some (.ref 6), some (.int l1), some (.int l2), none, none]) rfl (Nat.le_of_ble_eq_true rfl) rfl ?_
  show I_RnE (I_Ex d) i_c47 (0, [some (.ref 6), some (.int l1), some (.int l2), none, none], [], i_S X M) _ _
  refine i_rs 2 (cf' := (2, [some (.ref 6), some (.int l1), some (.int l2), none, none], [.int (5 : Int32), .int l1], i_S X M)) rfl ?_
  by_cases c9 : l1 < (5 : Int32)
  · replace h := (if_pos c9).symm.trans h
    refine i_rbT (c := l1 < (5 : Int32)) (t := 11) (n := 5) rfl c9 ?_
    refine i_rs 5 (cf' := (16, [some (.ref 6), some (.int l1), some (.int l2), none, none], [.int l2, .int (l1 + (1 : Int32)), .ref 6], i_S X M)) rfl ?_
    obtain ⟨q10, hq10, h⟩ := i_bdE h
    refine i_rcall (k := 47) (as := [.ref 6, .int (l1 + (1 : Int32)), .int l2]) (cf1 := (19, [some (.ref 6), some (.int l1), some (.int l2), none, none], [], i_S X M)) (cf' := (19, [some (.ref 6), some (.int l1), some (.int l2), none, none], [], i_S X q10)) rfl (hr_b_Tape_readPart _ (by omega) _ _ _ _ hq10) rfl ?_
    refine i_rs 2 (cf' := (21, [some (.ref 6), some (.int l1), some (.int l2), some (.int (0 : Int32)), none], [], i_S X q10)) rfl ?_
    refine i_fg (lv' := [some (.ref 6), some (.int l1), some (.int l2), some (.int (0 : Int32)), none]) (And.intro rfl (And.intro rfl (And.intro rfl (And.intro rfl True.intro)))) ?_
    refine ok_b_Tape_readPart_b_L21 hN hr_b_Tape_readPart hr_b_Tape_readOperand (by omega) i_F (0 : Int32) q10 _ h
  · replace h := (if_neg c9).symm.trans h
    refine i_rbF (c := l1 < (5 : Int32)) (t := 11) (n := 5) rfl c9 ?_
    refine i_rs 2 (cf' := (7, [some (.ref 6), some (.int l1), some (.int l2), none, none], [.int l2, .ref 6], i_S X M)) rfl ?_
    obtain ⟨q11, hq11, h⟩ := i_bdE h
    refine i_rcall (k := 48) (as := [.ref 6, .int l2]) (cf1 := (10, [some (.ref 6), some (.int l1), some (.int l2), none, none], [], i_S X M)) (cf' := (10, [some (.ref 6), some (.int l1), some (.int l2), none, none], [], i_S X q11)) rfl (hr_b_Tape_readOperand _ (by omega) _ _ _ hq11) rfl ?_
    obtain rfl := Option.some.inj h
    exact i_rret rfl rfl
def b_Tape_readOperand_b_B118 (rec_b_Tape_readPart : Int32 → Int32 → I_M → Option I_M) (rec_b_Tape_readOperand : Int32 → I_M → Option I_M) (l1 : Int32) (l2 : Int32) (M : I_M) : Option I_M :=
  (if l1 < (6 : Int32) then
      (if l2 = (40 : Int32) then
        Option.bind (rec_b_Tape_readPart (0 : Int32) (l1 + (1 : Int32)) (i_wI M 6 4 ((M.1 6 4) + (1 : Int32)))) (fun q15 => Option.bind (b_Tape_ahead q15) (fun q16 => (if q16.1 = (41 : Int32) then
          some (i_wI q16.2 6 4 ((q16.2.1 6 4) + (1 : Int32)))
        else
          Option.bind (b_Tape_fail q16.2) (fun q18 => some q18))))
      else
        Option.bind (b_Tape_fail M) (fun q19 => some q19))
    else
      Option.bind (b_Tape_fail M) (fun q20 => some q20))
theorem ok_b_Tape_readOperand_b_B118 {X : Nat × (Nat → Int32)} {d : Nat} {rec_b_Tape_readPart : Int32 → Int32 → I_M → Option I_M} {rec_b_Tape_readOperand : Int32 → I_M → Option I_M} {l1 : Int32} {l2 : Int32} {M : I_M} {r : I_M} {N : Nat} (hN : 6 ≤ N) (hr_b_Tape_readPart : ∀ (d : Nat), N ≤ d → ∀ (a1 : Int32) (a2 : Int32) (M : I_M) (q : I_M), rec_b_Tape_readPart a1 a2 M = some q → I_Ex d 47 [.ref 6, .int a1, .int a2] (i_S X M) none (i_S X q)) (hr_b_Tape_readOperand : ∀ (d : Nat), N ≤ d → ∀ (a1 : Int32) (M : I_M) (q : I_M), rec_b_Tape_readOperand a1 M = some q → I_Ex d 48 [.ref 6, .int a1] (i_S X M) none (i_S X q)) (hd : N + 1 ≤ d + 1) (h : b_Tape_readOperand_b_B118 rec_b_Tape_readPart rec_b_Tape_readOperand l1 l2 M = some r) : I_RnE (I_Ex d) i_c48 (118, [some (.ref 6), some (.int l1), some (.int l2), none], [], i_S X M) none (i_S X r) := by
  unfold b_Tape_readOperand_b_B118 at h
  refine i_rs 2 (cf' := (121, [some (.ref 6), some (.int l1), some (.int l2), none], [.int (6 : Int32), .int l1], i_S X M)) rfl ?_
  by_cases c13 : l1 < (6 : Int32)
  · replace h := (if_pos c13).symm.trans h
    refine i_rbT (c := l1 < (6 : Int32)) (t := 124) (n := 177) rfl c13 ?_
    refine i_rs 2 (cf' := (127, [some (.ref 6), some (.int l1), some (.int l2), none], [.int (40 : Int32), .int l2], i_S X M)) rfl ?_
    by_cases c14 : l2 = (40 : Int32)
    · replace h := (if_pos c14).symm.trans h
      refine i_rbT (c := l2 = (40 : Int32)) (t := 130) (n := 177) rfl c14 ?_
      refine i_rs 11 (cf' := (145, [some (.ref 6), some (.int l1), some (.int l2), none], [.int (l1 + (1 : Int32)), .int (0 : Int32), .ref 6], i_S X (i_wI M 6 4 ((M.1 6 4) + (1 : Int32))))) rfl ?_
      obtain ⟨q15, hq15, h⟩ := i_bdE h
      refine i_rcall (k := 47) (as := [.ref 6, .int (0 : Int32), .int (l1 + (1 : Int32))]) (cf1 := (148, [some (.ref 6), some (.int l1), some (.int l2), none], [], i_S X (i_wI M 6 4 ((M.1 6 4) + (1 : Int32))))) (cf' := (148, [some (.ref 6), some (.int l1), some (.int l2), none], [], i_S X q15)) rfl (hr_b_Tape_readPart _ (by omega) _ _ _ _ hq15) rfl ?_
      refine i_rs 1 (cf' := (149, [some (.ref 6), some (.int l1), some (.int l2), none], [.ref 6], i_S X q15)) rfl ?_
      obtain ⟨q16, hq16, h⟩ := i_bdE h
      refine i_rcall (k := 49) (as := [.ref 6]) (cf1 := (152, [some (.ref 6), some (.int l1), some (.int l2), none], [], i_S X q15)) (cf' := (152, [some (.ref 6), some (.int l1), some (.int l2), none], [.int q16.1], i_S X q16.2)) rfl (ok_b_Tape_ahead (by omega) hq16) rfl ?_
      refine i_rs 1 (cf' := (154, [some (.ref 6), some (.int l1), some (.int l2), none], [.int (41 : Int32), .int q16.1], i_S X q16.2)) rfl ?_
      by_cases c17 : q16.1 = (41 : Int32)
      · replace h := (if_pos c17).symm.trans h
        refine i_rbT (c := q16.1 = (41 : Int32)) (t := 157) (n := 170) rfl c17 ?_
        refine i_rs 7 (cf' := (181, [some (.ref 6), some (.int l1), some (.int l2), none], [], i_S X (i_wI q16.2 6 4 ((q16.2.1 6 4) + (1 : Int32))))) rfl ?_
        obtain rfl := Option.some.inj h
        exact i_rret rfl rfl
      · replace h := (if_neg c17).symm.trans h
        refine i_rbF (c := q16.1 = (41 : Int32)) (t := 157) (n := 170) rfl c17 ?_
        refine i_rs 1 (cf' := (171, [some (.ref 6), some (.int l1), some (.int l2), none], [.ref 6], i_S X q16.2)) rfl ?_
        obtain ⟨q18, hq18, h⟩ := i_bdE h
        refine i_rcall (k := 61) (as := [.ref 6]) (cf1 := (174, [some (.ref 6), some (.int l1), some (.int l2), none], [], i_S X q16.2)) (cf' := (174, [some (.ref 6), some (.int l1), some (.int l2), none], [], i_S X q18)) rfl (ok_b_Tape_fail (by omega) hq18) rfl ?_
        refine i_rs 1 (cf' := (181, [some (.ref 6), some (.int l1), some (.int l2), none], [], i_S X q18)) rfl ?_
        obtain rfl := Option.some.inj h
        exact i_rret rfl rfl
    · replace h := (if_neg c14).symm.trans h
      refine i_rbF (c := l2 = (40 : Int32)) (t := 130) (n := 177) rfl c14 ?_
      refine i_rs 1 (cf' := (178, [some (.ref 6), some (.int l1), some (.int l2), none], [.ref 6], i_S X M)) rfl ?_
      obtain ⟨q19, hq19, h⟩ := i_bdE h
      refine i_rcall (k := 61) (as := [.ref 6]) (cf1 := (181, [some (.ref 6), some (.int l1), some (.int l2), none], [], i_S X M)) (cf' := (181, [some (.ref 6), some (.int l1), some (.int l2), none], [], i_S X q19)) rfl (ok_b_Tape_fail (by omega) hq19) rfl ?_
      obtain rfl := Option.some.inj h
      exact i_rret rfl rfl
  · replace h := (if_neg c13).symm.trans h
    refine i_rbF (c := l1 < (6 : Int32)) (t := 124) (n := 177) rfl c13 ?_
    refine i_rs 1 (cf' := (178, [some (.ref 6), some (.int l1), some (.int l2), none], [.ref 6], i_S X M)) rfl ?_
    obtain ⟨q20, hq20, h⟩ := i_bdE h
    refine i_rcall (k := 61) (as := [.ref 6]) (cf1 := (181, [some (.ref 6), some (.int l1), some (.int l2), none], [], i_S X M)) (cf' := (181, [some (.ref 6), some (.int l1), some (.int l2), none], [], i_S X q20)) rfl (ok_b_Tape_fail (by omega) hq20) rfl ?_
    obtain rfl := Option.some.inj h
    exact i_rret rfl rfl
def b_Tape_readOperand_b_B80 (rec_b_Tape_readPart : Int32 → Int32 → I_M → Option I_M) (rec_b_Tape_readOperand : Int32 → I_M → Option I_M) (l1 : Int32) (l2 : Int32) (M : I_M) : Option I_M :=
  Option.bind (rec_b_Tape_readOperand (l1 + (1 : Int32)) (i_wI M 6 4 ((M.1 6 4) + (1 : Int32)))) (fun q1 => (if l2 = (33 : Int32) then
      Option.bind (b_Tape_step (-33 : Int32) q1) (fun q3 => some q3)
    else
      Option.bind (b_Tape_step (-300 : Int32) q1) (fun q4 => some q4)))
theorem ok_b_Tape_readOperand_b_B80 {X : Nat × (Nat → Int32)} {d : Nat} {rec_b_Tape_readPart : Int32 → Int32 → I_M → Option I_M} {rec_b_Tape_readOperand : Int32 → I_M → Option I_M} {l1 : Int32} {l2 : Int32} {M : I_M} {r : I_M} {N : Nat} (hN : 6 ≤ N) (hr_b_Tape_readPart : ∀ (d : Nat), N ≤ d → ∀ (a1 : Int32) (a2 : Int32) (M : I_M) (q : I_M), rec_b_Tape_readPart a1 a2 M = some q → I_Ex d 47 [.ref 6, .int a1, .int a2] (i_S X M) none (i_S X q)) (hr_b_Tape_readOperand : ∀ (d : Nat), N ≤ d → ∀ (a1 : Int32) (M : I_M) (q : I_M), rec_b_Tape_readOperand a1 M = some q → I_Ex d 48 [.ref 6, .int a1] (i_S X M) none (i_S X q)) (hd : N + 1 ≤ d + 1) (h : b_Tape_readOperand_b_B80 rec_b_Tape_readPart rec_b_Tape_readOperand l1 l2 M = some r) : I_RnE (I_Ex d) i_c48 (80, [some (.ref 6), some (.int l1), some (.int l2), none], [], i_S X M) none (i_S X r) := by
  unfold b_Tape_readOperand_b_B80 at h
  refine i_rs 10 (cf' := (94, [some (.ref 6), some (.int l1), some (.int l2), none], [.int (l1 + (1 : Int32)), .ref 6], i_S X (i_wI M 6 4 ((M.1 6 4) + (1 : Int32))))) rfl ?_
  obtain ⟨q1, hq1, h⟩ := i_bdE h
  refine i_rcall (k := 48) (as := [.ref 6, .int (l1 + (1 : Int32))]) (cf1 := (97, [some (.ref 6), some (.int l1), some (.int l2), none], [], i_S X (i_wI M 6 4 ((M.1 6 4) + (1 : Int32))))) (cf' := (97, [some (.ref 6), some (.int l1), some (.int l2), none], [], i_S X q1)) rfl (hr_b_Tape_readOperand _ (by omega) _ _ _ hq1) rfl ?_
  refine i_rs 3 (cf' := (101, [some (.ref 6), some (.int l1), some (.int l2), none], [.int (33 : Int32), .int l2, .ref 6], i_S X q1)) rfl ?_
  by_cases c2 : l2 = (33 : Int32)
  · replace h := (if_pos c2).symm.trans h
    refine i_rbT (c := l2 = (33 : Int32)) (t := 104) (n := 109) rfl c2 ?_
    refine i_rs 2 (cf' := (112, [some (.ref 6), some (.int l1), some (.int l2), none], [.int (-33 : Int32), .ref 6], i_S X q1)) rfl ?_
    obtain ⟨q3, hq3, h⟩ := i_bdE h
    refine i_rcall (k := 60) (as := [.ref 6, .int (-33 : Int32)]) (cf1 := (115, [some (.ref 6), some (.int l1), some (.int l2), none], [], i_S X q1)) (cf' := (115, [some (.ref 6), some (.int l1), some (.int l2), none], [], i_S X q3)) rfl (ok_b_Tape_step (by omega) hq3) rfl ?_
    refine i_rs 1 (cf' := (181, [some (.ref 6), some (.int l1), some (.int l2), none], [], i_S X q3)) rfl ?_
    obtain rfl := Option.some.inj h
    exact i_rret rfl rfl
  · replace h := (if_neg c2).symm.trans h
    refine i_rbF (c := l2 = (33 : Int32)) (t := 104) (n := 109) rfl c2 ?_
    refine i_rs 1 (cf' := (112, [some (.ref 6), some (.int l1), some (.int l2), none], [.int (-300 : Int32), .ref 6], i_S X q1)) rfl ?_
    obtain ⟨q4, hq4, h⟩ := i_bdE h
    refine i_rcall (k := 60) (as := [.ref 6, .int (-300 : Int32)]) (cf1 := (115, [some (.ref 6), some (.int l1), some (.int l2), none], [], i_S X q1)) (cf' := (115, [some (.ref 6), some (.int l1), some (.int l2), none], [], i_S X q4)) rfl (ok_b_Tape_step (by omega) hq4) rfl ?_
    refine i_rs 1 (cf' := (181, [some (.ref 6), some (.int l1), some (.int l2), none], [], i_S X q4)) rfl ?_
    obtain rfl := Option.some.inj h
    exact i_rret rfl rfl
def b_Tape_readOperand_b_B20 (rec_b_Tape_readPart : Int32 → Int32 → I_M → Option I_M) (rec_b_Tape_readOperand : Int32 → I_M → Option I_M) (l1 : Int32) (l2 : Int32) (s0 : Int32) (M : I_M) : Option I_M :=
  Option.bind (b_Tape_isDigit l2 M) (fun q5 => (if q5.1 = (0 : Int32) then
      (if s0 < (0 : Int32) then
        (if l1 < (6 : Int32) then
          (if l2 = (33 : Int32) then
            b_Tape_readOperand_b_B80 rec_b_Tape_readPart rec_b_Tape_readOperand l1 l2 q5.2
          else
            (if l2 = (45 : Int32) then
              b_Tape_readOperand_b_B80 rec_b_Tape_readPart rec_b_Tape_readOperand l1 l2 q5.2
            else
              b_Tape_readOperand_b_B118 rec_b_Tape_readPart rec_b_Tape_readOperand l1 l2 q5.2))
        else
          b_Tape_readOperand_b_B118 rec_b_Tape_readPart rec_b_Tape_readOperand l1 l2 q5.2)
      else
        Option.bind (b_Tape_step (-((400 : Int32) + s0)) (i_wI q5.2 6 4 ((q5.2.1 6 4) + (1 : Int32)))) (fun q11 => some q11))
    else
      Option.bind (b_Tape_readNumber q5.2) (fun q12 => some q12)))
theorem ok_b_Tape_readOperand_b_B20 {X : Nat × (Nat → Int32)} {d : Nat} {rec_b_Tape_readPart : Int32 → Int32 → I_M → Option I_M} {rec_b_Tape_readOperand : Int32 → I_M → Option I_M} {l1 : Int32} {l2 : Int32} {s0 : Int32} {M : I_M} {r : I_M} {N : Nat} (hN : 6 ≤ N) (hr_b_Tape_readPart : ∀ (d : Nat), N ≤ d → ∀ (a1 : Int32) (a2 : Int32) (M : I_M) (q : I_M), rec_b_Tape_readPart a1 a2 M = some q → I_Ex d 47 [.ref 6, .int a1, .int a2] (i_S X M) none (i_S X q)) (hr_b_Tape_readOperand : ∀ (d : Nat), N ≤ d → ∀ (a1 : Int32) (M : I_M) (q : I_M), rec_b_Tape_readOperand a1 M = some q → I_Ex d 48 [.ref 6, .int a1] (i_S X M) none (i_S X q)) (hd : N + 1 ≤ d + 1) (h : b_Tape_readOperand_b_B20 rec_b_Tape_readPart rec_b_Tape_readOperand l1 l2 s0 M = some r) : I_RnE (I_Ex d) i_c48 (20, [some (.ref 6), some (.int l1), some (.int l2), none], [.int s0], i_S X M) none (i_S X r) := by
  unfold b_Tape_readOperand_b_B20 at h
  refine i_rs 2 (cf' := (22, [some (.ref 6), some (.int l1), some (.int l2), some (.int s0)], [.int l2], i_S X M)) rfl ?_
  obtain ⟨q5, hq5, h⟩ := i_bdE h
  refine i_rcall (k := 58) (as := [.int l2]) (cf1 := (25, [some (.ref 6), some (.int l1), some (.int l2), some (.int s0)], [], i_S X M)) (cf' := (25, [some (.ref 6), some (.int l1), some (.int l2), some (.int s0)], [.int q5.1], i_S X q5.2)) rfl (ok_b_Tape_isDigit (by omega) hq5) rfl ?_
  by_cases c6 : q5.1 = (0 : Int32)
  · replace h := (if_pos c6).symm.trans h
    refine i_rbT (c := q5.1 = (0 : Int32)) (t := 35) (n := 28) rfl c6 ?_
    refine i_rs 1 (cf' := (36, [some (.ref 6), some (.int l1), some (.int l2), some (.int s0)], [.int s0], i_S X q5.2)) rfl ?_
    by_cases c7 : s0 < (0 : Int32)
    · replace h := (if_pos c7).symm.trans h
      refine i_rbT (c := s0 < (0 : Int32)) (t := 62) (n := 39) rfl c7 ?_
      refine i_rs 2 (cf' := (65, [some (.ref 6), some (.int l1), some (.int l2), some (.int s0)], [.int (6 : Int32), .int l1], i_S X q5.2)) rfl ?_
      by_cases c8 : l1 < (6 : Int32)
      · replace h := (if_pos c8).symm.trans h
        refine i_rbT (c := l1 < (6 : Int32)) (t := 68) (n := 118) rfl c8 ?_
        refine i_rs 2 (cf' := (71, [some (.ref 6), some (.int l1), some (.int l2), some (.int s0)], [.int (33 : Int32), .int l2], i_S X q5.2)) rfl ?_
        by_cases c9 : l2 = (33 : Int32)
        · replace h := (if_pos c9).symm.trans h
          refine i_rbT (c := l2 = (33 : Int32)) (t := 80) (n := 74) rfl c9 ?_
          refine i_fg (lv' := [some (.ref 6), some (.int l1), some (.int l2), none]) (And.intro rfl (And.intro rfl (And.intro rfl True.intro))) ?_
          exact ok_b_Tape_readOperand_b_B80 hN hr_b_Tape_readPart hr_b_Tape_readOperand (by omega) h
        · replace h := (if_neg c9).symm.trans h
          refine i_rbF (c := l2 = (33 : Int32)) (t := 80) (n := 74) rfl c9 ?_
          refine i_rs 2 (cf' := (77, [some (.ref 6), some (.int l1), some (.int l2), some (.int s0)], [.int (45 : Int32), .int l2], i_S X q5.2)) rfl ?_
          by_cases c10 : l2 = (45 : Int32)
          · replace h := (if_pos c10).symm.trans h
            refine i_rbT (c := l2 = (45 : Int32)) (t := 80) (n := 118) rfl c10 ?_
            refine i_fg (lv' := [some (.ref 6), some (.int l1), some (.int l2), none]) (And.intro rfl (And.intro rfl (And.intro rfl True.intro))) ?_
            exact ok_b_Tape_readOperand_b_B80 hN hr_b_Tape_readPart hr_b_Tape_readOperand (by omega) h
          · replace h := (if_neg c10).symm.trans h
            refine i_rbF (c := l2 = (45 : Int32)) (t := 80) (n := 118) rfl c10 ?_
            refine i_fg (lv' := [some (.ref 6), some (.int l1), some (.int l2), none]) (And.intro rfl (And.intro rfl (And.intro rfl True.intro))) ?_
            exact ok_b_Tape_readOperand_b_B118 hN hr_b_Tape_readPart hr_b_Tape_readOperand (by omega) h
      · replace h := (if_neg c8).symm.trans h
        refine i_rbF (c := l1 < (6 : Int32)) (t := 68) (n := 118) rfl c8 ?_
        refine i_fg (lv' := [some (.ref 6), some (.int l1), some (.int l2), none]) (And.intro rfl (And.intro rfl (And.intro rfl True.intro))) ?_
        exact ok_b_Tape_readOperand_b_B118 hN hr_b_Tape_readPart hr_b_Tape_readOperand (by omega) h
    · replace h := (if_neg c7).symm.trans h
      refine i_rbF (c := s0 < (0 : Int32)) (t := 62) (n := 39) rfl c7 ?_
      refine i_rs 11 (cf' := (56, [some (.ref 6), some (.int l1), some (.int l2), some (.int s0)], [.int (-((400 : Int32) + s0)), .ref 6], i_S X (i_wI q5.2 6 4 ((q5.2.1 6 4) + (1 : Int32))))) rfl ?_
      obtain ⟨q11, hq11, h⟩ := i_bdE h
      refine i_rcall (k := 60) (as := [.ref 6, .int (-((400 : Int32) + s0))]) (cf1 := (59, [some (.ref 6), some (.int l1), some (.int l2), some (.int s0)], [], i_S X (i_wI q5.2 6 4 ((q5.2.1 6 4) + (1 : Int32))))) (cf' := (59, [some (.ref 6), some (.int l1), some (.int l2), some (.int s0)], [], i_S X q11)) rfl (ok_b_Tape_step (by omega) hq11) rfl ?_
      refine i_rs 1 (cf' := (181, [some (.ref 6), some (.int l1), some (.int l2), some (.int s0)], [], i_S X q11)) rfl ?_
      obtain rfl := Option.some.inj h
      exact i_rret rfl rfl
  · replace h := (if_neg c6).symm.trans h
    refine i_rbF (c := q5.1 = (0 : Int32)) (t := 35) (n := 28) rfl c6 ?_
    refine i_rs 1 (cf' := (29, [some (.ref 6), some (.int l1), some (.int l2), some (.int s0)], [.ref 6], i_S X q5.2)) rfl ?_
    obtain ⟨q12, hq12, h⟩ := i_bdE h
    refine i_rcall (k := 59) (as := [.ref 6]) (cf1 := (32, [some (.ref 6), some (.int l1), some (.int l2), some (.int s0)], [], i_S X q5.2)) (cf' := (32, [some (.ref 6), some (.int l1), some (.int l2), some (.int s0)], [], i_S X q12)) rfl (ok_b_Tape_readNumber (by omega) hq12) rfl ?_
    refine i_rs 1 (cf' := (181, [some (.ref 6), some (.int l1), some (.int l2), some (.int s0)], [], i_S X q12)) rfl ?_
    obtain rfl := Option.some.inj h
    exact i_rret rfl rfl
def b_Tape_readOperand_b (rec_b_Tape_readPart : Int32 → Int32 → I_M → Option I_M) (rec_b_Tape_readOperand : Int32 → I_M → Option I_M) (l1 : Int32) (M : I_M) : Option I_M :=
  Option.bind (b_Tape_ahead M) (fun q21 => (if q21.1 < (0 : Int32) then
      b_Tape_readOperand_b_B20 rec_b_Tape_readPart rec_b_Tape_readOperand l1 q21.1 (-1 : Int32) q21.2
    else
      Option.bind (j_Str_indexOf (UInt32.toInt32 (Int32.toUInt32 q21.1 % 65536)) q21.2) (fun q23 => b_Tape_readOperand_b_B20 rec_b_Tape_readPart rec_b_Tape_readOperand l1 q21.1 q23.1 q23.2)))
theorem ok_b_Tape_readOperand_b {X : Nat × (Nat → Int32)} {d : Nat} {rec_b_Tape_readPart : Int32 → Int32 → I_M → Option I_M} {rec_b_Tape_readOperand : Int32 → I_M → Option I_M} {l1 : Int32} {M : I_M} {r : I_M} {N : Nat} (hN : 6 ≤ N) (hr_b_Tape_readPart : ∀ (d : Nat), N ≤ d → ∀ (a1 : Int32) (a2 : Int32) (M : I_M) (q : I_M), rec_b_Tape_readPart a1 a2 M = some q → I_Ex d 47 [.ref 6, .int a1, .int a2] (i_S X M) none (i_S X q)) (hr_b_Tape_readOperand : ∀ (d : Nat), N ≤ d → ∀ (a1 : Int32) (M : I_M) (q : I_M), rec_b_Tape_readOperand a1 M = some q → I_Ex d 48 [.ref 6, .int a1] (i_S X M) none (i_S X q)) (hd : N + 1 ≤ d) (h : b_Tape_readOperand_b rec_b_Tape_readPart rec_b_Tape_readOperand l1 M = some r) : I_Ex d 48 [.ref 6, .int l1] (i_S X M) none (i_S X r) := by
  obtain ⟨d, rfl⟩ : ∃ d1, d = d1 + 1 := ⟨d - 1, by omega⟩
  unfold b_Tape_readOperand_b at h
  refine i_ex (e := i_r48) (lv := [some (.ref 6), some (.int l1), none, none]) rfl (Nat.le_of_ble_eq_true rfl) rfl ?_
  show I_RnE (I_Ex d) i_c48 (0, [some (.ref 6), some (.int l1), none, none], [], i_S X M) _ _
  refine i_rs 1 (cf' := (1, [some (.ref 6), some (.int l1), none, none], [.ref 6], i_S X M)) rfl ?_
  obtain ⟨q21, hq21, h⟩ := i_bdE h
  refine i_rcall (k := 49) (as := [.ref 6]) (cf1 := (4, [some (.ref 6), some (.int l1), none, none], [], i_S X M)) (cf' := (4, [some (.ref 6), some (.int l1), none, none], [.int q21.1], i_S X q21.2)) rfl (ok_b_Tape_ahead (by omega) hq21) rfl ?_
  refine i_rs 2 (cf' := (6, [some (.ref 6), some (.int l1), some (.int q21.1), none], [.int q21.1], i_S X q21.2)) rfl ?_
  by_cases c22 : q21.1 < (0 : Int32)
  · replace h := (if_pos c22).symm.trans h
    refine i_rbT (c := q21.1 < (0 : Int32)) (t := 9) (n := 13) rfl c22 ?_
    refine i_rs 2 (cf' := (20, [some (.ref 6), some (.int l1), some (.int q21.1), none], [.int (-1 : Int32)], i_S X q21.2)) rfl ?_
    refine i_fg (lv' := [some (.ref 6), some (.int l1), some (.int q21.1), none]) (And.intro rfl (And.intro rfl (And.intro rfl True.intro))) ?_
    exact ok_b_Tape_readOperand_b_B20 hN hr_b_Tape_readPart hr_b_Tape_readOperand (by omega) h
  · replace h := (if_neg c22).symm.trans h
    refine i_rbF (c := q21.1 < (0 : Int32)) (t := 9) (n := 13) rfl c22 ?_
    refine i_rs 3 (cf' := (17, [some (.ref 6), some (.int l1), some (.int q21.1), none], [.int (UInt32.toInt32 (Int32.toUInt32 q21.1 % 65536)), .ref 105], i_S X q21.2)) rfl ?_
    obtain ⟨q23, hq23, h⟩ := i_bdE h
    refine i_rcall (k := 50) (as := [.ref 105, .int (UInt32.toInt32 (Int32.toUInt32 q21.1 % 65536))]) (cf1 := (20, [some (.ref 6), some (.int l1), some (.int q21.1), none], [], i_S X q21.2)) (cf' := (20, [some (.ref 6), some (.int l1), some (.int q21.1), none], [.int q23.1], i_S X q23.2)) rfl (ok_j_Str_indexOf (by omega) hq23) rfl ?_
    refine i_fg (lv' := [some (.ref 6), some (.int l1), some (.int q21.1), none]) (And.intro rfl (And.intro rfl (And.intro rfl True.intro))) ?_
    exact ok_b_Tape_readOperand_b_B20 hN hr_b_Tape_readPart hr_b_Tape_readOperand (by omega) h
def b_tapeT : Nat → (Int32 → Int32 → I_M → Option I_M) × (Int32 → I_M → Option I_M)
  | 0 => (fun _ _ _ => none, fun _ _ => none)
  | n + 1 => (fun a1 a2 M => b_Tape_readPart_b (b_tapeT n).1 (b_tapeT n).2 a1 a2 M, fun a1 M => b_Tape_readOperand_b (b_tapeT n).1 (b_tapeT n).2 a1 M)
def b_Tape_readPart (n : Nat) : Int32 → Int32 → I_M → Option I_M := (b_tapeT n).1
def b_Tape_readOperand (n : Nat) : Int32 → I_M → Option I_M := (b_tapeT n).2
theorem ok_b_tapeT {X : Nat × (Nat → Int32)} : ∀ (n : Nat), (∀ (d : Nat), 1 * n + 6 ≤ d → ∀ (a1 : Int32) (a2 : Int32) (M : I_M) (q : I_M), (b_tapeT n).1 a1 a2 M = some q → I_Ex d 47 [.ref 6, .int a1, .int a2] (i_S X M) none (i_S X q)) ∧ (∀ (d : Nat), 1 * n + 6 ≤ d → ∀ (a1 : Int32) (M : I_M) (q : I_M), (b_tapeT n).2 a1 M = some q → I_Ex d 48 [.ref 6, .int a1] (i_S X M) none (i_S X q)) := by
  intro n
  induction n with
  | zero => exact ⟨fun d _ _ _ M q h => (by cases h), fun d _ _ M q h => (by cases h)⟩
  | succ n ih => exact ⟨fun d hd a1 a2 M q h => ok_b_Tape_readPart_b (N := 1 * n + 6) (by omega) ih.1 ih.2 (by omega) h, fun d hd a1 M q h => ok_b_Tape_readOperand_b (N := 1 * n + 6) (by omega) ih.1 ih.2 (by omega) h⟩
theorem ok_b_Tape_readPart {X : Nat × (Nat → Int32)} (n : Nat) : ∀ (d : Nat), 1 * n + 6 ≤ d → ∀ (a1 : Int32) (a2 : Int32) (M : I_M) (q : I_M), b_Tape_readPart n a1 a2 M = some q → I_Ex d 47 [.ref 6, .int a1, .int a2] (i_S X M) none (i_S X q) := (ok_b_tapeT n).1
theorem ok_b_Tape_readOperand {X : Nat × (Nat → Int32)} (n : Nat) : ∀ (d : Nat), 1 * n + 6 ≤ d → ∀ (a1 : Int32) (M : I_M) (q : I_M), b_Tape_readOperand n a1 M = some q → I_Ex d 48 [.ref 6, .int a1] (i_S X M) none (i_S X q) := (ok_b_tapeT n).2
def b_Tape_readLine (M : I_M) : Option I_M :=
  Option.bind (b_Tape_readPart 60 (0 : Int32) (0 : Int32) M) (fun q1 => Option.bind (b_Tape_ahead q1) (fun q2 => (if q2.1 = (63 : Int32) then
      Option.bind (b_Tape_step (-63 : Int32) (i_wI q2.2 6 4 ((q2.2.1 6 4) + (1 : Int32)))) (fun q4 => Option.bind (b_Tape_readPart 60 (0 : Int32) (0 : Int32) q4) (fun q5 => Option.bind (b_Tape_step (-59 : Int32) q5) (fun q6 => some q6)))
    else
      Option.bind (b_Tape_step (-59 : Int32) q2.2) (fun q7 => some q7))))
theorem ok_b_Tape_readLine {X : Nat × (Nat → Int32)} {d : Nat} {M : I_M} {r : I_M} (hd : 67 ≤ d) (h : b_Tape_readLine M = some r) : I_Ex d 46 [.ref 6] (i_S X M) none (i_S X r) := by
  obtain ⟨d, rfl⟩ : ∃ d1, d = d1 + 1 := ⟨d - 1, by omega⟩
  unfold b_Tape_readLine at h
  refine i_ex (e := i_r46) (lv := [some (.ref 6)]) rfl (Nat.le_of_ble_eq_true rfl) rfl ?_
  show I_RnE (I_Ex d) i_c46 (0, [some (.ref 6)], [], i_S X M) _ _
  refine i_rs 3 (cf' := (3, [some (.ref 6)], [.int (0 : Int32), .int (0 : Int32), .ref 6], i_S X M)) rfl ?_
  obtain ⟨q1, hq1, h⟩ := i_bdE h
  refine i_rcall (k := 47) (as := [.ref 6, .int (0 : Int32), .int (0 : Int32)]) (cf1 := (6, [some (.ref 6)], [], i_S X M)) (cf' := (6, [some (.ref 6)], [], i_S X q1)) rfl (ok_b_Tape_readPart 60 _ (by omega) _ _ _ _ hq1) rfl ?_
  refine i_rs 1 (cf' := (7, [some (.ref 6)], [.ref 6], i_S X q1)) rfl ?_
  obtain ⟨q2, hq2, h⟩ := i_bdE h
  refine i_rcall (k := 49) (as := [.ref 6]) (cf1 := (10, [some (.ref 6)], [], i_S X q1)) (cf' := (10, [some (.ref 6)], [.int q2.1], i_S X q2.2)) rfl (ok_b_Tape_ahead (by omega) hq2) rfl ?_
  refine i_rs 1 (cf' := (12, [some (.ref 6)], [.int (63 : Int32), .int q2.1], i_S X q2.2)) rfl ?_
  by_cases c3 : q2.1 = (63 : Int32)
  · replace h := (if_pos c3).symm.trans h
    refine i_rbT (c := q2.1 = (63 : Int32)) (t := 15) (n := 37) rfl c3 ?_
    refine i_rs 8 (cf' := (28, [some (.ref 6)], [.int (-63 : Int32), .ref 6], i_S X (i_wI q2.2 6 4 ((q2.2.1 6 4) + (1 : Int32))))) rfl ?_
    obtain ⟨q4, hq4, h⟩ := i_bdE h
    refine i_rcall (k := 60) (as := [.ref 6, .int (-63 : Int32)]) (cf1 := (31, [some (.ref 6)], [], i_S X (i_wI q2.2 6 4 ((q2.2.1 6 4) + (1 : Int32))))) (cf' := (31, [some (.ref 6)], [], i_S X q4)) rfl (ok_b_Tape_step (by omega) hq4) rfl ?_
    refine i_rs 3 (cf' := (34, [some (.ref 6)], [.int (0 : Int32), .int (0 : Int32), .ref 6], i_S X q4)) rfl ?_
    obtain ⟨q5, hq5, h⟩ := i_bdE h
    refine i_rcall (k := 47) (as := [.ref 6, .int (0 : Int32), .int (0 : Int32)]) (cf1 := (37, [some (.ref 6)], [], i_S X q4)) (cf' := (37, [some (.ref 6)], [], i_S X q5)) rfl (ok_b_Tape_readPart 60 _ (by omega) _ _ _ _ hq5) rfl ?_
    refine i_rs 2 (cf' := (40, [some (.ref 6)], [.int (-59 : Int32), .ref 6], i_S X q5)) rfl ?_
    obtain ⟨q6, hq6, h⟩ := i_bdE h
    refine i_rcall (k := 60) (as := [.ref 6, .int (-59 : Int32)]) (cf1 := (43, [some (.ref 6)], [], i_S X q5)) (cf' := (43, [some (.ref 6)], [], i_S X q6)) rfl (ok_b_Tape_step (by omega) hq6) rfl ?_
    obtain rfl := Option.some.inj h
    exact i_rret rfl rfl
  · replace h := (if_neg c3).symm.trans h
    refine i_rbF (c := q2.1 = (63 : Int32)) (t := 15) (n := 37) rfl c3 ?_
    refine i_rs 2 (cf' := (40, [some (.ref 6)], [.int (-59 : Int32), .ref 6], i_S X q2.2)) rfl ?_
    obtain ⟨q7, hq7, h⟩ := i_bdE h
    refine i_rcall (k := 60) (as := [.ref 6, .int (-59 : Int32)]) (cf1 := (43, [some (.ref 6)], [], i_S X q2.2)) (cf' := (43, [some (.ref 6)], [], i_S X q7)) rfl (ok_b_Tape_step (by omega) hq7) rfl ?_
    obtain rfl := Option.some.inj h
    exact i_rret rfl rfl
def b_Tape_readText_B56 (M : I_M) : Option (Int32 × I_M) :=
  (if (M.1 6 4) < (M.1 6 1) then
      Option.bind (b_Tape_fail M) (fun q6 => some ((q6.1 6 5), q6))
    else
      some ((M.1 6 5), M))
theorem ok_b_Tape_readText_B56 {X : Nat × (Nat → Int32)} {d : Nat} {M : I_M} {r : (Int32 × I_M)} (hd : 68 ≤ d + 1) (h : b_Tape_readText_B56 M = some r) : I_RnE (I_Ex d) i_c45 (56, [some (.ref 6), none], [], i_S X M) (some (.int r.1)) (i_S X r.2) := by
  unfold b_Tape_readText_B56 at h
  refine i_rs 4 (cf' := (64, [some (.ref 6), none], [.int (M.1 6 1), .int (M.1 6 4)], i_S X M)) rfl ?_
  by_cases c5 : (M.1 6 4) < (M.1 6 1)
  · replace h := (if_pos c5).symm.trans h
    refine i_rbT (c := (M.1 6 4) < (M.1 6 1)) (t := 67) (n := 71) rfl c5 ?_
    refine i_rs 1 (cf' := (68, [some (.ref 6), none], [.ref 6], i_S X M)) rfl ?_
    obtain ⟨q6, hq6, h⟩ := i_bdE h
    refine i_rcall (k := 61) (as := [.ref 6]) (cf1 := (71, [some (.ref 6), none], [], i_S X M)) (cf' := (71, [some (.ref 6), none], [], i_S X q6)) rfl (ok_b_Tape_fail (by omega) hq6) rfl ?_
    refine i_rs 2 (cf' := (75, [some (.ref 6), none], [.int (q6.1 6 5)], i_S X q6)) rfl ?_
    obtain rfl := Option.some.inj h
    exact i_rret rfl rfl
  · replace h := (if_neg c5).symm.trans h
    refine i_rbF (c := (M.1 6 4) < (M.1 6 1)) (t := 67) (n := 71) rfl c5 ?_
    refine i_rs 2 (cf' := (75, [some (.ref 6), none], [.int (M.1 6 5)], i_S X M)) rfl ?_
    obtain rfl := Option.some.inj h
    exact i_rret rfl rfl
def b_Tape_readText_L21 (k56 : I_M → Option (Int32 × I_M)) : Nat → Int32 → I_M → Option (Int32 × I_M)
  | 0, _, _ => none
  | n + 1, l1, M =>
    (if (120 : Int32) < l1 then
        k56  M
      else
        Option.bind (b_Tape_ahead M) (fun q2 => (if q2.1 = (59 : Int32) then
          Option.bind (b_Tape_readLine (i_wI q2.2 6 4 ((q2.2.1 6 4) + (1 : Int32)))) (fun q4 => (b_Tape_readText_L21 k56 n) (l1 + (1 : Int32)) q4)
        else
          k56  q2.2)))
theorem ok_b_Tape_readText_L21 {X : Nat × (Nat → Int32)} {d : Nat} {k56 : I_M → Option (Int32 × I_M)} (hd : 68 ≤ d + 1) (hk56 : ∀ (M : I_M) (r : (Int32 × I_M)), k56 M = some r → I_RnE (I_Ex d) i_c45 (56, [some (.ref 6), none], [], i_S X M) (some (.int r.1)) (i_S X r.2)) : ∀ (n : Nat) (l1 : Int32) (M : I_M) (r : (Int32 × I_M)), b_Tape_readText_L21 k56 n l1 M = some r → I_RnE (I_Ex d) i_c45 (21, [some (.ref 6), some (.int l1)], [], i_S X M) (some (.int r.1)) (i_S X r.2) := by
  intro n
  induction n with
  | zero => intro _ M r h; cases h
  | succ n hself =>
    intro l1 M r h
    rw [b_Tape_readText_L21] at h
    refine i_rs 2 (cf' := (24, [some (.ref 6), some (.int l1)], [.int (120 : Int32), .int l1], i_S X M)) rfl ?_
    by_cases c1 : (120 : Int32) < l1
    · replace h := (if_pos c1).symm.trans h
      refine i_rbT (c := (120 : Int32) < l1) (t := 56) (n := 27) rfl c1 ?_
      refine i_fg (lv' := [some (.ref 6), none]) (And.intro rfl True.intro) ?_
      exact hk56  M _ h
    · replace h := (if_neg c1).symm.trans h
      refine i_rbF (c := (120 : Int32) < l1) (t := 56) (n := 27) rfl c1 ?_
      refine i_rs 1 (cf' := (28, [some (.ref 6), some (.int l1)], [.ref 6], i_S X M)) rfl ?_
      obtain ⟨q2, hq2, h⟩ := i_bdE h
      refine i_rcall (k := 49) (as := [.ref 6]) (cf1 := (31, [some (.ref 6), some (.int l1)], [], i_S X M)) (cf' := (31, [some (.ref 6), some (.int l1)], [.int q2.1], i_S X q2.2)) rfl (ok_b_Tape_ahead (by omega) hq2) rfl ?_
      refine i_rs 1 (cf' := (33, [some (.ref 6), some (.int l1)], [.int (59 : Int32), .int q2.1], i_S X q2.2)) rfl ?_
      by_cases c3 : q2.1 = (59 : Int32)
      · replace h := (if_pos c3).symm.trans h
        refine i_rbT (c := q2.1 = (59 : Int32)) (t := 36) (n := 56) rfl c3 ?_
        refine i_rs 7 (cf' := (47, [some (.ref 6), some (.int l1)], [.ref 6], i_S X (i_wI q2.2 6 4 ((q2.2.1 6 4) + (1 : Int32))))) rfl ?_
        obtain ⟨q4, hq4, h⟩ := i_bdE h
        refine i_rcall (k := 46) (as := [.ref 6]) (cf1 := (50, [some (.ref 6), some (.int l1)], [], i_S X (i_wI q2.2 6 4 ((q2.2.1 6 4) + (1 : Int32))))) (cf' := (50, [some (.ref 6), some (.int l1)], [], i_S X q4)) rfl (ok_b_Tape_readLine (by omega) hq4) rfl ?_
        refine i_rs 2 (cf' := (21, [some (.ref 6), some (.int (l1 + (1 : Int32)))], [], i_S X q4)) rfl ?_
        refine i_fg (lv' := [some (.ref 6), some (.int (l1 + (1 : Int32)))]) (And.intro rfl (And.intro rfl True.intro)) ?_
        exact hself (l1 + (1 : Int32)) q4 _ h
      · replace h := (if_neg c3).symm.trans h
        refine i_rbF (c := q2.1 = (59 : Int32)) (t := 36) (n := 56) rfl c3 ?_
        refine i_fg (lv' := [some (.ref 6), none]) (And.intro rfl True.intro) ?_
        exact hk56  q2.2 _ h
def b_Tape_readText (M : I_M) : Option (Int32 × I_M) :=
  Option.bind (b_Tape_readLine (i_wI (i_wI (i_wI M 6 4 (0 : Int32)) 6 5 (-1 : Int32)) 6 3 (0 : Int32))) (fun q7 => b_Tape_readText_L21 (fun M8 =>
        b_Tape_readText_B56 M8) i_F (1 : Int32) q7)
theorem ok_b_Tape_readText {X : Nat × (Nat → Int32)} {d : Nat} {M : I_M} {r : (Int32 × I_M)} (hd : 68 ≤ d) (h : b_Tape_readText M = some r) : I_Ex d 45 [.ref 6] (i_S X M) (some (.int r.1)) (i_S X r.2) := by
  obtain ⟨d, rfl⟩ : ∃ d1, d = d1 + 1 := ⟨d - 1, by omega⟩
  unfold b_Tape_readText at h
  refine i_ex (e := i_r45) (lv := [some (.ref 6), none]) rfl (Nat.le_of_ble_eq_true rfl) rfl ?_
  show I_RnE (I_Ex d) i_c45 (0, [some (.ref 6), none], [], i_S X M) _ _
  refine i_rs 10 (cf' := (16, [some (.ref 6), none], [.ref 6], i_S X (i_wI (i_wI (i_wI M 6 4 (0 : Int32)) 6 5 (-1 : Int32)) 6 3 (0 : Int32)))) rfl ?_
  obtain ⟨q7, hq7, h⟩ := i_bdE h
  refine i_rcall (k := 46) (as := [.ref 6]) (cf1 := (19, [some (.ref 6), none], [], i_S X (i_wI (i_wI (i_wI M 6 4 (0 : Int32)) 6 5 (-1 : Int32)) 6 3 (0 : Int32)))) (cf' := (19, [some (.ref 6), none], [], i_S X q7)) rfl (ok_b_Tape_readLine (by omega) hq7) rfl ?_
  refine i_rs 2 (cf' := (21, [some (.ref 6), some (.int (1 : Int32))], [], i_S X q7)) rfl ?_
  refine i_fg (lv' := [some (.ref 6), some (.int (1 : Int32))]) (And.intro rfl (And.intro rfl True.intro)) ?_
  refine ok_b_Tape_readText_L21 (by omega) (fun M8 r h => ?_) i_F (1 : Int32) q7 _ h
  refine i_fg (lv' := [some (.ref 6), none]) (And.intro rfl True.intro) ?_
  exact ok_b_Tape_readText_B56 (by omega) h
def b_Law_become (l2 : Int32) (M : I_M) : Option I_M :=
  i_cg (0 : Int32) (0 : Int32) l2 128 128 (some (i_wI (i_wI (i_cI M 8 10 (0 : Int32) (0 : Int32) l2) 9 3 l2) 9 1 (1 : Int32)))
theorem ok_b_Law_become {X : Nat × (Nat → Int32)} {d : Nat} {l2 : Int32} {M : I_M} {r : I_M} (hd : 1 ≤ d) (h : b_Law_become l2 M = some r) : I_Ex d 63 [.ref 9, .ref 8, .int l2] (i_S X M) none (i_S X r) := by
  obtain ⟨d, rfl⟩ : ∃ d1, d = d1 + 1 := ⟨d - 1, by omega⟩
  unfold b_Law_become at h
  refine i_ex (e := i_r63) (lv := [some (.ref 9), some (.ref 8), some (.int l2)]) rfl (Nat.le_of_ble_eq_true rfl) rfl ?_
  show I_RnE (I_Ex d) i_c63 (0, [some (.ref 9), some (.ref 8), some (.int l2)], [], i_S X M) _ _
  refine i_rs 6 (cf' := (8, [some (.ref 9), some (.ref 8), some (.int l2)], [.int l2, .int (0 : Int32), .ref 10, .int (0 : Int32), .ref 8], i_S X M)) rfl ?_
  obtain ⟨g1, h⟩ := i_cgE h
  refine i_rcpyI (n0 := 128) (n1 := 128) (cf' := (11, [some (.ref 9), some (.ref 8), some (.int l2)], [], i_S X (i_cI M 8 10 (0 : Int32) (0 : Int32) l2))) rfl rfl rfl g1 (by decide) rfl ?_
  refine i_rs 5 (cf' := (18, [some (.ref 9), some (.ref 8), some (.int l2)], [.int (1 : Int32), .ref 9], i_S X (i_wI (i_cI M 8 10 (0 : Int32) (0 : Int32) l2) 9 3 l2))) rfl ?_
  refine i_rpz (ci := 5) (k := 1) (a := 0) (b := 1126) (cf' := (21, [some (.ref 9), some (.ref 8), some (.int l2)], [], i_S X (i_wI (i_wI (i_cI M 8 10 (0 : Int32) (0 : Int32) l2) 9 3 l2) 9 1 (1 : Int32)))) rfl rfl rfl (Or.inr rfl) rfl ?_
  obtain rfl := Option.some.inj h
  exact i_rret rfl rfl
def b_law_B33 (l1 : Int32) (M : I_M) : Option (Int32 × I_M) :=
  (if l1 < (0 : Int32) then
      some ((1 : Int32), (i_wI M 6 1 (0 : Int32)))
    else
      some (((-100 : Int32) - l1), (i_wI M 6 1 (0 : Int32))))
theorem ok_b_law_B33 {X : Nat × (Nat → Int32)} {d : Nat} {l1 : Int32} {M : I_M} {r : (Int32 × I_M)} (hd : 69 ≤ d + 1) (h : b_law_B33 l1 M = some r) : I_RnE (I_Ex d) i_c44 (33, [some (.ref 0), some (.int l1)], [], i_S X M) (some (.int r.1)) (i_S X r.2) := by
  unfold b_law_B33 at h
  refine i_rs 5 (cf' := (42, [some (.ref 0), some (.int l1)], [.int l1], i_S X (i_wI M 6 1 (0 : Int32)))) rfl ?_
  by_cases c1 : l1 < (0 : Int32)
  · replace h := (if_pos c1).symm.trans h
    refine i_rbT (c := l1 < (0 : Int32)) (t := 45) (n := 49) rfl c1 ?_
    refine i_rs 2 (cf' := (53, [some (.ref 0), some (.int l1)], [.int (1 : Int32)], i_S X (i_wI M 6 1 (0 : Int32)))) rfl ?_
    obtain rfl := Option.some.inj h
    exact i_rret rfl rfl
  · replace h := (if_neg c1).symm.trans h
    refine i_rbF (c := l1 < (0 : Int32)) (t := 45) (n := 49) rfl c1 ?_
    refine i_rs 3 (cf' := (53, [some (.ref 0), some (.int l1)], [.int ((-100 : Int32) - l1)], i_S X (i_wI M 6 1 (0 : Int32)))) rfl ?_
    obtain rfl := Option.some.inj h
    exact i_rret rfl rfl
def b_law (M : I_M) : Option (Int32 × I_M) :=
  Option.bind (b_Tape_readText M) (fun q2 => (if q2.1 < (0 : Int32) then
      Option.bind (b_Law_become (q2.2.1 6 3) q2.2) (fun q4 => b_law_B33 q2.1 q4)
    else
      b_law_B33 q2.1 q2.2))
theorem ok_b_law {X : Nat × (Nat → Int32)} {d : Nat} {M : I_M} {r : (Int32 × I_M)} (hd : 69 ≤ d) (h : b_law M = some r) : I_Ex d 44 [.ref 0] (i_S X M) (some (.int r.1)) (i_S X r.2) := by
  obtain ⟨d, rfl⟩ : ∃ d1, d = d1 + 1 := ⟨d - 1, by omega⟩
  unfold b_law at h
  refine i_ex (e := i_r44) (lv := [some (.ref 0), none]) rfl (Nat.le_of_ble_eq_true rfl) rfl ?_
  show I_RnE (I_Ex d) i_c44 (0, [some (.ref 0), none], [], i_S X M) _ _
  refine i_rs 2 (cf' := (4, [some (.ref 0), none], [.ref 6], i_S X M)) rfl ?_
  obtain ⟨q2, hq2, h⟩ := i_bdE h
  refine i_rcall (k := 45) (as := [.ref 6]) (cf1 := (7, [some (.ref 0), none], [], i_S X M)) (cf' := (7, [some (.ref 0), none], [.int q2.1], i_S X q2.2)) rfl (ok_b_Tape_readText (by omega) hq2) rfl ?_
  refine i_rs 2 (cf' := (9, [some (.ref 0), some (.int q2.1)], [.int q2.1], i_S X q2.2)) rfl ?_
  by_cases c3 : q2.1 < (0 : Int32)
  · replace h := (if_pos c3).symm.trans h
    refine i_rbT (c := q2.1 < (0 : Int32)) (t := 12) (n := 33) rfl c3 ?_
    refine i_rs 8 (cf' := (30, [some (.ref 0), some (.int q2.1)], [.int (q2.2.1 6 3), .ref 8, .ref 9], i_S X q2.2)) rfl ?_
    obtain ⟨q4, hq4, h⟩ := i_bdE h
    refine i_rcall (k := 63) (as := [.ref 9, .ref 8, .int (q2.2.1 6 3)]) (cf1 := (33, [some (.ref 0), some (.int q2.1)], [], i_S X q2.2)) (cf' := (33, [some (.ref 0), some (.int q2.1)], [], i_S X q4)) rfl (ok_b_Law_become (by omega) hq4) rfl ?_
    refine i_fg (lv' := [some (.ref 0), some (.int q2.1)]) (And.intro rfl (And.intro rfl True.intro)) ?_
    exact ok_b_law_B33 (by omega) h
  · replace h := (if_neg c3).symm.trans h
    refine i_rbF (c := q2.1 < (0 : Int32)) (t := 12) (n := 33) rfl c3 ?_
    refine i_fg (lv' := [some (.ref 0), some (.int q2.1)]) (And.intro rfl (And.intro rfl True.intro)) ?_
    exact ok_b_law_B33 (by omega) h
def r_byteAt (M : I_M) : Option (Int32 × I_M) :=
  (if (M.1 50 19) < (M.1 50 20) then
      (if (M.1 50 18) < (0 : Int32) then
        i_g (M.1 50 19) 120 (some ((M.1 58 (Int32.toNatClampNeg (M.1 50 19))), M))
      else
        i_g ((M.1 50 18) + (M.1 50 19)) 120 (some ((M.1 59 (Int32.toNatClampNeg ((M.1 50 18) + (M.1 50 19)))), M)))
    else
      some ((0 : Int32), M))
theorem ok_r_byteAt {X : Nat × (Nat → Int32)} {d : Nat} {M : I_M} {r : (Int32 × I_M)} (hd : 1 ≤ d) (h : r_byteAt M = some r) : I_Ex d 198 [.ref 50] (i_S X M) (some (.int r.1)) (i_S X r.2) := by
  obtain ⟨d, rfl⟩ : ∃ d1, d = d1 + 1 := ⟨d - 1, by omega⟩
  unfold r_byteAt at h
  refine i_ex (e := i_r198) (lv := [some (.ref 50)]) rfl (Nat.le_of_ble_eq_true rfl) rfl ?_
  show I_RnE (I_Ex d) i_c198 (0, [some (.ref 50)], [], i_S X M) _ _
  refine i_rs 4 (cf' := (8, [some (.ref 50)], [.int (M.1 50 20), .int (M.1 50 19)], i_S X M)) rfl ?_
  by_cases c1 : (M.1 50 19) < (M.1 50 20)
  · replace h := (if_pos c1).symm.trans h
    refine i_rbT (c := (M.1 50 19) < (M.1 50 20)) (t := 11) (n := 47) rfl c1 ?_
    refine i_rs 2 (cf' := (15, [some (.ref 50)], [.int (M.1 50 18)], i_S X M)) rfl ?_
    by_cases c2 : (M.1 50 18) < (0 : Int32)
    · replace h := (if_pos c2).symm.trans h
      refine i_rbT (c := (M.1 50 18) < (0 : Int32)) (t := 18) (n := 30) rfl c2 ?_
      refine i_rs 4 (cf' := (26, [some (.ref 50)], [.int (M.1 50 19), .ref 58], i_S X M)) rfl ?_
      obtain ⟨g3, h⟩ := i_gE h
      refine i_riald (n := 120) (cf' := (27, [some (.ref 50)], [.int (M.1 58 (Int32.toNatClampNeg (M.1 50 19)))], i_S X M)) rfl rfl (by decide) g3 rfl ?_
      refine i_rs 1 (cf' := (48, [some (.ref 50)], [.int (M.1 58 (Int32.toNatClampNeg (M.1 50 19)))], i_S X M)) rfl ?_
      obtain rfl := Option.some.inj h
      exact i_rret rfl rfl
    · replace h := (if_neg c2).symm.trans h
      refine i_rbF (c := (M.1 50 18) < (0 : Int32)) (t := 18) (n := 30) rfl c2 ?_
      refine i_rs 7 (cf' := (43, [some (.ref 50)], [.int ((M.1 50 18) + (M.1 50 19)), .ref 59], i_S X M)) rfl ?_
      obtain ⟨g4, h⟩ := i_gE h
      refine i_riald (n := 120) (cf' := (44, [some (.ref 50)], [.int (M.1 59 (Int32.toNatClampNeg ((M.1 50 18) + (M.1 50 19))))], i_S X M)) rfl rfl (by decide) g4 rfl ?_
      refine i_rs 1 (cf' := (48, [some (.ref 50)], [.int (M.1 59 (Int32.toNatClampNeg ((M.1 50 18) + (M.1 50 19))))], i_S X M)) rfl ?_
      obtain rfl := Option.some.inj h
      exact i_rret rfl rfl
  · replace h := (if_neg c1).symm.trans h
    refine i_rbF (c := (M.1 50 19) < (M.1 50 20)) (t := 11) (n := 47) rfl c1 ?_
    refine i_rs 1 (cf' := (48, [some (.ref 50)], [.int (0 : Int32)], i_S X M)) rfl ?_
    obtain rfl := Option.some.inj h
    exact i_rret rfl rfl
def r_nameOf (l0 : Int32) (M : I_M) : Option (Int32 × I_M) :=
  (if l0 = (100 : Int32) then
      some ((0 : Int32), M)
    else
      (if l0 = (101 : Int32) then
        some ((-1 : Int32), M)
      else
        (if l0 = (102 : Int32) then
          some ((6 : Int32), M)
        else
          (if l0 = (103 : Int32) then
            some ((1 : Int32), M)
          else
            (if l0 = (104 : Int32) then
              some ((-1 : Int32), M)
            else
              (if l0 = (105 : Int32) then
                some ((-1 : Int32), M)
              else
                (if l0 = (106 : Int32) then
                  some ((-1 : Int32), M)
                else
                  (if l0 = (107 : Int32) then
                    some ((-1 : Int32), M)
                  else
                    (if l0 = (108 : Int32) then
                      some ((-1 : Int32), M)
                    else
                      (if l0 = (109 : Int32) then
                        some ((-1 : Int32), M)
                      else
                        (if l0 = (110 : Int32) then
                          some ((-1 : Int32), M)
                        else
                          (if l0 = (111 : Int32) then
                            some ((-1 : Int32), M)
                          else
                            (if l0 = (112 : Int32) then
                              some ((-1 : Int32), M)
                            else
                              (if l0 = (113 : Int32) then
                                some ((2 : Int32), M)
                              else
                                (if l0 = (114 : Int32) then
                                  some ((-1 : Int32), M)
                                else
                                  (if l0 = (115 : Int32) then
                                    some ((4 : Int32), M)
                                  else
                                    (if l0 = (116 : Int32) then
                                      some ((-1 : Int32), M)
                                    else
                                      (if l0 = (117 : Int32) then
                                        some ((-1 : Int32), M)
                                      else
                                        (if l0 = (118 : Int32) then
                                          some ((-1 : Int32), M)
                                        else
                                          (if l0 = (119 : Int32) then
                                            some ((5 : Int32), M)
                                          else
                                            (if l0 = (120 : Int32) then
                                              some ((-1 : Int32), M)
                                            else
                                              (if l0 = (121 : Int32) then
                                                some ((-1 : Int32), M)
                                              else
                                                (if l0 = (122 : Int32) then
                                                  some ((3 : Int32), M)
                                                else
                                                  some ((-1 : Int32), M))))))))))))))))))))))))
theorem ok_r_nameOf {X : Nat × (Nat → Int32)} {d : Nat} {l0 : Int32} {M : I_M} {r : (Int32 × I_M)} (hd : 1 ≤ d) (h : r_nameOf l0 M = some r) : I_Ex d 201 [.int l0] (i_S X M) (some (.int r.1)) (i_S X r.2) := by
  obtain ⟨d, rfl⟩ : ∃ d1, d = d1 + 1 := ⟨d - 1, by omega⟩
  unfold r_nameOf at h
  refine i_ex (e := i_r201) (lv := [some (.int l0)]) rfl (Nat.le_of_ble_eq_true rfl) rfl ?_
  show I_RnE (I_Ex d) i_c201 (0, [some (.int l0)], [], i_S X M) _ _
  refine i_rs 1 (cf' := (1, [some (.int l0)], [.int l0], i_S X M)) rfl ?_
  refine i_stp1 (cf' := (i_sw l0 123 [(100, 108), (101, 123), (102, 120), (103, 110), (104, 123), (105, 123), (106, 123), (107, 123), (108, 123), (109, 123), (110, 123), (111, 123), (112, 123), (113, 112), (114, 123), (115, 116), (116, 123), (117, 123), (118, 123), (119, 118), (120, 123), (121, 123), (122, 114)], [some (.int l0)], [], i_S X M)) rfl ?_
  by_cases c1 : l0 = (100 : Int32)
  · replace h := (if_pos c1).symm.trans h
    refine i_rswT c1 ?_
    refine i_rs 1 (cf' := (109, [some (.int l0)], [.int (0 : Int32)], i_S X M)) rfl ?_
    obtain rfl := Option.some.inj h
    exact i_rret rfl rfl
  · replace h := (if_neg c1).symm.trans h
    refine i_rswF c1 ?_
    by_cases c2 : l0 = (101 : Int32)
    · replace h := (if_pos c2).symm.trans h
      refine i_rswT c2 ?_
      refine i_rs 1 (cf' := (124, [some (.int l0)], [.int (-1 : Int32)], i_S X M)) rfl ?_
      obtain rfl := Option.some.inj h
      exact i_rret rfl rfl
    · replace h := (if_neg c2).symm.trans h
      refine i_rswF c2 ?_
      by_cases c3 : l0 = (102 : Int32)
      · replace h := (if_pos c3).symm.trans h
        refine i_rswT c3 ?_
        refine i_rs 1 (cf' := (122, [some (.int l0)], [.int (6 : Int32)], i_S X M)) rfl ?_
        obtain rfl := Option.some.inj h
        exact i_rret rfl rfl
      · replace h := (if_neg c3).symm.trans h
        refine i_rswF c3 ?_
        by_cases c4 : l0 = (103 : Int32)
        · replace h := (if_pos c4).symm.trans h
          refine i_rswT c4 ?_
          refine i_rs 1 (cf' := (111, [some (.int l0)], [.int (1 : Int32)], i_S X M)) rfl ?_
          obtain rfl := Option.some.inj h
          exact i_rret rfl rfl
        · replace h := (if_neg c4).symm.trans h
          refine i_rswF c4 ?_
          by_cases c5 : l0 = (104 : Int32)
          · replace h := (if_pos c5).symm.trans h
            refine i_rswT c5 ?_
            refine i_rs 1 (cf' := (124, [some (.int l0)], [.int (-1 : Int32)], i_S X M)) rfl ?_
            obtain rfl := Option.some.inj h
            exact i_rret rfl rfl
          · replace h := (if_neg c5).symm.trans h
            refine i_rswF c5 ?_
            by_cases c6 : l0 = (105 : Int32)
            · replace h := (if_pos c6).symm.trans h
              refine i_rswT c6 ?_
              refine i_rs 1 (cf' := (124, [some (.int l0)], [.int (-1 : Int32)], i_S X M)) rfl ?_
              obtain rfl := Option.some.inj h
              exact i_rret rfl rfl
            · replace h := (if_neg c6).symm.trans h
              refine i_rswF c6 ?_
              by_cases c7 : l0 = (106 : Int32)
              · replace h := (if_pos c7).symm.trans h
                refine i_rswT c7 ?_
                refine i_rs 1 (cf' := (124, [some (.int l0)], [.int (-1 : Int32)], i_S X M)) rfl ?_
                obtain rfl := Option.some.inj h
                exact i_rret rfl rfl
              · replace h := (if_neg c7).symm.trans h
                refine i_rswF c7 ?_
                by_cases c8 : l0 = (107 : Int32)
                · replace h := (if_pos c8).symm.trans h
                  refine i_rswT c8 ?_
                  refine i_rs 1 (cf' := (124, [some (.int l0)], [.int (-1 : Int32)], i_S X M)) rfl ?_
                  obtain rfl := Option.some.inj h
                  exact i_rret rfl rfl
                · replace h := (if_neg c8).symm.trans h
                  refine i_rswF c8 ?_
                  by_cases c9 : l0 = (108 : Int32)
                  · replace h := (if_pos c9).symm.trans h
                    refine i_rswT c9 ?_
                    refine i_rs 1 (cf' := (124, [some (.int l0)], [.int (-1 : Int32)], i_S X M)) rfl ?_
                    obtain rfl := Option.some.inj h
                    exact i_rret rfl rfl
                  · replace h := (if_neg c9).symm.trans h
                    refine i_rswF c9 ?_
                    by_cases c10 : l0 = (109 : Int32)
                    · replace h := (if_pos c10).symm.trans h
                      refine i_rswT c10 ?_
                      refine i_rs 1 (cf' := (124, [some (.int l0)], [.int (-1 : Int32)], i_S X M)) rfl ?_
                      obtain rfl := Option.some.inj h
                      exact i_rret rfl rfl
                    · replace h := (if_neg c10).symm.trans h
                      refine i_rswF c10 ?_
                      by_cases c11 : l0 = (110 : Int32)
                      · replace h := (if_pos c11).symm.trans h
                        refine i_rswT c11 ?_
                        refine i_rs 1 (cf' := (124, [some (.int l0)], [.int (-1 : Int32)], i_S X M)) rfl ?_
                        obtain rfl := Option.some.inj h
                        exact i_rret rfl rfl
                      · replace h := (if_neg c11).symm.trans h
                        refine i_rswF c11 ?_
                        by_cases c12 : l0 = (111 : Int32)
                        · replace h := (if_pos c12).symm.trans h
                          refine i_rswT c12 ?_
                          refine i_rs 1 (cf' := (124, [some (.int l0)], [.int (-1 : Int32)], i_S X M)) rfl ?_
                          obtain rfl := Option.some.inj h
                          exact i_rret rfl rfl
                        · replace h := (if_neg c12).symm.trans h
                          refine i_rswF c12 ?_
                          by_cases c13 : l0 = (112 : Int32)
                          · replace h := (if_pos c13).symm.trans h
                            refine i_rswT c13 ?_
                            refine i_rs 1 (cf' := (124, [some (.int l0)], [.int (-1 : Int32)], i_S X M)) rfl ?_
                            obtain rfl := Option.some.inj h
                            exact i_rret rfl rfl
                          · replace h := (if_neg c13).symm.trans h
                            refine i_rswF c13 ?_
                            by_cases c14 : l0 = (113 : Int32)
                            · replace h := (if_pos c14).symm.trans h
                              refine i_rswT c14 ?_
                              refine i_rs 1 (cf' := (113, [some (.int l0)], [.int (2 : Int32)], i_S X M)) rfl ?_
                              obtain rfl := Option.some.inj h
                              exact i_rret rfl rfl
                            · replace h := (if_neg c14).symm.trans h
                              refine i_rswF c14 ?_
                              by_cases c15 : l0 = (114 : Int32)
                              · replace h := (if_pos c15).symm.trans h
                                refine i_rswT c15 ?_
                                refine i_rs 1 (cf' := (124, [some (.int l0)], [.int (-1 : Int32)], i_S X M)) rfl ?_
                                obtain rfl := Option.some.inj h
                                exact i_rret rfl rfl
                              · replace h := (if_neg c15).symm.trans h
                                refine i_rswF c15 ?_
                                by_cases c16 : l0 = (115 : Int32)
                                · replace h := (if_pos c16).symm.trans h
                                  refine i_rswT c16 ?_
                                  refine i_rs 1 (cf' := (117, [some (.int l0)], [.int (4 : Int32)], i_S X M)) rfl ?_
                                  obtain rfl := Option.some.inj h
                                  exact i_rret rfl rfl
                                · replace h := (if_neg c16).symm.trans h
                                  refine i_rswF c16 ?_
                                  by_cases c17 : l0 = (116 : Int32)
                                  · replace h := (if_pos c17).symm.trans h
                                    refine i_rswT c17 ?_
                                    refine i_rs 1 (cf' := (124, [some (.int l0)], [.int (-1 : Int32)], i_S X M)) rfl ?_
                                    obtain rfl := Option.some.inj h
                                    exact i_rret rfl rfl
                                  · replace h := (if_neg c17).symm.trans h
                                    refine i_rswF c17 ?_
                                    by_cases c18 : l0 = (117 : Int32)
                                    · replace h := (if_pos c18).symm.trans h
                                      refine i_rswT c18 ?_
                                      refine i_rs 1 (cf' := (124, [some (.int l0)], [.int (-1 : Int32)], i_S X M)) rfl ?_
                                      obtain rfl := Option.some.inj h
                                      exact i_rret rfl rfl
                                    · replace h := (if_neg c18).symm.trans h
                                      refine i_rswF c18 ?_
                                      by_cases c19 : l0 = (118 : Int32)
                                      · replace h := (if_pos c19).symm.trans h
                                        refine i_rswT c19 ?_
                                        refine i_rs 1 (cf' := (124, [some (.int l0)], [.int (-1 : Int32)], i_S X M)) rfl ?_
                                        obtain rfl := Option.some.inj h
                                        exact i_rret rfl rfl
                                      · replace h := (if_neg c19).symm.trans h
                                        refine i_rswF c19 ?_
                                        by_cases c20 : l0 = (119 : Int32)
                                        · replace h := (if_pos c20).symm.trans h
                                          refine i_rswT c20 ?_
                                          refine i_rs 1 (cf' := (119, [some (.int l0)], [.int (5 : Int32)], i_S X M)) rfl ?_
                                          obtain rfl := Option.some.inj h
                                          exact i_rret rfl rfl
                                        · replace h := (if_neg c20).symm.trans h
                                          refine i_rswF c20 ?_
                                          by_cases c21 : l0 = (120 : Int32)
                                          · replace h := (if_pos c21).symm.trans h
                                            refine i_rswT c21 ?_
                                            refine i_rs 1 (cf' := (124, [some (.int l0)], [.int (-1 : Int32)], i_S X M)) rfl ?_
                                            obtain rfl := Option.some.inj h
                                            exact i_rret rfl rfl
                                          · replace h := (if_neg c21).symm.trans h
                                            refine i_rswF c21 ?_
                                            by_cases c22 : l0 = (121 : Int32)
                                            · replace h := (if_pos c22).symm.trans h
                                              refine i_rswT c22 ?_
                                              refine i_rs 1 (cf' := (124, [some (.int l0)], [.int (-1 : Int32)], i_S X M)) rfl ?_
                                              obtain rfl := Option.some.inj h
                                              exact i_rret rfl rfl
                                            · replace h := (if_neg c22).symm.trans h
                                              refine i_rswF c22 ?_
                                              by_cases c23 : l0 = (122 : Int32)
                                              · replace h := (if_pos c23).symm.trans h
                                                refine i_rswT c23 ?_
                                                refine i_rs 1 (cf' := (115, [some (.int l0)], [.int (3 : Int32)], i_S X M)) rfl ?_
                                                obtain rfl := Option.some.inj h
                                                exact i_rret rfl rfl
                                              · replace h := (if_neg c23).symm.trans h
                                                refine i_rswF c23 ?_
                                                refine i_rs 1 (cf' := (124, [some (.int l0)], [.int (-1 : Int32)], i_S X M)) rfl ?_
                                                obtain rfl := Option.some.inj h
                                                exact i_rret rfl rfl
def r_wrong (M : I_M) : Option (Int32 × I_M) :=
  (if (M.1 50 21) < (0 : Int32) then
      some ((0 : Int32), (i_wI M 50 21 (M.1 50 19)))
    else
      some ((0 : Int32), (i_wI M 50 21 (M.1 50 21))))
theorem ok_r_wrong {X : Nat × (Nat → Int32)} {d : Nat} {M : I_M} {r : (Int32 × I_M)} (hd : 1 ≤ d) (h : r_wrong M = some r) : I_Ex d 199 [.ref 50] (i_S X M) (some (.int r.1)) (i_S X r.2) := by
  obtain ⟨d, rfl⟩ : ∃ d1, d = d1 + 1 := ⟨d - 1, by omega⟩
  unfold r_wrong at h
  refine i_ex (e := i_r199) (lv := [some (.ref 50)]) rfl (Nat.le_of_ble_eq_true rfl) rfl ?_
  show I_RnE (I_Ex d) i_c199 (0, [some (.ref 50)], [], i_S X M) _ _
  refine i_rs 3 (cf' := (5, [some (.ref 50)], [.int (M.1 50 21), .ref 50], i_S X M)) rfl ?_
  by_cases c1 : (M.1 50 21) < (0 : Int32)
  · replace h := (if_pos c1).symm.trans h
    refine i_rbT (c := (M.1 50 21) < (0 : Int32)) (t := 8) (n := 15) rfl c1 ?_
    refine i_rs 5 (cf' := (23, [some (.ref 50)], [.int (0 : Int32)], i_S X (i_wI M 50 21 (M.1 50 19)))) rfl ?_
    obtain rfl := Option.some.inj h
    exact i_rret rfl rfl
  · replace h := (if_neg c1).symm.trans h
    refine i_rbF (c := (M.1 50 21) < (0 : Int32)) (t := 8) (n := 15) rfl c1 ?_
    refine i_rs 4 (cf' := (23, [some (.ref 50)], [.int (0 : Int32)], i_S X (i_wI M 50 21 (M.1 50 21)))) rfl ?_
    obtain rfl := Option.some.inj h
    exact i_rret rfl rfl
def r_takes (l1 : Int32) (M : I_M) : Option (Int32 × I_M) :=
  (if (M.1 50 21) < (0 : Int32) then
      Option.bind (r_byteAt M) (fun q2 => (if q2.1 = l1 then
        some ((1 : Int32), (i_wI q2.2 50 19 ((q2.2.1 50 19) + (1 : Int32))))
      else
        some ((0 : Int32), q2.2)))
    else
      some ((0 : Int32), M))
theorem ok_r_takes {X : Nat × (Nat → Int32)} {d : Nat} {l1 : Int32} {M : I_M} {r : (Int32 × I_M)} (hd : 2 ≤ d) (h : r_takes l1 M = some r) : I_Ex d 200 [.ref 50, .int l1] (i_S X M) (some (.int r.1)) (i_S X r.2) := by
  obtain ⟨d, rfl⟩ : ∃ d1, d = d1 + 1 := ⟨d - 1, by omega⟩
  unfold r_takes at h
  refine i_ex (e := i_r200) (lv := [some (.ref 50), some (.int l1)]) rfl (Nat.le_of_ble_eq_true rfl) rfl ?_
  show I_RnE (I_Ex d) i_c200 (0, [some (.ref 50), some (.int l1)], [], i_S X M) _ _
  refine i_rs 2 (cf' := (4, [some (.ref 50), some (.int l1)], [.int (M.1 50 21)], i_S X M)) rfl ?_
  by_cases c1 : (M.1 50 21) < (0 : Int32)
  · replace h := (if_pos c1).symm.trans h
    refine i_rbT (c := (M.1 50 21) < (0 : Int32)) (t := 7) (n := 15) rfl c1 ?_
    refine i_rs 1 (cf' := (8, [some (.ref 50), some (.int l1)], [.ref 50], i_S X M)) rfl ?_
    obtain ⟨q2, hq2, h⟩ := i_bdE h
    refine i_rcall (k := 198) (as := [.ref 50]) (cf1 := (11, [some (.ref 50), some (.int l1)], [], i_S X M)) (cf' := (11, [some (.ref 50), some (.int l1)], [.int q2.1], i_S X q2.2)) rfl (ok_r_byteAt (by omega) hq2) rfl ?_
    refine i_rs 1 (cf' := (12, [some (.ref 50), some (.int l1)], [.int l1, .int q2.1], i_S X q2.2)) rfl ?_
    by_cases c3 : q2.1 = l1
    · replace h := (if_pos c3).symm.trans h
      refine i_rbT (c := q2.1 = l1) (t := 17) (n := 15) rfl c3 ?_
      refine i_rs 7 (cf' := (28, [some (.ref 50), some (.int l1)], [.int (1 : Int32)], i_S X (i_wI q2.2 50 19 ((q2.2.1 50 19) + (1 : Int32))))) rfl ?_
      obtain rfl := Option.some.inj h
      exact i_rretZ rfl (Or.inr rfl) rfl
    · replace h := (if_neg c3).symm.trans h
      refine i_rbF (c := q2.1 = l1) (t := 17) (n := 15) rfl c3 ?_
      refine i_rs 1 (cf' := (16, [some (.ref 50), some (.int l1)], [.int (0 : Int32)], i_S X q2.2)) rfl ?_
      obtain rfl := Option.some.inj h
      exact i_rretZ rfl (Or.inl rfl) rfl
  · replace h := (if_neg c1).symm.trans h
    refine i_rbF (c := (M.1 50 21) < (0 : Int32)) (t := 7) (n := 15) rfl c1 ?_
    refine i_rs 1 (cf' := (16, [some (.ref 50), some (.int l1)], [.int (0 : Int32)], i_S X M)) rfl ?_
    obtain rfl := Option.some.inj h
    exact i_rretZ rfl (Or.inl rfl) rfl
def r_product_B35 (rec_r_one : I_M → Option (Int32 × I_M)) (self : Int32 → Int32 → I_M → Option (Int32 × I_M)) (l1 : Int32) (l2 : Int32) (M : I_M) : Option (Int32 × I_M) :=
  Option.bind (rec_r_one (i_wI M 50 19 ((M.1 50 19) + (1 : Int32)))) (fun q5 => (if l2 = (42 : Int32) then
      Option.bind (r_byteAt q5.2) (fun q7 => self (l1 * q5.1) q7.1 q7.2)
    else
      (if q5.1 = (0 : Int32) then
        Option.bind (r_byteAt q5.2) (fun q9 => self (0 : Int32) q9.1 q9.2)
      else
        (if l2 = (47 : Int32) then
          i_nz q5.1 (Option.bind (r_byteAt q5.2) (fun q12 => self (l1 / q5.1) q12.1 q12.2))
        else
          i_nz q5.1 (Option.bind (r_byteAt q5.2) (fun q14 => self (i_rem l1 q5.1) q14.1 q14.2))))))
theorem ok_r_product_B35 {X : Nat × (Nat → Int32)} {d : Nat} {rec_r_one : I_M → Option (Int32 × I_M)} {self : Int32 → Int32 → I_M → Option (Int32 × I_M)} {l1 : Int32} {l2 : Int32} {M : I_M} {r : (Int32 × I_M)} {N : Nat} (hN : 6 ≤ N) (hr_r_one : ∀ (d : Nat), N ≤ d → ∀ (M : I_M) (q : (Int32 × I_M)), rec_r_one M = some q → I_Ex d 197 [.ref 50] (i_S X M) (some (.int q.1)) (i_S X q.2)) (hself : ∀ (m1 : Int32) (m2 : Int32) (M : I_M) (r : (Int32 × I_M)), self m1 m2 M = some r → I_RnE (I_Ex d) i_c196 (10, [some (.ref 50), some (.int m1), some (.int m2), none], [], i_S X M) (some (.int r.1)) (i_S X r.2)) (hd : N + 1 ≤ d + 1) (h : r_product_B35 rec_r_one self l1 l2 M = some r) : I_RnE (I_Ex d) i_c196 (35, [some (.ref 50), some (.int l1), some (.int l2), none], [], i_S X M) (some (.int r.1)) (i_S X r.2) := by
  unfold r_product_B35 at h
  refine i_rs 7 (cf' := (46, [some (.ref 50), some (.int l1), some (.int l2), none], [.ref 50], i_S X (i_wI M 50 19 ((M.1 50 19) + (1 : Int32))))) rfl ?_
  obtain ⟨q5, hq5, h⟩ := i_bdE h
  refine i_rcall (k := 197) (as := [.ref 50]) (cf1 := (49, [some (.ref 50), some (.int l1), some (.int l2), none], [], i_S X (i_wI M 50 19 ((M.1 50 19) + (1 : Int32))))) (cf' := (49, [some (.ref 50), some (.int l1), some (.int l2), none], [.int q5.1], i_S X q5.2)) rfl (hr_r_one _ (by omega) _ _ hq5) rfl ?_
  refine i_rs 3 (cf' := (53, [some (.ref 50), some (.int l1), some (.int l2), some (.int q5.1)], [.int (42 : Int32), .int l2], i_S X q5.2)) rfl ?_
  by_cases c6 : l2 = (42 : Int32)
  · replace h := (if_pos c6).symm.trans h
    refine i_rbT (c := l2 = (42 : Int32)) (t := 56) (n := 62) rfl c6 ?_
    refine i_rs 6 (cf' := (87, [some (.ref 50), some (.int (l1 * q5.1)), some (.int l2), some (.int q5.1)], [.ref 50], i_S X q5.2)) rfl ?_
    obtain ⟨q7, hq7, h⟩ := i_bdE h
    refine i_rcall (k := 198) (as := [.ref 50]) (cf1 := (90, [some (.ref 50), some (.int (l1 * q5.1)), some (.int l2), some (.int q5.1)], [], i_S X q5.2)) (cf' := (90, [some (.ref 50), some (.int (l1 * q5.1)), some (.int l2), some (.int q5.1)], [.int q7.1], i_S X q7.2)) rfl (ok_r_byteAt (by omega) hq7) rfl ?_
    refine i_rs 2 (cf' := (10, [some (.ref 50), some (.int (l1 * q5.1)), some (.int q7.1), some (.int q5.1)], [], i_S X q7.2)) rfl ?_
    refine i_fg (lv' := [some (.ref 50), some (.int (l1 * q5.1)), some (.int q7.1), none]) (And.intro rfl (And.intro rfl (And.intro rfl True.intro))) ?_
    exact hself (l1 * q5.1) q7.1 q7.2 _ h
  · replace h := (if_neg c6).symm.trans h
    refine i_rbF (c := l2 = (42 : Int32)) (t := 56) (n := 62) rfl c6 ?_
    refine i_rs 1 (cf' := (63, [some (.ref 50), some (.int l1), some (.int l2), some (.int q5.1)], [.int q5.1], i_S X q5.2)) rfl ?_
    by_cases c8 : q5.1 = (0 : Int32)
    · replace h := (if_pos c8).symm.trans h
      refine i_rbT (c := q5.1 = (0 : Int32)) (t := 66) (n := 70) rfl c8 ?_
      refine i_rs 4 (cf' := (87, [some (.ref 50), some (.int (0 : Int32)), some (.int l2), some (.int q5.1)], [.ref 50], i_S X q5.2)) rfl ?_
      obtain ⟨q9, hq9, h⟩ := i_bdE h
      refine i_rcall (k := 198) (as := [.ref 50]) (cf1 := (90, [some (.ref 50), some (.int (0 : Int32)), some (.int l2), some (.int q5.1)], [], i_S X q5.2)) (cf' := (90, [some (.ref 50), some (.int (0 : Int32)), some (.int l2), some (.int q5.1)], [.int q9.1], i_S X q9.2)) rfl (ok_r_byteAt (by omega) hq9) rfl ?_
      refine i_rs 2 (cf' := (10, [some (.ref 50), some (.int (0 : Int32)), some (.int q9.1), some (.int q5.1)], [], i_S X q9.2)) rfl ?_
      refine i_fg (lv' := [some (.ref 50), some (.int (0 : Int32)), some (.int q9.1), none]) (And.intro rfl (And.intro rfl (And.intro rfl True.intro))) ?_
      exact hself (0 : Int32) q9.1 q9.2 _ h
    · replace h := (if_neg c8).symm.trans h
      refine i_rbF (c := q5.1 = (0 : Int32)) (t := 66) (n := 70) rfl c8 ?_
      refine i_rs 2 (cf' := (73, [some (.ref 50), some (.int l1), some (.int l2), some (.int q5.1)], [.int (47 : Int32), .int l2], i_S X q5.2)) rfl ?_
      by_cases c10 : l2 = (47 : Int32)
      · replace h := (if_pos c10).symm.trans h
        refine i_rbT (c := l2 = (47 : Int32)) (t := 76) (n := 82) rfl c10 ?_
        refine i_rs 2 (cf' := (78, [some (.ref 50), some (.int l1), some (.int l2), some (.int q5.1)], [.int q5.1, .int l1], i_S X q5.2)) rfl ?_
        obtain ⟨g11, h⟩ := i_nzE h
        refine i_rdiv (cf' := (79, [some (.ref 50), some (.int l1), some (.int l2), some (.int q5.1)], [.int (l1 / q5.1)], i_S X q5.2)) rfl g11 rfl ?_
        refine i_rs 3 (cf' := (87, [some (.ref 50), some (.int (l1 / q5.1)), some (.int l2), some (.int q5.1)], [.ref 50], i_S X q5.2)) rfl ?_
        obtain ⟨q12, hq12, h⟩ := i_bdE h
        refine i_rcall (k := 198) (as := [.ref 50]) (cf1 := (90, [some (.ref 50), some (.int (l1 / q5.1)), some (.int l2), some (.int q5.1)], [], i_S X q5.2)) (cf' := (90, [some (.ref 50), some (.int (l1 / q5.1)), some (.int l2), some (.int q5.1)], [.int q12.1], i_S X q12.2)) rfl (ok_r_byteAt (by omega) hq12) rfl ?_
        refine i_rs 2 (cf' := (10, [some (.ref 50), some (.int (l1 / q5.1)), some (.int q12.1), some (.int q5.1)], [], i_S X q12.2)) rfl ?_
        refine i_fg (lv' := [some (.ref 50), some (.int (l1 / q5.1)), some (.int q12.1), none]) (And.intro rfl (And.intro rfl (And.intro rfl True.intro))) ?_
        exact hself (l1 / q5.1) q12.1 q12.2 _ h
      · replace h := (if_neg c10).symm.trans h
        refine i_rbF (c := l2 = (47 : Int32)) (t := 76) (n := 82) rfl c10 ?_
        refine i_rs 2 (cf' := (84, [some (.ref 50), some (.int l1), some (.int l2), some (.int q5.1)], [.int q5.1, .int l1], i_S X q5.2)) rfl ?_
        obtain ⟨g13, h⟩ := i_nzE h
        refine i_rrem (cf' := (85, [some (.ref 50), some (.int l1), some (.int l2), some (.int q5.1)], [.int (i_rem l1 q5.1)], i_S X q5.2)) rfl g13 rfl ?_
        refine i_rs 2 (cf' := (87, [some (.ref 50), some (.int (i_rem l1 q5.1)), some (.int l2), some (.int q5.1)], [.ref 50], i_S X q5.2)) rfl ?_
        obtain ⟨q14, hq14, h⟩ := i_bdE h
        refine i_rcall (k := 198) (as := [.ref 50]) (cf1 := (90, [some (.ref 50), some (.int (i_rem l1 q5.1)), some (.int l2), some (.int q5.1)], [], i_S X q5.2)) (cf' := (90, [some (.ref 50), some (.int (i_rem l1 q5.1)), some (.int l2), some (.int q5.1)], [.int q14.1], i_S X q14.2)) rfl (ok_r_byteAt (by omega) hq14) rfl ?_
        refine i_rs 2 (cf' := (10, [some (.ref 50), some (.int (i_rem l1 q5.1)), some (.int q14.1), some (.int q5.1)], [], i_S X q14.2)) rfl ?_
        refine i_fg (lv' := [some (.ref 50), some (.int (i_rem l1 q5.1)), some (.int q14.1), none]) (And.intro rfl (And.intro rfl (And.intro rfl True.intro))) ?_
        exact hself (i_rem l1 q5.1) q14.1 q14.2 _ h
def r_product_L10 (rec_r_one : I_M → Option (Int32 × I_M)) : Nat → Int32 → Int32 → I_M → Option (Int32 × I_M)
  | 0, _, _, _ => none
  | n + 1, l1, l2, M =>
    (if (M.1 50 21) < (0 : Int32) then
        (if l2 = (42 : Int32) then
          r_product_B35 rec_r_one ((r_product_L10 rec_r_one n)) l1 l2 M
        else
          (if l2 = (47 : Int32) then
            r_product_B35 rec_r_one ((r_product_L10 rec_r_one n)) l1 l2 M
          else
            (if l2 = (37 : Int32) then
              r_product_B35 rec_r_one ((r_product_L10 rec_r_one n)) l1 l2 M
            else
              some (l1, M))))
      else
        some (l1, M))
theorem ok_r_product_L10 {X : Nat × (Nat → Int32)} {d : Nat} {rec_r_one : I_M → Option (Int32 × I_M)} {N : Nat} (hN : 6 ≤ N) (hr_r_one : ∀ (d : Nat), N ≤ d → ∀ (M : I_M) (q : (Int32 × I_M)), rec_r_one M = some q → I_Ex d 197 [.ref 50] (i_S X M) (some (.int q.1)) (i_S X q.2)) (hd : N + 1 ≤ d + 1) : ∀ (n : Nat) (l1 : Int32) (l2 : Int32) (M : I_M) (r : (Int32 × I_M)), r_product_L10 rec_r_one n l1 l2 M = some r → I_RnE (I_Ex d) i_c196 (10, [some (.ref 50), some (.int l1), some (.int l2), none], [], i_S X M) (some (.int r.1)) (i_S X r.2) := by
  intro n
  induction n with
  | zero => intro _ _ M r h; cases h
  | succ n hself =>
    intro l1 l2 M r h
    rw [r_product_L10] at h
    refine i_rs 2 (cf' := (14, [some (.ref 50), some (.int l1), some (.int l2), none], [.int (M.1 50 21)], i_S X M)) rfl ?_
    by_cases c1 : (M.1 50 21) < (0 : Int32)
    · replace h := (if_pos c1).symm.trans h
      refine i_rbT (c := (M.1 50 21) < (0 : Int32)) (t := 17) (n := 94) rfl c1 ?_
      refine i_rs 2 (cf' := (20, [some (.ref 50), some (.int l1), some (.int l2), none], [.int (42 : Int32), .int l2], i_S X M)) rfl ?_
      by_cases c2 : l2 = (42 : Int32)
      · replace h := (if_pos c2).symm.trans h
        refine i_rbT (c := l2 = (42 : Int32)) (t := 35) (n := 23) rfl c2 ?_
        refine i_fg (lv' := [some (.ref 50), some (.int l1), some (.int l2), none]) (And.intro rfl (And.intro rfl (And.intro rfl True.intro))) ?_
        exact ok_r_product_B35 hN hr_r_one hself (by omega) h
      · replace h := (if_neg c2).symm.trans h
        refine i_rbF (c := l2 = (42 : Int32)) (t := 35) (n := 23) rfl c2 ?_
        refine i_rs 2 (cf' := (26, [some (.ref 50), some (.int l1), some (.int l2), none], [.int (47 : Int32), .int l2], i_S X M)) rfl ?_
        by_cases c3 : l2 = (47 : Int32)
        · replace h := (if_pos c3).symm.trans h
          refine i_rbT (c := l2 = (47 : Int32)) (t := 35) (n := 29) rfl c3 ?_
          refine i_fg (lv' := [some (.ref 50), some (.int l1), some (.int l2), none]) (And.intro rfl (And.intro rfl (And.intro rfl True.intro))) ?_
          exact ok_r_product_B35 hN hr_r_one hself (by omega) h
        · replace h := (if_neg c3).symm.trans h
          refine i_rbF (c := l2 = (47 : Int32)) (t := 35) (n := 29) rfl c3 ?_
          refine i_rs 2 (cf' := (32, [some (.ref 50), some (.int l1), some (.int l2), none], [.int (37 : Int32), .int l2], i_S X M)) rfl ?_
          by_cases c4 : l2 = (37 : Int32)
          · replace h := (if_pos c4).symm.trans h
            refine i_rbT (c := l2 = (37 : Int32)) (t := 35) (n := 94) rfl c4 ?_
            refine i_fg (lv' := [some (.ref 50), some (.int l1), some (.int l2), none]) (And.intro rfl (And.intro rfl (And.intro rfl True.intro))) ?_
            exact ok_r_product_B35 hN hr_r_one hself (by omega) h
          · replace h := (if_neg c4).symm.trans h
            refine i_rbF (c := l2 = (37 : Int32)) (t := 35) (n := 94) rfl c4 ?_
            refine i_rs 1 (cf' := (95, [some (.ref 50), some (.int l1), some (.int l2), none], [.int l1], i_S X M)) rfl ?_
            obtain rfl := Option.some.inj h
            exact i_rret rfl rfl
    · replace h := (if_neg c1).symm.trans h
      refine i_rbF (c := (M.1 50 21) < (0 : Int32)) (t := 17) (n := 94) rfl c1 ?_
      refine i_rs 1 (cf' := (95, [some (.ref 50), some (.int l1), some (.int l2), none], [.int l1], i_S X M)) rfl ?_
      obtain rfl := Option.some.inj h
      exact i_rret rfl rfl
def r_product (rec_r_one : I_M → Option (Int32 × I_M)) (M : I_M) : Option (Int32 × I_M) :=
  Option.bind (rec_r_one M) (fun q15 => Option.bind (r_byteAt q15.2) (fun q16 => r_product_L10 rec_r_one i_F q15.1 q16.1 q16.2))
theorem ok_r_product {X : Nat × (Nat → Int32)} {d : Nat} {rec_r_one : I_M → Option (Int32 × I_M)} {M : I_M} {r : (Int32 × I_M)} {N : Nat} (hN : 6 ≤ N) (hr_r_one : ∀ (d : Nat), N ≤ d → ∀ (M : I_M) (q : (Int32 × I_M)), rec_r_one M = some q → I_Ex d 197 [.ref 50] (i_S X M) (some (.int q.1)) (i_S X q.2)) (hd : N + 1 ≤ d) (h : r_product rec_r_one M = some r) : I_Ex d 196 [.ref 50] (i_S X M) (some (.int r.1)) (i_S X r.2) := by
  obtain ⟨d, rfl⟩ : ∃ d1, d = d1 + 1 := ⟨d - 1, by omega⟩
  unfold r_product at h
  refine i_ex (e := i_r196) (lv := [some (.ref 50), none, none, none]) rfl (Nat.le_of_ble_eq_true rfl) rfl ?_
  show I_RnE (I_Ex d) i_c196 (0, [some (.ref 50), none, none, none], [], i_S X M) _ _
  refine i_rs 1 (cf' := (1, [some (.ref 50), none, none, none], [.ref 50], i_S X M)) rfl ?_
  obtain ⟨q15, hq15, h⟩ := i_bdE h
  refine i_rcall (k := 197) (as := [.ref 50]) (cf1 := (4, [some (.ref 50), none, none, none], [], i_S X M)) (cf' := (4, [some (.ref 50), none, none, none], [.int q15.1], i_S X q15.2)) rfl (hr_r_one _ (by omega) _ _ hq15) rfl ?_
  refine i_rs 2 (cf' := (6, [some (.ref 50), some (.int q15.1), none, none], [.ref 50], i_S X q15.2)) rfl ?_
  obtain ⟨q16, hq16, h⟩ := i_bdE h
  refine i_rcall (k := 198) (as := [.ref 50]) (cf1 := (9, [some (.ref 50), some (.int q15.1), none, none], [], i_S X q15.2)) (cf' := (9, [some (.ref 50), some (.int q15.1), none, none], [.int q16.1], i_S X q16.2)) rfl (ok_r_byteAt (by omega) hq16) rfl ?_
  refine i_rs 1 (cf' := (10, [some (.ref 50), some (.int q15.1), some (.int q16.1), none], [], i_S X q16.2)) rfl ?_
  refine i_fg (lv' := [some (.ref 50), some (.int q15.1), some (.int q16.1), none]) (And.intro rfl (And.intro rfl (And.intro rfl True.intro))) ?_
  refine ok_r_product_L10 hN hr_r_one (by omega) i_F q15.1 q16.1 q16.2 _ h
def r_sums_B44 (rec_r_one : I_M → Option (Int32 × I_M)) (self : Int32 → I_M → Option (Int32 × I_M)) (l1 : Int32) (s0 : Int32) (M : I_M) : Option (Int32 × I_M) :=
  Option.bind (r_product rec_r_one (i_wI M 50 19 ((M.1 50 19) + (1 : Int32)))) (fun q10 => (if s0 = (0 : Int32) then
      self (l1 - q10.1) q10.2
    else
      self (l1 + q10.1) q10.2))
theorem ok_r_sums_B44 {X : Nat × (Nat → Int32)} {d : Nat} {rec_r_one : I_M → Option (Int32 × I_M)} {self : Int32 → I_M → Option (Int32 × I_M)} {l1 : Int32} {s0 : Int32} {M : I_M} {r : (Int32 × I_M)} {N : Nat} (hN : 6 ≤ N) (hr_r_one : ∀ (d : Nat), N ≤ d → ∀ (M : I_M) (q : (Int32 × I_M)), rec_r_one M = some q → I_Ex d 197 [.ref 50] (i_S X M) (some (.int q.1)) (i_S X q.2)) (hself : ∀ (m1 : Int32) (M : I_M) (r : (Int32 × I_M)), self m1 M = some r → I_RnE (I_Ex d) i_c195 (5, [some (.ref 50), some (.int m1), none, none], [], i_S X M) (some (.int r.1)) (i_S X r.2)) (hd : N + 2 ≤ d + 1) (h : r_sums_B44 rec_r_one self l1 s0 M = some r) : I_RnE (I_Ex d) i_c195 (44, [some (.ref 50), some (.int l1), none, none], [.int s0], i_S X M) (some (.int r.1)) (i_S X r.2) := by
  unfold r_sums_B44 at h
  refine i_rs 8 (cf' := (56, [some (.ref 50), some (.int l1), some (.int s0), none], [.ref 50], i_S X (i_wI M 50 19 ((M.1 50 19) + (1 : Int32))))) rfl ?_
  obtain ⟨q10, hq10, h⟩ := i_bdE h
  refine i_rcall (k := 196) (as := [.ref 50]) (cf1 := (59, [some (.ref 50), some (.int l1), some (.int s0), none], [], i_S X (i_wI M 50 19 ((M.1 50 19) + (1 : Int32))))) (cf' := (59, [some (.ref 50), some (.int l1), some (.int s0), none], [.int q10.1], i_S X q10.2)) rfl (ok_r_product hN hr_r_one (by omega) hq10) rfl ?_
  refine i_rs 2 (cf' := (61, [some (.ref 50), some (.int l1), some (.int s0), some (.int q10.1)], [.int s0], i_S X q10.2)) rfl ?_
  by_cases c11 : s0 = (0 : Int32)
  · replace h := (if_pos c11).symm.trans h
    refine i_rbT (c := s0 = (0 : Int32)) (t := 70) (n := 64) rfl c11 ?_
    refine i_rs 5 (cf' := (5, [some (.ref 50), some (.int (l1 - q10.1)), some (.int s0), some (.int q10.1)], [], i_S X q10.2)) rfl ?_
    refine i_fg (lv' := [some (.ref 50), some (.int (l1 - q10.1)), none, none]) (And.intro rfl (And.intro rfl True.intro)) ?_
    exact hself (l1 - q10.1) q10.2 _ h
  · replace h := (if_neg c11).symm.trans h
    refine i_rbF (c := s0 = (0 : Int32)) (t := 70) (n := 64) rfl c11 ?_
    refine i_rs 6 (cf' := (5, [some (.ref 50), some (.int (l1 + q10.1)), some (.int s0), some (.int q10.1)], [], i_S X q10.2)) rfl ?_
    refine i_fg (lv' := [some (.ref 50), some (.int (l1 + q10.1)), none, none]) (And.intro rfl (And.intro rfl True.intro)) ?_
    exact hself (l1 + q10.1) q10.2 _ h
def r_sums_L5 (rec_r_one : I_M → Option (Int32 × I_M)) : Nat → Int32 → I_M → Option (Int32 × I_M)
  | 0, _, _ => none
  | n + 1, l1, M =>
    (if (M.1 50 21) < (0 : Int32) then
        Option.bind (r_byteAt M) (fun q2 => (if q2.1 = (43 : Int32) then
          Option.bind (r_byteAt q2.2) (fun q4 => (if q4.1 = (43 : Int32) then
            r_sums_B44 rec_r_one ((r_sums_L5 rec_r_one n)) l1 (1 : Int32) q4.2
          else
            r_sums_B44 rec_r_one ((r_sums_L5 rec_r_one n)) l1 (0 : Int32) q4.2))
        else
          Option.bind (r_byteAt q2.2) (fun q6 => (if q6.1 = (45 : Int32) then
            Option.bind (r_byteAt q6.2) (fun q8 => (if q8.1 = (43 : Int32) then
              r_sums_B44 rec_r_one ((r_sums_L5 rec_r_one n)) l1 (1 : Int32) q8.2
            else
              r_sums_B44 rec_r_one ((r_sums_L5 rec_r_one n)) l1 (0 : Int32) q8.2))
          else
            some (l1, q6.2)))))
      else
        some (l1, M))
theorem ok_r_sums_L5 {X : Nat × (Nat → Int32)} {d : Nat} {rec_r_one : I_M → Option (Int32 × I_M)} {N : Nat} (hN : 6 ≤ N) (hr_r_one : ∀ (d : Nat), N ≤ d → ∀ (M : I_M) (q : (Int32 × I_M)), rec_r_one M = some q → I_Ex d 197 [.ref 50] (i_S X M) (some (.int q.1)) (i_S X q.2)) (hd : N + 2 ≤ d + 1) : ∀ (n : Nat) (l1 : Int32) (M : I_M) (r : (Int32 × I_M)), r_sums_L5 rec_r_one n l1 M = some r → I_RnE (I_Ex d) i_c195 (5, [some (.ref 50), some (.int l1), none, none], [], i_S X M) (some (.int r.1)) (i_S X r.2) := by
  intro n
  induction n with
  | zero => intro _ M r h; cases h
  | succ n hself =>
    intro l1 M r h
    rw [r_sums_L5] at h
    refine i_rs 2 (cf' := (9, [some (.ref 50), some (.int l1), none, none], [.int (M.1 50 21)], i_S X M)) rfl ?_
    by_cases c1 : (M.1 50 21) < (0 : Int32)
    · replace h := (if_pos c1).symm.trans h
      refine i_rbT (c := (M.1 50 21) < (0 : Int32)) (t := 12) (n := 77) rfl c1 ?_
      refine i_rs 1 (cf' := (13, [some (.ref 50), some (.int l1), none, none], [.ref 50], i_S X M)) rfl ?_
      obtain ⟨q2, hq2, h⟩ := i_bdE h
      refine i_rcall (k := 198) (as := [.ref 50]) (cf1 := (16, [some (.ref 50), some (.int l1), none, none], [], i_S X M)) (cf' := (16, [some (.ref 50), some (.int l1), none, none], [.int q2.1], i_S X q2.2)) rfl (ok_r_byteAt (by omega) hq2) rfl ?_
      refine i_rs 1 (cf' := (18, [some (.ref 50), some (.int l1), none, none], [.int (43 : Int32), .int q2.1], i_S X q2.2)) rfl ?_
      by_cases c3 : q2.1 = (43 : Int32)
      · replace h := (if_pos c3).symm.trans h
        refine i_rbT (c := q2.1 = (43 : Int32)) (t := 30) (n := 21) rfl c3 ?_
        refine i_rs 1 (cf' := (31, [some (.ref 50), some (.int l1), none, none], [.ref 50], i_S X q2.2)) rfl ?_
        obtain ⟨q4, hq4, h⟩ := i_bdE h
        refine i_rcall (k := 198) (as := [.ref 50]) (cf1 := (34, [some (.ref 50), some (.int l1), none, none], [], i_S X q2.2)) (cf' := (34, [some (.ref 50), some (.int l1), none, none], [.int q4.1], i_S X q4.2)) rfl (ok_r_byteAt (by omega) hq4) rfl ?_
        refine i_rs 1 (cf' := (36, [some (.ref 50), some (.int l1), none, none], [.int (43 : Int32), .int q4.1], i_S X q4.2)) rfl ?_
        by_cases c5 : q4.1 = (43 : Int32)
        · replace h := (if_pos c5).symm.trans h
          refine i_rbT (c := q4.1 = (43 : Int32)) (t := 39) (n := 43) rfl c5 ?_
          refine i_rs 2 (cf' := (44, [some (.ref 50), some (.int l1), none, none], [.int (1 : Int32)], i_S X q4.2)) rfl ?_
          refine i_fg (lv' := [some (.ref 50), some (.int l1), none, none]) (And.intro rfl (And.intro rfl True.intro)) ?_
          exact ok_r_sums_B44 hN hr_r_one hself (by omega) h
        · replace h := (if_neg c5).symm.trans h
          refine i_rbF (c := q4.1 = (43 : Int32)) (t := 39) (n := 43) rfl c5 ?_
          refine i_rs 1 (cf' := (44, [some (.ref 50), some (.int l1), none, none], [.int (0 : Int32)], i_S X q4.2)) rfl ?_
          refine i_fg (lv' := [some (.ref 50), some (.int l1), none, none]) (And.intro rfl (And.intro rfl True.intro)) ?_
          exact ok_r_sums_B44 hN hr_r_one hself (by omega) h
      · replace h := (if_neg c3).symm.trans h
        refine i_rbF (c := q2.1 = (43 : Int32)) (t := 30) (n := 21) rfl c3 ?_
        refine i_rs 1 (cf' := (22, [some (.ref 50), some (.int l1), none, none], [.ref 50], i_S X q2.2)) rfl ?_
        obtain ⟨q6, hq6, h⟩ := i_bdE h
        refine i_rcall (k := 198) (as := [.ref 50]) (cf1 := (25, [some (.ref 50), some (.int l1), none, none], [], i_S X q2.2)) (cf' := (25, [some (.ref 50), some (.int l1), none, none], [.int q6.1], i_S X q6.2)) rfl (ok_r_byteAt (by omega) hq6) rfl ?_
        refine i_rs 1 (cf' := (27, [some (.ref 50), some (.int l1), none, none], [.int (45 : Int32), .int q6.1], i_S X q6.2)) rfl ?_
        by_cases c7 : q6.1 = (45 : Int32)
        · replace h := (if_pos c7).symm.trans h
          refine i_rbT (c := q6.1 = (45 : Int32)) (t := 30) (n := 77) rfl c7 ?_
          refine i_rs 1 (cf' := (31, [some (.ref 50), some (.int l1), none, none], [.ref 50], i_S X q6.2)) rfl ?_
          obtain ⟨q8, hq8, h⟩ := i_bdE h
          refine i_rcall (k := 198) (as := [.ref 50]) (cf1 := (34, [some (.ref 50), some (.int l1), none, none], [], i_S X q6.2)) (cf' := (34, [some (.ref 50), some (.int l1), none, none], [.int q8.1], i_S X q8.2)) rfl (ok_r_byteAt (by omega) hq8) rfl ?_
          refine i_rs 1 (cf' := (36, [some (.ref 50), some (.int l1), none, none], [.int (43 : Int32), .int q8.1], i_S X q8.2)) rfl ?_
          by_cases c9 : q8.1 = (43 : Int32)
          · replace h := (if_pos c9).symm.trans h
            refine i_rbT (c := q8.1 = (43 : Int32)) (t := 39) (n := 43) rfl c9 ?_
            refine i_rs 2 (cf' := (44, [some (.ref 50), some (.int l1), none, none], [.int (1 : Int32)], i_S X q8.2)) rfl ?_
            refine i_fg (lv' := [some (.ref 50), some (.int l1), none, none]) (And.intro rfl (And.intro rfl True.intro)) ?_
            exact ok_r_sums_B44 hN hr_r_one hself (by omega) h
          · replace h := (if_neg c9).symm.trans h
            refine i_rbF (c := q8.1 = (43 : Int32)) (t := 39) (n := 43) rfl c9 ?_
            refine i_rs 1 (cf' := (44, [some (.ref 50), some (.int l1), none, none], [.int (0 : Int32)], i_S X q8.2)) rfl ?_
            refine i_fg (lv' := [some (.ref 50), some (.int l1), none, none]) (And.intro rfl (And.intro rfl True.intro)) ?_
            exact ok_r_sums_B44 hN hr_r_one hself (by omega) h
        · replace h := (if_neg c7).symm.trans h
          refine i_rbF (c := q6.1 = (45 : Int32)) (t := 30) (n := 77) rfl c7 ?_
          refine i_rs 1 (cf' := (78, [some (.ref 50), some (.int l1), none, none], [.int l1], i_S X q6.2)) rfl ?_
          obtain rfl := Option.some.inj h
          exact i_rret rfl rfl
    · replace h := (if_neg c1).symm.trans h
      refine i_rbF (c := (M.1 50 21) < (0 : Int32)) (t := 12) (n := 77) rfl c1 ?_
      refine i_rs 1 (cf' := (78, [some (.ref 50), some (.int l1), none, none], [.int l1], i_S X M)) rfl ?_
      obtain rfl := Option.some.inj h
      exact i_rret rfl rfl
def r_sums (rec_r_one : I_M → Option (Int32 × I_M)) (M : I_M) : Option (Int32 × I_M) :=
  Option.bind (r_product rec_r_one M) (fun q12 => r_sums_L5 rec_r_one i_F q12.1 q12.2)
theorem ok_r_sums {X : Nat × (Nat → Int32)} {d : Nat} {rec_r_one : I_M → Option (Int32 × I_M)} {M : I_M} {r : (Int32 × I_M)} {N : Nat} (hN : 6 ≤ N) (hr_r_one : ∀ (d : Nat), N ≤ d → ∀ (M : I_M) (q : (Int32 × I_M)), rec_r_one M = some q → I_Ex d 197 [.ref 50] (i_S X M) (some (.int q.1)) (i_S X q.2)) (hd : N + 2 ≤ d) (h : r_sums rec_r_one M = some r) : I_Ex d 195 [.ref 50] (i_S X M) (some (.int r.1)) (i_S X r.2) := by
  obtain ⟨d, rfl⟩ : ∃ d1, d = d1 + 1 := ⟨d - 1, by omega⟩
  unfold r_sums at h
  refine i_ex (e := i_r195) (lv := [some (.ref 50), none, none, none]) rfl (Nat.le_of_ble_eq_true rfl) rfl ?_
  show I_RnE (I_Ex d) i_c195 (0, [some (.ref 50), none, none, none], [], i_S X M) _ _
  refine i_rs 1 (cf' := (1, [some (.ref 50), none, none, none], [.ref 50], i_S X M)) rfl ?_
  obtain ⟨q12, hq12, h⟩ := i_bdE h
  refine i_rcall (k := 196) (as := [.ref 50]) (cf1 := (4, [some (.ref 50), none, none, none], [], i_S X M)) (cf' := (4, [some (.ref 50), none, none, none], [.int q12.1], i_S X q12.2)) rfl (ok_r_product hN hr_r_one (by omega) hq12) rfl ?_
  refine i_rs 1 (cf' := (5, [some (.ref 50), some (.int q12.1), none, none], [], i_S X q12.2)) rfl ?_
  refine i_fg (lv' := [some (.ref 50), some (.int q12.1), none, none]) (And.intro rfl (And.intro rfl True.intro)) ?_
  refine ok_r_sums_L5 hN hr_r_one (by omega) i_F q12.1 q12.2 _ h
def r_compared_B37 (rec_r_one : I_M → Option (Int32 × I_M)) (l1 : Int32) (l2 : Int32) (M : I_M) : Option (Int32 × I_M) :=
  Option.bind (r_sums rec_r_one (i_wI M 50 19 ((M.1 50 19) + (1 : Int32)))) (fun q1 => (if l2 = (60 : Int32) then
      (if l1 < q1.1 then
        some ((1 : Int32), q1.2)
      else
        some ((0 : Int32), q1.2))
    else
      (if l2 = (61 : Int32) then
        (if l1 = q1.1 then
          some ((1 : Int32), q1.2)
        else
          some ((0 : Int32), q1.2))
      else
        (if q1.1 < l1 then
          some ((1 : Int32), q1.2)
        else
          some ((0 : Int32), q1.2)))))
theorem ok_r_compared_B37 {X : Nat × (Nat → Int32)} {d : Nat} {rec_r_one : I_M → Option (Int32 × I_M)} {l1 : Int32} {l2 : Int32} {M : I_M} {r : (Int32 × I_M)} {N : Nat} (hN : 6 ≤ N) (hr_r_one : ∀ (d : Nat), N ≤ d → ∀ (M : I_M) (q : (Int32 × I_M)), rec_r_one M = some q → I_Ex d 197 [.ref 50] (i_S X M) (some (.int q.1)) (i_S X q.2)) (hd : N + 3 ≤ d + 1) (h : r_compared_B37 rec_r_one l1 l2 M = some r) : I_RnE (I_Ex d) i_c194 (37, [some (.ref 50), some (.int l1), some (.int l2), none], [], i_S X M) (some (.int r.1)) (i_S X r.2) := by
  unfold r_compared_B37 at h
  refine i_rs 7 (cf' := (48, [some (.ref 50), some (.int l1), some (.int l2), none], [.ref 50], i_S X (i_wI M 50 19 ((M.1 50 19) + (1 : Int32))))) rfl ?_
  obtain ⟨q1, hq1, h⟩ := i_bdE h
  refine i_rcall (k := 195) (as := [.ref 50]) (cf1 := (51, [some (.ref 50), some (.int l1), some (.int l2), none], [], i_S X (i_wI M 50 19 ((M.1 50 19) + (1 : Int32))))) (cf' := (51, [some (.ref 50), some (.int l1), some (.int l2), none], [.int q1.1], i_S X q1.2)) rfl (ok_r_sums hN hr_r_one (by omega) hq1) rfl ?_
  refine i_rs 3 (cf' := (55, [some (.ref 50), some (.int l1), some (.int l2), some (.int q1.1)], [.int (60 : Int32), .int l2], i_S X q1.2)) rfl ?_
  by_cases c2 : l2 = (60 : Int32)
  · replace h := (if_pos c2).symm.trans h
    refine i_rbT (c := l2 = (60 : Int32)) (t := 58) (n := 66) rfl c2 ?_
    refine i_rs 2 (cf' := (60, [some (.ref 50), some (.int l1), some (.int l2), some (.int q1.1)], [.int q1.1, .int l1], i_S X q1.2)) rfl ?_
    by_cases c3 : l1 < q1.1
    · replace h := (if_pos c3).symm.trans h
      refine i_rbT (c := l1 < q1.1) (t := 63) (n := 89) rfl c3 ?_
      refine i_rs 3 (cf' := (90, [some (.ref 50), some (.int l1), some (.int l2), some (.int q1.1)], [.int (1 : Int32)], i_S X q1.2)) rfl ?_
      obtain rfl := Option.some.inj h
      exact i_rret rfl rfl
    · replace h := (if_neg c3).symm.trans h
      refine i_rbF (c := l1 < q1.1) (t := 63) (n := 89) rfl c3 ?_
      refine i_rs 1 (cf' := (90, [some (.ref 50), some (.int l1), some (.int l2), some (.int q1.1)], [.int (0 : Int32)], i_S X q1.2)) rfl ?_
      obtain rfl := Option.some.inj h
      exact i_rret rfl rfl
  · replace h := (if_neg c2).symm.trans h
    refine i_rbF (c := l2 = (60 : Int32)) (t := 58) (n := 66) rfl c2 ?_
    refine i_rs 2 (cf' := (69, [some (.ref 50), some (.int l1), some (.int l2), some (.int q1.1)], [.int (61 : Int32), .int l2], i_S X q1.2)) rfl ?_
    by_cases c4 : l2 = (61 : Int32)
    · replace h := (if_pos c4).symm.trans h
      refine i_rbT (c := l2 = (61 : Int32)) (t := 72) (n := 80) rfl c4 ?_
      refine i_rs 2 (cf' := (74, [some (.ref 50), some (.int l1), some (.int l2), some (.int q1.1)], [.int q1.1, .int l1], i_S X q1.2)) rfl ?_
      by_cases c5 : l1 = q1.1
      · replace h := (if_pos c5).symm.trans h
        refine i_rbT (c := l1 = q1.1) (t := 77) (n := 89) rfl c5 ?_
        refine i_rs 3 (cf' := (90, [some (.ref 50), some (.int l1), some (.int l2), some (.int q1.1)], [.int (1 : Int32)], i_S X q1.2)) rfl ?_
        obtain rfl := Option.some.inj h
        exact i_rret rfl rfl
      · replace h := (if_neg c5).symm.trans h
        refine i_rbF (c := l1 = q1.1) (t := 77) (n := 89) rfl c5 ?_
        refine i_rs 1 (cf' := (90, [some (.ref 50), some (.int l1), some (.int l2), some (.int q1.1)], [.int (0 : Int32)], i_S X q1.2)) rfl ?_
        obtain rfl := Option.some.inj h
        exact i_rret rfl rfl
    · replace h := (if_neg c4).symm.trans h
      refine i_rbF (c := l2 = (61 : Int32)) (t := 72) (n := 80) rfl c4 ?_
      refine i_rs 2 (cf' := (82, [some (.ref 50), some (.int l1), some (.int l2), some (.int q1.1)], [.int q1.1, .int l1], i_S X q1.2)) rfl ?_
      by_cases c6 : q1.1 < l1
      · replace h := (if_pos c6).symm.trans h
        refine i_rbT (c := q1.1 < l1) (t := 85) (n := 89) rfl c6 ?_
        refine i_rs 2 (cf' := (90, [some (.ref 50), some (.int l1), some (.int l2), some (.int q1.1)], [.int (1 : Int32)], i_S X q1.2)) rfl ?_
        obtain rfl := Option.some.inj h
        exact i_rret rfl rfl
      · replace h := (if_neg c6).symm.trans h
        refine i_rbF (c := q1.1 < l1) (t := 85) (n := 89) rfl c6 ?_
        refine i_rs 1 (cf' := (90, [some (.ref 50), some (.int l1), some (.int l2), some (.int q1.1)], [.int (0 : Int32)], i_S X q1.2)) rfl ?_
        obtain rfl := Option.some.inj h
        exact i_rret rfl rfl
def r_compared (rec_r_one : I_M → Option (Int32 × I_M)) (M : I_M) : Option (Int32 × I_M) :=
  Option.bind (r_sums rec_r_one M) (fun q7 => Option.bind (r_byteAt q7.2) (fun q8 => (if (q8.2.1 50 21) < (0 : Int32) then
      (if q8.1 = (60 : Int32) then
        r_compared_B37 rec_r_one q7.1 q8.1 q8.2
      else
        (if q8.1 = (61 : Int32) then
          r_compared_B37 rec_r_one q7.1 q8.1 q8.2
        else
          (if q8.1 = (62 : Int32) then
            r_compared_B37 rec_r_one q7.1 q8.1 q8.2
          else
            some (q7.1, q8.2))))
    else
      some (q7.1, q8.2))))
theorem ok_r_compared {X : Nat × (Nat → Int32)} {d : Nat} {rec_r_one : I_M → Option (Int32 × I_M)} {M : I_M} {r : (Int32 × I_M)} {N : Nat} (hN : 6 ≤ N) (hr_r_one : ∀ (d : Nat), N ≤ d → ∀ (M : I_M) (q : (Int32 × I_M)), rec_r_one M = some q → I_Ex d 197 [.ref 50] (i_S X M) (some (.int q.1)) (i_S X q.2)) (hd : N + 3 ≤ d) (h : r_compared rec_r_one M = some r) : I_Ex d 194 [.ref 50] (i_S X M) (some (.int r.1)) (i_S X r.2) := by
  obtain ⟨d, rfl⟩ : ∃ d1, d = d1 + 1 := ⟨d - 1, by omega⟩
  unfold r_compared at h
  refine i_ex (e := i_r194) (lv := [some (.ref 50), none, none, none]) rfl (Nat.le_of_ble_eq_true rfl) rfl ?_
  show I_RnE (I_Ex d) i_c194 (0, [some (.ref 50), none, none, none], [], i_S X M) _ _
  refine i_rs 1 (cf' := (1, [some (.ref 50), none, none, none], [.ref 50], i_S X M)) rfl ?_
  obtain ⟨q7, hq7, h⟩ := i_bdE h
  refine i_rcall (k := 195) (as := [.ref 50]) (cf1 := (4, [some (.ref 50), none, none, none], [], i_S X M)) (cf' := (4, [some (.ref 50), none, none, none], [.int q7.1], i_S X q7.2)) rfl (ok_r_sums hN hr_r_one (by omega) hq7) rfl ?_
  refine i_rs 2 (cf' := (6, [some (.ref 50), some (.int q7.1), none, none], [.ref 50], i_S X q7.2)) rfl ?_
  obtain ⟨q8, hq8, h⟩ := i_bdE h
  refine i_rcall (k := 198) (as := [.ref 50]) (cf1 := (9, [some (.ref 50), some (.int q7.1), none, none], [], i_S X q7.2)) (cf' := (9, [some (.ref 50), some (.int q7.1), none, none], [.int q8.1], i_S X q8.2)) rfl (ok_r_byteAt (by omega) hq8) rfl ?_
  refine i_rs 3 (cf' := (14, [some (.ref 50), some (.int q7.1), some (.int q8.1), none], [.int (q8.2.1 50 21)], i_S X q8.2)) rfl ?_
  by_cases c9 : (q8.2.1 50 21) < (0 : Int32)
  · replace h := (if_pos c9).symm.trans h
    refine i_rbT (c := (q8.2.1 50 21) < (0 : Int32)) (t := 17) (n := 35) rfl c9 ?_
    refine i_rs 2 (cf' := (20, [some (.ref 50), some (.int q7.1), some (.int q8.1), none], [.int (60 : Int32), .int q8.1], i_S X q8.2)) rfl ?_
    by_cases c10 : q8.1 = (60 : Int32)
    · replace h := (if_pos c10).symm.trans h
      refine i_rbT (c := q8.1 = (60 : Int32)) (t := 37) (n := 23) rfl c10 ?_
      refine i_fg (lv' := [some (.ref 50), some (.int q7.1), some (.int q8.1), none]) (And.intro rfl (And.intro rfl (And.intro rfl True.intro))) ?_
      exact ok_r_compared_B37 hN hr_r_one (by omega) h
    · replace h := (if_neg c10).symm.trans h
      refine i_rbF (c := q8.1 = (60 : Int32)) (t := 37) (n := 23) rfl c10 ?_
      refine i_rs 2 (cf' := (26, [some (.ref 50), some (.int q7.1), some (.int q8.1), none], [.int (61 : Int32), .int q8.1], i_S X q8.2)) rfl ?_
      by_cases c11 : q8.1 = (61 : Int32)
      · replace h := (if_pos c11).symm.trans h
        refine i_rbT (c := q8.1 = (61 : Int32)) (t := 37) (n := 29) rfl c11 ?_
        refine i_fg (lv' := [some (.ref 50), some (.int q7.1), some (.int q8.1), none]) (And.intro rfl (And.intro rfl (And.intro rfl True.intro))) ?_
        exact ok_r_compared_B37 hN hr_r_one (by omega) h
      · replace h := (if_neg c11).symm.trans h
        refine i_rbF (c := q8.1 = (61 : Int32)) (t := 37) (n := 29) rfl c11 ?_
        refine i_rs 2 (cf' := (32, [some (.ref 50), some (.int q7.1), some (.int q8.1), none], [.int (62 : Int32), .int q8.1], i_S X q8.2)) rfl ?_
        by_cases c12 : q8.1 = (62 : Int32)
        · replace h := (if_pos c12).symm.trans h
          refine i_rbT (c := q8.1 = (62 : Int32)) (t := 37) (n := 35) rfl c12 ?_
          refine i_fg (lv' := [some (.ref 50), some (.int q7.1), some (.int q8.1), none]) (And.intro rfl (And.intro rfl (And.intro rfl True.intro))) ?_
          exact ok_r_compared_B37 hN hr_r_one (by omega) h
        · replace h := (if_neg c12).symm.trans h
          refine i_rbF (c := q8.1 = (62 : Int32)) (t := 37) (n := 35) rfl c12 ?_
          refine i_rs 1 (cf' := (36, [some (.ref 50), some (.int q7.1), some (.int q8.1), none], [.int q7.1], i_S X q8.2)) rfl ?_
          obtain rfl := Option.some.inj h
          exact i_rret rfl rfl
  · replace h := (if_neg c9).symm.trans h
    refine i_rbF (c := (q8.2.1 50 21) < (0 : Int32)) (t := 17) (n := 35) rfl c9 ?_
    refine i_rs 1 (cf' := (36, [some (.ref 50), some (.int q7.1), some (.int q8.1), none], [.int q7.1], i_S X q8.2)) rfl ?_
    obtain rfl := Option.some.inj h
    exact i_rret rfl rfl
def r_both_L5 (rec_r_one : I_M → Option (Int32 × I_M)) : Nat → Int32 → I_M → Option (Int32 × I_M)
  | 0, _, _ => none
  | n + 1, l1, M =>
    Option.bind (r_takes (38 : Int32) M) (fun q1 => (if q1.1 = (0 : Int32) then
        some (l1, q1.2)
      else
        Option.bind (r_compared rec_r_one q1.2) (fun q3 => (if l1 = (0 : Int32) then
          (r_both_L5 rec_r_one n) (0 : Int32) q3.2
        else
          (if q3.1 = (0 : Int32) then
            (r_both_L5 rec_r_one n) (0 : Int32) q3.2
          else
            (r_both_L5 rec_r_one n) (1 : Int32) q3.2)))))
theorem ok_r_both_L5 {X : Nat × (Nat → Int32)} {d : Nat} {rec_r_one : I_M → Option (Int32 × I_M)} {N : Nat} (hN : 6 ≤ N) (hr_r_one : ∀ (d : Nat), N ≤ d → ∀ (M : I_M) (q : (Int32 × I_M)), rec_r_one M = some q → I_Ex d 197 [.ref 50] (i_S X M) (some (.int q.1)) (i_S X q.2)) (hd : N + 4 ≤ d + 1) : ∀ (n : Nat) (l1 : Int32) (M : I_M) (r : (Int32 × I_M)), r_both_L5 rec_r_one n l1 M = some r → I_RnE (I_Ex d) i_c193 (5, [some (.ref 50), some (.int l1), none], [], i_S X M) (some (.int r.1)) (i_S X r.2) := by
  intro n
  induction n with
  | zero => intro _ M r h; cases h
  | succ n hself =>
    intro l1 M r h
    rw [r_both_L5] at h
    refine i_rs 2 (cf' := (8, [some (.ref 50), some (.int l1), none], [.int (38 : Int32), .ref 50], i_S X M)) rfl ?_
    obtain ⟨q1, hq1, h⟩ := i_bdE h
    refine i_rcall (k := 200) (as := [.ref 50, .int (38 : Int32)]) (cf1 := (11, [some (.ref 50), some (.int l1), none], [], i_S X M)) (cf' := (11, [some (.ref 50), some (.int l1), none], [.int q1.1], i_S X q1.2)) rfl (ok_r_takes (by omega) hq1) rfl ?_
    by_cases c2 : q1.1 = (0 : Int32)
    · replace h := (if_pos c2).symm.trans h
      refine i_rbT (c := q1.1 = (0 : Int32)) (t := 36) (n := 14) rfl c2 ?_
      refine i_rs 1 (cf' := (37, [some (.ref 50), some (.int l1), none], [.int l1], i_S X q1.2)) rfl ?_
      obtain rfl := Option.some.inj h
      exact i_rret rfl rfl
    · replace h := (if_neg c2).symm.trans h
      refine i_rbF (c := q1.1 = (0 : Int32)) (t := 36) (n := 14) rfl c2 ?_
      refine i_rs 1 (cf' := (15, [some (.ref 50), some (.int l1), none], [.ref 50], i_S X q1.2)) rfl ?_
      obtain ⟨q3, hq3, h⟩ := i_bdE h
      refine i_rcall (k := 194) (as := [.ref 50]) (cf1 := (18, [some (.ref 50), some (.int l1), none], [], i_S X q1.2)) (cf' := (18, [some (.ref 50), some (.int l1), none], [.int q3.1], i_S X q3.2)) rfl (ok_r_compared hN hr_r_one (by omega) hq3) rfl ?_
      refine i_rs 2 (cf' := (20, [some (.ref 50), some (.int l1), some (.int q3.1)], [.int l1], i_S X q3.2)) rfl ?_
      by_cases c4 : l1 = (0 : Int32)
      · replace h := (if_pos c4).symm.trans h
        refine i_rbT (c := l1 = (0 : Int32)) (t := 31) (n := 23) rfl c4 ?_
        refine i_rs 3 (cf' := (5, [some (.ref 50), some (.int (0 : Int32)), some (.int q3.1)], [], i_S X q3.2)) rfl ?_
        refine i_fg (lv' := [some (.ref 50), some (.int (0 : Int32)), none]) (And.intro rfl (And.intro rfl True.intro)) ?_
        exact hself (0 : Int32) q3.2 _ h
      · replace h := (if_neg c4).symm.trans h
        refine i_rbF (c := l1 = (0 : Int32)) (t := 31) (n := 23) rfl c4 ?_
        refine i_rs 1 (cf' := (24, [some (.ref 50), some (.int l1), some (.int q3.1)], [.int q3.1], i_S X q3.2)) rfl ?_
        by_cases c5 : q3.1 = (0 : Int32)
        · replace h := (if_pos c5).symm.trans h
          refine i_rbT (c := q3.1 = (0 : Int32)) (t := 31) (n := 27) rfl c5 ?_
          refine i_rs 3 (cf' := (5, [some (.ref 50), some (.int (0 : Int32)), some (.int q3.1)], [], i_S X q3.2)) rfl ?_
          refine i_fg (lv' := [some (.ref 50), some (.int (0 : Int32)), none]) (And.intro rfl (And.intro rfl True.intro)) ?_
          exact hself (0 : Int32) q3.2 _ h
        · replace h := (if_neg c5).symm.trans h
          refine i_rbF (c := q3.1 = (0 : Int32)) (t := 31) (n := 27) rfl c5 ?_
          refine i_rs 4 (cf' := (5, [some (.ref 50), some (.int (1 : Int32)), some (.int q3.1)], [], i_S X q3.2)) rfl ?_
          refine i_fg (lv' := [some (.ref 50), some (.int (1 : Int32)), none]) (And.intro rfl (And.intro rfl True.intro)) ?_
          exact hself (1 : Int32) q3.2 _ h
def r_both (rec_r_one : I_M → Option (Int32 × I_M)) (M : I_M) : Option (Int32 × I_M) :=
  Option.bind (r_compared rec_r_one M) (fun q6 => r_both_L5 rec_r_one i_F q6.1 q6.2)
theorem ok_r_both {X : Nat × (Nat → Int32)} {d : Nat} {rec_r_one : I_M → Option (Int32 × I_M)} {M : I_M} {r : (Int32 × I_M)} {N : Nat} (hN : 6 ≤ N) (hr_r_one : ∀ (d : Nat), N ≤ d → ∀ (M : I_M) (q : (Int32 × I_M)), rec_r_one M = some q → I_Ex d 197 [.ref 50] (i_S X M) (some (.int q.1)) (i_S X q.2)) (hd : N + 4 ≤ d) (h : r_both rec_r_one M = some r) : I_Ex d 193 [.ref 50] (i_S X M) (some (.int r.1)) (i_S X r.2) := by
  obtain ⟨d, rfl⟩ : ∃ d1, d = d1 + 1 := ⟨d - 1, by omega⟩
  unfold r_both at h
  refine i_ex (e := i_r193) (lv := [some (.ref 50), none, none]) rfl (Nat.le_of_ble_eq_true rfl) rfl ?_
  show I_RnE (I_Ex d) i_c193 (0, [some (.ref 50), none, none], [], i_S X M) _ _
  refine i_rs 1 (cf' := (1, [some (.ref 50), none, none], [.ref 50], i_S X M)) rfl ?_
  obtain ⟨q6, hq6, h⟩ := i_bdE h
  refine i_rcall (k := 194) (as := [.ref 50]) (cf1 := (4, [some (.ref 50), none, none], [], i_S X M)) (cf' := (4, [some (.ref 50), none, none], [.int q6.1], i_S X q6.2)) rfl (ok_r_compared hN hr_r_one (by omega) hq6) rfl ?_
  refine i_rs 1 (cf' := (5, [some (.ref 50), some (.int q6.1), none], [], i_S X q6.2)) rfl ?_
  refine i_fg (lv' := [some (.ref 50), some (.int q6.1), none]) (And.intro rfl (And.intro rfl True.intro)) ?_
  refine ok_r_both_L5 hN hr_r_one (by omega) i_F q6.1 q6.2 _ h
def r_either_L5 (rec_r_one : I_M → Option (Int32 × I_M)) : Nat → Int32 → I_M → Option (Int32 × I_M)
  | 0, _, _ => none
  | n + 1, l1, M =>
    Option.bind (r_takes (124 : Int32) M) (fun q1 => (if q1.1 = (0 : Int32) then
        some (l1, q1.2)
      else
        Option.bind (r_both rec_r_one q1.2) (fun q3 => (if l1 = (0 : Int32) then
          (if q3.1 = (0 : Int32) then
            (r_either_L5 rec_r_one n) (0 : Int32) q3.2
          else
            (r_either_L5 rec_r_one n) (1 : Int32) q3.2)
        else
          (r_either_L5 rec_r_one n) (1 : Int32) q3.2))))
theorem ok_r_either_L5 {X : Nat × (Nat → Int32)} {d : Nat} {rec_r_one : I_M → Option (Int32 × I_M)} {N : Nat} (hN : 6 ≤ N) (hr_r_one : ∀ (d : Nat), N ≤ d → ∀ (M : I_M) (q : (Int32 × I_M)), rec_r_one M = some q → I_Ex d 197 [.ref 50] (i_S X M) (some (.int q.1)) (i_S X q.2)) (hd : N + 5 ≤ d + 1) : ∀ (n : Nat) (l1 : Int32) (M : I_M) (r : (Int32 × I_M)), r_either_L5 rec_r_one n l1 M = some r → I_RnE (I_Ex d) i_c192 (5, [some (.ref 50), some (.int l1), none], [], i_S X M) (some (.int r.1)) (i_S X r.2) := by
  intro n
  induction n with
  | zero => intro _ M r h; cases h
  | succ n hself =>
    intro l1 M r h
    rw [r_either_L5] at h
    refine i_rs 2 (cf' := (8, [some (.ref 50), some (.int l1), none], [.int (124 : Int32), .ref 50], i_S X M)) rfl ?_
    obtain ⟨q1, hq1, h⟩ := i_bdE h
    refine i_rcall (k := 200) (as := [.ref 50, .int (124 : Int32)]) (cf1 := (11, [some (.ref 50), some (.int l1), none], [], i_S X M)) (cf' := (11, [some (.ref 50), some (.int l1), none], [.int q1.1], i_S X q1.2)) rfl (ok_r_takes (by omega) hq1) rfl ?_
    by_cases c2 : q1.1 = (0 : Int32)
    · replace h := (if_pos c2).symm.trans h
      refine i_rbT (c := q1.1 = (0 : Int32)) (t := 36) (n := 14) rfl c2 ?_
      refine i_rs 1 (cf' := (37, [some (.ref 50), some (.int l1), none], [.int l1], i_S X q1.2)) rfl ?_
      obtain rfl := Option.some.inj h
      exact i_rret rfl rfl
    · replace h := (if_neg c2).symm.trans h
      refine i_rbF (c := q1.1 = (0 : Int32)) (t := 36) (n := 14) rfl c2 ?_
      refine i_rs 1 (cf' := (15, [some (.ref 50), some (.int l1), none], [.ref 50], i_S X q1.2)) rfl ?_
      obtain ⟨q3, hq3, h⟩ := i_bdE h
      refine i_rcall (k := 193) (as := [.ref 50]) (cf1 := (18, [some (.ref 50), some (.int l1), none], [], i_S X q1.2)) (cf' := (18, [some (.ref 50), some (.int l1), none], [.int q3.1], i_S X q3.2)) rfl (ok_r_both hN hr_r_one (by omega) hq3) rfl ?_
      refine i_rs 2 (cf' := (20, [some (.ref 50), some (.int l1), some (.int q3.1)], [.int l1], i_S X q3.2)) rfl ?_
      by_cases c4 : l1 = (0 : Int32)
      · replace h := (if_pos c4).symm.trans h
        refine i_rbT (c := l1 = (0 : Int32)) (t := 23) (n := 27) rfl c4 ?_
        refine i_rs 1 (cf' := (24, [some (.ref 50), some (.int l1), some (.int q3.1)], [.int q3.1], i_S X q3.2)) rfl ?_
        by_cases c5 : q3.1 = (0 : Int32)
        · replace h := (if_pos c5).symm.trans h
          refine i_rbT (c := q3.1 = (0 : Int32)) (t := 31) (n := 27) rfl c5 ?_
          refine i_rs 3 (cf' := (5, [some (.ref 50), some (.int (0 : Int32)), some (.int q3.1)], [], i_S X q3.2)) rfl ?_
          refine i_fg (lv' := [some (.ref 50), some (.int (0 : Int32)), none]) (And.intro rfl (And.intro rfl True.intro)) ?_
          exact hself (0 : Int32) q3.2 _ h
        · replace h := (if_neg c5).symm.trans h
          refine i_rbF (c := q3.1 = (0 : Int32)) (t := 31) (n := 27) rfl c5 ?_
          refine i_rs 4 (cf' := (5, [some (.ref 50), some (.int (1 : Int32)), some (.int q3.1)], [], i_S X q3.2)) rfl ?_
          refine i_fg (lv' := [some (.ref 50), some (.int (1 : Int32)), none]) (And.intro rfl (And.intro rfl True.intro)) ?_
          exact hself (1 : Int32) q3.2 _ h
      · replace h := (if_neg c4).symm.trans h
        refine i_rbF (c := l1 = (0 : Int32)) (t := 23) (n := 27) rfl c4 ?_
        refine i_rs 4 (cf' := (5, [some (.ref 50), some (.int (1 : Int32)), some (.int q3.1)], [], i_S X q3.2)) rfl ?_
        refine i_fg (lv' := [some (.ref 50), some (.int (1 : Int32)), none]) (And.intro rfl (And.intro rfl True.intro)) ?_
        exact hself (1 : Int32) q3.2 _ h
def r_either (rec_r_one : I_M → Option (Int32 × I_M)) (M : I_M) : Option (Int32 × I_M) :=
  Option.bind (r_both rec_r_one M) (fun q6 => r_either_L5 rec_r_one i_F q6.1 q6.2)
theorem ok_r_either {X : Nat × (Nat → Int32)} {d : Nat} {rec_r_one : I_M → Option (Int32 × I_M)} {M : I_M} {r : (Int32 × I_M)} {N : Nat} (hN : 6 ≤ N) (hr_r_one : ∀ (d : Nat), N ≤ d → ∀ (M : I_M) (q : (Int32 × I_M)), rec_r_one M = some q → I_Ex d 197 [.ref 50] (i_S X M) (some (.int q.1)) (i_S X q.2)) (hd : N + 5 ≤ d) (h : r_either rec_r_one M = some r) : I_Ex d 192 [.ref 50] (i_S X M) (some (.int r.1)) (i_S X r.2) := by
  obtain ⟨d, rfl⟩ : ∃ d1, d = d1 + 1 := ⟨d - 1, by omega⟩
  unfold r_either at h
  refine i_ex (e := i_r192) (lv := [some (.ref 50), none, none]) rfl (Nat.le_of_ble_eq_true rfl) rfl ?_
  show I_RnE (I_Ex d) i_c192 (0, [some (.ref 50), none, none], [], i_S X M) _ _
  refine i_rs 1 (cf' := (1, [some (.ref 50), none, none], [.ref 50], i_S X M)) rfl ?_
  obtain ⟨q6, hq6, h⟩ := i_bdE h
  refine i_rcall (k := 193) (as := [.ref 50]) (cf1 := (4, [some (.ref 50), none, none], [], i_S X M)) (cf' := (4, [some (.ref 50), none, none], [.int q6.1], i_S X q6.2)) rfl (ok_r_both hN hr_r_one (by omega) hq6) rfl ?_
  refine i_rs 1 (cf' := (5, [some (.ref 50), some (.int q6.1), none], [], i_S X q6.2)) rfl ?_
  refine i_fg (lv' := [some (.ref 50), some (.int q6.1), none]) (And.intro rfl (And.intro rfl True.intro)) ?_
  refine ok_r_either_L5 hN hr_r_one (by omega) i_F q6.1 q6.2 _ h
def r_one_b_L176 (rec_r_one : I_M → Option (Int32 × I_M)) (k229 : Int32 → Int32 → I_M → Option (Int32 × I_M)) : Nat → Int32 → Int32 → I_M → Option (Int32 × I_M)
  | 0, _, _, _ => none
  | n + 1, l3, l4, M =>
    (if l4 < (4 : Int32) then
        Option.bind (r_byteAt M) (fun q2 => (if q2.1 < (48 : Int32) then
          k229 l3 l4 q2.2
        else
          Option.bind (r_byteAt q2.2) (fun q4 => (if (57 : Int32) < q4.1 then
            k229 l3 l4 q4.2
          else
            Option.bind (r_byteAt q4.2) (fun q6 => (r_one_b_L176 rec_r_one k229 n) ((((10 : Int32) * l3) + q6.1) - (48 : Int32)) (l4 + (1 : Int32)) (i_wI q6.2 50 19 ((q6.2.1 50 19) + (1 : Int32))))))))
      else
        k229 l3 l4 M)
theorem ok_r_one_b_L176 {X : Nat × (Nat → Int32)} {d : Nat} {rec_r_one : I_M → Option (Int32 × I_M)} {k229 : Int32 → Int32 → I_M → Option (Int32 × I_M)} {N : Nat} (hN : 6 ≤ N) (hr_r_one : ∀ (d : Nat), N ≤ d → ∀ (M : I_M) (q : (Int32 × I_M)), rec_r_one M = some q → I_Ex d 197 [.ref 50] (i_S X M) (some (.int q.1)) (i_S X q.2)) (hd : N + 6 ≤ d + 1) (hk229 : ∀ (l3 : Int32) (l4 : Int32) (M : I_M) (r : (Int32 × I_M)), k229 l3 l4 M = some r → I_RnE (I_Ex d) i_c197 (229, [some (.ref 50), none, none, some (.int l3), some (.int l4)], [], i_S X M) (some (.int r.1)) (i_S X r.2)) : ∀ (n : Nat) (l3 : Int32) (l4 : Int32) (M : I_M) (r : (Int32 × I_M)), r_one_b_L176 rec_r_one k229 n l3 l4 M = some r → I_RnE (I_Ex d) i_c197 (176, [some (.ref 50), none, none, some (.int l3), some (.int l4)], [], i_S X M) (some (.int r.1)) (i_S X r.2) := by
  intro n
  induction n with
  | zero => intro _ _ M r h; cases h
  | succ n hself =>
    intro l3 l4 M r h
    rw [r_one_b_L176] at h
    refine i_rs 2 (cf' := (179, [some (.ref 50), none, none, some (.int l3), some (.int l4)], [.int (4 : Int32), .int l4], i_S X M)) rfl ?_
    by_cases c1 : l4 < (4 : Int32)
    · replace h := (if_pos c1).symm.trans h
      refine i_rbT (c := l4 < (4 : Int32)) (t := 182) (n := 229) rfl c1 ?_
      refine i_rs 1 (cf' := (183, [some (.ref 50), none, none, some (.int l3), some (.int l4)], [.ref 50], i_S X M)) rfl ?_
      obtain ⟨q2, hq2, h⟩ := i_bdE h
      refine i_rcall (k := 198) (as := [.ref 50]) (cf1 := (186, [some (.ref 50), none, none, some (.int l3), some (.int l4)], [], i_S X M)) (cf' := (186, [some (.ref 50), none, none, some (.int l3), some (.int l4)], [.int q2.1], i_S X q2.2)) rfl (ok_r_byteAt (by omega) hq2) rfl ?_
      refine i_rs 1 (cf' := (188, [some (.ref 50), none, none, some (.int l3), some (.int l4)], [.int (48 : Int32), .int q2.1], i_S X q2.2)) rfl ?_
      by_cases c3 : q2.1 < (48 : Int32)
      · replace h := (if_pos c3).symm.trans h
        refine i_rbT (c := q2.1 < (48 : Int32)) (t := 229) (n := 191) rfl c3 ?_
        refine i_fg (lv' := [some (.ref 50), none, none, some (.int l3), some (.int l4)]) (And.intro rfl (And.intro rfl (And.intro rfl True.intro))) ?_
        exact hk229 l3 l4 q2.2 _ h
      · replace h := (if_neg c3).symm.trans h
        refine i_rbF (c := q2.1 < (48 : Int32)) (t := 229) (n := 191) rfl c3 ?_
        refine i_rs 1 (cf' := (192, [some (.ref 50), none, none, some (.int l3), some (.int l4)], [.ref 50], i_S X q2.2)) rfl ?_
        obtain ⟨q4, hq4, h⟩ := i_bdE h
        refine i_rcall (k := 198) (as := [.ref 50]) (cf1 := (195, [some (.ref 50), none, none, some (.int l3), some (.int l4)], [], i_S X q2.2)) (cf' := (195, [some (.ref 50), none, none, some (.int l3), some (.int l4)], [.int q4.1], i_S X q4.2)) rfl (ok_r_byteAt (by omega) hq4) rfl ?_
        refine i_rs 1 (cf' := (197, [some (.ref 50), none, none, some (.int l3), some (.int l4)], [.int (57 : Int32), .int q4.1], i_S X q4.2)) rfl ?_
        by_cases c5 : (57 : Int32) < q4.1
        · replace h := (if_pos c5).symm.trans h
          refine i_rbT (c := (57 : Int32) < q4.1) (t := 229) (n := 200) rfl c5 ?_
          refine i_fg (lv' := [some (.ref 50), none, none, some (.int l3), some (.int l4)]) (And.intro rfl (And.intro rfl (And.intro rfl True.intro))) ?_
          exact hk229 l3 l4 q4.2 _ h
        · replace h := (if_neg c5).symm.trans h
          refine i_rbF (c := (57 : Int32) < q4.1) (t := 229) (n := 200) rfl c5 ?_
          refine i_rs 4 (cf' := (205, [some (.ref 50), none, none, some (.int l3), some (.int l4)], [.ref 50, .int ((10 : Int32) * l3)], i_S X q4.2)) rfl ?_
          obtain ⟨q6, hq6, h⟩ := i_bdE h
          refine i_rcall (k := 198) (as := [.ref 50]) (cf1 := (208, [some (.ref 50), none, none, some (.int l3), some (.int l4)], [.int ((10 : Int32) * l3)], i_S X q4.2)) (cf' := (208, [some (.ref 50), none, none, some (.int l3), some (.int l4)], [.int q6.1, .int ((10 : Int32) * l3)], i_S X q6.2)) rfl (ok_r_byteAt (by omega) hq6) rfl ?_
          refine i_rs 12 (cf' := (176, [some (.ref 50), none, none, some (.int ((((10 : Int32) * l3) + q6.1) - (48 : Int32))), some (.int (l4 + (1 : Int32)))], [], i_S X (i_wI q6.2 50 19 ((q6.2.1 50 19) + (1 : Int32))))) rfl ?_
          refine i_fg (lv' := [some (.ref 50), none, none, some (.int ((((10 : Int32) * l3) + q6.1) - (48 : Int32))), some (.int (l4 + (1 : Int32)))]) (And.intro rfl (And.intro rfl (And.intro rfl True.intro))) ?_
          exact hself ((((10 : Int32) * l3) + q6.1) - (48 : Int32)) (l4 + (1 : Int32)) (i_wI q6.2 50 19 ((q6.2.1 50 19) + (1 : Int32))) _ h
    · replace h := (if_neg c1).symm.trans h
      refine i_rbF (c := l4 < (4 : Int32)) (t := 182) (n := 229) rfl c1 ?_
      refine i_fg (lv' := [some (.ref 50), none, none, some (.int l3), some (.int l4)]) (And.intro rfl (And.intro rfl (And.intro rfl True.intro))) ?_
      exact hk229 l3 l4 M _ h
def r_one_b_B104 (rec_r_one : I_M → Option (Int32 × I_M)) (l1 : Int32) (l2 : Int32) (M : I_M) : Option (Int32 × I_M) :=
  (if l1 = (40 : Int32) then
      some (l2, (i_wI M 50 22 ((M.1 50 22) - (1 : Int32))))
    else
      (if l1 = (45 : Int32) then
        some ((-l2), (i_wI M 50 22 ((M.1 50 22) - (1 : Int32))))
      else
        (if l2 = (0 : Int32) then
          some ((1 : Int32), (i_wI M 50 22 ((M.1 50 22) - (1 : Int32))))
        else
          some ((0 : Int32), (i_wI M 50 22 ((M.1 50 22) - (1 : Int32)))))))
theorem ok_r_one_b_B104 {X : Nat × (Nat → Int32)} {d : Nat} {rec_r_one : I_M → Option (Int32 × I_M)} {l1 : Int32} {l2 : Int32} {M : I_M} {r : (Int32 × I_M)} {N : Nat} (hN : 6 ≤ N) (hr_r_one : ∀ (d : Nat), N ≤ d → ∀ (M : I_M) (q : (Int32 × I_M)), rec_r_one M = some q → I_Ex d 197 [.ref 50] (i_S X M) (some (.int q.1)) (i_S X q.2)) (hd : N + 6 ≤ d + 1) (h : r_one_b_B104 rec_r_one l1 l2 M = some r) : I_RnE (I_Ex d) i_c197 (104, [some (.ref 50), some (.int l1), some (.int l2), none, none], [], i_S X M) (some (.int r.1)) (i_S X r.2) := by
  unfold r_one_b_B104 at h
  refine i_rs 8 (cf' := (117, [some (.ref 50), some (.int l1), some (.int l2), none, none], [.int (40 : Int32), .int l1], i_S X (i_wI M 50 22 ((M.1 50 22) - (1 : Int32))))) rfl ?_
  by_cases c7 : l1 = (40 : Int32)
  · replace h := (if_pos c7).symm.trans h
    refine i_rbT (c := l1 = (40 : Int32)) (t := 120) (n := 124) rfl c7 ?_
    refine i_rs 2 (cf' := (144, [some (.ref 50), some (.int l1), some (.int l2), none, none], [.int l2], i_S X (i_wI M 50 22 ((M.1 50 22) - (1 : Int32))))) rfl ?_
    obtain rfl := Option.some.inj h
    exact i_rret rfl rfl
  · replace h := (if_neg c7).symm.trans h
    refine i_rbF (c := l1 = (40 : Int32)) (t := 120) (n := 124) rfl c7 ?_
    refine i_rs 2 (cf' := (127, [some (.ref 50), some (.int l1), some (.int l2), none, none], [.int (45 : Int32), .int l1], i_S X (i_wI M 50 22 ((M.1 50 22) - (1 : Int32))))) rfl ?_
    by_cases c8 : l1 = (45 : Int32)
    · replace h := (if_pos c8).symm.trans h
      refine i_rbT (c := l1 = (45 : Int32)) (t := 130) (n := 135) rfl c8 ?_
      refine i_rs 3 (cf' := (144, [some (.ref 50), some (.int l1), some (.int l2), none, none], [.int (-l2)], i_S X (i_wI M 50 22 ((M.1 50 22) - (1 : Int32))))) rfl ?_
      obtain rfl := Option.some.inj h
      exact i_rret rfl rfl
    · replace h := (if_neg c8).symm.trans h
      refine i_rbF (c := l1 = (45 : Int32)) (t := 130) (n := 135) rfl c8 ?_
      refine i_rs 1 (cf' := (136, [some (.ref 50), some (.int l1), some (.int l2), none, none], [.int l2], i_S X (i_wI M 50 22 ((M.1 50 22) - (1 : Int32))))) rfl ?_
      by_cases c9 : l2 = (0 : Int32)
      · replace h := (if_pos c9).symm.trans h
        refine i_rbT (c := l2 = (0 : Int32)) (t := 139) (n := 143) rfl c9 ?_
        refine i_rs 2 (cf' := (144, [some (.ref 50), some (.int l1), some (.int l2), none, none], [.int (1 : Int32)], i_S X (i_wI M 50 22 ((M.1 50 22) - (1 : Int32))))) rfl ?_
        obtain rfl := Option.some.inj h
        exact i_rret rfl rfl
      · replace h := (if_neg c9).symm.trans h
        refine i_rbF (c := l2 = (0 : Int32)) (t := 139) (n := 143) rfl c9 ?_
        refine i_rs 1 (cf' := (144, [some (.ref 50), some (.int l1), some (.int l2), none, none], [.int (0 : Int32)], i_S X (i_wI M 50 22 ((M.1 50 22) - (1 : Int32))))) rfl ?_
        obtain rfl := Option.some.inj h
        exact i_rret rfl rfl
def r_one_b_B83 (rec_r_one : I_M → Option (Int32 × I_M)) (l1 : Int32) (s0 : Int32) (M : I_M) : Option (Int32 × I_M) :=
  (if l1 = (40 : Int32) then
      Option.bind (r_takes (41 : Int32) M) (fun q16 => (if q16.1 = (0 : Int32) then
        Option.bind (r_wrong q16.2) (fun q18 => some (q18.1, q18.2))
      else
        r_one_b_B104 rec_r_one l1 s0 q16.2))
    else
      r_one_b_B104 rec_r_one l1 s0 M)
theorem ok_r_one_b_B83 {X : Nat × (Nat → Int32)} {d : Nat} {rec_r_one : I_M → Option (Int32 × I_M)} {l1 : Int32} {s0 : Int32} {M : I_M} {r : (Int32 × I_M)} {N : Nat} (hN : 6 ≤ N) (hr_r_one : ∀ (d : Nat), N ≤ d → ∀ (M : I_M) (q : (Int32 × I_M)), rec_r_one M = some q → I_Ex d 197 [.ref 50] (i_S X M) (some (.int q.1)) (i_S X q.2)) (hd : N + 6 ≤ d + 1) (h : r_one_b_B83 rec_r_one l1 s0 M = some r) : I_RnE (I_Ex d) i_c197 (83, [some (.ref 50), some (.int l1), none, none, none], [.int s0], i_S X M) (some (.int r.1)) (i_S X r.2) := by
  unfold r_one_b_B83 at h
  refine i_rs 3 (cf' := (87, [some (.ref 50), some (.int l1), some (.int s0), none, none], [.int (40 : Int32), .int l1], i_S X M)) rfl ?_
  by_cases c15 : l1 = (40 : Int32)
  · replace h := (if_pos c15).symm.trans h
    refine i_rbT (c := l1 = (40 : Int32)) (t := 90) (n := 104) rfl c15 ?_
    refine i_rs 2 (cf' := (93, [some (.ref 50), some (.int l1), some (.int s0), none, none], [.int (41 : Int32), .ref 50], i_S X M)) rfl ?_
    obtain ⟨q16, hq16, h⟩ := i_bdE h
    refine i_rcall (k := 200) (as := [.ref 50, .int (41 : Int32)]) (cf1 := (96, [some (.ref 50), some (.int l1), some (.int s0), none, none], [], i_S X M)) (cf' := (96, [some (.ref 50), some (.int l1), some (.int s0), none, none], [.int q16.1], i_S X q16.2)) rfl (ok_r_takes (by omega) hq16) rfl ?_
    by_cases c17 : q16.1 = (0 : Int32)
    · replace h := (if_pos c17).symm.trans h
      refine i_rbT (c := q16.1 = (0 : Int32)) (t := 99) (n := 104) rfl c17 ?_
      refine i_rs 1 (cf' := (100, [some (.ref 50), some (.int l1), some (.int s0), none, none], [.ref 50], i_S X q16.2)) rfl ?_
      obtain ⟨q18, hq18, h⟩ := i_bdE h
      refine i_rcall (k := 199) (as := [.ref 50]) (cf1 := (103, [some (.ref 50), some (.int l1), some (.int s0), none, none], [], i_S X q16.2)) (cf' := (103, [some (.ref 50), some (.int l1), some (.int s0), none, none], [.int q18.1], i_S X q18.2)) rfl (ok_r_wrong (by omega) hq18) rfl ?_
      obtain rfl := Option.some.inj h
      exact i_rret rfl rfl
    · replace h := (if_neg c17).symm.trans h
      refine i_rbF (c := q16.1 = (0 : Int32)) (t := 99) (n := 104) rfl c17 ?_
      refine i_fg (lv' := [some (.ref 50), some (.int l1), some (.int s0), none, none]) (And.intro rfl (And.intro rfl (And.intro rfl True.intro))) ?_
      exact ok_r_one_b_B104 hN hr_r_one (by omega) h
  · replace h := (if_neg c15).symm.trans h
    refine i_rbF (c := l1 = (40 : Int32)) (t := 90) (n := 104) rfl c15 ?_
    refine i_fg (lv' := [some (.ref 50), some (.int l1), some (.int s0), none, none]) (And.intro rfl (And.intro rfl (And.intro rfl True.intro))) ?_
    exact ok_r_one_b_B104 hN hr_r_one (by omega) h
def r_one_b_B32 (rec_r_one : I_M → Option (Int32 × I_M)) (l1 : Int32) (M : I_M) : Option (Int32 × I_M) :=
  (if (M.1 50 22) = (6 : Int32) then
      Option.bind (r_wrong M) (fun q11 => some (q11.1, q11.2))
    else
      (if l1 = (40 : Int32) then
        Option.bind (r_either rec_r_one (i_wI (i_wI M 50 22 ((M.1 50 22) + (1 : Int32))) 50 19 ((M.1 50 19) + (1 : Int32)))) (fun q13 => r_one_b_B83 rec_r_one l1 q13.1 q13.2)
      else
        Option.bind (rec_r_one (i_wI (i_wI M 50 22 ((M.1 50 22) + (1 : Int32))) 50 19 ((M.1 50 19) + (1 : Int32)))) (fun q14 => r_one_b_B83 rec_r_one l1 q14.1 q14.2)))
theorem ok_r_one_b_B32 {X : Nat × (Nat → Int32)} {d : Nat} {rec_r_one : I_M → Option (Int32 × I_M)} {l1 : Int32} {M : I_M} {r : (Int32 × I_M)} {N : Nat} (hN : 6 ≤ N) (hr_r_one : ∀ (d : Nat), N ≤ d → ∀ (M : I_M) (q : (Int32 × I_M)), rec_r_one M = some q → I_Ex d 197 [.ref 50] (i_S X M) (some (.int q.1)) (i_S X q.2)) (hd : N + 6 ≤ d + 1) (h : r_one_b_B32 rec_r_one l1 M = some r) : I_RnE (I_Ex d) i_c197 (32, [some (.ref 50), some (.int l1), none, none, none], [], i_S X M) (some (.int r.1)) (i_S X r.2) := by
  unfold r_one_b_B32 at h
  refine i_rs 3 (cf' := (38, [some (.ref 50), some (.int l1), none, none, none], [.int (6 : Int32), .int (M.1 50 22)], i_S X M)) rfl ?_
  by_cases c10 : (M.1 50 22) = (6 : Int32)
  · replace h := (if_pos c10).symm.trans h
    refine i_rbT (c := (M.1 50 22) = (6 : Int32)) (t := 41) (n := 46) rfl c10 ?_
    refine i_rs 1 (cf' := (42, [some (.ref 50), some (.int l1), none, none, none], [.ref 50], i_S X M)) rfl ?_
    obtain ⟨q11, hq11, h⟩ := i_bdE h
    refine i_rcall (k := 199) (as := [.ref 50]) (cf1 := (45, [some (.ref 50), some (.int l1), none, none, none], [], i_S X M)) (cf' := (45, [some (.ref 50), some (.int l1), none, none, none], [.int q11.1], i_S X q11.2)) rfl (ok_r_wrong (by omega) hq11) rfl ?_
    obtain rfl := Option.some.inj h
    exact i_rret rfl rfl
  · replace h := (if_neg c10).symm.trans h
    refine i_rbF (c := (M.1 50 22) = (6 : Int32)) (t := 41) (n := 46) rfl c10 ?_
    refine i_rs 14 (cf' := (69, [some (.ref 50), some (.int l1), none, none, none], [.int (40 : Int32), .int l1], i_S X (i_wI (i_wI M 50 22 ((M.1 50 22) + (1 : Int32))) 50 19 ((M.1 50 19) + (1 : Int32))))) rfl ?_
    by_cases c12 : l1 = (40 : Int32)
    · replace h := (if_pos c12).symm.trans h
      refine i_rbT (c := l1 = (40 : Int32)) (t := 72) (n := 79) rfl c12 ?_
      refine i_rs 1 (cf' := (73, [some (.ref 50), some (.int l1), none, none, none], [.ref 50], i_S X (i_wI (i_wI M 50 22 ((M.1 50 22) + (1 : Int32))) 50 19 ((M.1 50 19) + (1 : Int32))))) rfl ?_
      obtain ⟨q13, hq13, h⟩ := i_bdE h
      refine i_rcall (k := 192) (as := [.ref 50]) (cf1 := (76, [some (.ref 50), some (.int l1), none, none, none], [], i_S X (i_wI (i_wI M 50 22 ((M.1 50 22) + (1 : Int32))) 50 19 ((M.1 50 19) + (1 : Int32))))) (cf' := (76, [some (.ref 50), some (.int l1), none, none, none], [.int q13.1], i_S X q13.2)) rfl (ok_r_either hN hr_r_one (by omega) hq13) rfl ?_
      refine i_rs 1 (cf' := (83, [some (.ref 50), some (.int l1), none, none, none], [.int q13.1], i_S X q13.2)) rfl ?_
      refine i_fg (lv' := [some (.ref 50), some (.int l1), none, none, none]) (And.intro rfl (And.intro rfl True.intro)) ?_
      exact ok_r_one_b_B83 hN hr_r_one (by omega) h
    · replace h := (if_neg c12).symm.trans h
      refine i_rbF (c := l1 = (40 : Int32)) (t := 72) (n := 79) rfl c12 ?_
      refine i_rs 1 (cf' := (80, [some (.ref 50), some (.int l1), none, none, none], [.ref 50], i_S X (i_wI (i_wI M 50 22 ((M.1 50 22) + (1 : Int32))) 50 19 ((M.1 50 19) + (1 : Int32))))) rfl ?_
      obtain ⟨q14, hq14, h⟩ := i_bdE h
      refine i_rcall (k := 197) (as := [.ref 50]) (cf1 := (83, [some (.ref 50), some (.int l1), none, none, none], [], i_S X (i_wI (i_wI M 50 22 ((M.1 50 22) + (1 : Int32))) 50 19 ((M.1 50 19) + (1 : Int32))))) (cf' := (83, [some (.ref 50), some (.int l1), none, none, none], [.int q14.1], i_S X q14.2)) rfl (hr_r_one _ (by omega) _ _ hq14) rfl ?_
      refine i_fg (lv' := [some (.ref 50), some (.int l1), none, none, none]) (And.intro rfl (And.intro rfl True.intro)) ?_
      exact ok_r_one_b_B83 hN hr_r_one (by omega) h
def r_one_b (rec_r_one : I_M → Option (Int32 × I_M)) (M : I_M) : Option (Int32 × I_M) :=
  (if (M.1 50 21) < (0 : Int32) then
      Option.bind (r_byteAt M) (fun q20 => (if q20.1 = (33 : Int32) then
        r_one_b_B32 rec_r_one q20.1 q20.2
      else
        (if q20.1 = (45 : Int32) then
          r_one_b_B32 rec_r_one q20.1 q20.2
        else
          (if q20.1 = (40 : Int32) then
            r_one_b_B32 rec_r_one q20.1 q20.2
          else
            Option.bind (r_nameOf q20.1 q20.2) (fun q24 => (if q24.1 < (0 : Int32) then
              r_one_b_L176 rec_r_one (fun l3_26 l4_26 M26 =>
                  (if l4_26 = (0 : Int32) then
                    Option.bind (r_wrong M26) (fun q28 => some (q28.1, q28.2))
                  else
                    some (l3_26, M26))) i_F (0 : Int32) (0 : Int32) q24.2
            else
              i_g q24.1 7 (some ((q24.2.1 60 (Int32.toNatClampNeg q24.1)), (i_wI q24.2 50 19 ((q24.2.1 50 19) + (1 : Int32)))))))))))
    else
      some ((0 : Int32), M))
theorem ok_r_one_b {X : Nat × (Nat → Int32)} {d : Nat} {rec_r_one : I_M → Option (Int32 × I_M)} {M : I_M} {r : (Int32 × I_M)} {N : Nat} (hN : 6 ≤ N) (hr_r_one : ∀ (d : Nat), N ≤ d → ∀ (M : I_M) (q : (Int32 × I_M)), rec_r_one M = some q → I_Ex d 197 [.ref 50] (i_S X M) (some (.int q.1)) (i_S X q.2)) (hd : N + 6 ≤ d) (h : r_one_b rec_r_one M = some r) : I_Ex d 197 [.ref 50] (i_S X M) (some (.int r.1)) (i_S X r.2) := by
  obtain ⟨d, rfl⟩ : ∃ d1, d = d1 + 1 := ⟨d - 1, by omega⟩
  unfold r_one_b at h
  refine i_ex (e := i_r197) (lv := [some (.ref 50), none, none, none, none]) rfl (Nat.le_of_ble_eq_true rfl) rfl ?_
  show I_RnE (I_Ex d) i_c197 (0, [some (.ref 50), none, none, none, none], [], i_S X M) _ _
  refine i_rs 2 (cf' := (4, [some (.ref 50), none, none, none, none], [.int (M.1 50 21)], i_S X M)) rfl ?_
  by_cases c19 : (M.1 50 21) < (0 : Int32)
  · replace h := (if_pos c19).symm.trans h
    refine i_rbT (c := (M.1 50 21) < (0 : Int32)) (t := 9) (n := 7) rfl c19 ?_
    refine i_rs 1 (cf' := (10, [some (.ref 50), none, none, none, none], [.ref 50], i_S X M)) rfl ?_
    obtain ⟨q20, hq20, h⟩ := i_bdE h
    refine i_rcall (k := 198) (as := [.ref 50]) (cf1 := (13, [some (.ref 50), none, none, none, none], [], i_S X M)) (cf' := (13, [some (.ref 50), none, none, none, none], [.int q20.1], i_S X q20.2)) rfl (ok_r_byteAt (by omega) hq20) rfl ?_
    refine i_rs 3 (cf' := (17, [some (.ref 50), some (.int q20.1), none, none, none], [.int (33 : Int32), .int q20.1], i_S X q20.2)) rfl ?_
    by_cases c21 : q20.1 = (33 : Int32)
    · replace h := (if_pos c21).symm.trans h
      refine i_rbT (c := q20.1 = (33 : Int32)) (t := 32) (n := 20) rfl c21 ?_
      refine i_fg (lv' := [some (.ref 50), some (.int q20.1), none, none, none]) (And.intro rfl (And.intro rfl True.intro)) ?_
      exact ok_r_one_b_B32 hN hr_r_one (by omega) h
    · replace h := (if_neg c21).symm.trans h
      refine i_rbF (c := q20.1 = (33 : Int32)) (t := 32) (n := 20) rfl c21 ?_
      refine i_rs 2 (cf' := (23, [some (.ref 50), some (.int q20.1), none, none, none], [.int (45 : Int32), .int q20.1], i_S X q20.2)) rfl ?_
      by_cases c22 : q20.1 = (45 : Int32)
      · replace h := (if_pos c22).symm.trans h
        refine i_rbT (c := q20.1 = (45 : Int32)) (t := 32) (n := 26) rfl c22 ?_
        refine i_fg (lv' := [some (.ref 50), some (.int q20.1), none, none, none]) (And.intro rfl (And.intro rfl True.intro)) ?_
        exact ok_r_one_b_B32 hN hr_r_one (by omega) h
      · replace h := (if_neg c22).symm.trans h
        refine i_rbF (c := q20.1 = (45 : Int32)) (t := 32) (n := 26) rfl c22 ?_
        refine i_rs 2 (cf' := (29, [some (.ref 50), some (.int q20.1), none, none, none], [.int (40 : Int32), .int q20.1], i_S X q20.2)) rfl ?_
        by_cases c23 : q20.1 = (40 : Int32)
        · replace h := (if_pos c23).symm.trans h
          refine i_rbT (c := q20.1 = (40 : Int32)) (t := 32) (n := 145) rfl c23 ?_
          refine i_fg (lv' := [some (.ref 50), some (.int q20.1), none, none, none]) (And.intro rfl (And.intro rfl True.intro)) ?_
          exact ok_r_one_b_B32 hN hr_r_one (by omega) h
        · replace h := (if_neg c23).symm.trans h
          refine i_rbF (c := q20.1 = (40 : Int32)) (t := 32) (n := 145) rfl c23 ?_
          refine i_rs 1 (cf' := (146, [some (.ref 50), some (.int q20.1), none, none, none], [.int q20.1], i_S X q20.2)) rfl ?_
          obtain ⟨q24, hq24, h⟩ := i_bdE h
          refine i_rcall (k := 201) (as := [.int q20.1]) (cf1 := (149, [some (.ref 50), some (.int q20.1), none, none, none], [], i_S X q20.2)) (cf' := (149, [some (.ref 50), some (.int q20.1), none, none, none], [.int q24.1], i_S X q24.2)) rfl (ok_r_nameOf (by omega) hq24) rfl ?_
          refine i_rs 2 (cf' := (151, [some (.ref 50), some (.int q20.1), some (.int q24.1), none, none], [.int q24.1], i_S X q24.2)) rfl ?_
          by_cases c25 : q24.1 < (0 : Int32)
          · replace h := (if_pos c25).symm.trans h
            refine i_rbT (c := q24.1 < (0 : Int32)) (t := 171) (n := 154) rfl c25 ?_
            refine i_rs 4 (cf' := (176, [some (.ref 50), some (.int q20.1), some (.int q24.1), some (.int (0 : Int32)), some (.int (0 : Int32))], [], i_S X q24.2)) rfl ?_
            refine i_fg (lv' := [some (.ref 50), none, none, some (.int (0 : Int32)), some (.int (0 : Int32))]) (And.intro rfl (And.intro rfl (And.intro rfl True.intro))) ?_
            refine ok_r_one_b_L176 hN hr_r_one (by omega) (fun l3_26 l4_26 M26 r h => ?_) i_F (0 : Int32) (0 : Int32) q24.2 _ h
            refine i_rs 1 (cf' := (231, [some (.ref 50), none, none, some (.int l3_26), some (.int l4_26)], [.int l4_26], i_S X M26)) rfl ?_
            by_cases c27 : l4_26 = (0 : Int32)
            · replace h := (if_pos c27).symm.trans h
              refine i_rbT (c := l4_26 = (0 : Int32)) (t := 234) (n := 241) rfl c27 ?_
              refine i_rs 1 (cf' := (235, [some (.ref 50), none, none, some (.int l3_26), some (.int l4_26)], [.ref 50], i_S X M26)) rfl ?_
              obtain ⟨q28, hq28, h⟩ := i_bdE h
              refine i_rcall (k := 199) (as := [.ref 50]) (cf1 := (238, [some (.ref 50), none, none, some (.int l3_26), some (.int l4_26)], [], i_S X M26)) (cf' := (238, [some (.ref 50), none, none, some (.int l3_26), some (.int l4_26)], [.int q28.1], i_S X q28.2)) rfl (ok_r_wrong (by omega) hq28) rfl ?_
              refine i_rs 1 (cf' := (242, [some (.ref 50), none, none, some (.int l3_26), some (.int l4_26)], [.int q28.1], i_S X q28.2)) rfl ?_
              obtain rfl := Option.some.inj h
              exact i_rret rfl rfl
            · replace h := (if_neg c27).symm.trans h
              refine i_rbF (c := l4_26 = (0 : Int32)) (t := 234) (n := 241) rfl c27 ?_
              refine i_rs 1 (cf' := (242, [some (.ref 50), none, none, some (.int l3_26), some (.int l4_26)], [.int l3_26], i_S X M26)) rfl ?_
              obtain rfl := Option.some.inj h
              exact i_rret rfl rfl
          · replace h := (if_neg c25).symm.trans h
            refine i_rbF (c := q24.1 < (0 : Int32)) (t := 171) (n := 154) rfl c25 ?_
            refine i_rs 9 (cf' := (169, [some (.ref 50), some (.int q20.1), some (.int q24.1), none, none], [.int q24.1, .ref 60], i_S X (i_wI q24.2 50 19 ((q24.2.1 50 19) + (1 : Int32))))) rfl ?_
            obtain ⟨g29, h⟩ := i_gE h
            refine i_riald (n := 7) (cf' := (170, [some (.ref 50), some (.int q20.1), some (.int q24.1), none, none], [.int (q24.2.1 60 (Int32.toNatClampNeg q24.1))], i_S X (i_wI q24.2 50 19 ((q24.2.1 50 19) + (1 : Int32))))) rfl rfl (by decide) g29 rfl ?_
            obtain rfl := Option.some.inj h
            exact i_rret rfl rfl
  · replace h := (if_neg c19).symm.trans h
    refine i_rbF (c := (M.1 50 21) < (0 : Int32)) (t := 9) (n := 7) rfl c19 ?_
    refine i_rs 1 (cf' := (8, [some (.ref 50), none, none, none, none], [.int (0 : Int32)], i_S X M)) rfl ?_
    obtain rfl := Option.some.inj h
    exact i_rret rfl rfl
def r_one : Nat → I_M → Option (Int32 × I_M)
  | 0, _ => none
  | n + 1, M => r_one_b (r_one n) M
theorem ok_r_one {X : Nat × (Nat → Int32)} : ∀ (n : Nat), ∀ (d : Nat), 6 * n + 6 ≤ d → ∀ (M : I_M) (q : (Int32 × I_M)), r_one n M = some q → I_Ex d 197 [.ref 50] (i_S X M) (some (.int q.1)) (i_S X q.2) := by
  intro n
  induction n with
  | zero => intro d _ M q h; cases h
  | succ n ih =>
    intro d hd M q h
    rw [r_one] at h
    exact ok_r_one_b (N := 6 * n + 6) (by omega) ih (by omega) h
def r_workOut_B74 (self : Int32 → Int32 → Int32 → I_M → Option (Int32 × I_M)) (k107 : Int32 → I_M → Option (Int32 × I_M)) (l3 : Int32) (l4 : Int32) (l6 : Int32) (l7 : Int32) (M : I_M) : Option (Int32 × I_M) :=
  (if (M.1 50 21) < (0 : Int32) then
      (if l7 = (0 : Int32) then
        Option.bind (r_takes (59 : Int32) M) (fun q10 => self l3 l4 q10.1 q10.2)
      else
        (if l3 = (0 : Int32) then
          Option.bind (r_takes (59 : Int32) M) (fun q12 => self (1 : Int32) l6 q12.1 q12.2)
        else
          Option.bind (r_takes (59 : Int32) M) (fun q13 => self l3 l4 q13.1 q13.2)))
    else
      Option.bind (r_takes (59 : Int32) M) (fun q14 => self l3 l4 q14.1 q14.2))
theorem ok_r_workOut_B74 {X : Nat × (Nat → Int32)} {d : Nat} {self : Int32 → Int32 → Int32 → I_M → Option (Int32 × I_M)} {k107 : Int32 → I_M → Option (Int32 × I_M)} {l3 : Int32} {l4 : Int32} {l6 : Int32} {l7 : Int32} {M : I_M} {r : (Int32 × I_M)} (hself : ∀ (m3 : Int32) (m4 : Int32) (m5 : Int32) (M : I_M) (r : (Int32 × I_M)), self m3 m4 m5 M = some r → I_RnE (I_Ex d) i_c191 (33, [some (.ref 50), none, none, some (.int m3), some (.int m4), some (.int m5), none, none], [], i_S X M) (some (.int r.1)) (i_S X r.2)) (hk107 : ∀ (m4 : Int32) (M : I_M) (r : (Int32 × I_M)), k107 m4 M = some r → I_RnE (I_Ex d) i_c191 (107, [some (.ref 50), none, none, none, some (.int m4), none, none, none], [], i_S X M) (some (.int r.1)) (i_S X r.2)) (hd : 66 ≤ d + 1) (h : r_workOut_B74 self k107 l3 l4 l6 l7 M = some r) : I_RnE (I_Ex d) i_c191 (74, [some (.ref 50), none, none, some (.int l3), some (.int l4), none, some (.int l6), some (.int l7)], [], i_S X M) (some (.int r.1)) (i_S X r.2) := by
  unfold r_workOut_B74 at h
  refine i_rs 2 (cf' := (78, [some (.ref 50), none, none, some (.int l3), some (.int l4), none, some (.int l6), some (.int l7)], [.int (M.1 50 21)], i_S X M)) rfl ?_
  by_cases c8 : (M.1 50 21) < (0 : Int32)
  · replace h := (if_pos c8).symm.trans h
    refine i_rbT (c := (M.1 50 21) < (0 : Int32)) (t := 81) (n := 96) rfl c8 ?_
    refine i_rs 1 (cf' := (83, [some (.ref 50), none, none, some (.int l3), some (.int l4), none, some (.int l6), some (.int l7)], [.int l7], i_S X M)) rfl ?_
    by_cases c9 : l7 = (0 : Int32)
    · replace h := (if_pos c9).symm.trans h
      refine i_rbT (c := l7 = (0 : Int32)) (t := 96) (n := 86) rfl c9 ?_
      refine i_rs 2 (cf' := (99, [some (.ref 50), none, none, some (.int l3), some (.int l4), none, some (.int l6), some (.int l7)], [.int (59 : Int32), .ref 50], i_S X M)) rfl ?_
      obtain ⟨q10, hq10, h⟩ := i_bdE h
      refine i_rcall (k := 200) (as := [.ref 50, .int (59 : Int32)]) (cf1 := (102, [some (.ref 50), none, none, some (.int l3), some (.int l4), none, some (.int l6), some (.int l7)], [], i_S X M)) (cf' := (102, [some (.ref 50), none, none, some (.int l3), some (.int l4), none, some (.int l6), some (.int l7)], [.int q10.1], i_S X q10.2)) rfl (ok_r_takes (by omega) hq10) rfl ?_
      refine i_rs 2 (cf' := (33, [some (.ref 50), none, none, some (.int l3), some (.int l4), some (.int q10.1), some (.int l6), some (.int l7)], [], i_S X q10.2)) rfl ?_
      refine i_fg (lv' := [some (.ref 50), none, none, some (.int l3), some (.int l4), some (.int q10.1), none, none]) (And.intro rfl (And.intro rfl (And.intro rfl (And.intro rfl True.intro)))) ?_
      exact hself l3 l4 q10.1 q10.2 _ h
    · replace h := (if_neg c9).symm.trans h
      refine i_rbF (c := l7 = (0 : Int32)) (t := 96) (n := 86) rfl c9 ?_
      refine i_rs 1 (cf' := (87, [some (.ref 50), none, none, some (.int l3), some (.int l4), none, some (.int l6), some (.int l7)], [.int l3], i_S X M)) rfl ?_
      by_cases c11 : l3 = (0 : Int32)
      · replace h := (if_pos c11).symm.trans h
        refine i_rbT (c := l3 = (0 : Int32)) (t := 90) (n := 96) rfl c11 ?_
        refine i_rs 6 (cf' := (99, [some (.ref 50), none, none, some (.int (1 : Int32)), some (.int l6), none, some (.int l6), some (.int l7)], [.int (59 : Int32), .ref 50], i_S X M)) rfl ?_
        obtain ⟨q12, hq12, h⟩ := i_bdE h
        refine i_rcall (k := 200) (as := [.ref 50, .int (59 : Int32)]) (cf1 := (102, [some (.ref 50), none, none, some (.int (1 : Int32)), some (.int l6), none, some (.int l6), some (.int l7)], [], i_S X M)) (cf' := (102, [some (.ref 50), none, none, some (.int (1 : Int32)), some (.int l6), none, some (.int l6), some (.int l7)], [.int q12.1], i_S X q12.2)) rfl (ok_r_takes (by omega) hq12) rfl ?_
        refine i_rs 2 (cf' := (33, [some (.ref 50), none, none, some (.int (1 : Int32)), some (.int l6), some (.int q12.1), some (.int l6), some (.int l7)], [], i_S X q12.2)) rfl ?_
        refine i_fg (lv' := [some (.ref 50), none, none, some (.int (1 : Int32)), some (.int l6), some (.int q12.1), none, none]) (And.intro rfl (And.intro rfl (And.intro rfl (And.intro rfl True.intro)))) ?_
        exact hself (1 : Int32) l6 q12.1 q12.2 _ h
      · replace h := (if_neg c11).symm.trans h
        refine i_rbF (c := l3 = (0 : Int32)) (t := 90) (n := 96) rfl c11 ?_
        refine i_rs 2 (cf' := (99, [some (.ref 50), none, none, some (.int l3), some (.int l4), none, some (.int l6), some (.int l7)], [.int (59 : Int32), .ref 50], i_S X M)) rfl ?_
        obtain ⟨q13, hq13, h⟩ := i_bdE h
        refine i_rcall (k := 200) (as := [.ref 50, .int (59 : Int32)]) (cf1 := (102, [some (.ref 50), none, none, some (.int l3), some (.int l4), none, some (.int l6), some (.int l7)], [], i_S X M)) (cf' := (102, [some (.ref 50), none, none, some (.int l3), some (.int l4), none, some (.int l6), some (.int l7)], [.int q13.1], i_S X q13.2)) rfl (ok_r_takes (by omega) hq13) rfl ?_
        refine i_rs 2 (cf' := (33, [some (.ref 50), none, none, some (.int l3), some (.int l4), some (.int q13.1), some (.int l6), some (.int l7)], [], i_S X q13.2)) rfl ?_
        refine i_fg (lv' := [some (.ref 50), none, none, some (.int l3), some (.int l4), some (.int q13.1), none, none]) (And.intro rfl (And.intro rfl (And.intro rfl (And.intro rfl True.intro)))) ?_
        exact hself l3 l4 q13.1 q13.2 _ h
  · replace h := (if_neg c8).symm.trans h
    refine i_rbF (c := (M.1 50 21) < (0 : Int32)) (t := 81) (n := 96) rfl c8 ?_
    refine i_rs 2 (cf' := (99, [some (.ref 50), none, none, some (.int l3), some (.int l4), none, some (.int l6), some (.int l7)], [.int (59 : Int32), .ref 50], i_S X M)) rfl ?_
    obtain ⟨q14, hq14, h⟩ := i_bdE h
    refine i_rcall (k := 200) (as := [.ref 50, .int (59 : Int32)]) (cf1 := (102, [some (.ref 50), none, none, some (.int l3), some (.int l4), none, some (.int l6), some (.int l7)], [], i_S X M)) (cf' := (102, [some (.ref 50), none, none, some (.int l3), some (.int l4), none, some (.int l6), some (.int l7)], [.int q14.1], i_S X q14.2)) rfl (ok_r_takes (by omega) hq14) rfl ?_
    refine i_rs 2 (cf' := (33, [some (.ref 50), none, none, some (.int l3), some (.int l4), some (.int q14.1), some (.int l6), some (.int l7)], [], i_S X q14.2)) rfl ?_
    refine i_fg (lv' := [some (.ref 50), none, none, some (.int l3), some (.int l4), some (.int q14.1), none, none]) (And.intro rfl (And.intro rfl (And.intro rfl (And.intro rfl True.intro)))) ?_
    exact hself l3 l4 q14.1 q14.2 _ h
def r_workOut_L33 (k107 : Int32 → I_M → Option (Int32 × I_M)) : Nat → Int32 → Int32 → Int32 → I_M → Option (Int32 × I_M)
  | 0, _, _, _, _ => none
  | n + 1, l3, l4, l5, M =>
    (if l5 = (0 : Int32) then
        k107 l4 M
      else
        Option.bind (r_either (r_one 9) M) (fun q2 => Option.bind (r_takes (63 : Int32) q2.2) (fun q3 => (if q3.1 = (0 : Int32) then
          r_workOut_B74 ((r_workOut_L33 k107 n)) k107 l3 l4 q2.1 (1 : Int32) q3.2
        else
          (if q2.1 = (0 : Int32) then
            Option.bind (r_either (r_one 9) q3.2) (fun q6 => r_workOut_B74 ((r_workOut_L33 k107 n)) k107 l3 l4 q6.1 (0 : Int32) q6.2)
          else
            Option.bind (r_either (r_one 9) q3.2) (fun q7 => r_workOut_B74 ((r_workOut_L33 k107 n)) k107 l3 l4 q7.1 (1 : Int32) q7.2))))))
theorem ok_r_workOut_L33 {X : Nat × (Nat → Int32)} {d : Nat} {k107 : Int32 → I_M → Option (Int32 × I_M)} (hd : 66 ≤ d + 1) (hk107 : ∀ (l4 : Int32) (M : I_M) (r : (Int32 × I_M)), k107 l4 M = some r → I_RnE (I_Ex d) i_c191 (107, [some (.ref 50), none, none, none, some (.int l4), none, none, none], [], i_S X M) (some (.int r.1)) (i_S X r.2)) : ∀ (n : Nat) (l3 : Int32) (l4 : Int32) (l5 : Int32) (M : I_M) (r : (Int32 × I_M)), r_workOut_L33 k107 n l3 l4 l5 M = some r → I_RnE (I_Ex d) i_c191 (33, [some (.ref 50), none, none, some (.int l3), some (.int l4), some (.int l5), none, none], [], i_S X M) (some (.int r.1)) (i_S X r.2) := by
  intro n
  induction n with
  | zero => intro _ _ _ M r h; cases h
  | succ n hself =>
    intro l3 l4 l5 M r h
    rw [r_workOut_L33] at h
    refine i_rs 1 (cf' := (35, [some (.ref 50), none, none, some (.int l3), some (.int l4), some (.int l5), none, none], [.int l5], i_S X M)) rfl ?_
    by_cases c1 : l5 = (0 : Int32)
    · replace h := (if_pos c1).symm.trans h
      refine i_rbT (c := l5 = (0 : Int32)) (t := 107) (n := 38) rfl c1 ?_
      refine i_fg (lv' := [some (.ref 50), none, none, none, some (.int l4), none, none, none]) (And.intro rfl (And.intro rfl True.intro)) ?_
      exact hk107 l4 M _ h
    · replace h := (if_neg c1).symm.trans h
      refine i_rbF (c := l5 = (0 : Int32)) (t := 107) (n := 38) rfl c1 ?_
      refine i_rs 1 (cf' := (39, [some (.ref 50), none, none, some (.int l3), some (.int l4), some (.int l5), none, none], [.ref 50], i_S X M)) rfl ?_
      obtain ⟨q2, hq2, h⟩ := i_bdE h
      refine i_rcall (k := 192) (as := [.ref 50]) (cf1 := (42, [some (.ref 50), none, none, some (.int l3), some (.int l4), some (.int l5), none, none], [], i_S X M)) (cf' := (42, [some (.ref 50), none, none, some (.int l3), some (.int l4), some (.int l5), none, none], [.int q2.1], i_S X q2.2)) rfl (ok_r_either (N := 60) (by omega) (fun d hd => ok_r_one 9 d (by omega)) (by omega) hq2) rfl ?_
      refine i_rs 5 (cf' := (50, [some (.ref 50), none, none, some (.int l3), some (.int l4), some (.int l5), some (.int q2.1), some (.int (1 : Int32))], [.int (63 : Int32), .ref 50], i_S X q2.2)) rfl ?_
      obtain ⟨q3, hq3, h⟩ := i_bdE h
      refine i_rcall (k := 200) (as := [.ref 50, .int (63 : Int32)]) (cf1 := (53, [some (.ref 50), none, none, some (.int l3), some (.int l4), some (.int l5), some (.int q2.1), some (.int (1 : Int32))], [], i_S X q2.2)) (cf' := (53, [some (.ref 50), none, none, some (.int l3), some (.int l4), some (.int l5), some (.int q2.1), some (.int (1 : Int32))], [.int q3.1], i_S X q3.2)) rfl (ok_r_takes (by omega) hq3) rfl ?_
      by_cases c4 : q3.1 = (0 : Int32)
      · replace h := (if_pos c4).symm.trans h
        refine i_rbT (c := q3.1 = (0 : Int32)) (t := 74) (n := 56) rfl c4 ?_
        refine i_fg (lv' := [some (.ref 50), none, none, some (.int l3), some (.int l4), none, some (.int q2.1), some (.int (1 : Int32))]) (And.intro rfl (And.intro rfl (And.intro rfl (And.intro rfl (And.intro rfl True.intro))))) ?_
        exact ok_r_workOut_B74 hself hk107 (by omega) h
      · replace h := (if_neg c4).symm.trans h
        refine i_rbF (c := q3.1 = (0 : Int32)) (t := 74) (n := 56) rfl c4 ?_
        refine i_rs 1 (cf' := (58, [some (.ref 50), none, none, some (.int l3), some (.int l4), some (.int l5), some (.int q2.1), some (.int (1 : Int32))], [.int q2.1], i_S X q3.2)) rfl ?_
        by_cases c5 : q2.1 = (0 : Int32)
        · replace h := (if_pos c5).symm.trans h
          refine i_rbT (c := q2.1 = (0 : Int32)) (t := 65) (n := 61) rfl c5 ?_
          refine i_rs 3 (cf' := (69, [some (.ref 50), none, none, some (.int l3), some (.int l4), some (.int l5), some (.int q2.1), some (.int (0 : Int32))], [.ref 50], i_S X q3.2)) rfl ?_
          obtain ⟨q6, hq6, h⟩ := i_bdE h
          refine i_rcall (k := 192) (as := [.ref 50]) (cf1 := (72, [some (.ref 50), none, none, some (.int l3), some (.int l4), some (.int l5), some (.int q2.1), some (.int (0 : Int32))], [], i_S X q3.2)) (cf' := (72, [some (.ref 50), none, none, some (.int l3), some (.int l4), some (.int l5), some (.int q2.1), some (.int (0 : Int32))], [.int q6.1], i_S X q6.2)) rfl (ok_r_either (N := 60) (by omega) (fun d hd => ok_r_one 9 d (by omega)) (by omega) hq6) rfl ?_
          refine i_rs 1 (cf' := (74, [some (.ref 50), none, none, some (.int l3), some (.int l4), some (.int l5), some (.int q6.1), some (.int (0 : Int32))], [], i_S X q6.2)) rfl ?_
          refine i_fg (lv' := [some (.ref 50), none, none, some (.int l3), some (.int l4), none, some (.int q6.1), some (.int (0 : Int32))]) (And.intro rfl (And.intro rfl (And.intro rfl (And.intro rfl (And.intro rfl True.intro))))) ?_
          exact ok_r_workOut_B74 hself hk107 (by omega) h
        · replace h := (if_neg c5).symm.trans h
          refine i_rbF (c := q2.1 = (0 : Int32)) (t := 65) (n := 61) rfl c5 ?_
          refine i_rs 4 (cf' := (69, [some (.ref 50), none, none, some (.int l3), some (.int l4), some (.int l5), some (.int q2.1), some (.int (1 : Int32))], [.ref 50], i_S X q3.2)) rfl ?_
          obtain ⟨q7, hq7, h⟩ := i_bdE h
          refine i_rcall (k := 192) (as := [.ref 50]) (cf1 := (72, [some (.ref 50), none, none, some (.int l3), some (.int l4), some (.int l5), some (.int q2.1), some (.int (1 : Int32))], [], i_S X q3.2)) (cf' := (72, [some (.ref 50), none, none, some (.int l3), some (.int l4), some (.int l5), some (.int q2.1), some (.int (1 : Int32))], [.int q7.1], i_S X q7.2)) rfl (ok_r_either (N := 60) (by omega) (fun d hd => ok_r_one 9 d (by omega)) (by omega) hq7) rfl ?_
          refine i_rs 1 (cf' := (74, [some (.ref 50), none, none, some (.int l3), some (.int l4), some (.int l5), some (.int q7.1), some (.int (1 : Int32))], [], i_S X q7.2)) rfl ?_
          refine i_fg (lv' := [some (.ref 50), none, none, some (.int l3), some (.int l4), none, some (.int q7.1), some (.int (1 : Int32))]) (And.intro rfl (And.intro rfl (And.intro rfl (And.intro rfl (And.intro rfl True.intro))))) ?_
          exact ok_r_workOut_B74 hself hk107 (by omega) h
def r_workOut (l1 : Int32) (l2 : Int32) (M : I_M) : Option (Int32 × I_M) :=
  r_workOut_L33 (fun l4_15 M15 =>
        (if (M15.1 50 21) < (0 : Int32) then
          (if (M15.1 50 19) < (M15.1 50 20) then
            Option.bind (r_wrong M15) (fun q18 => some (q18.1, q18.2))
          else
            some (l4_15, M15))
        else
          some (l4_15, M15))) i_F (0 : Int32) (0 : Int32) (1 : Int32) (i_wI (i_wI (i_wI (i_wI (i_wI M 50 18 l1) 50 19 (0 : Int32)) 50 20 l2) 50 21 (-1 : Int32)) 50 22 (0 : Int32))
theorem ok_r_workOut {X : Nat × (Nat → Int32)} {d : Nat} {l1 : Int32} {l2 : Int32} {M : I_M} {r : (Int32 × I_M)} (hd : 66 ≤ d) (h : r_workOut l1 l2 M = some r) : I_Ex d 191 [.ref 50, .int l1, .int l2] (i_S X M) (some (.int r.1)) (i_S X r.2) := by
  obtain ⟨d, rfl⟩ : ∃ d1, d = d1 + 1 := ⟨d - 1, by omega⟩
  unfold r_workOut at h
  refine i_ex (e := i_r191) (lv := [some (.ref 50), some (.int l1), some (.int l2), none, none, none, none, none]) rfl (Nat.le_of_ble_eq_true rfl) rfl ?_
  show I_RnE (I_Ex d) i_c191 (0, [some (.ref 50), some (.int l1), some (.int l2), none, none, none, none, none], [], i_S X M) _ _
  refine i_rs 21 (cf' := (33, [some (.ref 50), some (.int l1), some (.int l2), some (.int (0 : Int32)), some (.int (0 : Int32)), some (.int (1 : Int32)), none, none], [], i_S X (i_wI (i_wI (i_wI (i_wI (i_wI M 50 18 l1) 50 19 (0 : Int32)) 50 20 l2) 50 21 (-1 : Int32)) 50 22 (0 : Int32)))) rfl ?_
  refine i_fg (lv' := [some (.ref 50), none, none, some (.int (0 : Int32)), some (.int (0 : Int32)), some (.int (1 : Int32)), none, none]) (And.intro rfl (And.intro rfl (And.intro rfl (And.intro rfl True.intro)))) ?_
  refine ok_r_workOut_L33 (by omega) (fun l4_15 M15 r h => ?_) i_F (0 : Int32) (0 : Int32) (1 : Int32) (i_wI (i_wI (i_wI (i_wI (i_wI M 50 18 l1) 50 19 (0 : Int32)) 50 20 l2) 50 21 (-1 : Int32)) 50 22 (0 : Int32)) _ h
  refine i_rs 2 (cf' := (111, [some (.ref 50), none, none, none, some (.int l4_15), none, none, none], [.int (M15.1 50 21)], i_S X M15)) rfl ?_
  by_cases c16 : (M15.1 50 21) < (0 : Int32)
  · replace h := (if_pos c16).symm.trans h
    refine i_rbT (c := (M15.1 50 21) < (0 : Int32)) (t := 114) (n := 130) rfl c16 ?_
    refine i_rs 4 (cf' := (122, [some (.ref 50), none, none, none, some (.int l4_15), none, none, none], [.int (M15.1 50 20), .int (M15.1 50 19)], i_S X M15)) rfl ?_
    by_cases c17 : (M15.1 50 19) < (M15.1 50 20)
    · replace h := (if_pos c17).symm.trans h
      refine i_rbT (c := (M15.1 50 19) < (M15.1 50 20)) (t := 125) (n := 130) rfl c17 ?_
      refine i_rs 1 (cf' := (126, [some (.ref 50), none, none, none, some (.int l4_15), none, none, none], [.ref 50], i_S X M15)) rfl ?_
      obtain ⟨q18, hq18, h⟩ := i_bdE h
      refine i_rcall (k := 199) (as := [.ref 50]) (cf1 := (129, [some (.ref 50), none, none, none, some (.int l4_15), none, none, none], [], i_S X M15)) (cf' := (129, [some (.ref 50), none, none, none, some (.int l4_15), none, none, none], [.int q18.1], i_S X q18.2)) rfl (ok_r_wrong (by omega) hq18) rfl ?_
      obtain rfl := Option.some.inj h
      exact i_rret rfl rfl
    · replace h := (if_neg c17).symm.trans h
      refine i_rbF (c := (M15.1 50 19) < (M15.1 50 20)) (t := 125) (n := 130) rfl c17 ?_
      refine i_rs 1 (cf' := (132, [some (.ref 50), none, none, none, some (.int l4_15), none, none, none], [.int l4_15], i_S X M15)) rfl ?_
      obtain rfl := Option.some.inj h
      exact i_rret rfl rfl
  · replace h := (if_neg c16).symm.trans h
    refine i_rbF (c := (M15.1 50 21) < (0 : Int32)) (t := 114) (n := 130) rfl c16 ?_
    refine i_rs 1 (cf' := (132, [some (.ref 50), none, none, none, some (.int l4_15), none, none, none], [.int l4_15], i_S X M15)) rfl ?_
    obtain rfl := Option.some.inj h
    exact i_rret rfl rfl
def r_law_L37 (l2 : Int32) : Nat → Int32 → I_M → Option (Int32 × I_M)
  | 0, _, _ => none
  | n + 1, l3, M =>
    (if l3 < l2 then
        i_g l3 120 ((r_law_L37 l2 n) (l3 + (1 : Int32)) (i_wI M 59 (Int32.toNatClampNeg l3) (M.1 58 (Int32.toNatClampNeg l3))))
      else
        some ((1 : Int32), (i_wI M 50 17 l2)))
theorem ok_r_law_L37 {X : Nat × (Nat → Int32)} {d : Nat} {l2 : Int32} (hd : 67 ≤ d + 1) : ∀ (n : Nat) (l3 : Int32) (M : I_M) (r : (Int32 × I_M)), r_law_L37 l2 n l3 M = some r → I_RnE (I_Ex d) i_c190 (37, [some (.ref 50), none, some (.int l2), some (.int l3)], [], i_S X M) (some (.int r.1)) (i_S X r.2) := by
  intro n
  induction n with
  | zero => intro _ M r h; cases h
  | succ n hself =>
    intro l3 M r h
    rw [r_law_L37] at h
    refine i_rs 2 (cf' := (39, [some (.ref 50), none, some (.int l2), some (.int l3)], [.int l2, .int l3], i_S X M)) rfl ?_
    by_cases c1 : l3 < l2
    · replace h := (if_pos c1).symm.trans h
      refine i_rbT (c := l3 < l2) (t := 42) (n := 60) rfl c1 ?_
      refine i_rs 6 (cf' := (52, [some (.ref 50), none, some (.int l2), some (.int l3)], [.int l3, .ref 58, .int l3, .ref 59], i_S X M)) rfl ?_
      obtain ⟨g2, h⟩ := i_gE h
      refine i_riald (n := 120) (cf' := (53, [some (.ref 50), none, some (.int l2), some (.int l3)], [.int (M.1 58 (Int32.toNatClampNeg l3)), .int l3, .ref 59], i_S X M)) rfl rfl (by decide) g2 rfl ?_
      refine i_riast (n := 120) (cf' := (54, [some (.ref 50), none, some (.int l2), some (.int l3)], [], i_S X (i_wI M 59 (Int32.toNatClampNeg l3) (M.1 58 (Int32.toNatClampNeg l3))))) rfl rfl (Or.inl rfl) g2 rfl ?_
      refine i_rs 2 (cf' := (37, [some (.ref 50), none, some (.int l2), some (.int (l3 + (1 : Int32)))], [], i_S X (i_wI M 59 (Int32.toNatClampNeg l3) (M.1 58 (Int32.toNatClampNeg l3))))) rfl ?_
      refine i_fg (lv' := [some (.ref 50), none, some (.int l2), some (.int (l3 + (1 : Int32)))]) (And.intro rfl (And.intro rfl (And.intro rfl True.intro))) ?_
      exact hself (l3 + (1 : Int32)) (i_wI M 59 (Int32.toNatClampNeg l3) (M.1 58 (Int32.toNatClampNeg l3))) _ h
    · replace h := (if_neg c1).symm.trans h
      refine i_rbF (c := l3 < l2) (t := 42) (n := 60) rfl c1 ?_
      refine i_rs 4 (cf' := (66, [some (.ref 50), none, some (.int l2), some (.int l3)], [.int (1 : Int32)], i_S X (i_wI M 50 17 l2))) rfl ?_
      obtain rfl := Option.some.inj h
      exact i_rret rfl rfl
def r_law (M : I_M) : Option (Int32 × I_M) :=
  Option.bind (r_workOut (-1 : Int32) (M.1 50 15) M) (fun q3 => (if (q3.2.1 50 21) < (0 : Int32) then
      r_law_L37 (q3.2.1 50 15) i_F (0 : Int32) (i_wI q3.2 50 15 (0 : Int32))
    else
      some (((-100 : Int32) - (q3.2.1 50 21)), (i_wI q3.2 50 15 (0 : Int32)))))
theorem ok_r_law {X : Nat × (Nat → Int32)} {d : Nat} {M : I_M} {r : (Int32 × I_M)} (hd : 67 ≤ d) (h : r_law M = some r) : I_Ex d 190 [.ref 50] (i_S X M) (some (.int r.1)) (i_S X r.2) := by
  obtain ⟨d, rfl⟩ : ∃ d1, d = d1 + 1 := ⟨d - 1, by omega⟩
  unfold r_law at h
  refine i_ex (e := i_r190) (lv := [some (.ref 50), none, none, none]) rfl (Nat.le_of_ble_eq_true rfl) rfl ?_
  show I_RnE (I_Ex d) i_c190 (0, [some (.ref 50), none, none, none], [], i_S X M) _ _
  refine i_rs 4 (cf' := (6, [some (.ref 50), none, none, none], [.int (M.1 50 15), .int (-1 : Int32), .ref 50], i_S X M)) rfl ?_
  obtain ⟨q3, hq3, h⟩ := i_bdE h
  refine i_rcall (k := 191) (as := [.ref 50, .int (-1 : Int32), .int (M.1 50 15)]) (cf1 := (9, [some (.ref 50), none, none, none], [], i_S X M)) (cf' := (9, [some (.ref 50), none, none, none], [.int q3.1], i_S X q3.2)) rfl (ok_r_workOut (by omega) hq3) rfl ?_
  refine i_rs 9 (cf' := (24, [some (.ref 50), some (.int q3.1), some (.int (q3.2.1 50 15)), none], [.int (q3.2.1 50 21)], i_S X (i_wI q3.2 50 15 (0 : Int32)))) rfl ?_
  by_cases c4 : (q3.2.1 50 21) < (0 : Int32)
  · replace h := (if_pos c4).symm.trans h
    refine i_rbT (c := (q3.2.1 50 21) < (0 : Int32)) (t := 35) (n := 27) rfl c4 ?_
    refine i_rs 2 (cf' := (37, [some (.ref 50), some (.int q3.1), some (.int (q3.2.1 50 15)), some (.int (0 : Int32))], [], i_S X (i_wI q3.2 50 15 (0 : Int32)))) rfl ?_
    refine i_fg (lv' := [some (.ref 50), none, some (.int (q3.2.1 50 15)), some (.int (0 : Int32))]) (And.intro rfl (And.intro rfl (And.intro rfl True.intro))) ?_
    refine ok_r_law_L37 (by omega) i_F (0 : Int32) (i_wI q3.2 50 15 (0 : Int32)) _ h
  · replace h := (if_neg c4).symm.trans h
    refine i_rbF (c := (q3.2.1 50 21) < (0 : Int32)) (t := 35) (n := 27) rfl c4 ?_
    refine i_rs 4 (cf' := (34, [some (.ref 50), some (.int q3.1), some (.int (q3.2.1 50 15)), none], [.int ((-100 : Int32) - (q3.2.1 50 21))], i_S X (i_wI q3.2 50 15 (0 : Int32)))) rfl ?_
    obtain rfl := Option.some.inj h
    exact i_rret rfl rfl
def b_Land_isStrike (l1 : Int32) (M : I_M) : Option (Int32 × I_M) :=
  (if l1 < (0 : Int32) then
      some ((0 : Int32), M)
    else
      (if (l1 / (100 : Int32)) < (10 : Int32) then
        Option.bind (b_Land_has (i_rem l1 (100 : Int32)) M) (fun q3 => (if q3.1 = (0 : Int32) then
          some ((0 : Int32), q3.2)
        else
          some ((1 : Int32), q3.2)))
      else
        some ((0 : Int32), M)))
theorem ok_b_Land_isStrike {X : Nat × (Nat → Int32)} {d : Nat} {l1 : Int32} {M : I_M} {r : (Int32 × I_M)} (hd : 3 ≤ d) (h : b_Land_isStrike l1 M = some r) : I_Ex d 65 [.ref 1, .int l1] (i_S X M) (some (.int r.1)) (i_S X r.2) := by
  obtain ⟨d, rfl⟩ : ∃ d1, d = d1 + 1 := ⟨d - 1, by omega⟩
  unfold b_Land_isStrike at h
  refine i_ex (e := i_r65) (lv := [some (.ref 1), some (.int l1)]) rfl (Nat.le_of_ble_eq_true rfl) rfl ?_
  show I_RnE (I_Ex d) i_c65 (0, [some (.ref 1), some (.int l1)], [], i_S X M) _ _
  refine i_rs 1 (cf' := (1, [some (.ref 1), some (.int l1)], [.int l1], i_S X M)) rfl ?_
  by_cases c1 : l1 < (0 : Int32)
  · replace h := (if_pos c1).symm.trans h
    refine i_rbT (c := l1 < (0 : Int32)) (t := 28) (n := 4) rfl c1 ?_
    refine i_rs 1 (cf' := (29, [some (.ref 1), some (.int l1)], [.int (0 : Int32)], i_S X M)) rfl ?_
    obtain rfl := Option.some.inj h
    exact i_rretZ rfl (Or.inl rfl) rfl
  · replace h := (if_neg c1).symm.trans h
    refine i_rbF (c := l1 < (0 : Int32)) (t := 28) (n := 4) rfl c1 ?_
    refine i_rs 2 (cf' := (7, [some (.ref 1), some (.int l1)], [.int (100 : Int32), .int l1], i_S X M)) rfl ?_
    refine i_rdiv (cf' := (8, [some (.ref 1), some (.int l1)], [.int (l1 / (100 : Int32))], i_S X M)) rfl (by decide) rfl ?_
    refine i_rs 1 (cf' := (10, [some (.ref 1), some (.int l1)], [.int (10 : Int32), .int (l1 / (100 : Int32))], i_S X M)) rfl ?_
    by_cases c2 : (l1 / (100 : Int32)) < (10 : Int32)
    · replace h := (if_pos c2).symm.trans h
      refine i_rbT (c := (l1 / (100 : Int32)) < (10 : Int32)) (t := 13) (n := 28) rfl c2 ?_
      refine i_rs 3 (cf' := (17, [some (.ref 1), some (.int l1)], [.int (100 : Int32), .int l1, .ref 1], i_S X M)) rfl ?_
      refine i_rrem (cf' := (18, [some (.ref 1), some (.int l1)], [.int (i_rem l1 (100 : Int32)), .ref 1], i_S X M)) rfl (by decide) rfl ?_
      obtain ⟨q3, hq3, h⟩ := i_bdE h
      refine i_rcall (k := 20) (as := [.ref 1, .int (i_rem l1 (100 : Int32))]) (cf1 := (21, [some (.ref 1), some (.int l1)], [], i_S X M)) (cf' := (21, [some (.ref 1), some (.int l1)], [.int q3.1], i_S X q3.2)) rfl (ok_b_Land_has (by omega) hq3) rfl ?_
      by_cases c4 : q3.1 = (0 : Int32)
      · replace h := (if_pos c4).symm.trans h
        refine i_rbT (c := q3.1 = (0 : Int32)) (t := 28) (n := 24) rfl c4 ?_
        refine i_rs 1 (cf' := (29, [some (.ref 1), some (.int l1)], [.int (0 : Int32)], i_S X q3.2)) rfl ?_
        obtain rfl := Option.some.inj h
        exact i_rretZ rfl (Or.inl rfl) rfl
      · replace h := (if_neg c4).symm.trans h
        refine i_rbF (c := q3.1 = (0 : Int32)) (t := 28) (n := 24) rfl c4 ?_
        refine i_rs 2 (cf' := (29, [some (.ref 1), some (.int l1)], [.int (1 : Int32)], i_S X q3.2)) rfl ?_
        obtain rfl := Option.some.inj h
        exact i_rretZ rfl (Or.inr rfl) rfl
    · replace h := (if_neg c2).symm.trans h
      refine i_rbF (c := (l1 / (100 : Int32)) < (10 : Int32)) (t := 13) (n := 28) rfl c2 ?_
      refine i_rs 1 (cf' := (29, [some (.ref 1), some (.int l1)], [.int (0 : Int32)], i_S X M)) rfl ?_
      obtain rfl := Option.some.inj h
      exact i_rretZ rfl (Or.inl rfl) rfl
def b_Land_far (l1 : Int32) (l2 : Int32) (M : I_M) : Option (Int32 × I_M) :=
  i_g l1 25 (i_g l2 25 (some (((i_abs ((M.1 2 (Int32.toNatClampNeg l1)) - (M.1 2 (Int32.toNatClampNeg l2)))) + (i_abs ((M.1 3 (Int32.toNatClampNeg l1)) - (M.1 3 (Int32.toNatClampNeg l2))))), M)))
theorem ok_b_Land_far {X : Nat × (Nat → Int32)} {d : Nat} {l1 : Int32} {l2 : Int32} {M : I_M} {r : (Int32 × I_M)} (hd : 1 ≤ d) (h : b_Land_far l1 l2 M = some r) : I_Ex d 67 [.ref 1, .int l1, .int l2] (i_S X M) (some (.int r.1)) (i_S X r.2) := by
  obtain ⟨d, rfl⟩ : ∃ d1, d = d1 + 1 := ⟨d - 1, by omega⟩
  unfold b_Land_far at h
  refine i_ex (e := i_r67) (lv := [some (.ref 1), some (.int l1), some (.int l2)]) rfl (Nat.le_of_ble_eq_true rfl) rfl ?_
  show I_RnE (I_Ex d) i_c67 (0, [some (.ref 1), some (.int l1), some (.int l2)], [], i_S X M) _ _
  refine i_rs 3 (cf' := (5, [some (.ref 1), some (.int l1), some (.int l2)], [.int l1, .ref 2], i_S X M)) rfl ?_
  obtain ⟨g1, h⟩ := i_gE h
  refine i_riald (n := 25) (cf' := (6, [some (.ref 1), some (.int l1), some (.int l2)], [.int (M.1 2 (Int32.toNatClampNeg l1))], i_S X M)) rfl rfl (by decide) g1 rfl ?_
  refine i_rs 3 (cf' := (11, [some (.ref 1), some (.int l1), some (.int l2)], [.int l2, .ref 2, .int (M.1 2 (Int32.toNatClampNeg l1))], i_S X M)) rfl ?_
  obtain ⟨g2, h⟩ := i_gE h
  refine i_riald (n := 25) (cf' := (12, [some (.ref 1), some (.int l1), some (.int l2)], [.int (M.1 2 (Int32.toNatClampNeg l2)), .int (M.1 2 (Int32.toNatClampNeg l1))], i_S X M)) rfl rfl (by decide) g2 rfl ?_
  refine i_rs 5 (cf' := (21, [some (.ref 1), some (.int l1), some (.int l2)], [.int l1, .ref 3, .int (i_abs ((M.1 2 (Int32.toNatClampNeg l1)) - (M.1 2 (Int32.toNatClampNeg l2))))], i_S X M)) rfl ?_
  refine i_riald (n := 25) (cf' := (22, [some (.ref 1), some (.int l1), some (.int l2)], [.int (M.1 3 (Int32.toNatClampNeg l1)), .int (i_abs ((M.1 2 (Int32.toNatClampNeg l1)) - (M.1 2 (Int32.toNatClampNeg l2))))], i_S X M)) rfl rfl (by decide) g1 rfl ?_
  refine i_rs 3 (cf' := (27, [some (.ref 1), some (.int l1), some (.int l2)], [.int l2, .ref 3, .int (M.1 3 (Int32.toNatClampNeg l1)), .int (i_abs ((M.1 2 (Int32.toNatClampNeg l1)) - (M.1 2 (Int32.toNatClampNeg l2))))], i_S X M)) rfl ?_
  refine i_riald (n := 25) (cf' := (28, [some (.ref 1), some (.int l1), some (.int l2)], [.int (M.1 3 (Int32.toNatClampNeg l2)), .int (M.1 3 (Int32.toNatClampNeg l1)), .int (i_abs ((M.1 2 (Int32.toNatClampNeg l1)) - (M.1 2 (Int32.toNatClampNeg l2))))], i_S X M)) rfl rfl (by decide) g2 rfl ?_
  refine i_rs 3 (cf' := (33, [some (.ref 1), some (.int l1), some (.int l2)], [.int ((i_abs ((M.1 2 (Int32.toNatClampNeg l1)) - (M.1 2 (Int32.toNatClampNeg l2)))) + (i_abs ((M.1 3 (Int32.toNatClampNeg l1)) - (M.1 3 (Int32.toNatClampNeg l2)))))], i_S X M)) rfl ?_
  obtain rfl := Option.some.inj h
  exact i_rret rfl rfl
def b_Law_pop (M : I_M) : Option (Int32 × I_M) :=
  (if (0 : Int32) < (M.1 9 6) then
      i_g ((M.1 9 6) - (1 : Int32)) 64 (some ((M.1 12 (Int32.toNatClampNeg ((M.1 9 6) - (1 : Int32)))), (i_wI M 9 6 ((M.1 9 6) - (1 : Int32)))))
    else
      some ((0 : Int32), M))
theorem ok_b_Law_pop {X : Nat × (Nat → Int32)} {d : Nat} {M : I_M} {r : (Int32 × I_M)} (hd : 1 ≤ d) (h : b_Law_pop M = some r) : I_Ex d 70 [.ref 9] (i_S X M) (some (.int r.1)) (i_S X r.2) := by
  obtain ⟨d, rfl⟩ : ∃ d1, d = d1 + 1 := ⟨d - 1, by omega⟩
  unfold b_Law_pop at h
  refine i_ex (e := i_r70) (lv := [some (.ref 9)]) rfl (Nat.le_of_ble_eq_true rfl) rfl ?_
  show I_RnE (I_Ex d) i_c70 (0, [some (.ref 9)], [], i_S X M) _ _
  refine i_rs 2 (cf' := (4, [some (.ref 9)], [.int (M.1 9 6)], i_S X M)) rfl ?_
  by_cases c1 : (0 : Int32) < (M.1 9 6)
  · replace h := (if_pos c1).symm.trans h
    refine i_rbT (c := (0 : Int32) < (M.1 9 6)) (t := 9) (n := 7) rfl c1 ?_
    refine i_rs 10 (cf' := (27, [some (.ref 9)], [.int ((M.1 9 6) - (1 : Int32)), .ref 12], i_S X (i_wI M 9 6 ((M.1 9 6) - (1 : Int32))))) rfl ?_
    obtain ⟨g2, h⟩ := i_gE h
    refine i_riald (n := 64) (cf' := (28, [some (.ref 9)], [.int (M.1 12 (Int32.toNatClampNeg ((M.1 9 6) - (1 : Int32))))], i_S X (i_wI M 9 6 ((M.1 9 6) - (1 : Int32))))) rfl rfl (by decide) g2 rfl ?_
    obtain rfl := Option.some.inj h
    exact i_rret rfl rfl
  · replace h := (if_neg c1).symm.trans h
    refine i_rbF (c := (0 : Int32) < (M.1 9 6)) (t := 9) (n := 7) rfl c1 ?_
    refine i_rs 1 (cf' := (8, [some (.ref 9)], [.int (0 : Int32)], i_S X M)) rfl ?_
    obtain rfl := Option.some.inj h
    exact i_rret rfl rfl
def b_Law_push (l1 : Int32) (M : I_M) : Option I_M :=
  (if (M.1 9 6) < (64 : Int32) then
      i_g (M.1 9 6) 64 (some (i_wI (i_wI M 12 (Int32.toNatClampNeg (M.1 9 6)) l1) 9 6 ((M.1 9 6) + (1 : Int32))))
    else
      some M)
theorem ok_b_Law_push {X : Nat × (Nat → Int32)} {d : Nat} {l1 : Int32} {M : I_M} {r : I_M} (hd : 1 ≤ d) (h : b_Law_push l1 M = some r) : I_Ex d 72 [.ref 9, .int l1] (i_S X M) none (i_S X r) := by
  obtain ⟨d, rfl⟩ : ∃ d1, d = d1 + 1 := ⟨d - 1, by omega⟩
  unfold b_Law_push at h
  refine i_ex (e := i_r72) (lv := [some (.ref 9), some (.int l1)]) rfl (Nat.le_of_ble_eq_true rfl) rfl ?_
  show I_RnE (I_Ex d) i_c72 (0, [some (.ref 9), some (.int l1)], [], i_S X M) _ _
  refine i_rs 5 (cf' := (9, [some (.ref 9), some (.int l1)], [.int (64 : Int32), .int (M.1 9 6)], i_S X M)) rfl ?_
  by_cases c1 : (M.1 9 6) < (64 : Int32)
  · replace h := (if_pos c1).symm.trans h
    refine i_rbT (c := (M.1 9 6) < (64 : Int32)) (t := 12) (n := 32) rfl c1 ?_
    refine i_rs 5 (cf' := (21, [some (.ref 9), some (.int l1)], [.int l1, .int (M.1 9 6), .ref 12], i_S X M)) rfl ?_
    obtain ⟨g2, h⟩ := i_gE h
    refine i_riast (n := 64) (cf' := (22, [some (.ref 9), some (.int l1)], [], i_S X (i_wI M 12 (Int32.toNatClampNeg (M.1 9 6)) l1))) rfl rfl (Or.inl rfl) g2 rfl ?_
    refine i_rs 6 (cf' := (32, [some (.ref 9), some (.int l1)], [], i_S X (i_wI (i_wI M 12 (Int32.toNatClampNeg (M.1 9 6)) l1) 9 6 ((M.1 9 6) + (1 : Int32))))) rfl ?_
    obtain rfl := Option.some.inj h
    exact i_rret rfl rfl
  · replace h := (if_neg c1).symm.trans h
    refine i_rbF (c := (M.1 9 6) < (64 : Int32)) (t := 12) (n := 32) rfl c1 ?_
    obtain rfl := Option.some.inj h
    exact i_rret rfl rfl
def b_Law_joined (l0 : Int32) (l1 : Int32) (l2 : Int32) (M : I_M) : Option (Int32 × I_M) :=
  (if l1 = (37 : Int32) then
      (if l2 = (0 : Int32) then
        some ((0 : Int32), M)
      else
        i_nz l2 (some ((i_rem l0 l2), M)))
    else
      (if l1 = (38 : Int32) then
        (if l0 = (0 : Int32) then
          some ((0 : Int32), M)
        else
          (if l2 = (0 : Int32) then
            some ((0 : Int32), M)
          else
            some ((1 : Int32), M)))
      else
        (if l1 = (42 : Int32) then
          some ((l0 * l2), M)
        else
          (if l1 = (43 : Int32) then
            some ((l0 + l2), M)
          else
            (if l1 = (45 : Int32) then
              some ((l0 - l2), M)
            else
              (if l1 = (47 : Int32) then
                (if l2 = (0 : Int32) then
                  some ((0 : Int32), M)
                else
                  i_nz l2 (some ((l0 / l2), M)))
              else
                (if l1 = (60 : Int32) then
                  (if l0 < l2 then
                    some ((1 : Int32), M)
                  else
                    some ((0 : Int32), M))
                else
                  (if l1 = (61 : Int32) then
                    (if l0 = l2 then
                      some ((1 : Int32), M)
                    else
                      some ((0 : Int32), M))
                  else
                    (if l1 = (62 : Int32) then
                      (if l2 < l0 then
                        some ((1 : Int32), M)
                      else
                        some ((0 : Int32), M))
                    else
                      (if l1 = (124 : Int32) then
                        (if l0 = (0 : Int32) then
                          (if l2 = (0 : Int32) then
                            some ((0 : Int32), M)
                          else
                            some ((1 : Int32), M))
                        else
                          some ((1 : Int32), M))
                      else
                        some ((0 : Int32), M)))))))))))
theorem ok_b_Law_joined {X : Nat × (Nat → Int32)} {d : Nat} {l0 : Int32} {l1 : Int32} {l2 : Int32} {M : I_M} {r : (Int32 × I_M)} (hd : 1 ≤ d) (h : b_Law_joined l0 l1 l2 M = some r) : I_Ex d 73 [.int l0, .int l1, .int l2] (i_S X M) (some (.int r.1)) (i_S X r.2) := by
  obtain ⟨d, rfl⟩ : ∃ d1, d = d1 + 1 := ⟨d - 1, by omega⟩
  unfold b_Law_joined at h
  refine i_ex (e := i_r73) (lv := [some (.int l0), some (.int l1), some (.int l2)]) rfl (Nat.le_of_ble_eq_true rfl) rfl ?_
  show I_RnE (I_Ex d) i_c73 (0, [some (.int l0), some (.int l1), some (.int l2)], [], i_S X M) _ _
  refine i_rs 1 (cf' := (1, [some (.int l0), some (.int l1), some (.int l2)], [.int l1], i_S X M)) rfl ?_
  refine i_stp1 (cf' := (i_sw l1 189 [(37, 177), (38, 106), (42, 161), (43, 153), (45, 157), (47, 165), (60, 120), (61, 131), (62, 142), (124, 92)], [some (.int l0), some (.int l1), some (.int l2)], [], i_S X M)) rfl ?_
  by_cases c1 : l1 = (37 : Int32)
  · replace h := (if_pos c1).symm.trans h
    refine i_rswT c1 ?_
    refine i_rs 1 (cf' := (178, [some (.int l0), some (.int l1), some (.int l2)], [.int l2], i_S X M)) rfl ?_
    by_cases c2 : l2 = (0 : Int32)
    · replace h := (if_pos c2).symm.trans h
      refine i_rbT (c := l2 = (0 : Int32)) (t := 181) (n := 185) rfl c2 ?_
      refine i_rs 2 (cf' := (188, [some (.int l0), some (.int l1), some (.int l2)], [.int (0 : Int32)], i_S X M)) rfl ?_
      obtain rfl := Option.some.inj h
      exact i_rret rfl rfl
    · replace h := (if_neg c2).symm.trans h
      refine i_rbF (c := l2 = (0 : Int32)) (t := 181) (n := 185) rfl c2 ?_
      refine i_rs 2 (cf' := (187, [some (.int l0), some (.int l1), some (.int l2)], [.int l2, .int l0], i_S X M)) rfl ?_
      obtain ⟨g3, h⟩ := i_nzE h
      refine i_rrem (cf' := (188, [some (.int l0), some (.int l1), some (.int l2)], [.int (i_rem l0 l2)], i_S X M)) rfl g3 rfl ?_
      obtain rfl := Option.some.inj h
      exact i_rret rfl rfl
  · replace h := (if_neg c1).symm.trans h
    refine i_rswF c1 ?_
    by_cases c4 : l1 = (38 : Int32)
    · replace h := (if_pos c4).symm.trans h
      refine i_rswT c4 ?_
      refine i_rs 1 (cf' := (107, [some (.int l0), some (.int l1), some (.int l2)], [.int l0], i_S X M)) rfl ?_
      by_cases c5 : l0 = (0 : Int32)
      · replace h := (if_pos c5).symm.trans h
        refine i_rbT (c := l0 = (0 : Int32)) (t := 118) (n := 110) rfl c5 ?_
        refine i_rs 1 (cf' := (119, [some (.int l0), some (.int l1), some (.int l2)], [.int (0 : Int32)], i_S X M)) rfl ?_
        obtain rfl := Option.some.inj h
        exact i_rret rfl rfl
      · replace h := (if_neg c5).symm.trans h
        refine i_rbF (c := l0 = (0 : Int32)) (t := 118) (n := 110) rfl c5 ?_
        refine i_rs 1 (cf' := (111, [some (.int l0), some (.int l1), some (.int l2)], [.int l2], i_S X M)) rfl ?_
        by_cases c6 : l2 = (0 : Int32)
        · replace h := (if_pos c6).symm.trans h
          refine i_rbT (c := l2 = (0 : Int32)) (t := 118) (n := 114) rfl c6 ?_
          refine i_rs 1 (cf' := (119, [some (.int l0), some (.int l1), some (.int l2)], [.int (0 : Int32)], i_S X M)) rfl ?_
          obtain rfl := Option.some.inj h
          exact i_rret rfl rfl
        · replace h := (if_neg c6).symm.trans h
          refine i_rbF (c := l2 = (0 : Int32)) (t := 118) (n := 114) rfl c6 ?_
          refine i_rs 2 (cf' := (119, [some (.int l0), some (.int l1), some (.int l2)], [.int (1 : Int32)], i_S X M)) rfl ?_
          obtain rfl := Option.some.inj h
          exact i_rret rfl rfl
    · replace h := (if_neg c4).symm.trans h
      refine i_rswF c4 ?_
      by_cases c7 : l1 = (42 : Int32)
      · replace h := (if_pos c7).symm.trans h
        refine i_rswT c7 ?_
        refine i_rs 3 (cf' := (164, [some (.int l0), some (.int l1), some (.int l2)], [.int (l0 * l2)], i_S X M)) rfl ?_
        obtain rfl := Option.some.inj h
        exact i_rret rfl rfl
      · replace h := (if_neg c7).symm.trans h
        refine i_rswF c7 ?_
        by_cases c8 : l1 = (43 : Int32)
        · replace h := (if_pos c8).symm.trans h
          refine i_rswT c8 ?_
          refine i_rs 3 (cf' := (156, [some (.int l0), some (.int l1), some (.int l2)], [.int (l0 + l2)], i_S X M)) rfl ?_
          obtain rfl := Option.some.inj h
          exact i_rret rfl rfl
        · replace h := (if_neg c8).symm.trans h
          refine i_rswF c8 ?_
          by_cases c9 : l1 = (45 : Int32)
          · replace h := (if_pos c9).symm.trans h
            refine i_rswT c9 ?_
            refine i_rs 3 (cf' := (160, [some (.int l0), some (.int l1), some (.int l2)], [.int (l0 - l2)], i_S X M)) rfl ?_
            obtain rfl := Option.some.inj h
            exact i_rret rfl rfl
          · replace h := (if_neg c9).symm.trans h
            refine i_rswF c9 ?_
            by_cases c10 : l1 = (47 : Int32)
            · replace h := (if_pos c10).symm.trans h
              refine i_rswT c10 ?_
              refine i_rs 1 (cf' := (166, [some (.int l0), some (.int l1), some (.int l2)], [.int l2], i_S X M)) rfl ?_
              by_cases c11 : l2 = (0 : Int32)
              · replace h := (if_pos c11).symm.trans h
                refine i_rbT (c := l2 = (0 : Int32)) (t := 169) (n := 173) rfl c11 ?_
                refine i_rs 2 (cf' := (176, [some (.int l0), some (.int l1), some (.int l2)], [.int (0 : Int32)], i_S X M)) rfl ?_
                obtain rfl := Option.some.inj h
                exact i_rret rfl rfl
              · replace h := (if_neg c11).symm.trans h
                refine i_rbF (c := l2 = (0 : Int32)) (t := 169) (n := 173) rfl c11 ?_
                refine i_rs 2 (cf' := (175, [some (.int l0), some (.int l1), some (.int l2)], [.int l2, .int l0], i_S X M)) rfl ?_
                obtain ⟨g12, h⟩ := i_nzE h
                refine i_rdiv (cf' := (176, [some (.int l0), some (.int l1), some (.int l2)], [.int (l0 / l2)], i_S X M)) rfl g12 rfl ?_
                obtain rfl := Option.some.inj h
                exact i_rret rfl rfl
            · replace h := (if_neg c10).symm.trans h
              refine i_rswF c10 ?_
              by_cases c13 : l1 = (60 : Int32)
              · replace h := (if_pos c13).symm.trans h
                refine i_rswT c13 ?_
                refine i_rs 2 (cf' := (122, [some (.int l0), some (.int l1), some (.int l2)], [.int l2, .int l0], i_S X M)) rfl ?_
                by_cases c14 : l0 < l2
                · replace h := (if_pos c14).symm.trans h
                  refine i_rbT (c := l0 < l2) (t := 125) (n := 129) rfl c14 ?_
                  refine i_rs 2 (cf' := (130, [some (.int l0), some (.int l1), some (.int l2)], [.int (1 : Int32)], i_S X M)) rfl ?_
                  obtain rfl := Option.some.inj h
                  exact i_rret rfl rfl
                · replace h := (if_neg c14).symm.trans h
                  refine i_rbF (c := l0 < l2) (t := 125) (n := 129) rfl c14 ?_
                  refine i_rs 1 (cf' := (130, [some (.int l0), some (.int l1), some (.int l2)], [.int (0 : Int32)], i_S X M)) rfl ?_
                  obtain rfl := Option.some.inj h
                  exact i_rret rfl rfl
              · replace h := (if_neg c13).symm.trans h
                refine i_rswF c13 ?_
                by_cases c15 : l1 = (61 : Int32)
                · replace h := (if_pos c15).symm.trans h
                  refine i_rswT c15 ?_
                  refine i_rs 2 (cf' := (133, [some (.int l0), some (.int l1), some (.int l2)], [.int l2, .int l0], i_S X M)) rfl ?_
                  by_cases c16 : l0 = l2
                  · replace h := (if_pos c16).symm.trans h
                    refine i_rbT (c := l0 = l2) (t := 136) (n := 140) rfl c16 ?_
                    refine i_rs 2 (cf' := (141, [some (.int l0), some (.int l1), some (.int l2)], [.int (1 : Int32)], i_S X M)) rfl ?_
                    obtain rfl := Option.some.inj h
                    exact i_rret rfl rfl
                  · replace h := (if_neg c16).symm.trans h
                    refine i_rbF (c := l0 = l2) (t := 136) (n := 140) rfl c16 ?_
                    refine i_rs 1 (cf' := (141, [some (.int l0), some (.int l1), some (.int l2)], [.int (0 : Int32)], i_S X M)) rfl ?_
                    obtain rfl := Option.some.inj h
                    exact i_rret rfl rfl
                · replace h := (if_neg c15).symm.trans h
                  refine i_rswF c15 ?_
                  by_cases c17 : l1 = (62 : Int32)
                  · replace h := (if_pos c17).symm.trans h
                    refine i_rswT c17 ?_
                    refine i_rs 2 (cf' := (144, [some (.int l0), some (.int l1), some (.int l2)], [.int l2, .int l0], i_S X M)) rfl ?_
                    by_cases c18 : l2 < l0
                    · replace h := (if_pos c18).symm.trans h
                      refine i_rbT (c := l2 < l0) (t := 147) (n := 151) rfl c18 ?_
                      refine i_rs 2 (cf' := (152, [some (.int l0), some (.int l1), some (.int l2)], [.int (1 : Int32)], i_S X M)) rfl ?_
                      obtain rfl := Option.some.inj h
                      exact i_rret rfl rfl
                    · replace h := (if_neg c18).symm.trans h
                      refine i_rbF (c := l2 < l0) (t := 147) (n := 151) rfl c18 ?_
                      refine i_rs 1 (cf' := (152, [some (.int l0), some (.int l1), some (.int l2)], [.int (0 : Int32)], i_S X M)) rfl ?_
                      obtain rfl := Option.some.inj h
                      exact i_rret rfl rfl
                  · replace h := (if_neg c17).symm.trans h
                    refine i_rswF c17 ?_
                    by_cases c19 : l1 = (124 : Int32)
                    · replace h := (if_pos c19).symm.trans h
                      refine i_rswT c19 ?_
                      refine i_rs 1 (cf' := (93, [some (.int l0), some (.int l1), some (.int l2)], [.int l0], i_S X M)) rfl ?_
                      by_cases c20 : l0 = (0 : Int32)
                      · replace h := (if_pos c20).symm.trans h
                        refine i_rbT (c := l0 = (0 : Int32)) (t := 96) (n := 100) rfl c20 ?_
                        refine i_rs 1 (cf' := (97, [some (.int l0), some (.int l1), some (.int l2)], [.int l2], i_S X M)) rfl ?_
                        by_cases c21 : l2 = (0 : Int32)
                        · replace h := (if_pos c21).symm.trans h
                          refine i_rbT (c := l2 = (0 : Int32)) (t := 104) (n := 100) rfl c21 ?_
                          refine i_rs 1 (cf' := (105, [some (.int l0), some (.int l1), some (.int l2)], [.int (0 : Int32)], i_S X M)) rfl ?_
                          obtain rfl := Option.some.inj h
                          exact i_rret rfl rfl
                        · replace h := (if_neg c21).symm.trans h
                          refine i_rbF (c := l2 = (0 : Int32)) (t := 104) (n := 100) rfl c21 ?_
                          refine i_rs 2 (cf' := (105, [some (.int l0), some (.int l1), some (.int l2)], [.int (1 : Int32)], i_S X M)) rfl ?_
                          obtain rfl := Option.some.inj h
                          exact i_rret rfl rfl
                      · replace h := (if_neg c20).symm.trans h
                        refine i_rbF (c := l0 = (0 : Int32)) (t := 96) (n := 100) rfl c20 ?_
                        refine i_rs 2 (cf' := (105, [some (.int l0), some (.int l1), some (.int l2)], [.int (1 : Int32)], i_S X M)) rfl ?_
                        obtain rfl := Option.some.inj h
                        exact i_rret rfl rfl
                    · replace h := (if_neg c19).symm.trans h
                      refine i_rswF c19 ?_
                      refine i_rs 1 (cf' := (190, [some (.int l0), some (.int l1), some (.int l2)], [.int (0 : Int32)], i_S X M)) rfl ?_
                      obtain rfl := Option.some.inj h
                      exact i_rret rfl rfl
def b_Law_take (l1 : Int32) (M : I_M) : Option I_M :=
  (if (0 : Int32) < l1 then
      (if l1 < (400 : Int32) then
        (if l1 = (300 : Int32) then
          Option.bind (b_Law_pop M) (fun q4 => Option.bind (b_Law_push (-q4.1) q4.2) (fun q5 => some q5))
        else
          (if l1 = (33 : Int32) then
            Option.bind (b_Law_pop M) (fun q7 => (if q7.1 = (0 : Int32) then
              Option.bind (b_Law_push (1 : Int32) q7.2) (fun q9 => some q9)
            else
              Option.bind (b_Law_push (0 : Int32) q7.2) (fun q10 => some q10)))
          else
            Option.bind (b_Law_pop M) (fun q11 => Option.bind (b_Law_pop q11.2) (fun q12 => Option.bind (b_Law_joined q12.1 l1 q11.1 q12.2) (fun q13 => Option.bind (b_Law_push q13.1 q13.2) (fun q14 => some q14))))))
      else
        (if (l1 - (400 : Int32)) < (7 : Int32) then
          i_g (l1 - (400 : Int32)) 7 (Option.bind (b_Law_push (M.1 11 (Int32.toNatClampNeg (l1 - (400 : Int32)))) M) (fun q17 => some q17))
        else
          Option.bind (b_Law_push (0 : Int32) M) (fun q18 => some q18)))
    else
      Option.bind (b_Law_push (-l1) M) (fun q19 => some q19))
theorem ok_b_Law_take {X : Nat × (Nat → Int32)} {d : Nat} {l1 : Int32} {M : I_M} {r : I_M} (hd : 2 ≤ d) (h : b_Law_take l1 M = some r) : I_Ex d 71 [.ref 9, .int l1] (i_S X M) none (i_S X r) := by
  obtain ⟨d, rfl⟩ : ∃ d1, d = d1 + 1 := ⟨d - 1, by omega⟩
  unfold b_Law_take at h
  refine i_ex (e := i_r71) (lv := [some (.ref 9), some (.int l1), none, none]) rfl (Nat.le_of_ble_eq_true rfl) rfl ?_
  show I_RnE (I_Ex d) i_c71 (0, [some (.ref 9), some (.int l1), none, none], [], i_S X M) _ _
  refine i_rs 1 (cf' := (1, [some (.ref 9), some (.int l1), none, none], [.int l1], i_S X M)) rfl ?_
  by_cases c1 : (0 : Int32) < l1
  · replace h := (if_pos c1).symm.trans h
    refine i_rbT (c := (0 : Int32) < l1) (t := 13) (n := 4) rfl c1 ?_
    refine i_rs 2 (cf' := (17, [some (.ref 9), some (.int l1), none, none], [.int (400 : Int32), .int l1], i_S X M)) rfl ?_
    by_cases c2 : l1 < (400 : Int32)
    · replace h := (if_pos c2).symm.trans h
      refine i_rbT (c := l1 < (400 : Int32)) (t := 52) (n := 20) rfl c2 ?_
      refine i_rs 2 (cf' := (56, [some (.ref 9), some (.int l1), none, none], [.int (300 : Int32), .int l1], i_S X M)) rfl ?_
      by_cases c3 : l1 = (300 : Int32)
      · replace h := (if_pos c3).symm.trans h
        refine i_rbT (c := l1 = (300 : Int32)) (t := 59) (n := 71) rfl c3 ?_
        refine i_rs 2 (cf' := (61, [some (.ref 9), some (.int l1), none, none], [.ref 9, .ref 9], i_S X M)) rfl ?_
        obtain ⟨q4, hq4, h⟩ := i_bdE h
        refine i_rcall (k := 70) (as := [.ref 9]) (cf1 := (64, [some (.ref 9), some (.int l1), none, none], [.ref 9], i_S X M)) (cf' := (64, [some (.ref 9), some (.int l1), none, none], [.int q4.1, .ref 9], i_S X q4.2)) rfl (ok_b_Law_pop (by omega) hq4) rfl ?_
        refine i_rs 1 (cf' := (65, [some (.ref 9), some (.int l1), none, none], [.int (-q4.1), .ref 9], i_S X q4.2)) rfl ?_
        obtain ⟨q5, hq5, h⟩ := i_bdE h
        refine i_rcall (k := 72) (as := [.ref 9, .int (-q4.1)]) (cf1 := (68, [some (.ref 9), some (.int l1), none, none], [], i_S X q4.2)) (cf' := (68, [some (.ref 9), some (.int l1), none, none], [], i_S X q5)) rfl (ok_b_Law_push (by omega) hq5) rfl ?_
        refine i_rs 1 (cf' := (116, [some (.ref 9), some (.int l1), none, none], [], i_S X q5)) rfl ?_
        obtain rfl := Option.some.inj h
        exact i_rret rfl rfl
      · replace h := (if_neg c3).symm.trans h
        refine i_rbF (c := l1 = (300 : Int32)) (t := 59) (n := 71) rfl c3 ?_
        refine i_rs 2 (cf' := (74, [some (.ref 9), some (.int l1), none, none], [.int (33 : Int32), .int l1], i_S X M)) rfl ?_
        by_cases c6 : l1 = (33 : Int32)
        · replace h := (if_pos c6).symm.trans h
          refine i_rbT (c := l1 = (33 : Int32)) (t := 77) (n := 96) rfl c6 ?_
          refine i_rs 2 (cf' := (79, [some (.ref 9), some (.int l1), none, none], [.ref 9, .ref 9], i_S X M)) rfl ?_
          obtain ⟨q7, hq7, h⟩ := i_bdE h
          refine i_rcall (k := 70) (as := [.ref 9]) (cf1 := (82, [some (.ref 9), some (.int l1), none, none], [.ref 9], i_S X M)) (cf' := (82, [some (.ref 9), some (.int l1), none, none], [.int q7.1, .ref 9], i_S X q7.2)) rfl (ok_b_Law_pop (by omega) hq7) rfl ?_
          by_cases c8 : q7.1 = (0 : Int32)
          · replace h := (if_pos c8).symm.trans h
            refine i_rbT (c := q7.1 = (0 : Int32)) (t := 85) (n := 89) rfl c8 ?_
            refine i_rs 2 (cf' := (90, [some (.ref 9), some (.int l1), none, none], [.int (1 : Int32), .ref 9], i_S X q7.2)) rfl ?_
            obtain ⟨q9, hq9, h⟩ := i_bdE h
            refine i_rcall (k := 72) (as := [.ref 9, .int (1 : Int32)]) (cf1 := (93, [some (.ref 9), some (.int l1), none, none], [], i_S X q7.2)) (cf' := (93, [some (.ref 9), some (.int l1), none, none], [], i_S X q9)) rfl (ok_b_Law_push (by omega) hq9) rfl ?_
            refine i_rs 1 (cf' := (116, [some (.ref 9), some (.int l1), none, none], [], i_S X q9)) rfl ?_
            obtain rfl := Option.some.inj h
            exact i_rret rfl rfl
          · replace h := (if_neg c8).symm.trans h
            refine i_rbF (c := q7.1 = (0 : Int32)) (t := 85) (n := 89) rfl c8 ?_
            refine i_rs 1 (cf' := (90, [some (.ref 9), some (.int l1), none, none], [.int (0 : Int32), .ref 9], i_S X q7.2)) rfl ?_
            obtain ⟨q10, hq10, h⟩ := i_bdE h
            refine i_rcall (k := 72) (as := [.ref 9, .int (0 : Int32)]) (cf1 := (93, [some (.ref 9), some (.int l1), none, none], [], i_S X q7.2)) (cf' := (93, [some (.ref 9), some (.int l1), none, none], [], i_S X q10)) rfl (ok_b_Law_push (by omega) hq10) rfl ?_
            refine i_rs 1 (cf' := (116, [some (.ref 9), some (.int l1), none, none], [], i_S X q10)) rfl ?_
            obtain rfl := Option.some.inj h
            exact i_rret rfl rfl
        · replace h := (if_neg c6).symm.trans h
          refine i_rbF (c := l1 = (33 : Int32)) (t := 77) (n := 96) rfl c6 ?_
          refine i_rs 1 (cf' := (97, [some (.ref 9), some (.int l1), none, none], [.ref 9], i_S X M)) rfl ?_
          obtain ⟨q11, hq11, h⟩ := i_bdE h
          refine i_rcall (k := 70) (as := [.ref 9]) (cf1 := (100, [some (.ref 9), some (.int l1), none, none], [], i_S X M)) (cf' := (100, [some (.ref 9), some (.int l1), none, none], [.int q11.1], i_S X q11.2)) rfl (ok_b_Law_pop (by omega) hq11) rfl ?_
          refine i_rs 2 (cf' := (102, [some (.ref 9), some (.int l1), some (.int q11.1), none], [.ref 9], i_S X q11.2)) rfl ?_
          obtain ⟨q12, hq12, h⟩ := i_bdE h
          refine i_rcall (k := 70) (as := [.ref 9]) (cf1 := (105, [some (.ref 9), some (.int l1), some (.int q11.1), none], [], i_S X q11.2)) (cf' := (105, [some (.ref 9), some (.int l1), some (.int q11.1), none], [.int q12.1], i_S X q12.2)) rfl (ok_b_Law_pop (by omega) hq12) rfl ?_
          refine i_rs 5 (cf' := (110, [some (.ref 9), some (.int l1), some (.int q11.1), some (.int q12.1)], [.int q11.1, .int l1, .int q12.1, .ref 9], i_S X q12.2)) rfl ?_
          obtain ⟨q13, hq13, h⟩ := i_bdE h
          refine i_rcall (k := 73) (as := [.int q12.1, .int l1, .int q11.1]) (cf1 := (113, [some (.ref 9), some (.int l1), some (.int q11.1), some (.int q12.1)], [.ref 9], i_S X q12.2)) (cf' := (113, [some (.ref 9), some (.int l1), some (.int q11.1), some (.int q12.1)], [.int q13.1, .ref 9], i_S X q13.2)) rfl (ok_b_Law_joined (by omega) hq13) rfl ?_
          obtain ⟨q14, hq14, h⟩ := i_bdE h
          refine i_rcall (k := 72) (as := [.ref 9, .int q13.1]) (cf1 := (116, [some (.ref 9), some (.int l1), some (.int q11.1), some (.int q12.1)], [], i_S X q13.2)) (cf' := (116, [some (.ref 9), some (.int l1), some (.int q11.1), some (.int q12.1)], [], i_S X q14)) rfl (ok_b_Law_push (by omega) hq14) rfl ?_
          obtain rfl := Option.some.inj h
          exact i_rret rfl rfl
    · replace h := (if_neg c2).symm.trans h
      refine i_rbF (c := l1 < (400 : Int32)) (t := 52) (n := 20) rfl c2 ?_
      refine i_rs 9 (cf' := (33, [some (.ref 9), some (.int l1), some (.int (l1 - (400 : Int32))), none], [.int (7 : Int32), .int (l1 - (400 : Int32)), .ref 9], i_S X M)) rfl ?_
      by_cases c15 : (l1 - (400 : Int32)) < (7 : Int32)
      · replace h := (if_pos c15).symm.trans h
        refine i_rbT (c := (l1 - (400 : Int32)) < (7 : Int32)) (t := 36) (n := 45) rfl c15 ?_
        refine i_rs 3 (cf' := (41, [some (.ref 9), some (.int l1), some (.int (l1 - (400 : Int32))), none], [.int (l1 - (400 : Int32)), .ref 11, .ref 9], i_S X M)) rfl ?_
        obtain ⟨g16, h⟩ := i_gE h
        refine i_riald (n := 7) (cf' := (42, [some (.ref 9), some (.int l1), some (.int (l1 - (400 : Int32))), none], [.int (M.1 11 (Int32.toNatClampNeg (l1 - (400 : Int32)))), .ref 9], i_S X M)) rfl rfl (by decide) g16 rfl ?_
        refine i_rs 1 (cf' := (46, [some (.ref 9), some (.int l1), some (.int (l1 - (400 : Int32))), none], [.int (M.1 11 (Int32.toNatClampNeg (l1 - (400 : Int32)))), .ref 9], i_S X M)) rfl ?_
        obtain ⟨q17, hq17, h⟩ := i_bdE h
        refine i_rcall (k := 72) (as := [.ref 9, .int (M.1 11 (Int32.toNatClampNeg (l1 - (400 : Int32))))]) (cf1 := (49, [some (.ref 9), some (.int l1), some (.int (l1 - (400 : Int32))), none], [], i_S X M)) (cf' := (49, [some (.ref 9), some (.int l1), some (.int (l1 - (400 : Int32))), none], [], i_S X q17)) rfl (ok_b_Law_push (by omega) hq17) rfl ?_
        refine i_rs 1 (cf' := (116, [some (.ref 9), some (.int l1), some (.int (l1 - (400 : Int32))), none], [], i_S X q17)) rfl ?_
        obtain rfl := Option.some.inj h
        exact i_rret rfl rfl
      · replace h := (if_neg c15).symm.trans h
        refine i_rbF (c := (l1 - (400 : Int32)) < (7 : Int32)) (t := 36) (n := 45) rfl c15 ?_
        refine i_rs 1 (cf' := (46, [some (.ref 9), some (.int l1), some (.int (l1 - (400 : Int32))), none], [.int (0 : Int32), .ref 9], i_S X M)) rfl ?_
        obtain ⟨q18, hq18, h⟩ := i_bdE h
        refine i_rcall (k := 72) (as := [.ref 9, .int (0 : Int32)]) (cf1 := (49, [some (.ref 9), some (.int l1), some (.int (l1 - (400 : Int32))), none], [], i_S X M)) (cf' := (49, [some (.ref 9), some (.int l1), some (.int (l1 - (400 : Int32))), none], [], i_S X q18)) rfl (ok_b_Law_push (by omega) hq18) rfl ?_
        refine i_rs 1 (cf' := (116, [some (.ref 9), some (.int l1), some (.int (l1 - (400 : Int32))), none], [], i_S X q18)) rfl ?_
        obtain rfl := Option.some.inj h
        exact i_rret rfl rfl
  · replace h := (if_neg c1).symm.trans h
    refine i_rbF (c := (0 : Int32) < l1) (t := 13) (n := 4) rfl c1 ?_
    refine i_rs 3 (cf' := (7, [some (.ref 9), some (.int l1), none, none], [.int (-l1), .ref 9], i_S X M)) rfl ?_
    obtain ⟨q19, hq19, h⟩ := i_bdE h
    refine i_rcall (k := 72) (as := [.ref 9, .int (-l1)]) (cf1 := (10, [some (.ref 9), some (.int l1), none, none], [], i_S X M)) (cf' := (10, [some (.ref 9), some (.int l1), none, none], [], i_S X q19)) rfl (ok_b_Law_push (by omega) hq19) rfl ?_
    refine i_rs 1 (cf' := (116, [some (.ref 9), some (.int l1), none, none], [], i_S X q19)) rfl ?_
    obtain rfl := Option.some.inj h
    exact i_rret rfl rfl
def b_Law_byText_L75 (k123 : I_M → Option (Int32 × I_M)) : Nat → Int32 → Int32 → I_M → Option (Int32 × I_M)
  | 0, _, _, _ => none
  | n + 1, l6, l7, M =>
    (if l7 < (M.1 9 3) then
        i_g l7 128 ((if l6 = (0 : Int32) then
          (if (-(M.1 10 (Int32.toNatClampNeg l7))) = (59 : Int32) then
            k123  M
          else
            (if (-(M.1 10 (Int32.toNatClampNeg l7))) = (63 : Int32) then
              Option.bind (b_Law_pop M) (fun q6 => (if q6.1 = (0 : Int32) then
                (b_Law_byText_L75 k123 n) (1 : Int32) (l7 + (1 : Int32)) q6.2
              else
                (b_Law_byText_L75 k123 n) (0 : Int32) (l7 + (1 : Int32)) q6.2))
            else
              Option.bind (b_Law_take (-(M.1 10 (Int32.toNatClampNeg l7))) M) (fun q8 => (b_Law_byText_L75 k123 n) l6 (l7 + (1 : Int32)) q8)))
        else
          (if (-(M.1 10 (Int32.toNatClampNeg l7))) = (59 : Int32) then
            (b_Law_byText_L75 k123 n) (0 : Int32) (l7 + (1 : Int32)) M
          else
            (b_Law_byText_L75 k123 n) (1 : Int32) (l7 + (1 : Int32)) M)))
      else
        some ((0 : Int32), M))
theorem ok_b_Law_byText_L75 {X : Nat × (Nat → Int32)} {d : Nat} {k123 : I_M → Option (Int32 × I_M)} (hd : 3 ≤ d + 1) (hk123 : ∀ (M : I_M) (r : (Int32 × I_M)), k123 M = some r → I_RnE (I_Ex d) i_c69 (123, [some (.ref 9), none, none, none, none, none, none, none, none], [], i_S X M) (some (.int r.1)) (i_S X r.2)) : ∀ (n : Nat) (l6 : Int32) (l7 : Int32) (M : I_M) (r : (Int32 × I_M)), b_Law_byText_L75 k123 n l6 l7 M = some r → I_RnE (I_Ex d) i_c69 (75, [some (.ref 9), none, none, none, none, none, some (.int l6), some (.int l7), none], [], i_S X M) (some (.int r.1)) (i_S X r.2) := by
  intro n
  induction n with
  | zero => intro _ _ M r h; cases h
  | succ n hself =>
    intro l6 l7 M r h
    rw [b_Law_byText_L75] at h
    refine i_rs 3 (cf' := (81, [some (.ref 9), none, none, none, none, none, some (.int l6), some (.int l7), none], [.int (M.1 9 3), .int l7], i_S X M)) rfl ?_
    by_cases c1 : l7 < (M.1 9 3)
    · replace h := (if_pos c1).symm.trans h
      refine i_rbT (c := l7 < (M.1 9 3)) (t := 84) (n := 164) rfl c1 ?_
      refine i_rs 3 (cf' := (90, [some (.ref 9), none, none, none, none, none, some (.int l6), some (.int l7), none], [.int l7, .ref 10], i_S X M)) rfl ?_
      obtain ⟨g2, h⟩ := i_gE h
      refine i_riald (n := 128) (cf' := (91, [some (.ref 9), none, none, none, none, none, some (.int l6), some (.int l7), none], [.int (M.1 10 (Int32.toNatClampNeg l7))], i_S X M)) rfl rfl (by decide) g2 rfl ?_
      refine i_rs 3 (cf' := (96, [some (.ref 9), none, none, none, none, none, some (.int l6), some (.int l7), some (.int (-(M.1 10 (Int32.toNatClampNeg l7))))], [.int l6], i_S X M)) rfl ?_
      by_cases c3 : l6 = (0 : Int32)
      · replace h := (if_pos c3).symm.trans h
        refine i_rbT (c := l6 = (0 : Int32)) (t := 116) (n := 99) rfl c3 ?_
        refine i_rs 2 (cf' := (120, [some (.ref 9), none, none, none, none, none, some (.int l6), some (.int l7), some (.int (-(M.1 10 (Int32.toNatClampNeg l7))))], [.int (59 : Int32), .int (-(M.1 10 (Int32.toNatClampNeg l7)))], i_S X M)) rfl ?_
        by_cases c4 : (-(M.1 10 (Int32.toNatClampNeg l7))) = (59 : Int32)
        · replace h := (if_pos c4).symm.trans h
          refine i_rbT (c := (-(M.1 10 (Int32.toNatClampNeg l7))) = (59 : Int32)) (t := 123) (n := 128) rfl c4 ?_
          refine i_fg (lv' := [some (.ref 9), none, none, none, none, none, none, none, none]) (And.intro rfl True.intro) ?_
          exact hk123  M _ h
        · replace h := (if_neg c4).symm.trans h
          refine i_rbF (c := (-(M.1 10 (Int32.toNatClampNeg l7))) = (59 : Int32)) (t := 123) (n := 128) rfl c4 ?_
          refine i_rs 2 (cf' := (132, [some (.ref 9), none, none, none, none, none, some (.int l6), some (.int l7), some (.int (-(M.1 10 (Int32.toNatClampNeg l7))))], [.int (63 : Int32), .int (-(M.1 10 (Int32.toNatClampNeg l7)))], i_S X M)) rfl ?_
          by_cases c5 : (-(M.1 10 (Int32.toNatClampNeg l7))) = (63 : Int32)
          · replace h := (if_pos c5).symm.trans h
            refine i_rbT (c := (-(M.1 10 (Int32.toNatClampNeg l7))) = (63 : Int32)) (t := 135) (n := 152) rfl c5 ?_
            refine i_rs 1 (cf' := (136, [some (.ref 9), none, none, none, none, none, some (.int l6), some (.int l7), some (.int (-(M.1 10 (Int32.toNatClampNeg l7))))], [.ref 9], i_S X M)) rfl ?_
            obtain ⟨q6, hq6, h⟩ := i_bdE h
            refine i_rcall (k := 70) (as := [.ref 9]) (cf1 := (139, [some (.ref 9), none, none, none, none, none, some (.int l6), some (.int l7), some (.int (-(M.1 10 (Int32.toNatClampNeg l7))))], [], i_S X M)) (cf' := (139, [some (.ref 9), none, none, none, none, none, some (.int l6), some (.int l7), some (.int (-(M.1 10 (Int32.toNatClampNeg l7))))], [.int q6.1], i_S X q6.2)) rfl (ok_b_Law_pop (by omega) hq6) rfl ?_
            by_cases c7 : q6.1 = (0 : Int32)
            · replace h := (if_pos c7).symm.trans h
              refine i_rbT (c := q6.1 = (0 : Int32)) (t := 142) (n := 146) rfl c7 ?_
              refine i_rs 6 (cf' := (75, [some (.ref 9), none, none, none, none, none, some (.int (1 : Int32)), some (.int (l7 + (1 : Int32))), some (.int (-(M.1 10 (Int32.toNatClampNeg l7))))], [], i_S X q6.2)) rfl ?_
              refine i_fg (lv' := [some (.ref 9), none, none, none, none, none, some (.int (1 : Int32)), some (.int (l7 + (1 : Int32))), none]) (And.intro rfl (And.intro rfl (And.intro rfl True.intro))) ?_
              exact hself (1 : Int32) (l7 + (1 : Int32)) q6.2 _ h
            · replace h := (if_neg c7).symm.trans h
              refine i_rbF (c := q6.1 = (0 : Int32)) (t := 142) (n := 146) rfl c7 ?_
              refine i_rs 5 (cf' := (75, [some (.ref 9), none, none, none, none, none, some (.int (0 : Int32)), some (.int (l7 + (1 : Int32))), some (.int (-(M.1 10 (Int32.toNatClampNeg l7))))], [], i_S X q6.2)) rfl ?_
              refine i_fg (lv' := [some (.ref 9), none, none, none, none, none, some (.int (0 : Int32)), some (.int (l7 + (1 : Int32))), none]) (And.intro rfl (And.intro rfl (And.intro rfl True.intro))) ?_
              exact hself (0 : Int32) (l7 + (1 : Int32)) q6.2 _ h
          · replace h := (if_neg c5).symm.trans h
            refine i_rbF (c := (-(M.1 10 (Int32.toNatClampNeg l7))) = (63 : Int32)) (t := 135) (n := 152) rfl c5 ?_
            refine i_rs 2 (cf' := (155, [some (.ref 9), none, none, none, none, none, some (.int l6), some (.int l7), some (.int (-(M.1 10 (Int32.toNatClampNeg l7))))], [.int (-(M.1 10 (Int32.toNatClampNeg l7))), .ref 9], i_S X M)) rfl ?_
            obtain ⟨q8, hq8, h⟩ := i_bdE h
            refine i_rcall (k := 71) (as := [.ref 9, .int (-(M.1 10 (Int32.toNatClampNeg l7)))]) (cf1 := (158, [some (.ref 9), none, none, none, none, none, some (.int l6), some (.int l7), some (.int (-(M.1 10 (Int32.toNatClampNeg l7))))], [], i_S X M)) (cf' := (158, [some (.ref 9), none, none, none, none, none, some (.int l6), some (.int l7), some (.int (-(M.1 10 (Int32.toNatClampNeg l7))))], [], i_S X q8)) rfl (ok_b_Law_take (by omega) hq8) rfl ?_
            refine i_rs 2 (cf' := (75, [some (.ref 9), none, none, none, none, none, some (.int l6), some (.int (l7 + (1 : Int32))), some (.int (-(M.1 10 (Int32.toNatClampNeg l7))))], [], i_S X q8)) rfl ?_
            refine i_fg (lv' := [some (.ref 9), none, none, none, none, none, some (.int l6), some (.int (l7 + (1 : Int32))), none]) (And.intro rfl (And.intro rfl (And.intro rfl True.intro))) ?_
            exact hself l6 (l7 + (1 : Int32)) q8 _ h
      · replace h := (if_neg c3).symm.trans h
        refine i_rbF (c := l6 = (0 : Int32)) (t := 116) (n := 99) rfl c3 ?_
        refine i_rs 2 (cf' := (103, [some (.ref 9), none, none, none, none, none, some (.int l6), some (.int l7), some (.int (-(M.1 10 (Int32.toNatClampNeg l7))))], [.int (59 : Int32), .int (-(M.1 10 (Int32.toNatClampNeg l7)))], i_S X M)) rfl ?_
        by_cases c9 : (-(M.1 10 (Int32.toNatClampNeg l7))) = (59 : Int32)
        · replace h := (if_pos c9).symm.trans h
          refine i_rbT (c := (-(M.1 10 (Int32.toNatClampNeg l7))) = (59 : Int32)) (t := 110) (n := 106) rfl c9 ?_
          refine i_rs 5 (cf' := (75, [some (.ref 9), none, none, none, none, none, some (.int (0 : Int32)), some (.int (l7 + (1 : Int32))), some (.int (-(M.1 10 (Int32.toNatClampNeg l7))))], [], i_S X M)) rfl ?_
          refine i_fg (lv' := [some (.ref 9), none, none, none, none, none, some (.int (0 : Int32)), some (.int (l7 + (1 : Int32))), none]) (And.intro rfl (And.intro rfl (And.intro rfl True.intro))) ?_
          exact hself (0 : Int32) (l7 + (1 : Int32)) M _ h
        · replace h := (if_neg c9).symm.trans h
          refine i_rbF (c := (-(M.1 10 (Int32.toNatClampNeg l7))) = (59 : Int32)) (t := 110) (n := 106) rfl c9 ?_
          refine i_rs 6 (cf' := (75, [some (.ref 9), none, none, none, none, none, some (.int (1 : Int32)), some (.int (l7 + (1 : Int32))), some (.int (-(M.1 10 (Int32.toNatClampNeg l7))))], [], i_S X M)) rfl ?_
          refine i_fg (lv' := [some (.ref 9), none, none, none, none, none, some (.int (1 : Int32)), some (.int (l7 + (1 : Int32))), none]) (And.intro rfl (And.intro rfl (And.intro rfl True.intro))) ?_
          exact hself (1 : Int32) (l7 + (1 : Int32)) M _ h
    · replace h := (if_neg c1).symm.trans h
      refine i_rbF (c := l7 < (M.1 9 3)) (t := 84) (n := 164) rfl c1 ?_
      refine i_rs 1 (cf' := (165, [some (.ref 9), none, none, none, none, none, some (.int l6), some (.int l7), none], [.int (0 : Int32)], i_S X M)) rfl ?_
      obtain rfl := Option.some.inj h
      exact i_rret rfl rfl
def b_Law_byText (l1 : Int32) (l2 : Int32) (l3 : Int32) (l4 : Int32) (l5 : Int32) (M : I_M) : Option (Int32 × I_M) :=
  b_Law_byText_L75 (fun M10 =>
        Option.bind (b_Law_pop M10) (fun q11 => some (q11.1, q11.2))) i_F (0 : Int32) (0 : Int32) (i_wI (i_wI (i_wI (i_wI (i_wI (i_wI (i_wI (i_wI M 11 0 l1) 11 1 l2) 11 2 l3) 11 3 l4) 11 4 l5) 11 5 (M.1 1 6)) 11 6 (M.1 1 7)) 9 6 (0 : Int32))
theorem ok_b_Law_byText {X : Nat × (Nat → Int32)} {d : Nat} {l1 : Int32} {l2 : Int32} {l3 : Int32} {l4 : Int32} {l5 : Int32} {M : I_M} {r : (Int32 × I_M)} (hd : 3 ≤ d) (h : b_Law_byText l1 l2 l3 l4 l5 M = some r) : I_Ex d 69 [.ref 9, .int l1, .int l2, .int l3, .int l4, .int l5] (i_S X M) (some (.int r.1)) (i_S X r.2) := by
  obtain ⟨d, rfl⟩ : ∃ d1, d = d1 + 1 := ⟨d - 1, by omega⟩
  unfold b_Law_byText at h
  refine i_ex (e := i_r69) (lv := [some (.ref 9), some (.int l1), some (.int l2), some (.int l3), some (.int l4), some (.int l5), none, none, none]) rfl (Nat.le_of_ble_eq_true rfl) rfl ?_
  show I_RnE (I_Ex d) i_c69 (0, [some (.ref 9), some (.int l1), some (.int l2), some (.int l3), some (.int l4), some (.int l5), none, none, none], [], i_S X M) _ _
  refine i_rs 4 (cf' := (6, [some (.ref 9), some (.int l1), some (.int l2), some (.int l3), some (.int l4), some (.int l5), none, none, none], [.int l1, .int (0 : Int32), .ref 11], i_S X M)) rfl ?_
  refine i_riast (n := 7) (cf' := (7, [some (.ref 9), some (.int l1), some (.int l2), some (.int l3), some (.int l4), some (.int l5), none, none, none], [], i_S X (i_wI M 11 0 l1))) rfl rfl (Or.inl rfl) (by decide) rfl ?_
  refine i_rs 4 (cf' := (13, [some (.ref 9), some (.int l1), some (.int l2), some (.int l3), some (.int l4), some (.int l5), none, none, none], [.int l2, .int (1 : Int32), .ref 11], i_S X (i_wI M 11 0 l1))) rfl ?_
  refine i_riast (n := 7) (cf' := (14, [some (.ref 9), some (.int l1), some (.int l2), some (.int l3), some (.int l4), some (.int l5), none, none, none], [], i_S X (i_wI (i_wI M 11 0 l1) 11 1 l2))) rfl rfl (Or.inl rfl) (by decide) rfl ?_
  refine i_rs 4 (cf' := (20, [some (.ref 9), some (.int l1), some (.int l2), some (.int l3), some (.int l4), some (.int l5), none, none, none], [.int l3, .int (2 : Int32), .ref 11], i_S X (i_wI (i_wI M 11 0 l1) 11 1 l2))) rfl ?_
  refine i_riast (n := 7) (cf' := (21, [some (.ref 9), some (.int l1), some (.int l2), some (.int l3), some (.int l4), some (.int l5), none, none, none], [], i_S X (i_wI (i_wI (i_wI M 11 0 l1) 11 1 l2) 11 2 l3))) rfl rfl (Or.inl rfl) (by decide) rfl ?_
  refine i_rs 4 (cf' := (28, [some (.ref 9), some (.int l1), some (.int l2), some (.int l3), some (.int l4), some (.int l5), none, none, none], [.int l4, .int (3 : Int32), .ref 11], i_S X (i_wI (i_wI (i_wI M 11 0 l1) 11 1 l2) 11 2 l3))) rfl ?_
  refine i_riast (n := 7) (cf' := (29, [some (.ref 9), some (.int l1), some (.int l2), some (.int l3), some (.int l4), some (.int l5), none, none, none], [], i_S X (i_wI (i_wI (i_wI (i_wI M 11 0 l1) 11 1 l2) 11 2 l3) 11 3 l4))) rfl rfl (Or.inl rfl) (by decide) rfl ?_
  refine i_rs 4 (cf' := (36, [some (.ref 9), some (.int l1), some (.int l2), some (.int l3), some (.int l4), some (.int l5), none, none, none], [.int l5, .int (4 : Int32), .ref 11], i_S X (i_wI (i_wI (i_wI (i_wI M 11 0 l1) 11 1 l2) 11 2 l3) 11 3 l4))) rfl ?_
  refine i_riast (n := 7) (cf' := (37, [some (.ref 9), some (.int l1), some (.int l2), some (.int l3), some (.int l4), some (.int l5), none, none, none], [], i_S X (i_wI (i_wI (i_wI (i_wI (i_wI M 11 0 l1) 11 1 l2) 11 2 l3) 11 3 l4) 11 4 l5))) rfl rfl (Or.inl rfl) (by decide) rfl ?_
  refine i_rs 6 (cf' := (49, [some (.ref 9), some (.int l1), some (.int l2), some (.int l3), some (.int l4), some (.int l5), none, none, none], [.int (M.1 1 6), .int (5 : Int32), .ref 11], i_S X (i_wI (i_wI (i_wI (i_wI (i_wI M 11 0 l1) 11 1 l2) 11 2 l3) 11 3 l4) 11 4 l5))) rfl ?_
  refine i_riast (n := 7) (cf' := (50, [some (.ref 9), some (.int l1), some (.int l2), some (.int l3), some (.int l4), some (.int l5), none, none, none], [], i_S X (i_wI (i_wI (i_wI (i_wI (i_wI (i_wI M 11 0 l1) 11 1 l2) 11 2 l3) 11 3 l4) 11 4 l5) 11 5 (M.1 1 6)))) rfl rfl (Or.inl rfl) (by decide) rfl ?_
  refine i_rs 6 (cf' := (63, [some (.ref 9), some (.int l1), some (.int l2), some (.int l3), some (.int l4), some (.int l5), none, none, none], [.int (M.1 1 7), .int (6 : Int32), .ref 11], i_S X (i_wI (i_wI (i_wI (i_wI (i_wI (i_wI M 11 0 l1) 11 1 l2) 11 2 l3) 11 3 l4) 11 4 l5) 11 5 (M.1 1 6)))) rfl ?_
  refine i_riast (n := 7) (cf' := (64, [some (.ref 9), some (.int l1), some (.int l2), some (.int l3), some (.int l4), some (.int l5), none, none, none], [], i_S X (i_wI (i_wI (i_wI (i_wI (i_wI (i_wI (i_wI M 11 0 l1) 11 1 l2) 11 2 l3) 11 3 l4) 11 4 l5) 11 5 (M.1 1 6)) 11 6 (M.1 1 7)))) rfl rfl (Or.inl rfl) (by decide) rfl ?_
  refine i_rs 7 (cf' := (75, [some (.ref 9), some (.int l1), some (.int l2), some (.int l3), some (.int l4), some (.int l5), some (.int (0 : Int32)), some (.int (0 : Int32)), none], [], i_S X (i_wI (i_wI (i_wI (i_wI (i_wI (i_wI (i_wI (i_wI M 11 0 l1) 11 1 l2) 11 2 l3) 11 3 l4) 11 4 l5) 11 5 (M.1 1 6)) 11 6 (M.1 1 7)) 9 6 (0 : Int32)))) rfl ?_
  refine i_fg (lv' := [some (.ref 9), none, none, none, none, none, some (.int (0 : Int32)), some (.int (0 : Int32)), none]) (And.intro rfl (And.intro rfl (And.intro rfl True.intro))) ?_
  refine ok_b_Law_byText_L75 (by omega) (fun M10 r h => ?_) i_F (0 : Int32) (0 : Int32) (i_wI (i_wI (i_wI (i_wI (i_wI (i_wI (i_wI (i_wI M 11 0 l1) 11 1 l2) 11 2 l3) 11 3 l4) 11 4 l5) 11 5 (M.1 1 6)) 11 6 (M.1 1 7)) 9 6 (0 : Int32)) _ h
  refine i_rs 1 (cf' := (124, [some (.ref 9), none, none, none, none, none, none, none, none], [.ref 9], i_S X M10)) rfl ?_
  obtain ⟨q11, hq11, h⟩ := i_bdE h
  refine i_rcall (k := 70) (as := [.ref 9]) (cf1 := (127, [some (.ref 9), none, none, none, none, none, none, none, none], [], i_S X M10)) (cf' := (127, [some (.ref 9), none, none, none, none, none, none, none, none], [.int q11.1], i_S X q11.2)) rfl (ok_b_Law_pop (by omega) hq11) rfl ?_
  obtain rfl := Option.some.inj h
  exact i_rret rfl rfl
def b_Law_loudness (l1 : Int32) (l2 : Int32) (l3 : Int32) (l4 : Int32) (l5 : Int32) (M : I_M) : Option (Int32 × I_M) :=
  Option.bind (b_Land_far l4 l5 M) (fun q1 => i_g l4 25 ((if (q1.2.1 9 1) = (0 : Int32) then
      i_let ((((((((40 : Int32) + ((5 : Int32) * (q1.2.1 1 7))) - ((2 : Int32) * l1)) - ((3 : Int32) * q1.1)) - ((6 : Int32) * l2)) - l3) - (q1.2.1 4 (Int32.toNatClampNeg l4))) - (q1.2.1 1 6)) (fun x4 => some ((i_max (0 : Int32) (i_min (99 : Int32) x4)), q1.2))
    else
      Option.bind (b_Law_byText l1 q1.1 l2 l3 (q1.2.1 4 (Int32.toNatClampNeg l4)) q1.2) (fun q5 => some ((i_max (0 : Int32) (i_min (99 : Int32) q5.1)), q5.2)))))
theorem ok_b_Law_loudness {X : Nat × (Nat → Int32)} {d : Nat} {l1 : Int32} {l2 : Int32} {l3 : Int32} {l4 : Int32} {l5 : Int32} {M : I_M} {r : (Int32 × I_M)} (hd : 4 ≤ d) (h : b_Law_loudness l1 l2 l3 l4 l5 M = some r) : I_Ex d 68 [.ref 9, .int l1, .int l2, .int l3, .int l4, .int l5] (i_S X M) (some (.int r.1)) (i_S X r.2) := by
  obtain ⟨d, rfl⟩ : ∃ d1, d = d1 + 1 := ⟨d - 1, by omega⟩
  unfold b_Law_loudness at h
  refine i_ex (e := i_r68) (lv := [some (.ref 9), some (.int l1), some (.int l2), some (.int l3), some (.int l4), some (.int l5), none, none, none]) rfl (Nat.le_of_ble_eq_true rfl) rfl ?_
  show I_RnE (I_Ex d) i_c68 (0, [some (.ref 9), some (.int l1), some (.int l2), some (.int l3), some (.int l4), some (.int l5), none, none, none], [], i_S X M) _ _
  refine i_rs 4 (cf' := (8, [some (.ref 9), some (.int l1), some (.int l2), some (.int l3), some (.int l4), some (.int l5), none, none, none], [.int l5, .int l4, .ref 1], i_S X M)) rfl ?_
  obtain ⟨q1, hq1, h⟩ := i_bdE h
  refine i_rcall (k := 67) (as := [.ref 1, .int l4, .int l5]) (cf1 := (11, [some (.ref 9), some (.int l1), some (.int l2), some (.int l3), some (.int l4), some (.int l5), none, none, none], [], i_S X M)) (cf' := (11, [some (.ref 9), some (.int l1), some (.int l2), some (.int l3), some (.int l4), some (.int l5), none, none, none], [.int q1.1], i_S X q1.2)) rfl (ok_b_Land_far (by omega) hq1) rfl ?_
  refine i_rs 5 (cf' := (22, [some (.ref 9), some (.int l1), some (.int l2), some (.int l3), some (.int l4), some (.int l5), some (.int q1.1), none, none], [.int l4, .ref 4], i_S X q1.2)) rfl ?_
  obtain ⟨g2, h⟩ := i_gE h
  refine i_riald (n := 25) (cf' := (23, [some (.ref 9), some (.int l1), some (.int l2), some (.int l3), some (.int l4), some (.int l5), some (.int q1.1), none, none], [.int (q1.2.1 4 (Int32.toNatClampNeg l4))], i_S X q1.2)) rfl rfl (by decide) g2 rfl ?_
  refine i_rs 3 (cf' := (29, [some (.ref 9), some (.int l1), some (.int l2), some (.int l3), some (.int l4), some (.int l5), some (.int q1.1), some (.int (q1.2.1 4 (Int32.toNatClampNeg l4))), none], [.int (q1.2.1 9 1)], i_S X q1.2)) rfl ?_
  by_cases c3 : (q1.2.1 9 1) = (0 : Int32)
  · replace h := (if_pos c3).symm.trans h
    refine i_rbT (c := (q1.2.1 9 1) = (0 : Int32)) (t := 46) (n := 32) rfl c3 ?_
    refine i_rs 27 (cf' := (85, [some (.ref 9), some (.int l1), some (.int l2), some (.int l3), some (.int l4), some (.int l5), some (.int q1.1), some (.int (q1.2.1 4 (Int32.toNatClampNeg l4))), none], [.int ((((((((40 : Int32) + ((5 : Int32) * (q1.2.1 1 7))) - ((2 : Int32) * l1)) - ((3 : Int32) * q1.1)) - ((6 : Int32) * l2)) - l3) - (q1.2.1 4 (Int32.toNatClampNeg l4))) - (q1.2.1 1 6))], i_S X q1.2)) rfl ?_
    obtain ⟨x4, ex4, h⟩ := i_letE h
    refine i_cfe (cf' := (85, [some (.ref 9), some (.int l1), some (.int l2), some (.int l3), some (.int l4), some (.int l5), some (.int q1.1), some (.int (q1.2.1 4 (Int32.toNatClampNeg l4))), none], [.int x4], i_S X q1.2)) (by rw [ex4]) ?_
    refine i_rs 6 (cf' := (98, [some (.ref 9), some (.int l1), some (.int l2), some (.int l3), some (.int l4), some (.int l5), some (.int q1.1), some (.int (q1.2.1 4 (Int32.toNatClampNeg l4))), some (.int x4)], [.int (i_max (0 : Int32) (i_min (99 : Int32) x4))], i_S X q1.2)) rfl ?_
    obtain rfl := Option.some.inj h
    exact i_rret rfl rfl
  · replace h := (if_neg c3).symm.trans h
    refine i_rbF (c := (q1.2.1 9 1) = (0 : Int32)) (t := 46) (n := 32) rfl c3 ?_
    refine i_rs 6 (cf' := (40, [some (.ref 9), some (.int l1), some (.int l2), some (.int l3), some (.int l4), some (.int l5), some (.int q1.1), some (.int (q1.2.1 4 (Int32.toNatClampNeg l4))), none], [.int (q1.2.1 4 (Int32.toNatClampNeg l4)), .int l3, .int l2, .int q1.1, .int l1, .ref 9], i_S X q1.2)) rfl ?_
    obtain ⟨q5, hq5, h⟩ := i_bdE h
    refine i_rcall (k := 69) (as := [.ref 9, .int l1, .int q1.1, .int l2, .int l3, .int (q1.2.1 4 (Int32.toNatClampNeg l4))]) (cf1 := (43, [some (.ref 9), some (.int l1), some (.int l2), some (.int l3), some (.int l4), some (.int l5), some (.int q1.1), some (.int (q1.2.1 4 (Int32.toNatClampNeg l4))), none], [], i_S X q1.2)) (cf' := (43, [some (.ref 9), some (.int l1), some (.int l2), some (.int l3), some (.int l4), some (.int l5), some (.int q1.1), some (.int (q1.2.1 4 (Int32.toNatClampNeg l4))), none], [.int q5.1], i_S X q5.2)) rfl (ok_b_Law_byText (by omega) hq5) rfl ?_
    refine i_rs 7 (cf' := (98, [some (.ref 9), some (.int l1), some (.int l2), some (.int l3), some (.int l4), some (.int l5), some (.int q1.1), some (.int (q1.2.1 4 (Int32.toNatClampNeg l4))), some (.int q5.1)], [.int (i_max (0 : Int32) (i_min (99 : Int32) q5.1))], i_S X q5.2)) rfl ?_
    obtain rfl := Option.some.inj h
    exact i_rret rfl rfl
